/-! X12_isClass -/
def c_X12_isClass (Q : xO → Prop) (t : Int32 × xI × xJ) : Prop := Q ((some (.int t.1)), 94, (t.2.1, t.2.2, xrf))
def f_X12_isClass_8 (x1 : Int32) (s0 : Int32) (I : xI) (J : xJ) : Option (Int32 × xI × xJ) := some (s0, I, J)
def f_X12_isClass_7 (x1 : Int32) (I : xI) (J : xJ) : Option (Int32 × xI × xJ) := f_X12_isClass_8 x1 0 I J
def f_X12_isClass_6 (x1 : Int32) (I : xI) (J : xJ) : Option (Int32 × xI × xJ) := f_X12_isClass_8 x1 1 I J
def f_X12_isClass_5 (x1 : Int32) (s0 : Int32) (I : xI) (J : xJ) : Option (Int32 × xI × xJ) := if s0 = 0 then f_X12_isClass_7 x1 I J else f_X12_isClass_6 x1 I J
def f_X12_isClass_4 (x1 : Int32) (I : xI) (J : xJ) : Option (Int32 × xI × xJ) := (f_X12_isAlike x1 I J).bind fun o => f_X12_isClass_5 x1 o.1 o.2.1 o.2.2
def f_X12_isClass_3 (x1 : Int32) (I : xI) (J : xJ) : Option (Int32 × xI × xJ) := (f_X12_knows I J).bind fun o => f_X12_isClass_4 x1 o.2.1 o.2.2
def f_X12_isClass_2 (x1 : Int32) (I : xI) (J : xJ) : Option (Int32 × xI × xJ) := some ((-1), I, J)
def f_X12_isClass_1 (x1 : Int32) (s0 : Int32) (I : xI) (J : xJ) : Option (Int32 × xI × xJ) := if s0 = 0 then f_X12_isClass_2 x1 I J else f_X12_isClass_3 x1 I J
def f_X12_isClass_0 (x1 : Int32) (I : xI) (J : xJ) : Option (Int32 × xI × xJ) := (f_X12_isSet x1 1 I J).bind fun o => f_X12_isClass_1 x1 o.1 o.2.1 o.2.2
def f_X12_isClass (x1 : Int32) (I : xI) (J : xJ) : Option (Int32 × xI × xJ) := f_X12_isClass_0 x1 I J
theorem p_X12_isClass_8 {L : Nat} {xs : Nat → Int32} {d : Nat} {Q : xO → Prop} (x1 : Int32) (s0 : Int32) (I : xI) (J : xJ) {t : Int32 × xI × xJ} (h : f_X12_isClass_8 x1 s0 I J = some t) (hC : (c_X12_isClass Q) t) : Rn L xs (d + 7) 239 28 [some (.ref 61), some (.int x1)] [.int s0] 94 (I, J, xrf) Q := by
  unfold f_X12_isClass_8 at h
  cases h
  exact Rn.ret 1 (o := ((some (.int s0)), 94, (I, J, xrf))) (fun f => rfl) hC
theorem p_X12_isClass_7 {L : Nat} {xs : Nat → Int32} {d : Nat} {Q : xO → Prop} (x1 : Int32) (I : xI) (J : xJ) {t : Int32 × xI × xJ} (h : f_X12_isClass_7 x1 I J = some t) (hC : (c_X12_isClass Q) t) : Rn L xs (d + 7) 239 27 [some (.ref 61), some (.int x1)] [] 94 (I, J, xrf) Q := by
  unfold f_X12_isClass_7 at h
  refine Rn.go 1 (j' := 239) (pc' := 28) (ls' := [some (.ref 61), some (.int x1)]) (st' := [.int 0]) (n' := 94) (M' := (I, J, xrf)) (fun f => rfl) ?_
  exact p_X12_isClass_8 x1 0 I J h hC
theorem p_X12_isClass_6 {L : Nat} {xs : Nat → Int32} {d : Nat} {Q : xO → Prop} (x1 : Int32) (I : xI) (J : xJ) {t : Int32 × xI × xJ} (h : f_X12_isClass_6 x1 I J = some t) (hC : (c_X12_isClass Q) t) : Rn L xs (d + 7) 239 23 [some (.ref 61), some (.int x1)] [] 94 (I, J, xrf) Q := by
  unfold f_X12_isClass_6 at h
  refine Rn.go 2 (j' := 239) (pc' := 28) (ls' := [some (.ref 61), some (.int x1)]) (st' := [.int 1]) (n' := 94) (M' := (I, J, xrf)) (fun f => rfl) ?_
  exact p_X12_isClass_8 x1 1 I J h hC
theorem p_X12_isClass_5 {L : Nat} {xs : Nat → Int32} {d : Nat} {Q : xO → Prop} (x1 : Int32) (s0 : Int32) (I : xI) (J : xJ) {t : Int32 × xI × xJ} (h : f_X12_isClass_5 x1 s0 I J = some t) (hC : (c_X12_isClass Q) t) : Rn L xs (d + 7) 239 20 [some (.ref 61), some (.int x1)] [.int s0] 94 (I, J, xrf) Q := by
  unfold f_X12_isClass_5 at h
  refine Rn.fi 1 (c := s0 = 0) (p1 := 27) (l1 := [some (.ref 61), some (.int x1)]) (s1 := []) (n1 := 94) (M1 := (I, J, xrf)) (p2 := 23) (l2 := [some (.ref 61), some (.int x1)]) (s2 := []) (n2 := 94) (M2 := (I, J, xrf)) (fun f => rfl) (fun hc => ?_) (fun hc => ?_)
  · rw [if_pos hc] at h
    exact p_X12_isClass_7 x1 I J h hC
  · rw [if_neg hc] at h
    exact p_X12_isClass_6 x1 I J h hC
theorem p_X12_isClass_4 {L : Nat} {xs : Nat → Int32} {d : Nat} {Q : xO → Prop} (x1 : Int32) (I : xI) (J : xJ) {t : Int32 × xI × xJ} (h : f_X12_isClass_4 x1 I J = some t) (hC : (c_X12_isClass Q) t) : Rn L xs (d + 7) 239 15 [some (.ref 61), some (.int x1)] [] 94 (I, J, xrf) Q := by
  unfold f_X12_isClass_4 at h
  refine Rn.go 2 (j' := 239) (pc' := 17) (ls' := [some (.ref 61), some (.int x1)]) (st' := [.int x1, .ref 61]) (n' := 94) (M' := (I, J, xrf)) (fun f => rfl) ?_
  obtain ⟨o, ho, h⟩ := Option.bind_eq_some_iff.mp h
  refine Rn.call (d1 := d + 6) (j1 := 233) (ls1 := [some (.ref 61), some (.int x1), none, none]) (rest := []) (fun f => rfl) ?_
  refine p_X12_isAlike (d := d + 4) x1 I J (t := o) ho ?_
  exact p_X12_isClass_5 x1 o.1 o.2.1 o.2.2 h hC
theorem p_X12_isClass_3 {L : Nat} {xs : Nat → Int32} {d : Nat} {Q : xO → Prop} (x1 : Int32) (I : xI) (J : xJ) {t : Int32 × xI × xJ} (h : f_X12_isClass_3 x1 I J = some t) (hC : (c_X12_isClass Q) t) : Rn L xs (d + 7) 239 11 [some (.ref 61), some (.int x1)] [] 94 (I, J, xrf) Q := by
  unfold f_X12_isClass_3 at h
  refine Rn.go 1 (j' := 239) (pc' := 12) (ls' := [some (.ref 61), some (.int x1)]) (st' := [.ref 61]) (n' := 94) (M' := (I, J, xrf)) (fun f => rfl) ?_
  obtain ⟨o, ho, h⟩ := Option.bind_eq_some_iff.mp h
  refine Rn.call (d1 := d + 6) (j1 := 223) (ls1 := [some (.ref 61)]) (rest := []) (fun f => rfl) ?_
  refine p_X12_knows (d := d + 0) I J (t := o) ho ?_
  exact p_X12_isClass_4 x1 o.2.1 o.2.2 h hC
theorem p_X12_isClass_2 {L : Nat} {xs : Nat → Int32} {d : Nat} {Q : xO → Prop} (x1 : Int32) (I : xI) (J : xJ) {t : Int32 × xI × xJ} (h : f_X12_isClass_2 x1 I J = some t) (hC : (c_X12_isClass Q) t) : Rn L xs (d + 7) 239 9 [some (.ref 61), some (.int x1)] [] 94 (I, J, xrf) Q := by
  unfold f_X12_isClass_2 at h
  cases h
  exact Rn.ret 2 (o := ((some (.int ((-1)))), 94, (I, J, xrf))) (fun f => rfl) hC
theorem p_X12_isClass_1 {L : Nat} {xs : Nat → Int32} {d : Nat} {Q : xO → Prop} (x1 : Int32) (s0 : Int32) (I : xI) (J : xJ) {t : Int32 × xI × xJ} (h : f_X12_isClass_1 x1 s0 I J = some t) (hC : (c_X12_isClass Q) t) : Rn L xs (d + 7) 239 6 [some (.ref 61), some (.int x1)] [.int s0] 94 (I, J, xrf) Q := by
  unfold f_X12_isClass_1 at h
  refine Rn.fi 1 (c := s0 = 0) (p1 := 9) (l1 := [some (.ref 61), some (.int x1)]) (s1 := []) (n1 := 94) (M1 := (I, J, xrf)) (p2 := 11) (l2 := [some (.ref 61), some (.int x1)]) (s2 := []) (n2 := 94) (M2 := (I, J, xrf)) (fun f => rfl) (fun hc => ?_) (fun hc => ?_)
  · rw [if_pos hc] at h
    exact p_X12_isClass_2 x1 I J h hC
  · rw [if_neg hc] at h
    exact p_X12_isClass_3 x1 I J h hC
theorem p_X12_isClass_0 {L : Nat} {xs : Nat → Int32} {d : Nat} {Q : xO → Prop} (x1 : Int32) (I : xI) (J : xJ) {t : Int32 × xI × xJ} (h : f_X12_isClass_0 x1 I J = some t) (hC : (c_X12_isClass Q) t) : Rn L xs (d + 7) 239 0 [some (.ref 61), some (.int x1)] [] 94 (I, J, xrf) Q := by
  unfold f_X12_isClass_0 at h
  refine Rn.go 3 (j' := 239) (pc' := 3) (ls' := [some (.ref 61), some (.int x1)]) (st' := [.int 1, .int x1, .ref 61]) (n' := 94) (M' := (I, J, xrf)) (fun f => rfl) ?_
  obtain ⟨o, ho, h⟩ := Option.bind_eq_some_iff.mp h
  refine Rn.call (d1 := d + 6) (j1 := 238) (ls1 := [some (.ref 61), some (.int x1), some (.int 1)]) (rest := []) (fun f => rfl) ?_
  refine p_X12_isSet (d := d + 4) x1 1 I J (t := o) ho ?_
  exact p_X12_isClass_1 x1 o.1 o.2.1 o.2.2 h hC
theorem p_X12_isClass {L : Nat} {xs : Nat → Int32} {d : Nat} {Q : xO → Prop} (x1 : Int32) (I : xI) (J : xJ) {t : Int32 × xI × xJ} (h : f_X12_isClass x1 I J = some t) (hC : Q ((some (.int t.1)), 94, (t.2.1, t.2.2, xrf))) : Rn L xs (d + 7) 239 0 [some (.ref 61), some (.int x1)] [] 94 (I, J, xrf) Q := p_X12_isClass_0 x1 I J h hC
/-! X12_leads -/
def c_X12_leads (Q : xO → Prop) (t : Int32 × xI × xJ) : Prop := Q ((some (.int t.1)), 94, (t.2.1, t.2.2, xrf))
def f_X12_leads_7 (x1 : Int32) (x2 : Int32) (s0 : Int32) (I : xI) (J : xJ) : Option (Int32 × xI × xJ) := some (s0, I, J)
def f_X12_leads_6 (x1 : Int32) (x2 : Int32) (I : xI) (J : xJ) : Option (Int32 × xI × xJ) := f_X12_leads_7 x1 x2 ((-1)) I J
def f_X12_leads_5 (x1 : Int32) (x2 : Int32) (s0 : Int32) (I : xI) (J : xJ) : Option (Int32 × xI × xJ) := f_X12_leads_7 x1 x2 s0 I J
def f_X12_leads_4 (x1 : Int32) (x2 : Int32) (I : xI) (J : xJ) : Option (Int32 × xI × xJ) := (f_X12_ledTo x1 x2 I J).bind fun o => f_X12_leads_5 x1 x2 o.1 o.2.1 o.2.2
def f_X12_leads_3 (x1 : Int32) (x2 : Int32) (s0 : Int32) (I : xI) (J : xJ) : Option (Int32 × xI × xJ) := if s0 = 0 then f_X12_leads_6 x1 x2 I J else f_X12_leads_4 x1 x2 I J
def f_X12_leads_2 (x1 : Int32) (x2 : Int32) (I : xI) (J : xJ) : Option (Int32 × xI × xJ) := (f_X12_isInput x2 I J).bind fun o => f_X12_leads_3 x1 x2 o.1 o.2.1 o.2.2
def f_X12_leads_1 (x1 : Int32) (x2 : Int32) (s0 : Int32) (I : xI) (J : xJ) : Option (Int32 × xI × xJ) := if s0 = 0 then f_X12_leads_6 x1 x2 I J else f_X12_leads_2 x1 x2 I J
def f_X12_leads_0 (x1 : Int32) (x2 : Int32) (I : xI) (J : xJ) : Option (Int32 × xI × xJ) := (f_X12_isSet x1 0 I J).bind fun o => f_X12_leads_1 x1 x2 o.1 o.2.1 o.2.2
def f_X12_leads (x1 : Int32) (x2 : Int32) (I : xI) (J : xJ) : Option (Int32 × xI × xJ) := f_X12_leads_0 x1 x2 I J
theorem p_X12_leads_7 {L : Nat} {xs : Nat → Int32} {d : Nat} {Q : xO → Prop} (x1 : Int32) (x2 : Int32) (s0 : Int32) (I : xI) (J : xJ) {t : Int32 × xI × xJ} (h : f_X12_leads_7 x1 x2 s0 I J = some t) (hC : (c_X12_leads Q) t) : Rn L xs (d + 3) 241 27 [some (.ref 61), some (.int x1), some (.int x2)] [.int s0] 94 (I, J, xrf) Q := by
  unfold f_X12_leads_7 at h
  cases h
  exact Rn.ret 1 (o := ((some (.int s0)), 94, (I, J, xrf))) (fun f => rfl) hC
theorem p_X12_leads_6 {L : Nat} {xs : Nat → Int32} {d : Nat} {Q : xO → Prop} (x1 : Int32) (x2 : Int32) (I : xI) (J : xJ) {t : Int32 × xI × xJ} (h : f_X12_leads_6 x1 x2 I J = some t) (hC : (c_X12_leads Q) t) : Rn L xs (d + 3) 241 26 [some (.ref 61), some (.int x1), some (.int x2)] [] 94 (I, J, xrf) Q := by
  unfold f_X12_leads_6 at h
  refine Rn.go 1 (j' := 241) (pc' := 27) (ls' := [some (.ref 61), some (.int x1), some (.int x2)]) (st' := [.int ((-1))]) (n' := 94) (M' := (I, J, xrf)) (fun f => rfl) ?_
  exact p_X12_leads_7 x1 x2 ((-1)) I J h hC
theorem p_X12_leads_5 {L : Nat} {xs : Nat → Int32} {d : Nat} {Q : xO → Prop} (x1 : Int32) (x2 : Int32) (s0 : Int32) (I : xI) (J : xJ) {t : Int32 × xI × xJ} (h : f_X12_leads_5 x1 x2 s0 I J = some t) (hC : (c_X12_leads Q) t) : Rn L xs (d + 3) 241 23 [some (.ref 61), some (.int x1), some (.int x2)] [.int s0] 94 (I, J, xrf) Q := by
  unfold f_X12_leads_5 at h
  refine Rn.go 1 (j' := 241) (pc' := 27) (ls' := [some (.ref 61), some (.int x1), some (.int x2)]) (st' := [.int s0]) (n' := 94) (M' := (I, J, xrf)) (fun f => rfl) ?_
  exact p_X12_leads_7 x1 x2 s0 I J h hC
theorem p_X12_leads_4 {L : Nat} {xs : Nat → Int32} {d : Nat} {Q : xO → Prop} (x1 : Int32) (x2 : Int32) (I : xI) (J : xJ) {t : Int32 × xI × xJ} (h : f_X12_leads_4 x1 x2 I J = some t) (hC : (c_X12_leads Q) t) : Rn L xs (d + 3) 241 17 [some (.ref 61), some (.int x1), some (.int x2)] [] 94 (I, J, xrf) Q := by
  unfold f_X12_leads_4 at h
  refine Rn.go 3 (j' := 241) (pc' := 20) (ls' := [some (.ref 61), some (.int x1), some (.int x2)]) (st' := [.int x2, .int x1, .ref 61]) (n' := 94) (M' := (I, J, xrf)) (fun f => rfl) ?_
  obtain ⟨o, ho, h⟩ := Option.bind_eq_some_iff.mp h
  refine Rn.call (d1 := d + 2) (j1 := 240) (ls1 := [some (.ref 61), some (.int x1), some (.int x2), none, none]) (rest := []) (fun f => rfl) ?_
  refine p_X12_ledTo (d := d + 0) x1 x2 I J (t := o) ho ?_
  exact p_X12_leads_5 x1 x2 o.1 o.2.1 o.2.2 h hC
theorem p_X12_leads_3 {L : Nat} {xs : Nat → Int32} {d : Nat} {Q : xO → Prop} (x1 : Int32) (x2 : Int32) (s0 : Int32) (I : xI) (J : xJ) {t : Int32 × xI × xJ} (h : f_X12_leads_3 x1 x2 s0 I J = some t) (hC : (c_X12_leads Q) t) : Rn L xs (d + 3) 241 14 [some (.ref 61), some (.int x1), some (.int x2)] [.int s0] 94 (I, J, xrf) Q := by
  unfold f_X12_leads_3 at h
  refine Rn.fi 1 (c := s0 = 0) (p1 := 26) (l1 := [some (.ref 61), some (.int x1), some (.int x2)]) (s1 := []) (n1 := 94) (M1 := (I, J, xrf)) (p2 := 17) (l2 := [some (.ref 61), some (.int x1), some (.int x2)]) (s2 := []) (n2 := 94) (M2 := (I, J, xrf)) (fun f => rfl) (fun hc => ?_) (fun hc => ?_)
  · rw [if_pos hc] at h
    exact p_X12_leads_6 x1 x2 I J h hC
  · rw [if_neg hc] at h
    exact p_X12_leads_4 x1 x2 I J h hC
theorem p_X12_leads_2 {L : Nat} {xs : Nat → Int32} {d : Nat} {Q : xO → Prop} (x1 : Int32) (x2 : Int32) (I : xI) (J : xJ) {t : Int32 × xI × xJ} (h : f_X12_leads_2 x1 x2 I J = some t) (hC : (c_X12_leads Q) t) : Rn L xs (d + 3) 241 9 [some (.ref 61), some (.int x1), some (.int x2)] [] 94 (I, J, xrf) Q := by
  unfold f_X12_leads_2 at h
  refine Rn.go 2 (j' := 241) (pc' := 11) (ls' := [some (.ref 61), some (.int x1), some (.int x2)]) (st' := [.int x2, .ref 61]) (n' := 94) (M' := (I, J, xrf)) (fun f => rfl) ?_
  obtain ⟨o, ho, h⟩ := Option.bind_eq_some_iff.mp h
  refine Rn.call (d1 := d + 2) (j1 := 208) (ls1 := [some (.ref 61), some (.int x2)]) (rest := []) (fun f => rfl) ?_
  refine p_X12_isInput (d := d + 0) x2 I J (t := o) ho ?_
  exact p_X12_leads_3 x1 x2 o.1 o.2.1 o.2.2 h hC
theorem p_X12_leads_1 {L : Nat} {xs : Nat → Int32} {d : Nat} {Q : xO → Prop} (x1 : Int32) (x2 : Int32) (s0 : Int32) (I : xI) (J : xJ) {t : Int32 × xI × xJ} (h : f_X12_leads_1 x1 x2 s0 I J = some t) (hC : (c_X12_leads Q) t) : Rn L xs (d + 3) 241 6 [some (.ref 61), some (.int x1), some (.int x2)] [.int s0] 94 (I, J, xrf) Q := by
  unfold f_X12_leads_1 at h
  refine Rn.fi 1 (c := s0 = 0) (p1 := 26) (l1 := [some (.ref 61), some (.int x1), some (.int x2)]) (s1 := []) (n1 := 94) (M1 := (I, J, xrf)) (p2 := 9) (l2 := [some (.ref 61), some (.int x1), some (.int x2)]) (s2 := []) (n2 := 94) (M2 := (I, J, xrf)) (fun f => rfl) (fun hc => ?_) (fun hc => ?_)
  · rw [if_pos hc] at h
    exact p_X12_leads_6 x1 x2 I J h hC
  · rw [if_neg hc] at h
    exact p_X12_leads_2 x1 x2 I J h hC
theorem p_X12_leads_0 {L : Nat} {xs : Nat → Int32} {d : Nat} {Q : xO → Prop} (x1 : Int32) (x2 : Int32) (I : xI) (J : xJ) {t : Int32 × xI × xJ} (h : f_X12_leads_0 x1 x2 I J = some t) (hC : (c_X12_leads Q) t) : Rn L xs (d + 3) 241 0 [some (.ref 61), some (.int x1), some (.int x2)] [] 94 (I, J, xrf) Q := by
  unfold f_X12_leads_0 at h
  refine Rn.go 3 (j' := 241) (pc' := 3) (ls' := [some (.ref 61), some (.int x1), some (.int x2)]) (st' := [.int 0, .int x1, .ref 61]) (n' := 94) (M' := (I, J, xrf)) (fun f => rfl) ?_
  obtain ⟨o, ho, h⟩ := Option.bind_eq_some_iff.mp h
  refine Rn.call (d1 := d + 2) (j1 := 238) (ls1 := [some (.ref 61), some (.int x1), some (.int 0)]) (rest := []) (fun f => rfl) ?_
  refine p_X12_isSet (d := d + 0) x1 0 I J (t := o) ho ?_
  exact p_X12_leads_1 x1 x2 o.1 o.2.1 o.2.2 h hC
theorem p_X12_leads {L : Nat} {xs : Nat → Int32} {d : Nat} {Q : xO → Prop} (x1 : Int32) (x2 : Int32) (I : xI) (J : xJ) {t : Int32 × xI × xJ} (h : f_X12_leads x1 x2 I J = some t) (hC : Q ((some (.int t.1)), 94, (t.2.1, t.2.2, xrf))) : Rn L xs (d + 3) 241 0 [some (.ref 61), some (.int x1), some (.int x2)] [] 94 (I, J, xrf) Q := p_X12_leads_0 x1 x2 I J h hC
/-! X12_ofRow_79 -/
def c_X12_ofRow_79 (Q : xO → Prop) (t : Int32 × xI × xJ) : Prop := Q ((some (.int t.1)), 94, (t.2.1, t.2.2, xrf))
def f_X12_ofRow_79_6 (x1 : Int32) (x2 : Int32) (s0 : Int32) (I : xI) (J : xJ) : Option (Int32 × xI × xJ) := some (s0, I, J)
def f_X12_ofRow_79_5 (x1 : Int32) (x2 : Int32) (I : xI) (J : xJ) : Option (Int32 × xI × xJ) := f_X12_ofRow_79_6 x1 x2 ((-1)) I J
def f_X12_ofRow_79_4 (x1 : Int32) (x2 : Int32) (I : xI) (J : xJ) : Option (Int32 × xI × xJ) := if x2 < 0 ∨ 6 ≤ x2.toNatClampNeg then none else f_X12_ofRow_79_6 x1 x2 ((I 79 x2.toNatClampNeg)) I J
def f_X12_ofRow_79_3 (x1 : Int32) (x2 : Int32) (s0 : Int32) (I : xI) (J : xJ) : Option (Int32 × xI × xJ) := if s0 = 0 then f_X12_ofRow_79_5 x1 x2 I J else f_X12_ofRow_79_4 x1 x2 I J
def f_X12_ofRow_79_2 (x1 : Int32) (x2 : Int32) (I : xI) (J : xJ) : Option (Int32 × xI × xJ) := (f_X12_in x2 0 ((x1 - 1)) I J).bind fun o => f_X12_ofRow_79_3 x1 x2 o.1 o.2.1 o.2.2
def f_X12_ofRow_79_1 (x1 : Int32) (x2 : Int32) (I : xI) (J : xJ) : Option (Int32 × xI × xJ) := f_X12_ofRow_79_6 x1 x2 x1 I J
def f_X12_ofRow_79_0 (x1 : Int32) (x2 : Int32) (I : xI) (J : xJ) : Option (Int32 × xI × xJ) := if x2 = (-1) then f_X12_ofRow_79_1 x1 x2 I J else f_X12_ofRow_79_2 x1 x2 I J
def f_X12_ofRow_79 (x1 : Int32) (x2 : Int32) (I : xI) (J : xJ) : Option (Int32 × xI × xJ) := f_X12_ofRow_79_0 x1 x2 I J
theorem p_X12_ofRow_79_6 {L : Nat} {xs : Nat → Int32} {d : Nat} {Q : xO → Prop} (x1 : Int32) (x2 : Int32) (s0 : Int32) (I : xI) (J : xJ) {t : Int32 × xI × xJ} (h : f_X12_ofRow_79_6 x1 x2 s0 I J = some t) (hC : (c_X12_ofRow_79 Q) t) : Rn L xs (d + 2) 236 27 [some (.ref 79), some (.int x1), some (.int x2)] [.int s0] 94 (I, J, xrf) Q := by
  unfold f_X12_ofRow_79_6 at h
  cases h
  exact Rn.ret 1 (o := ((some (.int s0)), 94, (I, J, xrf))) (fun f => rfl) hC
theorem p_X12_ofRow_79_5 {L : Nat} {xs : Nat → Int32} {d : Nat} {Q : xO → Prop} (x1 : Int32) (x2 : Int32) (I : xI) (J : xJ) {t : Int32 × xI × xJ} (h : f_X12_ofRow_79_5 x1 x2 I J = some t) (hC : (c_X12_ofRow_79 Q) t) : Rn L xs (d + 2) 236 26 [some (.ref 79), some (.int x1), some (.int x2)] [] 94 (I, J, xrf) Q := by
  unfold f_X12_ofRow_79_5 at h
  refine Rn.go 1 (j' := 236) (pc' := 27) (ls' := [some (.ref 79), some (.int x1), some (.int x2)]) (st' := [.int ((-1))]) (n' := 94) (M' := (I, J, xrf)) (fun f => rfl) ?_
  exact p_X12_ofRow_79_6 x1 x2 ((-1)) I J h hC
theorem p_X12_ofRow_79_4 {L : Nat} {xs : Nat → Int32} {d : Nat} {Q : xO → Prop} (x1 : Int32) (x2 : Int32) (I : xI) (J : xJ) {t : Int32 × xI × xJ} (h : f_X12_ofRow_79_4 x1 x2 I J = some t) (hC : (c_X12_ofRow_79 Q) t) : Rn L xs (d + 2) 236 20 [some (.ref 79), some (.int x1), some (.int x2)] [] 94 (I, J, xrf) Q := by
  unfold f_X12_ofRow_79_4 at h
  obtain ⟨hc, h⟩ := xif h
  refine Rn.ok 3 (c := x2 < 0 ∨ 6 ≤ x2.toNatClampNeg) (p1 := 23) (l1 := [some (.ref 79), some (.int x1), some (.int x2)]) (s1 := [.int ((I 79 x2.toNatClampNeg))]) (n1 := 94) (M1 := (I, J, xrf)) (fun f => rfl) hc ?_
  refine Rn.go 1 (j' := 236) (pc' := 27) (ls' := [some (.ref 79), some (.int x1), some (.int x2)]) (st' := [.int ((I 79 x2.toNatClampNeg))]) (n' := 94) (M' := (I, J, xrf)) (fun f => rfl) ?_
  exact p_X12_ofRow_79_6 x1 x2 ((I 79 x2.toNatClampNeg)) I J h hC
theorem p_X12_ofRow_79_3 {L : Nat} {xs : Nat → Int32} {d : Nat} {Q : xO → Prop} (x1 : Int32) (x2 : Int32) (s0 : Int32) (I : xI) (J : xJ) {t : Int32 × xI × xJ} (h : f_X12_ofRow_79_3 x1 x2 s0 I J = some t) (hC : (c_X12_ofRow_79 Q) t) : Rn L xs (d + 2) 236 17 [some (.ref 79), some (.int x1), some (.int x2)] [.int s0] 94 (I, J, xrf) Q := by
  unfold f_X12_ofRow_79_3 at h
  refine Rn.fi 1 (c := s0 = 0) (p1 := 26) (l1 := [some (.ref 79), some (.int x1), some (.int x2)]) (s1 := []) (n1 := 94) (M1 := (I, J, xrf)) (p2 := 20) (l2 := [some (.ref 79), some (.int x1), some (.int x2)]) (s2 := []) (n2 := 94) (M2 := (I, J, xrf)) (fun f => rfl) (fun hc => ?_) (fun hc => ?_)
  · rw [if_pos hc] at h
    exact p_X12_ofRow_79_5 x1 x2 I J h hC
  · rw [if_neg hc] at h
    exact p_X12_ofRow_79_4 x1 x2 I J h hC
theorem p_X12_ofRow_79_2 {L : Nat} {xs : Nat → Int32} {d : Nat} {Q : xO → Prop} (x1 : Int32) (x2 : Int32) (I : xI) (J : xJ) {t : Int32 × xI × xJ} (h : f_X12_ofRow_79_2 x1 x2 I J = some t) (hC : (c_X12_ofRow_79 Q) t) : Rn L xs (d + 2) 236 9 [some (.ref 79), some (.int x1), some (.int x2)] [] 94 (I, J, xrf) Q := by
  unfold f_X12_ofRow_79_2 at h
  refine Rn.go 5 (j' := 236) (pc' := 14) (ls' := [some (.ref 79), some (.int x1), some (.int x2)]) (st' := [.int ((x1 - 1)), .int 0, .int x2]) (n' := 94) (M' := (I, J, xrf)) (fun f => rfl) ?_
  obtain ⟨o, ho, h⟩ := Option.bind_eq_some_iff.mp h
  refine Rn.call (d1 := d + 1) (j1 := 206) (ls1 := [some (.int x2), some (.int 0), some (.int ((x1 - 1)))]) (rest := []) (fun f => rfl) ?_
  refine p_X12_in (d := d + 0) x2 0 ((x1 - 1)) I J (t := o) ho ?_
  exact p_X12_ofRow_79_3 x1 x2 o.1 o.2.1 o.2.2 h hC
theorem p_X12_ofRow_79_1 {L : Nat} {xs : Nat → Int32} {d : Nat} {Q : xO → Prop} (x1 : Int32) (x2 : Int32) (I : xI) (J : xJ) {t : Int32 × xI × xJ} (h : f_X12_ofRow_79_1 x1 x2 I J = some t) (hC : (c_X12_ofRow_79 Q) t) : Rn L xs (d + 2) 236 5 [some (.ref 79), some (.int x1), some (.int x2)] [] 94 (I, J, xrf) Q := by
  unfold f_X12_ofRow_79_1 at h
  refine Rn.go 2 (j' := 236) (pc' := 27) (ls' := [some (.ref 79), some (.int x1), some (.int x2)]) (st' := [.int x1]) (n' := 94) (M' := (I, J, xrf)) (fun f => rfl) ?_
  exact p_X12_ofRow_79_6 x1 x2 x1 I J h hC
theorem p_X12_ofRow_79_0 {L : Nat} {xs : Nat → Int32} {d : Nat} {Q : xO → Prop} (x1 : Int32) (x2 : Int32) (I : xI) (J : xJ) {t : Int32 × xI × xJ} (h : f_X12_ofRow_79_0 x1 x2 I J = some t) (hC : (c_X12_ofRow_79 Q) t) : Rn L xs (d + 2) 236 0 [some (.ref 79), some (.int x1), some (.int x2)] [] 94 (I, J, xrf) Q := by
  unfold f_X12_ofRow_79_0 at h
  refine Rn.fi 3 (c := x2 = (-1)) (p1 := 5) (l1 := [some (.ref 79), some (.int x1), some (.int x2)]) (s1 := []) (n1 := 94) (M1 := (I, J, xrf)) (p2 := 9) (l2 := [some (.ref 79), some (.int x1), some (.int x2)]) (s2 := []) (n2 := 94) (M2 := (I, J, xrf)) (fun f => rfl) (fun hc => ?_) (fun hc => ?_)
  · rw [if_pos hc] at h
    exact p_X12_ofRow_79_1 x1 x2 I J h hC
  · rw [if_neg hc] at h
    exact p_X12_ofRow_79_2 x1 x2 I J h hC
theorem p_X12_ofRow_79 {L : Nat} {xs : Nat → Int32} {d : Nat} {Q : xO → Prop} (x1 : Int32) (x2 : Int32) (I : xI) (J : xJ) {t : Int32 × xI × xJ} (h : f_X12_ofRow_79 x1 x2 I J = some t) (hC : Q ((some (.int t.1)), 94, (t.2.1, t.2.2, xrf))) : Rn L xs (d + 2) 236 0 [some (.ref 79), some (.int x1), some (.int x2)] [] 94 (I, J, xrf) Q := p_X12_ofRow_79_0 x1 x2 I J h hC
/-! X12_fewest -/
def c_X12_fewest (Q : xO → Prop) (t : Int32 × xI × xJ) : Prop := Q ((some (.int t.1)), 94, (t.2.1, t.2.2, xrf))
def f_X12_fewest_2 (x1 : Int32) (s0 : Int32) (I : xI) (J : xJ) : Option (Int32 × xI × xJ) := some (s0, I, J)
def f_X12_fewest_1 (x1 : Int32) (I : xI) (J : xJ) : Option (Int32 × xI × xJ) := (f_X12_ofRow_79 ((I 61 37)) x1 I J).bind fun o => f_X12_fewest_2 x1 o.1 o.2.1 o.2.2
def f_X12_fewest_0 (x1 : Int32) (I : xI) (J : xJ) : Option (Int32 × xI × xJ) := (f_X12_knows I J).bind fun o => f_X12_fewest_1 x1 o.2.1 o.2.2
def f_X12_fewest (x1 : Int32) (I : xI) (J : xJ) : Option (Int32 × xI × xJ) := f_X12_fewest_0 x1 I J
theorem p_X12_fewest_2 {L : Nat} {xs : Nat → Int32} {d : Nat} {Q : xO → Prop} (x1 : Int32) (s0 : Int32) (I : xI) (J : xJ) {t : Int32 × xI × xJ} (h : f_X12_fewest_2 x1 s0 I J = some t) (hC : (c_X12_fewest Q) t) : Rn L xs (d + 7) 248 16 [some (.ref 61), some (.int x1)] [.int s0] 94 (I, J, xrf) Q := by
  unfold f_X12_fewest_2 at h
  cases h
  exact Rn.ret 1 (o := ((some (.int s0)), 94, (I, J, xrf))) (fun f => rfl) hC
theorem p_X12_fewest_1 {L : Nat} {xs : Nat → Int32} {d : Nat} {Q : xO → Prop} (x1 : Int32) (I : xI) (J : xJ) {t : Int32 × xI × xJ} (h : f_X12_fewest_1 x1 I J = some t) (hC : (c_X12_fewest Q) t) : Rn L xs (d + 7) 248 4 [some (.ref 61), some (.int x1)] [] 94 (I, J, xrf) Q := by
  unfold f_X12_fewest_1 at h
  refine Rn.go 5 (j' := 248) (pc' := 13) (ls' := [some (.ref 61), some (.int x1)]) (st' := [.int x1, .int ((I 61 37)), .ref 79]) (n' := 94) (M' := (I, J, xrf)) (fun f => rfl) ?_
  obtain ⟨o, ho, h⟩ := Option.bind_eq_some_iff.mp h
  refine Rn.call (d1 := d + 6) (j1 := 236) (ls1 := [some (.ref 79), some (.int ((I 61 37))), some (.int x1)]) (rest := []) (fun f => rfl) ?_
  refine p_X12_ofRow_79 (d := d + 4) ((I 61 37)) x1 I J (t := o) ho ?_
  exact p_X12_fewest_2 x1 o.1 o.2.1 o.2.2 h hC
theorem p_X12_fewest_0 {L : Nat} {xs : Nat → Int32} {d : Nat} {Q : xO → Prop} (x1 : Int32) (I : xI) (J : xJ) {t : Int32 × xI × xJ} (h : f_X12_fewest_0 x1 I J = some t) (hC : (c_X12_fewest Q) t) : Rn L xs (d + 7) 248 0 [some (.ref 61), some (.int x1)] [] 94 (I, J, xrf) Q := by
  unfold f_X12_fewest_0 at h
  refine Rn.go 1 (j' := 248) (pc' := 1) (ls' := [some (.ref 61), some (.int x1)]) (st' := [.ref 61]) (n' := 94) (M' := (I, J, xrf)) (fun f => rfl) ?_
  obtain ⟨o, ho, h⟩ := Option.bind_eq_some_iff.mp h
  refine Rn.call (d1 := d + 6) (j1 := 223) (ls1 := [some (.ref 61)]) (rest := []) (fun f => rfl) ?_
  refine p_X12_knows (d := d + 0) I J (t := o) ho ?_
  exact p_X12_fewest_1 x1 o.2.1 o.2.2 h hC
theorem p_X12_fewest {L : Nat} {xs : Nat → Int32} {d : Nat} {Q : xO → Prop} (x1 : Int32) (I : xI) (J : xJ) {t : Int32 × xI × xJ} (h : f_X12_fewest x1 I J = some t) (hC : Q ((some (.int t.1)), 94, (t.2.1, t.2.2, xrf))) : Rn L xs (d + 7) 248 0 [some (.ref 61), some (.int x1)] [] 94 (I, J, xrf) Q := p_X12_fewest_0 x1 I J h hC
/-! X12_smallAnswer -/
def c_X12_smallAnswer (Q : xO → Prop) (t : Int32 × xI × xJ) : Prop := Q ((some (.int t.1)), 94, (t.2.1, t.2.2, xrf))
def c_X12_smallAnswer_1 (L : Nat) (xs : Nat → Int32) (d : Nat) (Q : xO → Prop) (t : (Int32 × Int32 × Int32 × xI × xJ) ⊕ (Int32 × xI × xJ)) : Prop := match t with
  | .inl s => Rn L xs (d + 2) 250 2 [some (.ref 61), some (.int s.1), some (.int s.2.1), some (.int s.2.2.1)] [] 94 (s.2.2.2.1, s.2.2.2.2, xrf) Q
  | .inr t => (c_X12_smallAnswer Q) t
def f_X12_smallAnswer_9 (x1 : Int32) (x2 : Int32) (x3 : Int32) (I : xI) (J : xJ) : Option (Int32 × xI × xJ) := some ((-2), I, J)
def f_X12_smallAnswer_8 (x1 : Int32) (x2 : Int32) (x3 : Int32) (I : xI) (J : xJ) : Option ((Int32 × Int32 × Int32 × xI × xJ) ⊕ (Int32 × xI × xJ)) := some (.inl (x1, x2, ((x3 + 1)), I, J))
def f_X12_smallAnswer_7 (x1 : Int32) (x2 : Int32) (x3 : Int32) (s0 : Int32) (I : xI) (J : xJ) : Option (Int32 × xI × xJ) := some (s0, I, J)
def f_X12_smallAnswer_6 (x1 : Int32) (x2 : Int32) (x3 : Int32) (I : xI) (J : xJ) : Option (Int32 × xI × xJ) := (f_X12_answer x3 x2 I J).bind fun o => f_X12_smallAnswer_7 x1 x2 x3 o.1 o.2.1 o.2.2
def f_X12_smallAnswer_5 (x1 : Int32) (x2 : Int32) (x3 : Int32) (s0 : Int32) (I : xI) (J : xJ) : Option ((Int32 × Int32 × Int32 × xI × xJ) ⊕ (Int32 × xI × xJ)) := if s0 < 0 then f_X12_smallAnswer_8 x1 x2 x3 I J else ((f_X12_smallAnswer_6 x1 x2 x3 I J)).map .inr
def f_X12_smallAnswer_4 (x1 : Int32) (x2 : Int32) (x3 : Int32) (I : xI) (J : xJ) : Option ((Int32 × Int32 × Int32 × xI × xJ) ⊕ (Int32 × xI × xJ)) := (f_X12_answer x3 x2 I J).bind fun o => f_X12_smallAnswer_5 x1 x2 x3 o.1 o.2.1 o.2.2
def f_X12_smallAnswer_3 (x1 : Int32) (x2 : Int32) (x3 : Int32) (s0 : Int32) (I : xI) (J : xJ) : Option ((Int32 × Int32 × Int32 × xI × xJ) ⊕ (Int32 × xI × xJ)) := if s0 = 0 then f_X12_smallAnswer_8 x1 x2 x3 I J else f_X12_smallAnswer_4 x1 x2 x3 I J
def f_X12_smallAnswer_2 (x1 : Int32) (x2 : Int32) (x3 : Int32) (I : xI) (J : xJ) : Option ((Int32 × Int32 × Int32 × xI × xJ) ⊕ (Int32 × xI × xJ)) := if x1 < 0 ∨ 6 ≤ x1.toNatClampNeg then none else (f_X12_has ((I 79 x1.toNatClampNeg)) x3 I J).bind fun o => f_X12_smallAnswer_3 x1 x2 x3 o.1 o.2.1 o.2.2
def b_X12_smallAnswer_1 (x1 : Int32) (x2 : Int32) (x3 : Int32) (I : xI) (J : xJ) : Option ((Int32 × Int32 × Int32 × xI × xJ) ⊕ (Int32 × xI × xJ)) := if (I 61 17) ≤ x3 then ((f_X12_smallAnswer_9 x1 x2 x3 I J)).map .inr else f_X12_smallAnswer_2 x1 x2 x3 I J
def f_X12_smallAnswer_1 (x1 : Int32) (x2 : Int32) (x3 : Int32) (I : xI) (J : xJ) : Option (Int32 × xI × xJ) := xloop (fun s : Int32 × Int32 × Int32 × xI × xJ => b_X12_smallAnswer_1 s.1 s.2.1 s.2.2.1 s.2.2.2.1 s.2.2.2.2) 5000 (x1, x2, x3, I, J)
def f_X12_smallAnswer_0 (x1 : Int32) (x2 : Int32) (I : xI) (J : xJ) : Option (Int32 × xI × xJ) := f_X12_smallAnswer_1 x1 x2 0 I J
def f_X12_smallAnswer (x1 : Int32) (x2 : Int32) (I : xI) (J : xJ) : Option (Int32 × xI × xJ) := f_X12_smallAnswer_0 x1 x2 I J
theorem p_X12_smallAnswer_9 {L : Nat} {xs : Nat → Int32} {d : Nat} {Q : xO → Prop} (x1 : Int32) (x2 : Int32) (x3 : Int32) (I : xI) (J : xJ) {t : Int32 × xI × xJ} (h : f_X12_smallAnswer_9 x1 x2 x3 I J = some t) (hC : (c_X12_smallAnswer Q) t) : Rn L xs (d + 2) 250 45 [some (.ref 61), some (.int x1), some (.int x2), some (.int x3)] [] 94 (I, J, xrf) Q := by
  unfold f_X12_smallAnswer_9 at h
  cases h
  exact Rn.ret 2 (o := ((some (.int ((-2)))), 94, (I, J, xrf))) (fun f => rfl) hC
theorem p_X12_smallAnswer_8 {L : Nat} {xs : Nat → Int32} {d : Nat} {Q : xO → Prop} (x1 : Int32) (x2 : Int32) (x3 : Int32) (I : xI) (J : xJ) {t : (Int32 × Int32 × Int32 × xI × xJ) ⊕ (Int32 × xI × xJ)} (h : f_X12_smallAnswer_8 x1 x2 x3 I J = some t) (hC : (c_X12_smallAnswer_1 L xs d Q) t) : Rn L xs (d + 2) 250 39 [some (.ref 61), some (.int x1), some (.int x2), some (.int x3)] [] 94 (I, J, xrf) Q := by
  unfold f_X12_smallAnswer_8 at h
  refine Rn.go 2 (j' := 250) (pc' := 2) (ls' := [some (.ref 61), some (.int x1), some (.int x2), some (.int ((x3 + 1)))]) (st' := []) (n' := 94) (M' := (I, J, xrf)) (fun f => rfl) ?_
  cases h; exact hC
theorem p_X12_smallAnswer_7 {L : Nat} {xs : Nat → Int32} {d : Nat} {Q : xO → Prop} (x1 : Int32) (x2 : Int32) (x3 : Int32) (s0 : Int32) (I : xI) (J : xJ) {t : Int32 × xI × xJ} (h : f_X12_smallAnswer_7 x1 x2 x3 s0 I J = some t) (hC : (c_X12_smallAnswer Q) t) : Rn L xs (d + 2) 250 38 [some (.ref 61), some (.int x1), some (.int x2), some (.int x3)] [.int s0] 94 (I, J, xrf) Q := by
  unfold f_X12_smallAnswer_7 at h
  cases h
  exact Rn.ret 1 (o := ((some (.int s0)), 94, (I, J, xrf))) (fun f => rfl) hC
theorem p_X12_smallAnswer_6 {L : Nat} {xs : Nat → Int32} {d : Nat} {Q : xO → Prop} (x1 : Int32) (x2 : Int32) (x3 : Int32) (I : xI) (J : xJ) {t : Int32 × xI × xJ} (h : f_X12_smallAnswer_6 x1 x2 x3 I J = some t) (hC : (c_X12_smallAnswer Q) t) : Rn L xs (d + 2) 250 32 [some (.ref 61), some (.int x1), some (.int x2), some (.int x3)] [] 94 (I, J, xrf) Q := by
  unfold f_X12_smallAnswer_6 at h
  refine Rn.go 3 (j' := 250) (pc' := 35) (ls' := [some (.ref 61), some (.int x1), some (.int x2), some (.int x3)]) (st' := [.int x2, .int x3, .ref 61]) (n' := 94) (M' := (I, J, xrf)) (fun f => rfl) ?_
  obtain ⟨o, ho, h⟩ := Option.bind_eq_some_iff.mp h
  refine Rn.call (d1 := d + 1) (j1 := 211) (ls1 := [some (.ref 61), some (.int x3), some (.int x2)]) (rest := []) (fun f => rfl) ?_
  refine p_X12_answer (d := d + 0) x3 x2 I J (t := o) ho ?_
  exact p_X12_smallAnswer_7 x1 x2 x3 o.1 o.2.1 o.2.2 h hC
theorem p_X12_smallAnswer_5 {L : Nat} {xs : Nat → Int32} {d : Nat} {Q : xO → Prop} (x1 : Int32) (x2 : Int32) (x3 : Int32) (s0 : Int32) (I : xI) (J : xJ) {t : (Int32 × Int32 × Int32 × xI × xJ) ⊕ (Int32 × xI × xJ)} (h : f_X12_smallAnswer_5 x1 x2 x3 s0 I J = some t) (hC : (c_X12_smallAnswer_1 L xs d Q) t) : Rn L xs (d + 2) 250 29 [some (.ref 61), some (.int x1), some (.int x2), some (.int x3)] [.int s0] 94 (I, J, xrf) Q := by
  unfold f_X12_smallAnswer_5 at h
  refine Rn.fi 1 (c := s0 < 0) (p1 := 39) (l1 := [some (.ref 61), some (.int x1), some (.int x2), some (.int x3)]) (s1 := []) (n1 := 94) (M1 := (I, J, xrf)) (p2 := 32) (l2 := [some (.ref 61), some (.int x1), some (.int x2), some (.int x3)]) (s2 := []) (n2 := 94) (M2 := (I, J, xrf)) (fun f => rfl) (fun hc => ?_) (fun hc => ?_)
  · rw [if_pos hc] at h
    exact p_X12_smallAnswer_8 x1 x2 x3 I J h hC
  · rw [if_neg hc] at h
    obtain ⟨t0, h0, rfl⟩ := Option.map_eq_some_iff.mp h
    exact p_X12_smallAnswer_6 x1 x2 x3 I J h0 hC
theorem p_X12_smallAnswer_4 {L : Nat} {xs : Nat → Int32} {d : Nat} {Q : xO → Prop} (x1 : Int32) (x2 : Int32) (x3 : Int32) (I : xI) (J : xJ) {t : (Int32 × Int32 × Int32 × xI × xJ) ⊕ (Int32 × xI × xJ)} (h : f_X12_smallAnswer_4 x1 x2 x3 I J = some t) (hC : (c_X12_smallAnswer_1 L xs d Q) t) : Rn L xs (d + 2) 250 23 [some (.ref 61), some (.int x1), some (.int x2), some (.int x3)] [] 94 (I, J, xrf) Q := by
  unfold f_X12_smallAnswer_4 at h
  refine Rn.go 3 (j' := 250) (pc' := 26) (ls' := [some (.ref 61), some (.int x1), some (.int x2), some (.int x3)]) (st' := [.int x2, .int x3, .ref 61]) (n' := 94) (M' := (I, J, xrf)) (fun f => rfl) ?_
  obtain ⟨o, ho, h⟩ := Option.bind_eq_some_iff.mp h
  refine Rn.call (d1 := d + 1) (j1 := 211) (ls1 := [some (.ref 61), some (.int x3), some (.int x2)]) (rest := []) (fun f => rfl) ?_
  refine p_X12_answer (d := d + 0) x3 x2 I J (t := o) ho ?_
  exact p_X12_smallAnswer_5 x1 x2 x3 o.1 o.2.1 o.2.2 h hC
theorem p_X12_smallAnswer_3 {L : Nat} {xs : Nat → Int32} {d : Nat} {Q : xO → Prop} (x1 : Int32) (x2 : Int32) (x3 : Int32) (s0 : Int32) (I : xI) (J : xJ) {t : (Int32 × Int32 × Int32 × xI × xJ) ⊕ (Int32 × xI × xJ)} (h : f_X12_smallAnswer_3 x1 x2 x3 s0 I J = some t) (hC : (c_X12_smallAnswer_1 L xs d Q) t) : Rn L xs (d + 2) 250 20 [some (.ref 61), some (.int x1), some (.int x2), some (.int x3)] [.int s0] 94 (I, J, xrf) Q := by
  unfold f_X12_smallAnswer_3 at h
  refine Rn.fi 1 (c := s0 = 0) (p1 := 39) (l1 := [some (.ref 61), some (.int x1), some (.int x2), some (.int x3)]) (s1 := []) (n1 := 94) (M1 := (I, J, xrf)) (p2 := 23) (l2 := [some (.ref 61), some (.int x1), some (.int x2), some (.int x3)]) (s2 := []) (n2 := 94) (M2 := (I, J, xrf)) (fun f => rfl) (fun hc => ?_) (fun hc => ?_)
  · rw [if_pos hc] at h
    exact p_X12_smallAnswer_8 x1 x2 x3 I J h hC
  · rw [if_neg hc] at h
    exact p_X12_smallAnswer_4 x1 x2 x3 I J h hC
theorem p_X12_smallAnswer_2 {L : Nat} {xs : Nat → Int32} {d : Nat} {Q : xO → Prop} (x1 : Int32) (x2 : Int32) (x3 : Int32) (I : xI) (J : xJ) {t : (Int32 × Int32 × Int32 × xI × xJ) ⊕ (Int32 × xI × xJ)} (h : f_X12_smallAnswer_2 x1 x2 x3 I J = some t) (hC : (c_X12_smallAnswer_1 L xs d Q) t) : Rn L xs (d + 2) 250 10 [some (.ref 61), some (.int x1), some (.int x2), some (.int x3)] [] 94 (I, J, xrf) Q := by
  unfold f_X12_smallAnswer_2 at h
  obtain ⟨hc, h⟩ := xif h
  refine Rn.ok 4 (c := x1 < 0 ∨ 6 ≤ x1.toNatClampNeg) (p1 := 16) (l1 := [some (.ref 61), some (.int x1), some (.int x2), some (.int x3)]) (s1 := [.int ((I 79 x1.toNatClampNeg))]) (n1 := 94) (M1 := (I, J, xrf)) (fun f => rfl) hc ?_
  refine Rn.go 1 (j' := 250) (pc' := 17) (ls' := [some (.ref 61), some (.int x1), some (.int x2), some (.int x3)]) (st' := [.int x3, .int ((I 79 x1.toNatClampNeg))]) (n' := 94) (M' := (I, J, xrf)) (fun f => rfl) ?_
  obtain ⟨o, ho, h⟩ := Option.bind_eq_some_iff.mp h
  refine Rn.call (d1 := d + 1) (j1 := 214) (ls1 := [some (.int ((I 79 x1.toNatClampNeg))), some (.int x3)]) (rest := []) (fun f => rfl) ?_
  refine p_X12_has (d := d + 0) ((I 79 x1.toNatClampNeg)) x3 I J (t := o) ho ?_
  exact p_X12_smallAnswer_3 x1 x2 x3 o.1 o.2.1 o.2.2 h hC
theorem q_X12_smallAnswer_1 {L : Nat} {xs : Nat → Int32} {d : Nat} {Q : xO → Prop} (x1 : Int32) (x2 : Int32) (x3 : Int32) (I : xI) (J : xJ) {t : (Int32 × Int32 × Int32 × xI × xJ) ⊕ (Int32 × xI × xJ)} (h : b_X12_smallAnswer_1 x1 x2 x3 I J = some t) (hC : (c_X12_smallAnswer_1 L xs d Q) t) : Rn L xs (d + 2) 250 2 [some (.ref 61), some (.int x1), some (.int x2), some (.int x3)] [] 94 (I, J, xrf) Q := by
  unfold b_X12_smallAnswer_1 at h
  refine Rn.fi 4 (c := (I 61 17) ≤ x3) (p1 := 45) (l1 := [some (.ref 61), some (.int x1), some (.int x2), some (.int x3)]) (s1 := []) (n1 := 94) (M1 := (I, J, xrf)) (p2 := 10) (l2 := [some (.ref 61), some (.int x1), some (.int x2), some (.int x3)]) (s2 := []) (n2 := 94) (M2 := (I, J, xrf)) (fun f => rfl) (fun hc => ?_) (fun hc => ?_)
  · rw [if_pos hc] at h
    obtain ⟨t0, h0, rfl⟩ := Option.map_eq_some_iff.mp h
    exact p_X12_smallAnswer_9 x1 x2 x3 I J h0 hC
  · rw [if_neg hc] at h
    exact p_X12_smallAnswer_2 x1 x2 x3 I J h hC
theorem p_X12_smallAnswer_1 {L : Nat} {xs : Nat → Int32} {d : Nat} {Q : xO → Prop} (x1 : Int32) (x2 : Int32) (x3 : Int32) (I : xI) (J : xJ) {t : Int32 × xI × xJ} (h : f_X12_smallAnswer_1 x1 x2 x3 I J = some t) (hC : (c_X12_smallAnswer Q) t) : Rn L xs (d + 2) 250 2 [some (.ref 61), some (.int x1), some (.int x2), some (.int x3)] [] 94 (I, J, xrf) Q := by
  unfold f_X12_smallAnswer_1 at h
  exact xloop_some (P := fun s : Int32 × Int32 × Int32 × xI × xJ => Rn L xs (d + 2) 250 2 [some (.ref 61), some (.int s.1), some (.int s.2.1), some (.int s.2.2.1)] [] 94 (s.2.2.2.1, s.2.2.2.2, xrf) Q) t (fun s ⟨s', hb, hp⟩ => q_X12_smallAnswer_1 s.1 s.2.1 s.2.2.1 s.2.2.2.1 s.2.2.2.2 hb hp) (fun s hb => q_X12_smallAnswer_1 s.1 s.2.1 s.2.2.1 s.2.2.2.1 s.2.2.2.2 hb hC) _ _ h
theorem p_X12_smallAnswer_0 {L : Nat} {xs : Nat → Int32} {d : Nat} {Q : xO → Prop} (x1 : Int32) (x2 : Int32) (I : xI) (J : xJ) {t : Int32 × xI × xJ} (h : f_X12_smallAnswer_0 x1 x2 I J = some t) (hC : (c_X12_smallAnswer Q) t) : Rn L xs (d + 2) 250 0 [some (.ref 61), some (.int x1), some (.int x2), none] [] 94 (I, J, xrf) Q := by
  unfold f_X12_smallAnswer_0 at h
  refine Rn.go 2 (j' := 250) (pc' := 2) (ls' := [some (.ref 61), some (.int x1), some (.int x2), some (.int 0)]) (st' := []) (n' := 94) (M' := (I, J, xrf)) (fun f => rfl) ?_
  exact p_X12_smallAnswer_1 x1 x2 0 I J h hC
theorem p_X12_smallAnswer {L : Nat} {xs : Nat → Int32} {d : Nat} {Q : xO → Prop} (x1 : Int32) (x2 : Int32) (I : xI) (J : xJ) {t : Int32 × xI × xJ} (h : f_X12_smallAnswer x1 x2 I J = some t) (hC : Q ((some (.int t.1)), 94, (t.2.1, t.2.2, xrf))) : Rn L xs (d + 2) 250 0 [some (.ref 61), some (.int x1), some (.int x2), none] [] 94 (I, J, xrf) Q := p_X12_smallAnswer_0 x1 x2 I J h hC
/-! X12_small -/
def c_X12_small (Q : xO → Prop) (t : Int32 × xI × xJ) : Prop := Q ((some (.int t.1)), 94, (t.2.1, t.2.2, xrf))
def f_X12_small_7 (x1 : Int32) (x2 : Int32) (x3 : Int32) (I : xI) (J : xJ) : Option (Int32 × xI × xJ) := some ((-1), I, J)
def f_X12_small_12 (x1 : Int32) (x2 : Int32) (x3 : Int32) (s0 : Int32) (I : xI) (J : xJ) : Option (Int32 × xI × xJ) := some (s0, I, J)
def f_X12_small_11 (x1 : Int32) (x2 : Int32) (x3 : Int32) (I : xI) (J : xJ) : Option (Int32 × xI × xJ) := (f_X12_smallAnswer x1 x2 I J).bind fun o => f_X12_small_12 x1 x2 x3 o.1 o.2.1 o.2.2
def f_X12_small_10 (x1 : Int32) (x2 : Int32) (x3 : Int32) (s0 : Int32) (I : xI) (J : xJ) : Option (Int32 × xI × xJ) := f_X12_small_12 x1 x2 x3 s0 I J
def f_X12_small_9 (x1 : Int32) (x2 : Int32) (x3 : Int32) (I : xI) (J : xJ) : Option (Int32 × xI × xJ) := (f_X12_smallTo x1 x2 I J).bind fun o => f_X12_small_10 x1 x2 x3 o.1 o.2.1 o.2.2
def f_X12_small_8 (x1 : Int32) (x2 : Int32) (x3 : Int32) (I : xI) (J : xJ) : Option (Int32 × xI × xJ) := if x3 = 0 then f_X12_small_9 x1 x2 x3 I J else f_X12_small_11 x1 x2 x3 I J
def f_X12_small_6 (x1 : Int32) (x2 : Int32) (x3 : Int32) (s0 : Int32) (I : xI) (J : xJ) : Option (Int32 × xI × xJ) := if s0 = 0 then f_X12_small_7 x1 x2 x3 I J else f_X12_small_8 x1 x2 x3 I J
def f_X12_small_5 (x1 : Int32) (x2 : Int32) (x3 : Int32) (I : xI) (J : xJ) : Option (Int32 × xI × xJ) := (f_X12_in x3 0 1 I J).bind fun o => f_X12_small_6 x1 x2 x3 o.1 o.2.1 o.2.2
def f_X12_small_4 (x1 : Int32) (x2 : Int32) (x3 : Int32) (s0 : Int32) (I : xI) (J : xJ) : Option (Int32 × xI × xJ) := if s0 = 0 then f_X12_small_7 x1 x2 x3 I J else f_X12_small_5 x1 x2 x3 I J
def f_X12_small_3 (x1 : Int32) (x2 : Int32) (x3 : Int32) (I : xI) (J : xJ) : Option (Int32 × xI × xJ) := (f_X12_isInput x2 I J).bind fun o => f_X12_small_4 x1 x2 x3 o.1 o.2.1 o.2.2
def f_X12_small_2 (x1 : Int32) (x2 : Int32) (x3 : Int32) (s0 : Int32) (I : xI) (J : xJ) : Option (Int32 × xI × xJ) := if s0 = 0 then f_X12_small_7 x1 x2 x3 I J else f_X12_small_3 x1 x2 x3 I J
def f_X12_small_1 (x1 : Int32) (x2 : Int32) (x3 : Int32) (I : xI) (J : xJ) : Option (Int32 × xI × xJ) := (f_X12_in x1 0 (((I 61 37) - 1)) I J).bind fun o => f_X12_small_2 x1 x2 x3 o.1 o.2.1 o.2.2
def f_X12_small_0 (x1 : Int32) (x2 : Int32) (x3 : Int32) (I : xI) (J : xJ) : Option (Int32 × xI × xJ) := (f_X12_knows I J).bind fun o => f_X12_small_1 x1 x2 x3 o.2.1 o.2.2
def f_X12_small (x1 : Int32) (x2 : Int32) (x3 : Int32) (I : xI) (J : xJ) : Option (Int32 × xI × xJ) := f_X12_small_0 x1 x2 x3 I J
theorem p_X12_small_7 {L : Nat} {xs : Nat → Int32} {d : Nat} {Q : xO → Prop} (x1 : Int32) (x2 : Int32) (x3 : Int32) (I : xI) (J : xJ) {t : Int32 × xI × xJ} (h : f_X12_small_7 x1 x2 x3 I J = some t) (hC : (c_X12_small Q) t) : Rn L xs (d + 7) 251 35 [some (.ref 61), some (.int x1), some (.int x2), some (.int x3)] [] 94 (I, J, xrf) Q := by
  unfold f_X12_small_7 at h
  cases h
  exact Rn.ret 2 (o := ((some (.int ((-1)))), 94, (I, J, xrf))) (fun f => rfl) hC
theorem p_X12_small_12 {L : Nat} {xs : Nat → Int32} {d : Nat} {Q : xO → Prop} (x1 : Int32) (x2 : Int32) (x3 : Int32) (s0 : Int32) (I : xI) (J : xJ) {t : Int32 × xI × xJ} (h : f_X12_small_12 x1 x2 x3 s0 I J = some t) (hC : (c_X12_small Q) t) : Rn L xs (d + 7) 251 56 [some (.ref 61), some (.int x1), some (.int x2), some (.int x3)] [.int s0] 94 (I, J, xrf) Q := by
  unfold f_X12_small_12 at h
  cases h
  exact Rn.ret 1 (o := ((some (.int s0)), 94, (I, J, xrf))) (fun f => rfl) hC
theorem p_X12_small_11 {L : Nat} {xs : Nat → Int32} {d : Nat} {Q : xO → Prop} (x1 : Int32) (x2 : Int32) (x3 : Int32) (I : xI) (J : xJ) {t : Int32 × xI × xJ} (h : f_X12_small_11 x1 x2 x3 I J = some t) (hC : (c_X12_small Q) t) : Rn L xs (d + 7) 251 50 [some (.ref 61), some (.int x1), some (.int x2), some (.int x3)] [] 94 (I, J, xrf) Q := by
  unfold f_X12_small_11 at h
  refine Rn.go 3 (j' := 251) (pc' := 53) (ls' := [some (.ref 61), some (.int x1), some (.int x2), some (.int x3)]) (st' := [.int x2, .int x1, .ref 61]) (n' := 94) (M' := (I, J, xrf)) (fun f => rfl) ?_
  obtain ⟨o, ho, h⟩ := Option.bind_eq_some_iff.mp h
  refine Rn.call (d1 := d + 6) (j1 := 250) (ls1 := [some (.ref 61), some (.int x1), some (.int x2), none]) (rest := []) (fun f => rfl) ?_
  refine p_X12_smallAnswer (d := d + 4) x1 x2 I J (t := o) ho ?_
  exact p_X12_small_12 x1 x2 x3 o.1 o.2.1 o.2.2 h hC
theorem p_X12_small_10 {L : Nat} {xs : Nat → Int32} {d : Nat} {Q : xO → Prop} (x1 : Int32) (x2 : Int32) (x3 : Int32) (s0 : Int32) (I : xI) (J : xJ) {t : Int32 × xI × xJ} (h : f_X12_small_10 x1 x2 x3 s0 I J = some t) (hC : (c_X12_small Q) t) : Rn L xs (d + 7) 251 47 [some (.ref 61), some (.int x1), some (.int x2), some (.int x3)] [.int s0] 94 (I, J, xrf) Q := by
  unfold f_X12_small_10 at h
  refine Rn.go 1 (j' := 251) (pc' := 56) (ls' := [some (.ref 61), some (.int x1), some (.int x2), some (.int x3)]) (st' := [.int s0]) (n' := 94) (M' := (I, J, xrf)) (fun f => rfl) ?_
  exact p_X12_small_12 x1 x2 x3 s0 I J h hC
theorem p_X12_small_9 {L : Nat} {xs : Nat → Int32} {d : Nat} {Q : xO → Prop} (x1 : Int32) (x2 : Int32) (x3 : Int32) (I : xI) (J : xJ) {t : Int32 × xI × xJ} (h : f_X12_small_9 x1 x2 x3 I J = some t) (hC : (c_X12_small Q) t) : Rn L xs (d + 7) 251 41 [some (.ref 61), some (.int x1), some (.int x2), some (.int x3)] [] 94 (I, J, xrf) Q := by
  unfold f_X12_small_9 at h
  refine Rn.go 3 (j' := 251) (pc' := 44) (ls' := [some (.ref 61), some (.int x1), some (.int x2), some (.int x3)]) (st' := [.int x2, .int x1, .ref 61]) (n' := 94) (M' := (I, J, xrf)) (fun f => rfl) ?_
  obtain ⟨o, ho, h⟩ := Option.bind_eq_some_iff.mp h
  refine Rn.call (d1 := d + 6) (j1 := 249) (ls1 := [some (.ref 61), some (.int x1), some (.int x2), none]) (rest := []) (fun f => rfl) ?_
  refine p_X12_smallTo (d := d + 3) x1 x2 I J (t := o) ho ?_
  exact p_X12_small_10 x1 x2 x3 o.1 o.2.1 o.2.2 h hC
theorem p_X12_small_8 {L : Nat} {xs : Nat → Int32} {d : Nat} {Q : xO → Prop} (x1 : Int32) (x2 : Int32) (x3 : Int32) (I : xI) (J : xJ) {t : Int32 × xI × xJ} (h : f_X12_small_8 x1 x2 x3 I J = some t) (hC : (c_X12_small Q) t) : Rn L xs (d + 7) 251 37 [some (.ref 61), some (.int x1), some (.int x2), some (.int x3)] [] 94 (I, J, xrf) Q := by
  unfold f_X12_small_8 at h
  refine Rn.fi 2 (c := x3 = 0) (p1 := 41) (l1 := [some (.ref 61), some (.int x1), some (.int x2), some (.int x3)]) (s1 := []) (n1 := 94) (M1 := (I, J, xrf)) (p2 := 50) (l2 := [some (.ref 61), some (.int x1), some (.int x2), some (.int x3)]) (s2 := []) (n2 := 94) (M2 := (I, J, xrf)) (fun f => rfl) (fun hc => ?_) (fun hc => ?_)
  · rw [if_pos hc] at h
    exact p_X12_small_9 x1 x2 x3 I J h hC
  · rw [if_neg hc] at h
    exact p_X12_small_11 x1 x2 x3 I J h hC
theorem p_X12_small_6 {L : Nat} {xs : Nat → Int32} {d : Nat} {Q : xO → Prop} (x1 : Int32) (x2 : Int32) (x3 : Int32) (s0 : Int32) (I : xI) (J : xJ) {t : Int32 × xI × xJ} (h : f_X12_small_6 x1 x2 x3 s0 I J = some t) (hC : (c_X12_small Q) t) : Rn L xs (d + 7) 251 32 [some (.ref 61), some (.int x1), some (.int x2), some (.int x3)] [.int s0] 94 (I, J, xrf) Q := by
  unfold f_X12_small_6 at h
  refine Rn.fi 1 (c := s0 = 0) (p1 := 35) (l1 := [some (.ref 61), some (.int x1), some (.int x2), some (.int x3)]) (s1 := []) (n1 := 94) (M1 := (I, J, xrf)) (p2 := 37) (l2 := [some (.ref 61), some (.int x1), some (.int x2), some (.int x3)]) (s2 := []) (n2 := 94) (M2 := (I, J, xrf)) (fun f => rfl) (fun hc => ?_) (fun hc => ?_)
  · rw [if_pos hc] at h
    exact p_X12_small_7 x1 x2 x3 I J h hC
  · rw [if_neg hc] at h
    exact p_X12_small_8 x1 x2 x3 I J h hC
theorem p_X12_small_5 {L : Nat} {xs : Nat → Int32} {d : Nat} {Q : xO → Prop} (x1 : Int32) (x2 : Int32) (x3 : Int32) (I : xI) (J : xJ) {t : Int32 × xI × xJ} (h : f_X12_small_5 x1 x2 x3 I J = some t) (hC : (c_X12_small Q) t) : Rn L xs (d + 7) 251 26 [some (.ref 61), some (.int x1), some (.int x2), some (.int x3)] [] 94 (I, J, xrf) Q := by
  unfold f_X12_small_5 at h
  refine Rn.go 3 (j' := 251) (pc' := 29) (ls' := [some (.ref 61), some (.int x1), some (.int x2), some (.int x3)]) (st' := [.int 1, .int 0, .int x3]) (n' := 94) (M' := (I, J, xrf)) (fun f => rfl) ?_
  obtain ⟨o, ho, h⟩ := Option.bind_eq_some_iff.mp h
  refine Rn.call (d1 := d + 6) (j1 := 206) (ls1 := [some (.int x3), some (.int 0), some (.int 1)]) (rest := []) (fun f => rfl) ?_
  refine p_X12_in (d := d + 5) x3 0 1 I J (t := o) ho ?_
  exact p_X12_small_6 x1 x2 x3 o.1 o.2.1 o.2.2 h hC
theorem p_X12_small_4 {L : Nat} {xs : Nat → Int32} {d : Nat} {Q : xO → Prop} (x1 : Int32) (x2 : Int32) (x3 : Int32) (s0 : Int32) (I : xI) (J : xJ) {t : Int32 × xI × xJ} (h : f_X12_small_4 x1 x2 x3 s0 I J = some t) (hC : (c_X12_small Q) t) : Rn L xs (d + 7) 251 23 [some (.ref 61), some (.int x1), some (.int x2), some (.int x3)] [.int s0] 94 (I, J, xrf) Q := by
  unfold f_X12_small_4 at h
  refine Rn.fi 1 (c := s0 = 0) (p1 := 35) (l1 := [some (.ref 61), some (.int x1), some (.int x2), some (.int x3)]) (s1 := []) (n1 := 94) (M1 := (I, J, xrf)) (p2 := 26) (l2 := [some (.ref 61), some (.int x1), some (.int x2), some (.int x3)]) (s2 := []) (n2 := 94) (M2 := (I, J, xrf)) (fun f => rfl) (fun hc => ?_) (fun hc => ?_)
  · rw [if_pos hc] at h
    exact p_X12_small_7 x1 x2 x3 I J h hC
  · rw [if_neg hc] at h
    exact p_X12_small_5 x1 x2 x3 I J h hC
theorem p_X12_small_3 {L : Nat} {xs : Nat → Int32} {d : Nat} {Q : xO → Prop} (x1 : Int32) (x2 : Int32) (x3 : Int32) (I : xI) (J : xJ) {t : Int32 × xI × xJ} (h : f_X12_small_3 x1 x2 x3 I J = some t) (hC : (c_X12_small Q) t) : Rn L xs (d + 7) 251 18 [some (.ref 61), some (.int x1), some (.int x2), some (.int x3)] [] 94 (I, J, xrf) Q := by
  unfold f_X12_small_3 at h
  refine Rn.go 2 (j' := 251) (pc' := 20) (ls' := [some (.ref 61), some (.int x1), some (.int x2), some (.int x3)]) (st' := [.int x2, .ref 61]) (n' := 94) (M' := (I, J, xrf)) (fun f => rfl) ?_
  obtain ⟨o, ho, h⟩ := Option.bind_eq_some_iff.mp h
  refine Rn.call (d1 := d + 6) (j1 := 208) (ls1 := [some (.ref 61), some (.int x2)]) (rest := []) (fun f => rfl) ?_
  refine p_X12_isInput (d := d + 4) x2 I J (t := o) ho ?_
  exact p_X12_small_4 x1 x2 x3 o.1 o.2.1 o.2.2 h hC
theorem p_X12_small_2 {L : Nat} {xs : Nat → Int32} {d : Nat} {Q : xO → Prop} (x1 : Int32) (x2 : Int32) (x3 : Int32) (s0 : Int32) (I : xI) (J : xJ) {t : Int32 × xI × xJ} (h : f_X12_small_2 x1 x2 x3 s0 I J = some t) (hC : (c_X12_small Q) t) : Rn L xs (d + 7) 251 15 [some (.ref 61), some (.int x1), some (.int x2), some (.int x3)] [.int s0] 94 (I, J, xrf) Q := by
  unfold f_X12_small_2 at h
  refine Rn.fi 1 (c := s0 = 0) (p1 := 35) (l1 := [some (.ref 61), some (.int x1), some (.int x2), some (.int x3)]) (s1 := []) (n1 := 94) (M1 := (I, J, xrf)) (p2 := 18) (l2 := [some (.ref 61), some (.int x1), some (.int x2), some (.int x3)]) (s2 := []) (n2 := 94) (M2 := (I, J, xrf)) (fun f => rfl) (fun hc => ?_) (fun hc => ?_)
  · rw [if_pos hc] at h
    exact p_X12_small_7 x1 x2 x3 I J h hC
  · rw [if_neg hc] at h
    exact p_X12_small_3 x1 x2 x3 I J h hC
theorem p_X12_small_1 {L : Nat} {xs : Nat → Int32} {d : Nat} {Q : xO → Prop} (x1 : Int32) (x2 : Int32) (x3 : Int32) (I : xI) (J : xJ) {t : Int32 × xI × xJ} (h : f_X12_small_1 x1 x2 x3 I J = some t) (hC : (c_X12_small Q) t) : Rn L xs (d + 7) 251 4 [some (.ref 61), some (.int x1), some (.int x2), some (.int x3)] [] 94 (I, J, xrf) Q := by
  unfold f_X12_small_1 at h
  refine Rn.go 6 (j' := 251) (pc' := 12) (ls' := [some (.ref 61), some (.int x1), some (.int x2), some (.int x3)]) (st' := [.int (((I 61 37) - 1)), .int 0, .int x1]) (n' := 94) (M' := (I, J, xrf)) (fun f => rfl) ?_
  obtain ⟨o, ho, h⟩ := Option.bind_eq_some_iff.mp h
  refine Rn.call (d1 := d + 6) (j1 := 206) (ls1 := [some (.int x1), some (.int 0), some (.int (((I 61 37) - 1)))]) (rest := []) (fun f => rfl) ?_
  refine p_X12_in (d := d + 5) x1 0 (((I 61 37) - 1)) I J (t := o) ho ?_
  exact p_X12_small_2 x1 x2 x3 o.1 o.2.1 o.2.2 h hC
theorem p_X12_small_0 {L : Nat} {xs : Nat → Int32} {d : Nat} {Q : xO → Prop} (x1 : Int32) (x2 : Int32) (x3 : Int32) (I : xI) (J : xJ) {t : Int32 × xI × xJ} (h : f_X12_small_0 x1 x2 x3 I J = some t) (hC : (c_X12_small Q) t) : Rn L xs (d + 7) 251 0 [some (.ref 61), some (.int x1), some (.int x2), some (.int x3)] [] 94 (I, J, xrf) Q := by
  unfold f_X12_small_0 at h
  refine Rn.go 1 (j' := 251) (pc' := 1) (ls' := [some (.ref 61), some (.int x1), some (.int x2), some (.int x3)]) (st' := [.ref 61]) (n' := 94) (M' := (I, J, xrf)) (fun f => rfl) ?_
  obtain ⟨o, ho, h⟩ := Option.bind_eq_some_iff.mp h
  refine Rn.call (d1 := d + 6) (j1 := 223) (ls1 := [some (.ref 61)]) (rest := []) (fun f => rfl) ?_
  refine p_X12_knows (d := d + 0) I J (t := o) ho ?_
  exact p_X12_small_1 x1 x2 x3 o.2.1 o.2.2 h hC
theorem p_X12_small {L : Nat} {xs : Nat → Int32} {d : Nat} {Q : xO → Prop} (x1 : Int32) (x2 : Int32) (x3 : Int32) (I : xI) (J : xJ) {t : Int32 × xI × xJ} (h : f_X12_small x1 x2 x3 I J = some t) (hC : Q ((some (.int t.1)), 94, (t.2.1, t.2.2, xrf))) : Rn L xs (d + 7) 251 0 [some (.ref 61), some (.int x1), some (.int x2), some (.int x3)] [] 94 (I, J, xrf) Q := p_X12_small_0 x1 x2 x3 I J h hC
/-! X12_home -/
def c_X12_home (Q : xO → Prop) (t : Int32 × xI × xJ) : Prop := Q ((some (.int t.1)), 94, (t.2.1, t.2.2, xrf))
def f_X12_home_5 (x1 : Int32) (s0 : Int32) (I : xI) (J : xJ) : Option (Int32 × xI × xJ) := some (s0, I, J)
def f_X12_home_4 (x1 : Int32) (I : xI) (J : xJ) : Option (Int32 × xI × xJ) := (f_X12_firstWith ((1 <<< (x1 &&& 31))) I J).bind fun o => f_X12_home_5 x1 o.1 o.2.1 o.2.2
def f_X12_home_3 (x1 : Int32) (I : xI) (J : xJ) : Option (Int32 × xI × xJ) := (f_X12_knows I J).bind fun o => f_X12_home_4 x1 o.2.1 o.2.2
def f_X12_home_2 (x1 : Int32) (I : xI) (J : xJ) : Option (Int32 × xI × xJ) := some ((-1), I, J)
def f_X12_home_1 (x1 : Int32) (s0 : Int32) (I : xI) (J : xJ) : Option (Int32 × xI × xJ) := if s0 = 0 then f_X12_home_2 x1 I J else f_X12_home_3 x1 I J
def f_X12_home_0 (x1 : Int32) (I : xI) (J : xJ) : Option (Int32 × xI × xJ) := (f_X12_isState x1 I J).bind fun o => f_X12_home_1 x1 o.1 o.2.1 o.2.2
def f_X12_home (x1 : Int32) (I : xI) (J : xJ) : Option (Int32 × xI × xJ) := f_X12_home_0 x1 I J
theorem p_X12_home_5 {L : Nat} {xs : Nat → Int32} {d : Nat} {Q : xO → Prop} (x1 : Int32) (s0 : Int32) (I : xI) (J : xJ) {t : Int32 × xI × xJ} (h : f_X12_home_5 x1 s0 I J = some t) (hC : (c_X12_home Q) t) : Rn L xs (d + 7) 252 21 [some (.ref 61), some (.int x1)] [.int s0] 94 (I, J, xrf) Q := by
  unfold f_X12_home_5 at h
  cases h
  exact Rn.ret 1 (o := ((some (.int s0)), 94, (I, J, xrf))) (fun f => rfl) hC
theorem p_X12_home_4 {L : Nat} {xs : Nat → Int32} {d : Nat} {Q : xO → Prop} (x1 : Int32) (I : xI) (J : xJ) {t : Int32 × xI × xJ} (h : f_X12_home_4 x1 I J = some t) (hC : (c_X12_home Q) t) : Rn L xs (d + 7) 252 14 [some (.ref 61), some (.int x1)] [] 94 (I, J, xrf) Q := by
  unfold f_X12_home_4 at h
  refine Rn.go 4 (j' := 252) (pc' := 18) (ls' := [some (.ref 61), some (.int x1)]) (st' := [.int ((1 <<< (x1 &&& 31))), .ref 61]) (n' := 94) (M' := (I, J, xrf)) (fun f => rfl) ?_
  obtain ⟨o, ho, h⟩ := Option.bind_eq_some_iff.mp h
  refine Rn.call (d1 := d + 6) (j1 := 242) (ls1 := [some (.ref 61), some (.int ((1 <<< (x1 &&& 31)))), none]) (rest := []) (fun f => rfl) ?_
  refine p_X12_firstWith (d := d + 5) ((1 <<< (x1 &&& 31))) I J (t := o) ho ?_
  exact p_X12_home_5 x1 o.1 o.2.1 o.2.2 h hC
theorem p_X12_home_3 {L : Nat} {xs : Nat → Int32} {d : Nat} {Q : xO → Prop} (x1 : Int32) (I : xI) (J : xJ) {t : Int32 × xI × xJ} (h : f_X12_home_3 x1 I J = some t) (hC : (c_X12_home Q) t) : Rn L xs (d + 7) 252 10 [some (.ref 61), some (.int x1)] [] 94 (I, J, xrf) Q := by
  unfold f_X12_home_3 at h
  refine Rn.go 1 (j' := 252) (pc' := 11) (ls' := [some (.ref 61), some (.int x1)]) (st' := [.ref 61]) (n' := 94) (M' := (I, J, xrf)) (fun f => rfl) ?_
  obtain ⟨o, ho, h⟩ := Option.bind_eq_some_iff.mp h
  refine Rn.call (d1 := d + 6) (j1 := 223) (ls1 := [some (.ref 61)]) (rest := []) (fun f => rfl) ?_
  refine p_X12_knows (d := d + 0) I J (t := o) ho ?_
  exact p_X12_home_4 x1 o.2.1 o.2.2 h hC
theorem p_X12_home_2 {L : Nat} {xs : Nat → Int32} {d : Nat} {Q : xO → Prop} (x1 : Int32) (I : xI) (J : xJ) {t : Int32 × xI × xJ} (h : f_X12_home_2 x1 I J = some t) (hC : (c_X12_home Q) t) : Rn L xs (d + 7) 252 8 [some (.ref 61), some (.int x1)] [] 94 (I, J, xrf) Q := by
  unfold f_X12_home_2 at h
  cases h
  exact Rn.ret 2 (o := ((some (.int ((-1)))), 94, (I, J, xrf))) (fun f => rfl) hC
theorem p_X12_home_1 {L : Nat} {xs : Nat → Int32} {d : Nat} {Q : xO → Prop} (x1 : Int32) (s0 : Int32) (I : xI) (J : xJ) {t : Int32 × xI × xJ} (h : f_X12_home_1 x1 s0 I J = some t) (hC : (c_X12_home Q) t) : Rn L xs (d + 7) 252 5 [some (.ref 61), some (.int x1)] [.int s0] 94 (I, J, xrf) Q := by
  unfold f_X12_home_1 at h
  refine Rn.fi 1 (c := s0 = 0) (p1 := 8) (l1 := [some (.ref 61), some (.int x1)]) (s1 := []) (n1 := 94) (M1 := (I, J, xrf)) (p2 := 10) (l2 := [some (.ref 61), some (.int x1)]) (s2 := []) (n2 := 94) (M2 := (I, J, xrf)) (fun f => rfl) (fun hc => ?_) (fun hc => ?_)
  · rw [if_pos hc] at h
    exact p_X12_home_2 x1 I J h hC
  · rw [if_neg hc] at h
    exact p_X12_home_3 x1 I J h hC
theorem p_X12_home_0 {L : Nat} {xs : Nat → Int32} {d : Nat} {Q : xO → Prop} (x1 : Int32) (I : xI) (J : xJ) {t : Int32 × xI × xJ} (h : f_X12_home_0 x1 I J = some t) (hC : (c_X12_home Q) t) : Rn L xs (d + 7) 252 0 [some (.ref 61), some (.int x1)] [] 94 (I, J, xrf) Q := by
  unfold f_X12_home_0 at h
  refine Rn.go 2 (j' := 252) (pc' := 2) (ls' := [some (.ref 61), some (.int x1)]) (st' := [.int x1, .ref 61]) (n' := 94) (M' := (I, J, xrf)) (fun f => rfl) ?_
  obtain ⟨o, ho, h⟩ := Option.bind_eq_some_iff.mp h
  refine Rn.call (d1 := d + 6) (j1 := 207) (ls1 := [some (.ref 61), some (.int x1)]) (rest := []) (fun f => rfl) ?_
  refine p_X12_isState (d := d + 4) x1 I J (t := o) ho ?_
  exact p_X12_home_1 x1 o.1 o.2.1 o.2.2 h hC
theorem p_X12_home {L : Nat} {xs : Nat → Int32} {d : Nat} {Q : xO → Prop} (x1 : Int32) (I : xI) (J : xJ) {t : Int32 × xI × xJ} (h : f_X12_home x1 I J = some t) (hC : Q ((some (.int t.1)), 94, (t.2.1, t.2.2, xrf))) : Rn L xs (d + 7) 252 0 [some (.ref 61), some (.int x1)] [] 94 (I, J, xrf) Q := p_X12_home_0 x1 I J h hC
/-! X12_met -/
def c_X12_met (Q : xO → Prop) (t : Int32 × xI × xJ) : Prop := Q ((some (.int t.1)), 94, (t.2.1, t.2.2, xrf))
def f_X12_met_4 (x1 : Int32) (I : xI) (J : xJ) : Option (Int32 × xI × xJ) := if x1 < 0 ∨ 6 ≤ x1.toNatClampNeg then none else some ((I 81 x1.toNatClampNeg), I, J)
def f_X12_met_3 (x1 : Int32) (I : xI) (J : xJ) : Option (Int32 × xI × xJ) := (f_X12_knows I J).bind fun o => f_X12_met_4 x1 o.2.1 o.2.2
def f_X12_met_2 (x1 : Int32) (I : xI) (J : xJ) : Option (Int32 × xI × xJ) := some ((-1), I, J)
def f_X12_met_1 (x1 : Int32) (s0 : Int32) (I : xI) (J : xJ) : Option (Int32 × xI × xJ) := if s0 = 0 then f_X12_met_2 x1 I J else f_X12_met_3 x1 I J
def f_X12_met_0 (x1 : Int32) (I : xI) (J : xJ) : Option (Int32 × xI × xJ) := (f_X12_isState x1 I J).bind fun o => f_X12_met_1 x1 o.1 o.2.1 o.2.2
def f_X12_met (x1 : Int32) (I : xI) (J : xJ) : Option (Int32 × xI × xJ) := f_X12_met_0 x1 I J
theorem p_X12_met_4 {L : Nat} {xs : Nat → Int32} {d : Nat} {Q : xO → Prop} (x1 : Int32) (I : xI) (J : xJ) {t : Int32 × xI × xJ} (h : f_X12_met_4 x1 I J = some t) (hC : (c_X12_met Q) t) : Rn L xs (d + 7) 254 14 [some (.ref 61), some (.int x1)] [] 94 (I, J, xrf) Q := by
  unfold f_X12_met_4 at h
  obtain ⟨hc, h⟩ := xif h
  refine Rn.ok 4 (c := x1 < 0 ∨ 6 ≤ x1.toNatClampNeg) (p1 := 20) (l1 := [some (.ref 61), some (.int x1)]) (s1 := [.int ((I 81 x1.toNatClampNeg))]) (n1 := 94) (M1 := (I, J, xrf)) (fun f => rfl) hc ?_
  cases h
  exact Rn.ret 1 (o := ((some (.int ((I 81 x1.toNatClampNeg)))), 94, (I, J, xrf))) (fun f => rfl) hC
theorem p_X12_met_3 {L : Nat} {xs : Nat → Int32} {d : Nat} {Q : xO → Prop} (x1 : Int32) (I : xI) (J : xJ) {t : Int32 × xI × xJ} (h : f_X12_met_3 x1 I J = some t) (hC : (c_X12_met Q) t) : Rn L xs (d + 7) 254 10 [some (.ref 61), some (.int x1)] [] 94 (I, J, xrf) Q := by
  unfold f_X12_met_3 at h
  refine Rn.go 1 (j' := 254) (pc' := 11) (ls' := [some (.ref 61), some (.int x1)]) (st' := [.ref 61]) (n' := 94) (M' := (I, J, xrf)) (fun f => rfl) ?_
  obtain ⟨o, ho, h⟩ := Option.bind_eq_some_iff.mp h
  refine Rn.call (d1 := d + 6) (j1 := 223) (ls1 := [some (.ref 61)]) (rest := []) (fun f => rfl) ?_
  refine p_X12_knows (d := d + 0) I J (t := o) ho ?_
  exact p_X12_met_4 x1 o.2.1 o.2.2 h hC
theorem p_X12_met_2 {L : Nat} {xs : Nat → Int32} {d : Nat} {Q : xO → Prop} (x1 : Int32) (I : xI) (J : xJ) {t : Int32 × xI × xJ} (h : f_X12_met_2 x1 I J = some t) (hC : (c_X12_met Q) t) : Rn L xs (d + 7) 254 8 [some (.ref 61), some (.int x1)] [] 94 (I, J, xrf) Q := by
  unfold f_X12_met_2 at h
  cases h
  exact Rn.ret 2 (o := ((some (.int ((-1)))), 94, (I, J, xrf))) (fun f => rfl) hC
theorem p_X12_met_1 {L : Nat} {xs : Nat → Int32} {d : Nat} {Q : xO → Prop} (x1 : Int32) (s0 : Int32) (I : xI) (J : xJ) {t : Int32 × xI × xJ} (h : f_X12_met_1 x1 s0 I J = some t) (hC : (c_X12_met Q) t) : Rn L xs (d + 7) 254 5 [some (.ref 61), some (.int x1)] [.int s0] 94 (I, J, xrf) Q := by
  unfold f_X12_met_1 at h
  refine Rn.fi 1 (c := s0 = 0) (p1 := 8) (l1 := [some (.ref 61), some (.int x1)]) (s1 := []) (n1 := 94) (M1 := (I, J, xrf)) (p2 := 10) (l2 := [some (.ref 61), some (.int x1)]) (s2 := []) (n2 := 94) (M2 := (I, J, xrf)) (fun f => rfl) (fun hc => ?_) (fun hc => ?_)
  · rw [if_pos hc] at h
    exact p_X12_met_2 x1 I J h hC
  · rw [if_neg hc] at h
    exact p_X12_met_3 x1 I J h hC
theorem p_X12_met_0 {L : Nat} {xs : Nat → Int32} {d : Nat} {Q : xO → Prop} (x1 : Int32) (I : xI) (J : xJ) {t : Int32 × xI × xJ} (h : f_X12_met_0 x1 I J = some t) (hC : (c_X12_met Q) t) : Rn L xs (d + 7) 254 0 [some (.ref 61), some (.int x1)] [] 94 (I, J, xrf) Q := by
  unfold f_X12_met_0 at h
  refine Rn.go 2 (j' := 254) (pc' := 2) (ls' := [some (.ref 61), some (.int x1)]) (st' := [.int x1, .ref 61]) (n' := 94) (M' := (I, J, xrf)) (fun f => rfl) ?_
  obtain ⟨o, ho, h⟩ := Option.bind_eq_some_iff.mp h
  refine Rn.call (d1 := d + 6) (j1 := 207) (ls1 := [some (.ref 61), some (.int x1)]) (rest := []) (fun f => rfl) ?_
  refine p_X12_isState (d := d + 4) x1 I J (t := o) ho ?_
  exact p_X12_met_1 x1 o.1 o.2.1 o.2.2 h hC
theorem p_X12_met {L : Nat} {xs : Nat → Int32} {d : Nat} {Q : xO → Prop} (x1 : Int32) (I : xI) (J : xJ) {t : Int32 × xI × xJ} (h : f_X12_met x1 I J = some t) (hC : Q ((some (.int t.1)), 94, (t.2.1, t.2.2, xrf))) : Rn L xs (d + 7) 254 0 [some (.ref 61), some (.int x1)] [] 94 (I, J, xrf) Q := p_X12_met_0 x1 I J h hC
/-! X12_run -/
def c_X12_run (Q : xO → Prop) (t : Int32 × xI × xJ) : Prop := Q ((some (.int t.1)), 94, (t.2.1, t.2.2, xrf))
def c_X12_run_10 (L : Nat) (xs : Nat → Int32) (d : Nat) (Q : xO → Prop) (t : (Int32 × Int32 × Int32 × Int32 × Int32 × Int32 × Int32 × Int32 × Int32 × Int32 × (Option Value) × xI × xJ) ⊕ (Int32 × xI × xJ)) : Prop := match t with
  | .inl s => Rn L xs (d + 7) 255 59 [some (.ref 61), some (.int s.1), some (.int s.2.1), some (.int s.2.2.1), some (.int s.2.2.2.1), some (.int s.2.2.2.2.1), some (.int s.2.2.2.2.2.1), some (.int s.2.2.2.2.2.2.1), some (.int s.2.2.2.2.2.2.2.1), some (.int s.2.2.2.2.2.2.2.2.1), some (.int s.2.2.2.2.2.2.2.2.2.1), s.2.2.2.2.2.2.2.2.2.2.1] [] 94 (s.2.2.2.2.2.2.2.2.2.2.2.1, s.2.2.2.2.2.2.2.2.2.2.2.2, xrf) Q
  | .inr t => (c_X12_run Q) t
def f_X12_run_6 (x1 : Int32) (x2 : Int32) (x3 : Int32) (x4 : Int32) (I : xI) (J : xJ) : Option (Int32 × xI × xJ) := some ((-1), I, J)
def f_X12_run_32 (x1 : Int32) (x2 : Int32) (x3 : Int32) (x4 : Int32) (x5 : Int32) (x6 : Int32) (x7 : Int32) (x8 : Int32) (x9 : Int32) (x10 : Int32) (z11 : Option Value) (s0 : Int32) (I : xI) (J : xJ) : Option (Int32 × xI × xJ) := some (s0, I, J)
def f_X12_run_31 (x1 : Int32) (x2 : Int32) (x3 : Int32) (x4 : Int32) (x5 : Int32) (x6 : Int32) (x7 : Int32) (x8 : Int32) (x9 : Int32) (x10 : Int32) (z11 : Option Value) (I : xI) (J : xJ) : Option (Int32 × xI × xJ) := f_X12_run_32 x1 x2 x3 x4 x5 x6 x7 x8 x9 x10 z11 x9 I J
def f_X12_run_30 (x1 : Int32) (x2 : Int32) (x3 : Int32) (x4 : Int32) (x5 : Int32) (x6 : Int32) (x7 : Int32) (x8 : Int32) (x9 : Int32) (x10 : Int32) (z11 : Option Value) (I : xI) (J : xJ) : Option (Int32 × xI × xJ) := f_X12_run_32 x1 x2 x3 x4 x5 x6 x7 x8 x9 x10 z11 x8 I J
def f_X12_run_29 (x1 : Int32) (x2 : Int32) (x3 : Int32) (x4 : Int32) (x5 : Int32) (x6 : Int32) (x7 : Int32) (x8 : Int32) (x9 : Int32) (x10 : Int32) (z11 : Option Value) (I : xI) (J : xJ) : Option (Int32 × xI × xJ) := if x4 = 3 then f_X12_run_30 x1 x2 x3 x4 x5 x6 x7 x8 x9 x10 z11 I J else f_X12_run_31 x1 x2 x3 x4 x5 x6 x7 x8 x9 x10 z11 I J
def f_X12_run_28 (x1 : Int32) (x2 : Int32) (x3 : Int32) (x4 : Int32) (x5 : Int32) (x6 : Int32) (x7 : Int32) (x8 : Int32) (x9 : Int32) (x10 : Int32) (z11 : Option Value) (I : xI) (J : xJ) : Option (Int32 × xI × xJ) := f_X12_run_32 x1 x2 x3 x4 x5 x6 x7 x8 x9 x10 z11 x6 I J
def f_X12_run_27 (x1 : Int32) (x2 : Int32) (x3 : Int32) (x4 : Int32) (x5 : Int32) (x6 : Int32) (x7 : Int32) (x8 : Int32) (x9 : Int32) (x10 : Int32) (z11 : Option Value) (I : xI) (J : xJ) : Option (Int32 × xI × xJ) := if x4 = 2 then f_X12_run_28 x1 x2 x3 x4 x5 x6 x7 x8 x9 x10 z11 I J else f_X12_run_29 x1 x2 x3 x4 x5 x6 x7 x8 x9 x10 z11 I J
def f_X12_run_26 (x1 : Int32) (x2 : Int32) (x3 : Int32) (x4 : Int32) (x5 : Int32) (x6 : Int32) (x7 : Int32) (x8 : Int32) (x9 : Int32) (x10 : Int32) (z11 : Option Value) (I : xI) (J : xJ) : Option (Int32 × xI × xJ) := f_X12_run_32 x1 x2 x3 x4 x5 x6 x7 x8 x9 x10 z11 x5 I J
def f_X12_run_25 (x1 : Int32) (x2 : Int32) (x3 : Int32) (x4 : Int32) (x5 : Int32) (x6 : Int32) (x7 : Int32) (x8 : Int32) (x9 : Int32) (x10 : Int32) (z11 : Option Value) (I : xI) (J : xJ) : Option (Int32 × xI × xJ) := if x4 = 1 then f_X12_run_26 x1 x2 x3 x4 x5 x6 x7 x8 x9 x10 z11 I J else f_X12_run_27 x1 x2 x3 x4 x5 x6 x7 x8 x9 x10 z11 I J
def f_X12_run_24 (x1 : Int32) (x2 : Int32) (x3 : Int32) (x4 : Int32) (x5 : Int32) (x6 : Int32) (x7 : Int32) (x8 : Int32) (x9 : Int32) (x10 : Int32) (z11 : Option Value) (I : xI) (J : xJ) : Option (Int32 × xI × xJ) := f_X12_run_32 x1 x2 x3 x4 x5 x6 x7 x8 x9 x10 z11 x7 I J
def f_X12_run_23 (x1 : Int32) (x2 : Int32) (x3 : Int32) (x4 : Int32) (x5 : Int32) (x6 : Int32) (x7 : Int32) (x8 : Int32) (x9 : Int32) (x10 : Int32) (z11 : Option Value) (I : xI) (J : xJ) : Option (Int32 × xI × xJ) := if x4 = 0 then f_X12_run_24 x1 x2 x3 x4 x5 x6 x7 x8 x9 x10 z11 I J else f_X12_run_25 x1 x2 x3 x4 x5 x6 x7 x8 x9 x10 z11 I J
def f_X12_run_22 (x1 : Int32) (x2 : Int32) (x3 : Int32) (x4 : Int32) (x5 : Int32) (x6 : Int32) (x7 : Int32) (x8 : Int32) (x9 : Int32) (x10 : Int32) (x11 : Int32) (s0 : Int32) (I : xI) (J : xJ) : Option ((Int32 × Int32 × Int32 × Int32 × Int32 × Int32 × Int32 × Int32 × Int32 × Int32 × (Option Value) × xI × xJ) ⊕ (Int32 × xI × xJ)) := some (.inl (x1, x2, x3, x4, s0, x6, ((x7 + 1)), x8, x9, ((x10 + Int32.ofInt (-1))), (some (.int x11)), I, J))
def f_X12_run_21 (x1 : Int32) (x2 : Int32) (x3 : Int32) (x4 : Int32) (x5 : Int32) (x6 : Int32) (x7 : Int32) (x8 : Int32) (x9 : Int32) (x10 : Int32) (x11 : Int32) (s0 : Int32) (I : xI) (J : xJ) : Option ((Int32 × Int32 × Int32 × Int32 × Int32 × Int32 × Int32 × Int32 × Int32 × Int32 × (Option Value) × xI × xJ) ⊕ (Int32 × xI × xJ)) := (f_X12_to x5 x11 I J).bind fun o => f_X12_run_22 x1 x2 x3 x4 x5 s0 x7 x8 x9 x10 x11 o.1 o.2.1 o.2.2
def f_X12_run_20 (x1 : Int32) (x2 : Int32) (x3 : Int32) (x4 : Int32) (x5 : Int32) (x6 : Int32) (x7 : Int32) (x8 : Int32) (x9 : Int32) (x10 : Int32) (x11 : Int32) (I : xI) (J : xJ) : Option ((Int32 × Int32 × Int32 × Int32 × Int32 × Int32 × Int32 × Int32 × Int32 × Int32 × (Option Value) × xI × xJ) ⊕ (Int32 × xI × xJ)) := (f_X12_smallTo x6 x11 I J).bind fun o => f_X12_run_21 x1 x2 x3 x4 x5 x6 x7 x8 x9 x10 x11 o.1 o.2.1 o.2.2
def f_X12_run_19 (x1 : Int32) (x2 : Int32) (x3 : Int32) (x4 : Int32) (x5 : Int32) (x6 : Int32) (x7 : Int32) (x8 : Int32) (x9 : Int32) (x10 : Int32) (x11 : Int32) (I : xI) (J : xJ) : Option (Int32 × xI × xJ) := f_X12_run_23 x1 x2 x3 x4 x5 x6 x7 x8 x9 x10 (some (.int x11)) I J
def f_X12_run_18 (x1 : Int32) (x2 : Int32) (x3 : Int32) (x4 : Int32) (x5 : Int32) (x6 : Int32) (x7 : Int32) (x8 : Int32) (x9 : Int32) (x10 : Int32) (x11 : Int32) (s0 : Int32) (I : xI) (J : xJ) : Option ((Int32 × Int32 × Int32 × Int32 × Int32 × Int32 × Int32 × Int32 × Int32 × Int32 × (Option Value) × xI × xJ) ⊕ (Int32 × xI × xJ)) := if 0 ≤ s0 then f_X12_run_20 x1 x2 x3 x4 x5 x6 x7 x8 x9 x10 x11 I J else ((f_X12_run_19 x1 x2 x3 x4 x5 x6 x7 x8 x9 x10 x11 I J)).map .inr
def f_X12_run_17 (x1 : Int32) (x2 : Int32) (x3 : Int32) (x4 : Int32) (x5 : Int32) (x6 : Int32) (x7 : Int32) (x8 : Int32) (x9 : Int32) (x10 : Int32) (x11 : Int32) (I : xI) (J : xJ) : Option ((Int32 × Int32 × Int32 × Int32 × Int32 × Int32 × Int32 × Int32 × Int32 × Int32 × (Option Value) × xI × xJ) ⊕ (Int32 × xI × xJ)) := (f_X12_to x5 x11 I J).bind fun o => f_X12_run_18 x1 x2 x3 x4 x5 x6 x7 x8 x9 x10 x11 o.1 o.2.1 o.2.2
def f_X12_run_16 (x1 : Int32) (x2 : Int32) (x3 : Int32) (x4 : Int32) (x5 : Int32) (x6 : Int32) (x7 : Int32) (x8 : Int32) (x9 : Int32) (x10 : Int32) (x11 : Int32) (I : xI) (J : xJ) : Option ((Int32 × Int32 × Int32 × Int32 × Int32 × Int32 × Int32 × Int32 × Int32 × Int32 × (Option Value) × xI × xJ) ⊕ (Int32 × xI × xJ)) := f_X12_run_17 x1 x2 x3 x4 x5 x6 x7 ((x8 + 1)) x9 x10 x11 I J
def f_X12_run_15 (x1 : Int32) (x2 : Int32) (x3 : Int32) (x4 : Int32) (x5 : Int32) (x6 : Int32) (x7 : Int32) (x8 : Int32) (x9 : Int32) (x10 : Int32) (x11 : Int32) (s0 : Int32) (s1 : Int32) (I : xI) (J : xJ) : Option ((Int32 × Int32 × Int32 × Int32 × Int32 × Int32 × Int32 × Int32 × Int32 × Int32 × (Option Value) × xI × xJ) ⊕ (Int32 × xI × xJ)) := if s0 = s1 then f_X12_run_16 x1 x2 x3 x4 x5 x6 x7 x8 x9 x10 x11 I J else f_X12_run_17 x1 x2 x3 x4 x5 x6 x7 x8 x9 x10 x11 I J
def f_X12_run_14 (x1 : Int32) (x2 : Int32) (x3 : Int32) (x4 : Int32) (x5 : Int32) (x6 : Int32) (x7 : Int32) (x8 : Int32) (x9 : Int32) (x10 : Int32) (x11 : Int32) (s0 : Int32) (I : xI) (J : xJ) : Option ((Int32 × Int32 × Int32 × Int32 × Int32 × Int32 × Int32 × Int32 × Int32 × Int32 × (Option Value) × xI × xJ) ⊕ (Int32 × xI × xJ)) := (f_X12_answer x5 x11 I J).bind fun o => f_X12_run_15 x1 x2 x3 x4 x5 x6 x7 x8 x9 x10 x11 s0 o.1 o.2.1 o.2.2
def f_X12_run_13 (x1 : Int32) (x2 : Int32) (x3 : Int32) (x4 : Int32) (x5 : Int32) (x6 : Int32) (x7 : Int32) (x8 : Int32) (x9 : Int32) (x10 : Int32) (x11 : Int32) (I : xI) (J : xJ) : Option ((Int32 × Int32 × Int32 × Int32 × Int32 × Int32 × Int32 × Int32 × Int32 × Int32 × (Option Value) × xI × xJ) ⊕ (Int32 × xI × xJ)) := (f_X12_smallAnswer x6 x11 I J).bind fun o => f_X12_run_14 x1 x2 x3 x4 x5 x6 x7 x8 ((x9 + 1)) x10 x11 o.1 o.2.1 o.2.2
def f_X12_run_12 (x1 : Int32) (x2 : Int32) (x3 : Int32) (x4 : Int32) (x5 : Int32) (x6 : Int32) (x7 : Int32) (x8 : Int32) (x9 : Int32) (x10 : Int32) (x11 : Int32) (s0 : Int32) (I : xI) (J : xJ) : Option ((Int32 × Int32 × Int32 × Int32 × Int32 × Int32 × Int32 × Int32 × Int32 × Int32 × (Option Value) × xI × xJ) ⊕ (Int32 × xI × xJ)) := if s0 < 0 then f_X12_run_17 x1 x2 x3 x4 x5 x6 x7 x8 x9 x10 x11 I J else f_X12_run_13 x1 x2 x3 x4 x5 x6 x7 x8 x9 x10 x11 I J
def f_X12_run_11 (x1 : Int32) (x2 : Int32) (x3 : Int32) (x4 : Int32) (x5 : Int32) (x6 : Int32) (x7 : Int32) (x8 : Int32) (x9 : Int32) (x10 : Int32) (z11 : Option Value) (I : xI) (J : xJ) : Option ((Int32 × Int32 × Int32 × Int32 × Int32 × Int32 × Int32 × Int32 × Int32 × Int32 × (Option Value) × xI × xJ) ⊕ (Int32 × xI × xJ)) := (f_X12_answer x5 (((x2 >>> ((2 * x10) &&& 31)) &&& 3)) I J).bind fun o => f_X12_run_12 x1 x2 x3 x4 x5 x6 x7 x8 x9 x10 (((x2 >>> ((2 * x10) &&& 31)) &&& 3)) o.1 o.2.1 o.2.2
def b_X12_run_10 (x1 : Int32) (x2 : Int32) (x3 : Int32) (x4 : Int32) (x5 : Int32) (x6 : Int32) (x7 : Int32) (x8 : Int32) (x9 : Int32) (x10 : Int32) (z11 : Option Value) (I : xI) (J : xJ) : Option ((Int32 × Int32 × Int32 × Int32 × Int32 × Int32 × Int32 × Int32 × Int32 × Int32 × (Option Value) × xI × xJ) ⊕ (Int32 × xI × xJ)) := if x10 < 0 then ((f_X12_run_23 x1 x2 x3 x4 x5 x6 x7 x8 x9 x10 z11 I J)).map .inr else f_X12_run_11 x1 x2 x3 x4 x5 x6 x7 x8 x9 x10 z11 I J
def f_X12_run_10 (x1 : Int32) (x2 : Int32) (x3 : Int32) (x4 : Int32) (x5 : Int32) (x6 : Int32) (x7 : Int32) (x8 : Int32) (x9 : Int32) (x10 : Int32) (z11 : Option Value) (I : xI) (J : xJ) : Option (Int32 × xI × xJ) := xloop (fun s : Int32 × Int32 × Int32 × Int32 × Int32 × Int32 × Int32 × Int32 × Int32 × Int32 × (Option Value) × xI × xJ => b_X12_run_10 s.1 s.2.1 s.2.2.1 s.2.2.2.1 s.2.2.2.2.1 s.2.2.2.2.2.1 s.2.2.2.2.2.2.1 s.2.2.2.2.2.2.2.1 s.2.2.2.2.2.2.2.2.1 s.2.2.2.2.2.2.2.2.2.1 s.2.2.2.2.2.2.2.2.2.2.1 s.2.2.2.2.2.2.2.2.2.2.2.1 s.2.2.2.2.2.2.2.2.2.2.2.2) 5000 (x1, x2, x3, x4, x5, x6, x7, x8, x9, x10, z11, I, J)
def f_X12_run_9 (x1 : Int32) (x2 : Int32) (x3 : Int32) (x4 : Int32) (x5 : Int32) (s0 : Int32) (I : xI) (J : xJ) : Option (Int32 × xI × xJ) := f_X12_run_10 x1 x2 x3 x4 x5 s0 0 0 0 ((x3 - 1)) none I J
def f_X12_run_8 (x1 : Int32) (x2 : Int32) (x3 : Int32) (x4 : Int32) (I : xI) (J : xJ) : Option (Int32 × xI × xJ) := (f_X12_firstWith ((1 <<< (x1 &&& 31))) I J).bind fun o => f_X12_run_9 x1 x2 x3 x4 x1 o.1 o.2.1 o.2.2
def f_X12_run_7 (x1 : Int32) (x2 : Int32) (x3 : Int32) (x4 : Int32) (I : xI) (J : xJ) : Option (Int32 × xI × xJ) := (f_X12_knows I J).bind fun o => f_X12_run_8 x1 x2 x3 x4 o.2.1 o.2.2
def f_X12_run_5 (x1 : Int32) (x2 : Int32) (x3 : Int32) (x4 : Int32) (s0 : Int32) (I : xI) (J : xJ) : Option (Int32 × xI × xJ) := if s0 = 0 then f_X12_run_6 x1 x2 x3 x4 I J else f_X12_run_7 x1 x2 x3 x4 I J
def f_X12_run_4 (x1 : Int32) (x2 : Int32) (x3 : Int32) (x4 : Int32) (I : xI) (J : xJ) : Option (Int32 × xI × xJ) := (f_X12_in x4 0 4 I J).bind fun o => f_X12_run_5 x1 x2 x3 x4 o.1 o.2.1 o.2.2
def f_X12_run_3 (x1 : Int32) (x2 : Int32) (x3 : Int32) (x4 : Int32) (s0 : Int32) (I : xI) (J : xJ) : Option (Int32 × xI × xJ) := if s0 = 0 then f_X12_run_6 x1 x2 x3 x4 I J else f_X12_run_4 x1 x2 x3 x4 I J
def f_X12_run_2 (x1 : Int32) (x2 : Int32) (x3 : Int32) (x4 : Int32) (I : xI) (J : xJ) : Option (Int32 × xI × xJ) := (f_X12_isWord x2 x3 I J).bind fun o => f_X12_run_3 x1 x2 x3 x4 o.1 o.2.1 o.2.2
def f_X12_run_1 (x1 : Int32) (x2 : Int32) (x3 : Int32) (x4 : Int32) (s0 : Int32) (I : xI) (J : xJ) : Option (Int32 × xI × xJ) := if s0 = 0 then f_X12_run_6 x1 x2 x3 x4 I J else f_X12_run_2 x1 x2 x3 x4 I J
def f_X12_run_0 (x1 : Int32) (x2 : Int32) (x3 : Int32) (x4 : Int32) (I : xI) (J : xJ) : Option (Int32 × xI × xJ) := (f_X12_isState x1 I J).bind fun o => f_X12_run_1 x1 x2 x3 x4 o.1 o.2.1 o.2.2
def f_X12_run (x1 : Int32) (x2 : Int32) (x3 : Int32) (x4 : Int32) (I : xI) (J : xJ) : Option (Int32 × xI × xJ) := f_X12_run_0 x1 x2 x3 x4 I J
theorem p_X12_run_6 {L : Nat} {xs : Nat → Int32} {d : Nat} {Q : xO → Prop} (x1 : Int32) (x2 : Int32) (x3 : Int32) (x4 : Int32) (I : xI) (J : xJ) {t : Int32 × xI × xJ} (h : f_X12_run_6 x1 x2 x3 x4 I J = some t) (hC : (c_X12_run Q) t) : Rn L xs (d + 7) 255 27 [some (.ref 61), some (.int x1), some (.int x2), some (.int x3), some (.int x4), none, none, none, none, none, none, none] [] 94 (I, J, xrf) Q := by
  unfold f_X12_run_6 at h
  cases h
  exact Rn.ret 2 (o := ((some (.int ((-1)))), 94, (I, J, xrf))) (fun f => rfl) hC
theorem p_X12_run_32 {L : Nat} {xs : Nat → Int32} {d : Nat} {Q : xO → Prop} (x1 : Int32) (x2 : Int32) (x3 : Int32) (x4 : Int32) (x5 : Int32) (x6 : Int32) (x7 : Int32) (x8 : Int32) (x9 : Int32) (x10 : Int32) (z11 : Option Value) (s0 : Int32) (I : xI) (J : xJ) {t : Int32 × xI × xJ} (h : f_X12_run_32 x1 x2 x3 x4 x5 x6 x7 x8 x9 x10 z11 s0 I J = some t) (hC : (c_X12_run Q) t) : Rn L xs (d + 7) 255 198 [some (.ref 61), some (.int x1), some (.int x2), some (.int x3), some (.int x4), some (.int x5), some (.int x6), some (.int x7), some (.int x8), some (.int x9), some (.int x10), z11] [.int s0] 94 (I, J, xrf) Q := by
  unfold f_X12_run_32 at h
  cases h
  exact Rn.ret 1 (o := ((some (.int s0)), 94, (I, J, xrf))) (fun f => rfl) hC
theorem p_X12_run_31 {L : Nat} {xs : Nat → Int32} {d : Nat} {Q : xO → Prop} (x1 : Int32) (x2 : Int32) (x3 : Int32) (x4 : Int32) (x5 : Int32) (x6 : Int32) (x7 : Int32) (x8 : Int32) (x9 : Int32) (x10 : Int32) (z11 : Option Value) (I : xI) (J : xJ) {t : Int32 × xI × xJ} (h : f_X12_run_31 x1 x2 x3 x4 x5 x6 x7 x8 x9 x10 z11 I J = some t) (hC : (c_X12_run Q) t) : Rn L xs (d + 7) 255 196 [some (.ref 61), some (.int x1), some (.int x2), some (.int x3), some (.int x4), some (.int x5), some (.int x6), some (.int x7), some (.int x8), some (.int x9), some (.int x10), z11] [] 94 (I, J, xrf) Q := by
  unfold f_X12_run_31 at h
  refine Rn.go 1 (j' := 255) (pc' := 198) (ls' := [some (.ref 61), some (.int x1), some (.int x2), some (.int x3), some (.int x4), some (.int x5), some (.int x6), some (.int x7), some (.int x8), some (.int x9), some (.int x10), z11]) (st' := [.int x9]) (n' := 94) (M' := (I, J, xrf)) (fun f => rfl) ?_
  exact p_X12_run_32 x1 x2 x3 x4 x5 x6 x7 x8 x9 x10 z11 x9 I J h hC
theorem p_X12_run_30 {L : Nat} {xs : Nat → Int32} {d : Nat} {Q : xO → Prop} (x1 : Int32) (x2 : Int32) (x3 : Int32) (x4 : Int32) (x5 : Int32) (x6 : Int32) (x7 : Int32) (x8 : Int32) (x9 : Int32) (x10 : Int32) (z11 : Option Value) (I : xI) (J : xJ) {t : Int32 × xI × xJ} (h : f_X12_run_30 x1 x2 x3 x4 x5 x6 x7 x8 x9 x10 z11 I J = some t) (hC : (c_X12_run Q) t) : Rn L xs (d + 7) 255 191 [some (.ref 61), some (.int x1), some (.int x2), some (.int x3), some (.int x4), some (.int x5), some (.int x6), some (.int x7), some (.int x8), some (.int x9), some (.int x10), z11] [] 94 (I, J, xrf) Q := by
  unfold f_X12_run_30 at h
  refine Rn.go 2 (j' := 255) (pc' := 198) (ls' := [some (.ref 61), some (.int x1), some (.int x2), some (.int x3), some (.int x4), some (.int x5), some (.int x6), some (.int x7), some (.int x8), some (.int x9), some (.int x10), z11]) (st' := [.int x8]) (n' := 94) (M' := (I, J, xrf)) (fun f => rfl) ?_
  exact p_X12_run_32 x1 x2 x3 x4 x5 x6 x7 x8 x9 x10 z11 x8 I J h hC
theorem p_X12_run_29 {L : Nat} {xs : Nat → Int32} {d : Nat} {Q : xO → Prop} (x1 : Int32) (x2 : Int32) (x3 : Int32) (x4 : Int32) (x5 : Int32) (x6 : Int32) (x7 : Int32) (x8 : Int32) (x9 : Int32) (x10 : Int32) (z11 : Option Value) (I : xI) (J : xJ) {t : Int32 × xI × xJ} (h : f_X12_run_29 x1 x2 x3 x4 x5 x6 x7 x8 x9 x10 z11 I J = some t) (hC : (c_X12_run Q) t) : Rn L xs (d + 7) 255 185 [some (.ref 61), some (.int x1), some (.int x2), some (.int x3), some (.int x4), some (.int x5), some (.int x6), some (.int x7), some (.int x8), some (.int x9), some (.int x10), z11] [] 94 (I, J, xrf) Q := by
  unfold f_X12_run_29 at h
  refine Rn.fi 3 (c := x4 = 3) (p1 := 191) (l1 := [some (.ref 61), some (.int x1), some (.int x2), some (.int x3), some (.int x4), some (.int x5), some (.int x6), some (.int x7), some (.int x8), some (.int x9), some (.int x10), z11]) (s1 := []) (n1 := 94) (M1 := (I, J, xrf)) (p2 := 196) (l2 := [some (.ref 61), some (.int x1), some (.int x2), some (.int x3), some (.int x4), some (.int x5), some (.int x6), some (.int x7), some (.int x8), some (.int x9), some (.int x10), z11]) (s2 := []) (n2 := 94) (M2 := (I, J, xrf)) (fun f => rfl) (fun hc => ?_) (fun hc => ?_)
  · rw [if_pos hc] at h
    exact p_X12_run_30 x1 x2 x3 x4 x5 x6 x7 x8 x9 x10 z11 I J h hC
  · rw [if_neg hc] at h
    exact p_X12_run_31 x1 x2 x3 x4 x5 x6 x7 x8 x9 x10 z11 I J h hC
theorem p_X12_run_28 {L : Nat} {xs : Nat → Int32} {d : Nat} {Q : xO → Prop} (x1 : Int32) (x2 : Int32) (x3 : Int32) (x4 : Int32) (x5 : Int32) (x6 : Int32) (x7 : Int32) (x8 : Int32) (x9 : Int32) (x10 : Int32) (z11 : Option Value) (I : xI) (J : xJ) {t : Int32 × xI × xJ} (h : f_X12_run_28 x1 x2 x3 x4 x5 x6 x7 x8 x9 x10 z11 I J = some t) (hC : (c_X12_run Q) t) : Rn L xs (d + 7) 255 180 [some (.ref 61), some (.int x1), some (.int x2), some (.int x3), some (.int x4), some (.int x5), some (.int x6), some (.int x7), some (.int x8), some (.int x9), some (.int x10), z11] [] 94 (I, J, xrf) Q := by
  unfold f_X12_run_28 at h
  refine Rn.go 2 (j' := 255) (pc' := 198) (ls' := [some (.ref 61), some (.int x1), some (.int x2), some (.int x3), some (.int x4), some (.int x5), some (.int x6), some (.int x7), some (.int x8), some (.int x9), some (.int x10), z11]) (st' := [.int x6]) (n' := 94) (M' := (I, J, xrf)) (fun f => rfl) ?_
  exact p_X12_run_32 x1 x2 x3 x4 x5 x6 x7 x8 x9 x10 z11 x6 I J h hC
theorem p_X12_run_27 {L : Nat} {xs : Nat → Int32} {d : Nat} {Q : xO → Prop} (x1 : Int32) (x2 : Int32) (x3 : Int32) (x4 : Int32) (x5 : Int32) (x6 : Int32) (x7 : Int32) (x8 : Int32) (x9 : Int32) (x10 : Int32) (z11 : Option Value) (I : xI) (J : xJ) {t : Int32 × xI × xJ} (h : f_X12_run_27 x1 x2 x3 x4 x5 x6 x7 x8 x9 x10 z11 I J = some t) (hC : (c_X12_run Q) t) : Rn L xs (d + 7) 255 174 [some (.ref 61), some (.int x1), some (.int x2), some (.int x3), some (.int x4), some (.int x5), some (.int x6), some (.int x7), some (.int x8), some (.int x9), some (.int x10), z11] [] 94 (I, J, xrf) Q := by
  unfold f_X12_run_27 at h
  refine Rn.fi 3 (c := x4 = 2) (p1 := 180) (l1 := [some (.ref 61), some (.int x1), some (.int x2), some (.int x3), some (.int x4), some (.int x5), some (.int x6), some (.int x7), some (.int x8), some (.int x9), some (.int x10), z11]) (s1 := []) (n1 := 94) (M1 := (I, J, xrf)) (p2 := 185) (l2 := [some (.ref 61), some (.int x1), some (.int x2), some (.int x3), some (.int x4), some (.int x5), some (.int x6), some (.int x7), some (.int x8), some (.int x9), some (.int x10), z11]) (s2 := []) (n2 := 94) (M2 := (I, J, xrf)) (fun f => rfl) (fun hc => ?_) (fun hc => ?_)
  · rw [if_pos hc] at h
    exact p_X12_run_28 x1 x2 x3 x4 x5 x6 x7 x8 x9 x10 z11 I J h hC
  · rw [if_neg hc] at h
    exact p_X12_run_29 x1 x2 x3 x4 x5 x6 x7 x8 x9 x10 z11 I J h hC
theorem p_X12_run_26 {L : Nat} {xs : Nat → Int32} {d : Nat} {Q : xO → Prop} (x1 : Int32) (x2 : Int32) (x3 : Int32) (x4 : Int32) (x5 : Int32) (x6 : Int32) (x7 : Int32) (x8 : Int32) (x9 : Int32) (x10 : Int32) (z11 : Option Value) (I : xI) (J : xJ) {t : Int32 × xI × xJ} (h : f_X12_run_26 x1 x2 x3 x4 x5 x6 x7 x8 x9 x10 z11 I J = some t) (hC : (c_X12_run Q) t) : Rn L xs (d + 7) 255 169 [some (.ref 61), some (.int x1), some (.int x2), some (.int x3), some (.int x4), some (.int x5), some (.int x6), some (.int x7), some (.int x8), some (.int x9), some (.int x10), z11] [] 94 (I, J, xrf) Q := by
  unfold f_X12_run_26 at h
  refine Rn.go 2 (j' := 255) (pc' := 198) (ls' := [some (.ref 61), some (.int x1), some (.int x2), some (.int x3), some (.int x4), some (.int x5), some (.int x6), some (.int x7), some (.int x8), some (.int x9), some (.int x10), z11]) (st' := [.int x5]) (n' := 94) (M' := (I, J, xrf)) (fun f => rfl) ?_
  exact p_X12_run_32 x1 x2 x3 x4 x5 x6 x7 x8 x9 x10 z11 x5 I J h hC
theorem p_X12_run_25 {L : Nat} {xs : Nat → Int32} {d : Nat} {Q : xO → Prop} (x1 : Int32) (x2 : Int32) (x3 : Int32) (x4 : Int32) (x5 : Int32) (x6 : Int32) (x7 : Int32) (x8 : Int32) (x9 : Int32) (x10 : Int32) (z11 : Option Value) (I : xI) (J : xJ) {t : Int32 × xI × xJ} (h : f_X12_run_25 x1 x2 x3 x4 x5 x6 x7 x8 x9 x10 z11 I J = some t) (hC : (c_X12_run Q) t) : Rn L xs (d + 7) 255 163 [some (.ref 61), some (.int x1), some (.int x2), some (.int x3), some (.int x4), some (.int x5), some (.int x6), some (.int x7), some (.int x8), some (.int x9), some (.int x10), z11] [] 94 (I, J, xrf) Q := by
  unfold f_X12_run_25 at h
  refine Rn.fi 3 (c := x4 = 1) (p1 := 169) (l1 := [some (.ref 61), some (.int x1), some (.int x2), some (.int x3), some (.int x4), some (.int x5), some (.int x6), some (.int x7), some (.int x8), some (.int x9), some (.int x10), z11]) (s1 := []) (n1 := 94) (M1 := (I, J, xrf)) (p2 := 174) (l2 := [some (.ref 61), some (.int x1), some (.int x2), some (.int x3), some (.int x4), some (.int x5), some (.int x6), some (.int x7), some (.int x8), some (.int x9), some (.int x10), z11]) (s2 := []) (n2 := 94) (M2 := (I, J, xrf)) (fun f => rfl) (fun hc => ?_) (fun hc => ?_)
  · rw [if_pos hc] at h
    exact p_X12_run_26 x1 x2 x3 x4 x5 x6 x7 x8 x9 x10 z11 I J h hC
  · rw [if_neg hc] at h
    exact p_X12_run_27 x1 x2 x3 x4 x5 x6 x7 x8 x9 x10 z11 I J h hC
theorem p_X12_run_24 {L : Nat} {xs : Nat → Int32} {d : Nat} {Q : xO → Prop} (x1 : Int32) (x2 : Int32) (x3 : Int32) (x4 : Int32) (x5 : Int32) (x6 : Int32) (x7 : Int32) (x8 : Int32) (x9 : Int32) (x10 : Int32) (z11 : Option Value) (I : xI) (J : xJ) {t : Int32 × xI × xJ} (h : f_X12_run_24 x1 x2 x3 x4 x5 x6 x7 x8 x9 x10 z11 I J = some t) (hC : (c_X12_run Q) t) : Rn L xs (d + 7) 255 158 [some (.ref 61), some (.int x1), some (.int x2), some (.int x3), some (.int x4), some (.int x5), some (.int x6), some (.int x7), some (.int x8), some (.int x9), some (.int x10), z11] [] 94 (I, J, xrf) Q := by
  unfold f_X12_run_24 at h
  refine Rn.go 2 (j' := 255) (pc' := 198) (ls' := [some (.ref 61), some (.int x1), some (.int x2), some (.int x3), some (.int x4), some (.int x5), some (.int x6), some (.int x7), some (.int x8), some (.int x9), some (.int x10), z11]) (st' := [.int x7]) (n' := 94) (M' := (I, J, xrf)) (fun f => rfl) ?_
  exact p_X12_run_32 x1 x2 x3 x4 x5 x6 x7 x8 x9 x10 z11 x7 I J h hC
theorem p_X12_run_23 {L : Nat} {xs : Nat → Int32} {d : Nat} {Q : xO → Prop} (x1 : Int32) (x2 : Int32) (x3 : Int32) (x4 : Int32) (x5 : Int32) (x6 : Int32) (x7 : Int32) (x8 : Int32) (x9 : Int32) (x10 : Int32) (z11 : Option Value) (I : xI) (J : xJ) {t : Int32 × xI × xJ} (h : f_X12_run_23 x1 x2 x3 x4 x5 x6 x7 x8 x9 x10 z11 I J = some t) (hC : (c_X12_run Q) t) : Rn L xs (d + 7) 255 153 [some (.ref 61), some (.int x1), some (.int x2), some (.int x3), some (.int x4), some (.int x5), some (.int x6), some (.int x7), some (.int x8), some (.int x9), some (.int x10), z11] [] 94 (I, J, xrf) Q := by
  unfold f_X12_run_23 at h
  refine Rn.fi 2 (c := x4 = 0) (p1 := 158) (l1 := [some (.ref 61), some (.int x1), some (.int x2), some (.int x3), some (.int x4), some (.int x5), some (.int x6), some (.int x7), some (.int x8), some (.int x9), some (.int x10), z11]) (s1 := []) (n1 := 94) (M1 := (I, J, xrf)) (p2 := 163) (l2 := [some (.ref 61), some (.int x1), some (.int x2), some (.int x3), some (.int x4), some (.int x5), some (.int x6), some (.int x7), some (.int x8), some (.int x9), some (.int x10), z11]) (s2 := []) (n2 := 94) (M2 := (I, J, xrf)) (fun f => rfl) (fun hc => ?_) (fun hc => ?_)
  · rw [if_pos hc] at h
    exact p_X12_run_24 x1 x2 x3 x4 x5 x6 x7 x8 x9 x10 z11 I J h hC
  · rw [if_neg hc] at h
    exact p_X12_run_25 x1 x2 x3 x4 x5 x6 x7 x8 x9 x10 z11 I J h hC
theorem p_X12_run_22 {L : Nat} {xs : Nat → Int32} {d : Nat} {Q : xO → Prop} (x1 : Int32) (x2 : Int32) (x3 : Int32) (x4 : Int32) (x5 : Int32) (x6 : Int32) (x7 : Int32) (x8 : Int32) (x9 : Int32) (x10 : Int32) (x11 : Int32) (s0 : Int32) (I : xI) (J : xJ) {t : (Int32 × Int32 × Int32 × Int32 × Int32 × Int32 × Int32 × Int32 × Int32 × Int32 × (Option Value) × xI × xJ) ⊕ (Int32 × xI × xJ)} (h : f_X12_run_22 x1 x2 x3 x4 x5 x6 x7 x8 x9 x10 x11 s0 I J = some t) (hC : (c_X12_run_10 L xs d Q) t) : Rn L xs (d + 7) 255 142 [some (.ref 61), some (.int x1), some (.int x2), some (.int x3), some (.int x4), some (.int x5), some (.int x6), some (.int x7), some (.int x8), some (.int x9), some (.int x10), some (.int x11)] [.int s0] 94 (I, J, xrf) Q := by
  unfold f_X12_run_22 at h
  refine Rn.go 2 (j' := 255) (pc' := 147) (ls' := [some (.ref 61), some (.int x1), some (.int x2), some (.int x3), some (.int x4), some (.int s0), some (.int x6), some (.int ((x7 + 1))), some (.int x8), some (.int x9), some (.int x10), some (.int x11)]) (st' := []) (n' := 94) (M' := (I, J, xrf)) (fun f => rfl) ?_
  refine Rn.go 1 (d' := (d + 7)) (j' := 255) (pc' := 150) (ls' := [some (.ref 61), some (.int x1), some (.int x2), some (.int x3), some (.int x4), some (.int s0), some (.int x6), some (.int ((x7 + 1))), some (.int x8), some (.int x9), some (.int ((x10 + Int32.ofInt (-1)))), some (.int x11)]) (st' := []) (n' := 94) (M' := (I, J, xrf)) (fun f => xrun_iinc 10 (-1) x10 rfl rfl rfl) ?_
  refine Rn.go 1 (j' := 255) (pc' := 59) (ls' := [some (.ref 61), some (.int x1), some (.int x2), some (.int x3), some (.int x4), some (.int s0), some (.int x6), some (.int ((x7 + 1))), some (.int x8), some (.int x9), some (.int ((x10 + Int32.ofInt (-1)))), some (.int x11)]) (st' := []) (n' := 94) (M' := (I, J, xrf)) (fun f => rfl) ?_
  cases h; exact hC
theorem p_X12_run_21 {L : Nat} {xs : Nat → Int32} {d : Nat} {Q : xO → Prop} (x1 : Int32) (x2 : Int32) (x3 : Int32) (x4 : Int32) (x5 : Int32) (x6 : Int32) (x7 : Int32) (x8 : Int32) (x9 : Int32) (x10 : Int32) (x11 : Int32) (s0 : Int32) (I : xI) (J : xJ) {t : (Int32 × Int32 × Int32 × Int32 × Int32 × Int32 × Int32 × Int32 × Int32 × Int32 × (Option Value) × xI × xJ) ⊕ (Int32 × xI × xJ)} (h : f_X12_run_21 x1 x2 x3 x4 x5 x6 x7 x8 x9 x10 x11 s0 I J = some t) (hC : (c_X12_run_10 L xs d Q) t) : Rn L xs (d + 7) 255 132 [some (.ref 61), some (.int x1), some (.int x2), some (.int x3), some (.int x4), some (.int x5), some (.int x6), some (.int x7), some (.int x8), some (.int x9), some (.int x10), some (.int x11)] [.int s0] 94 (I, J, xrf) Q := by
  unfold f_X12_run_21 at h
  refine Rn.go 4 (j' := 255) (pc' := 139) (ls' := [some (.ref 61), some (.int x1), some (.int x2), some (.int x3), some (.int x4), some (.int x5), some (.int s0), some (.int x7), some (.int x8), some (.int x9), some (.int x10), some (.int x11)]) (st' := [.int x11, .int x5, .ref 61]) (n' := 94) (M' := (I, J, xrf)) (fun f => rfl) ?_
  obtain ⟨o, ho, h⟩ := Option.bind_eq_some_iff.mp h
  refine Rn.call (d1 := d + 6) (j1 := 210) (ls1 := [some (.ref 61), some (.int x5), some (.int x11)]) (rest := []) (fun f => rfl) ?_
  refine p_X12_to (d := d + 5) x5 x11 I J (t := o) ho ?_
  exact p_X12_run_22 x1 x2 x3 x4 x5 s0 x7 x8 x9 x10 x11 o.1 o.2.1 o.2.2 h hC
theorem p_X12_run_20 {L : Nat} {xs : Nat → Int32} {d : Nat} {Q : xO → Prop} (x1 : Int32) (x2 : Int32) (x3 : Int32) (x4 : Int32) (x5 : Int32) (x6 : Int32) (x7 : Int32) (x8 : Int32) (x9 : Int32) (x10 : Int32) (x11 : Int32) (I : xI) (J : xJ) {t : (Int32 × Int32 × Int32 × Int32 × Int32 × Int32 × Int32 × Int32 × Int32 × Int32 × (Option Value) × xI × xJ) ⊕ (Int32 × xI × xJ)} (h : f_X12_run_20 x1 x2 x3 x4 x5 x6 x7 x8 x9 x10 x11 I J = some t) (hC : (c_X12_run_10 L xs d Q) t) : Rn L xs (d + 7) 255 124 [some (.ref 61), some (.int x1), some (.int x2), some (.int x3), some (.int x4), some (.int x5), some (.int x6), some (.int x7), some (.int x8), some (.int x9), some (.int x10), some (.int x11)] [] 94 (I, J, xrf) Q := by
  unfold f_X12_run_20 at h
  refine Rn.go 3 (j' := 255) (pc' := 129) (ls' := [some (.ref 61), some (.int x1), some (.int x2), some (.int x3), some (.int x4), some (.int x5), some (.int x6), some (.int x7), some (.int x8), some (.int x9), some (.int x10), some (.int x11)]) (st' := [.int x11, .int x6, .ref 61]) (n' := 94) (M' := (I, J, xrf)) (fun f => rfl) ?_
  obtain ⟨o, ho, h⟩ := Option.bind_eq_some_iff.mp h
  refine Rn.call (d1 := d + 6) (j1 := 249) (ls1 := [some (.ref 61), some (.int x6), some (.int x11), none]) (rest := []) (fun f => rfl) ?_
  refine p_X12_smallTo (d := d + 3) x6 x11 I J (t := o) ho ?_
  exact p_X12_run_21 x1 x2 x3 x4 x5 x6 x7 x8 x9 x10 x11 o.1 o.2.1 o.2.2 h hC
theorem p_X12_run_19 {L : Nat} {xs : Nat → Int32} {d : Nat} {Q : xO → Prop} (x1 : Int32) (x2 : Int32) (x3 : Int32) (x4 : Int32) (x5 : Int32) (x6 : Int32) (x7 : Int32) (x8 : Int32) (x9 : Int32) (x10 : Int32) (x11 : Int32) (I : xI) (J : xJ) {t : Int32 × xI × xJ} (h : f_X12_run_19 x1 x2 x3 x4 x5 x6 x7 x8 x9 x10 x11 I J = some t) (hC : (c_X12_run Q) t) : Rn L xs (d + 7) 255 121 [some (.ref 61), some (.int x1), some (.int x2), some (.int x3), some (.int x4), some (.int x5), some (.int x6), some (.int x7), some (.int x8), some (.int x9), some (.int x10), some (.int x11)] [] 94 (I, J, xrf) Q := by
  unfold f_X12_run_19 at h
  refine Rn.go 1 (j' := 255) (pc' := 153) (ls' := [some (.ref 61), some (.int x1), some (.int x2), some (.int x3), some (.int x4), some (.int x5), some (.int x6), some (.int x7), some (.int x8), some (.int x9), some (.int x10), some (.int x11)]) (st' := []) (n' := 94) (M' := (I, J, xrf)) (fun f => rfl) ?_
  exact p_X12_run_23 x1 x2 x3 x4 x5 x6 x7 x8 x9 x10 (some (.int x11)) I J h hC
theorem p_X12_run_18 {L : Nat} {xs : Nat → Int32} {d : Nat} {Q : xO → Prop} (x1 : Int32) (x2 : Int32) (x3 : Int32) (x4 : Int32) (x5 : Int32) (x6 : Int32) (x7 : Int32) (x8 : Int32) (x9 : Int32) (x10 : Int32) (x11 : Int32) (s0 : Int32) (I : xI) (J : xJ) {t : (Int32 × Int32 × Int32 × Int32 × Int32 × Int32 × Int32 × Int32 × Int32 × Int32 × (Option Value) × xI × xJ) ⊕ (Int32 × xI × xJ)} (h : f_X12_run_18 x1 x2 x3 x4 x5 x6 x7 x8 x9 x10 x11 s0 I J = some t) (hC : (c_X12_run_10 L xs d Q) t) : Rn L xs (d + 7) 255 118 [some (.ref 61), some (.int x1), some (.int x2), some (.int x3), some (.int x4), some (.int x5), some (.int x6), some (.int x7), some (.int x8), some (.int x9), some (.int x10), some (.int x11)] [.int s0] 94 (I, J, xrf) Q := by
  unfold f_X12_run_18 at h
  refine Rn.fi 1 (c := 0 ≤ s0) (p1 := 124) (l1 := [some (.ref 61), some (.int x1), some (.int x2), some (.int x3), some (.int x4), some (.int x5), some (.int x6), some (.int x7), some (.int x8), some (.int x9), some (.int x10), some (.int x11)]) (s1 := []) (n1 := 94) (M1 := (I, J, xrf)) (p2 := 121) (l2 := [some (.ref 61), some (.int x1), some (.int x2), some (.int x3), some (.int x4), some (.int x5), some (.int x6), some (.int x7), some (.int x8), some (.int x9), some (.int x10), some (.int x11)]) (s2 := []) (n2 := 94) (M2 := (I, J, xrf)) (fun f => rfl) (fun hc => ?_) (fun hc => ?_)
  · rw [if_pos hc] at h
    exact p_X12_run_20 x1 x2 x3 x4 x5 x6 x7 x8 x9 x10 x11 I J h hC
  · rw [if_neg hc] at h
    obtain ⟨t0, h0, rfl⟩ := Option.map_eq_some_iff.mp h
    exact p_X12_run_19 x1 x2 x3 x4 x5 x6 x7 x8 x9 x10 x11 I J h0 hC
theorem p_X12_run_17 {L : Nat} {xs : Nat → Int32} {d : Nat} {Q : xO → Prop} (x1 : Int32) (x2 : Int32) (x3 : Int32) (x4 : Int32) (x5 : Int32) (x6 : Int32) (x7 : Int32) (x8 : Int32) (x9 : Int32) (x10 : Int32) (x11 : Int32) (I : xI) (J : xJ) {t : (Int32 × Int32 × Int32 × Int32 × Int32 × Int32 × Int32 × Int32 × Int32 × Int32 × (Option Value) × xI × xJ) ⊕ (Int32 × xI × xJ)} (h : f_X12_run_17 x1 x2 x3 x4 x5 x6 x7 x8 x9 x10 x11 I J = some t) (hC : (c_X12_run_10 L xs d Q) t) : Rn L xs (d + 7) 255 110 [some (.ref 61), some (.int x1), some (.int x2), some (.int x3), some (.int x4), some (.int x5), some (.int x6), some (.int x7), some (.int x8), some (.int x9), some (.int x10), some (.int x11)] [] 94 (I, J, xrf) Q := by
  unfold f_X12_run_17 at h
  refine Rn.go 3 (j' := 255) (pc' := 115) (ls' := [some (.ref 61), some (.int x1), some (.int x2), some (.int x3), some (.int x4), some (.int x5), some (.int x6), some (.int x7), some (.int x8), some (.int x9), some (.int x10), some (.int x11)]) (st' := [.int x11, .int x5, .ref 61]) (n' := 94) (M' := (I, J, xrf)) (fun f => rfl) ?_
  obtain ⟨o, ho, h⟩ := Option.bind_eq_some_iff.mp h
  refine Rn.call (d1 := d + 6) (j1 := 210) (ls1 := [some (.ref 61), some (.int x5), some (.int x11)]) (rest := []) (fun f => rfl) ?_
  refine p_X12_to (d := d + 5) x5 x11 I J (t := o) ho ?_
  exact p_X12_run_18 x1 x2 x3 x4 x5 x6 x7 x8 x9 x10 x11 o.1 o.2.1 o.2.2 h hC
theorem p_X12_run_16 {L : Nat} {xs : Nat → Int32} {d : Nat} {Q : xO → Prop} (x1 : Int32) (x2 : Int32) (x3 : Int32) (x4 : Int32) (x5 : Int32) (x6 : Int32) (x7 : Int32) (x8 : Int32) (x9 : Int32) (x10 : Int32) (x11 : Int32) (I : xI) (J : xJ) {t : (Int32 × Int32 × Int32 × Int32 × Int32 × Int32 × Int32 × Int32 × Int32 × Int32 × (Option Value) × xI × xJ) ⊕ (Int32 × xI × xJ)} (h : f_X12_run_16 x1 x2 x3 x4 x5 x6 x7 x8 x9 x10 x11 I J = some t) (hC : (c_X12_run_10 L xs d Q) t) : Rn L xs (d + 7) 255 107 [some (.ref 61), some (.int x1), some (.int x2), some (.int x3), some (.int x4), some (.int x5), some (.int x6), some (.int x7), some (.int x8), some (.int x9), some (.int x10), some (.int x11)] [] 94 (I, J, xrf) Q := by
  unfold f_X12_run_16 at h
  refine Rn.go 1 (j' := 255) (pc' := 110) (ls' := [some (.ref 61), some (.int x1), some (.int x2), some (.int x3), some (.int x4), some (.int x5), some (.int x6), some (.int x7), some (.int ((x8 + 1))), some (.int x9), some (.int x10), some (.int x11)]) (st' := []) (n' := 94) (M' := (I, J, xrf)) (fun f => rfl) ?_
  exact p_X12_run_17 x1 x2 x3 x4 x5 x6 x7 ((x8 + 1)) x9 x10 x11 I J h hC
theorem p_X12_run_15 {L : Nat} {xs : Nat → Int32} {d : Nat} {Q : xO → Prop} (x1 : Int32) (x2 : Int32) (x3 : Int32) (x4 : Int32) (x5 : Int32) (x6 : Int32) (x7 : Int32) (x8 : Int32) (x9 : Int32) (x10 : Int32) (x11 : Int32) (s0 : Int32) (s1 : Int32) (I : xI) (J : xJ) {t : (Int32 × Int32 × Int32 × Int32 × Int32 × Int32 × Int32 × Int32 × Int32 × Int32 × (Option Value) × xI × xJ) ⊕ (Int32 × xI × xJ)} (h : f_X12_run_15 x1 x2 x3 x4 x5 x6 x7 x8 x9 x10 x11 s0 s1 I J = some t) (hC : (c_X12_run_10 L xs d Q) t) : Rn L xs (d + 7) 255 104 [some (.ref 61), some (.int x1), some (.int x2), some (.int x3), some (.int x4), some (.int x5), some (.int x6), some (.int x7), some (.int x8), some (.int x9), some (.int x10), some (.int x11)] [.int s1, .int s0] 94 (I, J, xrf) Q := by
  unfold f_X12_run_15 at h
  refine Rn.fi 1 (c := s0 = s1) (p1 := 107) (l1 := [some (.ref 61), some (.int x1), some (.int x2), some (.int x3), some (.int x4), some (.int x5), some (.int x6), some (.int x7), some (.int x8), some (.int x9), some (.int x10), some (.int x11)]) (s1 := []) (n1 := 94) (M1 := (I, J, xrf)) (p2 := 110) (l2 := [some (.ref 61), some (.int x1), some (.int x2), some (.int x3), some (.int x4), some (.int x5), some (.int x6), some (.int x7), some (.int x8), some (.int x9), some (.int x10), some (.int x11)]) (s2 := []) (n2 := 94) (M2 := (I, J, xrf)) (fun f => rfl) (fun hc => ?_) (fun hc => ?_)
  · rw [if_pos hc] at h
    exact p_X12_run_16 x1 x2 x3 x4 x5 x6 x7 x8 x9 x10 x11 I J h hC
  · rw [if_neg hc] at h
    exact p_X12_run_17 x1 x2 x3 x4 x5 x6 x7 x8 x9 x10 x11 I J h hC
theorem p_X12_run_14 {L : Nat} {xs : Nat → Int32} {d : Nat} {Q : xO → Prop} (x1 : Int32) (x2 : Int32) (x3 : Int32) (x4 : Int32) (x5 : Int32) (x6 : Int32) (x7 : Int32) (x8 : Int32) (x9 : Int32) (x10 : Int32) (x11 : Int32) (s0 : Int32) (I : xI) (J : xJ) {t : (Int32 × Int32 × Int32 × Int32 × Int32 × Int32 × Int32 × Int32 × Int32 × Int32 × (Option Value) × xI × xJ) ⊕ (Int32 × xI × xJ)} (h : f_X12_run_14 x1 x2 x3 x4 x5 x6 x7 x8 x9 x10 x11 s0 I J = some t) (hC : (c_X12_run_10 L xs d Q) t) : Rn L xs (d + 7) 255 96 [some (.ref 61), some (.int x1), some (.int x2), some (.int x3), some (.int x4), some (.int x5), some (.int x6), some (.int x7), some (.int x8), some (.int x9), some (.int x10), some (.int x11)] [.int s0] 94 (I, J, xrf) Q := by
  unfold f_X12_run_14 at h
  refine Rn.go 3 (j' := 255) (pc' := 101) (ls' := [some (.ref 61), some (.int x1), some (.int x2), some (.int x3), some (.int x4), some (.int x5), some (.int x6), some (.int x7), some (.int x8), some (.int x9), some (.int x10), some (.int x11)]) (st' := [.int x11, .int x5, .ref 61, .int s0]) (n' := 94) (M' := (I, J, xrf)) (fun f => rfl) ?_
  obtain ⟨o, ho, h⟩ := Option.bind_eq_some_iff.mp h
  refine Rn.call (d1 := d + 6) (j1 := 211) (ls1 := [some (.ref 61), some (.int x5), some (.int x11)]) (rest := [.int s0]) (fun f => rfl) ?_
  refine p_X12_answer (d := d + 5) x5 x11 I J (t := o) ho ?_
  exact p_X12_run_15 x1 x2 x3 x4 x5 x6 x7 x8 x9 x10 x11 s0 o.1 o.2.1 o.2.2 h hC
theorem p_X12_run_13 {L : Nat} {xs : Nat → Int32} {d : Nat} {Q : xO → Prop} (x1 : Int32) (x2 : Int32) (x3 : Int32) (x4 : Int32) (x5 : Int32) (x6 : Int32) (x7 : Int32) (x8 : Int32) (x9 : Int32) (x10 : Int32) (x11 : Int32) (I : xI) (J : xJ) {t : (Int32 × Int32 × Int32 × Int32 × Int32 × Int32 × Int32 × Int32 × Int32 × Int32 × (Option Value) × xI × xJ) ⊕ (Int32 × xI × xJ)} (h : f_X12_run_13 x1 x2 x3 x4 x5 x6 x7 x8 x9 x10 x11 I J = some t) (hC : (c_X12_run_10 L xs d Q) t) : Rn L xs (d + 7) 255 85 [some (.ref 61), some (.int x1), some (.int x2), some (.int x3), some (.int x4), some (.int x5), some (.int x6), some (.int x7), some (.int x8), some (.int x9), some (.int x10), some (.int x11)] [] 94 (I, J, xrf) Q := by
  unfold f_X12_run_13 at h
  refine Rn.go 4 (j' := 255) (pc' := 93) (ls' := [some (.ref 61), some (.int x1), some (.int x2), some (.int x3), some (.int x4), some (.int x5), some (.int x6), some (.int x7), some (.int x8), some (.int ((x9 + 1))), some (.int x10), some (.int x11)]) (st' := [.int x11, .int x6, .ref 61]) (n' := 94) (M' := (I, J, xrf)) (fun f => rfl) ?_
  obtain ⟨o, ho, h⟩ := Option.bind_eq_some_iff.mp h
  refine Rn.call (d1 := d + 6) (j1 := 250) (ls1 := [some (.ref 61), some (.int x6), some (.int x11), none]) (rest := []) (fun f => rfl) ?_
  refine p_X12_smallAnswer (d := d + 4) x6 x11 I J (t := o) ho ?_
  exact p_X12_run_14 x1 x2 x3 x4 x5 x6 x7 x8 ((x9 + 1)) x10 x11 o.1 o.2.1 o.2.2 h hC
theorem p_X12_run_12 {L : Nat} {xs : Nat → Int32} {d : Nat} {Q : xO → Prop} (x1 : Int32) (x2 : Int32) (x3 : Int32) (x4 : Int32) (x5 : Int32) (x6 : Int32) (x7 : Int32) (x8 : Int32) (x9 : Int32) (x10 : Int32) (x11 : Int32) (s0 : Int32) (I : xI) (J : xJ) {t : (Int32 × Int32 × Int32 × Int32 × Int32 × Int32 × Int32 × Int32 × Int32 × Int32 × (Option Value) × xI × xJ) ⊕ (Int32 × xI × xJ)} (h : f_X12_run_12 x1 x2 x3 x4 x5 x6 x7 x8 x9 x10 x11 s0 I J = some t) (hC : (c_X12_run_10 L xs d Q) t) : Rn L xs (d + 7) 255 82 [some (.ref 61), some (.int x1), some (.int x2), some (.int x3), some (.int x4), some (.int x5), some (.int x6), some (.int x7), some (.int x8), some (.int x9), some (.int x10), some (.int x11)] [.int s0] 94 (I, J, xrf) Q := by
  unfold f_X12_run_12 at h
  refine Rn.fi 1 (c := s0 < 0) (p1 := 110) (l1 := [some (.ref 61), some (.int x1), some (.int x2), some (.int x3), some (.int x4), some (.int x5), some (.int x6), some (.int x7), some (.int x8), some (.int x9), some (.int x10), some (.int x11)]) (s1 := []) (n1 := 94) (M1 := (I, J, xrf)) (p2 := 85) (l2 := [some (.ref 61), some (.int x1), some (.int x2), some (.int x3), some (.int x4), some (.int x5), some (.int x6), some (.int x7), some (.int x8), some (.int x9), some (.int x10), some (.int x11)]) (s2 := []) (n2 := 94) (M2 := (I, J, xrf)) (fun f => rfl) (fun hc => ?_) (fun hc => ?_)
  · rw [if_pos hc] at h
    exact p_X12_run_17 x1 x2 x3 x4 x5 x6 x7 x8 x9 x10 x11 I J h hC
  · rw [if_neg hc] at h
    exact p_X12_run_13 x1 x2 x3 x4 x5 x6 x7 x8 x9 x10 x11 I J h hC
theorem p_X12_run_11 {L : Nat} {xs : Nat → Int32} {d : Nat} {Q : xO → Prop} (x1 : Int32) (x2 : Int32) (x3 : Int32) (x4 : Int32) (x5 : Int32) (x6 : Int32) (x7 : Int32) (x8 : Int32) (x9 : Int32) (x10 : Int32) (z11 : Option Value) (I : xI) (J : xJ) {t : (Int32 × Int32 × Int32 × Int32 × Int32 × Int32 × Int32 × Int32 × Int32 × Int32 × (Option Value) × xI × xJ) ⊕ (Int32 × xI × xJ)} (h : f_X12_run_11 x1 x2 x3 x4 x5 x6 x7 x8 x9 x10 z11 I J = some t) (hC : (c_X12_run_10 L xs d Q) t) : Rn L xs (d + 7) 255 64 [some (.ref 61), some (.int x1), some (.int x2), some (.int x3), some (.int x4), some (.int x5), some (.int x6), some (.int x7), some (.int x8), some (.int x9), some (.int x10), z11] [] 94 (I, J, xrf) Q := by
  unfold f_X12_run_11 at h
  refine Rn.go 11 (j' := 255) (pc' := 79) (ls' := [some (.ref 61), some (.int x1), some (.int x2), some (.int x3), some (.int x4), some (.int x5), some (.int x6), some (.int x7), some (.int x8), some (.int x9), some (.int x10), some (.int (((x2 >>> ((2 * x10) &&& 31)) &&& 3)))]) (st' := [.int (((x2 >>> ((2 * x10) &&& 31)) &&& 3)), .int x5, .ref 61]) (n' := 94) (M' := (I, J, xrf)) (fun f => rfl) ?_
  obtain ⟨o, ho, h⟩ := Option.bind_eq_some_iff.mp h
  refine Rn.call (d1 := d + 6) (j1 := 211) (ls1 := [some (.ref 61), some (.int x5), some (.int (((x2 >>> ((2 * x10) &&& 31)) &&& 3)))]) (rest := []) (fun f => rfl) ?_
  refine p_X12_answer (d := d + 5) x5 (((x2 >>> ((2 * x10) &&& 31)) &&& 3)) I J (t := o) ho ?_
  exact p_X12_run_12 x1 x2 x3 x4 x5 x6 x7 x8 x9 x10 (((x2 >>> ((2 * x10) &&& 31)) &&& 3)) o.1 o.2.1 o.2.2 h hC
theorem q_X12_run_10 {L : Nat} {xs : Nat → Int32} {d : Nat} {Q : xO → Prop} (x1 : Int32) (x2 : Int32) (x3 : Int32) (x4 : Int32) (x5 : Int32) (x6 : Int32) (x7 : Int32) (x8 : Int32) (x9 : Int32) (x10 : Int32) (z11 : Option Value) (I : xI) (J : xJ) {t : (Int32 × Int32 × Int32 × Int32 × Int32 × Int32 × Int32 × Int32 × Int32 × Int32 × (Option Value) × xI × xJ) ⊕ (Int32 × xI × xJ)} (h : b_X12_run_10 x1 x2 x3 x4 x5 x6 x7 x8 x9 x10 z11 I J = some t) (hC : (c_X12_run_10 L xs d Q) t) : Rn L xs (d + 7) 255 59 [some (.ref 61), some (.int x1), some (.int x2), some (.int x3), some (.int x4), some (.int x5), some (.int x6), some (.int x7), some (.int x8), some (.int x9), some (.int x10), z11] [] 94 (I, J, xrf) Q := by
  unfold b_X12_run_10 at h
  refine Rn.fi 2 (c := x10 < 0) (p1 := 153) (l1 := [some (.ref 61), some (.int x1), some (.int x2), some (.int x3), some (.int x4), some (.int x5), some (.int x6), some (.int x7), some (.int x8), some (.int x9), some (.int x10), z11]) (s1 := []) (n1 := 94) (M1 := (I, J, xrf)) (p2 := 64) (l2 := [some (.ref 61), some (.int x1), some (.int x2), some (.int x3), some (.int x4), some (.int x5), some (.int x6), some (.int x7), some (.int x8), some (.int x9), some (.int x10), z11]) (s2 := []) (n2 := 94) (M2 := (I, J, xrf)) (fun f => rfl) (fun hc => ?_) (fun hc => ?_)
  · rw [if_pos hc] at h
    obtain ⟨t0, h0, rfl⟩ := Option.map_eq_some_iff.mp h
    exact p_X12_run_23 x1 x2 x3 x4 x5 x6 x7 x8 x9 x10 z11 I J h0 hC
  · rw [if_neg hc] at h
    exact p_X12_run_11 x1 x2 x3 x4 x5 x6 x7 x8 x9 x10 z11 I J h hC
theorem p_X12_run_10 {L : Nat} {xs : Nat → Int32} {d : Nat} {Q : xO → Prop} (x1 : Int32) (x2 : Int32) (x3 : Int32) (x4 : Int32) (x5 : Int32) (x6 : Int32) (x7 : Int32) (x8 : Int32) (x9 : Int32) (x10 : Int32) (z11 : Option Value) (I : xI) (J : xJ) {t : Int32 × xI × xJ} (h : f_X12_run_10 x1 x2 x3 x4 x5 x6 x7 x8 x9 x10 z11 I J = some t) (hC : (c_X12_run Q) t) : Rn L xs (d + 7) 255 59 [some (.ref 61), some (.int x1), some (.int x2), some (.int x3), some (.int x4), some (.int x5), some (.int x6), some (.int x7), some (.int x8), some (.int x9), some (.int x10), z11] [] 94 (I, J, xrf) Q := by
  unfold f_X12_run_10 at h
  exact xloop_some (P := fun s : Int32 × Int32 × Int32 × Int32 × Int32 × Int32 × Int32 × Int32 × Int32 × Int32 × (Option Value) × xI × xJ => Rn L xs (d + 7) 255 59 [some (.ref 61), some (.int s.1), some (.int s.2.1), some (.int s.2.2.1), some (.int s.2.2.2.1), some (.int s.2.2.2.2.1), some (.int s.2.2.2.2.2.1), some (.int s.2.2.2.2.2.2.1), some (.int s.2.2.2.2.2.2.2.1), some (.int s.2.2.2.2.2.2.2.2.1), some (.int s.2.2.2.2.2.2.2.2.2.1), s.2.2.2.2.2.2.2.2.2.2.1] [] 94 (s.2.2.2.2.2.2.2.2.2.2.2.1, s.2.2.2.2.2.2.2.2.2.2.2.2, xrf) Q) t (fun s ⟨s', hb, hp⟩ => q_X12_run_10 s.1 s.2.1 s.2.2.1 s.2.2.2.1 s.2.2.2.2.1 s.2.2.2.2.2.1 s.2.2.2.2.2.2.1 s.2.2.2.2.2.2.2.1 s.2.2.2.2.2.2.2.2.1 s.2.2.2.2.2.2.2.2.2.1 s.2.2.2.2.2.2.2.2.2.2.1 s.2.2.2.2.2.2.2.2.2.2.2.1 s.2.2.2.2.2.2.2.2.2.2.2.2 hb hp) (fun s hb => q_X12_run_10 s.1 s.2.1 s.2.2.1 s.2.2.2.1 s.2.2.2.2.1 s.2.2.2.2.2.1 s.2.2.2.2.2.2.1 s.2.2.2.2.2.2.2.1 s.2.2.2.2.2.2.2.2.1 s.2.2.2.2.2.2.2.2.2.1 s.2.2.2.2.2.2.2.2.2.2.1 s.2.2.2.2.2.2.2.2.2.2.2.1 s.2.2.2.2.2.2.2.2.2.2.2.2 hb hC) _ _ h
theorem p_X12_run_9 {L : Nat} {xs : Nat → Int32} {d : Nat} {Q : xO → Prop} (x1 : Int32) (x2 : Int32) (x3 : Int32) (x4 : Int32) (x5 : Int32) (s0 : Int32) (I : xI) (J : xJ) {t : Int32 × xI × xJ} (h : f_X12_run_9 x1 x2 x3 x4 x5 s0 I J = some t) (hC : (c_X12_run Q) t) : Rn L xs (d + 7) 255 43 [some (.ref 61), some (.int x1), some (.int x2), some (.int x3), some (.int x4), some (.int x5), none, none, none, none, none, none] [.int s0] 94 (I, J, xrf) Q := by
  unfold f_X12_run_9 at h
  refine Rn.go 11 (j' := 255) (pc' := 59) (ls' := [some (.ref 61), some (.int x1), some (.int x2), some (.int x3), some (.int x4), some (.int x5), some (.int s0), some (.int 0), some (.int 0), some (.int 0), some (.int ((x3 - 1))), none]) (st' := []) (n' := 94) (M' := (I, J, xrf)) (fun f => rfl) ?_
  exact p_X12_run_10 x1 x2 x3 x4 x5 s0 0 0 0 ((x3 - 1)) none I J h hC
theorem p_X12_run_8 {L : Nat} {xs : Nat → Int32} {d : Nat} {Q : xO → Prop} (x1 : Int32) (x2 : Int32) (x3 : Int32) (x4 : Int32) (I : xI) (J : xJ) {t : Int32 × xI × xJ} (h : f_X12_run_8 x1 x2 x3 x4 I J = some t) (hC : (c_X12_run Q) t) : Rn L xs (d + 7) 255 33 [some (.ref 61), some (.int x1), some (.int x2), some (.int x3), some (.int x4), none, none, none, none, none, none, none] [] 94 (I, J, xrf) Q := by
  unfold f_X12_run_8 at h
  refine Rn.go 6 (j' := 255) (pc' := 40) (ls' := [some (.ref 61), some (.int x1), some (.int x2), some (.int x3), some (.int x4), some (.int x1), none, none, none, none, none, none]) (st' := [.int ((1 <<< (x1 &&& 31))), .ref 61]) (n' := 94) (M' := (I, J, xrf)) (fun f => rfl) ?_
  obtain ⟨o, ho, h⟩ := Option.bind_eq_some_iff.mp h
  refine Rn.call (d1 := d + 6) (j1 := 242) (ls1 := [some (.ref 61), some (.int ((1 <<< (x1 &&& 31)))), none]) (rest := []) (fun f => rfl) ?_
  refine p_X12_firstWith (d := d + 5) ((1 <<< (x1 &&& 31))) I J (t := o) ho ?_
  exact p_X12_run_9 x1 x2 x3 x4 x1 o.1 o.2.1 o.2.2 h hC
theorem p_X12_run_7 {L : Nat} {xs : Nat → Int32} {d : Nat} {Q : xO → Prop} (x1 : Int32) (x2 : Int32) (x3 : Int32) (x4 : Int32) (I : xI) (J : xJ) {t : Int32 × xI × xJ} (h : f_X12_run_7 x1 x2 x3 x4 I J = some t) (hC : (c_X12_run Q) t) : Rn L xs (d + 7) 255 29 [some (.ref 61), some (.int x1), some (.int x2), some (.int x3), some (.int x4), none, none, none, none, none, none, none] [] 94 (I, J, xrf) Q := by
  unfold f_X12_run_7 at h
  refine Rn.go 1 (j' := 255) (pc' := 30) (ls' := [some (.ref 61), some (.int x1), some (.int x2), some (.int x3), some (.int x4), none, none, none, none, none, none, none]) (st' := [.ref 61]) (n' := 94) (M' := (I, J, xrf)) (fun f => rfl) ?_
  obtain ⟨o, ho, h⟩ := Option.bind_eq_some_iff.mp h
  refine Rn.call (d1 := d + 6) (j1 := 223) (ls1 := [some (.ref 61)]) (rest := []) (fun f => rfl) ?_
  refine p_X12_knows (d := d + 0) I J (t := o) ho ?_
  exact p_X12_run_8 x1 x2 x3 x4 o.2.1 o.2.2 h hC
theorem p_X12_run_5 {L : Nat} {xs : Nat → Int32} {d : Nat} {Q : xO → Prop} (x1 : Int32) (x2 : Int32) (x3 : Int32) (x4 : Int32) (s0 : Int32) (I : xI) (J : xJ) {t : Int32 × xI × xJ} (h : f_X12_run_5 x1 x2 x3 x4 s0 I J = some t) (hC : (c_X12_run Q) t) : Rn L xs (d + 7) 255 24 [some (.ref 61), some (.int x1), some (.int x2), some (.int x3), some (.int x4), none, none, none, none, none, none, none] [.int s0] 94 (I, J, xrf) Q := by
  unfold f_X12_run_5 at h
  refine Rn.fi 1 (c := s0 = 0) (p1 := 27) (l1 := [some (.ref 61), some (.int x1), some (.int x2), some (.int x3), some (.int x4), none, none, none, none, none, none, none]) (s1 := []) (n1 := 94) (M1 := (I, J, xrf)) (p2 := 29) (l2 := [some (.ref 61), some (.int x1), some (.int x2), some (.int x3), some (.int x4), none, none, none, none, none, none, none]) (s2 := []) (n2 := 94) (M2 := (I, J, xrf)) (fun f => rfl) (fun hc => ?_) (fun hc => ?_)
  · rw [if_pos hc] at h
    exact p_X12_run_6 x1 x2 x3 x4 I J h hC
  · rw [if_neg hc] at h
    exact p_X12_run_7 x1 x2 x3 x4 I J h hC
theorem p_X12_run_4 {L : Nat} {xs : Nat → Int32} {d : Nat} {Q : xO → Prop} (x1 : Int32) (x2 : Int32) (x3 : Int32) (x4 : Int32) (I : xI) (J : xJ) {t : Int32 × xI × xJ} (h : f_X12_run_4 x1 x2 x3 x4 I J = some t) (hC : (c_X12_run Q) t) : Rn L xs (d + 7) 255 17 [some (.ref 61), some (.int x1), some (.int x2), some (.int x3), some (.int x4), none, none, none, none, none, none, none] [] 94 (I, J, xrf) Q := by
  unfold f_X12_run_4 at h
  refine Rn.go 3 (j' := 255) (pc' := 21) (ls' := [some (.ref 61), some (.int x1), some (.int x2), some (.int x3), some (.int x4), none, none, none, none, none, none, none]) (st' := [.int 4, .int 0, .int x4]) (n' := 94) (M' := (I, J, xrf)) (fun f => rfl) ?_
  obtain ⟨o, ho, h⟩ := Option.bind_eq_some_iff.mp h
  refine Rn.call (d1 := d + 6) (j1 := 206) (ls1 := [some (.int x4), some (.int 0), some (.int 4)]) (rest := []) (fun f => rfl) ?_
  refine p_X12_in (d := d + 5) x4 0 4 I J (t := o) ho ?_
  exact p_X12_run_5 x1 x2 x3 x4 o.1 o.2.1 o.2.2 h hC
theorem p_X12_run_3 {L : Nat} {xs : Nat → Int32} {d : Nat} {Q : xO → Prop} (x1 : Int32) (x2 : Int32) (x3 : Int32) (x4 : Int32) (s0 : Int32) (I : xI) (J : xJ) {t : Int32 × xI × xJ} (h : f_X12_run_3 x1 x2 x3 x4 s0 I J = some t) (hC : (c_X12_run Q) t) : Rn L xs (d + 7) 255 14 [some (.ref 61), some (.int x1), some (.int x2), some (.int x3), some (.int x4), none, none, none, none, none, none, none] [.int s0] 94 (I, J, xrf) Q := by
  unfold f_X12_run_3 at h
  refine Rn.fi 1 (c := s0 = 0) (p1 := 27) (l1 := [some (.ref 61), some (.int x1), some (.int x2), some (.int x3), some (.int x4), none, none, none, none, none, none, none]) (s1 := []) (n1 := 94) (M1 := (I, J, xrf)) (p2 := 17) (l2 := [some (.ref 61), some (.int x1), some (.int x2), some (.int x3), some (.int x4), none, none, none, none, none, none, none]) (s2 := []) (n2 := 94) (M2 := (I, J, xrf)) (fun f => rfl) (fun hc => ?_) (fun hc => ?_)
  · rw [if_pos hc] at h
    exact p_X12_run_6 x1 x2 x3 x4 I J h hC
  · rw [if_neg hc] at h
    exact p_X12_run_4 x1 x2 x3 x4 I J h hC
theorem p_X12_run_2 {L : Nat} {xs : Nat → Int32} {d : Nat} {Q : xO → Prop} (x1 : Int32) (x2 : Int32) (x3 : Int32) (x4 : Int32) (I : xI) (J : xJ) {t : Int32 × xI × xJ} (h : f_X12_run_2 x1 x2 x3 x4 I J = some t) (hC : (c_X12_run Q) t) : Rn L xs (d + 7) 255 8 [some (.ref 61), some (.int x1), some (.int x2), some (.int x3), some (.int x4), none, none, none, none, none, none, none] [] 94 (I, J, xrf) Q := by
  unfold f_X12_run_2 at h
  refine Rn.go 3 (j' := 255) (pc' := 11) (ls' := [some (.ref 61), some (.int x1), some (.int x2), some (.int x3), some (.int x4), none, none, none, none, none, none, none]) (st' := [.int x3, .int x2, .ref 61]) (n' := 94) (M' := (I, J, xrf)) (fun f => rfl) ?_
  obtain ⟨o, ho, h⟩ := Option.bind_eq_some_iff.mp h
  refine Rn.call (d1 := d + 6) (j1 := 230) (ls1 := [some (.ref 61), some (.int x2), some (.int x3), none]) (rest := []) (fun f => rfl) ?_
  refine p_X12_isWord (d := d + 4) x2 x3 I J (t := o) ho ?_
  exact p_X12_run_3 x1 x2 x3 x4 o.1 o.2.1 o.2.2 h hC
theorem p_X12_run_1 {L : Nat} {xs : Nat → Int32} {d : Nat} {Q : xO → Prop} (x1 : Int32) (x2 : Int32) (x3 : Int32) (x4 : Int32) (s0 : Int32) (I : xI) (J : xJ) {t : Int32 × xI × xJ} (h : f_X12_run_1 x1 x2 x3 x4 s0 I J = some t) (hC : (c_X12_run Q) t) : Rn L xs (d + 7) 255 5 [some (.ref 61), some (.int x1), some (.int x2), some (.int x3), some (.int x4), none, none, none, none, none, none, none] [.int s0] 94 (I, J, xrf) Q := by
  unfold f_X12_run_1 at h
  refine Rn.fi 1 (c := s0 = 0) (p1 := 27) (l1 := [some (.ref 61), some (.int x1), some (.int x2), some (.int x3), some (.int x4), none, none, none, none, none, none, none]) (s1 := []) (n1 := 94) (M1 := (I, J, xrf)) (p2 := 8) (l2 := [some (.ref 61), some (.int x1), some (.int x2), some (.int x3), some (.int x4), none, none, none, none, none, none, none]) (s2 := []) (n2 := 94) (M2 := (I, J, xrf)) (fun f => rfl) (fun hc => ?_) (fun hc => ?_)
  · rw [if_pos hc] at h
    exact p_X12_run_6 x1 x2 x3 x4 I J h hC
  · rw [if_neg hc] at h
    exact p_X12_run_2 x1 x2 x3 x4 I J h hC
theorem p_X12_run_0 {L : Nat} {xs : Nat → Int32} {d : Nat} {Q : xO → Prop} (x1 : Int32) (x2 : Int32) (x3 : Int32) (x4 : Int32) (I : xI) (J : xJ) {t : Int32 × xI × xJ} (h : f_X12_run_0 x1 x2 x3 x4 I J = some t) (hC : (c_X12_run Q) t) : Rn L xs (d + 7) 255 0 [some (.ref 61), some (.int x1), some (.int x2), some (.int x3), some (.int x4), none, none, none, none, none, none, none] [] 94 (I, J, xrf) Q := by
  unfold f_X12_run_0 at h
  refine Rn.go 2 (j' := 255) (pc' := 2) (ls' := [some (.ref 61), some (.int x1), some (.int x2), some (.int x3), some (.int x4), none, none, none, none, none, none, none]) (st' := [.int x1, .ref 61]) (n' := 94) (M' := (I, J, xrf)) (fun f => rfl) ?_
  obtain ⟨o, ho, h⟩ := Option.bind_eq_some_iff.mp h
  refine Rn.call (d1 := d + 6) (j1 := 207) (ls1 := [some (.ref 61), some (.int x1)]) (rest := []) (fun f => rfl) ?_
  refine p_X12_isState (d := d + 4) x1 I J (t := o) ho ?_
  exact p_X12_run_1 x1 x2 x3 x4 o.1 o.2.1 o.2.2 h hC
theorem p_X12_run {L : Nat} {xs : Nat → Int32} {d : Nat} {Q : xO → Prop} (x1 : Int32) (x2 : Int32) (x3 : Int32) (x4 : Int32) (I : xI) (J : xJ) {t : Int32 × xI × xJ} (h : f_X12_run x1 x2 x3 x4 I J = some t) (hC : Q ((some (.int t.1)), 94, (t.2.1, t.2.2, xrf))) : Rn L xs (d + 7) 255 0 [some (.ref 61), some (.int x1), some (.int x2), some (.int x3), some (.int x4), none, none, none, none, none, none, none] [] 94 (I, J, xrf) Q := p_X12_run_0 x1 x2 x3 x4 I J h hC
/-! X12_placeOf -/
def c_X12_placeOf (Q : xO → Prop) (t : Int32 × xI × xJ) : Prop := Q ((some (.int t.1)), 94, (t.2.1, t.2.2, xrf))
def c_X12_placeOf_2 (L : Nat) (xs : Nat → Int32) (d : Nat) (Q : xO → Prop) (t : (Int32 × Int32 × xI × xJ) ⊕ (Int32 × xI × xJ)) : Prop := match t with
  | .inl s => Rn L xs (d + 7) 259 6 [some (.ref 61), some (.int s.1), some (.int s.2.1)] [] 94 (s.2.2.1, s.2.2.2, xrf) Q
  | .inr t => (c_X12_placeOf Q) t
def f_X12_placeOf_6 (x1 : Int32) (x2 : Int32) (I : xI) (J : xJ) : Option (Int32 × xI × xJ) := some ((-1), I, J)
def f_X12_placeOf_5 (x1 : Int32) (x2 : Int32) (I : xI) (J : xJ) : Option ((Int32 × Int32 × xI × xJ) ⊕ (Int32 × xI × xJ)) := some (.inl (x1, ((x2 + 1)), I, J))
def f_X12_placeOf_4 (x1 : Int32) (x2 : Int32) (I : xI) (J : xJ) : Option (Int32 × xI × xJ) := some (x2, I, J)
def f_X12_placeOf_3 (x1 : Int32) (x2 : Int32) (I : xI) (J : xJ) : Option ((Int32 × Int32 × xI × xJ) ⊕ (Int32 × xI × xJ)) := if x2 < 0 ∨ 203 ≤ x2.toNatClampNeg then none else if (I 82 x2.toNatClampNeg) = x1 then ((f_X12_placeOf_4 x1 x2 I J)).map .inr else f_X12_placeOf_5 x1 x2 I J
def b_X12_placeOf_2 (x1 : Int32) (x2 : Int32) (I : xI) (J : xJ) : Option ((Int32 × Int32 × xI × xJ) ⊕ (Int32 × xI × xJ)) := if (I 61 40) ≤ x2 then ((f_X12_placeOf_6 x1 x2 I J)).map .inr else f_X12_placeOf_3 x1 x2 I J
def f_X12_placeOf_2 (x1 : Int32) (x2 : Int32) (I : xI) (J : xJ) : Option (Int32 × xI × xJ) := xloop (fun s : Int32 × Int32 × xI × xJ => b_X12_placeOf_2 s.1 s.2.1 s.2.2.1 s.2.2.2) 5000 (x1, x2, I, J)
def f_X12_placeOf_1 (x1 : Int32) (I : xI) (J : xJ) : Option (Int32 × xI × xJ) := f_X12_placeOf_2 x1 0 I J
def f_X12_placeOf_0 (x1 : Int32) (I : xI) (J : xJ) : Option (Int32 × xI × xJ) := (f_X12_knows I J).bind fun o => f_X12_placeOf_1 x1 o.2.1 o.2.2
def f_X12_placeOf (x1 : Int32) (I : xI) (J : xJ) : Option (Int32 × xI × xJ) := f_X12_placeOf_0 x1 I J
theorem p_X12_placeOf_6 {L : Nat} {xs : Nat → Int32} {d : Nat} {Q : xO → Prop} (x1 : Int32) (x2 : Int32) (I : xI) (J : xJ) {t : Int32 × xI × xJ} (h : f_X12_placeOf_6 x1 x2 I J = some t) (hC : (c_X12_placeOf Q) t) : Rn L xs (d + 7) 259 32 [some (.ref 61), some (.int x1), some (.int x2)] [] 94 (I, J, xrf) Q := by
  unfold f_X12_placeOf_6 at h
  cases h
  exact Rn.ret 2 (o := ((some (.int ((-1)))), 94, (I, J, xrf))) (fun f => rfl) hC
theorem p_X12_placeOf_5 {L : Nat} {xs : Nat → Int32} {d : Nat} {Q : xO → Prop} (x1 : Int32) (x2 : Int32) (I : xI) (J : xJ) {t : (Int32 × Int32 × xI × xJ) ⊕ (Int32 × xI × xJ)} (h : f_X12_placeOf_5 x1 x2 I J = some t) (hC : (c_X12_placeOf_2 L xs d Q) t) : Rn L xs (d + 7) 259 26 [some (.ref 61), some (.int x1), some (.int x2)] [] 94 (I, J, xrf) Q := by
  unfold f_X12_placeOf_5 at h
  refine Rn.go 2 (j' := 259) (pc' := 6) (ls' := [some (.ref 61), some (.int x1), some (.int ((x2 + 1)))]) (st' := []) (n' := 94) (M' := (I, J, xrf)) (fun f => rfl) ?_
  cases h; exact hC
theorem p_X12_placeOf_4 {L : Nat} {xs : Nat → Int32} {d : Nat} {Q : xO → Prop} (x1 : Int32) (x2 : Int32) (I : xI) (J : xJ) {t : Int32 × xI × xJ} (h : f_X12_placeOf_4 x1 x2 I J = some t) (hC : (c_X12_placeOf Q) t) : Rn L xs (d + 7) 259 24 [some (.ref 61), some (.int x1), some (.int x2)] [] 94 (I, J, xrf) Q := by
  unfold f_X12_placeOf_4 at h
  cases h
  exact Rn.ret 2 (o := ((some (.int x2)), 94, (I, J, xrf))) (fun f => rfl) hC
theorem p_X12_placeOf_3 {L : Nat} {xs : Nat → Int32} {d : Nat} {Q : xO → Prop} (x1 : Int32) (x2 : Int32) (I : xI) (J : xJ) {t : (Int32 × Int32 × xI × xJ) ⊕ (Int32 × xI × xJ)} (h : f_X12_placeOf_3 x1 x2 I J = some t) (hC : (c_X12_placeOf_2 L xs d Q) t) : Rn L xs (d + 7) 259 14 [some (.ref 61), some (.int x1), some (.int x2)] [] 94 (I, J, xrf) Q := by
  unfold f_X12_placeOf_3 at h
  obtain ⟨hc, h⟩ := xif h
  refine Rn.ok 4 (c := x2 < 0 ∨ 203 ≤ x2.toNatClampNeg) (p1 := 20) (l1 := [some (.ref 61), some (.int x1), some (.int x2)]) (s1 := [.int ((I 82 x2.toNatClampNeg))]) (n1 := 94) (M1 := (I, J, xrf)) (fun f => rfl) hc ?_
  refine Rn.fi 2 (c := (I 82 x2.toNatClampNeg) = x1) (p1 := 24) (l1 := [some (.ref 61), some (.int x1), some (.int x2)]) (s1 := []) (n1 := 94) (M1 := (I, J, xrf)) (p2 := 26) (l2 := [some (.ref 61), some (.int x1), some (.int x2)]) (s2 := []) (n2 := 94) (M2 := (I, J, xrf)) (fun f => rfl) (fun hc => ?_) (fun hc => ?_)
  · rw [if_pos hc] at h
    obtain ⟨t0, h0, rfl⟩ := Option.map_eq_some_iff.mp h
    exact p_X12_placeOf_4 x1 x2 I J h0 hC
  · rw [if_neg hc] at h
    exact p_X12_placeOf_5 x1 x2 I J h hC
theorem q_X12_placeOf_2 {L : Nat} {xs : Nat → Int32} {d : Nat} {Q : xO → Prop} (x1 : Int32) (x2 : Int32) (I : xI) (J : xJ) {t : (Int32 × Int32 × xI × xJ) ⊕ (Int32 × xI × xJ)} (h : b_X12_placeOf_2 x1 x2 I J = some t) (hC : (c_X12_placeOf_2 L xs d Q) t) : Rn L xs (d + 7) 259 6 [some (.ref 61), some (.int x1), some (.int x2)] [] 94 (I, J, xrf) Q := by
  unfold b_X12_placeOf_2 at h
  refine Rn.fi 4 (c := (I 61 40) ≤ x2) (p1 := 32) (l1 := [some (.ref 61), some (.int x1), some (.int x2)]) (s1 := []) (n1 := 94) (M1 := (I, J, xrf)) (p2 := 14) (l2 := [some (.ref 61), some (.int x1), some (.int x2)]) (s2 := []) (n2 := 94) (M2 := (I, J, xrf)) (fun f => rfl) (fun hc => ?_) (fun hc => ?_)
  · rw [if_pos hc] at h
    obtain ⟨t0, h0, rfl⟩ := Option.map_eq_some_iff.mp h
    exact p_X12_placeOf_6 x1 x2 I J h0 hC
  · rw [if_neg hc] at h
    exact p_X12_placeOf_3 x1 x2 I J h hC
theorem p_X12_placeOf_2 {L : Nat} {xs : Nat → Int32} {d : Nat} {Q : xO → Prop} (x1 : Int32) (x2 : Int32) (I : xI) (J : xJ) {t : Int32 × xI × xJ} (h : f_X12_placeOf_2 x1 x2 I J = some t) (hC : (c_X12_placeOf Q) t) : Rn L xs (d + 7) 259 6 [some (.ref 61), some (.int x1), some (.int x2)] [] 94 (I, J, xrf) Q := by
  unfold f_X12_placeOf_2 at h
  exact xloop_some (P := fun s : Int32 × Int32 × xI × xJ => Rn L xs (d + 7) 259 6 [some (.ref 61), some (.int s.1), some (.int s.2.1)] [] 94 (s.2.2.1, s.2.2.2, xrf) Q) t (fun s ⟨s', hb, hp⟩ => q_X12_placeOf_2 s.1 s.2.1 s.2.2.1 s.2.2.2 hb hp) (fun s hb => q_X12_placeOf_2 s.1 s.2.1 s.2.2.1 s.2.2.2 hb hC) _ _ h
theorem p_X12_placeOf_1 {L : Nat} {xs : Nat → Int32} {d : Nat} {Q : xO → Prop} (x1 : Int32) (I : xI) (J : xJ) {t : Int32 × xI × xJ} (h : f_X12_placeOf_1 x1 I J = some t) (hC : (c_X12_placeOf Q) t) : Rn L xs (d + 7) 259 4 [some (.ref 61), some (.int x1), none] [] 94 (I, J, xrf) Q := by
  unfold f_X12_placeOf_1 at h
  refine Rn.go 2 (j' := 259) (pc' := 6) (ls' := [some (.ref 61), some (.int x1), some (.int 0)]) (st' := []) (n' := 94) (M' := (I, J, xrf)) (fun f => rfl) ?_
  exact p_X12_placeOf_2 x1 0 I J h hC
theorem p_X12_placeOf_0 {L : Nat} {xs : Nat → Int32} {d : Nat} {Q : xO → Prop} (x1 : Int32) (I : xI) (J : xJ) {t : Int32 × xI × xJ} (h : f_X12_placeOf_0 x1 I J = some t) (hC : (c_X12_placeOf Q) t) : Rn L xs (d + 7) 259 0 [some (.ref 61), some (.int x1), none] [] 94 (I, J, xrf) Q := by
  unfold f_X12_placeOf_0 at h
  refine Rn.go 1 (j' := 259) (pc' := 1) (ls' := [some (.ref 61), some (.int x1), none]) (st' := [.ref 61]) (n' := 94) (M' := (I, J, xrf)) (fun f => rfl) ?_
  obtain ⟨o, ho, h⟩ := Option.bind_eq_some_iff.mp h
  refine Rn.call (d1 := d + 6) (j1 := 223) (ls1 := [some (.ref 61)]) (rest := []) (fun f => rfl) ?_
  refine p_X12_knows (d := d + 0) I J (t := o) ho ?_
  exact p_X12_placeOf_1 x1 o.2.1 o.2.2 h hC
theorem p_X12_placeOf {L : Nat} {xs : Nat → Int32} {d : Nat} {Q : xO → Prop} (x1 : Int32) (I : xI) (J : xJ) {t : Int32 × xI × xJ} (h : f_X12_placeOf x1 I J = some t) (hC : Q ((some (.int t.1)), 94, (t.2.1, t.2.2, xrf))) : Rn L xs (d + 7) 259 0 [some (.ref 61), some (.int x1), none] [] 94 (I, J, xrf) Q := p_X12_placeOf_0 x1 I J h hC
/-! X12_goesOn -/
def c_X12_goesOn (Q : xO → Prop) (t : Int32 × xI × xJ) : Prop := Q ((some (.int t.1)), 94, (t.2.1, t.2.2, xrf))
def f_X12_goesOn_6 (x1 : Int32) (x2 : Int32) (s0 : Int32) (I : xI) (J : xJ) : Option (Int32 × xI × xJ) := some (s0, I, J)
def f_X12_goesOn_5 (x1 : Int32) (x2 : Int32) (I : xI) (J : xJ) : Option (Int32 × xI × xJ) := f_X12_goesOn_6 x1 x2 0 I J
def f_X12_goesOn_4 (x1 : Int32) (x2 : Int32) (I : xI) (J : xJ) : Option (Int32 × xI × xJ) := f_X12_goesOn_6 x1 x2 1 I J
def f_X12_goesOn_3 (x1 : Int32) (x2 : Int32) (I : xI) (J : xJ) : Option (Int32 × xI × xJ) := if x2 < 0 ∨ 203 ≤ x2.toNatClampNeg then none else if (I 84 x2.toNatClampNeg) = 0 then f_X12_goesOn_5 x1 x2 I J else f_X12_goesOn_4 x1 x2 I J
def f_X12_goesOn_2 (x1 : Int32) (x2 : Int32) (I : xI) (J : xJ) : Option (Int32 × xI × xJ) := f_X12_goesOn_6 x1 x2 ((-1)) I J
def f_X12_goesOn_1 (x1 : Int32) (s0 : Int32) (I : xI) (J : xJ) : Option (Int32 × xI × xJ) := if 0 ≤ s0 then f_X12_goesOn_3 x1 s0 I J else f_X12_goesOn_2 x1 s0 I J
def f_X12_goesOn_0 (x1 : Int32) (I : xI) (J : xJ) : Option (Int32 × xI × xJ) := (f_X12_placeOf x1 I J).bind fun o => f_X12_goesOn_1 x1 o.1 o.2.1 o.2.2
def f_X12_goesOn (x1 : Int32) (I : xI) (J : xJ) : Option (Int32 × xI × xJ) := f_X12_goesOn_0 x1 I J
theorem p_X12_goesOn_6 {L : Nat} {xs : Nat → Int32} {d : Nat} {Q : xO → Prop} (x1 : Int32) (x2 : Int32) (s0 : Int32) (I : xI) (J : xJ) {t : Int32 × xI × xJ} (h : f_X12_goesOn_6 x1 x2 s0 I J = some t) (hC : (c_X12_goesOn Q) t) : Rn L xs (d + 8) 260 28 [some (.ref 61), some (.int x1), some (.int x2)] [.int s0] 94 (I, J, xrf) Q := by
  unfold f_X12_goesOn_6 at h
  cases h
  exact Rn.ret 1 (o := ((some (.int s0)), 94, (I, J, xrf))) (fun f => rfl) hC
theorem p_X12_goesOn_5 {L : Nat} {xs : Nat → Int32} {d : Nat} {Q : xO → Prop} (x1 : Int32) (x2 : Int32) (I : xI) (J : xJ) {t : Int32 × xI × xJ} (h : f_X12_goesOn_5 x1 x2 I J = some t) (hC : (c_X12_goesOn Q) t) : Rn L xs (d + 8) 260 27 [some (.ref 61), some (.int x1), some (.int x2)] [] 94 (I, J, xrf) Q := by
  unfold f_X12_goesOn_5 at h
  refine Rn.go 1 (j' := 260) (pc' := 28) (ls' := [some (.ref 61), some (.int x1), some (.int x2)]) (st' := [.int 0]) (n' := 94) (M' := (I, J, xrf)) (fun f => rfl) ?_
  exact p_X12_goesOn_6 x1 x2 0 I J h hC
theorem p_X12_goesOn_4 {L : Nat} {xs : Nat → Int32} {d : Nat} {Q : xO → Prop} (x1 : Int32) (x2 : Int32) (I : xI) (J : xJ) {t : Int32 × xI × xJ} (h : f_X12_goesOn_4 x1 x2 I J = some t) (hC : (c_X12_goesOn Q) t) : Rn L xs (d + 8) 260 23 [some (.ref 61), some (.int x1), some (.int x2)] [] 94 (I, J, xrf) Q := by
  unfold f_X12_goesOn_4 at h
  refine Rn.go 2 (j' := 260) (pc' := 28) (ls' := [some (.ref 61), some (.int x1), some (.int x2)]) (st' := [.int 1]) (n' := 94) (M' := (I, J, xrf)) (fun f => rfl) ?_
  exact p_X12_goesOn_6 x1 x2 1 I J h hC
theorem p_X12_goesOn_3 {L : Nat} {xs : Nat → Int32} {d : Nat} {Q : xO → Prop} (x1 : Int32) (x2 : Int32) (I : xI) (J : xJ) {t : Int32 × xI × xJ} (h : f_X12_goesOn_3 x1 x2 I J = some t) (hC : (c_X12_goesOn Q) t) : Rn L xs (d + 8) 260 14 [some (.ref 61), some (.int x1), some (.int x2)] [] 94 (I, J, xrf) Q := by
  unfold f_X12_goesOn_3 at h
  obtain ⟨hc, h⟩ := xif h
  refine Rn.ok 4 (c := x2 < 0 ∨ 203 ≤ x2.toNatClampNeg) (p1 := 20) (l1 := [some (.ref 61), some (.int x1), some (.int x2)]) (s1 := [.int ((I 84 x2.toNatClampNeg))]) (n1 := 94) (M1 := (I, J, xrf)) (fun f => rfl) hc ?_
  refine Rn.fi 1 (c := (I 84 x2.toNatClampNeg) = 0) (p1 := 27) (l1 := [some (.ref 61), some (.int x1), some (.int x2)]) (s1 := []) (n1 := 94) (M1 := (I, J, xrf)) (p2 := 23) (l2 := [some (.ref 61), some (.int x1), some (.int x2)]) (s2 := []) (n2 := 94) (M2 := (I, J, xrf)) (fun f => rfl) (fun hc => ?_) (fun hc => ?_)
  · rw [if_pos hc] at h
    exact p_X12_goesOn_5 x1 x2 I J h hC
  · rw [if_neg hc] at h
    exact p_X12_goesOn_4 x1 x2 I J h hC
theorem p_X12_goesOn_2 {L : Nat} {xs : Nat → Int32} {d : Nat} {Q : xO → Prop} (x1 : Int32) (x2 : Int32) (I : xI) (J : xJ) {t : Int32 × xI × xJ} (h : f_X12_goesOn_2 x1 x2 I J = some t) (hC : (c_X12_goesOn Q) t) : Rn L xs (d + 8) 260 10 [some (.ref 61), some (.int x1), some (.int x2)] [] 94 (I, J, xrf) Q := by
  unfold f_X12_goesOn_2 at h
  refine Rn.go 2 (j' := 260) (pc' := 28) (ls' := [some (.ref 61), some (.int x1), some (.int x2)]) (st' := [.int ((-1))]) (n' := 94) (M' := (I, J, xrf)) (fun f => rfl) ?_
  exact p_X12_goesOn_6 x1 x2 ((-1)) I J h hC
theorem p_X12_goesOn_1 {L : Nat} {xs : Nat → Int32} {d : Nat} {Q : xO → Prop} (x1 : Int32) (s0 : Int32) (I : xI) (J : xJ) {t : Int32 × xI × xJ} (h : f_X12_goesOn_1 x1 s0 I J = some t) (hC : (c_X12_goesOn Q) t) : Rn L xs (d + 8) 260 5 [some (.ref 61), some (.int x1), none] [.int s0] 94 (I, J, xrf) Q := by
  unfold f_X12_goesOn_1 at h
  refine Rn.fi 3 (c := 0 ≤ s0) (p1 := 14) (l1 := [some (.ref 61), some (.int x1), some (.int s0)]) (s1 := []) (n1 := 94) (M1 := (I, J, xrf)) (p2 := 10) (l2 := [some (.ref 61), some (.int x1), some (.int s0)]) (s2 := []) (n2 := 94) (M2 := (I, J, xrf)) (fun f => rfl) (fun hc => ?_) (fun hc => ?_)
  · rw [if_pos hc] at h
    exact p_X12_goesOn_3 x1 s0 I J h hC
  · rw [if_neg hc] at h
    exact p_X12_goesOn_2 x1 s0 I J h hC
theorem p_X12_goesOn_0 {L : Nat} {xs : Nat → Int32} {d : Nat} {Q : xO → Prop} (x1 : Int32) (I : xI) (J : xJ) {t : Int32 × xI × xJ} (h : f_X12_goesOn_0 x1 I J = some t) (hC : (c_X12_goesOn Q) t) : Rn L xs (d + 8) 260 0 [some (.ref 61), some (.int x1), none] [] 94 (I, J, xrf) Q := by
  unfold f_X12_goesOn_0 at h
  refine Rn.go 2 (j' := 260) (pc' := 2) (ls' := [some (.ref 61), some (.int x1), none]) (st' := [.int x1, .ref 61]) (n' := 94) (M' := (I, J, xrf)) (fun f => rfl) ?_
  obtain ⟨o, ho, h⟩ := Option.bind_eq_some_iff.mp h
  refine Rn.call (d1 := d + 7) (j1 := 259) (ls1 := [some (.ref 61), some (.int x1), none]) (rest := []) (fun f => rfl) ?_
  refine p_X12_placeOf (d := d + 0) x1 I J (t := o) ho ?_
  exact p_X12_goesOn_1 x1 o.1 o.2.1 o.2.2 h hC
theorem p_X12_goesOn {L : Nat} {xs : Nat → Int32} {d : Nat} {Q : xO → Prop} (x1 : Int32) (I : xI) (J : xJ) {t : Int32 × xI × xJ} (h : f_X12_goesOn x1 I J = some t) (hC : Q ((some (.int t.1)), 94, (t.2.1, t.2.2, xrf))) : Rn L xs (d + 8) 260 0 [some (.ref 61), some (.int x1), none] [] 94 (I, J, xrf) Q := p_X12_goesOn_0 x1 I J h hC
/-! X12_together -/
def c_X12_together (Q : xO → Prop) (t : Int32 × xI × xJ) : Prop := Q ((some (.int t.1)), 94, (t.2.1, t.2.2, xrf))
def c_X12_together_7 (L : Nat) (xs : Nat → Int32) (d : Nat) (Q : xO → Prop) (t : (Int32 × Int32 × Int32 × Int32 × xI × xJ) ⊕ (Int32 × xI × xJ)) : Prop := match t with
  | .inl s => Rn L xs (d + 7) 261 27 [some (.ref 61), some (.int s.1), some (.int s.2.1), some (.int s.2.2.1), some (.int s.2.2.2.1)] [] 94 (s.2.2.2.2.1, s.2.2.2.2.2, xrf) Q
  | .inr t => (c_X12_together Q) t
def f_X12_together_4 (x1 : Int32) (x2 : Int32) (I : xI) (J : xJ) : Option (Int32 × xI × xJ) := some ((-1), I, J)
def f_X12_together_14 (x1 : Int32) (x2 : Int32) (x3 : Int32) (x4 : Int32) (I : xI) (J : xJ) : Option (Int32 × xI × xJ) := if x3 < 0 ∨ 203 ≤ x3.toNatClampNeg then none else some ((I 82 x3.toNatClampNeg), I, J)
def f_X12_together_13 (x1 : Int32) (x2 : Int32) (x3 : Int32) (x4 : Int32) (I : xI) (J : xJ) : Option ((Int32 × Int32 × Int32 × Int32 × xI × xJ) ⊕ (Int32 × xI × xJ)) := some (.inl (x1, x2, x3, ((x4 + 1)), I, J))
def f_X12_together_12 (x1 : Int32) (x2 : Int32) (x3 : Int32) (x4 : Int32) (I : xI) (J : xJ) : Option ((Int32 × Int32 × Int32 × Int32 × xI × xJ) ⊕ (Int32 × xI × xJ)) := f_X12_together_13 x1 x2 x4 x4 I J
def f_X12_together_11 (x1 : Int32) (x2 : Int32) (x3 : Int32) (x4 : Int32) (I : xI) (J : xJ) : Option ((Int32 × Int32 × Int32 × Int32 × xI × xJ) ⊕ (Int32 × xI × xJ)) := if x4 < 0 ∨ 203 ≤ x4.toNatClampNeg then none else if x3 < 0 ∨ 203 ≤ x3.toNatClampNeg then none else if (I 83 x4.toNatClampNeg) ≤ (I 83 x3.toNatClampNeg) then f_X12_together_13 x1 x2 x3 x4 I J else f_X12_together_12 x1 x2 x3 x4 I J
def f_X12_together_10 (x1 : Int32) (x2 : Int32) (x3 : Int32) (x4 : Int32) (I : xI) (J : xJ) : Option ((Int32 × Int32 × Int32 × Int32 × xI × xJ) ⊕ (Int32 × xI × xJ)) := if x3 < 0 then f_X12_together_12 x1 x2 x3 x4 I J else f_X12_together_11 x1 x2 x3 x4 I J
def f_X12_together_9 (x1 : Int32) (x2 : Int32) (x3 : Int32) (x4 : Int32) (I : xI) (J : xJ) : Option ((Int32 × Int32 × Int32 × Int32 × xI × xJ) ⊕ (Int32 × xI × xJ)) := if ((6 * x4) + x1) < 0 ∨ 1218 ≤ (((6 * x4) + x1)).toNatClampNeg then none else if ((6 * x4) + x2) < 0 ∨ 1218 ≤ (((6 * x4) + x2)).toNatClampNeg then none else if (I 85 (((6 * x4) + x1)).toNatClampNeg) = (I 85 (((6 * x4) + x2)).toNatClampNeg) then f_X12_together_10 x1 x2 x3 x4 I J else f_X12_together_13 x1 x2 x3 x4 I J
def f_X12_together_8 (x1 : Int32) (x2 : Int32) (x3 : Int32) (x4 : Int32) (I : xI) (J : xJ) : Option ((Int32 × Int32 × Int32 × Int32 × xI × xJ) ⊕ (Int32 × xI × xJ)) := if x4 < 0 ∨ 203 ≤ x4.toNatClampNeg then none else if (I 84 x4.toNatClampNeg) = 0 then f_X12_together_13 x1 x2 x3 x4 I J else f_X12_together_9 x1 x2 x3 x4 I J
def b_X12_together_7 (x1 : Int32) (x2 : Int32) (x3 : Int32) (x4 : Int32) (I : xI) (J : xJ) : Option ((Int32 × Int32 × Int32 × Int32 × xI × xJ) ⊕ (Int32 × xI × xJ)) := if (I 61 40) ≤ x4 then ((f_X12_together_14 x1 x2 x3 x4 I J)).map .inr else f_X12_together_8 x1 x2 x3 x4 I J
def f_X12_together_7 (x1 : Int32) (x2 : Int32) (x3 : Int32) (x4 : Int32) (I : xI) (J : xJ) : Option (Int32 × xI × xJ) := xloop (fun s : Int32 × Int32 × Int32 × Int32 × xI × xJ => b_X12_together_7 s.1 s.2.1 s.2.2.1 s.2.2.2.1 s.2.2.2.2.1 s.2.2.2.2.2) 5000 (x1, x2, x3, x4, I, J)
def f_X12_together_6 (x1 : Int32) (x2 : Int32) (I : xI) (J : xJ) : Option (Int32 × xI × xJ) := f_X12_together_7 x1 x2 ((-1)) 0 I J
def f_X12_together_5 (x1 : Int32) (x2 : Int32) (I : xI) (J : xJ) : Option (Int32 × xI × xJ) := (f_X12_knows I J).bind fun o => f_X12_together_6 x1 x2 o.2.1 o.2.2
def f_X12_together_3 (x1 : Int32) (x2 : Int32) (s0 : Int32) (I : xI) (J : xJ) : Option (Int32 × xI × xJ) := if s0 = 0 then f_X12_together_4 x1 x2 I J else f_X12_together_5 x1 x2 I J
def f_X12_together_2 (x1 : Int32) (x2 : Int32) (I : xI) (J : xJ) : Option (Int32 × xI × xJ) := (f_X12_isState x2 I J).bind fun o => f_X12_together_3 x1 x2 o.1 o.2.1 o.2.2
def f_X12_together_1 (x1 : Int32) (x2 : Int32) (s0 : Int32) (I : xI) (J : xJ) : Option (Int32 × xI × xJ) := if s0 = 0 then f_X12_together_4 x1 x2 I J else f_X12_together_2 x1 x2 I J
def f_X12_together_0 (x1 : Int32) (x2 : Int32) (I : xI) (J : xJ) : Option (Int32 × xI × xJ) := (f_X12_isState x1 I J).bind fun o => f_X12_together_1 x1 x2 o.1 o.2.1 o.2.2
def f_X12_together (x1 : Int32) (x2 : Int32) (I : xI) (J : xJ) : Option (Int32 × xI × xJ) := f_X12_together_0 x1 x2 I J
theorem p_X12_together_4 {L : Nat} {xs : Nat → Int32} {d : Nat} {Q : xO → Prop} (x1 : Int32) (x2 : Int32) (I : xI) (J : xJ) {t : Int32 × xI × xJ} (h : f_X12_together_4 x1 x2 I J = some t) (hC : (c_X12_together Q) t) : Rn L xs (d + 7) 261 16 [some (.ref 61), some (.int x1), some (.int x2), none, none] [] 94 (I, J, xrf) Q := by
  unfold f_X12_together_4 at h
  cases h
  exact Rn.ret 2 (o := ((some (.int ((-1)))), 94, (I, J, xrf))) (fun f => rfl) hC
theorem p_X12_together_14 {L : Nat} {xs : Nat → Int32} {d : Nat} {Q : xO → Prop} (x1 : Int32) (x2 : Int32) (x3 : Int32) (x4 : Int32) (I : xI) (J : xJ) {t : Int32 × xI × xJ} (h : f_X12_together_14 x1 x2 x3 x4 I J = some t) (hC : (c_X12_together Q) t) : Rn L xs (d + 7) 261 102 [some (.ref 61), some (.int x1), some (.int x2), some (.int x3), some (.int x4)] [] 94 (I, J, xrf) Q := by
  unfold f_X12_together_14 at h
  obtain ⟨hc, h⟩ := xif h
  refine Rn.ok 4 (c := x3 < 0 ∨ 203 ≤ x3.toNatClampNeg) (p1 := 108) (l1 := [some (.ref 61), some (.int x1), some (.int x2), some (.int x3), some (.int x4)]) (s1 := [.int ((I 82 x3.toNatClampNeg))]) (n1 := 94) (M1 := (I, J, xrf)) (fun f => rfl) hc ?_
  cases h
  exact Rn.ret 1 (o := ((some (.int ((I 82 x3.toNatClampNeg)))), 94, (I, J, xrf))) (fun f => rfl) hC
theorem p_X12_together_13 {L : Nat} {xs : Nat → Int32} {d : Nat} {Q : xO → Prop} (x1 : Int32) (x2 : Int32) (x3 : Int32) (x4 : Int32) (I : xI) (J : xJ) {t : (Int32 × Int32 × Int32 × Int32 × xI × xJ) ⊕ (Int32 × xI × xJ)} (h : f_X12_together_13 x1 x2 x3 x4 I J = some t) (hC : (c_X12_together_7 L xs d Q) t) : Rn L xs (d + 7) 261 96 [some (.ref 61), some (.int x1), some (.int x2), some (.int x3), some (.int x4)] [] 94 (I, J, xrf) Q := by
  unfold f_X12_together_13 at h
  refine Rn.go 2 (j' := 261) (pc' := 27) (ls' := [some (.ref 61), some (.int x1), some (.int x2), some (.int x3), some (.int ((x4 + 1)))]) (st' := []) (n' := 94) (M' := (I, J, xrf)) (fun f => rfl) ?_
  cases h; exact hC
theorem p_X12_together_12 {L : Nat} {xs : Nat → Int32} {d : Nat} {Q : xO → Prop} (x1 : Int32) (x2 : Int32) (x3 : Int32) (x4 : Int32) (I : xI) (J : xJ) {t : (Int32 × Int32 × Int32 × Int32 × xI × xJ) ⊕ (Int32 × xI × xJ)} (h : f_X12_together_12 x1 x2 x3 x4 I J = some t) (hC : (c_X12_together_7 L xs d Q) t) : Rn L xs (d + 7) 261 93 [some (.ref 61), some (.int x1), some (.int x2), some (.int x3), some (.int x4)] [] 94 (I, J, xrf) Q := by
  unfold f_X12_together_12 at h
  refine Rn.go 2 (j' := 261) (pc' := 96) (ls' := [some (.ref 61), some (.int x1), some (.int x2), some (.int x4), some (.int x4)]) (st' := []) (n' := 94) (M' := (I, J, xrf)) (fun f => rfl) ?_
  exact p_X12_together_13 x1 x2 x4 x4 I J h hC
theorem p_X12_together_11 {L : Nat} {xs : Nat → Int32} {d : Nat} {Q : xO → Prop} (x1 : Int32) (x2 : Int32) (x3 : Int32) (x4 : Int32) (I : xI) (J : xJ) {t : (Int32 × Int32 × Int32 × Int32 × xI × xJ) ⊕ (Int32 × xI × xJ)} (h : f_X12_together_11 x1 x2 x3 x4 I J = some t) (hC : (c_X12_together_7 L xs d Q) t) : Rn L xs (d + 7) 261 77 [some (.ref 61), some (.int x1), some (.int x2), some (.int x3), some (.int x4)] [] 94 (I, J, xrf) Q := by
  unfold f_X12_together_11 at h
  obtain ⟨hc, h⟩ := xif h
  refine Rn.ok 4 (c := x4 < 0 ∨ 203 ≤ x4.toNatClampNeg) (p1 := 84) (l1 := [some (.ref 61), some (.int x1), some (.int x2), some (.int x3), some (.int x4)]) (s1 := [.int ((I 83 x4.toNatClampNeg))]) (n1 := 94) (M1 := (I, J, xrf)) (fun f => rfl) hc ?_
  obtain ⟨hc, h⟩ := xif h
  refine Rn.ok 4 (c := x3 < 0 ∨ 203 ≤ x3.toNatClampNeg) (p1 := 90) (l1 := [some (.ref 61), some (.int x1), some (.int x2), some (.int x3), some (.int x4)]) (s1 := [.int ((I 83 x3.toNatClampNeg)), .int ((I 83 x4.toNatClampNeg))]) (n1 := 94) (M1 := (I, J, xrf)) (fun f => rfl) hc ?_
  refine Rn.fi 1 (c := (I 83 x4.toNatClampNeg) ≤ (I 83 x3.toNatClampNeg)) (p1 := 96) (l1 := [some (.ref 61), some (.int x1), some (.int x2), some (.int x3), some (.int x4)]) (s1 := []) (n1 := 94) (M1 := (I, J, xrf)) (p2 := 93) (l2 := [some (.ref 61), some (.int x1), some (.int x2), some (.int x3), some (.int x4)]) (s2 := []) (n2 := 94) (M2 := (I, J, xrf)) (fun f => rfl) (fun hc => ?_) (fun hc => ?_)
  · rw [if_pos hc] at h
    exact p_X12_together_13 x1 x2 x3 x4 I J h hC
  · rw [if_neg hc] at h
    exact p_X12_together_12 x1 x2 x3 x4 I J h hC
theorem p_X12_together_10 {L : Nat} {xs : Nat → Int32} {d : Nat} {Q : xO → Prop} (x1 : Int32) (x2 : Int32) (x3 : Int32) (x4 : Int32) (I : xI) (J : xJ) {t : (Int32 × Int32 × Int32 × Int32 × xI × xJ) ⊕ (Int32 × xI × xJ)} (h : f_X12_together_10 x1 x2 x3 x4 I J = some t) (hC : (c_X12_together_7 L xs d Q) t) : Rn L xs (d + 7) 261 73 [some (.ref 61), some (.int x1), some (.int x2), some (.int x3), some (.int x4)] [] 94 (I, J, xrf) Q := by
  unfold f_X12_together_10 at h
  refine Rn.fi 2 (c := x3 < 0) (p1 := 93) (l1 := [some (.ref 61), some (.int x1), some (.int x2), some (.int x3), some (.int x4)]) (s1 := []) (n1 := 94) (M1 := (I, J, xrf)) (p2 := 77) (l2 := [some (.ref 61), some (.int x1), some (.int x2), some (.int x3), some (.int x4)]) (s2 := []) (n2 := 94) (M2 := (I, J, xrf)) (fun f => rfl) (fun hc => ?_) (fun hc => ?_)
  · rw [if_pos hc] at h
    exact p_X12_together_12 x1 x2 x3 x4 I J h hC
  · rw [if_neg hc] at h
    exact p_X12_together_11 x1 x2 x3 x4 I J h hC
theorem p_X12_together_9 {L : Nat} {xs : Nat → Int32} {d : Nat} {Q : xO → Prop} (x1 : Int32) (x2 : Int32) (x3 : Int32) (x4 : Int32) (I : xI) (J : xJ) {t : (Int32 × Int32 × Int32 × Int32 × xI × xJ) ⊕ (Int32 × xI × xJ)} (h : f_X12_together_9 x1 x2 x3 x4 I J = some t) (hC : (c_X12_together_7 L xs d Q) t) : Rn L xs (d + 7) 261 46 [some (.ref 61), some (.int x1), some (.int x2), some (.int x3), some (.int x4)] [] 94 (I, J, xrf) Q := by
  unfold f_X12_together_9 at h
  obtain ⟨hc, h⟩ := xif h
  refine Rn.ok 8 (c := ((6 * x4) + x1) < 0 ∨ 1218 ≤ (((6 * x4) + x1)).toNatClampNeg) (p1 := 58) (l1 := [some (.ref 61), some (.int x1), some (.int x2), some (.int x3), some (.int x4)]) (s1 := [.int ((I 85 (((6 * x4) + x1)).toNatClampNeg))]) (n1 := 94) (M1 := (I, J, xrf)) (fun f => rfl) hc ?_
  obtain ⟨hc, h⟩ := xif h
  refine Rn.ok 8 (c := ((6 * x4) + x2) < 0 ∨ 1218 ≤ (((6 * x4) + x2)).toNatClampNeg) (p1 := 70) (l1 := [some (.ref 61), some (.int x1), some (.int x2), some (.int x3), some (.int x4)]) (s1 := [.int ((I 85 (((6 * x4) + x2)).toNatClampNeg)), .int ((I 85 (((6 * x4) + x1)).toNatClampNeg))]) (n1 := 94) (M1 := (I, J, xrf)) (fun f => rfl) hc ?_
  refine Rn.fi 1 (c := (I 85 (((6 * x4) + x1)).toNatClampNeg) = (I 85 (((6 * x4) + x2)).toNatClampNeg)) (p1 := 73) (l1 := [some (.ref 61), some (.int x1), some (.int x2), some (.int x3), some (.int x4)]) (s1 := []) (n1 := 94) (M1 := (I, J, xrf)) (p2 := 96) (l2 := [some (.ref 61), some (.int x1), some (.int x2), some (.int x3), some (.int x4)]) (s2 := []) (n2 := 94) (M2 := (I, J, xrf)) (fun f => rfl) (fun hc => ?_) (fun hc => ?_)
  · rw [if_pos hc] at h
    exact p_X12_together_10 x1 x2 x3 x4 I J h hC
  · rw [if_neg hc] at h
    exact p_X12_together_13 x1 x2 x3 x4 I J h hC
theorem p_X12_together_8 {L : Nat} {xs : Nat → Int32} {d : Nat} {Q : xO → Prop} (x1 : Int32) (x2 : Int32) (x3 : Int32) (x4 : Int32) (I : xI) (J : xJ) {t : (Int32 × Int32 × Int32 × Int32 × xI × xJ) ⊕ (Int32 × xI × xJ)} (h : f_X12_together_8 x1 x2 x3 x4 I J = some t) (hC : (c_X12_together_7 L xs d Q) t) : Rn L xs (d + 7) 261 36 [some (.ref 61), some (.int x1), some (.int x2), some (.int x3), some (.int x4)] [] 94 (I, J, xrf) Q := by
  unfold f_X12_together_8 at h
  obtain ⟨hc, h⟩ := xif h
  refine Rn.ok 4 (c := x4 < 0 ∨ 203 ≤ x4.toNatClampNeg) (p1 := 43) (l1 := [some (.ref 61), some (.int x1), some (.int x2), some (.int x3), some (.int x4)]) (s1 := [.int ((I 84 x4.toNatClampNeg))]) (n1 := 94) (M1 := (I, J, xrf)) (fun f => rfl) hc ?_
  refine Rn.fi 1 (c := (I 84 x4.toNatClampNeg) = 0) (p1 := 96) (l1 := [some (.ref 61), some (.int x1), some (.int x2), some (.int x3), some (.int x4)]) (s1 := []) (n1 := 94) (M1 := (I, J, xrf)) (p2 := 46) (l2 := [some (.ref 61), some (.int x1), some (.int x2), some (.int x3), some (.int x4)]) (s2 := []) (n2 := 94) (M2 := (I, J, xrf)) (fun f => rfl) (fun hc => ?_) (fun hc => ?_)
  · rw [if_pos hc] at h
    exact p_X12_together_13 x1 x2 x3 x4 I J h hC
  · rw [if_neg hc] at h
    exact p_X12_together_9 x1 x2 x3 x4 I J h hC
theorem q_X12_together_7 {L : Nat} {xs : Nat → Int32} {d : Nat} {Q : xO → Prop} (x1 : Int32) (x2 : Int32) (x3 : Int32) (x4 : Int32) (I : xI) (J : xJ) {t : (Int32 × Int32 × Int32 × Int32 × xI × xJ) ⊕ (Int32 × xI × xJ)} (h : b_X12_together_7 x1 x2 x3 x4 I J = some t) (hC : (c_X12_together_7 L xs d Q) t) : Rn L xs (d + 7) 261 27 [some (.ref 61), some (.int x1), some (.int x2), some (.int x3), some (.int x4)] [] 94 (I, J, xrf) Q := by
  unfold b_X12_together_7 at h
  refine Rn.fi 4 (c := (I 61 40) ≤ x4) (p1 := 102) (l1 := [some (.ref 61), some (.int x1), some (.int x2), some (.int x3), some (.int x4)]) (s1 := []) (n1 := 94) (M1 := (I, J, xrf)) (p2 := 36) (l2 := [some (.ref 61), some (.int x1), some (.int x2), some (.int x3), some (.int x4)]) (s2 := []) (n2 := 94) (M2 := (I, J, xrf)) (fun f => rfl) (fun hc => ?_) (fun hc => ?_)
  · rw [if_pos hc] at h
    obtain ⟨t0, h0, rfl⟩ := Option.map_eq_some_iff.mp h
    exact p_X12_together_14 x1 x2 x3 x4 I J h0 hC
  · rw [if_neg hc] at h
    exact p_X12_together_8 x1 x2 x3 x4 I J h hC
theorem p_X12_together_7 {L : Nat} {xs : Nat → Int32} {d : Nat} {Q : xO → Prop} (x1 : Int32) (x2 : Int32) (x3 : Int32) (x4 : Int32) (I : xI) (J : xJ) {t : Int32 × xI × xJ} (h : f_X12_together_7 x1 x2 x3 x4 I J = some t) (hC : (c_X12_together Q) t) : Rn L xs (d + 7) 261 27 [some (.ref 61), some (.int x1), some (.int x2), some (.int x3), some (.int x4)] [] 94 (I, J, xrf) Q := by
  unfold f_X12_together_7 at h
  exact xloop_some (P := fun s : Int32 × Int32 × Int32 × Int32 × xI × xJ => Rn L xs (d + 7) 261 27 [some (.ref 61), some (.int s.1), some (.int s.2.1), some (.int s.2.2.1), some (.int s.2.2.2.1)] [] 94 (s.2.2.2.2.1, s.2.2.2.2.2, xrf) Q) t (fun s ⟨s', hb, hp⟩ => q_X12_together_7 s.1 s.2.1 s.2.2.1 s.2.2.2.1 s.2.2.2.2.1 s.2.2.2.2.2 hb hp) (fun s hb => q_X12_together_7 s.1 s.2.1 s.2.2.1 s.2.2.2.1 s.2.2.2.2.1 s.2.2.2.2.2 hb hC) _ _ h
theorem p_X12_together_6 {L : Nat} {xs : Nat → Int32} {d : Nat} {Q : xO → Prop} (x1 : Int32) (x2 : Int32) (I : xI) (J : xJ) {t : Int32 × xI × xJ} (h : f_X12_together_6 x1 x2 I J = some t) (hC : (c_X12_together Q) t) : Rn L xs (d + 7) 261 22 [some (.ref 61), some (.int x1), some (.int x2), none, none] [] 94 (I, J, xrf) Q := by
  unfold f_X12_together_6 at h
  refine Rn.go 4 (j' := 261) (pc' := 27) (ls' := [some (.ref 61), some (.int x1), some (.int x2), some (.int ((-1))), some (.int 0)]) (st' := []) (n' := 94) (M' := (I, J, xrf)) (fun f => rfl) ?_
  exact p_X12_together_7 x1 x2 ((-1)) 0 I J h hC
theorem p_X12_together_5 {L : Nat} {xs : Nat → Int32} {d : Nat} {Q : xO → Prop} (x1 : Int32) (x2 : Int32) (I : xI) (J : xJ) {t : Int32 × xI × xJ} (h : f_X12_together_5 x1 x2 I J = some t) (hC : (c_X12_together Q) t) : Rn L xs (d + 7) 261 18 [some (.ref 61), some (.int x1), some (.int x2), none, none] [] 94 (I, J, xrf) Q := by
  unfold f_X12_together_5 at h
  refine Rn.go 1 (j' := 261) (pc' := 19) (ls' := [some (.ref 61), some (.int x1), some (.int x2), none, none]) (st' := [.ref 61]) (n' := 94) (M' := (I, J, xrf)) (fun f => rfl) ?_
  obtain ⟨o, ho, h⟩ := Option.bind_eq_some_iff.mp h
  refine Rn.call (d1 := d + 6) (j1 := 223) (ls1 := [some (.ref 61)]) (rest := []) (fun f => rfl) ?_
  refine p_X12_knows (d := d + 0) I J (t := o) ho ?_
  exact p_X12_together_6 x1 x2 o.2.1 o.2.2 h hC
theorem p_X12_together_3 {L : Nat} {xs : Nat → Int32} {d : Nat} {Q : xO → Prop} (x1 : Int32) (x2 : Int32) (s0 : Int32) (I : xI) (J : xJ) {t : Int32 × xI × xJ} (h : f_X12_together_3 x1 x2 s0 I J = some t) (hC : (c_X12_together Q) t) : Rn L xs (d + 7) 261 13 [some (.ref 61), some (.int x1), some (.int x2), none, none] [.int s0] 94 (I, J, xrf) Q := by
  unfold f_X12_together_3 at h
  refine Rn.fi 1 (c := s0 = 0) (p1 := 16) (l1 := [some (.ref 61), some (.int x1), some (.int x2), none, none]) (s1 := []) (n1 := 94) (M1 := (I, J, xrf)) (p2 := 18) (l2 := [some (.ref 61), some (.int x1), some (.int x2), none, none]) (s2 := []) (n2 := 94) (M2 := (I, J, xrf)) (fun f => rfl) (fun hc => ?_) (fun hc => ?_)
  · rw [if_pos hc] at h
    exact p_X12_together_4 x1 x2 I J h hC
  · rw [if_neg hc] at h
    exact p_X12_together_5 x1 x2 I J h hC
theorem p_X12_together_2 {L : Nat} {xs : Nat → Int32} {d : Nat} {Q : xO → Prop} (x1 : Int32) (x2 : Int32) (I : xI) (J : xJ) {t : Int32 × xI × xJ} (h : f_X12_together_2 x1 x2 I J = some t) (hC : (c_X12_together Q) t) : Rn L xs (d + 7) 261 8 [some (.ref 61), some (.int x1), some (.int x2), none, none] [] 94 (I, J, xrf) Q := by
  unfold f_X12_together_2 at h
  refine Rn.go 2 (j' := 261) (pc' := 10) (ls' := [some (.ref 61), some (.int x1), some (.int x2), none, none]) (st' := [.int x2, .ref 61]) (n' := 94) (M' := (I, J, xrf)) (fun f => rfl) ?_
  obtain ⟨o, ho, h⟩ := Option.bind_eq_some_iff.mp h
  refine Rn.call (d1 := d + 6) (j1 := 207) (ls1 := [some (.ref 61), some (.int x2)]) (rest := []) (fun f => rfl) ?_
  refine p_X12_isState (d := d + 4) x2 I J (t := o) ho ?_
  exact p_X12_together_3 x1 x2 o.1 o.2.1 o.2.2 h hC
theorem p_X12_together_1 {L : Nat} {xs : Nat → Int32} {d : Nat} {Q : xO → Prop} (x1 : Int32) (x2 : Int32) (s0 : Int32) (I : xI) (J : xJ) {t : Int32 × xI × xJ} (h : f_X12_together_1 x1 x2 s0 I J = some t) (hC : (c_X12_together Q) t) : Rn L xs (d + 7) 261 5 [some (.ref 61), some (.int x1), some (.int x2), none, none] [.int s0] 94 (I, J, xrf) Q := by
  unfold f_X12_together_1 at h
  refine Rn.fi 1 (c := s0 = 0) (p1 := 16) (l1 := [some (.ref 61), some (.int x1), some (.int x2), none, none]) (s1 := []) (n1 := 94) (M1 := (I, J, xrf)) (p2 := 8) (l2 := [some (.ref 61), some (.int x1), some (.int x2), none, none]) (s2 := []) (n2 := 94) (M2 := (I, J, xrf)) (fun f => rfl) (fun hc => ?_) (fun hc => ?_)
  · rw [if_pos hc] at h
    exact p_X12_together_4 x1 x2 I J h hC
  · rw [if_neg hc] at h
    exact p_X12_together_2 x1 x2 I J h hC
theorem p_X12_together_0 {L : Nat} {xs : Nat → Int32} {d : Nat} {Q : xO → Prop} (x1 : Int32) (x2 : Int32) (I : xI) (J : xJ) {t : Int32 × xI × xJ} (h : f_X12_together_0 x1 x2 I J = some t) (hC : (c_X12_together Q) t) : Rn L xs (d + 7) 261 0 [some (.ref 61), some (.int x1), some (.int x2), none, none] [] 94 (I, J, xrf) Q := by
  unfold f_X12_together_0 at h
  refine Rn.go 2 (j' := 261) (pc' := 2) (ls' := [some (.ref 61), some (.int x1), some (.int x2), none, none]) (st' := [.int x1, .ref 61]) (n' := 94) (M' := (I, J, xrf)) (fun f => rfl) ?_
  obtain ⟨o, ho, h⟩ := Option.bind_eq_some_iff.mp h
  refine Rn.call (d1 := d + 6) (j1 := 207) (ls1 := [some (.ref 61), some (.int x1)]) (rest := []) (fun f => rfl) ?_
  refine p_X12_isState (d := d + 4) x1 I J (t := o) ho ?_
  exact p_X12_together_1 x1 x2 o.1 o.2.1 o.2.2 h hC
theorem p_X12_together {L : Nat} {xs : Nat → Int32} {d : Nat} {Q : xO → Prop} (x1 : Int32) (x2 : Int32) (I : xI) (J : xJ) {t : Int32 × xI × xJ} (h : f_X12_together x1 x2 I J = some t) (hC : Q ((some (.int t.1)), 94, (t.2.1, t.2.2, xrf))) : Rn L xs (d + 7) 261 0 [some (.ref 61), some (.int x1), some (.int x2), none, none] [] 94 (I, J, xrf) Q := p_X12_together_0 x1 x2 I J h hC
/-! X12_partition -/
def c_X12_partition (Q : xO → Prop) (t : Int32 × xI × xJ) : Prop := Q ((some (.int t.1)), 94, (t.2.1, t.2.2, xrf))
def c_X12_partition_2 (L : Nat) (xs : Nat → Int32) (d : Nat) (Q : xO → Prop) (t : (Int32 × Int32 × Int32 × xI × xJ) ⊕ (Int32 × xI × xJ)) : Prop := match t with
  | .inl s => Rn L xs (d + 7) 262 8 [some (.ref 61), some (.int s.1), some (.int s.2.1), some (.int s.2.2.1)] [] 94 (s.2.2.2.1, s.2.2.2.2, xrf) Q
  | .inr t => (c_X12_partition Q) t
def f_X12_partition_12 (x1 : Int32) (x2 : Int32) (x3 : Int32) (s0 : Int32) (I : xI) (J : xJ) : Option (Int32 × xI × xJ) := some (s0, I, J)
def f_X12_partition_11 (x1 : Int32) (x2 : Int32) (x3 : Int32) (I : xI) (J : xJ) : Option (Int32 × xI × xJ) := f_X12_partition_12 x1 x2 x3 ((-1)) I J
def f_X12_partition_10 (x1 : Int32) (x2 : Int32) (x3 : Int32) (I : xI) (J : xJ) : Option (Int32 × xI × xJ) := f_X12_partition_12 x1 x2 x3 x2 I J
def f_X12_partition_9 (x1 : Int32) (x2 : Int32) (x3 : Int32) (I : xI) (J : xJ) : Option (Int32 × xI × xJ) := if x1 = (-1) then f_X12_partition_10 x1 x2 x3 I J else f_X12_partition_11 x1 x2 x3 I J
def f_X12_partition_8 (x1 : Int32) (x2 : Int32) (x3 : Int32) (I : xI) (J : xJ) : Option ((Int32 × Int32 × Int32 × xI × xJ) ⊕ (Int32 × xI × xJ)) := some (.inl (x1, x2, ((x3 + 1)), I, J))
def f_X12_partition_7 (x1 : Int32) (x2 : Int32) (x3 : Int32) (I : xI) (J : xJ) : Option ((Int32 × Int32 × Int32 × xI × xJ) ⊕ (Int32 × xI × xJ)) := f_X12_partition_8 x1 ((x2 + 1)) x3 I J
def f_X12_partition_6 (x1 : Int32) (x2 : Int32) (x3 : Int32) (I : xI) (J : xJ) : Option (Int32 × xI × xJ) := if x3 < 0 ∨ 203 ≤ x3.toNatClampNeg then none else some ((I 82 x3.toNatClampNeg), I, J)
def f_X12_partition_5 (x1 : Int32) (x2 : Int32) (x3 : Int32) (I : xI) (J : xJ) : Option ((Int32 × Int32 × Int32 × xI × xJ) ⊕ (Int32 × xI × xJ)) := if x2 = x1 then ((f_X12_partition_6 x1 x2 x3 I J)).map .inr else f_X12_partition_7 x1 x2 x3 I J
def f_X12_partition_4 (x1 : Int32) (x2 : Int32) (x3 : Int32) (I : xI) (J : xJ) : Option ((Int32 × Int32 × Int32 × xI × xJ) ⊕ (Int32 × xI × xJ)) := f_X12_partition_8 x1 x2 x3 I J
def f_X12_partition_3 (x1 : Int32) (x2 : Int32) (x3 : Int32) (I : xI) (J : xJ) : Option ((Int32 × Int32 × Int32 × xI × xJ) ⊕ (Int32 × xI × xJ)) := if x3 < 0 ∨ 203 ≤ x3.toNatClampNeg then none else if (I 84 x3.toNatClampNeg) = 0 then f_X12_partition_4 x1 x2 x3 I J else f_X12_partition_5 x1 x2 x3 I J
def b_X12_partition_2 (x1 : Int32) (x2 : Int32) (x3 : Int32) (I : xI) (J : xJ) : Option ((Int32 × Int32 × Int32 × xI × xJ) ⊕ (Int32 × xI × xJ)) := if (I 61 40) ≤ x3 then ((f_X12_partition_9 x1 x2 x3 I J)).map .inr else f_X12_partition_3 x1 x2 x3 I J
def f_X12_partition_2 (x1 : Int32) (x2 : Int32) (x3 : Int32) (I : xI) (J : xJ) : Option (Int32 × xI × xJ) := xloop (fun s : Int32 × Int32 × Int32 × xI × xJ => b_X12_partition_2 s.1 s.2.1 s.2.2.1 s.2.2.2.1 s.2.2.2.2) 5000 (x1, x2, x3, I, J)
def f_X12_partition_1 (x1 : Int32) (I : xI) (J : xJ) : Option (Int32 × xI × xJ) := f_X12_partition_2 x1 0 0 I J
def f_X12_partition_0 (x1 : Int32) (I : xI) (J : xJ) : Option (Int32 × xI × xJ) := (f_X12_knows I J).bind fun o => f_X12_partition_1 x1 o.2.1 o.2.2
def f_X12_partition (x1 : Int32) (I : xI) (J : xJ) : Option (Int32 × xI × xJ) := f_X12_partition_0 x1 I J
theorem p_X12_partition_12 {L : Nat} {xs : Nat → Int32} {d : Nat} {Q : xO → Prop} (x1 : Int32) (x2 : Int32) (x3 : Int32) (s0 : Int32) (I : xI) (J : xJ) {t : Int32 × xI × xJ} (h : f_X12_partition_12 x1 x2 x3 s0 I J = some t) (hC : (c_X12_partition Q) t) : Rn L xs (d + 7) 262 59 [some (.ref 61), some (.int x1), some (.int x2), some (.int x3)] [.int s0] 94 (I, J, xrf) Q := by
  unfold f_X12_partition_12 at h
  cases h
  exact Rn.ret 1 (o := ((some (.int s0)), 94, (I, J, xrf))) (fun f => rfl) hC
theorem p_X12_partition_11 {L : Nat} {xs : Nat → Int32} {d : Nat} {Q : xO → Prop} (x1 : Int32) (x2 : Int32) (x3 : Int32) (I : xI) (J : xJ) {t : Int32 × xI × xJ} (h : f_X12_partition_11 x1 x2 x3 I J = some t) (hC : (c_X12_partition Q) t) : Rn L xs (d + 7) 262 58 [some (.ref 61), some (.int x1), some (.int x2), some (.int x3)] [] 94 (I, J, xrf) Q := by
  unfold f_X12_partition_11 at h
  refine Rn.go 1 (j' := 262) (pc' := 59) (ls' := [some (.ref 61), some (.int x1), some (.int x2), some (.int x3)]) (st' := [.int ((-1))]) (n' := 94) (M' := (I, J, xrf)) (fun f => rfl) ?_
  exact p_X12_partition_12 x1 x2 x3 ((-1)) I J h hC
theorem p_X12_partition_10 {L : Nat} {xs : Nat → Int32} {d : Nat} {Q : xO → Prop} (x1 : Int32) (x2 : Int32) (x3 : Int32) (I : xI) (J : xJ) {t : Int32 × xI × xJ} (h : f_X12_partition_10 x1 x2 x3 I J = some t) (hC : (c_X12_partition Q) t) : Rn L xs (d + 7) 262 54 [some (.ref 61), some (.int x1), some (.int x2), some (.int x3)] [] 94 (I, J, xrf) Q := by
  unfold f_X12_partition_10 at h
  refine Rn.go 2 (j' := 262) (pc' := 59) (ls' := [some (.ref 61), some (.int x1), some (.int x2), some (.int x3)]) (st' := [.int x2]) (n' := 94) (M' := (I, J, xrf)) (fun f => rfl) ?_
  exact p_X12_partition_12 x1 x2 x3 x2 I J h hC
theorem p_X12_partition_9 {L : Nat} {xs : Nat → Int32} {d : Nat} {Q : xO → Prop} (x1 : Int32) (x2 : Int32) (x3 : Int32) (I : xI) (J : xJ) {t : Int32 × xI × xJ} (h : f_X12_partition_9 x1 x2 x3 I J = some t) (hC : (c_X12_partition Q) t) : Rn L xs (d + 7) 262 49 [some (.ref 61), some (.int x1), some (.int x2), some (.int x3)] [] 94 (I, J, xrf) Q := by
  unfold f_X12_partition_9 at h
  refine Rn.fi 3 (c := x1 = (-1)) (p1 := 54) (l1 := [some (.ref 61), some (.int x1), some (.int x2), some (.int x3)]) (s1 := []) (n1 := 94) (M1 := (I, J, xrf)) (p2 := 58) (l2 := [some (.ref 61), some (.int x1), some (.int x2), some (.int x3)]) (s2 := []) (n2 := 94) (M2 := (I, J, xrf)) (fun f => rfl) (fun hc => ?_) (fun hc => ?_)
  · rw [if_pos hc] at h
    exact p_X12_partition_10 x1 x2 x3 I J h hC
  · rw [if_neg hc] at h
    exact p_X12_partition_11 x1 x2 x3 I J h hC
theorem p_X12_partition_8 {L : Nat} {xs : Nat → Int32} {d : Nat} {Q : xO → Prop} (x1 : Int32) (x2 : Int32) (x3 : Int32) (I : xI) (J : xJ) {t : (Int32 × Int32 × Int32 × xI × xJ) ⊕ (Int32 × xI × xJ)} (h : f_X12_partition_8 x1 x2 x3 I J = some t) (hC : (c_X12_partition_2 L xs d Q) t) : Rn L xs (d + 7) 262 43 [some (.ref 61), some (.int x1), some (.int x2), some (.int x3)] [] 94 (I, J, xrf) Q := by
  unfold f_X12_partition_8 at h
  refine Rn.go 2 (j' := 262) (pc' := 8) (ls' := [some (.ref 61), some (.int x1), some (.int x2), some (.int ((x3 + 1)))]) (st' := []) (n' := 94) (M' := (I, J, xrf)) (fun f => rfl) ?_
  cases h; exact hC
theorem p_X12_partition_7 {L : Nat} {xs : Nat → Int32} {d : Nat} {Q : xO → Prop} (x1 : Int32) (x2 : Int32) (x3 : Int32) (I : xI) (J : xJ) {t : (Int32 × Int32 × Int32 × xI × xJ) ⊕ (Int32 × xI × xJ)} (h : f_X12_partition_7 x1 x2 x3 I J = some t) (hC : (c_X12_partition_2 L xs d Q) t) : Rn L xs (d + 7) 262 40 [some (.ref 61), some (.int x1), some (.int x2), some (.int x3)] [] 94 (I, J, xrf) Q := by
  unfold f_X12_partition_7 at h
  refine Rn.go 1 (j' := 262) (pc' := 43) (ls' := [some (.ref 61), some (.int x1), some (.int ((x2 + 1))), some (.int x3)]) (st' := []) (n' := 94) (M' := (I, J, xrf)) (fun f => rfl) ?_
  exact p_X12_partition_8 x1 ((x2 + 1)) x3 I J h hC
theorem p_X12_partition_6 {L : Nat} {xs : Nat → Int32} {d : Nat} {Q : xO → Prop} (x1 : Int32) (x2 : Int32) (x3 : Int32) (I : xI) (J : xJ) {t : Int32 × xI × xJ} (h : f_X12_partition_6 x1 x2 x3 I J = some t) (hC : (c_X12_partition Q) t) : Rn L xs (d + 7) 262 33 [some (.ref 61), some (.int x1), some (.int x2), some (.int x3)] [] 94 (I, J, xrf) Q := by
  unfold f_X12_partition_6 at h
  obtain ⟨hc, h⟩ := xif h
  refine Rn.ok 4 (c := x3 < 0 ∨ 203 ≤ x3.toNatClampNeg) (p1 := 39) (l1 := [some (.ref 61), some (.int x1), some (.int x2), some (.int x3)]) (s1 := [.int ((I 82 x3.toNatClampNeg))]) (n1 := 94) (M1 := (I, J, xrf)) (fun f => rfl) hc ?_
  cases h
  exact Rn.ret 1 (o := ((some (.int ((I 82 x3.toNatClampNeg)))), 94, (I, J, xrf))) (fun f => rfl) hC
theorem p_X12_partition_5 {L : Nat} {xs : Nat → Int32} {d : Nat} {Q : xO → Prop} (x1 : Int32) (x2 : Int32) (x3 : Int32) (I : xI) (J : xJ) {t : (Int32 × Int32 × Int32 × xI × xJ) ⊕ (Int32 × xI × xJ)} (h : f_X12_partition_5 x1 x2 x3 I J = some t) (hC : (c_X12_partition_2 L xs d Q) t) : Rn L xs (d + 7) 262 28 [some (.ref 61), some (.int x1), some (.int x2), some (.int x3)] [] 94 (I, J, xrf) Q := by
  unfold f_X12_partition_5 at h
  refine Rn.fi 3 (c := x2 = x1) (p1 := 33) (l1 := [some (.ref 61), some (.int x1), some (.int x2), some (.int x3)]) (s1 := []) (n1 := 94) (M1 := (I, J, xrf)) (p2 := 40) (l2 := [some (.ref 61), some (.int x1), some (.int x2), some (.int x3)]) (s2 := []) (n2 := 94) (M2 := (I, J, xrf)) (fun f => rfl) (fun hc => ?_) (fun hc => ?_)
  · rw [if_pos hc] at h
    obtain ⟨t0, h0, rfl⟩ := Option.map_eq_some_iff.mp h
    exact p_X12_partition_6 x1 x2 x3 I J h0 hC
  · rw [if_neg hc] at h
    exact p_X12_partition_7 x1 x2 x3 I J h hC
theorem p_X12_partition_4 {L : Nat} {xs : Nat → Int32} {d : Nat} {Q : xO → Prop} (x1 : Int32) (x2 : Int32) (x3 : Int32) (I : xI) (J : xJ) {t : (Int32 × Int32 × Int32 × xI × xJ) ⊕ (Int32 × xI × xJ)} (h : f_X12_partition_4 x1 x2 x3 I J = some t) (hC : (c_X12_partition_2 L xs d Q) t) : Rn L xs (d + 7) 262 25 [some (.ref 61), some (.int x1), some (.int x2), some (.int x3)] [] 94 (I, J, xrf) Q := by
  unfold f_X12_partition_4 at h
  refine Rn.go 1 (j' := 262) (pc' := 43) (ls' := [some (.ref 61), some (.int x1), some (.int x2), some (.int x3)]) (st' := []) (n' := 94) (M' := (I, J, xrf)) (fun f => rfl) ?_
  exact p_X12_partition_8 x1 x2 x3 I J h hC
theorem p_X12_partition_3 {L : Nat} {xs : Nat → Int32} {d : Nat} {Q : xO → Prop} (x1 : Int32) (x2 : Int32) (x3 : Int32) (I : xI) (J : xJ) {t : (Int32 × Int32 × Int32 × xI × xJ) ⊕ (Int32 × xI × xJ)} (h : f_X12_partition_3 x1 x2 x3 I J = some t) (hC : (c_X12_partition_2 L xs d Q) t) : Rn L xs (d + 7) 262 16 [some (.ref 61), some (.int x1), some (.int x2), some (.int x3)] [] 94 (I, J, xrf) Q := by
  unfold f_X12_partition_3 at h
  obtain ⟨hc, h⟩ := xif h
  refine Rn.ok 4 (c := x3 < 0 ∨ 203 ≤ x3.toNatClampNeg) (p1 := 22) (l1 := [some (.ref 61), some (.int x1), some (.int x2), some (.int x3)]) (s1 := [.int ((I 84 x3.toNatClampNeg))]) (n1 := 94) (M1 := (I, J, xrf)) (fun f => rfl) hc ?_
  refine Rn.fi 1 (c := (I 84 x3.toNatClampNeg) = 0) (p1 := 25) (l1 := [some (.ref 61), some (.int x1), some (.int x2), some (.int x3)]) (s1 := []) (n1 := 94) (M1 := (I, J, xrf)) (p2 := 28) (l2 := [some (.ref 61), some (.int x1), some (.int x2), some (.int x3)]) (s2 := []) (n2 := 94) (M2 := (I, J, xrf)) (fun f => rfl) (fun hc => ?_) (fun hc => ?_)
  · rw [if_pos hc] at h
    exact p_X12_partition_4 x1 x2 x3 I J h hC
  · rw [if_neg hc] at h
    exact p_X12_partition_5 x1 x2 x3 I J h hC
theorem q_X12_partition_2 {L : Nat} {xs : Nat → Int32} {d : Nat} {Q : xO → Prop} (x1 : Int32) (x2 : Int32) (x3 : Int32) (I : xI) (J : xJ) {t : (Int32 × Int32 × Int32 × xI × xJ) ⊕ (Int32 × xI × xJ)} (h : b_X12_partition_2 x1 x2 x3 I J = some t) (hC : (c_X12_partition_2 L xs d Q) t) : Rn L xs (d + 7) 262 8 [some (.ref 61), some (.int x1), some (.int x2), some (.int x3)] [] 94 (I, J, xrf) Q := by
  unfold b_X12_partition_2 at h
  refine Rn.fi 4 (c := (I 61 40) ≤ x3) (p1 := 49) (l1 := [some (.ref 61), some (.int x1), some (.int x2), some (.int x3)]) (s1 := []) (n1 := 94) (M1 := (I, J, xrf)) (p2 := 16) (l2 := [some (.ref 61), some (.int x1), some (.int x2), some (.int x3)]) (s2 := []) (n2 := 94) (M2 := (I, J, xrf)) (fun f => rfl) (fun hc => ?_) (fun hc => ?_)
  · rw [if_pos hc] at h
    obtain ⟨t0, h0, rfl⟩ := Option.map_eq_some_iff.mp h
    exact p_X12_partition_9 x1 x2 x3 I J h0 hC
  · rw [if_neg hc] at h
    exact p_X12_partition_3 x1 x2 x3 I J h hC
theorem p_X12_partition_2 {L : Nat} {xs : Nat → Int32} {d : Nat} {Q : xO → Prop} (x1 : Int32) (x2 : Int32) (x3 : Int32) (I : xI) (J : xJ) {t : Int32 × xI × xJ} (h : f_X12_partition_2 x1 x2 x3 I J = some t) (hC : (c_X12_partition Q) t) : Rn L xs (d + 7) 262 8 [some (.ref 61), some (.int x1), some (.int x2), some (.int x3)] [] 94 (I, J, xrf) Q := by
  unfold f_X12_partition_2 at h
  exact xloop_some (P := fun s : Int32 × Int32 × Int32 × xI × xJ => Rn L xs (d + 7) 262 8 [some (.ref 61), some (.int s.1), some (.int s.2.1), some (.int s.2.2.1)] [] 94 (s.2.2.2.1, s.2.2.2.2, xrf) Q) t (fun s ⟨s', hb, hp⟩ => q_X12_partition_2 s.1 s.2.1 s.2.2.1 s.2.2.2.1 s.2.2.2.2 hb hp) (fun s hb => q_X12_partition_2 s.1 s.2.1 s.2.2.1 s.2.2.2.1 s.2.2.2.2 hb hC) _ _ h
theorem p_X12_partition_1 {L : Nat} {xs : Nat → Int32} {d : Nat} {Q : xO → Prop} (x1 : Int32) (I : xI) (J : xJ) {t : Int32 × xI × xJ} (h : f_X12_partition_1 x1 I J = some t) (hC : (c_X12_partition Q) t) : Rn L xs (d + 7) 262 4 [some (.ref 61), some (.int x1), none, none] [] 94 (I, J, xrf) Q := by
  unfold f_X12_partition_1 at h
  refine Rn.go 4 (j' := 262) (pc' := 8) (ls' := [some (.ref 61), some (.int x1), some (.int 0), some (.int 0)]) (st' := []) (n' := 94) (M' := (I, J, xrf)) (fun f => rfl) ?_
  exact p_X12_partition_2 x1 0 0 I J h hC
theorem p_X12_partition_0 {L : Nat} {xs : Nat → Int32} {d : Nat} {Q : xO → Prop} (x1 : Int32) (I : xI) (J : xJ) {t : Int32 × xI × xJ} (h : f_X12_partition_0 x1 I J = some t) (hC : (c_X12_partition Q) t) : Rn L xs (d + 7) 262 0 [some (.ref 61), some (.int x1), none, none] [] 94 (I, J, xrf) Q := by
  unfold f_X12_partition_0 at h
  refine Rn.go 1 (j' := 262) (pc' := 1) (ls' := [some (.ref 61), some (.int x1), none, none]) (st' := [.ref 61]) (n' := 94) (M' := (I, J, xrf)) (fun f => rfl) ?_
  obtain ⟨o, ho, h⟩ := Option.bind_eq_some_iff.mp h
  refine Rn.call (d1 := d + 6) (j1 := 223) (ls1 := [some (.ref 61)]) (rest := []) (fun f => rfl) ?_
  refine p_X12_knows (d := d + 0) I J (t := o) ho ?_
  exact p_X12_partition_1 x1 o.2.1 o.2.2 h hC
theorem p_X12_partition {L : Nat} {xs : Nat → Int32} {d : Nat} {Q : xO → Prop} (x1 : Int32) (I : xI) (J : xJ) {t : Int32 × xI × xJ} (h : f_X12_partition x1 I J = some t) (hC : Q ((some (.int t.1)), 94, (t.2.1, t.2.2, xrf))) : Rn L xs (d + 7) 262 0 [some (.ref 61), some (.int x1), none, none] [] 94 (I, J, xrf) Q := p_X12_partition_0 x1 I J h hC
/-! X12_into -/
def c_X12_into (Q : xO → Prop) (t : Int32 × xI × xJ) : Prop := Q ((some (.int t.1)), 94, (t.2.1, t.2.2, xrf))
def c_X12_into_4 (L : Nat) (xs : Nat → Int32) (d : Nat) (Q : xO → Prop) (t : (Int32 × Int32 × Int32 × Int32 × xI × xJ) ⊕ (Int32 × xI × xJ)) : Prop := match t with
  | .inl s => Rn L xs (d + 8) 263 17 [some (.ref 61), some (.int s.1), some (.int s.2.1), some (.int s.2.2.1), some (.int s.2.2.2.1)] [] 94 (s.2.2.2.2.1, s.2.2.2.2.2, xrf) Q
  | .inr t => (c_X12_into Q) t
def f_X12_into_11 (x1 : Int32) (x2 : Int32) (x3 : Int32) (x4 : Int32) (I : xI) (J : xJ) : Option (Int32 × xI × xJ) := if x3 < 0 ∨ 203 ≤ x3.toNatClampNeg then none else some ((I 82 x3.toNatClampNeg), I, J)
def f_X12_into_10 (x1 : Int32) (x2 : Int32) (x3 : Int32) (x4 : Int32) (I : xI) (J : xJ) : Option ((Int32 × Int32 × Int32 × Int32 × xI × xJ) ⊕ (Int32 × xI × xJ)) := some (.inl (x1, x2, x3, ((x4 + 1)), I, J))
def f_X12_into_9 (x1 : Int32) (x2 : Int32) (x3 : Int32) (x4 : Int32) (I : xI) (J : xJ) : Option ((Int32 × Int32 × Int32 × Int32 × xI × xJ) ⊕ (Int32 × xI × xJ)) := f_X12_into_10 x1 x2 x4 x4 I J
def f_X12_into_8 (x1 : Int32) (x2 : Int32) (x3 : Int32) (x4 : Int32) (I : xI) (J : xJ) : Option ((Int32 × Int32 × Int32 × Int32 × xI × xJ) ⊕ (Int32 × xI × xJ)) := if x4 < 0 ∨ 203 ≤ x4.toNatClampNeg then none else if x3 < 0 ∨ 203 ≤ x3.toNatClampNeg then none else if (I 83 x4.toNatClampNeg) ≤ (I 83 x3.toNatClampNeg) then f_X12_into_10 x1 x2 x3 x4 I J else f_X12_into_9 x1 x2 x3 x4 I J
def f_X12_into_7 (x1 : Int32) (x2 : Int32) (x3 : Int32) (x4 : Int32) (I : xI) (J : xJ) : Option ((Int32 × Int32 × Int32 × Int32 × xI × xJ) ⊕ (Int32 × xI × xJ)) := if x3 < 0 then f_X12_into_9 x1 x2 x3 x4 I J else f_X12_into_8 x1 x2 x3 x4 I J
def f_X12_into_6 (x1 : Int32) (x2 : Int32) (x3 : Int32) (x4 : Int32) (s0 : Int32) (I : xI) (J : xJ) : Option ((Int32 × Int32 × Int32 × Int32 × xI × xJ) ⊕ (Int32 × xI × xJ)) := if s0 = 0 then f_X12_into_10 x1 x2 x3 x4 I J else f_X12_into_7 x1 x2 x3 x4 I J
def f_X12_into_5 (x1 : Int32) (x2 : Int32) (x3 : Int32) (x4 : Int32) (I : xI) (J : xJ) : Option ((Int32 × Int32 × Int32 × Int32 × xI × xJ) ⊕ (Int32 × xI × xJ)) := (f_X12_doesGo x2 x4 I J).bind fun o => f_X12_into_6 x1 x2 x3 x4 o.1 o.2.1 o.2.2
def b_X12_into_4 (x1 : Int32) (x2 : Int32) (x3 : Int32) (x4 : Int32) (I : xI) (J : xJ) : Option ((Int32 × Int32 × Int32 × Int32 × xI × xJ) ⊕ (Int32 × xI × xJ)) := if (I 61 40) ≤ x4 then ((f_X12_into_11 x1 x2 x3 x4 I J)).map .inr else f_X12_into_5 x1 x2 x3 x4 I J
def f_X12_into_4 (x1 : Int32) (x2 : Int32) (x3 : Int32) (x4 : Int32) (I : xI) (J : xJ) : Option (Int32 × xI × xJ) := xloop (fun s : Int32 × Int32 × Int32 × Int32 × xI × xJ => b_X12_into_4 s.1 s.2.1 s.2.2.1 s.2.2.2.1 s.2.2.2.2.1 s.2.2.2.2.2) 5000 (x1, x2, x3, x4, I, J)
def f_X12_into_3 (x1 : Int32) (x2 : Int32) (I : xI) (J : xJ) : Option (Int32 × xI × xJ) := f_X12_into_4 x1 x2 ((-1)) 0 I J
def f_X12_into_2 (x1 : Int32) (x2 : Int32) (I : xI) (J : xJ) : Option (Int32 × xI × xJ) := some ((-1), I, J)
def f_X12_into_1 (x1 : Int32) (s0 : Int32) (I : xI) (J : xJ) : Option (Int32 × xI × xJ) := if 0 ≤ s0 then f_X12_into_3 x1 s0 I J else f_X12_into_2 x1 s0 I J
def f_X12_into_0 (x1 : Int32) (I : xI) (J : xJ) : Option (Int32 × xI × xJ) := (f_X12_placeOf x1 I J).bind fun o => f_X12_into_1 x1 o.1 o.2.1 o.2.2
def f_X12_into (x1 : Int32) (I : xI) (J : xJ) : Option (Int32 × xI × xJ) := f_X12_into_0 x1 I J
theorem p_X12_into_11 {L : Nat} {xs : Nat → Int32} {d : Nat} {Q : xO → Prop} (x1 : Int32) (x2 : Int32) (x3 : Int32) (x4 : Int32) (I : xI) (J : xJ) {t : Int32 × xI × xJ} (h : f_X12_into_11 x1 x2 x3 x4 I J = some t) (hC : (c_X12_into Q) t) : Rn L xs (d + 8) 263 65 [some (.ref 61), some (.int x1), some (.int x2), some (.int x3), some (.int x4)] [] 94 (I, J, xrf) Q := by
  unfold f_X12_into_11 at h
  obtain ⟨hc, h⟩ := xif h
  refine Rn.ok 4 (c := x3 < 0 ∨ 203 ≤ x3.toNatClampNeg) (p1 := 71) (l1 := [some (.ref 61), some (.int x1), some (.int x2), some (.int x3), some (.int x4)]) (s1 := [.int ((I 82 x3.toNatClampNeg))]) (n1 := 94) (M1 := (I, J, xrf)) (fun f => rfl) hc ?_
  cases h
  exact Rn.ret 1 (o := ((some (.int ((I 82 x3.toNatClampNeg)))), 94, (I, J, xrf))) (fun f => rfl) hC
theorem p_X12_into_10 {L : Nat} {xs : Nat → Int32} {d : Nat} {Q : xO → Prop} (x1 : Int32) (x2 : Int32) (x3 : Int32) (x4 : Int32) (I : xI) (J : xJ) {t : (Int32 × Int32 × Int32 × Int32 × xI × xJ) ⊕ (Int32 × xI × xJ)} (h : f_X12_into_10 x1 x2 x3 x4 I J = some t) (hC : (c_X12_into_4 L xs d Q) t) : Rn L xs (d + 8) 263 59 [some (.ref 61), some (.int x1), some (.int x2), some (.int x3), some (.int x4)] [] 94 (I, J, xrf) Q := by
  unfold f_X12_into_10 at h
  refine Rn.go 2 (j' := 263) (pc' := 17) (ls' := [some (.ref 61), some (.int x1), some (.int x2), some (.int x3), some (.int ((x4 + 1)))]) (st' := []) (n' := 94) (M' := (I, J, xrf)) (fun f => rfl) ?_
  cases h; exact hC
theorem p_X12_into_9 {L : Nat} {xs : Nat → Int32} {d : Nat} {Q : xO → Prop} (x1 : Int32) (x2 : Int32) (x3 : Int32) (x4 : Int32) (I : xI) (J : xJ) {t : (Int32 × Int32 × Int32 × Int32 × xI × xJ) ⊕ (Int32 × xI × xJ)} (h : f_X12_into_9 x1 x2 x3 x4 I J = some t) (hC : (c_X12_into_4 L xs d Q) t) : Rn L xs (d + 8) 263 56 [some (.ref 61), some (.int x1), some (.int x2), some (.int x3), some (.int x4)] [] 94 (I, J, xrf) Q := by
  unfold f_X12_into_9 at h
  refine Rn.go 2 (j' := 263) (pc' := 59) (ls' := [some (.ref 61), some (.int x1), some (.int x2), some (.int x4), some (.int x4)]) (st' := []) (n' := 94) (M' := (I, J, xrf)) (fun f => rfl) ?_
  exact p_X12_into_10 x1 x2 x4 x4 I J h hC
theorem p_X12_into_8 {L : Nat} {xs : Nat → Int32} {d : Nat} {Q : xO → Prop} (x1 : Int32) (x2 : Int32) (x3 : Int32) (x4 : Int32) (I : xI) (J : xJ) {t : (Int32 × Int32 × Int32 × Int32 × xI × xJ) ⊕ (Int32 × xI × xJ)} (h : f_X12_into_8 x1 x2 x3 x4 I J = some t) (hC : (c_X12_into_4 L xs d Q) t) : Rn L xs (d + 8) 263 40 [some (.ref 61), some (.int x1), some (.int x2), some (.int x3), some (.int x4)] [] 94 (I, J, xrf) Q := by
  unfold f_X12_into_8 at h
  obtain ⟨hc, h⟩ := xif h
  refine Rn.ok 4 (c := x4 < 0 ∨ 203 ≤ x4.toNatClampNeg) (p1 := 47) (l1 := [some (.ref 61), some (.int x1), some (.int x2), some (.int x3), some (.int x4)]) (s1 := [.int ((I 83 x4.toNatClampNeg))]) (n1 := 94) (M1 := (I, J, xrf)) (fun f => rfl) hc ?_
  obtain ⟨hc, h⟩ := xif h
  refine Rn.ok 4 (c := x3 < 0 ∨ 203 ≤ x3.toNatClampNeg) (p1 := 53) (l1 := [some (.ref 61), some (.int x1), some (.int x2), some (.int x3), some (.int x4)]) (s1 := [.int ((I 83 x3.toNatClampNeg)), .int ((I 83 x4.toNatClampNeg))]) (n1 := 94) (M1 := (I, J, xrf)) (fun f => rfl) hc ?_
  refine Rn.fi 1 (c := (I 83 x4.toNatClampNeg) ≤ (I 83 x3.toNatClampNeg)) (p1 := 59) (l1 := [some (.ref 61), some (.int x1), some (.int x2), some (.int x3), some (.int x4)]) (s1 := []) (n1 := 94) (M1 := (I, J, xrf)) (p2 := 56) (l2 := [some (.ref 61), some (.int x1), some (.int x2), some (.int x3), some (.int x4)]) (s2 := []) (n2 := 94) (M2 := (I, J, xrf)) (fun f => rfl) (fun hc => ?_) (fun hc => ?_)
  · rw [if_pos hc] at h
    exact p_X12_into_10 x1 x2 x3 x4 I J h hC
  · rw [if_neg hc] at h
    exact p_X12_into_9 x1 x2 x3 x4 I J h hC
theorem p_X12_into_7 {L : Nat} {xs : Nat → Int32} {d : Nat} {Q : xO → Prop} (x1 : Int32) (x2 : Int32) (x3 : Int32) (x4 : Int32) (I : xI) (J : xJ) {t : (Int32 × Int32 × Int32 × Int32 × xI × xJ) ⊕ (Int32 × xI × xJ)} (h : f_X12_into_7 x1 x2 x3 x4 I J = some t) (hC : (c_X12_into_4 L xs d Q) t) : Rn L xs (d + 8) 263 36 [some (.ref 61), some (.int x1), some (.int x2), some (.int x3), some (.int x4)] [] 94 (I, J, xrf) Q := by
  unfold f_X12_into_7 at h
  refine Rn.fi 2 (c := x3 < 0) (p1 := 56) (l1 := [some (.ref 61), some (.int x1), some (.int x2), some (.int x3), some (.int x4)]) (s1 := []) (n1 := 94) (M1 := (I, J, xrf)) (p2 := 40) (l2 := [some (.ref 61), some (.int x1), some (.int x2), some (.int x3), some (.int x4)]) (s2 := []) (n2 := 94) (M2 := (I, J, xrf)) (fun f => rfl) (fun hc => ?_) (fun hc => ?_)
  · rw [if_pos hc] at h
    exact p_X12_into_9 x1 x2 x3 x4 I J h hC
  · rw [if_neg hc] at h
    exact p_X12_into_8 x1 x2 x3 x4 I J h hC
theorem p_X12_into_6 {L : Nat} {xs : Nat → Int32} {d : Nat} {Q : xO → Prop} (x1 : Int32) (x2 : Int32) (x3 : Int32) (x4 : Int32) (s0 : Int32) (I : xI) (J : xJ) {t : (Int32 × Int32 × Int32 × Int32 × xI × xJ) ⊕ (Int32 × xI × xJ)} (h : f_X12_into_6 x1 x2 x3 x4 s0 I J = some t) (hC : (c_X12_into_4 L xs d Q) t) : Rn L xs (d + 8) 263 33 [some (.ref 61), some (.int x1), some (.int x2), some (.int x3), some (.int x4)] [.int s0] 94 (I, J, xrf) Q := by
  unfold f_X12_into_6 at h
  refine Rn.fi 1 (c := s0 = 0) (p1 := 59) (l1 := [some (.ref 61), some (.int x1), some (.int x2), some (.int x3), some (.int x4)]) (s1 := []) (n1 := 94) (M1 := (I, J, xrf)) (p2 := 36) (l2 := [some (.ref 61), some (.int x1), some (.int x2), some (.int x3), some (.int x4)]) (s2 := []) (n2 := 94) (M2 := (I, J, xrf)) (fun f => rfl) (fun hc => ?_) (fun hc => ?_)
  · rw [if_pos hc] at h
    exact p_X12_into_10 x1 x2 x3 x4 I J h hC
  · rw [if_neg hc] at h
    exact p_X12_into_7 x1 x2 x3 x4 I J h hC
theorem p_X12_into_5 {L : Nat} {xs : Nat → Int32} {d : Nat} {Q : xO → Prop} (x1 : Int32) (x2 : Int32) (x3 : Int32) (x4 : Int32) (I : xI) (J : xJ) {t : (Int32 × Int32 × Int32 × Int32 × xI × xJ) ⊕ (Int32 × xI × xJ)} (h : f_X12_into_5 x1 x2 x3 x4 I J = some t) (hC : (c_X12_into_4 L xs d Q) t) : Rn L xs (d + 8) 263 26 [some (.ref 61), some (.int x1), some (.int x2), some (.int x3), some (.int x4)] [] 94 (I, J, xrf) Q := by
  unfold f_X12_into_5 at h
  refine Rn.go 3 (j' := 263) (pc' := 30) (ls' := [some (.ref 61), some (.int x1), some (.int x2), some (.int x3), some (.int x4)]) (st' := [.int x4, .int x2, .ref 61]) (n' := 94) (M' := (I, J, xrf)) (fun f => rfl) ?_
  obtain ⟨o, ho, h⟩ := Option.bind_eq_some_iff.mp h
  refine Rn.call (d1 := d + 7) (j1 := 258) (ls1 := [some (.ref 61), some (.int x2), some (.int x4), none, none, none]) (rest := []) (fun f => rfl) ?_
  refine p_X12_doesGo (d := d + 5) x2 x4 I J (t := o) ho ?_
  exact p_X12_into_6 x1 x2 x3 x4 o.1 o.2.1 o.2.2 h hC
theorem q_X12_into_4 {L : Nat} {xs : Nat → Int32} {d : Nat} {Q : xO → Prop} (x1 : Int32) (x2 : Int32) (x3 : Int32) (x4 : Int32) (I : xI) (J : xJ) {t : (Int32 × Int32 × Int32 × Int32 × xI × xJ) ⊕ (Int32 × xI × xJ)} (h : b_X12_into_4 x1 x2 x3 x4 I J = some t) (hC : (c_X12_into_4 L xs d Q) t) : Rn L xs (d + 8) 263 17 [some (.ref 61), some (.int x1), some (.int x2), some (.int x3), some (.int x4)] [] 94 (I, J, xrf) Q := by
  unfold b_X12_into_4 at h
  refine Rn.fi 4 (c := (I 61 40) ≤ x4) (p1 := 65) (l1 := [some (.ref 61), some (.int x1), some (.int x2), some (.int x3), some (.int x4)]) (s1 := []) (n1 := 94) (M1 := (I, J, xrf)) (p2 := 26) (l2 := [some (.ref 61), some (.int x1), some (.int x2), some (.int x3), some (.int x4)]) (s2 := []) (n2 := 94) (M2 := (I, J, xrf)) (fun f => rfl) (fun hc => ?_) (fun hc => ?_)
  · rw [if_pos hc] at h
    obtain ⟨t0, h0, rfl⟩ := Option.map_eq_some_iff.mp h
    exact p_X12_into_11 x1 x2 x3 x4 I J h0 hC
  · rw [if_neg hc] at h
    exact p_X12_into_5 x1 x2 x3 x4 I J h hC
theorem p_X12_into_4 {L : Nat} {xs : Nat → Int32} {d : Nat} {Q : xO → Prop} (x1 : Int32) (x2 : Int32) (x3 : Int32) (x4 : Int32) (I : xI) (J : xJ) {t : Int32 × xI × xJ} (h : f_X12_into_4 x1 x2 x3 x4 I J = some t) (hC : (c_X12_into Q) t) : Rn L xs (d + 8) 263 17 [some (.ref 61), some (.int x1), some (.int x2), some (.int x3), some (.int x4)] [] 94 (I, J, xrf) Q := by
  unfold f_X12_into_4 at h
  exact xloop_some (P := fun s : Int32 × Int32 × Int32 × Int32 × xI × xJ => Rn L xs (d + 8) 263 17 [some (.ref 61), some (.int s.1), some (.int s.2.1), some (.int s.2.2.1), some (.int s.2.2.2.1)] [] 94 (s.2.2.2.2.1, s.2.2.2.2.2, xrf) Q) t (fun s ⟨s', hb, hp⟩ => q_X12_into_4 s.1 s.2.1 s.2.2.1 s.2.2.2.1 s.2.2.2.2.1 s.2.2.2.2.2 hb hp) (fun s hb => q_X12_into_4 s.1 s.2.1 s.2.2.1 s.2.2.2.1 s.2.2.2.2.1 s.2.2.2.2.2 hb hC) _ _ h
theorem p_X12_into_3 {L : Nat} {xs : Nat → Int32} {d : Nat} {Q : xO → Prop} (x1 : Int32) (x2 : Int32) (I : xI) (J : xJ) {t : Int32 × xI × xJ} (h : f_X12_into_3 x1 x2 I J = some t) (hC : (c_X12_into Q) t) : Rn L xs (d + 8) 263 12 [some (.ref 61), some (.int x1), some (.int x2), none, none] [] 94 (I, J, xrf) Q := by
  unfold f_X12_into_3 at h
  refine Rn.go 4 (j' := 263) (pc' := 17) (ls' := [some (.ref 61), some (.int x1), some (.int x2), some (.int ((-1))), some (.int 0)]) (st' := []) (n' := 94) (M' := (I, J, xrf)) (fun f => rfl) ?_
  exact p_X12_into_4 x1 x2 ((-1)) 0 I J h hC
theorem p_X12_into_2 {L : Nat} {xs : Nat → Int32} {d : Nat} {Q : xO → Prop} (x1 : Int32) (x2 : Int32) (I : xI) (J : xJ) {t : Int32 × xI × xJ} (h : f_X12_into_2 x1 x2 I J = some t) (hC : (c_X12_into Q) t) : Rn L xs (d + 8) 263 10 [some (.ref 61), some (.int x1), some (.int x2), none, none] [] 94 (I, J, xrf) Q := by
  unfold f_X12_into_2 at h
  cases h
  exact Rn.ret 2 (o := ((some (.int ((-1)))), 94, (I, J, xrf))) (fun f => rfl) hC
theorem p_X12_into_1 {L : Nat} {xs : Nat → Int32} {d : Nat} {Q : xO → Prop} (x1 : Int32) (s0 : Int32) (I : xI) (J : xJ) {t : Int32 × xI × xJ} (h : f_X12_into_1 x1 s0 I J = some t) (hC : (c_X12_into Q) t) : Rn L xs (d + 8) 263 5 [some (.ref 61), some (.int x1), none, none, none] [.int s0] 94 (I, J, xrf) Q := by
  unfold f_X12_into_1 at h
  refine Rn.fi 3 (c := 0 ≤ s0) (p1 := 12) (l1 := [some (.ref 61), some (.int x1), some (.int s0), none, none]) (s1 := []) (n1 := 94) (M1 := (I, J, xrf)) (p2 := 10) (l2 := [some (.ref 61), some (.int x1), some (.int s0), none, none]) (s2 := []) (n2 := 94) (M2 := (I, J, xrf)) (fun f => rfl) (fun hc => ?_) (fun hc => ?_)
  · rw [if_pos hc] at h
    exact p_X12_into_3 x1 s0 I J h hC
  · rw [if_neg hc] at h
    exact p_X12_into_2 x1 s0 I J h hC
theorem p_X12_into_0 {L : Nat} {xs : Nat → Int32} {d : Nat} {Q : xO → Prop} (x1 : Int32) (I : xI) (J : xJ) {t : Int32 × xI × xJ} (h : f_X12_into_0 x1 I J = some t) (hC : (c_X12_into Q) t) : Rn L xs (d + 8) 263 0 [some (.ref 61), some (.int x1), none, none, none] [] 94 (I, J, xrf) Q := by
  unfold f_X12_into_0 at h
  refine Rn.go 2 (j' := 263) (pc' := 2) (ls' := [some (.ref 61), some (.int x1), none, none, none]) (st' := [.int x1, .ref 61]) (n' := 94) (M' := (I, J, xrf)) (fun f => rfl) ?_
  obtain ⟨o, ho, h⟩ := Option.bind_eq_some_iff.mp h
  refine Rn.call (d1 := d + 7) (j1 := 259) (ls1 := [some (.ref 61), some (.int x1), none]) (rest := []) (fun f => rfl) ?_
  refine p_X12_placeOf (d := d + 0) x1 I J (t := o) ho ?_
  exact p_X12_into_1 x1 o.1 o.2.1 o.2.2 h hC
theorem p_X12_into {L : Nat} {xs : Nat → Int32} {d : Nat} {Q : xO → Prop} (x1 : Int32) (I : xI) (J : xJ) {t : Int32 × xI × xJ} (h : f_X12_into x1 I J = some t) (hC : Q ((some (.int t.1)), 94, (t.2.1, t.2.2, xrf))) : Rn L xs (d + 8) 263 0 [some (.ref 61), some (.int x1), none, none, none] [] 94 (I, J, xrf) Q := p_X12_into_0 x1 I J h hC
/-! X12_areAll -/
def c_X12_areAll (Q : xO → Prop) (t : Int32 × xI × xJ) : Prop := Q ((some (.int t.1)), 94, (t.2.1, t.2.2, xrf))
def c_X12_areAll_1 (L : Nat) (xs : Nat → Int32) (d : Nat) (Q : xO → Prop) (t : (Int32 × Int32 × Int32 × (Option Value) × xI × xJ) ⊕ (Int32 × xI × xJ)) : Prop := match t with
  | .inl s => Rn L xs (d + 1) 264 2 [some (.ref 61), some (.int s.1), some (.int s.2.1), some (.int s.2.2.1), s.2.2.2.1] [] 94 (s.2.2.2.2.1, s.2.2.2.2.2, xrf) Q
  | .inr t => (c_X12_areAll Q) t
def c_X12_areAll_3 (L : Nat) (xs : Nat → Int32) (d : Nat) (Q : xO → Prop) (t : (Int32 × Int32 × Int32 × Int32 × xI × xJ) ⊕ ((Int32 × Int32 × Int32 × (Option Value) × xI × xJ) ⊕ (Int32 × xI × xJ))) : Prop := match t with
  | .inl s => Rn L xs (d + 1) 264 13 [some (.ref 61), some (.int s.1), some (.int s.2.1), some (.int s.2.2.1), some (.int s.2.2.2.1)] [] 94 (s.2.2.2.2.1, s.2.2.2.2.2, xrf) Q
  | .inr t => (c_X12_areAll_1 L xs d Q) t
def f_X12_areAll_9 (x1 : Int32) (x2 : Int32) (x3 : Int32) (z4 : Option Value) (I : xI) (J : xJ) : Option (Int32 × xI × xJ) := some (1, I, J)
def f_X12_areAll_8 (x1 : Int32) (x2 : Int32) (x3 : Int32) (x4 : Int32) (I : xI) (J : xJ) : Option ((Int32 × Int32 × Int32 × (Option Value) × xI × xJ) ⊕ (Int32 × xI × xJ)) := some (.inl (x1, x2, ((x3 + 1)), (some (.int x4)), I, J))
def f_X12_areAll_7 (x1 : Int32) (x2 : Int32) (x3 : Int32) (x4 : Int32) (I : xI) (J : xJ) : Option ((Int32 × Int32 × Int32 × Int32 × xI × xJ) ⊕ ((Int32 × Int32 × Int32 × (Option Value) × xI × xJ) ⊕ (Int32 × xI × xJ))) := some (.inl (x1, x2, x3, ((x4 + 1)), I, J))
def f_X12_areAll_6 (x1 : Int32) (x2 : Int32) (x3 : Int32) (x4 : Int32) (I : xI) (J : xJ) : Option (Int32 × xI × xJ) := some (0, I, J)
def f_X12_areAll_5 (x1 : Int32) (x2 : Int32) (x3 : Int32) (x4 : Int32) (I : xI) (J : xJ) : Option ((Int32 × Int32 × Int32 × Int32 × xI × xJ) ⊕ ((Int32 × Int32 × Int32 × (Option Value) × xI × xJ) ⊕ (Int32 × xI × xJ))) := if ((6 * x2) + x3) < 0 ∨ 1218 ≤ (((6 * x2) + x3)).toNatClampNeg then none else if ((6 * x2) + x4) < 0 ∨ 1218 ≤ (((6 * x2) + x4)).toNatClampNeg then none else if (I 85 (((6 * x2) + x3)).toNatClampNeg) = (I 85 (((6 * x2) + x4)).toNatClampNeg) then (((f_X12_areAll_6 x1 x2 x3 x4 I J)).map .inr).map .inr else f_X12_areAll_7 x1 x2 x3 x4 I J
def f_X12_areAll_4 (x1 : Int32) (x2 : Int32) (x3 : Int32) (x4 : Int32) (I : xI) (J : xJ) : Option ((Int32 × Int32 × Int32 × Int32 × xI × xJ) ⊕ ((Int32 × Int32 × Int32 × (Option Value) × xI × xJ) ⊕ (Int32 × xI × xJ))) := if ((6 * x1) + x3) < 0 ∨ 1218 ≤ (((6 * x1) + x3)).toNatClampNeg then none else if ((6 * x1) + x4) < 0 ∨ 1218 ≤ (((6 * x1) + x4)).toNatClampNeg then none else if (I 85 (((6 * x1) + x3)).toNatClampNeg) = (I 85 (((6 * x1) + x4)).toNatClampNeg) then f_X12_areAll_5 x1 x2 x3 x4 I J else f_X12_areAll_7 x1 x2 x3 x4 I J
def b_X12_areAll_3 (x1 : Int32) (x2 : Int32) (x3 : Int32) (x4 : Int32) (I : xI) (J : xJ) : Option ((Int32 × Int32 × Int32 × Int32 × xI × xJ) ⊕ ((Int32 × Int32 × Int32 × (Option Value) × xI × xJ) ⊕ (Int32 × xI × xJ))) := if x3 ≤ x4 then ((f_X12_areAll_8 x1 x2 x3 x4 I J)).map .inr else f_X12_areAll_4 x1 x2 x3 x4 I J
def f_X12_areAll_3 (x1 : Int32) (x2 : Int32) (x3 : Int32) (x4 : Int32) (I : xI) (J : xJ) : Option ((Int32 × Int32 × Int32 × (Option Value) × xI × xJ) ⊕ (Int32 × xI × xJ)) := xloop (fun s : Int32 × Int32 × Int32 × Int32 × xI × xJ => b_X12_areAll_3 s.1 s.2.1 s.2.2.1 s.2.2.2.1 s.2.2.2.2.1 s.2.2.2.2.2) 5000 (x1, x2, x3, x4, I, J)
def f_X12_areAll_2 (x1 : Int32) (x2 : Int32) (x3 : Int32) (z4 : Option Value) (I : xI) (J : xJ) : Option ((Int32 × Int32 × Int32 × (Option Value) × xI × xJ) ⊕ (Int32 × xI × xJ)) := f_X12_areAll_3 x1 x2 x3 0 I J
def b_X12_areAll_1 (x1 : Int32) (x2 : Int32) (x3 : Int32) (z4 : Option Value) (I : xI) (J : xJ) : Option ((Int32 × Int32 × Int32 × (Option Value) × xI × xJ) ⊕ (Int32 × xI × xJ)) := if (I 61 17) ≤ x3 then ((f_X12_areAll_9 x1 x2 x3 z4 I J)).map .inr else f_X12_areAll_2 x1 x2 x3 z4 I J
def f_X12_areAll_1 (x1 : Int32) (x2 : Int32) (x3 : Int32) (z4 : Option Value) (I : xI) (J : xJ) : Option (Int32 × xI × xJ) := xloop (fun s : Int32 × Int32 × Int32 × (Option Value) × xI × xJ => b_X12_areAll_1 s.1 s.2.1 s.2.2.1 s.2.2.2.1 s.2.2.2.2.1 s.2.2.2.2.2) 5000 (x1, x2, x3, z4, I, J)
def f_X12_areAll_0 (x1 : Int32) (x2 : Int32) (I : xI) (J : xJ) : Option (Int32 × xI × xJ) := f_X12_areAll_1 x1 x2 0 none I J
def f_X12_areAll (x1 : Int32) (x2 : Int32) (I : xI) (J : xJ) : Option (Int32 × xI × xJ) := f_X12_areAll_0 x1 x2 I J
theorem p_X12_areAll_9 {L : Nat} {xs : Nat → Int32} {d : Nat} {Q : xO → Prop} (x1 : Int32) (x2 : Int32) (x3 : Int32) (z4 : Option Value) (I : xI) (J : xJ) {t : Int32 × xI × xJ} (h : f_X12_areAll_9 x1 x2 x3 z4 I J = some t) (hC : (c_X12_areAll Q) t) : Rn L xs (d + 1) 264 85 [some (.ref 61), some (.int x1), some (.int x2), some (.int x3), z4] [] 94 (I, J, xrf) Q := by
  unfold f_X12_areAll_9 at h
  cases h
  exact Rn.ret 2 (o := ((some (.int 1)), 94, (I, J, xrf))) (fun f => rfl) hC
theorem p_X12_areAll_8 {L : Nat} {xs : Nat → Int32} {d : Nat} {Q : xO → Prop} (x1 : Int32) (x2 : Int32) (x3 : Int32) (x4 : Int32) (I : xI) (J : xJ) {t : (Int32 × Int32 × Int32 × (Option Value) × xI × xJ) ⊕ (Int32 × xI × xJ)} (h : f_X12_areAll_8 x1 x2 x3 x4 I J = some t) (hC : (c_X12_areAll_1 L xs d Q) t) : Rn L xs (d + 1) 264 79 [some (.ref 61), some (.int x1), some (.int x2), some (.int x3), some (.int x4)] [] 94 (I, J, xrf) Q := by
  unfold f_X12_areAll_8 at h
  refine Rn.go 2 (j' := 264) (pc' := 2) (ls' := [some (.ref 61), some (.int x1), some (.int x2), some (.int ((x3 + 1))), some (.int x4)]) (st' := []) (n' := 94) (M' := (I, J, xrf)) (fun f => rfl) ?_
  cases h; exact hC
theorem p_X12_areAll_7 {L : Nat} {xs : Nat → Int32} {d : Nat} {Q : xO → Prop} (x1 : Int32) (x2 : Int32) (x3 : Int32) (x4 : Int32) (I : xI) (J : xJ) {t : (Int32 × Int32 × Int32 × Int32 × xI × xJ) ⊕ ((Int32 × Int32 × Int32 × (Option Value) × xI × xJ) ⊕ (Int32 × xI × xJ))} (h : f_X12_areAll_7 x1 x2 x3 x4 I J = some t) (hC : (c_X12_areAll_3 L xs d Q) t) : Rn L xs (d + 1) 264 73 [some (.ref 61), some (.int x1), some (.int x2), some (.int x3), some (.int x4)] [] 94 (I, J, xrf) Q := by
  unfold f_X12_areAll_7 at h
  refine Rn.go 2 (j' := 264) (pc' := 13) (ls' := [some (.ref 61), some (.int x1), some (.int x2), some (.int x3), some (.int ((x4 + 1)))]) (st' := []) (n' := 94) (M' := (I, J, xrf)) (fun f => rfl) ?_
  cases h; exact hC
theorem p_X12_areAll_6 {L : Nat} {xs : Nat → Int32} {d : Nat} {Q : xO → Prop} (x1 : Int32) (x2 : Int32) (x3 : Int32) (x4 : Int32) (I : xI) (J : xJ) {t : Int32 × xI × xJ} (h : f_X12_areAll_6 x1 x2 x3 x4 I J = some t) (hC : (c_X12_areAll Q) t) : Rn L xs (d + 1) 264 71 [some (.ref 61), some (.int x1), some (.int x2), some (.int x3), some (.int x4)] [] 94 (I, J, xrf) Q := by
  unfold f_X12_areAll_6 at h
  cases h
  exact Rn.ret 2 (o := ((some (.int 0)), 94, (I, J, xrf))) (fun f => rfl) hC
theorem p_X12_areAll_5 {L : Nat} {xs : Nat → Int32} {d : Nat} {Q : xO → Prop} (x1 : Int32) (x2 : Int32) (x3 : Int32) (x4 : Int32) (I : xI) (J : xJ) {t : (Int32 × Int32 × Int32 × Int32 × xI × xJ) ⊕ ((Int32 × Int32 × Int32 × (Option Value) × xI × xJ) ⊕ (Int32 × xI × xJ))} (h : f_X12_areAll_5 x1 x2 x3 x4 I J = some t) (hC : (c_X12_areAll_3 L xs d Q) t) : Rn L xs (d + 1) 264 45 [some (.ref 61), some (.int x1), some (.int x2), some (.int x3), some (.int x4)] [] 94 (I, J, xrf) Q := by
  unfold f_X12_areAll_5 at h
  obtain ⟨hc, h⟩ := xif h
  refine Rn.ok 8 (c := ((6 * x2) + x3) < 0 ∨ 1218 ≤ (((6 * x2) + x3)).toNatClampNeg) (p1 := 56) (l1 := [some (.ref 61), some (.int x1), some (.int x2), some (.int x3), some (.int x4)]) (s1 := [.int ((I 85 (((6 * x2) + x3)).toNatClampNeg))]) (n1 := 94) (M1 := (I, J, xrf)) (fun f => rfl) hc ?_
  obtain ⟨hc, h⟩ := xif h
  refine Rn.ok 8 (c := ((6 * x2) + x4) < 0 ∨ 1218 ≤ (((6 * x2) + x4)).toNatClampNeg) (p1 := 68) (l1 := [some (.ref 61), some (.int x1), some (.int x2), some (.int x3), some (.int x4)]) (s1 := [.int ((I 85 (((6 * x2) + x4)).toNatClampNeg)), .int ((I 85 (((6 * x2) + x3)).toNatClampNeg))]) (n1 := 94) (M1 := (I, J, xrf)) (fun f => rfl) hc ?_
  refine Rn.fi 1 (c := (I 85 (((6 * x2) + x3)).toNatClampNeg) = (I 85 (((6 * x2) + x4)).toNatClampNeg)) (p1 := 71) (l1 := [some (.ref 61), some (.int x1), some (.int x2), some (.int x3), some (.int x4)]) (s1 := []) (n1 := 94) (M1 := (I, J, xrf)) (p2 := 73) (l2 := [some (.ref 61), some (.int x1), some (.int x2), some (.int x3), some (.int x4)]) (s2 := []) (n2 := 94) (M2 := (I, J, xrf)) (fun f => rfl) (fun hc => ?_) (fun hc => ?_)
  · rw [if_pos hc] at h
    obtain ⟨t0, h0, rfl⟩ := Option.map_eq_some_iff.mp h
    obtain ⟨t1, h1, rfl⟩ := Option.map_eq_some_iff.mp h0
    exact p_X12_areAll_6 x1 x2 x3 x4 I J h1 hC
  · rw [if_neg hc] at h
    exact p_X12_areAll_7 x1 x2 x3 x4 I J h hC
theorem p_X12_areAll_4 {L : Nat} {xs : Nat → Int32} {d : Nat} {Q : xO → Prop} (x1 : Int32) (x2 : Int32) (x3 : Int32) (x4 : Int32) (I : xI) (J : xJ) {t : (Int32 × Int32 × Int32 × Int32 × xI × xJ) ⊕ ((Int32 × Int32 × Int32 × (Option Value) × xI × xJ) ⊕ (Int32 × xI × xJ))} (h : f_X12_areAll_4 x1 x2 x3 x4 I J = some t) (hC : (c_X12_areAll_3 L xs d Q) t) : Rn L xs (d + 1) 264 19 [some (.ref 61), some (.int x1), some (.int x2), some (.int x3), some (.int x4)] [] 94 (I, J, xrf) Q := by
  unfold f_X12_areAll_4 at h
  obtain ⟨hc, h⟩ := xif h
  refine Rn.ok 8 (c := ((6 * x1) + x3) < 0 ∨ 1218 ≤ (((6 * x1) + x3)).toNatClampNeg) (p1 := 30) (l1 := [some (.ref 61), some (.int x1), some (.int x2), some (.int x3), some (.int x4)]) (s1 := [.int ((I 85 (((6 * x1) + x3)).toNatClampNeg))]) (n1 := 94) (M1 := (I, J, xrf)) (fun f => rfl) hc ?_
  obtain ⟨hc, h⟩ := xif h
  refine Rn.ok 8 (c := ((6 * x1) + x4) < 0 ∨ 1218 ≤ (((6 * x1) + x4)).toNatClampNeg) (p1 := 42) (l1 := [some (.ref 61), some (.int x1), some (.int x2), some (.int x3), some (.int x4)]) (s1 := [.int ((I 85 (((6 * x1) + x4)).toNatClampNeg)), .int ((I 85 (((6 * x1) + x3)).toNatClampNeg))]) (n1 := 94) (M1 := (I, J, xrf)) (fun f => rfl) hc ?_
  refine Rn.fi 1 (c := (I 85 (((6 * x1) + x3)).toNatClampNeg) = (I 85 (((6 * x1) + x4)).toNatClampNeg)) (p1 := 45) (l1 := [some (.ref 61), some (.int x1), some (.int x2), some (.int x3), some (.int x4)]) (s1 := []) (n1 := 94) (M1 := (I, J, xrf)) (p2 := 73) (l2 := [some (.ref 61), some (.int x1), some (.int x2), some (.int x3), some (.int x4)]) (s2 := []) (n2 := 94) (M2 := (I, J, xrf)) (fun f => rfl) (fun hc => ?_) (fun hc => ?_)
  · rw [if_pos hc] at h
    exact p_X12_areAll_5 x1 x2 x3 x4 I J h hC
  · rw [if_neg hc] at h
    exact p_X12_areAll_7 x1 x2 x3 x4 I J h hC
theorem q_X12_areAll_3 {L : Nat} {xs : Nat → Int32} {d : Nat} {Q : xO → Prop} (x1 : Int32) (x2 : Int32) (x3 : Int32) (x4 : Int32) (I : xI) (J : xJ) {t : (Int32 × Int32 × Int32 × Int32 × xI × xJ) ⊕ ((Int32 × Int32 × Int32 × (Option Value) × xI × xJ) ⊕ (Int32 × xI × xJ))} (h : b_X12_areAll_3 x1 x2 x3 x4 I J = some t) (hC : (c_X12_areAll_3 L xs d Q) t) : Rn L xs (d + 1) 264 13 [some (.ref 61), some (.int x1), some (.int x2), some (.int x3), some (.int x4)] [] 94 (I, J, xrf) Q := by
  unfold b_X12_areAll_3 at h
  refine Rn.fi 3 (c := x3 ≤ x4) (p1 := 79) (l1 := [some (.ref 61), some (.int x1), some (.int x2), some (.int x3), some (.int x4)]) (s1 := []) (n1 := 94) (M1 := (I, J, xrf)) (p2 := 19) (l2 := [some (.ref 61), some (.int x1), some (.int x2), some (.int x3), some (.int x4)]) (s2 := []) (n2 := 94) (M2 := (I, J, xrf)) (fun f => rfl) (fun hc => ?_) (fun hc => ?_)
  · rw [if_pos hc] at h
    obtain ⟨t0, h0, rfl⟩ := Option.map_eq_some_iff.mp h
    exact p_X12_areAll_8 x1 x2 x3 x4 I J h0 hC
  · rw [if_neg hc] at h
    exact p_X12_areAll_4 x1 x2 x3 x4 I J h hC
theorem p_X12_areAll_3 {L : Nat} {xs : Nat → Int32} {d : Nat} {Q : xO → Prop} (x1 : Int32) (x2 : Int32) (x3 : Int32) (x4 : Int32) (I : xI) (J : xJ) {t : (Int32 × Int32 × Int32 × (Option Value) × xI × xJ) ⊕ (Int32 × xI × xJ)} (h : f_X12_areAll_3 x1 x2 x3 x4 I J = some t) (hC : (c_X12_areAll_1 L xs d Q) t) : Rn L xs (d + 1) 264 13 [some (.ref 61), some (.int x1), some (.int x2), some (.int x3), some (.int x4)] [] 94 (I, J, xrf) Q := by
  unfold f_X12_areAll_3 at h
  exact xloop_some (P := fun s : Int32 × Int32 × Int32 × Int32 × xI × xJ => Rn L xs (d + 1) 264 13 [some (.ref 61), some (.int s.1), some (.int s.2.1), some (.int s.2.2.1), some (.int s.2.2.2.1)] [] 94 (s.2.2.2.2.1, s.2.2.2.2.2, xrf) Q) t (fun s ⟨s', hb, hp⟩ => q_X12_areAll_3 s.1 s.2.1 s.2.2.1 s.2.2.2.1 s.2.2.2.2.1 s.2.2.2.2.2 hb hp) (fun s hb => q_X12_areAll_3 s.1 s.2.1 s.2.2.1 s.2.2.2.1 s.2.2.2.2.1 s.2.2.2.2.2 hb hC) _ _ h
theorem p_X12_areAll_2 {L : Nat} {xs : Nat → Int32} {d : Nat} {Q : xO → Prop} (x1 : Int32) (x2 : Int32) (x3 : Int32) (z4 : Option Value) (I : xI) (J : xJ) {t : (Int32 × Int32 × Int32 × (Option Value) × xI × xJ) ⊕ (Int32 × xI × xJ)} (h : f_X12_areAll_2 x1 x2 x3 z4 I J = some t) (hC : (c_X12_areAll_1 L xs d Q) t) : Rn L xs (d + 1) 264 10 [some (.ref 61), some (.int x1), some (.int x2), some (.int x3), z4] [] 94 (I, J, xrf) Q := by
  unfold f_X12_areAll_2 at h
  refine Rn.go 2 (j' := 264) (pc' := 13) (ls' := [some (.ref 61), some (.int x1), some (.int x2), some (.int x3), some (.int 0)]) (st' := []) (n' := 94) (M' := (I, J, xrf)) (fun f => rfl) ?_
  exact p_X12_areAll_3 x1 x2 x3 0 I J h hC
theorem q_X12_areAll_1 {L : Nat} {xs : Nat → Int32} {d : Nat} {Q : xO → Prop} (x1 : Int32) (x2 : Int32) (x3 : Int32) (z4 : Option Value) (I : xI) (J : xJ) {t : (Int32 × Int32 × Int32 × (Option Value) × xI × xJ) ⊕ (Int32 × xI × xJ)} (h : b_X12_areAll_1 x1 x2 x3 z4 I J = some t) (hC : (c_X12_areAll_1 L xs d Q) t) : Rn L xs (d + 1) 264 2 [some (.ref 61), some (.int x1), some (.int x2), some (.int x3), z4] [] 94 (I, J, xrf) Q := by
  unfold b_X12_areAll_1 at h
  refine Rn.fi 4 (c := (I 61 17) ≤ x3) (p1 := 85) (l1 := [some (.ref 61), some (.int x1), some (.int x2), some (.int x3), z4]) (s1 := []) (n1 := 94) (M1 := (I, J, xrf)) (p2 := 10) (l2 := [some (.ref 61), some (.int x1), some (.int x2), some (.int x3), z4]) (s2 := []) (n2 := 94) (M2 := (I, J, xrf)) (fun f => rfl) (fun hc => ?_) (fun hc => ?_)
  · rw [if_pos hc] at h
    obtain ⟨t0, h0, rfl⟩ := Option.map_eq_some_iff.mp h
    exact p_X12_areAll_9 x1 x2 x3 z4 I J h0 hC
  · rw [if_neg hc] at h
    exact p_X12_areAll_2 x1 x2 x3 z4 I J h hC
theorem p_X12_areAll_1 {L : Nat} {xs : Nat → Int32} {d : Nat} {Q : xO → Prop} (x1 : Int32) (x2 : Int32) (x3 : Int32) (z4 : Option Value) (I : xI) (J : xJ) {t : Int32 × xI × xJ} (h : f_X12_areAll_1 x1 x2 x3 z4 I J = some t) (hC : (c_X12_areAll Q) t) : Rn L xs (d + 1) 264 2 [some (.ref 61), some (.int x1), some (.int x2), some (.int x3), z4] [] 94 (I, J, xrf) Q := by
  unfold f_X12_areAll_1 at h
  exact xloop_some (P := fun s : Int32 × Int32 × Int32 × (Option Value) × xI × xJ => Rn L xs (d + 1) 264 2 [some (.ref 61), some (.int s.1), some (.int s.2.1), some (.int s.2.2.1), s.2.2.2.1] [] 94 (s.2.2.2.2.1, s.2.2.2.2.2, xrf) Q) t (fun s ⟨s', hb, hp⟩ => q_X12_areAll_1 s.1 s.2.1 s.2.2.1 s.2.2.2.1 s.2.2.2.2.1 s.2.2.2.2.2 hb hp) (fun s hb => q_X12_areAll_1 s.1 s.2.1 s.2.2.1 s.2.2.2.1 s.2.2.2.2.1 s.2.2.2.2.2 hb hC) _ _ h
theorem p_X12_areAll_0 {L : Nat} {xs : Nat → Int32} {d : Nat} {Q : xO → Prop} (x1 : Int32) (x2 : Int32) (I : xI) (J : xJ) {t : Int32 × xI × xJ} (h : f_X12_areAll_0 x1 x2 I J = some t) (hC : (c_X12_areAll Q) t) : Rn L xs (d + 1) 264 0 [some (.ref 61), some (.int x1), some (.int x2), none, none] [] 94 (I, J, xrf) Q := by
  unfold f_X12_areAll_0 at h
  refine Rn.go 2 (j' := 264) (pc' := 2) (ls' := [some (.ref 61), some (.int x1), some (.int x2), some (.int 0), none]) (st' := []) (n' := 94) (M' := (I, J, xrf)) (fun f => rfl) ?_
  exact p_X12_areAll_1 x1 x2 0 none I J h hC
theorem p_X12_areAll {L : Nat} {xs : Nat → Int32} {d : Nat} {Q : xO → Prop} (x1 : Int32) (x2 : Int32) (I : xI) (J : xJ) {t : Int32 × xI × xJ} (h : f_X12_areAll x1 x2 I J = some t) (hC : Q ((some (.int t.1)), 94, (t.2.1, t.2.2, xrf))) : Rn L xs (d + 1) 264 0 [some (.ref 61), some (.int x1), some (.int x2), none, none] [] 94 (I, J, xrf) Q := p_X12_areAll_0 x1 x2 I J h hC
/-! X12_split -/
def c_X12_split (Q : xO → Prop) (t : Int32 × xI × xJ) : Prop := Q ((some (.int t.1)), 94, (t.2.1, t.2.2, xrf))
def c_X12_split_5 (L : Nat) (xs : Nat → Int32) (d : Nat) (Q : xO → Prop) (t : (Int32 × Int32 × Int32 × Int32 × Int32 × (Option Value) × xI × xJ) ⊕ (Int32 × xI × xJ)) : Prop := match t with
  | .inl s => Rn L xs (d + 7) 265 26 [some (.ref 61), some (.int s.1), some (.int s.2.1), some (.int s.2.2.1), some (.int s.2.2.2.1), some (.int s.2.2.2.2.1), s.2.2.2.2.2.1] [] 94 (s.2.2.2.2.2.2.1, s.2.2.2.2.2.2.2, xrf) Q
  | .inr t => (c_X12_split Q) t
def c_X12_split_7 (L : Nat) (xs : Nat → Int32) (d : Nat) (Q : xO → Prop) (t : (Int32 × Int32 × Int32 × Int32 × Int32 × Int32 × xI × xJ) ⊕ ((Int32 × Int32 × Int32 × Int32 × Int32 × (Option Value) × xI × xJ) ⊕ (Int32 × xI × xJ))) : Prop := match t with
  | .inl s => Rn L xs (d + 7) 265 38 [some (.ref 61), some (.int s.1), some (.int s.2.1), some (.int s.2.2.1), some (.int s.2.2.2.1), some (.int s.2.2.2.2.1), some (.int s.2.2.2.2.2.1)] [] 94 (s.2.2.2.2.2.2.1, s.2.2.2.2.2.2.2, xrf) Q
  | .inr t => (c_X12_split_5 L xs d Q) t
def f_X12_split_26 (x1 : Int32) (x2 : Int32) (x3 : Int32) (x4 : Int32) (x5 : Int32) (z6 : Option Value) (s0 : Int32) (I : xI) (J : xJ) : Option (Int32 × xI × xJ) := some (s0, I, J)
def f_X12_split_25 (x1 : Int32) (x2 : Int32) (x3 : Int32) (x4 : Int32) (x5 : Int32) (z6 : Option Value) (I : xI) (J : xJ) : Option (Int32 × xI × xJ) := f_X12_split_26 x1 x2 x3 x4 x5 z6 x4 I J
def f_X12_split_24 (x1 : Int32) (x2 : Int32) (x3 : Int32) (x4 : Int32) (x5 : Int32) (z6 : Option Value) (I : xI) (J : xJ) : Option (Int32 × xI × xJ) := if x3 < 0 ∨ 203 ≤ x3.toNatClampNeg then none else f_X12_split_26 x1 x2 x3 x4 x5 z6 ((I 82 x3.toNatClampNeg)) I J
def f_X12_split_23 (x1 : Int32) (x2 : Int32) (x3 : Int32) (x4 : Int32) (x5 : Int32) (z6 : Option Value) (I : xI) (J : xJ) : Option (Int32 × xI × xJ) := if x1 = 1 then f_X12_split_24 x1 x2 x3 x4 x5 z6 I J else f_X12_split_25 x1 x2 x3 x4 x5 z6 I J
def f_X12_split_22 (x1 : Int32) (x2 : Int32) (x3 : Int32) (x4 : Int32) (x5 : Int32) (z6 : Option Value) (I : xI) (J : xJ) : Option (Int32 × xI × xJ) := if x2 < 0 ∨ 203 ≤ x2.toNatClampNeg then none else f_X12_split_26 x1 x2 x3 x4 x5 z6 ((I 82 x2.toNatClampNeg)) I J
def f_X12_split_21 (x1 : Int32) (x2 : Int32) (x3 : Int32) (x4 : Int32) (x5 : Int32) (z6 : Option Value) (I : xI) (J : xJ) : Option (Int32 × xI × xJ) := if x1 = 0 then f_X12_split_22 x1 x2 x3 x4 x5 z6 I J else f_X12_split_23 x1 x2 x3 x4 x5 z6 I J
def f_X12_split_20 (x1 : Int32) (x2 : Int32) (x3 : Int32) (x4 : Int32) (x5 : Int32) (z6 : Option Value) (I : xI) (J : xJ) : Option (Int32 × xI × xJ) := some ((-2), I, J)
def f_X12_split_19 (x1 : Int32) (x2 : Int32) (x3 : Int32) (x4 : Int32) (x5 : Int32) (z6 : Option Value) (I : xI) (J : xJ) : Option (Int32 × xI × xJ) := if 0 ≤ x2 then f_X12_split_21 x1 x2 x3 x4 x5 z6 I J else f_X12_split_20 x1 x2 x3 x4 x5 z6 I J
def f_X12_split_18 (x1 : Int32) (x2 : Int32) (x3 : Int32) (x4 : Int32) (x5 : Int32) (x6 : Int32) (I : xI) (J : xJ) : Option ((Int32 × Int32 × Int32 × Int32 × Int32 × (Option Value) × xI × xJ) ⊕ (Int32 × xI × xJ)) := some (.inl (x1, x2, x3, x4, ((x5 + 1)), (some (.int x6)), I, J))
def f_X12_split_17 (x1 : Int32) (x2 : Int32) (x3 : Int32) (x4 : Int32) (x5 : Int32) (x6 : Int32) (I : xI) (J : xJ) : Option ((Int32 × Int32 × Int32 × Int32 × Int32 × Int32 × xI × xJ) ⊕ ((Int32 × Int32 × Int32 × Int32 × Int32 × (Option Value) × xI × xJ) ⊕ (Int32 × xI × xJ))) := some (.inl (x1, x2, x3, x4, x5, ((x6 + 1)), I, J))
def f_X12_split_16 (x1 : Int32) (x2 : Int32) (x3 : Int32) (x4 : Int32) (x5 : Int32) (x6 : Int32) (I : xI) (J : xJ) : Option ((Int32 × Int32 × Int32 × Int32 × Int32 × Int32 × xI × xJ) ⊕ ((Int32 × Int32 × Int32 × Int32 × Int32 × (Option Value) × xI × xJ) ⊕ (Int32 × xI × xJ))) := if x5 < 0 ∨ 203 ≤ x5.toNatClampNeg then none else if x6 < 0 ∨ 203 ≤ x6.toNatClampNeg then none else f_X12_split_17 x1 x5 x6 (((I 83 x5.toNatClampNeg) + (I 83 x6.toNatClampNeg))) x5 x6 I J
def f_X12_split_15 (x1 : Int32) (x2 : Int32) (x3 : Int32) (x4 : Int32) (x5 : Int32) (x6 : Int32) (I : xI) (J : xJ) : Option ((Int32 × Int32 × Int32 × Int32 × Int32 × Int32 × xI × xJ) ⊕ ((Int32 × Int32 × Int32 × Int32 × Int32 × (Option Value) × xI × xJ) ⊕ (Int32 × xI × xJ))) := f_X12_split_17 x1 x2 x3 x4 x5 x6 I J
def f_X12_split_14 (x1 : Int32) (x2 : Int32) (x3 : Int32) (x4 : Int32) (x5 : Int32) (x6 : Int32) (s0 : Int32) (I : xI) (J : xJ) : Option ((Int32 × Int32 × Int32 × Int32 × Int32 × Int32 × xI × xJ) ⊕ ((Int32 × Int32 × Int32 × Int32 × Int32 × (Option Value) × xI × xJ) ⊕ (Int32 × xI × xJ))) := if s0 = 0 then f_X12_split_15 x1 x2 x3 x4 x5 x6 I J else f_X12_split_16 x1 x2 x3 x4 x5 x6 I J
def f_X12_split_13 (x1 : Int32) (x2 : Int32) (x3 : Int32) (x4 : Int32) (x5 : Int32) (x6 : Int32) (I : xI) (J : xJ) : Option ((Int32 × Int32 × Int32 × Int32 × Int32 × Int32 × xI × xJ) ⊕ ((Int32 × Int32 × Int32 × Int32 × Int32 × (Option Value) × xI × xJ) ⊕ (Int32 × xI × xJ))) := (f_X12_areAll x5 x6 I J).bind fun o => f_X12_split_14 x1 x2 x3 x4 x5 x6 o.1 o.2.1 o.2.2
def f_X12_split_12 (x1 : Int32) (x2 : Int32) (x3 : Int32) (x4 : Int32) (x5 : Int32) (x6 : Int32) (I : xI) (J : xJ) : Option ((Int32 × Int32 × Int32 × Int32 × Int32 × Int32 × xI × xJ) ⊕ ((Int32 × Int32 × Int32 × Int32 × Int32 × (Option Value) × xI × xJ) ⊕ (Int32 × xI × xJ))) := if x5 < 0 ∨ 203 ≤ x5.toNatClampNeg then none else if x6 < 0 ∨ 203 ≤ x6.toNatClampNeg then none else if x4 ≤ ((I 83 x5.toNatClampNeg) + (I 83 x6.toNatClampNeg)) then f_X12_split_17 x1 x2 x3 x4 x5 x6 I J else f_X12_split_13 x1 x2 x3 x4 x5 x6 I J
def f_X12_split_11 (x1 : Int32) (x2 : Int32) (x3 : Int32) (x4 : Int32) (x5 : Int32) (x6 : Int32) (I : xI) (J : xJ) : Option ((Int32 × Int32 × Int32 × Int32 × Int32 × Int32 × xI × xJ) ⊕ ((Int32 × Int32 × Int32 × Int32 × Int32 × (Option Value) × xI × xJ) ⊕ (Int32 × xI × xJ))) := if x6 < 0 ∨ 203 ≤ x6.toNatClampNeg then none else if (I 61 17) ≤ (I 83 x6.toNatClampNeg) then f_X12_split_17 x1 x2 x3 x4 x5 x6 I J else f_X12_split_12 x1 x2 x3 x4 x5 x6 I J
def f_X12_split_10 (x1 : Int32) (x2 : Int32) (x3 : Int32) (x4 : Int32) (x5 : Int32) (x6 : Int32) (I : xI) (J : xJ) : Option ((Int32 × Int32 × Int32 × Int32 × Int32 × Int32 × xI × xJ) ⊕ ((Int32 × Int32 × Int32 × Int32 × Int32 × (Option Value) × xI × xJ) ⊕ (Int32 × xI × xJ))) := if x5 < 0 ∨ 203 ≤ x5.toNatClampNeg then none else if (I 61 17) ≤ (I 83 x5.toNatClampNeg) then f_X12_split_17 x1 x2 x3 x4 x5 x6 I J else f_X12_split_11 x1 x2 x3 x4 x5 x6 I J
def f_X12_split_9 (x1 : Int32) (x2 : Int32) (x3 : Int32) (x4 : Int32) (x5 : Int32) (x6 : Int32) (I : xI) (J : xJ) : Option ((Int32 × Int32 × Int32 × Int32 × Int32 × Int32 × xI × xJ) ⊕ ((Int32 × Int32 × Int32 × Int32 × Int32 × (Option Value) × xI × xJ) ⊕ (Int32 × xI × xJ))) := if x6 < 0 ∨ 203 ≤ x6.toNatClampNeg then none else if (I 84 x6.toNatClampNeg) = 0 then f_X12_split_17 x1 x2 x3 x4 x5 x6 I J else f_X12_split_10 x1 x2 x3 x4 x5 x6 I J
def f_X12_split_8 (x1 : Int32) (x2 : Int32) (x3 : Int32) (x4 : Int32) (x5 : Int32) (x6 : Int32) (I : xI) (J : xJ) : Option ((Int32 × Int32 × Int32 × Int32 × Int32 × Int32 × xI × xJ) ⊕ ((Int32 × Int32 × Int32 × Int32 × Int32 × (Option Value) × xI × xJ) ⊕ (Int32 × xI × xJ))) := if x5 < 0 ∨ 203 ≤ x5.toNatClampNeg then none else if (I 84 x5.toNatClampNeg) = 0 then f_X12_split_17 x1 x2 x3 x4 x5 x6 I J else f_X12_split_9 x1 x2 x3 x4 x5 x6 I J
def b_X12_split_7 (x1 : Int32) (x2 : Int32) (x3 : Int32) (x4 : Int32) (x5 : Int32) (x6 : Int32) (I : xI) (J : xJ) : Option ((Int32 × Int32 × Int32 × Int32 × Int32 × Int32 × xI × xJ) ⊕ ((Int32 × Int32 × Int32 × Int32 × Int32 × (Option Value) × xI × xJ) ⊕ (Int32 × xI × xJ))) := if (I 61 40) ≤ x6 then ((f_X12_split_18 x1 x2 x3 x4 x5 x6 I J)).map .inr else f_X12_split_8 x1 x2 x3 x4 x5 x6 I J
def f_X12_split_7 (x1 : Int32) (x2 : Int32) (x3 : Int32) (x4 : Int32) (x5 : Int32) (x6 : Int32) (I : xI) (J : xJ) : Option ((Int32 × Int32 × Int32 × Int32 × Int32 × (Option Value) × xI × xJ) ⊕ (Int32 × xI × xJ)) := xloop (fun s : Int32 × Int32 × Int32 × Int32 × Int32 × Int32 × xI × xJ => b_X12_split_7 s.1 s.2.1 s.2.2.1 s.2.2.2.1 s.2.2.2.2.1 s.2.2.2.2.2.1 s.2.2.2.2.2.2.1 s.2.2.2.2.2.2.2) 5000 (x1, x2, x3, x4, x5, x6, I, J)
def f_X12_split_6 (x1 : Int32) (x2 : Int32) (x3 : Int32) (x4 : Int32) (x5 : Int32) (z6 : Option Value) (I : xI) (J : xJ) : Option ((Int32 × Int32 × Int32 × Int32 × Int32 × (Option Value) × xI × xJ) ⊕ (Int32 × xI × xJ)) := f_X12_split_7 x1 x2 x3 x4 x5 0 I J
def b_X12_split_5 (x1 : Int32) (x2 : Int32) (x3 : Int32) (x4 : Int32) (x5 : Int32) (z6 : Option Value) (I : xI) (J : xJ) : Option ((Int32 × Int32 × Int32 × Int32 × Int32 × (Option Value) × xI × xJ) ⊕ (Int32 × xI × xJ)) := if (I 61 40) ≤ x5 then ((f_X12_split_19 x1 x2 x3 x4 x5 z6 I J)).map .inr else f_X12_split_6 x1 x2 x3 x4 x5 z6 I J
def f_X12_split_5 (x1 : Int32) (x2 : Int32) (x3 : Int32) (x4 : Int32) (x5 : Int32) (z6 : Option Value) (I : xI) (J : xJ) : Option (Int32 × xI × xJ) := xloop (fun s : Int32 × Int32 × Int32 × Int32 × Int32 × (Option Value) × xI × xJ => b_X12_split_5 s.1 s.2.1 s.2.2.1 s.2.2.2.1 s.2.2.2.2.1 s.2.2.2.2.2.1 s.2.2.2.2.2.2.1 s.2.2.2.2.2.2.2) 5000 (x1, x2, x3, x4, x5, z6, I, J)
def f_X12_split_4 (x1 : Int32) (I : xI) (J : xJ) : Option (Int32 × xI × xJ) := f_X12_split_5 x1 ((-1)) ((-1)) 99 0 none I J
def f_X12_split_3 (x1 : Int32) (I : xI) (J : xJ) : Option (Int32 × xI × xJ) := (f_X12_knows I J).bind fun o => f_X12_split_4 x1 o.2.1 o.2.2
def f_X12_split_2 (x1 : Int32) (I : xI) (J : xJ) : Option (Int32 × xI × xJ) := some ((-1), I, J)
def f_X12_split_1 (x1 : Int32) (s0 : Int32) (I : xI) (J : xJ) : Option (Int32 × xI × xJ) := if s0 = 0 then f_X12_split_2 x1 I J else f_X12_split_3 x1 I J
def f_X12_split_0 (x1 : Int32) (I : xI) (J : xJ) : Option (Int32 × xI × xJ) := (f_X12_in x1 0 2 I J).bind fun o => f_X12_split_1 x1 o.1 o.2.1 o.2.2
def f_X12_split (x1 : Int32) (I : xI) (J : xJ) : Option (Int32 × xI × xJ) := f_X12_split_0 x1 I J
theorem p_X12_split_26 {L : Nat} {xs : Nat → Int32} {d : Nat} {Q : xO → Prop} (x1 : Int32) (x2 : Int32) (x3 : Int32) (x4 : Int32) (x5 : Int32) (z6 : Option Value) (s0 : Int32) (I : xI) (J : xJ) {t : Int32 × xI × xJ} (h : f_X12_split_26 x1 x2 x3 x4 x5 z6 s0 I J = some t) (hC : (c_X12_split Q) t) : Rn L xs (d + 7) 265 200 [some (.ref 61), some (.int x1), some (.int x2), some (.int x3), some (.int x4), some (.int x5), z6] [.int s0] 94 (I, J, xrf) Q := by
  unfold f_X12_split_26 at h
  cases h
  exact Rn.ret 1 (o := ((some (.int s0)), 94, (I, J, xrf))) (fun f => rfl) hC
theorem p_X12_split_25 {L : Nat} {xs : Nat → Int32} {d : Nat} {Q : xO → Prop} (x1 : Int32) (x2 : Int32) (x3 : Int32) (x4 : Int32) (x5 : Int32) (z6 : Option Value) (I : xI) (J : xJ) {t : Int32 × xI × xJ} (h : f_X12_split_25 x1 x2 x3 x4 x5 z6 I J = some t) (hC : (c_X12_split Q) t) : Rn L xs (d + 7) 265 198 [some (.ref 61), some (.int x1), some (.int x2), some (.int x3), some (.int x4), some (.int x5), z6] [] 94 (I, J, xrf) Q := by
  unfold f_X12_split_25 at h
  refine Rn.go 1 (j' := 265) (pc' := 200) (ls' := [some (.ref 61), some (.int x1), some (.int x2), some (.int x3), some (.int x4), some (.int x5), z6]) (st' := [.int x4]) (n' := 94) (M' := (I, J, xrf)) (fun f => rfl) ?_
  exact p_X12_split_26 x1 x2 x3 x4 x5 z6 x4 I J h hC
theorem p_X12_split_24 {L : Nat} {xs : Nat → Int32} {d : Nat} {Q : xO → Prop} (x1 : Int32) (x2 : Int32) (x3 : Int32) (x4 : Int32) (x5 : Int32) (z6 : Option Value) (I : xI) (J : xJ) {t : Int32 × xI × xJ} (h : f_X12_split_24 x1 x2 x3 x4 x5 z6 I J = some t) (hC : (c_X12_split Q) t) : Rn L xs (d + 7) 265 189 [some (.ref 61), some (.int x1), some (.int x2), some (.int x3), some (.int x4), some (.int x5), z6] [] 94 (I, J, xrf) Q := by
  unfold f_X12_split_24 at h
  obtain ⟨hc, h⟩ := xif h
  refine Rn.ok 4 (c := x3 < 0 ∨ 203 ≤ x3.toNatClampNeg) (p1 := 195) (l1 := [some (.ref 61), some (.int x1), some (.int x2), some (.int x3), some (.int x4), some (.int x5), z6]) (s1 := [.int ((I 82 x3.toNatClampNeg))]) (n1 := 94) (M1 := (I, J, xrf)) (fun f => rfl) hc ?_
  refine Rn.go 1 (j' := 265) (pc' := 200) (ls' := [some (.ref 61), some (.int x1), some (.int x2), some (.int x3), some (.int x4), some (.int x5), z6]) (st' := [.int ((I 82 x3.toNatClampNeg))]) (n' := 94) (M' := (I, J, xrf)) (fun f => rfl) ?_
  exact p_X12_split_26 x1 x2 x3 x4 x5 z6 ((I 82 x3.toNatClampNeg)) I J h hC
theorem p_X12_split_23 {L : Nat} {xs : Nat → Int32} {d : Nat} {Q : xO → Prop} (x1 : Int32) (x2 : Int32) (x3 : Int32) (x4 : Int32) (x5 : Int32) (z6 : Option Value) (I : xI) (J : xJ) {t : Int32 × xI × xJ} (h : f_X12_split_23 x1 x2 x3 x4 x5 z6 I J = some t) (hC : (c_X12_split Q) t) : Rn L xs (d + 7) 265 184 [some (.ref 61), some (.int x1), some (.int x2), some (.int x3), some (.int x4), some (.int x5), z6] [] 94 (I, J, xrf) Q := by
  unfold f_X12_split_23 at h
  refine Rn.fi 3 (c := x1 = 1) (p1 := 189) (l1 := [some (.ref 61), some (.int x1), some (.int x2), some (.int x3), some (.int x4), some (.int x5), z6]) (s1 := []) (n1 := 94) (M1 := (I, J, xrf)) (p2 := 198) (l2 := [some (.ref 61), some (.int x1), some (.int x2), some (.int x3), some (.int x4), some (.int x5), z6]) (s2 := []) (n2 := 94) (M2 := (I, J, xrf)) (fun f => rfl) (fun hc => ?_) (fun hc => ?_)
  · rw [if_pos hc] at h
    exact p_X12_split_24 x1 x2 x3 x4 x5 z6 I J h hC
  · rw [if_neg hc] at h
    exact p_X12_split_25 x1 x2 x3 x4 x5 z6 I J h hC
theorem p_X12_split_22 {L : Nat} {xs : Nat → Int32} {d : Nat} {Q : xO → Prop} (x1 : Int32) (x2 : Int32) (x3 : Int32) (x4 : Int32) (x5 : Int32) (z6 : Option Value) (I : xI) (J : xJ) {t : Int32 × xI × xJ} (h : f_X12_split_22 x1 x2 x3 x4 x5 z6 I J = some t) (hC : (c_X12_split Q) t) : Rn L xs (d + 7) 265 175 [some (.ref 61), some (.int x1), some (.int x2), some (.int x3), some (.int x4), some (.int x5), z6] [] 94 (I, J, xrf) Q := by
  unfold f_X12_split_22 at h
  obtain ⟨hc, h⟩ := xif h
  refine Rn.ok 4 (c := x2 < 0 ∨ 203 ≤ x2.toNatClampNeg) (p1 := 181) (l1 := [some (.ref 61), some (.int x1), some (.int x2), some (.int x3), some (.int x4), some (.int x5), z6]) (s1 := [.int ((I 82 x2.toNatClampNeg))]) (n1 := 94) (M1 := (I, J, xrf)) (fun f => rfl) hc ?_
  refine Rn.go 1 (j' := 265) (pc' := 200) (ls' := [some (.ref 61), some (.int x1), some (.int x2), some (.int x3), some (.int x4), some (.int x5), z6]) (st' := [.int ((I 82 x2.toNatClampNeg))]) (n' := 94) (M' := (I, J, xrf)) (fun f => rfl) ?_
  exact p_X12_split_26 x1 x2 x3 x4 x5 z6 ((I 82 x2.toNatClampNeg)) I J h hC
theorem p_X12_split_21 {L : Nat} {xs : Nat → Int32} {d : Nat} {Q : xO → Prop} (x1 : Int32) (x2 : Int32) (x3 : Int32) (x4 : Int32) (x5 : Int32) (z6 : Option Value) (I : xI) (J : xJ) {t : Int32 × xI × xJ} (h : f_X12_split_21 x1 x2 x3 x4 x5 z6 I J = some t) (hC : (c_X12_split Q) t) : Rn L xs (d + 7) 265 171 [some (.ref 61), some (.int x1), some (.int x2), some (.int x3), some (.int x4), some (.int x5), z6] [] 94 (I, J, xrf) Q := by
  unfold f_X12_split_21 at h
  refine Rn.fi 2 (c := x1 = 0) (p1 := 175) (l1 := [some (.ref 61), some (.int x1), some (.int x2), some (.int x3), some (.int x4), some (.int x5), z6]) (s1 := []) (n1 := 94) (M1 := (I, J, xrf)) (p2 := 184) (l2 := [some (.ref 61), some (.int x1), some (.int x2), some (.int x3), some (.int x4), some (.int x5), z6]) (s2 := []) (n2 := 94) (M2 := (I, J, xrf)) (fun f => rfl) (fun hc => ?_) (fun hc => ?_)
  · rw [if_pos hc] at h
    exact p_X12_split_22 x1 x2 x3 x4 x5 z6 I J h hC
  · rw [if_neg hc] at h
    exact p_X12_split_23 x1 x2 x3 x4 x5 z6 I J h hC
theorem p_X12_split_20 {L : Nat} {xs : Nat → Int32} {d : Nat} {Q : xO → Prop} (x1 : Int32) (x2 : Int32) (x3 : Int32) (x4 : Int32) (x5 : Int32) (z6 : Option Value) (I : xI) (J : xJ) {t : Int32 × xI × xJ} (h : f_X12_split_20 x1 x2 x3 x4 x5 z6 I J = some t) (hC : (c_X12_split Q) t) : Rn L xs (d + 7) 265 168 [some (.ref 61), some (.int x1), some (.int x2), some (.int x3), some (.int x4), some (.int x5), z6] [] 94 (I, J, xrf) Q := by
  unfold f_X12_split_20 at h
  cases h
  exact Rn.ret 2 (o := ((some (.int ((-2)))), 94, (I, J, xrf))) (fun f => rfl) hC
theorem p_X12_split_19 {L : Nat} {xs : Nat → Int32} {d : Nat} {Q : xO → Prop} (x1 : Int32) (x2 : Int32) (x3 : Int32) (x4 : Int32) (x5 : Int32) (z6 : Option Value) (I : xI) (J : xJ) {t : Int32 × xI × xJ} (h : f_X12_split_19 x1 x2 x3 x4 x5 z6 I J = some t) (hC : (c_X12_split Q) t) : Rn L xs (d + 7) 265 164 [some (.ref 61), some (.int x1), some (.int x2), some (.int x3), some (.int x4), some (.int x5), z6] [] 94 (I, J, xrf) Q := by
  unfold f_X12_split_19 at h
  refine Rn.fi 2 (c := 0 ≤ x2) (p1 := 171) (l1 := [some (.ref 61), some (.int x1), some (.int x2), some (.int x3), some (.int x4), some (.int x5), z6]) (s1 := []) (n1 := 94) (M1 := (I, J, xrf)) (p2 := 168) (l2 := [some (.ref 61), some (.int x1), some (.int x2), some (.int x3), some (.int x4), some (.int x5), z6]) (s2 := []) (n2 := 94) (M2 := (I, J, xrf)) (fun f => rfl) (fun hc => ?_) (fun hc => ?_)
  · rw [if_pos hc] at h
    exact p_X12_split_21 x1 x2 x3 x4 x5 z6 I J h hC
  · rw [if_neg hc] at h
    exact p_X12_split_20 x1 x2 x3 x4 x5 z6 I J h hC
theorem p_X12_split_18 {L : Nat} {xs : Nat → Int32} {d : Nat} {Q : xO → Prop} (x1 : Int32) (x2 : Int32) (x3 : Int32) (x4 : Int32) (x5 : Int32) (x6 : Int32) (I : xI) (J : xJ) {t : (Int32 × Int32 × Int32 × Int32 × Int32 × (Option Value) × xI × xJ) ⊕ (Int32 × xI × xJ)} (h : f_X12_split_18 x1 x2 x3 x4 x5 x6 I J = some t) (hC : (c_X12_split_5 L xs d Q) t) : Rn L xs (d + 7) 265 158 [some (.ref 61), some (.int x1), some (.int x2), some (.int x3), some (.int x4), some (.int x5), some (.int x6)] [] 94 (I, J, xrf) Q := by
  unfold f_X12_split_18 at h
  refine Rn.go 2 (j' := 265) (pc' := 26) (ls' := [some (.ref 61), some (.int x1), some (.int x2), some (.int x3), some (.int x4), some (.int ((x5 + 1))), some (.int x6)]) (st' := []) (n' := 94) (M' := (I, J, xrf)) (fun f => rfl) ?_
  cases h; exact hC
theorem p_X12_split_17 {L : Nat} {xs : Nat → Int32} {d : Nat} {Q : xO → Prop} (x1 : Int32) (x2 : Int32) (x3 : Int32) (x4 : Int32) (x5 : Int32) (x6 : Int32) (I : xI) (J : xJ) {t : (Int32 × Int32 × Int32 × Int32 × Int32 × Int32 × xI × xJ) ⊕ ((Int32 × Int32 × Int32 × Int32 × Int32 × (Option Value) × xI × xJ) ⊕ (Int32 × xI × xJ))} (h : f_X12_split_17 x1 x2 x3 x4 x5 x6 I J = some t) (hC : (c_X12_split_7 L xs d Q) t) : Rn L xs (d + 7) 265 152 [some (.ref 61), some (.int x1), some (.int x2), some (.int x3), some (.int x4), some (.int x5), some (.int x6)] [] 94 (I, J, xrf) Q := by
  unfold f_X12_split_17 at h
  refine Rn.go 2 (j' := 265) (pc' := 38) (ls' := [some (.ref 61), some (.int x1), some (.int x2), some (.int x3), some (.int x4), some (.int x5), some (.int ((x6 + 1)))]) (st' := []) (n' := 94) (M' := (I, J, xrf)) (fun f => rfl) ?_
  cases h; exact hC
theorem p_X12_split_16 {L : Nat} {xs : Nat → Int32} {d : Nat} {Q : xO → Prop} (x1 : Int32) (x2 : Int32) (x3 : Int32) (x4 : Int32) (x5 : Int32) (x6 : Int32) (I : xI) (J : xJ) {t : (Int32 × Int32 × Int32 × Int32 × Int32 × Int32 × xI × xJ) ⊕ ((Int32 × Int32 × Int32 × Int32 × Int32 × (Option Value) × xI × xJ) ⊕ (Int32 × xI × xJ))} (h : f_X12_split_16 x1 x2 x3 x4 x5 x6 I J = some t) (hC : (c_X12_split_7 L xs d Q) t) : Rn L xs (d + 7) 265 129 [some (.ref 61), some (.int x1), some (.int x2), some (.int x3), some (.int x4), some (.int x5), some (.int x6)] [] 94 (I, J, xrf) Q := by
  unfold f_X12_split_16 at h
  obtain ⟨hc, h⟩ := xif h
  refine Rn.ok 8 (c := x5 < 0 ∨ 203 ≤ x5.toNatClampNeg) (p1 := 142) (l1 := [some (.ref 61), some (.int x1), some (.int x5), some (.int x6), some (.int x4), some (.int x5), some (.int x6)]) (s1 := [.int ((I 83 x5.toNatClampNeg))]) (n1 := 94) (M1 := (I, J, xrf)) (fun f => rfl) hc ?_
  obtain ⟨hc, h⟩ := xif h
  refine Rn.ok 4 (c := x6 < 0 ∨ 203 ≤ x6.toNatClampNeg) (p1 := 149) (l1 := [some (.ref 61), some (.int x1), some (.int x5), some (.int x6), some (.int x4), some (.int x5), some (.int x6)]) (s1 := [.int ((I 83 x6.toNatClampNeg)), .int ((I 83 x5.toNatClampNeg))]) (n1 := 94) (M1 := (I, J, xrf)) (fun f => rfl) hc ?_
  refine Rn.go 2 (j' := 265) (pc' := 152) (ls' := [some (.ref 61), some (.int x1), some (.int x5), some (.int x6), some (.int (((I 83 x5.toNatClampNeg) + (I 83 x6.toNatClampNeg)))), some (.int x5), some (.int x6)]) (st' := []) (n' := 94) (M' := (I, J, xrf)) (fun f => rfl) ?_
  exact p_X12_split_17 x1 x5 x6 (((I 83 x5.toNatClampNeg) + (I 83 x6.toNatClampNeg))) x5 x6 I J h hC
theorem p_X12_split_15 {L : Nat} {xs : Nat → Int32} {d : Nat} {Q : xO → Prop} (x1 : Int32) (x2 : Int32) (x3 : Int32) (x4 : Int32) (x5 : Int32) (x6 : Int32) (I : xI) (J : xJ) {t : (Int32 × Int32 × Int32 × Int32 × Int32 × Int32 × xI × xJ) ⊕ ((Int32 × Int32 × Int32 × Int32 × Int32 × (Option Value) × xI × xJ) ⊕ (Int32 × xI × xJ))} (h : f_X12_split_15 x1 x2 x3 x4 x5 x6 I J = some t) (hC : (c_X12_split_7 L xs d Q) t) : Rn L xs (d + 7) 265 126 [some (.ref 61), some (.int x1), some (.int x2), some (.int x3), some (.int x4), some (.int x5), some (.int x6)] [] 94 (I, J, xrf) Q := by
  unfold f_X12_split_15 at h
  refine Rn.go 1 (j' := 265) (pc' := 152) (ls' := [some (.ref 61), some (.int x1), some (.int x2), some (.int x3), some (.int x4), some (.int x5), some (.int x6)]) (st' := []) (n' := 94) (M' := (I, J, xrf)) (fun f => rfl) ?_
  exact p_X12_split_17 x1 x2 x3 x4 x5 x6 I J h hC
theorem p_X12_split_14 {L : Nat} {xs : Nat → Int32} {d : Nat} {Q : xO → Prop} (x1 : Int32) (x2 : Int32) (x3 : Int32) (x4 : Int32) (x5 : Int32) (x6 : Int32) (s0 : Int32) (I : xI) (J : xJ) {t : (Int32 × Int32 × Int32 × Int32 × Int32 × Int32 × xI × xJ) ⊕ ((Int32 × Int32 × Int32 × Int32 × Int32 × (Option Value) × xI × xJ) ⊕ (Int32 × xI × xJ))} (h : f_X12_split_14 x1 x2 x3 x4 x5 x6 s0 I J = some t) (hC : (c_X12_split_7 L xs d Q) t) : Rn L xs (d + 7) 265 123 [some (.ref 61), some (.int x1), some (.int x2), some (.int x3), some (.int x4), some (.int x5), some (.int x6)] [.int s0] 94 (I, J, xrf) Q := by
  unfold f_X12_split_14 at h
  refine Rn.fi 1 (c := s0 = 0) (p1 := 126) (l1 := [some (.ref 61), some (.int x1), some (.int x2), some (.int x3), some (.int x4), some (.int x5), some (.int x6)]) (s1 := []) (n1 := 94) (M1 := (I, J, xrf)) (p2 := 129) (l2 := [some (.ref 61), some (.int x1), some (.int x2), some (.int x3), some (.int x4), some (.int x5), some (.int x6)]) (s2 := []) (n2 := 94) (M2 := (I, J, xrf)) (fun f => rfl) (fun hc => ?_) (fun hc => ?_)
  · rw [if_pos hc] at h
    exact p_X12_split_15 x1 x2 x3 x4 x5 x6 I J h hC
  · rw [if_neg hc] at h
    exact p_X12_split_16 x1 x2 x3 x4 x5 x6 I J h hC
theorem p_X12_split_13 {L : Nat} {xs : Nat → Int32} {d : Nat} {Q : xO → Prop} (x1 : Int32) (x2 : Int32) (x3 : Int32) (x4 : Int32) (x5 : Int32) (x6 : Int32) (I : xI) (J : xJ) {t : (Int32 × Int32 × Int32 × Int32 × Int32 × Int32 × xI × xJ) ⊕ ((Int32 × Int32 × Int32 × Int32 × Int32 × (Option Value) × xI × xJ) ⊕ (Int32 × xI × xJ))} (h : f_X12_split_13 x1 x2 x3 x4 x5 x6 I J = some t) (hC : (c_X12_split_7 L xs d Q) t) : Rn L xs (d + 7) 265 115 [some (.ref 61), some (.int x1), some (.int x2), some (.int x3), some (.int x4), some (.int x5), some (.int x6)] [] 94 (I, J, xrf) Q := by
  unfold f_X12_split_13 at h
  refine Rn.go 3 (j' := 265) (pc' := 120) (ls' := [some (.ref 61), some (.int x1), some (.int x2), some (.int x3), some (.int x4), some (.int x5), some (.int x6)]) (st' := [.int x6, .int x5, .ref 61]) (n' := 94) (M' := (I, J, xrf)) (fun f => rfl) ?_
  obtain ⟨o, ho, h⟩ := Option.bind_eq_some_iff.mp h
  refine Rn.call (d1 := d + 6) (j1 := 264) (ls1 := [some (.ref 61), some (.int x5), some (.int x6), none, none]) (rest := []) (fun f => rfl) ?_
  refine p_X12_areAll (d := d + 5) x5 x6 I J (t := o) ho ?_
  exact p_X12_split_14 x1 x2 x3 x4 x5 x6 o.1 o.2.1 o.2.2 h hC
theorem p_X12_split_12 {L : Nat} {xs : Nat → Int32} {d : Nat} {Q : xO → Prop} (x1 : Int32) (x2 : Int32) (x3 : Int32) (x4 : Int32) (x5 : Int32) (x6 : Int32) (I : xI) (J : xJ) {t : (Int32 × Int32 × Int32 × Int32 × Int32 × Int32 × xI × xJ) ⊕ ((Int32 × Int32 × Int32 × Int32 × Int32 × (Option Value) × xI × xJ) ⊕ (Int32 × xI × xJ))} (h : f_X12_split_12 x1 x2 x3 x4 x5 x6 I J = some t) (hC : (c_X12_split_7 L xs d Q) t) : Rn L xs (d + 7) 265 95 [some (.ref 61), some (.int x1), some (.int x2), some (.int x3), some (.int x4), some (.int x5), some (.int x6)] [] 94 (I, J, xrf) Q := by
  unfold f_X12_split_12 at h
  obtain ⟨hc, h⟩ := xif h
  refine Rn.ok 4 (c := x5 < 0 ∨ 203 ≤ x5.toNatClampNeg) (p1 := 102) (l1 := [some (.ref 61), some (.int x1), some (.int x2), some (.int x3), some (.int x4), some (.int x5), some (.int x6)]) (s1 := [.int ((I 83 x5.toNatClampNeg))]) (n1 := 94) (M1 := (I, J, xrf)) (fun f => rfl) hc ?_
  obtain ⟨hc, h⟩ := xif h
  refine Rn.ok 4 (c := x6 < 0 ∨ 203 ≤ x6.toNatClampNeg) (p1 := 109) (l1 := [some (.ref 61), some (.int x1), some (.int x2), some (.int x3), some (.int x4), some (.int x5), some (.int x6)]) (s1 := [.int ((I 83 x6.toNatClampNeg)), .int ((I 83 x5.toNatClampNeg))]) (n1 := 94) (M1 := (I, J, xrf)) (fun f => rfl) hc ?_
  refine Rn.fi 3 (c := x4 ≤ ((I 83 x5.toNatClampNeg) + (I 83 x6.toNatClampNeg))) (p1 := 152) (l1 := [some (.ref 61), some (.int x1), some (.int x2), some (.int x3), some (.int x4), some (.int x5), some (.int x6)]) (s1 := []) (n1 := 94) (M1 := (I, J, xrf)) (p2 := 115) (l2 := [some (.ref 61), some (.int x1), some (.int x2), some (.int x3), some (.int x4), some (.int x5), some (.int x6)]) (s2 := []) (n2 := 94) (M2 := (I, J, xrf)) (fun f => rfl) (fun hc => ?_) (fun hc => ?_)
  · rw [if_pos hc] at h
    exact p_X12_split_17 x1 x2 x3 x4 x5 x6 I J h hC
  · rw [if_neg hc] at h
    exact p_X12_split_13 x1 x2 x3 x4 x5 x6 I J h hC
theorem p_X12_split_11 {L : Nat} {xs : Nat → Int32} {d : Nat} {Q : xO → Prop} (x1 : Int32) (x2 : Int32) (x3 : Int32) (x4 : Int32) (x5 : Int32) (x6 : Int32) (I : xI) (J : xJ) {t : (Int32 × Int32 × Int32 × Int32 × Int32 × Int32 × xI × xJ) ⊕ ((Int32 × Int32 × Int32 × Int32 × Int32 × (Option Value) × xI × xJ) ⊕ (Int32 × xI × xJ))} (h : f_X12_split_11 x1 x2 x3 x4 x5 x6 I J = some t) (hC : (c_X12_split_7 L xs d Q) t) : Rn L xs (d + 7) 265 81 [some (.ref 61), some (.int x1), some (.int x2), some (.int x3), some (.int x4), some (.int x5), some (.int x6)] [] 94 (I, J, xrf) Q := by
  unfold f_X12_split_11 at h
  obtain ⟨hc, h⟩ := xif h
  refine Rn.ok 4 (c := x6 < 0 ∨ 203 ≤ x6.toNatClampNeg) (p1 := 88) (l1 := [some (.ref 61), some (.int x1), some (.int x2), some (.int x3), some (.int x4), some (.int x5), some (.int x6)]) (s1 := [.int ((I 83 x6.toNatClampNeg))]) (n1 := 94) (M1 := (I, J, xrf)) (fun f => rfl) hc ?_
  refine Rn.fi 3 (c := (I 61 17) ≤ (I 83 x6.toNatClampNeg)) (p1 := 152) (l1 := [some (.ref 61), some (.int x1), some (.int x2), some (.int x3), some (.int x4), some (.int x5), some (.int x6)]) (s1 := []) (n1 := 94) (M1 := (I, J, xrf)) (p2 := 95) (l2 := [some (.ref 61), some (.int x1), some (.int x2), some (.int x3), some (.int x4), some (.int x5), some (.int x6)]) (s2 := []) (n2 := 94) (M2 := (I, J, xrf)) (fun f => rfl) (fun hc => ?_) (fun hc => ?_)
  · rw [if_pos hc] at h
    exact p_X12_split_17 x1 x2 x3 x4 x5 x6 I J h hC
  · rw [if_neg hc] at h
    exact p_X12_split_12 x1 x2 x3 x4 x5 x6 I J h hC
theorem p_X12_split_10 {L : Nat} {xs : Nat → Int32} {d : Nat} {Q : xO → Prop} (x1 : Int32) (x2 : Int32) (x3 : Int32) (x4 : Int32) (x5 : Int32) (x6 : Int32) (I : xI) (J : xJ) {t : (Int32 × Int32 × Int32 × Int32 × Int32 × Int32 × xI × xJ) ⊕ ((Int32 × Int32 × Int32 × Int32 × Int32 × (Option Value) × xI × xJ) ⊕ (Int32 × xI × xJ))} (h : f_X12_split_10 x1 x2 x3 x4 x5 x6 I J = some t) (hC : (c_X12_split_7 L xs d Q) t) : Rn L xs (d + 7) 265 67 [some (.ref 61), some (.int x1), some (.int x2), some (.int x3), some (.int x4), some (.int x5), some (.int x6)] [] 94 (I, J, xrf) Q := by
  unfold f_X12_split_10 at h
  obtain ⟨hc, h⟩ := xif h
  refine Rn.ok 4 (c := x5 < 0 ∨ 203 ≤ x5.toNatClampNeg) (p1 := 74) (l1 := [some (.ref 61), some (.int x1), some (.int x2), some (.int x3), some (.int x4), some (.int x5), some (.int x6)]) (s1 := [.int ((I 83 x5.toNatClampNeg))]) (n1 := 94) (M1 := (I, J, xrf)) (fun f => rfl) hc ?_
  refine Rn.fi 3 (c := (I 61 17) ≤ (I 83 x5.toNatClampNeg)) (p1 := 152) (l1 := [some (.ref 61), some (.int x1), some (.int x2), some (.int x3), some (.int x4), some (.int x5), some (.int x6)]) (s1 := []) (n1 := 94) (M1 := (I, J, xrf)) (p2 := 81) (l2 := [some (.ref 61), some (.int x1), some (.int x2), some (.int x3), some (.int x4), some (.int x5), some (.int x6)]) (s2 := []) (n2 := 94) (M2 := (I, J, xrf)) (fun f => rfl) (fun hc => ?_) (fun hc => ?_)
  · rw [if_pos hc] at h
    exact p_X12_split_17 x1 x2 x3 x4 x5 x6 I J h hC
  · rw [if_neg hc] at h
    exact p_X12_split_11 x1 x2 x3 x4 x5 x6 I J h hC
theorem p_X12_split_9 {L : Nat} {xs : Nat → Int32} {d : Nat} {Q : xO → Prop} (x1 : Int32) (x2 : Int32) (x3 : Int32) (x4 : Int32) (x5 : Int32) (x6 : Int32) (I : xI) (J : xJ) {t : (Int32 × Int32 × Int32 × Int32 × Int32 × Int32 × xI × xJ) ⊕ ((Int32 × Int32 × Int32 × Int32 × Int32 × (Option Value) × xI × xJ) ⊕ (Int32 × xI × xJ))} (h : f_X12_split_9 x1 x2 x3 x4 x5 x6 I J = some t) (hC : (c_X12_split_7 L xs d Q) t) : Rn L xs (d + 7) 265 57 [some (.ref 61), some (.int x1), some (.int x2), some (.int x3), some (.int x4), some (.int x5), some (.int x6)] [] 94 (I, J, xrf) Q := by
  unfold f_X12_split_9 at h
  obtain ⟨hc, h⟩ := xif h
  refine Rn.ok 4 (c := x6 < 0 ∨ 203 ≤ x6.toNatClampNeg) (p1 := 64) (l1 := [some (.ref 61), some (.int x1), some (.int x2), some (.int x3), some (.int x4), some (.int x5), some (.int x6)]) (s1 := [.int ((I 84 x6.toNatClampNeg))]) (n1 := 94) (M1 := (I, J, xrf)) (fun f => rfl) hc ?_
  refine Rn.fi 1 (c := (I 84 x6.toNatClampNeg) = 0) (p1 := 152) (l1 := [some (.ref 61), some (.int x1), some (.int x2), some (.int x3), some (.int x4), some (.int x5), some (.int x6)]) (s1 := []) (n1 := 94) (M1 := (I, J, xrf)) (p2 := 67) (l2 := [some (.ref 61), some (.int x1), some (.int x2), some (.int x3), some (.int x4), some (.int x5), some (.int x6)]) (s2 := []) (n2 := 94) (M2 := (I, J, xrf)) (fun f => rfl) (fun hc => ?_) (fun hc => ?_)
  · rw [if_pos hc] at h
    exact p_X12_split_17 x1 x2 x3 x4 x5 x6 I J h hC
  · rw [if_neg hc] at h
    exact p_X12_split_10 x1 x2 x3 x4 x5 x6 I J h hC
theorem p_X12_split_8 {L : Nat} {xs : Nat → Int32} {d : Nat} {Q : xO → Prop} (x1 : Int32) (x2 : Int32) (x3 : Int32) (x4 : Int32) (x5 : Int32) (x6 : Int32) (I : xI) (J : xJ) {t : (Int32 × Int32 × Int32 × Int32 × Int32 × Int32 × xI × xJ) ⊕ ((Int32 × Int32 × Int32 × Int32 × Int32 × (Option Value) × xI × xJ) ⊕ (Int32 × xI × xJ))} (h : f_X12_split_8 x1 x2 x3 x4 x5 x6 I J = some t) (hC : (c_X12_split_7 L xs d Q) t) : Rn L xs (d + 7) 265 47 [some (.ref 61), some (.int x1), some (.int x2), some (.int x3), some (.int x4), some (.int x5), some (.int x6)] [] 94 (I, J, xrf) Q := by
  unfold f_X12_split_8 at h
  obtain ⟨hc, h⟩ := xif h
  refine Rn.ok 4 (c := x5 < 0 ∨ 203 ≤ x5.toNatClampNeg) (p1 := 54) (l1 := [some (.ref 61), some (.int x1), some (.int x2), some (.int x3), some (.int x4), some (.int x5), some (.int x6)]) (s1 := [.int ((I 84 x5.toNatClampNeg))]) (n1 := 94) (M1 := (I, J, xrf)) (fun f => rfl) hc ?_
  refine Rn.fi 1 (c := (I 84 x5.toNatClampNeg) = 0) (p1 := 152) (l1 := [some (.ref 61), some (.int x1), some (.int x2), some (.int x3), some (.int x4), some (.int x5), some (.int x6)]) (s1 := []) (n1 := 94) (M1 := (I, J, xrf)) (p2 := 57) (l2 := [some (.ref 61), some (.int x1), some (.int x2), some (.int x3), some (.int x4), some (.int x5), some (.int x6)]) (s2 := []) (n2 := 94) (M2 := (I, J, xrf)) (fun f => rfl) (fun hc => ?_) (fun hc => ?_)
  · rw [if_pos hc] at h
    exact p_X12_split_17 x1 x2 x3 x4 x5 x6 I J h hC
  · rw [if_neg hc] at h
    exact p_X12_split_9 x1 x2 x3 x4 x5 x6 I J h hC
theorem q_X12_split_7 {L : Nat} {xs : Nat → Int32} {d : Nat} {Q : xO → Prop} (x1 : Int32) (x2 : Int32) (x3 : Int32) (x4 : Int32) (x5 : Int32) (x6 : Int32) (I : xI) (J : xJ) {t : (Int32 × Int32 × Int32 × Int32 × Int32 × Int32 × xI × xJ) ⊕ ((Int32 × Int32 × Int32 × Int32 × Int32 × (Option Value) × xI × xJ) ⊕ (Int32 × xI × xJ))} (h : b_X12_split_7 x1 x2 x3 x4 x5 x6 I J = some t) (hC : (c_X12_split_7 L xs d Q) t) : Rn L xs (d + 7) 265 38 [some (.ref 61), some (.int x1), some (.int x2), some (.int x3), some (.int x4), some (.int x5), some (.int x6)] [] 94 (I, J, xrf) Q := by
  unfold b_X12_split_7 at h
  refine Rn.fi 4 (c := (I 61 40) ≤ x6) (p1 := 158) (l1 := [some (.ref 61), some (.int x1), some (.int x2), some (.int x3), some (.int x4), some (.int x5), some (.int x6)]) (s1 := []) (n1 := 94) (M1 := (I, J, xrf)) (p2 := 47) (l2 := [some (.ref 61), some (.int x1), some (.int x2), some (.int x3), some (.int x4), some (.int x5), some (.int x6)]) (s2 := []) (n2 := 94) (M2 := (I, J, xrf)) (fun f => rfl) (fun hc => ?_) (fun hc => ?_)
  · rw [if_pos hc] at h
    obtain ⟨t0, h0, rfl⟩ := Option.map_eq_some_iff.mp h
    exact p_X12_split_18 x1 x2 x3 x4 x5 x6 I J h0 hC
  · rw [if_neg hc] at h
    exact p_X12_split_8 x1 x2 x3 x4 x5 x6 I J h hC
theorem p_X12_split_7 {L : Nat} {xs : Nat → Int32} {d : Nat} {Q : xO → Prop} (x1 : Int32) (x2 : Int32) (x3 : Int32) (x4 : Int32) (x5 : Int32) (x6 : Int32) (I : xI) (J : xJ) {t : (Int32 × Int32 × Int32 × Int32 × Int32 × (Option Value) × xI × xJ) ⊕ (Int32 × xI × xJ)} (h : f_X12_split_7 x1 x2 x3 x4 x5 x6 I J = some t) (hC : (c_X12_split_5 L xs d Q) t) : Rn L xs (d + 7) 265 38 [some (.ref 61), some (.int x1), some (.int x2), some (.int x3), some (.int x4), some (.int x5), some (.int x6)] [] 94 (I, J, xrf) Q := by
  unfold f_X12_split_7 at h
  exact xloop_some (P := fun s : Int32 × Int32 × Int32 × Int32 × Int32 × Int32 × xI × xJ => Rn L xs (d + 7) 265 38 [some (.ref 61), some (.int s.1), some (.int s.2.1), some (.int s.2.2.1), some (.int s.2.2.2.1), some (.int s.2.2.2.2.1), some (.int s.2.2.2.2.2.1)] [] 94 (s.2.2.2.2.2.2.1, s.2.2.2.2.2.2.2, xrf) Q) t (fun s ⟨s', hb, hp⟩ => q_X12_split_7 s.1 s.2.1 s.2.2.1 s.2.2.2.1 s.2.2.2.2.1 s.2.2.2.2.2.1 s.2.2.2.2.2.2.1 s.2.2.2.2.2.2.2 hb hp) (fun s hb => q_X12_split_7 s.1 s.2.1 s.2.2.1 s.2.2.2.1 s.2.2.2.2.1 s.2.2.2.2.2.1 s.2.2.2.2.2.2.1 s.2.2.2.2.2.2.2 hb hC) _ _ h
theorem p_X12_split_6 {L : Nat} {xs : Nat → Int32} {d : Nat} {Q : xO → Prop} (x1 : Int32) (x2 : Int32) (x3 : Int32) (x4 : Int32) (x5 : Int32) (z6 : Option Value) (I : xI) (J : xJ) {t : (Int32 × Int32 × Int32 × Int32 × Int32 × (Option Value) × xI × xJ) ⊕ (Int32 × xI × xJ)} (h : f_X12_split_6 x1 x2 x3 x4 x5 z6 I J = some t) (hC : (c_X12_split_5 L xs d Q) t) : Rn L xs (d + 7) 265 35 [some (.ref 61), some (.int x1), some (.int x2), some (.int x3), some (.int x4), some (.int x5), z6] [] 94 (I, J, xrf) Q := by
  unfold f_X12_split_6 at h
  refine Rn.go 2 (j' := 265) (pc' := 38) (ls' := [some (.ref 61), some (.int x1), some (.int x2), some (.int x3), some (.int x4), some (.int x5), some (.int 0)]) (st' := []) (n' := 94) (M' := (I, J, xrf)) (fun f => rfl) ?_
  exact p_X12_split_7 x1 x2 x3 x4 x5 0 I J h hC
theorem q_X12_split_5 {L : Nat} {xs : Nat → Int32} {d : Nat} {Q : xO → Prop} (x1 : Int32) (x2 : Int32) (x3 : Int32) (x4 : Int32) (x5 : Int32) (z6 : Option Value) (I : xI) (J : xJ) {t : (Int32 × Int32 × Int32 × Int32 × Int32 × (Option Value) × xI × xJ) ⊕ (Int32 × xI × xJ)} (h : b_X12_split_5 x1 x2 x3 x4 x5 z6 I J = some t) (hC : (c_X12_split_5 L xs d Q) t) : Rn L xs (d + 7) 265 26 [some (.ref 61), some (.int x1), some (.int x2), some (.int x3), some (.int x4), some (.int x5), z6] [] 94 (I, J, xrf) Q := by
  unfold b_X12_split_5 at h
  refine Rn.fi 4 (c := (I 61 40) ≤ x5) (p1 := 164) (l1 := [some (.ref 61), some (.int x1), some (.int x2), some (.int x3), some (.int x4), some (.int x5), z6]) (s1 := []) (n1 := 94) (M1 := (I, J, xrf)) (p2 := 35) (l2 := [some (.ref 61), some (.int x1), some (.int x2), some (.int x3), some (.int x4), some (.int x5), z6]) (s2 := []) (n2 := 94) (M2 := (I, J, xrf)) (fun f => rfl) (fun hc => ?_) (fun hc => ?_)
  · rw [if_pos hc] at h
    obtain ⟨t0, h0, rfl⟩ := Option.map_eq_some_iff.mp h
    exact p_X12_split_19 x1 x2 x3 x4 x5 z6 I J h0 hC
  · rw [if_neg hc] at h
    exact p_X12_split_6 x1 x2 x3 x4 x5 z6 I J h hC
theorem p_X12_split_5 {L : Nat} {xs : Nat → Int32} {d : Nat} {Q : xO → Prop} (x1 : Int32) (x2 : Int32) (x3 : Int32) (x4 : Int32) (x5 : Int32) (z6 : Option Value) (I : xI) (J : xJ) {t : Int32 × xI × xJ} (h : f_X12_split_5 x1 x2 x3 x4 x5 z6 I J = some t) (hC : (c_X12_split Q) t) : Rn L xs (d + 7) 265 26 [some (.ref 61), some (.int x1), some (.int x2), some (.int x3), some (.int x4), some (.int x5), z6] [] 94 (I, J, xrf) Q := by
  unfold f_X12_split_5 at h
  exact xloop_some (P := fun s : Int32 × Int32 × Int32 × Int32 × Int32 × (Option Value) × xI × xJ => Rn L xs (d + 7) 265 26 [some (.ref 61), some (.int s.1), some (.int s.2.1), some (.int s.2.2.1), some (.int s.2.2.2.1), some (.int s.2.2.2.2.1), s.2.2.2.2.2.1] [] 94 (s.2.2.2.2.2.2.1, s.2.2.2.2.2.2.2, xrf) Q) t (fun s ⟨s', hb, hp⟩ => q_X12_split_5 s.1 s.2.1 s.2.2.1 s.2.2.2.1 s.2.2.2.2.1 s.2.2.2.2.2.1 s.2.2.2.2.2.2.1 s.2.2.2.2.2.2.2 hb hp) (fun s hb => q_X12_split_5 s.1 s.2.1 s.2.2.1 s.2.2.2.1 s.2.2.2.2.1 s.2.2.2.2.2.1 s.2.2.2.2.2.2.1 s.2.2.2.2.2.2.2 hb hC) _ _ h
theorem p_X12_split_4 {L : Nat} {xs : Nat → Int32} {d : Nat} {Q : xO → Prop} (x1 : Int32) (I : xI) (J : xJ) {t : Int32 × xI × xJ} (h : f_X12_split_4 x1 I J = some t) (hC : (c_X12_split Q) t) : Rn L xs (d + 7) 265 15 [some (.ref 61), some (.int x1), none, none, none, none, none] [] 94 (I, J, xrf) Q := by
  unfold f_X12_split_4 at h
  refine Rn.go 8 (j' := 265) (pc' := 26) (ls' := [some (.ref 61), some (.int x1), some (.int ((-1))), some (.int ((-1))), some (.int 99), some (.int 0), none]) (st' := []) (n' := 94) (M' := (I, J, xrf)) (fun f => rfl) ?_
  exact p_X12_split_5 x1 ((-1)) ((-1)) 99 0 none I J h hC
theorem p_X12_split_3 {L : Nat} {xs : Nat → Int32} {d : Nat} {Q : xO → Prop} (x1 : Int32) (I : xI) (J : xJ) {t : Int32 × xI × xJ} (h : f_X12_split_3 x1 I J = some t) (hC : (c_X12_split Q) t) : Rn L xs (d + 7) 265 11 [some (.ref 61), some (.int x1), none, none, none, none, none] [] 94 (I, J, xrf) Q := by
  unfold f_X12_split_3 at h
  refine Rn.go 1 (j' := 265) (pc' := 12) (ls' := [some (.ref 61), some (.int x1), none, none, none, none, none]) (st' := [.ref 61]) (n' := 94) (M' := (I, J, xrf)) (fun f => rfl) ?_
  obtain ⟨o, ho, h⟩ := Option.bind_eq_some_iff.mp h
  refine Rn.call (d1 := d + 6) (j1 := 223) (ls1 := [some (.ref 61)]) (rest := []) (fun f => rfl) ?_
  refine p_X12_knows (d := d + 0) I J (t := o) ho ?_
  exact p_X12_split_4 x1 o.2.1 o.2.2 h hC
theorem p_X12_split_2 {L : Nat} {xs : Nat → Int32} {d : Nat} {Q : xO → Prop} (x1 : Int32) (I : xI) (J : xJ) {t : Int32 × xI × xJ} (h : f_X12_split_2 x1 I J = some t) (hC : (c_X12_split Q) t) : Rn L xs (d + 7) 265 9 [some (.ref 61), some (.int x1), none, none, none, none, none] [] 94 (I, J, xrf) Q := by
  unfold f_X12_split_2 at h
  cases h
  exact Rn.ret 2 (o := ((some (.int ((-1)))), 94, (I, J, xrf))) (fun f => rfl) hC
theorem p_X12_split_1 {L : Nat} {xs : Nat → Int32} {d : Nat} {Q : xO → Prop} (x1 : Int32) (s0 : Int32) (I : xI) (J : xJ) {t : Int32 × xI × xJ} (h : f_X12_split_1 x1 s0 I J = some t) (hC : (c_X12_split Q) t) : Rn L xs (d + 7) 265 6 [some (.ref 61), some (.int x1), none, none, none, none, none] [.int s0] 94 (I, J, xrf) Q := by
  unfold f_X12_split_1 at h
  refine Rn.fi 1 (c := s0 = 0) (p1 := 9) (l1 := [some (.ref 61), some (.int x1), none, none, none, none, none]) (s1 := []) (n1 := 94) (M1 := (I, J, xrf)) (p2 := 11) (l2 := [some (.ref 61), some (.int x1), none, none, none, none, none]) (s2 := []) (n2 := 94) (M2 := (I, J, xrf)) (fun f => rfl) (fun hc => ?_) (fun hc => ?_)
  · rw [if_pos hc] at h
    exact p_X12_split_2 x1 I J h hC
  · rw [if_neg hc] at h
    exact p_X12_split_3 x1 I J h hC
theorem p_X12_split_0 {L : Nat} {xs : Nat → Int32} {d : Nat} {Q : xO → Prop} (x1 : Int32) (I : xI) (J : xJ) {t : Int32 × xI × xJ} (h : f_X12_split_0 x1 I J = some t) (hC : (c_X12_split Q) t) : Rn L xs (d + 7) 265 0 [some (.ref 61), some (.int x1), none, none, none, none, none] [] 94 (I, J, xrf) Q := by
  unfold f_X12_split_0 at h
  refine Rn.go 3 (j' := 265) (pc' := 3) (ls' := [some (.ref 61), some (.int x1), none, none, none, none, none]) (st' := [.int 2, .int 0, .int x1]) (n' := 94) (M' := (I, J, xrf)) (fun f => rfl) ?_
  obtain ⟨o, ho, h⟩ := Option.bind_eq_some_iff.mp h
  refine Rn.call (d1 := d + 6) (j1 := 206) (ls1 := [some (.int x1), some (.int 0), some (.int 2)]) (rest := []) (fun f => rfl) ?_
  refine p_X12_in (d := d + 5) x1 0 2 I J (t := o) ho ?_
  exact p_X12_split_1 x1 o.1 o.2.1 o.2.2 h hC
theorem p_X12_split {L : Nat} {xs : Nat → Int32} {d : Nat} {Q : xO → Prop} (x1 : Int32) (I : xI) (J : xJ) {t : Int32 × xI × xJ} (h : f_X12_split x1 I J = some t) (hC : Q ((some (.int t.1)), 94, (t.2.1, t.2.2, xrf))) : Rn L xs (d + 7) 265 0 [some (.ref 61), some (.int x1), none, none, none, none, none] [] 94 (I, J, xrf) Q := p_X12_split_0 x1 I J h hC
/-! X12_tailAt -/
def c_X12_tailAt (Q : xO → Prop) (t : Int32 × xI × xJ) : Prop := Q ((some (.int t.1)), 94, (t.2.1, t.2.2, xrf))
def c_X12_tailAt_1 (L : Nat) (xs : Nat → Int32) (d : Nat) (Q : xO → Prop) (t : (Int32 × Int32 × Int32 × xI × xJ) ⊕ (Int32 × xI × xJ)) : Prop := match t with
  | .inl s => Rn L xs (d + 2) 266 4 [some (.ref 61), some (.int s.1), some (.int s.2.1), some (.int s.2.2.1)] [] 94 (s.2.2.2.1, s.2.2.2.2, xrf) Q
  | .inr t => (c_X12_tailAt Q) t
def f_X12_tailAt_8 (x1 : Int32) (x2 : Int32) (x3 : Int32) (I : xI) (J : xJ) : Option (Int32 × xI × xJ) := some (x2, I, J)
def f_X12_tailAt_7 (x1 : Int32) (x2 : Int32) (x3 : Int32) (I : xI) (J : xJ) : Option ((Int32 × Int32 × Int32 × xI × xJ) ⊕ (Int32 × xI × xJ)) := some (.inl (x1, x2, ((x3 + 1)), I, J))
def f_X12_tailAt_6 (x1 : Int32) (x2 : Int32) (x3 : Int32) (I : xI) (J : xJ) : Option ((Int32 × Int32 × Int32 × xI × xJ) ⊕ (Int32 × xI × xJ)) := f_X12_tailAt_7 x1 x3 x3 I J
def f_X12_tailAt_5 (x1 : Int32) (x2 : Int32) (x3 : Int32) (I : xI) (J : xJ) : Option ((Int32 × Int32 × Int32 × xI × xJ) ⊕ (Int32 × xI × xJ)) := if x3 < 0 ∨ 203 ≤ x3.toNatClampNeg then none else if x2 < 0 ∨ 203 ≤ x2.toNatClampNeg then none else if (I 83 x2.toNatClampNeg) ≤ (I 83 x3.toNatClampNeg) then f_X12_tailAt_7 x1 x2 x3 I J else f_X12_tailAt_6 x1 x2 x3 I J
def f_X12_tailAt_4 (x1 : Int32) (x2 : Int32) (x3 : Int32) (I : xI) (J : xJ) : Option ((Int32 × Int32 × Int32 × xI × xJ) ⊕ (Int32 × xI × xJ)) := if x2 < 0 then f_X12_tailAt_6 x1 x2 x3 I J else f_X12_tailAt_5 x1 x2 x3 I J
def f_X12_tailAt_3 (x1 : Int32) (x2 : Int32) (x3 : Int32) (s0 : Int32) (I : xI) (J : xJ) : Option ((Int32 × Int32 × Int32 × xI × xJ) ⊕ (Int32 × xI × xJ)) := if s0 = 0 then f_X12_tailAt_7 x1 x2 x3 I J else f_X12_tailAt_4 x1 x2 x3 I J
def f_X12_tailAt_2 (x1 : Int32) (x2 : Int32) (x3 : Int32) (I : xI) (J : xJ) : Option ((Int32 × Int32 × Int32 × xI × xJ) ⊕ (Int32 × xI × xJ)) := (f_X12_areAll x1 x3 I J).bind fun o => f_X12_tailAt_3 x1 x2 x3 o.1 o.2.1 o.2.2
def b_X12_tailAt_1 (x1 : Int32) (x2 : Int32) (x3 : Int32) (I : xI) (J : xJ) : Option ((Int32 × Int32 × Int32 × xI × xJ) ⊕ (Int32 × xI × xJ)) := if (I 61 40) ≤ x3 then ((f_X12_tailAt_8 x1 x2 x3 I J)).map .inr else f_X12_tailAt_2 x1 x2 x3 I J
def f_X12_tailAt_1 (x1 : Int32) (x2 : Int32) (x3 : Int32) (I : xI) (J : xJ) : Option (Int32 × xI × xJ) := xloop (fun s : Int32 × Int32 × Int32 × xI × xJ => b_X12_tailAt_1 s.1 s.2.1 s.2.2.1 s.2.2.2.1 s.2.2.2.2) 5000 (x1, x2, x3, I, J)
def f_X12_tailAt_0 (x1 : Int32) (I : xI) (J : xJ) : Option (Int32 × xI × xJ) := f_X12_tailAt_1 x1 ((-1)) 0 I J
def f_X12_tailAt (x1 : Int32) (I : xI) (J : xJ) : Option (Int32 × xI × xJ) := f_X12_tailAt_0 x1 I J
theorem p_X12_tailAt_8 {L : Nat} {xs : Nat → Int32} {d : Nat} {Q : xO → Prop} (x1 : Int32) (x2 : Int32) (x3 : Int32) (I : xI) (J : xJ) {t : Int32 × xI × xJ} (h : f_X12_tailAt_8 x1 x2 x3 I J = some t) (hC : (c_X12_tailAt Q) t) : Rn L xs (d + 2) 266 48 [some (.ref 61), some (.int x1), some (.int x2), some (.int x3)] [] 94 (I, J, xrf) Q := by
  unfold f_X12_tailAt_8 at h
  cases h
  exact Rn.ret 2 (o := ((some (.int x2)), 94, (I, J, xrf))) (fun f => rfl) hC
theorem p_X12_tailAt_7 {L : Nat} {xs : Nat → Int32} {d : Nat} {Q : xO → Prop} (x1 : Int32) (x2 : Int32) (x3 : Int32) (I : xI) (J : xJ) {t : (Int32 × Int32 × Int32 × xI × xJ) ⊕ (Int32 × xI × xJ)} (h : f_X12_tailAt_7 x1 x2 x3 I J = some t) (hC : (c_X12_tailAt_1 L xs d Q) t) : Rn L xs (d + 2) 266 42 [some (.ref 61), some (.int x1), some (.int x2), some (.int x3)] [] 94 (I, J, xrf) Q := by
  unfold f_X12_tailAt_7 at h
  refine Rn.go 2 (j' := 266) (pc' := 4) (ls' := [some (.ref 61), some (.int x1), some (.int x2), some (.int ((x3 + 1)))]) (st' := []) (n' := 94) (M' := (I, J, xrf)) (fun f => rfl) ?_
  cases h; exact hC
theorem p_X12_tailAt_6 {L : Nat} {xs : Nat → Int32} {d : Nat} {Q : xO → Prop} (x1 : Int32) (x2 : Int32) (x3 : Int32) (I : xI) (J : xJ) {t : (Int32 × Int32 × Int32 × xI × xJ) ⊕ (Int32 × xI × xJ)} (h : f_X12_tailAt_6 x1 x2 x3 I J = some t) (hC : (c_X12_tailAt_1 L xs d Q) t) : Rn L xs (d + 2) 266 40 [some (.ref 61), some (.int x1), some (.int x2), some (.int x3)] [] 94 (I, J, xrf) Q := by
  unfold f_X12_tailAt_6 at h
  refine Rn.go 2 (j' := 266) (pc' := 42) (ls' := [some (.ref 61), some (.int x1), some (.int x3), some (.int x3)]) (st' := []) (n' := 94) (M' := (I, J, xrf)) (fun f => rfl) ?_
  exact p_X12_tailAt_7 x1 x3 x3 I J h hC
theorem p_X12_tailAt_5 {L : Nat} {xs : Nat → Int32} {d : Nat} {Q : xO → Prop} (x1 : Int32) (x2 : Int32) (x3 : Int32) (I : xI) (J : xJ) {t : (Int32 × Int32 × Int32 × xI × xJ) ⊕ (Int32 × xI × xJ)} (h : f_X12_tailAt_5 x1 x2 x3 I J = some t) (hC : (c_X12_tailAt_1 L xs d Q) t) : Rn L xs (d + 2) 266 25 [some (.ref 61), some (.int x1), some (.int x2), some (.int x3)] [] 94 (I, J, xrf) Q := by
  unfold f_X12_tailAt_5 at h
  obtain ⟨hc, h⟩ := xif h
  refine Rn.ok 4 (c := x3 < 0 ∨ 203 ≤ x3.toNatClampNeg) (p1 := 31) (l1 := [some (.ref 61), some (.int x1), some (.int x2), some (.int x3)]) (s1 := [.int ((I 83 x3.toNatClampNeg))]) (n1 := 94) (M1 := (I, J, xrf)) (fun f => rfl) hc ?_
  obtain ⟨hc, h⟩ := xif h
  refine Rn.ok 4 (c := x2 < 0 ∨ 203 ≤ x2.toNatClampNeg) (p1 := 37) (l1 := [some (.ref 61), some (.int x1), some (.int x2), some (.int x3)]) (s1 := [.int ((I 83 x2.toNatClampNeg)), .int ((I 83 x3.toNatClampNeg))]) (n1 := 94) (M1 := (I, J, xrf)) (fun f => rfl) hc ?_
  refine Rn.fi 1 (c := (I 83 x2.toNatClampNeg) ≤ (I 83 x3.toNatClampNeg)) (p1 := 42) (l1 := [some (.ref 61), some (.int x1), some (.int x2), some (.int x3)]) (s1 := []) (n1 := 94) (M1 := (I, J, xrf)) (p2 := 40) (l2 := [some (.ref 61), some (.int x1), some (.int x2), some (.int x3)]) (s2 := []) (n2 := 94) (M2 := (I, J, xrf)) (fun f => rfl) (fun hc => ?_) (fun hc => ?_)
  · rw [if_pos hc] at h
    exact p_X12_tailAt_7 x1 x2 x3 I J h hC
  · rw [if_neg hc] at h
    exact p_X12_tailAt_6 x1 x2 x3 I J h hC
theorem p_X12_tailAt_4 {L : Nat} {xs : Nat → Int32} {d : Nat} {Q : xO → Prop} (x1 : Int32) (x2 : Int32) (x3 : Int32) (I : xI) (J : xJ) {t : (Int32 × Int32 × Int32 × xI × xJ) ⊕ (Int32 × xI × xJ)} (h : f_X12_tailAt_4 x1 x2 x3 I J = some t) (hC : (c_X12_tailAt_1 L xs d Q) t) : Rn L xs (d + 2) 266 21 [some (.ref 61), some (.int x1), some (.int x2), some (.int x3)] [] 94 (I, J, xrf) Q := by
  unfold f_X12_tailAt_4 at h
  refine Rn.fi 2 (c := x2 < 0) (p1 := 40) (l1 := [some (.ref 61), some (.int x1), some (.int x2), some (.int x3)]) (s1 := []) (n1 := 94) (M1 := (I, J, xrf)) (p2 := 25) (l2 := [some (.ref 61), some (.int x1), some (.int x2), some (.int x3)]) (s2 := []) (n2 := 94) (M2 := (I, J, xrf)) (fun f => rfl) (fun hc => ?_) (fun hc => ?_)
  · rw [if_pos hc] at h
    exact p_X12_tailAt_6 x1 x2 x3 I J h hC
  · rw [if_neg hc] at h
    exact p_X12_tailAt_5 x1 x2 x3 I J h hC
theorem p_X12_tailAt_3 {L : Nat} {xs : Nat → Int32} {d : Nat} {Q : xO → Prop} (x1 : Int32) (x2 : Int32) (x3 : Int32) (s0 : Int32) (I : xI) (J : xJ) {t : (Int32 × Int32 × Int32 × xI × xJ) ⊕ (Int32 × xI × xJ)} (h : f_X12_tailAt_3 x1 x2 x3 s0 I J = some t) (hC : (c_X12_tailAt_1 L xs d Q) t) : Rn L xs (d + 2) 266 18 [some (.ref 61), some (.int x1), some (.int x2), some (.int x3)] [.int s0] 94 (I, J, xrf) Q := by
  unfold f_X12_tailAt_3 at h
  refine Rn.fi 1 (c := s0 = 0) (p1 := 42) (l1 := [some (.ref 61), some (.int x1), some (.int x2), some (.int x3)]) (s1 := []) (n1 := 94) (M1 := (I, J, xrf)) (p2 := 21) (l2 := [some (.ref 61), some (.int x1), some (.int x2), some (.int x3)]) (s2 := []) (n2 := 94) (M2 := (I, J, xrf)) (fun f => rfl) (fun hc => ?_) (fun hc => ?_)
  · rw [if_pos hc] at h
    exact p_X12_tailAt_7 x1 x2 x3 I J h hC
  · rw [if_neg hc] at h
    exact p_X12_tailAt_4 x1 x2 x3 I J h hC
theorem p_X12_tailAt_2 {L : Nat} {xs : Nat → Int32} {d : Nat} {Q : xO → Prop} (x1 : Int32) (x2 : Int32) (x3 : Int32) (I : xI) (J : xJ) {t : (Int32 × Int32 × Int32 × xI × xJ) ⊕ (Int32 × xI × xJ)} (h : f_X12_tailAt_2 x1 x2 x3 I J = some t) (hC : (c_X12_tailAt_1 L xs d Q) t) : Rn L xs (d + 2) 266 12 [some (.ref 61), some (.int x1), some (.int x2), some (.int x3)] [] 94 (I, J, xrf) Q := by
  unfold f_X12_tailAt_2 at h
  refine Rn.go 3 (j' := 266) (pc' := 15) (ls' := [some (.ref 61), some (.int x1), some (.int x2), some (.int x3)]) (st' := [.int x3, .int x1, .ref 61]) (n' := 94) (M' := (I, J, xrf)) (fun f => rfl) ?_
  obtain ⟨o, ho, h⟩ := Option.bind_eq_some_iff.mp h
  refine Rn.call (d1 := d + 1) (j1 := 264) (ls1 := [some (.ref 61), some (.int x1), some (.int x3), none, none]) (rest := []) (fun f => rfl) ?_
  refine p_X12_areAll (d := d + 0) x1 x3 I J (t := o) ho ?_
  exact p_X12_tailAt_3 x1 x2 x3 o.1 o.2.1 o.2.2 h hC
theorem q_X12_tailAt_1 {L : Nat} {xs : Nat → Int32} {d : Nat} {Q : xO → Prop} (x1 : Int32) (x2 : Int32) (x3 : Int32) (I : xI) (J : xJ) {t : (Int32 × Int32 × Int32 × xI × xJ) ⊕ (Int32 × xI × xJ)} (h : b_X12_tailAt_1 x1 x2 x3 I J = some t) (hC : (c_X12_tailAt_1 L xs d Q) t) : Rn L xs (d + 2) 266 4 [some (.ref 61), some (.int x1), some (.int x2), some (.int x3)] [] 94 (I, J, xrf) Q := by
  unfold b_X12_tailAt_1 at h
  refine Rn.fi 4 (c := (I 61 40) ≤ x3) (p1 := 48) (l1 := [some (.ref 61), some (.int x1), some (.int x2), some (.int x3)]) (s1 := []) (n1 := 94) (M1 := (I, J, xrf)) (p2 := 12) (l2 := [some (.ref 61), some (.int x1), some (.int x2), some (.int x3)]) (s2 := []) (n2 := 94) (M2 := (I, J, xrf)) (fun f => rfl) (fun hc => ?_) (fun hc => ?_)
  · rw [if_pos hc] at h
    obtain ⟨t0, h0, rfl⟩ := Option.map_eq_some_iff.mp h
    exact p_X12_tailAt_8 x1 x2 x3 I J h0 hC
  · rw [if_neg hc] at h
    exact p_X12_tailAt_2 x1 x2 x3 I J h hC
theorem p_X12_tailAt_1 {L : Nat} {xs : Nat → Int32} {d : Nat} {Q : xO → Prop} (x1 : Int32) (x2 : Int32) (x3 : Int32) (I : xI) (J : xJ) {t : Int32 × xI × xJ} (h : f_X12_tailAt_1 x1 x2 x3 I J = some t) (hC : (c_X12_tailAt Q) t) : Rn L xs (d + 2) 266 4 [some (.ref 61), some (.int x1), some (.int x2), some (.int x3)] [] 94 (I, J, xrf) Q := by
  unfold f_X12_tailAt_1 at h
  exact xloop_some (P := fun s : Int32 × Int32 × Int32 × xI × xJ => Rn L xs (d + 2) 266 4 [some (.ref 61), some (.int s.1), some (.int s.2.1), some (.int s.2.2.1)] [] 94 (s.2.2.2.1, s.2.2.2.2, xrf) Q) t (fun s ⟨s', hb, hp⟩ => q_X12_tailAt_1 s.1 s.2.1 s.2.2.1 s.2.2.2.1 s.2.2.2.2 hb hp) (fun s hb => q_X12_tailAt_1 s.1 s.2.1 s.2.2.1 s.2.2.2.1 s.2.2.2.2 hb hC) _ _ h
theorem p_X12_tailAt_0 {L : Nat} {xs : Nat → Int32} {d : Nat} {Q : xO → Prop} (x1 : Int32) (I : xI) (J : xJ) {t : Int32 × xI × xJ} (h : f_X12_tailAt_0 x1 I J = some t) (hC : (c_X12_tailAt Q) t) : Rn L xs (d + 2) 266 0 [some (.ref 61), some (.int x1), none, none] [] 94 (I, J, xrf) Q := by
  unfold f_X12_tailAt_0 at h
  refine Rn.go 4 (j' := 266) (pc' := 4) (ls' := [some (.ref 61), some (.int x1), some (.int ((-1))), some (.int 0)]) (st' := []) (n' := 94) (M' := (I, J, xrf)) (fun f => rfl) ?_
  exact p_X12_tailAt_1 x1 ((-1)) 0 I J h hC
theorem p_X12_tailAt {L : Nat} {xs : Nat → Int32} {d : Nat} {Q : xO → Prop} (x1 : Int32) (I : xI) (J : xJ) {t : Int32 × xI × xJ} (h : f_X12_tailAt x1 I J = some t) (hC : Q ((some (.int t.1)), 94, (t.2.1, t.2.2, xrf))) : Rn L xs (d + 2) 266 0 [some (.ref 61), some (.int x1), none, none] [] 94 (I, J, xrf) Q := p_X12_tailAt_0 x1 I J h hC
/-! X12_tail -/
def c_X12_tail (Q : xO → Prop) (t : Int32 × xI × xJ) : Prop := Q ((some (.int t.1)), 94, (t.2.1, t.2.2, xrf))
def f_X12_tail_6 (x1 : Int32) (x2 : Int32) (s0 : Int32) (I : xI) (J : xJ) : Option (Int32 × xI × xJ) := some (s0, I, J)
def f_X12_tail_3 (x1 : Int32) (x2 : Int32) (I : xI) (J : xJ) : Option (Int32 × xI × xJ) := f_X12_tail_6 x1 x2 ((-1)) I J
def f_X12_tail_5 (x1 : Int32) (x2 : Int32) (s1 : Int32) (I : xI) (J : xJ) : Option (Int32 × xI × xJ) := if s1 < 0 ∨ 203 ≤ s1.toNatClampNeg then none else f_X12_tail_6 x1 x2 ((I 82 s1.toNatClampNeg)) I J
def f_X12_tail_4 (x1 : Int32) (x2 : Int32) (I : xI) (J : xJ) : Option (Int32 × xI × xJ) := (f_X12_tailAt x2 I J).bind fun o => f_X12_tail_5 x1 x2 o.1 o.2.1 o.2.2
def f_X12_tail_2 (x1 : Int32) (x2 : Int32) (I : xI) (J : xJ) : Option (Int32 × xI × xJ) := if x2 < 0 ∨ 203 ≤ x2.toNatClampNeg then none else if (I 84 x2.toNatClampNeg) = 0 then f_X12_tail_3 x1 x2 I J else f_X12_tail_4 x1 x2 I J
def f_X12_tail_1 (x1 : Int32) (s0 : Int32) (I : xI) (J : xJ) : Option (Int32 × xI × xJ) := if s0 < 0 then f_X12_tail_3 x1 s0 I J else f_X12_tail_2 x1 s0 I J
def f_X12_tail_0 (x1 : Int32) (I : xI) (J : xJ) : Option (Int32 × xI × xJ) := (f_X12_placeOf x1 I J).bind fun o => f_X12_tail_1 x1 o.1 o.2.1 o.2.2
def f_X12_tail (x1 : Int32) (I : xI) (J : xJ) : Option (Int32 × xI × xJ) := f_X12_tail_0 x1 I J
theorem p_X12_tail_6 {L : Nat} {xs : Nat → Int32} {d : Nat} {Q : xO → Prop} (x1 : Int32) (x2 : Int32) (s0 : Int32) (I : xI) (J : xJ) {t : Int32 × xI × xJ} (h : f_X12_tail_6 x1 x2 s0 I J = some t) (hC : (c_X12_tail Q) t) : Rn L xs (d + 8) 267 33 [some (.ref 61), some (.int x1), some (.int x2)] [.int s0] 94 (I, J, xrf) Q := by
  unfold f_X12_tail_6 at h
  cases h
  exact Rn.ret 1 (o := ((some (.int s0)), 94, (I, J, xrf))) (fun f => rfl) hC
theorem p_X12_tail_3 {L : Nat} {xs : Nat → Int32} {d : Nat} {Q : xO → Prop} (x1 : Int32) (x2 : Int32) (I : xI) (J : xJ) {t : Int32 × xI × xJ} (h : f_X12_tail_3 x1 x2 I J = some t) (hC : (c_X12_tail Q) t) : Rn L xs (d + 8) 267 19 [some (.ref 61), some (.int x1), some (.int x2)] [] 94 (I, J, xrf) Q := by
  unfold f_X12_tail_3 at h
  refine Rn.go 2 (j' := 267) (pc' := 33) (ls' := [some (.ref 61), some (.int x1), some (.int x2)]) (st' := [.int ((-1))]) (n' := 94) (M' := (I, J, xrf)) (fun f => rfl) ?_
  exact p_X12_tail_6 x1 x2 ((-1)) I J h hC
theorem p_X12_tail_5 {L : Nat} {xs : Nat → Int32} {d : Nat} {Q : xO → Prop} (x1 : Int32) (x2 : Int32) (s1 : Int32) (I : xI) (J : xJ) {t : Int32 × xI × xJ} (h : f_X12_tail_5 x1 x2 s1 I J = some t) (hC : (c_X12_tail Q) t) : Rn L xs (d + 8) 267 32 [some (.ref 61), some (.int x1), some (.int x2)] [.int s1, .ref 82] 94 (I, J, xrf) Q := by
  unfold f_X12_tail_5 at h
  obtain ⟨hc, h⟩ := xif h
  refine Rn.ok 1 (c := s1 < 0 ∨ 203 ≤ s1.toNatClampNeg) (p1 := 33) (l1 := [some (.ref 61), some (.int x1), some (.int x2)]) (s1 := [.int ((I 82 s1.toNatClampNeg))]) (n1 := 94) (M1 := (I, J, xrf)) (fun f => rfl) hc ?_
  exact p_X12_tail_6 x1 x2 ((I 82 s1.toNatClampNeg)) I J h hC
theorem p_X12_tail_4 {L : Nat} {xs : Nat → Int32} {d : Nat} {Q : xO → Prop} (x1 : Int32) (x2 : Int32) (I : xI) (J : xJ) {t : Int32 × xI × xJ} (h : f_X12_tail_4 x1 x2 I J = some t) (hC : (c_X12_tail Q) t) : Rn L xs (d + 8) 267 23 [some (.ref 61), some (.int x1), some (.int x2)] [] 94 (I, J, xrf) Q := by
  unfold f_X12_tail_4 at h
  refine Rn.go 4 (j' := 267) (pc' := 29) (ls' := [some (.ref 61), some (.int x1), some (.int x2)]) (st' := [.int x2, .ref 61, .ref 82]) (n' := 94) (M' := (I, J, xrf)) (fun f => rfl) ?_
  obtain ⟨o, ho, h⟩ := Option.bind_eq_some_iff.mp h
  refine Rn.call (d1 := d + 7) (j1 := 266) (ls1 := [some (.ref 61), some (.int x2), none, none]) (rest := [.ref 82]) (fun f => rfl) ?_
  refine p_X12_tailAt (d := d + 5) x2 I J (t := o) ho ?_
  exact p_X12_tail_5 x1 x2 o.1 o.2.1 o.2.2 h hC
theorem p_X12_tail_2 {L : Nat} {xs : Nat → Int32} {d : Nat} {Q : xO → Prop} (x1 : Int32) (x2 : Int32) (I : xI) (J : xJ) {t : Int32 × xI × xJ} (h : f_X12_tail_2 x1 x2 I J = some t) (hC : (c_X12_tail Q) t) : Rn L xs (d + 8) 267 10 [some (.ref 61), some (.int x1), some (.int x2)] [] 94 (I, J, xrf) Q := by
  unfold f_X12_tail_2 at h
  obtain ⟨hc, h⟩ := xif h
  refine Rn.ok 4 (c := x2 < 0 ∨ 203 ≤ x2.toNatClampNeg) (p1 := 16) (l1 := [some (.ref 61), some (.int x1), some (.int x2)]) (s1 := [.int ((I 84 x2.toNatClampNeg))]) (n1 := 94) (M1 := (I, J, xrf)) (fun f => rfl) hc ?_
  refine Rn.fi 1 (c := (I 84 x2.toNatClampNeg) = 0) (p1 := 19) (l1 := [some (.ref 61), some (.int x1), some (.int x2)]) (s1 := []) (n1 := 94) (M1 := (I, J, xrf)) (p2 := 23) (l2 := [some (.ref 61), some (.int x1), some (.int x2)]) (s2 := []) (n2 := 94) (M2 := (I, J, xrf)) (fun f => rfl) (fun hc => ?_) (fun hc => ?_)
  · rw [if_pos hc] at h
    exact p_X12_tail_3 x1 x2 I J h hC
  · rw [if_neg hc] at h
    exact p_X12_tail_4 x1 x2 I J h hC
theorem p_X12_tail_1 {L : Nat} {xs : Nat → Int32} {d : Nat} {Q : xO → Prop} (x1 : Int32) (s0 : Int32) (I : xI) (J : xJ) {t : Int32 × xI × xJ} (h : f_X12_tail_1 x1 s0 I J = some t) (hC : (c_X12_tail Q) t) : Rn L xs (d + 8) 267 5 [some (.ref 61), some (.int x1), none] [.int s0] 94 (I, J, xrf) Q := by
  unfold f_X12_tail_1 at h
  refine Rn.fi 3 (c := s0 < 0) (p1 := 19) (l1 := [some (.ref 61), some (.int x1), some (.int s0)]) (s1 := []) (n1 := 94) (M1 := (I, J, xrf)) (p2 := 10) (l2 := [some (.ref 61), some (.int x1), some (.int s0)]) (s2 := []) (n2 := 94) (M2 := (I, J, xrf)) (fun f => rfl) (fun hc => ?_) (fun hc => ?_)
  · rw [if_pos hc] at h
    exact p_X12_tail_3 x1 s0 I J h hC
  · rw [if_neg hc] at h
    exact p_X12_tail_2 x1 s0 I J h hC
theorem p_X12_tail_0 {L : Nat} {xs : Nat → Int32} {d : Nat} {Q : xO → Prop} (x1 : Int32) (I : xI) (J : xJ) {t : Int32 × xI × xJ} (h : f_X12_tail_0 x1 I J = some t) (hC : (c_X12_tail Q) t) : Rn L xs (d + 8) 267 0 [some (.ref 61), some (.int x1), none] [] 94 (I, J, xrf) Q := by
  unfold f_X12_tail_0 at h
  refine Rn.go 2 (j' := 267) (pc' := 2) (ls' := [some (.ref 61), some (.int x1), none]) (st' := [.int x1, .ref 61]) (n' := 94) (M' := (I, J, xrf)) (fun f => rfl) ?_
  obtain ⟨o, ho, h⟩ := Option.bind_eq_some_iff.mp h
  refine Rn.call (d1 := d + 7) (j1 := 259) (ls1 := [some (.ref 61), some (.int x1), none]) (rest := []) (fun f => rfl) ?_
  refine p_X12_placeOf (d := d + 0) x1 I J (t := o) ho ?_
  exact p_X12_tail_1 x1 o.1 o.2.1 o.2.2 h hC
theorem p_X12_tail {L : Nat} {xs : Nat → Int32} {d : Nat} {Q : xO → Prop} (x1 : Int32) (I : xI) (J : xJ) {t : Int32 × xI × xJ} (h : f_X12_tail x1 I J = some t) (hC : Q ((some (.int t.1)), 94, (t.2.1, t.2.2, xrf))) : Rn L xs (d + 8) 267 0 [some (.ref 61), some (.int x1), none] [] 94 (I, J, xrf) Q := p_X12_tail_0 x1 I J h hC
/-! X12_partTo -/
def c_X12_partTo (Q : xO → Prop) (t : Int32 × xI × xJ) : Prop := Q ((some (.int t.1)), 94, (t.2.1, t.2.2, xrf))
def c_X12_partTo_1 (L : Nat) (xs : Nat → Int32) (d : Nat) (Q : xO → Prop) (t : (Int32 × Int32 × Int32 × Int32 × xI × xJ) ⊕ (Int32 × xI × xJ)) : Prop := match t with
  | .inl s => Rn L xs (d + 2) 268 3 [some (.ref 61), some (.int s.1), some (.int s.2.1), some (.int s.2.2.1), some (.int s.2.2.2.1)] [] 94 (s.2.2.2.2.1, s.2.2.2.2.2, xrf) Q
  | .inr t => (c_X12_partTo Q) t
def f_X12_partTo_8 (x1 : Int32) (x2 : Int32) (x3 : Int32) (x4 : Int32) (I : xI) (J : xJ) : Option (Int32 × xI × xJ) := some ((-2), I, J)
def f_X12_partTo_7 (x1 : Int32) (x2 : Int32) (x3 : Int32) (x4 : Int32) (I : xI) (J : xJ) : Option ((Int32 × Int32 × Int32 × Int32 × xI × xJ) ⊕ (Int32 × xI × xJ)) := some (.inl (x1, x2, x3, ((x4 + 1)), I, J))
def f_X12_partTo_6 (x1 : Int32) (x2 : Int32) (x3 : Int32) (x4 : Int32) (s1 : Int32) (s2 : Int32) (I : xI) (J : xJ) : Option (Int32 × xI × xJ) := if (s1 + s2) < 0 ∨ 1218 ≤ ((s1 + s2)).toNatClampNeg then none else some ((I 85 ((s1 + s2)).toNatClampNeg), I, J)
def f_X12_partTo_5 (x1 : Int32) (x2 : Int32) (x3 : Int32) (x4 : Int32) (I : xI) (J : xJ) : Option (Int32 × xI × xJ) := (f_X12_to x4 x3 I J).bind fun o => f_X12_partTo_6 x1 x2 x3 x4 ((6 * x1)) o.1 o.2.1 o.2.2
def f_X12_partTo_4 (x1 : Int32) (x2 : Int32) (x3 : Int32) (x4 : Int32) (s0 : Int32) (I : xI) (J : xJ) : Option ((Int32 × Int32 × Int32 × Int32 × xI × xJ) ⊕ (Int32 × xI × xJ)) := if s0 < 0 then f_X12_partTo_7 x1 x2 x3 x4 I J else ((f_X12_partTo_5 x1 x2 x3 x4 I J)).map .inr
def f_X12_partTo_3 (x1 : Int32) (x2 : Int32) (x3 : Int32) (x4 : Int32) (I : xI) (J : xJ) : Option ((Int32 × Int32 × Int32 × Int32 × xI × xJ) ⊕ (Int32 × xI × xJ)) := (f_X12_to x4 x3 I J).bind fun o => f_X12_partTo_4 x1 x2 x3 x4 o.1 o.2.1 o.2.2
def f_X12_partTo_2 (x1 : Int32) (x2 : Int32) (x3 : Int32) (x4 : Int32) (I : xI) (J : xJ) : Option ((Int32 × Int32 × Int32 × Int32 × xI × xJ) ⊕ (Int32 × xI × xJ)) := if ((6 * x1) + x4) < 0 ∨ 1218 ≤ (((6 * x1) + x4)).toNatClampNeg then none else if (I 85 (((6 * x1) + x4)).toNatClampNeg) = x2 then f_X12_partTo_3 x1 x2 x3 x4 I J else f_X12_partTo_7 x1 x2 x3 x4 I J
def b_X12_partTo_1 (x1 : Int32) (x2 : Int32) (x3 : Int32) (x4 : Int32) (I : xI) (J : xJ) : Option ((Int32 × Int32 × Int32 × Int32 × xI × xJ) ⊕ (Int32 × xI × xJ)) := if (I 61 17) ≤ x4 then ((f_X12_partTo_8 x1 x2 x3 x4 I J)).map .inr else f_X12_partTo_2 x1 x2 x3 x4 I J
def f_X12_partTo_1 (x1 : Int32) (x2 : Int32) (x3 : Int32) (x4 : Int32) (I : xI) (J : xJ) : Option (Int32 × xI × xJ) := xloop (fun s : Int32 × Int32 × Int32 × Int32 × xI × xJ => b_X12_partTo_1 s.1 s.2.1 s.2.2.1 s.2.2.2.1 s.2.2.2.2.1 s.2.2.2.2.2) 5000 (x1, x2, x3, x4, I, J)
def f_X12_partTo_0 (x1 : Int32) (x2 : Int32) (x3 : Int32) (I : xI) (J : xJ) : Option (Int32 × xI × xJ) := f_X12_partTo_1 x1 x2 x3 0 I J
def f_X12_partTo (x1 : Int32) (x2 : Int32) (x3 : Int32) (I : xI) (J : xJ) : Option (Int32 × xI × xJ) := f_X12_partTo_0 x1 x2 x3 I J
theorem p_X12_partTo_8 {L : Nat} {xs : Nat → Int32} {d : Nat} {Q : xO → Prop} (x1 : Int32) (x2 : Int32) (x3 : Int32) (x4 : Int32) (I : xI) (J : xJ) {t : Int32 × xI × xJ} (h : f_X12_partTo_8 x1 x2 x3 x4 I J = some t) (hC : (c_X12_partTo Q) t) : Rn L xs (d + 2) 268 62 [some (.ref 61), some (.int x1), some (.int x2), some (.int x3), some (.int x4)] [] 94 (I, J, xrf) Q := by
  unfold f_X12_partTo_8 at h
  cases h
  exact Rn.ret 2 (o := ((some (.int ((-2)))), 94, (I, J, xrf))) (fun f => rfl) hC
theorem p_X12_partTo_7 {L : Nat} {xs : Nat → Int32} {d : Nat} {Q : xO → Prop} (x1 : Int32) (x2 : Int32) (x3 : Int32) (x4 : Int32) (I : xI) (J : xJ) {t : (Int32 × Int32 × Int32 × Int32 × xI × xJ) ⊕ (Int32 × xI × xJ)} (h : f_X12_partTo_7 x1 x2 x3 x4 I J = some t) (hC : (c_X12_partTo_1 L xs d Q) t) : Rn L xs (d + 2) 268 56 [some (.ref 61), some (.int x1), some (.int x2), some (.int x3), some (.int x4)] [] 94 (I, J, xrf) Q := by
  unfold f_X12_partTo_7 at h
  refine Rn.go 2 (j' := 268) (pc' := 3) (ls' := [some (.ref 61), some (.int x1), some (.int x2), some (.int x3), some (.int ((x4 + 1)))]) (st' := []) (n' := 94) (M' := (I, J, xrf)) (fun f => rfl) ?_
  cases h; exact hC
theorem p_X12_partTo_6 {L : Nat} {xs : Nat → Int32} {d : Nat} {Q : xO → Prop} (x1 : Int32) (x2 : Int32) (x3 : Int32) (x4 : Int32) (s1 : Int32) (s2 : Int32) (I : xI) (J : xJ) {t : Int32 × xI × xJ} (h : f_X12_partTo_6 x1 x2 x3 x4 s1 s2 I J = some t) (hC : (c_X12_partTo Q) t) : Rn L xs (d + 2) 268 53 [some (.ref 61), some (.int x1), some (.int x2), some (.int x3), some (.int x4)] [.int s2, .int s1, .ref 85] 94 (I, J, xrf) Q := by
  unfold f_X12_partTo_6 at h
  obtain ⟨hc, h⟩ := xif h
  refine Rn.ok 2 (c := (s1 + s2) < 0 ∨ 1218 ≤ ((s1 + s2)).toNatClampNeg) (p1 := 55) (l1 := [some (.ref 61), some (.int x1), some (.int x2), some (.int x3), some (.int x4)]) (s1 := [.int ((I 85 ((s1 + s2)).toNatClampNeg))]) (n1 := 94) (M1 := (I, J, xrf)) (fun f => rfl) hc ?_
  cases h
  exact Rn.ret 1 (o := ((some (.int ((I 85 ((s1 + s2)).toNatClampNeg)))), 94, (I, J, xrf))) (fun f => rfl) hC
theorem p_X12_partTo_5 {L : Nat} {xs : Nat → Int32} {d : Nat} {Q : xO → Prop} (x1 : Int32) (x2 : Int32) (x3 : Int32) (x4 : Int32) (I : xI) (J : xJ) {t : Int32 × xI × xJ} (h : f_X12_partTo_5 x1 x2 x3 x4 I J = some t) (hC : (c_X12_partTo Q) t) : Rn L xs (d + 2) 268 38 [some (.ref 61), some (.int x1), some (.int x2), some (.int x3), some (.int x4)] [] 94 (I, J, xrf) Q := by
  unfold f_X12_partTo_5 at h
  refine Rn.go 8 (j' := 268) (pc' := 50) (ls' := [some (.ref 61), some (.int x1), some (.int x2), some (.int x3), some (.int x4)]) (st' := [.int x3, .int x4, .ref 61, .int ((6 * x1)), .ref 85]) (n' := 94) (M' := (I, J, xrf)) (fun f => rfl) ?_
  obtain ⟨o, ho, h⟩ := Option.bind_eq_some_iff.mp h
  refine Rn.call (d1 := d + 1) (j1 := 210) (ls1 := [some (.ref 61), some (.int x4), some (.int x3)]) (rest := [.int ((6 * x1)), .ref 85]) (fun f => rfl) ?_
  refine p_X12_to (d := d + 0) x4 x3 I J (t := o) ho ?_
  exact p_X12_partTo_6 x1 x2 x3 x4 ((6 * x1)) o.1 o.2.1 o.2.2 h hC
theorem p_X12_partTo_4 {L : Nat} {xs : Nat → Int32} {d : Nat} {Q : xO → Prop} (x1 : Int32) (x2 : Int32) (x3 : Int32) (x4 : Int32) (s0 : Int32) (I : xI) (J : xJ) {t : (Int32 × Int32 × Int32 × Int32 × xI × xJ) ⊕ (Int32 × xI × xJ)} (h : f_X12_partTo_4 x1 x2 x3 x4 s0 I J = some t) (hC : (c_X12_partTo_1 L xs d Q) t) : Rn L xs (d + 2) 268 35 [some (.ref 61), some (.int x1), some (.int x2), some (.int x3), some (.int x4)] [.int s0] 94 (I, J, xrf) Q := by
  unfold f_X12_partTo_4 at h
  refine Rn.fi 1 (c := s0 < 0) (p1 := 56) (l1 := [some (.ref 61), some (.int x1), some (.int x2), some (.int x3), some (.int x4)]) (s1 := []) (n1 := 94) (M1 := (I, J, xrf)) (p2 := 38) (l2 := [some (.ref 61), some (.int x1), some (.int x2), some (.int x3), some (.int x4)]) (s2 := []) (n2 := 94) (M2 := (I, J, xrf)) (fun f => rfl) (fun hc => ?_) (fun hc => ?_)
  · rw [if_pos hc] at h
    exact p_X12_partTo_7 x1 x2 x3 x4 I J h hC
  · rw [if_neg hc] at h
    obtain ⟨t0, h0, rfl⟩ := Option.map_eq_some_iff.mp h
    exact p_X12_partTo_5 x1 x2 x3 x4 I J h0 hC
theorem p_X12_partTo_3 {L : Nat} {xs : Nat → Int32} {d : Nat} {Q : xO → Prop} (x1 : Int32) (x2 : Int32) (x3 : Int32) (x4 : Int32) (I : xI) (J : xJ) {t : (Int32 × Int32 × Int32 × Int32 × xI × xJ) ⊕ (Int32 × xI × xJ)} (h : f_X12_partTo_3 x1 x2 x3 x4 I J = some t) (hC : (c_X12_partTo_1 L xs d Q) t) : Rn L xs (d + 2) 268 28 [some (.ref 61), some (.int x1), some (.int x2), some (.int x3), some (.int x4)] [] 94 (I, J, xrf) Q := by
  unfold f_X12_partTo_3 at h
  refine Rn.go 3 (j' := 268) (pc' := 32) (ls' := [some (.ref 61), some (.int x1), some (.int x2), some (.int x3), some (.int x4)]) (st' := [.int x3, .int x4, .ref 61]) (n' := 94) (M' := (I, J, xrf)) (fun f => rfl) ?_
  obtain ⟨o, ho, h⟩ := Option.bind_eq_some_iff.mp h
  refine Rn.call (d1 := d + 1) (j1 := 210) (ls1 := [some (.ref 61), some (.int x4), some (.int x3)]) (rest := []) (fun f => rfl) ?_
  refine p_X12_to (d := d + 0) x4 x3 I J (t := o) ho ?_
  exact p_X12_partTo_4 x1 x2 x3 x4 o.1 o.2.1 o.2.2 h hC
theorem p_X12_partTo_2 {L : Nat} {xs : Nat → Int32} {d : Nat} {Q : xO → Prop} (x1 : Int32) (x2 : Int32) (x3 : Int32) (x4 : Int32) (I : xI) (J : xJ) {t : (Int32 × Int32 × Int32 × Int32 × xI × xJ) ⊕ (Int32 × xI × xJ)} (h : f_X12_partTo_2 x1 x2 x3 x4 I J = some t) (hC : (c_X12_partTo_1 L xs d Q) t) : Rn L xs (d + 2) 268 12 [some (.ref 61), some (.int x1), some (.int x2), some (.int x3), some (.int x4)] [] 94 (I, J, xrf) Q := by
  unfold f_X12_partTo_2 at h
  obtain ⟨hc, h⟩ := xif h
  refine Rn.ok 8 (c := ((6 * x1) + x4) < 0 ∨ 1218 ≤ (((6 * x1) + x4)).toNatClampNeg) (p1 := 24) (l1 := [some (.ref 61), some (.int x1), some (.int x2), some (.int x3), some (.int x4)]) (s1 := [.int ((I 85 (((6 * x1) + x4)).toNatClampNeg))]) (n1 := 94) (M1 := (I, J, xrf)) (fun f => rfl) hc ?_
  refine Rn.fi 2 (c := (I 85 (((6 * x1) + x4)).toNatClampNeg) = x2) (p1 := 28) (l1 := [some (.ref 61), some (.int x1), some (.int x2), some (.int x3), some (.int x4)]) (s1 := []) (n1 := 94) (M1 := (I, J, xrf)) (p2 := 56) (l2 := [some (.ref 61), some (.int x1), some (.int x2), some (.int x3), some (.int x4)]) (s2 := []) (n2 := 94) (M2 := (I, J, xrf)) (fun f => rfl) (fun hc => ?_) (fun hc => ?_)
  · rw [if_pos hc] at h
    exact p_X12_partTo_3 x1 x2 x3 x4 I J h hC
  · rw [if_neg hc] at h
    exact p_X12_partTo_7 x1 x2 x3 x4 I J h hC
theorem q_X12_partTo_1 {L : Nat} {xs : Nat → Int32} {d : Nat} {Q : xO → Prop} (x1 : Int32) (x2 : Int32) (x3 : Int32) (x4 : Int32) (I : xI) (J : xJ) {t : (Int32 × Int32 × Int32 × Int32 × xI × xJ) ⊕ (Int32 × xI × xJ)} (h : b_X12_partTo_1 x1 x2 x3 x4 I J = some t) (hC : (c_X12_partTo_1 L xs d Q) t) : Rn L xs (d + 2) 268 3 [some (.ref 61), some (.int x1), some (.int x2), some (.int x3), some (.int x4)] [] 94 (I, J, xrf) Q := by
  unfold b_X12_partTo_1 at h
  refine Rn.fi 4 (c := (I 61 17) ≤ x4) (p1 := 62) (l1 := [some (.ref 61), some (.int x1), some (.int x2), some (.int x3), some (.int x4)]) (s1 := []) (n1 := 94) (M1 := (I, J, xrf)) (p2 := 12) (l2 := [some (.ref 61), some (.int x1), some (.int x2), some (.int x3), some (.int x4)]) (s2 := []) (n2 := 94) (M2 := (I, J, xrf)) (fun f => rfl) (fun hc => ?_) (fun hc => ?_)
  · rw [if_pos hc] at h
    obtain ⟨t0, h0, rfl⟩ := Option.map_eq_some_iff.mp h
    exact p_X12_partTo_8 x1 x2 x3 x4 I J h0 hC
  · rw [if_neg hc] at h
    exact p_X12_partTo_2 x1 x2 x3 x4 I J h hC
theorem p_X12_partTo_1 {L : Nat} {xs : Nat → Int32} {d : Nat} {Q : xO → Prop} (x1 : Int32) (x2 : Int32) (x3 : Int32) (x4 : Int32) (I : xI) (J : xJ) {t : Int32 × xI × xJ} (h : f_X12_partTo_1 x1 x2 x3 x4 I J = some t) (hC : (c_X12_partTo Q) t) : Rn L xs (d + 2) 268 3 [some (.ref 61), some (.int x1), some (.int x2), some (.int x3), some (.int x4)] [] 94 (I, J, xrf) Q := by
  unfold f_X12_partTo_1 at h
  exact xloop_some (P := fun s : Int32 × Int32 × Int32 × Int32 × xI × xJ => Rn L xs (d + 2) 268 3 [some (.ref 61), some (.int s.1), some (.int s.2.1), some (.int s.2.2.1), some (.int s.2.2.2.1)] [] 94 (s.2.2.2.2.1, s.2.2.2.2.2, xrf) Q) t (fun s ⟨s', hb, hp⟩ => q_X12_partTo_1 s.1 s.2.1 s.2.2.1 s.2.2.2.1 s.2.2.2.2.1 s.2.2.2.2.2 hb hp) (fun s hb => q_X12_partTo_1 s.1 s.2.1 s.2.2.1 s.2.2.2.1 s.2.2.2.2.1 s.2.2.2.2.2 hb hC) _ _ h
theorem p_X12_partTo_0 {L : Nat} {xs : Nat → Int32} {d : Nat} {Q : xO → Prop} (x1 : Int32) (x2 : Int32) (x3 : Int32) (I : xI) (J : xJ) {t : Int32 × xI × xJ} (h : f_X12_partTo_0 x1 x2 x3 I J = some t) (hC : (c_X12_partTo Q) t) : Rn L xs (d + 2) 268 0 [some (.ref 61), some (.int x1), some (.int x2), some (.int x3), none] [] 94 (I, J, xrf) Q := by
  unfold f_X12_partTo_0 at h
  refine Rn.go 2 (j' := 268) (pc' := 3) (ls' := [some (.ref 61), some (.int x1), some (.int x2), some (.int x3), some (.int 0)]) (st' := []) (n' := 94) (M' := (I, J, xrf)) (fun f => rfl) ?_
  exact p_X12_partTo_1 x1 x2 x3 0 I J h hC
theorem p_X12_partTo {L : Nat} {xs : Nat → Int32} {d : Nat} {Q : xO → Prop} (x1 : Int32) (x2 : Int32) (x3 : Int32) (I : xI) (J : xJ) {t : Int32 × xI × xJ} (h : f_X12_partTo x1 x2 x3 I J = some t) (hC : Q ((some (.int t.1)), 94, (t.2.1, t.2.2, xrf))) : Rn L xs (d + 2) 268 0 [some (.ref 61), some (.int x1), some (.int x2), some (.int x3), none] [] 94 (I, J, xrf) Q := p_X12_partTo_0 x1 x2 x3 I J h hC
/-! X12_part -/
def c_X12_part (Q : xO → Prop) (t : Int32 × xI × xJ) : Prop := Q ((some (.int t.1)), 94, (t.2.1, t.2.2, xrf))
def f_X12_part_7 (x1 : Int32) (x2 : Int32) (x3 : Int32) (x4 : Int32) (I : xI) (J : xJ) : Option (Int32 × xI × xJ) := some ((-1), I, J)
def f_X12_part_9 (x1 : Int32) (x2 : Int32) (x3 : Int32) (x4 : Int32) (s0 : Int32) (I : xI) (J : xJ) : Option (Int32 × xI × xJ) := some (s0, I, J)
def f_X12_part_8 (x1 : Int32) (x2 : Int32) (x3 : Int32) (x4 : Int32) (I : xI) (J : xJ) : Option (Int32 × xI × xJ) := (f_X12_partTo x4 x2 x3 I J).bind fun o => f_X12_part_9 x1 x2 x3 x4 o.1 o.2.1 o.2.2
def f_X12_part_6 (x1 : Int32) (x2 : Int32) (x3 : Int32) (x4 : Int32) (s0 : Int32) (I : xI) (J : xJ) : Option (Int32 × xI × xJ) := if s0 = 0 then f_X12_part_7 x1 x2 x3 x4 I J else f_X12_part_8 x1 x2 x3 x4 I J
def f_X12_part_5 (x1 : Int32) (x2 : Int32) (x3 : Int32) (x4 : Int32) (I : xI) (J : xJ) : Option (Int32 × xI × xJ) := (f_X12_isInput x3 I J).bind fun o => f_X12_part_6 x1 x2 x3 x4 o.1 o.2.1 o.2.2
def f_X12_part_4 (x1 : Int32) (x2 : Int32) (x3 : Int32) (x4 : Int32) (s0 : Int32) (I : xI) (J : xJ) : Option (Int32 × xI × xJ) := if s0 = 0 then f_X12_part_7 x1 x2 x3 x4 I J else f_X12_part_5 x1 x2 x3 x4 I J
def f_X12_part_3 (x1 : Int32) (x2 : Int32) (x3 : Int32) (x4 : Int32) (I : xI) (J : xJ) : Option (Int32 × xI × xJ) := if x4 < 0 ∨ 203 ≤ x4.toNatClampNeg then none else (f_X12_in x2 0 (((I 83 x4.toNatClampNeg) - 1)) I J).bind fun o => f_X12_part_4 x1 x2 x3 x4 o.1 o.2.1 o.2.2
def f_X12_part_2 (x1 : Int32) (x2 : Int32) (x3 : Int32) (x4 : Int32) (I : xI) (J : xJ) : Option (Int32 × xI × xJ) := if x4 < 0 ∨ 203 ≤ x4.toNatClampNeg then none else if (I 84 x4.toNatClampNeg) = 0 then f_X12_part_7 x1 x2 x3 x4 I J else f_X12_part_3 x1 x2 x3 x4 I J
def f_X12_part_1 (x1 : Int32) (x2 : Int32) (x3 : Int32) (s0 : Int32) (I : xI) (J : xJ) : Option (Int32 × xI × xJ) := if s0 < 0 then f_X12_part_7 x1 x2 x3 s0 I J else f_X12_part_2 x1 x2 x3 s0 I J
def f_X12_part_0 (x1 : Int32) (x2 : Int32) (x3 : Int32) (I : xI) (J : xJ) : Option (Int32 × xI × xJ) := (f_X12_placeOf x1 I J).bind fun o => f_X12_part_1 x1 x2 x3 o.1 o.2.1 o.2.2
def f_X12_part (x1 : Int32) (x2 : Int32) (x3 : Int32) (I : xI) (J : xJ) : Option (Int32 × xI × xJ) := f_X12_part_0 x1 x2 x3 I J
theorem p_X12_part_7 {L : Nat} {xs : Nat → Int32} {d : Nat} {Q : xO → Prop} (x1 : Int32) (x2 : Int32) (x3 : Int32) (x4 : Int32) (I : xI) (J : xJ) {t : Int32 × xI × xJ} (h : f_X12_part_7 x1 x2 x3 x4 I J = some t) (hC : (c_X12_part Q) t) : Rn L xs (d + 8) 269 47 [some (.ref 61), some (.int x1), some (.int x2), some (.int x3), some (.int x4)] [] 94 (I, J, xrf) Q := by
  unfold f_X12_part_7 at h
  cases h
  exact Rn.ret 2 (o := ((some (.int ((-1)))), 94, (I, J, xrf))) (fun f => rfl) hC
theorem p_X12_part_9 {L : Nat} {xs : Nat → Int32} {d : Nat} {Q : xO → Prop} (x1 : Int32) (x2 : Int32) (x3 : Int32) (x4 : Int32) (s0 : Int32) (I : xI) (J : xJ) {t : Int32 × xI × xJ} (h : f_X12_part_9 x1 x2 x3 x4 s0 I J = some t) (hC : (c_X12_part Q) t) : Rn L xs (d + 8) 269 57 [some (.ref 61), some (.int x1), some (.int x2), some (.int x3), some (.int x4)] [.int s0] 94 (I, J, xrf) Q := by
  unfold f_X12_part_9 at h
  cases h
  exact Rn.ret 1 (o := ((some (.int s0)), 94, (I, J, xrf))) (fun f => rfl) hC
theorem p_X12_part_8 {L : Nat} {xs : Nat → Int32} {d : Nat} {Q : xO → Prop} (x1 : Int32) (x2 : Int32) (x3 : Int32) (x4 : Int32) (I : xI) (J : xJ) {t : Int32 × xI × xJ} (h : f_X12_part_8 x1 x2 x3 x4 I J = some t) (hC : (c_X12_part Q) t) : Rn L xs (d + 8) 269 49 [some (.ref 61), some (.int x1), some (.int x2), some (.int x3), some (.int x4)] [] 94 (I, J, xrf) Q := by
  unfold f_X12_part_8 at h
  refine Rn.go 4 (j' := 269) (pc' := 54) (ls' := [some (.ref 61), some (.int x1), some (.int x2), some (.int x3), some (.int x4)]) (st' := [.int x3, .int x2, .int x4, .ref 61]) (n' := 94) (M' := (I, J, xrf)) (fun f => rfl) ?_
  obtain ⟨o, ho, h⟩ := Option.bind_eq_some_iff.mp h
  refine Rn.call (d1 := d + 7) (j1 := 268) (ls1 := [some (.ref 61), some (.int x4), some (.int x2), some (.int x3), none]) (rest := []) (fun f => rfl) ?_
  refine p_X12_partTo (d := d + 5) x4 x2 x3 I J (t := o) ho ?_
  exact p_X12_part_9 x1 x2 x3 x4 o.1 o.2.1 o.2.2 h hC
theorem p_X12_part_6 {L : Nat} {xs : Nat → Int32} {d : Nat} {Q : xO → Prop} (x1 : Int32) (x2 : Int32) (x3 : Int32) (x4 : Int32) (s0 : Int32) (I : xI) (J : xJ) {t : Int32 × xI × xJ} (h : f_X12_part_6 x1 x2 x3 x4 s0 I J = some t) (hC : (c_X12_part Q) t) : Rn L xs (d + 8) 269 44 [some (.ref 61), some (.int x1), some (.int x2), some (.int x3), some (.int x4)] [.int s0] 94 (I, J, xrf) Q := by
  unfold f_X12_part_6 at h
  refine Rn.fi 1 (c := s0 = 0) (p1 := 47) (l1 := [some (.ref 61), some (.int x1), some (.int x2), some (.int x3), some (.int x4)]) (s1 := []) (n1 := 94) (M1 := (I, J, xrf)) (p2 := 49) (l2 := [some (.ref 61), some (.int x1), some (.int x2), some (.int x3), some (.int x4)]) (s2 := []) (n2 := 94) (M2 := (I, J, xrf)) (fun f => rfl) (fun hc => ?_) (fun hc => ?_)
  · rw [if_pos hc] at h
    exact p_X12_part_7 x1 x2 x3 x4 I J h hC
  · rw [if_neg hc] at h
    exact p_X12_part_8 x1 x2 x3 x4 I J h hC
theorem p_X12_part_5 {L : Nat} {xs : Nat → Int32} {d : Nat} {Q : xO → Prop} (x1 : Int32) (x2 : Int32) (x3 : Int32) (x4 : Int32) (I : xI) (J : xJ) {t : Int32 × xI × xJ} (h : f_X12_part_5 x1 x2 x3 x4 I J = some t) (hC : (c_X12_part Q) t) : Rn L xs (d + 8) 269 39 [some (.ref 61), some (.int x1), some (.int x2), some (.int x3), some (.int x4)] [] 94 (I, J, xrf) Q := by
  unfold f_X12_part_5 at h
  refine Rn.go 2 (j' := 269) (pc' := 41) (ls' := [some (.ref 61), some (.int x1), some (.int x2), some (.int x3), some (.int x4)]) (st' := [.int x3, .ref 61]) (n' := 94) (M' := (I, J, xrf)) (fun f => rfl) ?_
  obtain ⟨o, ho, h⟩ := Option.bind_eq_some_iff.mp h
  refine Rn.call (d1 := d + 7) (j1 := 208) (ls1 := [some (.ref 61), some (.int x3)]) (rest := []) (fun f => rfl) ?_
  refine p_X12_isInput (d := d + 5) x3 I J (t := o) ho ?_
  exact p_X12_part_6 x1 x2 x3 x4 o.1 o.2.1 o.2.2 h hC
theorem p_X12_part_4 {L : Nat} {xs : Nat → Int32} {d : Nat} {Q : xO → Prop} (x1 : Int32) (x2 : Int32) (x3 : Int32) (x4 : Int32) (s0 : Int32) (I : xI) (J : xJ) {t : Int32 × xI × xJ} (h : f_X12_part_4 x1 x2 x3 x4 s0 I J = some t) (hC : (c_X12_part Q) t) : Rn L xs (d + 8) 269 36 [some (.ref 61), some (.int x1), some (.int x2), some (.int x3), some (.int x4)] [.int s0] 94 (I, J, xrf) Q := by
  unfold f_X12_part_4 at h
  refine Rn.fi 1 (c := s0 = 0) (p1 := 47) (l1 := [some (.ref 61), some (.int x1), some (.int x2), some (.int x3), some (.int x4)]) (s1 := []) (n1 := 94) (M1 := (I, J, xrf)) (p2 := 39) (l2 := [some (.ref 61), some (.int x1), some (.int x2), some (.int x3), some (.int x4)]) (s2 := []) (n2 := 94) (M2 := (I, J, xrf)) (fun f => rfl) (fun hc => ?_) (fun hc => ?_)
  · rw [if_pos hc] at h
    exact p_X12_part_7 x1 x2 x3 x4 I J h hC
  · rw [if_neg hc] at h
    exact p_X12_part_5 x1 x2 x3 x4 I J h hC
theorem p_X12_part_3 {L : Nat} {xs : Nat → Int32} {d : Nat} {Q : xO → Prop} (x1 : Int32) (x2 : Int32) (x3 : Int32) (x4 : Int32) (I : xI) (J : xJ) {t : Int32 × xI × xJ} (h : f_X12_part_3 x1 x2 x3 x4 I J = some t) (hC : (c_X12_part Q) t) : Rn L xs (d + 8) 269 22 [some (.ref 61), some (.int x1), some (.int x2), some (.int x3), some (.int x4)] [] 94 (I, J, xrf) Q := by
  unfold f_X12_part_3 at h
  obtain ⟨hc, h⟩ := xif h
  refine Rn.ok 6 (c := x4 < 0 ∨ 203 ≤ x4.toNatClampNeg) (p1 := 31) (l1 := [some (.ref 61), some (.int x1), some (.int x2), some (.int x3), some (.int x4)]) (s1 := [.int ((I 83 x4.toNatClampNeg)), .int 0, .int x2]) (n1 := 94) (M1 := (I, J, xrf)) (fun f => rfl) hc ?_
  refine Rn.go 2 (j' := 269) (pc' := 33) (ls' := [some (.ref 61), some (.int x1), some (.int x2), some (.int x3), some (.int x4)]) (st' := [.int (((I 83 x4.toNatClampNeg) - 1)), .int 0, .int x2]) (n' := 94) (M' := (I, J, xrf)) (fun f => rfl) ?_
  obtain ⟨o, ho, h⟩ := Option.bind_eq_some_iff.mp h
  refine Rn.call (d1 := d + 7) (j1 := 206) (ls1 := [some (.int x2), some (.int 0), some (.int (((I 83 x4.toNatClampNeg) - 1)))]) (rest := []) (fun f => rfl) ?_
  refine p_X12_in (d := d + 6) x2 0 (((I 83 x4.toNatClampNeg) - 1)) I J (t := o) ho ?_
  exact p_X12_part_4 x1 x2 x3 x4 o.1 o.2.1 o.2.2 h hC
theorem p_X12_part_2 {L : Nat} {xs : Nat → Int32} {d : Nat} {Q : xO → Prop} (x1 : Int32) (x2 : Int32) (x3 : Int32) (x4 : Int32) (I : xI) (J : xJ) {t : Int32 × xI × xJ} (h : f_X12_part_2 x1 x2 x3 x4 I J = some t) (hC : (c_X12_part Q) t) : Rn L xs (d + 8) 269 12 [some (.ref 61), some (.int x1), some (.int x2), some (.int x3), some (.int x4)] [] 94 (I, J, xrf) Q := by
  unfold f_X12_part_2 at h
  obtain ⟨hc, h⟩ := xif h
  refine Rn.ok 4 (c := x4 < 0 ∨ 203 ≤ x4.toNatClampNeg) (p1 := 19) (l1 := [some (.ref 61), some (.int x1), some (.int x2), some (.int x3), some (.int x4)]) (s1 := [.int ((I 84 x4.toNatClampNeg))]) (n1 := 94) (M1 := (I, J, xrf)) (fun f => rfl) hc ?_
  refine Rn.fi 1 (c := (I 84 x4.toNatClampNeg) = 0) (p1 := 47) (l1 := [some (.ref 61), some (.int x1), some (.int x2), some (.int x3), some (.int x4)]) (s1 := []) (n1 := 94) (M1 := (I, J, xrf)) (p2 := 22) (l2 := [some (.ref 61), some (.int x1), some (.int x2), some (.int x3), some (.int x4)]) (s2 := []) (n2 := 94) (M2 := (I, J, xrf)) (fun f => rfl) (fun hc => ?_) (fun hc => ?_)
  · rw [if_pos hc] at h
    exact p_X12_part_7 x1 x2 x3 x4 I J h hC
  · rw [if_neg hc] at h
    exact p_X12_part_3 x1 x2 x3 x4 I J h hC
theorem p_X12_part_1 {L : Nat} {xs : Nat → Int32} {d : Nat} {Q : xO → Prop} (x1 : Int32) (x2 : Int32) (x3 : Int32) (s0 : Int32) (I : xI) (J : xJ) {t : Int32 × xI × xJ} (h : f_X12_part_1 x1 x2 x3 s0 I J = some t) (hC : (c_X12_part Q) t) : Rn L xs (d + 8) 269 5 [some (.ref 61), some (.int x1), some (.int x2), some (.int x3), none] [.int s0] 94 (I, J, xrf) Q := by
  unfold f_X12_part_1 at h
  refine Rn.fi 3 (c := s0 < 0) (p1 := 47) (l1 := [some (.ref 61), some (.int x1), some (.int x2), some (.int x3), some (.int s0)]) (s1 := []) (n1 := 94) (M1 := (I, J, xrf)) (p2 := 12) (l2 := [some (.ref 61), some (.int x1), some (.int x2), some (.int x3), some (.int s0)]) (s2 := []) (n2 := 94) (M2 := (I, J, xrf)) (fun f => rfl) (fun hc => ?_) (fun hc => ?_)
  · rw [if_pos hc] at h
    exact p_X12_part_7 x1 x2 x3 s0 I J h hC
  · rw [if_neg hc] at h
    exact p_X12_part_2 x1 x2 x3 s0 I J h hC
theorem p_X12_part_0 {L : Nat} {xs : Nat → Int32} {d : Nat} {Q : xO → Prop} (x1 : Int32) (x2 : Int32) (x3 : Int32) (I : xI) (J : xJ) {t : Int32 × xI × xJ} (h : f_X12_part_0 x1 x2 x3 I J = some t) (hC : (c_X12_part Q) t) : Rn L xs (d + 8) 269 0 [some (.ref 61), some (.int x1), some (.int x2), some (.int x3), none] [] 94 (I, J, xrf) Q := by
  unfold f_X12_part_0 at h
  refine Rn.go 2 (j' := 269) (pc' := 2) (ls' := [some (.ref 61), some (.int x1), some (.int x2), some (.int x3), none]) (st' := [.int x1, .ref 61]) (n' := 94) (M' := (I, J, xrf)) (fun f => rfl) ?_
  obtain ⟨o, ho, h⟩ := Option.bind_eq_some_iff.mp h
  refine Rn.call (d1 := d + 7) (j1 := 259) (ls1 := [some (.ref 61), some (.int x1), none]) (rest := []) (fun f => rfl) ?_
  refine p_X12_placeOf (d := d + 0) x1 I J (t := o) ho ?_
  exact p_X12_part_1 x1 x2 x3 o.1 o.2.1 o.2.2 h hC
theorem p_X12_part {L : Nat} {xs : Nat → Int32} {d : Nat} {Q : xO → Prop} (x1 : Int32) (x2 : Int32) (x3 : Int32) (I : xI) (J : xJ) {t : Int32 × xI × xJ} (h : f_X12_part x1 x2 x3 I J = some t) (hC : Q ((some (.int t.1)), 94, (t.2.1, t.2.2, xrf))) : Rn L xs (d + 8) 269 0 [some (.ref 61), some (.int x1), some (.int x2), some (.int x3), none] [] 94 (I, J, xrf) Q := p_X12_part_0 x1 x2 x3 I J h hC
/-! X12_series -/
def c_X12_series (Q : xO → Prop) (t : Int32 × xI × xJ) : Prop := Q ((some (.int t.1)), 94, (t.2.1, t.2.2, xrf))
def c_X12_series_18 (L : Nat) (xs : Nat → Int32) (d : Nat) (Q : xO → Prop) (t : (Int32 × Int32 × Int32 × Int32 × Int32 × Int32 × Int32 × Int32 × xI × xJ) ⊕ (Int32 × xI × xJ)) : Prop := match t with
  | .inl s => Rn L xs (d + 8) 270 105 [some (.ref 61), some (.int s.1), some (.int s.2.1), some (.int s.2.2.1), some (.int s.2.2.2.1), some (.int s.2.2.2.2.1), some (.int s.2.2.2.2.2.1), some (.int s.2.2.2.2.2.2.1), some (.int s.2.2.2.2.2.2.2.1)] [] 94 (s.2.2.2.2.2.2.2.2.1, s.2.2.2.2.2.2.2.2.2, xrf) Q
  | .inr t => (c_X12_series Q) t
def f_X12_series_9 (x1 : Int32) (x2 : Int32) (x3 : Int32) (x4 : Int32) (x5 : Int32) (x6 : Int32) (I : xI) (J : xJ) : Option (Int32 × xI × xJ) := some ((-1), I, J)
def f_X12_series_28 (x1 : Int32) (x2 : Int32) (x3 : Int32) (x4 : Int32) (x5 : Int32) (x6 : Int32) (x7 : Int32) (x8 : Int32) (I : xI) (J : xJ) : Option (Int32 × xI × xJ) := some ((-2), I, J)
def f_X12_series_27 (x1 : Int32) (x2 : Int32) (x3 : Int32) (x4 : Int32) (x5 : Int32) (x6 : Int32) (x7 : Int32) (x8 : Int32) (I : xI) (J : xJ) : Option ((Int32 × Int32 × Int32 × Int32 × Int32 × Int32 × Int32 × Int32 × xI × xJ) ⊕ (Int32 × xI × xJ)) := some (.inl (x1, x2, x3, x4, x5, x6, x7, ((x8 + 1)), I, J))
def f_X12_series_26 (x1 : Int32) (x2 : Int32) (x3 : Int32) (x4 : Int32) (x5 : Int32) (x6 : Int32) (x7 : Int32) (x8 : Int32) (s0 : Int32) (I : xI) (J : xJ) : Option (Int32 × xI × xJ) := some (s0, I, J)
def f_X12_series_25 (x1 : Int32) (x2 : Int32) (x3 : Int32) (x4 : Int32) (x5 : Int32) (x6 : Int32) (x7 : Int32) (x8 : Int32) (s1 : Int32) (s2 : Int32) (I : xI) (J : xJ) : Option (Int32 × xI × xJ) := if (s1 + s2) < 0 ∨ 1218 ≤ ((s1 + s2)).toNatClampNeg then none else f_X12_series_26 x1 x2 x3 x4 x5 x6 x7 x8 ((I 85 ((s1 + s2)).toNatClampNeg)) I J
def f_X12_series_24 (x1 : Int32) (x2 : Int32) (x3 : Int32) (x4 : Int32) (x5 : Int32) (x6 : Int32) (x7 : Int32) (x8 : Int32) (I : xI) (J : xJ) : Option (Int32 × xI × xJ) := (f_X12_to x8 x4 I J).bind fun o => f_X12_series_25 x1 x2 x3 x4 x5 x6 x7 x8 ((6 * x7)) o.1 o.2.1 o.2.2
def f_X12_series_23 (x1 : Int32) (x2 : Int32) (x3 : Int32) (x4 : Int32) (x5 : Int32) (x6 : Int32) (x7 : Int32) (x8 : Int32) (I : xI) (J : xJ) : Option (Int32 × xI × xJ) := f_X12_series_26 x1 x2 x3 x4 x5 x6 x7 x8 ((-2)) I J
def f_X12_series_22 (x1 : Int32) (x2 : Int32) (x3 : Int32) (x4 : Int32) (x5 : Int32) (x6 : Int32) (x7 : Int32) (x8 : Int32) (s0 : Int32) (I : xI) (J : xJ) : Option (Int32 × xI × xJ) := if 0 ≤ s0 then f_X12_series_24 x1 x2 x3 x4 x5 x6 x7 x8 I J else f_X12_series_23 x1 x2 x3 x4 x5 x6 x7 x8 I J
def f_X12_series_21 (x1 : Int32) (x2 : Int32) (x3 : Int32) (x4 : Int32) (x5 : Int32) (x6 : Int32) (x7 : Int32) (x8 : Int32) (I : xI) (J : xJ) : Option (Int32 × xI × xJ) := (f_X12_to x8 x4 I J).bind fun o => f_X12_series_22 x1 x2 x3 x4 x5 x6 x7 x8 o.1 o.2.1 o.2.2
def f_X12_series_20 (x1 : Int32) (x2 : Int32) (x3 : Int32) (x4 : Int32) (x5 : Int32) (x6 : Int32) (x7 : Int32) (x8 : Int32) (I : xI) (J : xJ) : Option ((Int32 × Int32 × Int32 × Int32 × Int32 × Int32 × Int32 × Int32 × xI × xJ) ⊕ (Int32 × xI × xJ)) := if ((6 * x7) + x8) < 0 ∨ 1218 ≤ (((6 * x7) + x8)).toNatClampNeg then none else if (I 85 (((6 * x7) + x8)).toNatClampNeg) = x3 then ((f_X12_series_21 x1 x2 x3 x4 x5 x6 x7 x8 I J)).map .inr else f_X12_series_27 x1 x2 x3 x4 x5 x6 x7 x8 I J
def f_X12_series_19 (x1 : Int32) (x2 : Int32) (x3 : Int32) (x4 : Int32) (x5 : Int32) (x6 : Int32) (x7 : Int32) (x8 : Int32) (I : xI) (J : xJ) : Option ((Int32 × Int32 × Int32 × Int32 × Int32 × Int32 × Int32 × Int32 × xI × xJ) ⊕ (Int32 × xI × xJ)) := if ((6 * x6) + x8) < 0 ∨ 1218 ≤ (((6 * x6) + x8)).toNatClampNeg then none else if (I 85 (((6 * x6) + x8)).toNatClampNeg) = x2 then f_X12_series_20 x1 x2 x3 x4 x5 x6 x7 x8 I J else f_X12_series_27 x1 x2 x3 x4 x5 x6 x7 x8 I J
def b_X12_series_18 (x1 : Int32) (x2 : Int32) (x3 : Int32) (x4 : Int32) (x5 : Int32) (x6 : Int32) (x7 : Int32) (x8 : Int32) (I : xI) (J : xJ) : Option ((Int32 × Int32 × Int32 × Int32 × Int32 × Int32 × Int32 × Int32 × xI × xJ) ⊕ (Int32 × xI × xJ)) := if (I 61 17) ≤ x8 then ((f_X12_series_28 x1 x2 x3 x4 x5 x6 x7 x8 I J)).map .inr else f_X12_series_19 x1 x2 x3 x4 x5 x6 x7 x8 I J
def f_X12_series_18 (x1 : Int32) (x2 : Int32) (x3 : Int32) (x4 : Int32) (x5 : Int32) (x6 : Int32) (x7 : Int32) (x8 : Int32) (I : xI) (J : xJ) : Option (Int32 × xI × xJ) := xloop (fun s : Int32 × Int32 × Int32 × Int32 × Int32 × Int32 × Int32 × Int32 × xI × xJ => b_X12_series_18 s.1 s.2.1 s.2.2.1 s.2.2.2.1 s.2.2.2.2.1 s.2.2.2.2.2.1 s.2.2.2.2.2.2.1 s.2.2.2.2.2.2.2.1 s.2.2.2.2.2.2.2.2.1 s.2.2.2.2.2.2.2.2.2) 5000 (x1, x2, x3, x4, x5, x6, x7, x8, I, J)
def f_X12_series_17 (x1 : Int32) (x2 : Int32) (x3 : Int32) (x4 : Int32) (x5 : Int32) (x6 : Int32) (x7 : Int32) (I : xI) (J : xJ) : Option (Int32 × xI × xJ) := f_X12_series_18 x1 x2 x3 x4 x5 x6 x7 0 I J
def f_X12_series_16 (x1 : Int32) (x2 : Int32) (x3 : Int32) (x4 : Int32) (x5 : Int32) (x6 : Int32) (x7 : Int32) (s0 : Int32) (I : xI) (J : xJ) : Option (Int32 × xI × xJ) := some (s0, I, J)
def f_X12_series_15 (x1 : Int32) (x2 : Int32) (x3 : Int32) (x4 : Int32) (x5 : Int32) (x6 : Int32) (x7 : Int32) (I : xI) (J : xJ) : Option (Int32 × xI × xJ) := (f_X12_partTo x6 x2 x4 I J).bind fun o => f_X12_series_16 x1 x2 x3 x4 x5 x6 x7 o.1 o.2.1 o.2.2
def f_X12_series_14 (x1 : Int32) (x2 : Int32) (x3 : Int32) (x4 : Int32) (x5 : Int32) (x6 : Int32) (x7 : Int32) (I : xI) (J : xJ) : Option (Int32 × xI × xJ) := if x5 = 0 then f_X12_series_15 x1 x2 x3 x4 x5 x6 x7 I J else f_X12_series_17 x1 x2 x3 x4 x5 x6 x7 I J
def f_X12_series_13 (x1 : Int32) (x2 : Int32) (x3 : Int32) (x4 : Int32) (x5 : Int32) (x6 : Int32) (x7 : Int32) (I : xI) (J : xJ) : Option (Int32 × xI × xJ) := some ((-1), I, J)
def f_X12_series_12 (x1 : Int32) (x2 : Int32) (x3 : Int32) (x4 : Int32) (x5 : Int32) (x6 : Int32) (x7 : Int32) (s0 : Int32) (I : xI) (J : xJ) : Option (Int32 × xI × xJ) := if s0 = 0 then f_X12_series_13 x1 x2 x3 x4 x5 x6 x7 I J else f_X12_series_14 x1 x2 x3 x4 x5 x6 x7 I J
def f_X12_series_11 (x1 : Int32) (x2 : Int32) (x3 : Int32) (x4 : Int32) (x5 : Int32) (x6 : Int32) (s0 : Int32) (I : xI) (J : xJ) : Option (Int32 × xI × xJ) := if s0 < 0 ∨ 203 ≤ s0.toNatClampNeg then none else (f_X12_in x3 0 (((I 83 s0.toNatClampNeg) - 1)) I J).bind fun o => f_X12_series_12 x1 x2 x3 x4 x5 x6 s0 o.1 o.2.1 o.2.2
def f_X12_series_10 (x1 : Int32) (x2 : Int32) (x3 : Int32) (x4 : Int32) (x5 : Int32) (x6 : Int32) (I : xI) (J : xJ) : Option (Int32 × xI × xJ) := (f_X12_tailAt x6 I J).bind fun o => f_X12_series_11 x1 x2 x3 x4 x5 x6 o.1 o.2.1 o.2.2
def f_X12_series_8 (x1 : Int32) (x2 : Int32) (x3 : Int32) (x4 : Int32) (x5 : Int32) (x6 : Int32) (s0 : Int32) (I : xI) (J : xJ) : Option (Int32 × xI × xJ) := if s0 = 0 then f_X12_series_9 x1 x2 x3 x4 x5 x6 I J else f_X12_series_10 x1 x2 x3 x4 x5 x6 I J
def f_X12_series_7 (x1 : Int32) (x2 : Int32) (x3 : Int32) (x4 : Int32) (x5 : Int32) (x6 : Int32) (I : xI) (J : xJ) : Option (Int32 × xI × xJ) := (f_X12_in x5 0 1 I J).bind fun o => f_X12_series_8 x1 x2 x3 x4 x5 x6 o.1 o.2.1 o.2.2
def f_X12_series_6 (x1 : Int32) (x2 : Int32) (x3 : Int32) (x4 : Int32) (x5 : Int32) (x6 : Int32) (s0 : Int32) (I : xI) (J : xJ) : Option (Int32 × xI × xJ) := if s0 = 0 then f_X12_series_9 x1 x2 x3 x4 x5 x6 I J else f_X12_series_7 x1 x2 x3 x4 x5 x6 I J
def f_X12_series_5 (x1 : Int32) (x2 : Int32) (x3 : Int32) (x4 : Int32) (x5 : Int32) (x6 : Int32) (I : xI) (J : xJ) : Option (Int32 × xI × xJ) := (f_X12_isInput x4 I J).bind fun o => f_X12_series_6 x1 x2 x3 x4 x5 x6 o.1 o.2.1 o.2.2
def f_X12_series_4 (x1 : Int32) (x2 : Int32) (x3 : Int32) (x4 : Int32) (x5 : Int32) (x6 : Int32) (s0 : Int32) (I : xI) (J : xJ) : Option (Int32 × xI × xJ) := if s0 = 0 then f_X12_series_9 x1 x2 x3 x4 x5 x6 I J else f_X12_series_5 x1 x2 x3 x4 x5 x6 I J
def f_X12_series_3 (x1 : Int32) (x2 : Int32) (x3 : Int32) (x4 : Int32) (x5 : Int32) (x6 : Int32) (I : xI) (J : xJ) : Option (Int32 × xI × xJ) := if x6 < 0 ∨ 203 ≤ x6.toNatClampNeg then none else (f_X12_in x2 0 (((I 83 x6.toNatClampNeg) - 1)) I J).bind fun o => f_X12_series_4 x1 x2 x3 x4 x5 x6 o.1 o.2.1 o.2.2
def f_X12_series_2 (x1 : Int32) (x2 : Int32) (x3 : Int32) (x4 : Int32) (x5 : Int32) (x6 : Int32) (I : xI) (J : xJ) : Option (Int32 × xI × xJ) := if x6 < 0 ∨ 203 ≤ x6.toNatClampNeg then none else if (I 84 x6.toNatClampNeg) = 0 then f_X12_series_9 x1 x2 x3 x4 x5 x6 I J else f_X12_series_3 x1 x2 x3 x4 x5 x6 I J
def f_X12_series_1 (x1 : Int32) (x2 : Int32) (x3 : Int32) (x4 : Int32) (x5 : Int32) (s0 : Int32) (I : xI) (J : xJ) : Option (Int32 × xI × xJ) := if s0 < 0 then f_X12_series_9 x1 x2 x3 x4 x5 s0 I J else f_X12_series_2 x1 x2 x3 x4 x5 s0 I J
def f_X12_series_0 (x1 : Int32) (x2 : Int32) (x3 : Int32) (x4 : Int32) (x5 : Int32) (I : xI) (J : xJ) : Option (Int32 × xI × xJ) := (f_X12_placeOf x1 I J).bind fun o => f_X12_series_1 x1 x2 x3 x4 x5 o.1 o.2.1 o.2.2
def f_X12_series (x1 : Int32) (x2 : Int32) (x3 : Int32) (x4 : Int32) (x5 : Int32) (I : xI) (J : xJ) : Option (Int32 × xI × xJ) := f_X12_series_0 x1 x2 x3 x4 x5 I J
theorem p_X12_series_9 {L : Nat} {xs : Nat → Int32} {d : Nat} {Q : xO → Prop} (x1 : Int32) (x2 : Int32) (x3 : Int32) (x4 : Int32) (x5 : Int32) (x6 : Int32) (I : xI) (J : xJ) {t : Int32 × xI × xJ} (h : f_X12_series_9 x1 x2 x3 x4 x5 x6 I J = some t) (hC : (c_X12_series Q) t) : Rn L xs (d + 8) 270 58 [some (.ref 61), some (.int x1), some (.int x2), some (.int x3), some (.int x4), some (.int x5), some (.int x6), none, none] [] 94 (I, J, xrf) Q := by
  unfold f_X12_series_9 at h
  cases h
  exact Rn.ret 2 (o := ((some (.int ((-1)))), 94, (I, J, xrf))) (fun f => rfl) hC
theorem p_X12_series_28 {L : Nat} {xs : Nat → Int32} {d : Nat} {Q : xO → Prop} (x1 : Int32) (x2 : Int32) (x3 : Int32) (x4 : Int32) (x5 : Int32) (x6 : Int32) (x7 : Int32) (x8 : Int32) (I : xI) (J : xJ) {t : Int32 × xI × xJ} (h : f_X12_series_28 x1 x2 x3 x4 x5 x6 x7 x8 I J = some t) (hC : (c_X12_series Q) t) : Rn L xs (d + 8) 270 190 [some (.ref 61), some (.int x1), some (.int x2), some (.int x3), some (.int x4), some (.int x5), some (.int x6), some (.int x7), some (.int x8)] [] 94 (I, J, xrf) Q := by
  unfold f_X12_series_28 at h
  cases h
  exact Rn.ret 2 (o := ((some (.int ((-2)))), 94, (I, J, xrf))) (fun f => rfl) hC
theorem p_X12_series_27 {L : Nat} {xs : Nat → Int32} {d : Nat} {Q : xO → Prop} (x1 : Int32) (x2 : Int32) (x3 : Int32) (x4 : Int32) (x5 : Int32) (x6 : Int32) (x7 : Int32) (x8 : Int32) (I : xI) (J : xJ) {t : (Int32 × Int32 × Int32 × Int32 × Int32 × Int32 × Int32 × Int32 × xI × xJ) ⊕ (Int32 × xI × xJ)} (h : f_X12_series_27 x1 x2 x3 x4 x5 x6 x7 x8 I J = some t) (hC : (c_X12_series_18 L xs d Q) t) : Rn L xs (d + 8) 270 184 [some (.ref 61), some (.int x1), some (.int x2), some (.int x3), some (.int x4), some (.int x5), some (.int x6), some (.int x7), some (.int x8)] [] 94 (I, J, xrf) Q := by
  unfold f_X12_series_27 at h
  refine Rn.go 2 (j' := 270) (pc' := 105) (ls' := [some (.ref 61), some (.int x1), some (.int x2), some (.int x3), some (.int x4), some (.int x5), some (.int x6), some (.int x7), some (.int ((x8 + 1)))]) (st' := []) (n' := 94) (M' := (I, J, xrf)) (fun f => rfl) ?_
  cases h; exact hC
theorem p_X12_series_26 {L : Nat} {xs : Nat → Int32} {d : Nat} {Q : xO → Prop} (x1 : Int32) (x2 : Int32) (x3 : Int32) (x4 : Int32) (x5 : Int32) (x6 : Int32) (x7 : Int32) (x8 : Int32) (s0 : Int32) (I : xI) (J : xJ) {t : Int32 × xI × xJ} (h : f_X12_series_26 x1 x2 x3 x4 x5 x6 x7 x8 s0 I J = some t) (hC : (c_X12_series Q) t) : Rn L xs (d + 8) 270 183 [some (.ref 61), some (.int x1), some (.int x2), some (.int x3), some (.int x4), some (.int x5), some (.int x6), some (.int x7), some (.int x8)] [.int s0] 94 (I, J, xrf) Q := by
  unfold f_X12_series_26 at h
  cases h
  exact Rn.ret 1 (o := ((some (.int s0)), 94, (I, J, xrf))) (fun f => rfl) hC
theorem p_X12_series_25 {L : Nat} {xs : Nat → Int32} {d : Nat} {Q : xO → Prop} (x1 : Int32) (x2 : Int32) (x3 : Int32) (x4 : Int32) (x5 : Int32) (x6 : Int32) (x7 : Int32) (x8 : Int32) (s1 : Int32) (s2 : Int32) (I : xI) (J : xJ) {t : Int32 × xI × xJ} (h : f_X12_series_25 x1 x2 x3 x4 x5 x6 x7 x8 s1 s2 I J = some t) (hC : (c_X12_series Q) t) : Rn L xs (d + 8) 270 181 [some (.ref 61), some (.int x1), some (.int x2), some (.int x3), some (.int x4), some (.int x5), some (.int x6), some (.int x7), some (.int x8)] [.int s2, .int s1, .ref 85] 94 (I, J, xrf) Q := by
  unfold f_X12_series_25 at h
  obtain ⟨hc, h⟩ := xif h
  refine Rn.ok 2 (c := (s1 + s2) < 0 ∨ 1218 ≤ ((s1 + s2)).toNatClampNeg) (p1 := 183) (l1 := [some (.ref 61), some (.int x1), some (.int x2), some (.int x3), some (.int x4), some (.int x5), some (.int x6), some (.int x7), some (.int x8)]) (s1 := [.int ((I 85 ((s1 + s2)).toNatClampNeg))]) (n1 := 94) (M1 := (I, J, xrf)) (fun f => rfl) hc ?_
  exact p_X12_series_26 x1 x2 x3 x4 x5 x6 x7 x8 ((I 85 ((s1 + s2)).toNatClampNeg)) I J h hC
theorem p_X12_series_24 {L : Nat} {xs : Nat → Int32} {d : Nat} {Q : xO → Prop} (x1 : Int32) (x2 : Int32) (x3 : Int32) (x4 : Int32) (x5 : Int32) (x6 : Int32) (x7 : Int32) (x8 : Int32) (I : xI) (J : xJ) {t : Int32 × xI × xJ} (h : f_X12_series_24 x1 x2 x3 x4 x5 x6 x7 x8 I J = some t) (hC : (c_X12_series Q) t) : Rn L xs (d + 8) 270 164 [some (.ref 61), some (.int x1), some (.int x2), some (.int x3), some (.int x4), some (.int x5), some (.int x6), some (.int x7), some (.int x8)] [] 94 (I, J, xrf) Q := by
  unfold f_X12_series_24 at h
  refine Rn.go 8 (j' := 270) (pc' := 178) (ls' := [some (.ref 61), some (.int x1), some (.int x2), some (.int x3), some (.int x4), some (.int x5), some (.int x6), some (.int x7), some (.int x8)]) (st' := [.int x4, .int x8, .ref 61, .int ((6 * x7)), .ref 85]) (n' := 94) (M' := (I, J, xrf)) (fun f => rfl) ?_
  obtain ⟨o, ho, h⟩ := Option.bind_eq_some_iff.mp h
  refine Rn.call (d1 := d + 7) (j1 := 210) (ls1 := [some (.ref 61), some (.int x8), some (.int x4)]) (rest := [.int ((6 * x7)), .ref 85]) (fun f => rfl) ?_
  refine p_X12_to (d := d + 6) x8 x4 I J (t := o) ho ?_
  exact p_X12_series_25 x1 x2 x3 x4 x5 x6 x7 x8 ((6 * x7)) o.1 o.2.1 o.2.2 h hC
theorem p_X12_series_23 {L : Nat} {xs : Nat → Int32} {d : Nat} {Q : xO → Prop} (x1 : Int32) (x2 : Int32) (x3 : Int32) (x4 : Int32) (x5 : Int32) (x6 : Int32) (x7 : Int32) (x8 : Int32) (I : xI) (J : xJ) {t : Int32 × xI × xJ} (h : f_X12_series_23 x1 x2 x3 x4 x5 x6 x7 x8 I J = some t) (hC : (c_X12_series Q) t) : Rn L xs (d + 8) 270 159 [some (.ref 61), some (.int x1), some (.int x2), some (.int x3), some (.int x4), some (.int x5), some (.int x6), some (.int x7), some (.int x8)] [] 94 (I, J, xrf) Q := by
  unfold f_X12_series_23 at h
  refine Rn.go 2 (j' := 270) (pc' := 183) (ls' := [some (.ref 61), some (.int x1), some (.int x2), some (.int x3), some (.int x4), some (.int x5), some (.int x6), some (.int x7), some (.int x8)]) (st' := [.int ((-2))]) (n' := 94) (M' := (I, J, xrf)) (fun f => rfl) ?_
  exact p_X12_series_26 x1 x2 x3 x4 x5 x6 x7 x8 ((-2)) I J h hC
theorem p_X12_series_22 {L : Nat} {xs : Nat → Int32} {d : Nat} {Q : xO → Prop} (x1 : Int32) (x2 : Int32) (x3 : Int32) (x4 : Int32) (x5 : Int32) (x6 : Int32) (x7 : Int32) (x8 : Int32) (s0 : Int32) (I : xI) (J : xJ) {t : Int32 × xI × xJ} (h : f_X12_series_22 x1 x2 x3 x4 x5 x6 x7 x8 s0 I J = some t) (hC : (c_X12_series Q) t) : Rn L xs (d + 8) 270 156 [some (.ref 61), some (.int x1), some (.int x2), some (.int x3), some (.int x4), some (.int x5), some (.int x6), some (.int x7), some (.int x8)] [.int s0] 94 (I, J, xrf) Q := by
  unfold f_X12_series_22 at h
  refine Rn.fi 1 (c := 0 ≤ s0) (p1 := 164) (l1 := [some (.ref 61), some (.int x1), some (.int x2), some (.int x3), some (.int x4), some (.int x5), some (.int x6), some (.int x7), some (.int x8)]) (s1 := []) (n1 := 94) (M1 := (I, J, xrf)) (p2 := 159) (l2 := [some (.ref 61), some (.int x1), some (.int x2), some (.int x3), some (.int x4), some (.int x5), some (.int x6), some (.int x7), some (.int x8)]) (s2 := []) (n2 := 94) (M2 := (I, J, xrf)) (fun f => rfl) (fun hc => ?_) (fun hc => ?_)
  · rw [if_pos hc] at h
    exact p_X12_series_24 x1 x2 x3 x4 x5 x6 x7 x8 I J h hC
  · rw [if_neg hc] at h
    exact p_X12_series_23 x1 x2 x3 x4 x5 x6 x7 x8 I J h hC
theorem p_X12_series_21 {L : Nat} {xs : Nat → Int32} {d : Nat} {Q : xO → Prop} (x1 : Int32) (x2 : Int32) (x3 : Int32) (x4 : Int32) (x5 : Int32) (x6 : Int32) (x7 : Int32) (x8 : Int32) (I : xI) (J : xJ) {t : Int32 × xI × xJ} (h : f_X12_series_21 x1 x2 x3 x4 x5 x6 x7 x8 I J = some t) (hC : (c_X12_series Q) t) : Rn L xs (d + 8) 270 148 [some (.ref 61), some (.int x1), some (.int x2), some (.int x3), some (.int x4), some (.int x5), some (.int x6), some (.int x7), some (.int x8)] [] 94 (I, J, xrf) Q := by
  unfold f_X12_series_21 at h
  refine Rn.go 3 (j' := 270) (pc' := 153) (ls' := [some (.ref 61), some (.int x1), some (.int x2), some (.int x3), some (.int x4), some (.int x5), some (.int x6), some (.int x7), some (.int x8)]) (st' := [.int x4, .int x8, .ref 61]) (n' := 94) (M' := (I, J, xrf)) (fun f => rfl) ?_
  obtain ⟨o, ho, h⟩ := Option.bind_eq_some_iff.mp h
  refine Rn.call (d1 := d + 7) (j1 := 210) (ls1 := [some (.ref 61), some (.int x8), some (.int x4)]) (rest := []) (fun f => rfl) ?_
  refine p_X12_to (d := d + 6) x8 x4 I J (t := o) ho ?_
  exact p_X12_series_22 x1 x2 x3 x4 x5 x6 x7 x8 o.1 o.2.1 o.2.2 h hC
theorem p_X12_series_20 {L : Nat} {xs : Nat → Int32} {d : Nat} {Q : xO → Prop} (x1 : Int32) (x2 : Int32) (x3 : Int32) (x4 : Int32) (x5 : Int32) (x6 : Int32) (x7 : Int32) (x8 : Int32) (I : xI) (J : xJ) {t : (Int32 × Int32 × Int32 × Int32 × Int32 × Int32 × Int32 × Int32 × xI × xJ) ⊕ (Int32 × xI × xJ)} (h : f_X12_series_20 x1 x2 x3 x4 x5 x6 x7 x8 I J = some t) (hC : (c_X12_series_18 L xs d Q) t) : Rn L xs (d + 8) 270 131 [some (.ref 61), some (.int x1), some (.int x2), some (.int x3), some (.int x4), some (.int x5), some (.int x6), some (.int x7), some (.int x8)] [] 94 (I, J, xrf) Q := by
  unfold f_X12_series_20 at h
  obtain ⟨hc, h⟩ := xif h
  refine Rn.ok 8 (c := ((6 * x7) + x8) < 0 ∨ 1218 ≤ (((6 * x7) + x8)).toNatClampNeg) (p1 := 144) (l1 := [some (.ref 61), some (.int x1), some (.int x2), some (.int x3), some (.int x4), some (.int x5), some (.int x6), some (.int x7), some (.int x8)]) (s1 := [.int ((I 85 (((6 * x7) + x8)).toNatClampNeg))]) (n1 := 94) (M1 := (I, J, xrf)) (fun f => rfl) hc ?_
  refine Rn.fi 2 (c := (I 85 (((6 * x7) + x8)).toNatClampNeg) = x3) (p1 := 148) (l1 := [some (.ref 61), some (.int x1), some (.int x2), some (.int x3), some (.int x4), some (.int x5), some (.int x6), some (.int x7), some (.int x8)]) (s1 := []) (n1 := 94) (M1 := (I, J, xrf)) (p2 := 184) (l2 := [some (.ref 61), some (.int x1), some (.int x2), some (.int x3), some (.int x4), some (.int x5), some (.int x6), some (.int x7), some (.int x8)]) (s2 := []) (n2 := 94) (M2 := (I, J, xrf)) (fun f => rfl) (fun hc => ?_) (fun hc => ?_)
  · rw [if_pos hc] at h
    obtain ⟨t0, h0, rfl⟩ := Option.map_eq_some_iff.mp h
    exact p_X12_series_21 x1 x2 x3 x4 x5 x6 x7 x8 I J h0 hC
  · rw [if_neg hc] at h
    exact p_X12_series_27 x1 x2 x3 x4 x5 x6 x7 x8 I J h hC
theorem p_X12_series_19 {L : Nat} {xs : Nat → Int32} {d : Nat} {Q : xO → Prop} (x1 : Int32) (x2 : Int32) (x3 : Int32) (x4 : Int32) (x5 : Int32) (x6 : Int32) (x7 : Int32) (x8 : Int32) (I : xI) (J : xJ) {t : (Int32 × Int32 × Int32 × Int32 × Int32 × Int32 × Int32 × Int32 × xI × xJ) ⊕ (Int32 × xI × xJ)} (h : f_X12_series_19 x1 x2 x3 x4 x5 x6 x7 x8 I J = some t) (hC : (c_X12_series_18 L xs d Q) t) : Rn L xs (d + 8) 270 114 [some (.ref 61), some (.int x1), some (.int x2), some (.int x3), some (.int x4), some (.int x5), some (.int x6), some (.int x7), some (.int x8)] [] 94 (I, J, xrf) Q := by
  unfold f_X12_series_19 at h
  obtain ⟨hc, h⟩ := xif h
  refine Rn.ok 8 (c := ((6 * x6) + x8) < 0 ∨ 1218 ≤ (((6 * x6) + x8)).toNatClampNeg) (p1 := 127) (l1 := [some (.ref 61), some (.int x1), some (.int x2), some (.int x3), some (.int x4), some (.int x5), some (.int x6), some (.int x7), some (.int x8)]) (s1 := [.int ((I 85 (((6 * x6) + x8)).toNatClampNeg))]) (n1 := 94) (M1 := (I, J, xrf)) (fun f => rfl) hc ?_
  refine Rn.fi 2 (c := (I 85 (((6 * x6) + x8)).toNatClampNeg) = x2) (p1 := 131) (l1 := [some (.ref 61), some (.int x1), some (.int x2), some (.int x3), some (.int x4), some (.int x5), some (.int x6), some (.int x7), some (.int x8)]) (s1 := []) (n1 := 94) (M1 := (I, J, xrf)) (p2 := 184) (l2 := [some (.ref 61), some (.int x1), some (.int x2), some (.int x3), some (.int x4), some (.int x5), some (.int x6), some (.int x7), some (.int x8)]) (s2 := []) (n2 := 94) (M2 := (I, J, xrf)) (fun f => rfl) (fun hc => ?_) (fun hc => ?_)
  · rw [if_pos hc] at h
    exact p_X12_series_20 x1 x2 x3 x4 x5 x6 x7 x8 I J h hC
  · rw [if_neg hc] at h
    exact p_X12_series_27 x1 x2 x3 x4 x5 x6 x7 x8 I J h hC
theorem q_X12_series_18 {L : Nat} {xs : Nat → Int32} {d : Nat} {Q : xO → Prop} (x1 : Int32) (x2 : Int32) (x3 : Int32) (x4 : Int32) (x5 : Int32) (x6 : Int32) (x7 : Int32) (x8 : Int32) (I : xI) (J : xJ) {t : (Int32 × Int32 × Int32 × Int32 × Int32 × Int32 × Int32 × Int32 × xI × xJ) ⊕ (Int32 × xI × xJ)} (h : b_X12_series_18 x1 x2 x3 x4 x5 x6 x7 x8 I J = some t) (hC : (c_X12_series_18 L xs d Q) t) : Rn L xs (d + 8) 270 105 [some (.ref 61), some (.int x1), some (.int x2), some (.int x3), some (.int x4), some (.int x5), some (.int x6), some (.int x7), some (.int x8)] [] 94 (I, J, xrf) Q := by
  unfold b_X12_series_18 at h
  refine Rn.fi 4 (c := (I 61 17) ≤ x8) (p1 := 190) (l1 := [some (.ref 61), some (.int x1), some (.int x2), some (.int x3), some (.int x4), some (.int x5), some (.int x6), some (.int x7), some (.int x8)]) (s1 := []) (n1 := 94) (M1 := (I, J, xrf)) (p2 := 114) (l2 := [some (.ref 61), some (.int x1), some (.int x2), some (.int x3), some (.int x4), some (.int x5), some (.int x6), some (.int x7), some (.int x8)]) (s2 := []) (n2 := 94) (M2 := (I, J, xrf)) (fun f => rfl) (fun hc => ?_) (fun hc => ?_)
  · rw [if_pos hc] at h
    obtain ⟨t0, h0, rfl⟩ := Option.map_eq_some_iff.mp h
    exact p_X12_series_28 x1 x2 x3 x4 x5 x6 x7 x8 I J h0 hC
  · rw [if_neg hc] at h
    exact p_X12_series_19 x1 x2 x3 x4 x5 x6 x7 x8 I J h hC
theorem p_X12_series_18 {L : Nat} {xs : Nat → Int32} {d : Nat} {Q : xO → Prop} (x1 : Int32) (x2 : Int32) (x3 : Int32) (x4 : Int32) (x5 : Int32) (x6 : Int32) (x7 : Int32) (x8 : Int32) (I : xI) (J : xJ) {t : Int32 × xI × xJ} (h : f_X12_series_18 x1 x2 x3 x4 x5 x6 x7 x8 I J = some t) (hC : (c_X12_series Q) t) : Rn L xs (d + 8) 270 105 [some (.ref 61), some (.int x1), some (.int x2), some (.int x3), some (.int x4), some (.int x5), some (.int x6), some (.int x7), some (.int x8)] [] 94 (I, J, xrf) Q := by
  unfold f_X12_series_18 at h
  exact xloop_some (P := fun s : Int32 × Int32 × Int32 × Int32 × Int32 × Int32 × Int32 × Int32 × xI × xJ => Rn L xs (d + 8) 270 105 [some (.ref 61), some (.int s.1), some (.int s.2.1), some (.int s.2.2.1), some (.int s.2.2.2.1), some (.int s.2.2.2.2.1), some (.int s.2.2.2.2.2.1), some (.int s.2.2.2.2.2.2.1), some (.int s.2.2.2.2.2.2.2.1)] [] 94 (s.2.2.2.2.2.2.2.2.1, s.2.2.2.2.2.2.2.2.2, xrf) Q) t (fun s ⟨s', hb, hp⟩ => q_X12_series_18 s.1 s.2.1 s.2.2.1 s.2.2.2.1 s.2.2.2.2.1 s.2.2.2.2.2.1 s.2.2.2.2.2.2.1 s.2.2.2.2.2.2.2.1 s.2.2.2.2.2.2.2.2.1 s.2.2.2.2.2.2.2.2.2 hb hp) (fun s hb => q_X12_series_18 s.1 s.2.1 s.2.2.1 s.2.2.2.1 s.2.2.2.2.1 s.2.2.2.2.2.1 s.2.2.2.2.2.2.1 s.2.2.2.2.2.2.2.1 s.2.2.2.2.2.2.2.2.1 s.2.2.2.2.2.2.2.2.2 hb hC) _ _ h
theorem p_X12_series_17 {L : Nat} {xs : Nat → Int32} {d : Nat} {Q : xO → Prop} (x1 : Int32) (x2 : Int32) (x3 : Int32) (x4 : Int32) (x5 : Int32) (x6 : Int32) (x7 : Int32) (I : xI) (J : xJ) {t : Int32 × xI × xJ} (h : f_X12_series_17 x1 x2 x3 x4 x5 x6 x7 I J = some t) (hC : (c_X12_series Q) t) : Rn L xs (d + 8) 270 102 [some (.ref 61), some (.int x1), some (.int x2), some (.int x3), some (.int x4), some (.int x5), some (.int x6), some (.int x7), none] [] 94 (I, J, xrf) Q := by
  unfold f_X12_series_17 at h
  refine Rn.go 2 (j' := 270) (pc' := 105) (ls' := [some (.ref 61), some (.int x1), some (.int x2), some (.int x3), some (.int x4), some (.int x5), some (.int x6), some (.int x7), some (.int 0)]) (st' := []) (n' := 94) (M' := (I, J, xrf)) (fun f => rfl) ?_
  exact p_X12_series_18 x1 x2 x3 x4 x5 x6 x7 0 I J h hC
theorem p_X12_series_16 {L : Nat} {xs : Nat → Int32} {d : Nat} {Q : xO → Prop} (x1 : Int32) (x2 : Int32) (x3 : Int32) (x4 : Int32) (x5 : Int32) (x6 : Int32) (x7 : Int32) (s0 : Int32) (I : xI) (J : xJ) {t : Int32 × xI × xJ} (h : f_X12_series_16 x1 x2 x3 x4 x5 x6 x7 s0 I J = some t) (hC : (c_X12_series Q) t) : Rn L xs (d + 8) 270 101 [some (.ref 61), some (.int x1), some (.int x2), some (.int x3), some (.int x4), some (.int x5), some (.int x6), some (.int x7), none] [.int s0] 94 (I, J, xrf) Q := by
  unfold f_X12_series_16 at h
  cases h
  exact Rn.ret 1 (o := ((some (.int s0)), 94, (I, J, xrf))) (fun f => rfl) hC
theorem p_X12_series_15 {L : Nat} {xs : Nat → Int32} {d : Nat} {Q : xO → Prop} (x1 : Int32) (x2 : Int32) (x3 : Int32) (x4 : Int32) (x5 : Int32) (x6 : Int32) (x7 : Int32) (I : xI) (J : xJ) {t : Int32 × xI × xJ} (h : f_X12_series_15 x1 x2 x3 x4 x5 x6 x7 I J = some t) (hC : (c_X12_series Q) t) : Rn L xs (d + 8) 270 92 [some (.ref 61), some (.int x1), some (.int x2), some (.int x3), some (.int x4), some (.int x5), some (.int x6), some (.int x7), none] [] 94 (I, J, xrf) Q := by
  unfold f_X12_series_15 at h
  refine Rn.go 4 (j' := 270) (pc' := 98) (ls' := [some (.ref 61), some (.int x1), some (.int x2), some (.int x3), some (.int x4), some (.int x5), some (.int x6), some (.int x7), none]) (st' := [.int x4, .int x2, .int x6, .ref 61]) (n' := 94) (M' := (I, J, xrf)) (fun f => rfl) ?_
  obtain ⟨o, ho, h⟩ := Option.bind_eq_some_iff.mp h
  refine Rn.call (d1 := d + 7) (j1 := 268) (ls1 := [some (.ref 61), some (.int x6), some (.int x2), some (.int x4), none]) (rest := []) (fun f => rfl) ?_
  refine p_X12_partTo (d := d + 5) x6 x2 x4 I J (t := o) ho ?_
  exact p_X12_series_16 x1 x2 x3 x4 x5 x6 x7 o.1 o.2.1 o.2.2 h hC
theorem p_X12_series_14 {L : Nat} {xs : Nat → Int32} {d : Nat} {Q : xO → Prop} (x1 : Int32) (x2 : Int32) (x3 : Int32) (x4 : Int32) (x5 : Int32) (x6 : Int32) (x7 : Int32) (I : xI) (J : xJ) {t : Int32 × xI × xJ} (h : f_X12_series_14 x1 x2 x3 x4 x5 x6 x7 I J = some t) (hC : (c_X12_series Q) t) : Rn L xs (d + 8) 270 87 [some (.ref 61), some (.int x1), some (.int x2), some (.int x3), some (.int x4), some (.int x5), some (.int x6), some (.int x7), none] [] 94 (I, J, xrf) Q := by
  unfold f_X12_series_14 at h
  refine Rn.fi 2 (c := x5 = 0) (p1 := 92) (l1 := [some (.ref 61), some (.int x1), some (.int x2), some (.int x3), some (.int x4), some (.int x5), some (.int x6), some (.int x7), none]) (s1 := []) (n1 := 94) (M1 := (I, J, xrf)) (p2 := 102) (l2 := [some (.ref 61), some (.int x1), some (.int x2), some (.int x3), some (.int x4), some (.int x5), some (.int x6), some (.int x7), none]) (s2 := []) (n2 := 94) (M2 := (I, J, xrf)) (fun f => rfl) (fun hc => ?_) (fun hc => ?_)
  · rw [if_pos hc] at h
    exact p_X12_series_15 x1 x2 x3 x4 x5 x6 x7 I J h hC
  · rw [if_neg hc] at h
    exact p_X12_series_17 x1 x2 x3 x4 x5 x6 x7 I J h hC
theorem p_X12_series_13 {L : Nat} {xs : Nat → Int32} {d : Nat} {Q : xO → Prop} (x1 : Int32) (x2 : Int32) (x3 : Int32) (x4 : Int32) (x5 : Int32) (x6 : Int32) (x7 : Int32) (I : xI) (J : xJ) {t : Int32 × xI × xJ} (h : f_X12_series_13 x1 x2 x3 x4 x5 x6 x7 I J = some t) (hC : (c_X12_series Q) t) : Rn L xs (d + 8) 270 85 [some (.ref 61), some (.int x1), some (.int x2), some (.int x3), some (.int x4), some (.int x5), some (.int x6), some (.int x7), none] [] 94 (I, J, xrf) Q := by
  unfold f_X12_series_13 at h
  cases h
  exact Rn.ret 2 (o := ((some (.int ((-1)))), 94, (I, J, xrf))) (fun f => rfl) hC
theorem p_X12_series_12 {L : Nat} {xs : Nat → Int32} {d : Nat} {Q : xO → Prop} (x1 : Int32) (x2 : Int32) (x3 : Int32) (x4 : Int32) (x5 : Int32) (x6 : Int32) (x7 : Int32) (s0 : Int32) (I : xI) (J : xJ) {t : Int32 × xI × xJ} (h : f_X12_series_12 x1 x2 x3 x4 x5 x6 x7 s0 I J = some t) (hC : (c_X12_series Q) t) : Rn L xs (d + 8) 270 82 [some (.ref 61), some (.int x1), some (.int x2), some (.int x3), some (.int x4), some (.int x5), some (.int x6), some (.int x7), none] [.int s0] 94 (I, J, xrf) Q := by
  unfold f_X12_series_12 at h
  refine Rn.fi 1 (c := s0 = 0) (p1 := 85) (l1 := [some (.ref 61), some (.int x1), some (.int x2), some (.int x3), some (.int x4), some (.int x5), some (.int x6), some (.int x7), none]) (s1 := []) (n1 := 94) (M1 := (I, J, xrf)) (p2 := 87) (l2 := [some (.ref 61), some (.int x1), some (.int x2), some (.int x3), some (.int x4), some (.int x5), some (.int x6), some (.int x7), none]) (s2 := []) (n2 := 94) (M2 := (I, J, xrf)) (fun f => rfl) (fun hc => ?_) (fun hc => ?_)
  · rw [if_pos hc] at h
    exact p_X12_series_13 x1 x2 x3 x4 x5 x6 x7 I J h hC
  · rw [if_neg hc] at h
    exact p_X12_series_14 x1 x2 x3 x4 x5 x6 x7 I J h hC
theorem p_X12_series_11 {L : Nat} {xs : Nat → Int32} {d : Nat} {Q : xO → Prop} (x1 : Int32) (x2 : Int32) (x3 : Int32) (x4 : Int32) (x5 : Int32) (x6 : Int32) (s0 : Int32) (I : xI) (J : xJ) {t : Int32 × xI × xJ} (h : f_X12_series_11 x1 x2 x3 x4 x5 x6 s0 I J = some t) (hC : (c_X12_series Q) t) : Rn L xs (d + 8) 270 66 [some (.ref 61), some (.int x1), some (.int x2), some (.int x3), some (.int x4), some (.int x5), some (.int x6), none, none] [.int s0] 94 (I, J, xrf) Q := by
  unfold f_X12_series_11 at h
  obtain ⟨hc, h⟩ := xif h
  refine Rn.ok 7 (c := s0 < 0 ∨ 203 ≤ s0.toNatClampNeg) (p1 := 77) (l1 := [some (.ref 61), some (.int x1), some (.int x2), some (.int x3), some (.int x4), some (.int x5), some (.int x6), some (.int s0), none]) (s1 := [.int ((I 83 s0.toNatClampNeg)), .int 0, .int x3]) (n1 := 94) (M1 := (I, J, xrf)) (fun f => rfl) hc ?_
  refine Rn.go 2 (j' := 270) (pc' := 79) (ls' := [some (.ref 61), some (.int x1), some (.int x2), some (.int x3), some (.int x4), some (.int x5), some (.int x6), some (.int s0), none]) (st' := [.int (((I 83 s0.toNatClampNeg) - 1)), .int 0, .int x3]) (n' := 94) (M' := (I, J, xrf)) (fun f => rfl) ?_
  obtain ⟨o, ho, h⟩ := Option.bind_eq_some_iff.mp h
  refine Rn.call (d1 := d + 7) (j1 := 206) (ls1 := [some (.int x3), some (.int 0), some (.int (((I 83 s0.toNatClampNeg) - 1)))]) (rest := []) (fun f => rfl) ?_
  refine p_X12_in (d := d + 6) x3 0 (((I 83 s0.toNatClampNeg) - 1)) I J (t := o) ho ?_
  exact p_X12_series_12 x1 x2 x3 x4 x5 x6 s0 o.1 o.2.1 o.2.2 h hC
theorem p_X12_series_10 {L : Nat} {xs : Nat → Int32} {d : Nat} {Q : xO → Prop} (x1 : Int32) (x2 : Int32) (x3 : Int32) (x4 : Int32) (x5 : Int32) (x6 : Int32) (I : xI) (J : xJ) {t : Int32 × xI × xJ} (h : f_X12_series_10 x1 x2 x3 x4 x5 x6 I J = some t) (hC : (c_X12_series Q) t) : Rn L xs (d + 8) 270 60 [some (.ref 61), some (.int x1), some (.int x2), some (.int x3), some (.int x4), some (.int x5), some (.int x6), none, none] [] 94 (I, J, xrf) Q := by
  unfold f_X12_series_10 at h
  refine Rn.go 2 (j' := 270) (pc' := 63) (ls' := [some (.ref 61), some (.int x1), some (.int x2), some (.int x3), some (.int x4), some (.int x5), some (.int x6), none, none]) (st' := [.int x6, .ref 61]) (n' := 94) (M' := (I, J, xrf)) (fun f => rfl) ?_
  obtain ⟨o, ho, h⟩ := Option.bind_eq_some_iff.mp h
  refine Rn.call (d1 := d + 7) (j1 := 266) (ls1 := [some (.ref 61), some (.int x6), none, none]) (rest := []) (fun f => rfl) ?_
  refine p_X12_tailAt (d := d + 5) x6 I J (t := o) ho ?_
  exact p_X12_series_11 x1 x2 x3 x4 x5 x6 o.1 o.2.1 o.2.2 h hC
theorem p_X12_series_8 {L : Nat} {xs : Nat → Int32} {d : Nat} {Q : xO → Prop} (x1 : Int32) (x2 : Int32) (x3 : Int32) (x4 : Int32) (x5 : Int32) (x6 : Int32) (s0 : Int32) (I : xI) (J : xJ) {t : Int32 × xI × xJ} (h : f_X12_series_8 x1 x2 x3 x4 x5 x6 s0 I J = some t) (hC : (c_X12_series Q) t) : Rn L xs (d + 8) 270 55 [some (.ref 61), some (.int x1), some (.int x2), some (.int x3), some (.int x4), some (.int x5), some (.int x6), none, none] [.int s0] 94 (I, J, xrf) Q := by
  unfold f_X12_series_8 at h
  refine Rn.fi 1 (c := s0 = 0) (p1 := 58) (l1 := [some (.ref 61), some (.int x1), some (.int x2), some (.int x3), some (.int x4), some (.int x5), some (.int x6), none, none]) (s1 := []) (n1 := 94) (M1 := (I, J, xrf)) (p2 := 60) (l2 := [some (.ref 61), some (.int x1), some (.int x2), some (.int x3), some (.int x4), some (.int x5), some (.int x6), none, none]) (s2 := []) (n2 := 94) (M2 := (I, J, xrf)) (fun f => rfl) (fun hc => ?_) (fun hc => ?_)
  · rw [if_pos hc] at h
    exact p_X12_series_9 x1 x2 x3 x4 x5 x6 I J h hC
  · rw [if_neg hc] at h
    exact p_X12_series_10 x1 x2 x3 x4 x5 x6 I J h hC
theorem p_X12_series_7 {L : Nat} {xs : Nat → Int32} {d : Nat} {Q : xO → Prop} (x1 : Int32) (x2 : Int32) (x3 : Int32) (x4 : Int32) (x5 : Int32) (x6 : Int32) (I : xI) (J : xJ) {t : Int32 × xI × xJ} (h : f_X12_series_7 x1 x2 x3 x4 x5 x6 I J = some t) (hC : (c_X12_series Q) t) : Rn L xs (d + 8) 270 48 [some (.ref 61), some (.int x1), some (.int x2), some (.int x3), some (.int x4), some (.int x5), some (.int x6), none, none] [] 94 (I, J, xrf) Q := by
  unfold f_X12_series_7 at h
  refine Rn.go 3 (j' := 270) (pc' := 52) (ls' := [some (.ref 61), some (.int x1), some (.int x2), some (.int x3), some (.int x4), some (.int x5), some (.int x6), none, none]) (st' := [.int 1, .int 0, .int x5]) (n' := 94) (M' := (I, J, xrf)) (fun f => rfl) ?_
  obtain ⟨o, ho, h⟩ := Option.bind_eq_some_iff.mp h
  refine Rn.call (d1 := d + 7) (j1 := 206) (ls1 := [some (.int x5), some (.int 0), some (.int 1)]) (rest := []) (fun f => rfl) ?_
  refine p_X12_in (d := d + 6) x5 0 1 I J (t := o) ho ?_
  exact p_X12_series_8 x1 x2 x3 x4 x5 x6 o.1 o.2.1 o.2.2 h hC
theorem p_X12_series_6 {L : Nat} {xs : Nat → Int32} {d : Nat} {Q : xO → Prop} (x1 : Int32) (x2 : Int32) (x3 : Int32) (x4 : Int32) (x5 : Int32) (x6 : Int32) (s0 : Int32) (I : xI) (J : xJ) {t : Int32 × xI × xJ} (h : f_X12_series_6 x1 x2 x3 x4 x5 x6 s0 I J = some t) (hC : (c_X12_series Q) t) : Rn L xs (d + 8) 270 45 [some (.ref 61), some (.int x1), some (.int x2), some (.int x3), some (.int x4), some (.int x5), some (.int x6), none, none] [.int s0] 94 (I, J, xrf) Q := by
  unfold f_X12_series_6 at h
  refine Rn.fi 1 (c := s0 = 0) (p1 := 58) (l1 := [some (.ref 61), some (.int x1), some (.int x2), some (.int x3), some (.int x4), some (.int x5), some (.int x6), none, none]) (s1 := []) (n1 := 94) (M1 := (I, J, xrf)) (p2 := 48) (l2 := [some (.ref 61), some (.int x1), some (.int x2), some (.int x3), some (.int x4), some (.int x5), some (.int x6), none, none]) (s2 := []) (n2 := 94) (M2 := (I, J, xrf)) (fun f => rfl) (fun hc => ?_) (fun hc => ?_)
  · rw [if_pos hc] at h
    exact p_X12_series_9 x1 x2 x3 x4 x5 x6 I J h hC
  · rw [if_neg hc] at h
    exact p_X12_series_7 x1 x2 x3 x4 x5 x6 I J h hC
theorem p_X12_series_5 {L : Nat} {xs : Nat → Int32} {d : Nat} {Q : xO → Prop} (x1 : Int32) (x2 : Int32) (x3 : Int32) (x4 : Int32) (x5 : Int32) (x6 : Int32) (I : xI) (J : xJ) {t : Int32 × xI × xJ} (h : f_X12_series_5 x1 x2 x3 x4 x5 x6 I J = some t) (hC : (c_X12_series Q) t) : Rn L xs (d + 8) 270 39 [some (.ref 61), some (.int x1), some (.int x2), some (.int x3), some (.int x4), some (.int x5), some (.int x6), none, none] [] 94 (I, J, xrf) Q := by
  unfold f_X12_series_5 at h
  refine Rn.go 2 (j' := 270) (pc' := 42) (ls' := [some (.ref 61), some (.int x1), some (.int x2), some (.int x3), some (.int x4), some (.int x5), some (.int x6), none, none]) (st' := [.int x4, .ref 61]) (n' := 94) (M' := (I, J, xrf)) (fun f => rfl) ?_
  obtain ⟨o, ho, h⟩ := Option.bind_eq_some_iff.mp h
  refine Rn.call (d1 := d + 7) (j1 := 208) (ls1 := [some (.ref 61), some (.int x4)]) (rest := []) (fun f => rfl) ?_
  refine p_X12_isInput (d := d + 5) x4 I J (t := o) ho ?_
  exact p_X12_series_6 x1 x2 x3 x4 x5 x6 o.1 o.2.1 o.2.2 h hC
theorem p_X12_series_4 {L : Nat} {xs : Nat → Int32} {d : Nat} {Q : xO → Prop} (x1 : Int32) (x2 : Int32) (x3 : Int32) (x4 : Int32) (x5 : Int32) (x6 : Int32) (s0 : Int32) (I : xI) (J : xJ) {t : Int32 × xI × xJ} (h : f_X12_series_4 x1 x2 x3 x4 x5 x6 s0 I J = some t) (hC : (c_X12_series Q) t) : Rn L xs (d + 8) 270 36 [some (.ref 61), some (.int x1), some (.int x2), some (.int x3), some (.int x4), some (.int x5), some (.int x6), none, none] [.int s0] 94 (I, J, xrf) Q := by
  unfold f_X12_series_4 at h
  refine Rn.fi 1 (c := s0 = 0) (p1 := 58) (l1 := [some (.ref 61), some (.int x1), some (.int x2), some (.int x3), some (.int x4), some (.int x5), some (.int x6), none, none]) (s1 := []) (n1 := 94) (M1 := (I, J, xrf)) (p2 := 39) (l2 := [some (.ref 61), some (.int x1), some (.int x2), some (.int x3), some (.int x4), some (.int x5), some (.int x6), none, none]) (s2 := []) (n2 := 94) (M2 := (I, J, xrf)) (fun f => rfl) (fun hc => ?_) (fun hc => ?_)
  · rw [if_pos hc] at h
    exact p_X12_series_9 x1 x2 x3 x4 x5 x6 I J h hC
  · rw [if_neg hc] at h
    exact p_X12_series_5 x1 x2 x3 x4 x5 x6 I J h hC
theorem p_X12_series_3 {L : Nat} {xs : Nat → Int32} {d : Nat} {Q : xO → Prop} (x1 : Int32) (x2 : Int32) (x3 : Int32) (x4 : Int32) (x5 : Int32) (x6 : Int32) (I : xI) (J : xJ) {t : Int32 × xI × xJ} (h : f_X12_series_3 x1 x2 x3 x4 x5 x6 I J = some t) (hC : (c_X12_series Q) t) : Rn L xs (d + 8) 270 22 [some (.ref 61), some (.int x1), some (.int x2), some (.int x3), some (.int x4), some (.int x5), some (.int x6), none, none] [] 94 (I, J, xrf) Q := by
  unfold f_X12_series_3 at h
  obtain ⟨hc, h⟩ := xif h
  refine Rn.ok 6 (c := x6 < 0 ∨ 203 ≤ x6.toNatClampNeg) (p1 := 31) (l1 := [some (.ref 61), some (.int x1), some (.int x2), some (.int x3), some (.int x4), some (.int x5), some (.int x6), none, none]) (s1 := [.int ((I 83 x6.toNatClampNeg)), .int 0, .int x2]) (n1 := 94) (M1 := (I, J, xrf)) (fun f => rfl) hc ?_
  refine Rn.go 2 (j' := 270) (pc' := 33) (ls' := [some (.ref 61), some (.int x1), some (.int x2), some (.int x3), some (.int x4), some (.int x5), some (.int x6), none, none]) (st' := [.int (((I 83 x6.toNatClampNeg) - 1)), .int 0, .int x2]) (n' := 94) (M' := (I, J, xrf)) (fun f => rfl) ?_
  obtain ⟨o, ho, h⟩ := Option.bind_eq_some_iff.mp h
  refine Rn.call (d1 := d + 7) (j1 := 206) (ls1 := [some (.int x2), some (.int 0), some (.int (((I 83 x6.toNatClampNeg) - 1)))]) (rest := []) (fun f => rfl) ?_
  refine p_X12_in (d := d + 6) x2 0 (((I 83 x6.toNatClampNeg) - 1)) I J (t := o) ho ?_
  exact p_X12_series_4 x1 x2 x3 x4 x5 x6 o.1 o.2.1 o.2.2 h hC
theorem p_X12_series_2 {L : Nat} {xs : Nat → Int32} {d : Nat} {Q : xO → Prop} (x1 : Int32) (x2 : Int32) (x3 : Int32) (x4 : Int32) (x5 : Int32) (x6 : Int32) (I : xI) (J : xJ) {t : Int32 × xI × xJ} (h : f_X12_series_2 x1 x2 x3 x4 x5 x6 I J = some t) (hC : (c_X12_series Q) t) : Rn L xs (d + 8) 270 12 [some (.ref 61), some (.int x1), some (.int x2), some (.int x3), some (.int x4), some (.int x5), some (.int x6), none, none] [] 94 (I, J, xrf) Q := by
  unfold f_X12_series_2 at h
  obtain ⟨hc, h⟩ := xif h
  refine Rn.ok 4 (c := x6 < 0 ∨ 203 ≤ x6.toNatClampNeg) (p1 := 19) (l1 := [some (.ref 61), some (.int x1), some (.int x2), some (.int x3), some (.int x4), some (.int x5), some (.int x6), none, none]) (s1 := [.int ((I 84 x6.toNatClampNeg))]) (n1 := 94) (M1 := (I, J, xrf)) (fun f => rfl) hc ?_
  refine Rn.fi 1 (c := (I 84 x6.toNatClampNeg) = 0) (p1 := 58) (l1 := [some (.ref 61), some (.int x1), some (.int x2), some (.int x3), some (.int x4), some (.int x5), some (.int x6), none, none]) (s1 := []) (n1 := 94) (M1 := (I, J, xrf)) (p2 := 22) (l2 := [some (.ref 61), some (.int x1), some (.int x2), some (.int x3), some (.int x4), some (.int x5), some (.int x6), none, none]) (s2 := []) (n2 := 94) (M2 := (I, J, xrf)) (fun f => rfl) (fun hc => ?_) (fun hc => ?_)
  · rw [if_pos hc] at h
    exact p_X12_series_9 x1 x2 x3 x4 x5 x6 I J h hC
  · rw [if_neg hc] at h
    exact p_X12_series_3 x1 x2 x3 x4 x5 x6 I J h hC
theorem p_X12_series_1 {L : Nat} {xs : Nat → Int32} {d : Nat} {Q : xO → Prop} (x1 : Int32) (x2 : Int32) (x3 : Int32) (x4 : Int32) (x5 : Int32) (s0 : Int32) (I : xI) (J : xJ) {t : Int32 × xI × xJ} (h : f_X12_series_1 x1 x2 x3 x4 x5 s0 I J = some t) (hC : (c_X12_series Q) t) : Rn L xs (d + 8) 270 5 [some (.ref 61), some (.int x1), some (.int x2), some (.int x3), some (.int x4), some (.int x5), none, none, none] [.int s0] 94 (I, J, xrf) Q := by
  unfold f_X12_series_1 at h
  refine Rn.fi 3 (c := s0 < 0) (p1 := 58) (l1 := [some (.ref 61), some (.int x1), some (.int x2), some (.int x3), some (.int x4), some (.int x5), some (.int s0), none, none]) (s1 := []) (n1 := 94) (M1 := (I, J, xrf)) (p2 := 12) (l2 := [some (.ref 61), some (.int x1), some (.int x2), some (.int x3), some (.int x4), some (.int x5), some (.int s0), none, none]) (s2 := []) (n2 := 94) (M2 := (I, J, xrf)) (fun f => rfl) (fun hc => ?_) (fun hc => ?_)
  · rw [if_pos hc] at h
    exact p_X12_series_9 x1 x2 x3 x4 x5 s0 I J h hC
  · rw [if_neg hc] at h
    exact p_X12_series_2 x1 x2 x3 x4 x5 s0 I J h hC
theorem p_X12_series_0 {L : Nat} {xs : Nat → Int32} {d : Nat} {Q : xO → Prop} (x1 : Int32) (x2 : Int32) (x3 : Int32) (x4 : Int32) (x5 : Int32) (I : xI) (J : xJ) {t : Int32 × xI × xJ} (h : f_X12_series_0 x1 x2 x3 x4 x5 I J = some t) (hC : (c_X12_series Q) t) : Rn L xs (d + 8) 270 0 [some (.ref 61), some (.int x1), some (.int x2), some (.int x3), some (.int x4), some (.int x5), none, none, none] [] 94 (I, J, xrf) Q := by
  unfold f_X12_series_0 at h
  refine Rn.go 2 (j' := 270) (pc' := 2) (ls' := [some (.ref 61), some (.int x1), some (.int x2), some (.int x3), some (.int x4), some (.int x5), none, none, none]) (st' := [.int x1, .ref 61]) (n' := 94) (M' := (I, J, xrf)) (fun f => rfl) ?_
  obtain ⟨o, ho, h⟩ := Option.bind_eq_some_iff.mp h
  refine Rn.call (d1 := d + 7) (j1 := 259) (ls1 := [some (.ref 61), some (.int x1), none]) (rest := []) (fun f => rfl) ?_
  refine p_X12_placeOf (d := d + 0) x1 I J (t := o) ho ?_
  exact p_X12_series_1 x1 x2 x3 x4 x5 o.1 o.2.1 o.2.2 h hC
theorem p_X12_series {L : Nat} {xs : Nat → Int32} {d : Nat} {Q : xO → Prop} (x1 : Int32) (x2 : Int32) (x3 : Int32) (x4 : Int32) (x5 : Int32) (I : xI) (J : xJ) {t : Int32 × xI × xJ} (h : f_X12_series x1 x2 x3 x4 x5 I J = some t) (hC : Q ((some (.int t.1)), 94, (t.2.1, t.2.2, xrf))) : Rn L xs (d + 8) 270 0 [some (.ref 61), some (.int x1), some (.int x2), some (.int x3), some (.int x4), some (.int x5), none, none, none] [] 94 (I, J, xrf) Q := p_X12_series_0 x1 x2 x3 x4 x5 I J h hC
/-! X12_beside -/
def c_X12_beside (Q : xO → Prop) (t : Int32 × xI × xJ) : Prop := Q ((some (.int t.1)), 94, (t.2.1, t.2.2, xrf))
def c_X12_beside_12 (L : Nat) (xs : Nat → Int32) (d : Nat) (Q : xO → Prop) (t : (Int32 × Int32 × Int32 × Int32 × Int32 × Int32 × Int32 × Int32 × Int32 × Int32 × (Option Value) × (Option Value) × (Option Value) × xI × xJ) ⊕ (Int32 × xI × xJ)) : Prop := match t with
  | .inl s => Rn L xs (d + 8) 271 99 [some (.ref 61), some (.int s.1), some (.int s.2.1), some (.int s.2.2.1), some (.int s.2.2.2.1), some (.int s.2.2.2.2.1), some (.int s.2.2.2.2.2.1), some (.int s.2.2.2.2.2.2.1), some (.int s.2.2.2.2.2.2.2.1), some (.int s.2.2.2.2.2.2.2.2.1), some (.int s.2.2.2.2.2.2.2.2.2.1), s.2.2.2.2.2.2.2.2.2.2.1, s.2.2.2.2.2.2.2.2.2.2.2.1, s.2.2.2.2.2.2.2.2.2.2.2.2.1] [] 94 (s.2.2.2.2.2.2.2.2.2.2.2.2.2.1, s.2.2.2.2.2.2.2.2.2.2.2.2.2.2, xrf) Q
  | .inr t => (c_X12_beside Q) t
def c_X12_beside_20 (L : Nat) (xs : Nat → Int32) (d : Nat) (Q : xO → Prop) (t : (Int32 × Int32 × Int32 × Int32 × Int32 × Int32 × Int32 × Int32 × Int32 × Int32 × Int32 × (Option Value) × (Option Value) × xI × xJ) ⊕ (Int32 × xI × xJ)) : Prop := match t with
  | .inl s => Rn L xs (d + 8) 271 172 [some (.ref 61), some (.int s.1), some (.int s.2.1), some (.int s.2.2.1), some (.int s.2.2.2.1), some (.int s.2.2.2.2.1), some (.int s.2.2.2.2.2.1), some (.int s.2.2.2.2.2.2.1), some (.int s.2.2.2.2.2.2.2.1), some (.int s.2.2.2.2.2.2.2.2.1), some (.int s.2.2.2.2.2.2.2.2.2.1), some (.int s.2.2.2.2.2.2.2.2.2.2.1), s.2.2.2.2.2.2.2.2.2.2.2.1, s.2.2.2.2.2.2.2.2.2.2.2.2.1] [] 94 (s.2.2.2.2.2.2.2.2.2.2.2.2.2.1, s.2.2.2.2.2.2.2.2.2.2.2.2.2.2, xrf) Q
  | .inr t => (c_X12_beside Q) t
def f_X12_beside_10 (x1 : Int32) (x2 : Int32) (x3 : Int32) (x4 : Int32) (x5 : Int32) (x6 : Int32) (x7 : Int32) (I : xI) (J : xJ) : Option (Int32 × xI × xJ) := some ((-1), I, J)
def f_X12_beside_25 (x1 : Int32) (x2 : Int32) (x3 : Int32) (x4 : Int32) (x5 : Int32) (x6 : Int32) (x7 : Int32) (x8 : Int32) (x9 : Int32) (x10 : Int32) (x11 : Int32) (z12 : Option Value) (z13 : Option Value) (I : xI) (J : xJ) : Option (Int32 × xI × xJ) := some (x10, I, J)
def f_X12_beside_24 (x1 : Int32) (x2 : Int32) (x3 : Int32) (x4 : Int32) (x5 : Int32) (x6 : Int32) (x7 : Int32) (x8 : Int32) (x9 : Int32) (x10 : Int32) (x11 : Int32) (z12 : Option Value) (z13 : Option Value) (I : xI) (J : xJ) : Option ((Int32 × Int32 × Int32 × Int32 × Int32 × Int32 × Int32 × Int32 × Int32 × Int32 × Int32 × (Option Value) × (Option Value) × xI × xJ) ⊕ (Int32 × xI × xJ)) := some (.inl (x1, x2, x3, x4, x5, x6, x7, x8, x9, x10, ((x11 + 1)), z12, z13, I, J))
def f_X12_beside_23 (x1 : Int32) (x2 : Int32) (x3 : Int32) (x4 : Int32) (x5 : Int32) (x6 : Int32) (x7 : Int32) (x8 : Int32) (x9 : Int32) (x10 : Int32) (x11 : Int32) (z12 : Option Value) (z13 : Option Value) (I : xI) (J : xJ) : Option ((Int32 × Int32 × Int32 × Int32 × Int32 × Int32 × Int32 × Int32 × Int32 × Int32 × Int32 × (Option Value) × (Option Value) × xI × xJ) ⊕ (Int32 × xI × xJ)) := f_X12_beside_24 x1 x2 x3 x4 x5 x6 x7 x8 x9 ((x10 ||| (1 <<< (x11 &&& 31)))) x11 z12 z13 I J
def f_X12_beside_22 (x1 : Int32) (x2 : Int32) (x3 : Int32) (x4 : Int32) (x5 : Int32) (x6 : Int32) (x7 : Int32) (x8 : Int32) (x9 : Int32) (x10 : Int32) (x11 : Int32) (z12 : Option Value) (z13 : Option Value) (I : xI) (J : xJ) : Option ((Int32 × Int32 × Int32 × Int32 × Int32 × Int32 × Int32 × Int32 × Int32 × Int32 × Int32 × (Option Value) × (Option Value) × xI × xJ) ⊕ (Int32 × xI × xJ)) := if ((6 * x7) + x11) < 0 ∨ 1218 ≤ (((6 * x7) + x11)).toNatClampNeg then none else if (I 85 (((6 * x7) + x11)).toNatClampNeg) = x9 then f_X12_beside_23 x1 x2 x3 x4 x5 x6 x7 x8 x9 x10 x11 z12 z13 I J else f_X12_beside_24 x1 x2 x3 x4 x5 x6 x7 x8 x9 x10 x11 z12 z13 I J
def f_X12_beside_21 (x1 : Int32) (x2 : Int32) (x3 : Int32) (x4 : Int32) (x5 : Int32) (x6 : Int32) (x7 : Int32) (x8 : Int32) (x9 : Int32) (x10 : Int32) (x11 : Int32) (z12 : Option Value) (z13 : Option Value) (I : xI) (J : xJ) : Option ((Int32 × Int32 × Int32 × Int32 × Int32 × Int32 × Int32 × Int32 × Int32 × Int32 × Int32 × (Option Value) × (Option Value) × xI × xJ) ⊕ (Int32 × xI × xJ)) := if ((6 * x6) + x11) < 0 ∨ 1218 ≤ (((6 * x6) + x11)).toNatClampNeg then none else if (I 85 (((6 * x6) + x11)).toNatClampNeg) = x8 then f_X12_beside_22 x1 x2 x3 x4 x5 x6 x7 x8 x9 x10 x11 z12 z13 I J else f_X12_beside_24 x1 x2 x3 x4 x5 x6 x7 x8 x9 x10 x11 z12 z13 I J
def b_X12_beside_20 (x1 : Int32) (x2 : Int32) (x3 : Int32) (x4 : Int32) (x5 : Int32) (x6 : Int32) (x7 : Int32) (x8 : Int32) (x9 : Int32) (x10 : Int32) (x11 : Int32) (z12 : Option Value) (z13 : Option Value) (I : xI) (J : xJ) : Option ((Int32 × Int32 × Int32 × Int32 × Int32 × Int32 × Int32 × Int32 × Int32 × Int32 × Int32 × (Option Value) × (Option Value) × xI × xJ) ⊕ (Int32 × xI × xJ)) := if (I 61 17) ≤ x11 then ((f_X12_beside_25 x1 x2 x3 x4 x5 x6 x7 x8 x9 x10 x11 z12 z13 I J)).map .inr else f_X12_beside_21 x1 x2 x3 x4 x5 x6 x7 x8 x9 x10 x11 z12 z13 I J
def f_X12_beside_20 (x1 : Int32) (x2 : Int32) (x3 : Int32) (x4 : Int32) (x5 : Int32) (x6 : Int32) (x7 : Int32) (x8 : Int32) (x9 : Int32) (x10 : Int32) (x11 : Int32) (z12 : Option Value) (z13 : Option Value) (I : xI) (J : xJ) : Option (Int32 × xI × xJ) := xloop (fun s : Int32 × Int32 × Int32 × Int32 × Int32 × Int32 × Int32 × Int32 × Int32 × Int32 × Int32 × (Option Value) × (Option Value) × xI × xJ => b_X12_beside_20 s.1 s.2.1 s.2.2.1 s.2.2.2.1 s.2.2.2.2.1 s.2.2.2.2.2.1 s.2.2.2.2.2.2.1 s.2.2.2.2.2.2.2.1 s.2.2.2.2.2.2.2.2.1 s.2.2.2.2.2.2.2.2.2.1 s.2.2.2.2.2.2.2.2.2.2.1 s.2.2.2.2.2.2.2.2.2.2.2.1 s.2.2.2.2.2.2.2.2.2.2.2.2.1 s.2.2.2.2.2.2.2.2.2.2.2.2.2.1 s.2.2.2.2.2.2.2.2.2.2.2.2.2.2) 5000 (x1, x2, x3, x4, x5, x6, x7, x8, x9, x10, x11, z12, z13, I, J)
def f_X12_beside_19 (x1 : Int32) (x2 : Int32) (x3 : Int32) (x4 : Int32) (x5 : Int32) (x6 : Int32) (x7 : Int32) (x8 : Int32) (x9 : Int32) (x10 : Int32) (z11 : Option Value) (z12 : Option Value) (z13 : Option Value) (I : xI) (J : xJ) : Option (Int32 × xI × xJ) := f_X12_beside_20 x1 x2 x3 x4 x5 x6 x7 x8 x9 0 0 z12 z13 I J
def f_X12_beside_18 (x1 : Int32) (x2 : Int32) (x3 : Int32) (x4 : Int32) (x5 : Int32) (x6 : Int32) (x7 : Int32) (x8 : Int32) (x9 : Int32) (x10 : Int32) (x11 : Int32) (x12 : Int32) (x13 : Int32) (I : xI) (J : xJ) : Option ((Int32 × Int32 × Int32 × Int32 × Int32 × Int32 × Int32 × Int32 × Int32 × Int32 × (Option Value) × (Option Value) × (Option Value) × xI × xJ) ⊕ (Int32 × xI × xJ)) := some (.inl (x1, x2, x3, x4, x5, x6, x7, x12, x13, ((x10 + Int32.ofInt (-1))), (some (.int x11)), (some (.int x12)), (some (.int x13)), I, J))
def f_X12_beside_17 (x1 : Int32) (x2 : Int32) (x3 : Int32) (x4 : Int32) (x5 : Int32) (x6 : Int32) (x7 : Int32) (x8 : Int32) (x9 : Int32) (x10 : Int32) (x11 : Int32) (x12 : Int32) (x13 : Int32) (I : xI) (J : xJ) : Option (Int32 × xI × xJ) := f_X12_beside_19 x1 x2 x3 x4 x5 x6 x7 x8 x9 x10 (some (.int x11)) (some (.int x12)) (some (.int x13)) I J
def f_X12_beside_16 (x1 : Int32) (x2 : Int32) (x3 : Int32) (x4 : Int32) (x5 : Int32) (x6 : Int32) (x7 : Int32) (x8 : Int32) (x9 : Int32) (x10 : Int32) (x11 : Int32) (x12 : Int32) (x13 : Int32) (I : xI) (J : xJ) : Option ((Int32 × Int32 × Int32 × Int32 × Int32 × Int32 × Int32 × Int32 × Int32 × Int32 × (Option Value) × (Option Value) × (Option Value) × xI × xJ) ⊕ (Int32 × xI × xJ)) := if 0 ≤ x13 then f_X12_beside_18 x1 x2 x3 x4 x5 x6 x7 x8 x9 x10 x11 x12 x13 I J else ((f_X12_beside_17 x1 x2 x3 x4 x5 x6 x7 x8 x9 x10 x11 x12 x13 I J)).map .inr
def f_X12_beside_15 (x1 : Int32) (x2 : Int32) (x3 : Int32) (x4 : Int32) (x5 : Int32) (x6 : Int32) (x7 : Int32) (x8 : Int32) (x9 : Int32) (x10 : Int32) (x11 : Int32) (x12 : Int32) (z13 : Option Value) (s0 : Int32) (I : xI) (J : xJ) : Option ((Int32 × Int32 × Int32 × Int32 × Int32 × Int32 × Int32 × Int32 × Int32 × Int32 × (Option Value) × (Option Value) × (Option Value) × xI × xJ) ⊕ (Int32 × xI × xJ)) := if x12 < 0 then ((f_X12_beside_19 x1 x2 x3 x4 x5 x6 x7 x8 x9 x10 (some (.int x11)) (some (.int x12)) (some (.int s0)) I J)).map .inr else f_X12_beside_16 x1 x2 x3 x4 x5 x6 x7 x8 x9 x10 x11 x12 s0 I J
def f_X12_beside_14 (x1 : Int32) (x2 : Int32) (x3 : Int32) (x4 : Int32) (x5 : Int32) (x6 : Int32) (x7 : Int32) (x8 : Int32) (x9 : Int32) (x10 : Int32) (x11 : Int32) (z12 : Option Value) (z13 : Option Value) (s0 : Int32) (I : xI) (J : xJ) : Option ((Int32 × Int32 × Int32 × Int32 × Int32 × Int32 × Int32 × Int32 × Int32 × Int32 × (Option Value) × (Option Value) × (Option Value) × xI × xJ) ⊕ (Int32 × xI × xJ)) := (f_X12_partTo x7 x9 x11 I J).bind fun o => f_X12_beside_15 x1 x2 x3 x4 x5 x6 x7 x8 x9 x10 x11 s0 z13 o.1 o.2.1 o.2.2
def f_X12_beside_13 (x1 : Int32) (x2 : Int32) (x3 : Int32) (x4 : Int32) (x5 : Int32) (x6 : Int32) (x7 : Int32) (x8 : Int32) (x9 : Int32) (x10 : Int32) (z11 : Option Value) (z12 : Option Value) (z13 : Option Value) (I : xI) (J : xJ) : Option ((Int32 × Int32 × Int32 × Int32 × Int32 × Int32 × Int32 × Int32 × Int32 × Int32 × (Option Value) × (Option Value) × (Option Value) × xI × xJ) ⊕ (Int32 × xI × xJ)) := (f_X12_partTo x6 x8 (((x4 >>> ((2 * x10) &&& 31)) &&& 3)) I J).bind fun o => f_X12_beside_14 x1 x2 x3 x4 x5 x6 x7 x8 x9 x10 (((x4 >>> ((2 * x10) &&& 31)) &&& 3)) z12 z13 o.1 o.2.1 o.2.2
def b_X12_beside_12 (x1 : Int32) (x2 : Int32) (x3 : Int32) (x4 : Int32) (x5 : Int32) (x6 : Int32) (x7 : Int32) (x8 : Int32) (x9 : Int32) (x10 : Int32) (z11 : Option Value) (z12 : Option Value) (z13 : Option Value) (I : xI) (J : xJ) : Option ((Int32 × Int32 × Int32 × Int32 × Int32 × Int32 × Int32 × Int32 × Int32 × Int32 × (Option Value) × (Option Value) × (Option Value) × xI × xJ) ⊕ (Int32 × xI × xJ)) := if x10 < 0 then ((f_X12_beside_19 x1 x2 x3 x4 x5 x6 x7 x8 x9 x10 z11 z12 z13 I J)).map .inr else f_X12_beside_13 x1 x2 x3 x4 x5 x6 x7 x8 x9 x10 z11 z12 z13 I J
def f_X12_beside_12 (x1 : Int32) (x2 : Int32) (x3 : Int32) (x4 : Int32) (x5 : Int32) (x6 : Int32) (x7 : Int32) (x8 : Int32) (x9 : Int32) (x10 : Int32) (z11 : Option Value) (z12 : Option Value) (z13 : Option Value) (I : xI) (J : xJ) : Option (Int32 × xI × xJ) := xloop (fun s : Int32 × Int32 × Int32 × Int32 × Int32 × Int32 × Int32 × Int32 × Int32 × Int32 × (Option Value) × (Option Value) × (Option Value) × xI × xJ => b_X12_beside_12 s.1 s.2.1 s.2.2.1 s.2.2.2.1 s.2.2.2.2.1 s.2.2.2.2.2.1 s.2.2.2.2.2.2.1 s.2.2.2.2.2.2.2.1 s.2.2.2.2.2.2.2.2.1 s.2.2.2.2.2.2.2.2.2.1 s.2.2.2.2.2.2.2.2.2.2.1 s.2.2.2.2.2.2.2.2.2.2.2.1 s.2.2.2.2.2.2.2.2.2.2.2.2.1 s.2.2.2.2.2.2.2.2.2.2.2.2.2.1 s.2.2.2.2.2.2.2.2.2.2.2.2.2.2) 5000 (x1, x2, x3, x4, x5, x6, x7, x8, x9, x10, z11, z12, z13, I, J)
def f_X12_beside_11 (x1 : Int32) (x2 : Int32) (x3 : Int32) (x4 : Int32) (x5 : Int32) (x6 : Int32) (x7 : Int32) (I : xI) (J : xJ) : Option (Int32 × xI × xJ) := if ((6 * x6) + x3) < 0 ∨ 1218 ≤ (((6 * x6) + x3)).toNatClampNeg then none else if ((6 * x7) + x3) < 0 ∨ 1218 ≤ (((6 * x7) + x3)).toNatClampNeg then none else f_X12_beside_12 x1 x2 x3 x4 x5 x6 x7 ((I 85 (((6 * x6) + x3)).toNatClampNeg)) ((I 85 (((6 * x7) + x3)).toNatClampNeg)) ((x5 - 1)) none none none I J
def f_X12_beside_9 (x1 : Int32) (x2 : Int32) (x3 : Int32) (x4 : Int32) (x5 : Int32) (x6 : Int32) (x7 : Int32) (s0 : Int32) (I : xI) (J : xJ) : Option (Int32 × xI × xJ) := if s0 = 0 then f_X12_beside_10 x1 x2 x3 x4 x5 x6 x7 I J else f_X12_beside_11 x1 x2 x3 x4 x5 x6 x7 I J
def f_X12_beside_8 (x1 : Int32) (x2 : Int32) (x3 : Int32) (x4 : Int32) (x5 : Int32) (x6 : Int32) (x7 : Int32) (I : xI) (J : xJ) : Option (Int32 × xI × xJ) := (f_X12_isWord x4 x5 I J).bind fun o => f_X12_beside_9 x1 x2 x3 x4 x5 x6 x7 o.1 o.2.1 o.2.2
def f_X12_beside_7 (x1 : Int32) (x2 : Int32) (x3 : Int32) (x4 : Int32) (x5 : Int32) (x6 : Int32) (x7 : Int32) (s0 : Int32) (I : xI) (J : xJ) : Option (Int32 × xI × xJ) := if s0 = 0 then f_X12_beside_10 x1 x2 x3 x4 x5 x6 x7 I J else f_X12_beside_8 x1 x2 x3 x4 x5 x6 x7 I J
def f_X12_beside_6 (x1 : Int32) (x2 : Int32) (x3 : Int32) (x4 : Int32) (x5 : Int32) (x6 : Int32) (x7 : Int32) (I : xI) (J : xJ) : Option (Int32 × xI × xJ) := (f_X12_isState x3 I J).bind fun o => f_X12_beside_7 x1 x2 x3 x4 x5 x6 x7 o.1 o.2.1 o.2.2
def f_X12_beside_5 (x1 : Int32) (x2 : Int32) (x3 : Int32) (x4 : Int32) (x5 : Int32) (x6 : Int32) (x7 : Int32) (I : xI) (J : xJ) : Option (Int32 × xI × xJ) := if x7 < 0 ∨ 203 ≤ x7.toNatClampNeg then none else if (I 84 x7.toNatClampNeg) = 0 then f_X12_beside_10 x1 x2 x3 x4 x5 x6 x7 I J else f_X12_beside_6 x1 x2 x3 x4 x5 x6 x7 I J
def f_X12_beside_4 (x1 : Int32) (x2 : Int32) (x3 : Int32) (x4 : Int32) (x5 : Int32) (x6 : Int32) (x7 : Int32) (I : xI) (J : xJ) : Option (Int32 × xI × xJ) := if x6 < 0 ∨ 203 ≤ x6.toNatClampNeg then none else if (I 84 x6.toNatClampNeg) = 0 then f_X12_beside_10 x1 x2 x3 x4 x5 x6 x7 I J else f_X12_beside_5 x1 x2 x3 x4 x5 x6 x7 I J
def f_X12_beside_3 (x1 : Int32) (x2 : Int32) (x3 : Int32) (x4 : Int32) (x5 : Int32) (x6 : Int32) (x7 : Int32) (I : xI) (J : xJ) : Option (Int32 × xI × xJ) := if x7 < 0 then f_X12_beside_10 x1 x2 x3 x4 x5 x6 x7 I J else f_X12_beside_4 x1 x2 x3 x4 x5 x6 x7 I J
def f_X12_beside_2 (x1 : Int32) (x2 : Int32) (x3 : Int32) (x4 : Int32) (x5 : Int32) (x6 : Int32) (s0 : Int32) (I : xI) (J : xJ) : Option (Int32 × xI × xJ) := if x6 < 0 then f_X12_beside_10 x1 x2 x3 x4 x5 x6 s0 I J else f_X12_beside_3 x1 x2 x3 x4 x5 x6 s0 I J
def f_X12_beside_1 (x1 : Int32) (x2 : Int32) (x3 : Int32) (x4 : Int32) (x5 : Int32) (s0 : Int32) (I : xI) (J : xJ) : Option (Int32 × xI × xJ) := (f_X12_placeOf x2 I J).bind fun o => f_X12_beside_2 x1 x2 x3 x4 x5 s0 o.1 o.2.1 o.2.2
def f_X12_beside_0 (x1 : Int32) (x2 : Int32) (x3 : Int32) (x4 : Int32) (x5 : Int32) (I : xI) (J : xJ) : Option (Int32 × xI × xJ) := (f_X12_placeOf x1 I J).bind fun o => f_X12_beside_1 x1 x2 x3 x4 x5 o.1 o.2.1 o.2.2
def f_X12_beside (x1 : Int32) (x2 : Int32) (x3 : Int32) (x4 : Int32) (x5 : Int32) (I : xI) (J : xJ) : Option (Int32 × xI × xJ) := f_X12_beside_0 x1 x2 x3 x4 x5 I J
theorem p_X12_beside_10 {L : Nat} {xs : Nat → Int32} {d : Nat} {Q : xO → Prop} (x1 : Int32) (x2 : Int32) (x3 : Int32) (x4 : Int32) (x5 : Int32) (x6 : Int32) (x7 : Int32) (I : xI) (J : xJ) {t : Int32 × xI × xJ} (h : f_X12_beside_10 x1 x2 x3 x4 x5 x6 x7 I J = some t) (hC : (c_X12_beside Q) t) : Rn L xs (d + 8) 271 63 [some (.ref 61), some (.int x1), some (.int x2), some (.int x3), some (.int x4), some (.int x5), some (.int x6), some (.int x7), none, none, none, none, none, none] [] 94 (I, J, xrf) Q := by
  unfold f_X12_beside_10 at h
  cases h
  exact Rn.ret 2 (o := ((some (.int ((-1)))), 94, (I, J, xrf))) (fun f => rfl) hC
theorem p_X12_beside_25 {L : Nat} {xs : Nat → Int32} {d : Nat} {Q : xO → Prop} (x1 : Int32) (x2 : Int32) (x3 : Int32) (x4 : Int32) (x5 : Int32) (x6 : Int32) (x7 : Int32) (x8 : Int32) (x9 : Int32) (x10 : Int32) (x11 : Int32) (z12 : Option Value) (z13 : Option Value) (I : xI) (J : xJ) {t : Int32 × xI × xJ} (h : f_X12_beside_25 x1 x2 x3 x4 x5 x6 x7 x8 x9 x10 x11 z12 z13 I J = some t) (hC : (c_X12_beside Q) t) : Rn L xs (d + 8) 271 232 [some (.ref 61), some (.int x1), some (.int x2), some (.int x3), some (.int x4), some (.int x5), some (.int x6), some (.int x7), some (.int x8), some (.int x9), some (.int x10), some (.int x11), z12, z13] [] 94 (I, J, xrf) Q := by
  unfold f_X12_beside_25 at h
  cases h
  exact Rn.ret 2 (o := ((some (.int x10)), 94, (I, J, xrf))) (fun f => rfl) hC
theorem p_X12_beside_24 {L : Nat} {xs : Nat → Int32} {d : Nat} {Q : xO → Prop} (x1 : Int32) (x2 : Int32) (x3 : Int32) (x4 : Int32) (x5 : Int32) (x6 : Int32) (x7 : Int32) (x8 : Int32) (x9 : Int32) (x10 : Int32) (x11 : Int32) (z12 : Option Value) (z13 : Option Value) (I : xI) (J : xJ) {t : (Int32 × Int32 × Int32 × Int32 × Int32 × Int32 × Int32 × Int32 × Int32 × Int32 × Int32 × (Option Value) × (Option Value) × xI × xJ) ⊕ (Int32 × xI × xJ)} (h : f_X12_beside_24 x1 x2 x3 x4 x5 x6 x7 x8 x9 x10 x11 z12 z13 I J = some t) (hC : (c_X12_beside_20 L xs d Q) t) : Rn L xs (d + 8) 271 226 [some (.ref 61), some (.int x1), some (.int x2), some (.int x3), some (.int x4), some (.int x5), some (.int x6), some (.int x7), some (.int x8), some (.int x9), some (.int x10), some (.int x11), z12, z13] [] 94 (I, J, xrf) Q := by
  unfold f_X12_beside_24 at h
  refine Rn.go 2 (j' := 271) (pc' := 172) (ls' := [some (.ref 61), some (.int x1), some (.int x2), some (.int x3), some (.int x4), some (.int x5), some (.int x6), some (.int x7), some (.int x8), some (.int x9), some (.int x10), some (.int ((x11 + 1))), z12, z13]) (st' := []) (n' := 94) (M' := (I, J, xrf)) (fun f => rfl) ?_
  cases h; exact hC
theorem p_X12_beside_23 {L : Nat} {xs : Nat → Int32} {d : Nat} {Q : xO → Prop} (x1 : Int32) (x2 : Int32) (x3 : Int32) (x4 : Int32) (x5 : Int32) (x6 : Int32) (x7 : Int32) (x8 : Int32) (x9 : Int32) (x10 : Int32) (x11 : Int32) (z12 : Option Value) (z13 : Option Value) (I : xI) (J : xJ) {t : (Int32 × Int32 × Int32 × Int32 × Int32 × Int32 × Int32 × Int32 × Int32 × Int32 × Int32 × (Option Value) × (Option Value) × xI × xJ) ⊕ (Int32 × xI × xJ)} (h : f_X12_beside_23 x1 x2 x3 x4 x5 x6 x7 x8 x9 x10 x11 z12 z13 I J = some t) (hC : (c_X12_beside_20 L xs d Q) t) : Rn L xs (d + 8) 271 217 [some (.ref 61), some (.int x1), some (.int x2), some (.int x3), some (.int x4), some (.int x5), some (.int x6), some (.int x7), some (.int x8), some (.int x9), some (.int x10), some (.int x11), z12, z13] [] 94 (I, J, xrf) Q := by
  unfold f_X12_beside_23 at h
  refine Rn.go 6 (j' := 271) (pc' := 226) (ls' := [some (.ref 61), some (.int x1), some (.int x2), some (.int x3), some (.int x4), some (.int x5), some (.int x6), some (.int x7), some (.int x8), some (.int x9), some (.int ((x10 ||| (1 <<< (x11 &&& 31))))), some (.int x11), z12, z13]) (st' := []) (n' := 94) (M' := (I, J, xrf)) (fun f => rfl) ?_
  exact p_X12_beside_24 x1 x2 x3 x4 x5 x6 x7 x8 x9 ((x10 ||| (1 <<< (x11 &&& 31)))) x11 z12 z13 I J h hC
theorem p_X12_beside_22 {L : Nat} {xs : Nat → Int32} {d : Nat} {Q : xO → Prop} (x1 : Int32) (x2 : Int32) (x3 : Int32) (x4 : Int32) (x5 : Int32) (x6 : Int32) (x7 : Int32) (x8 : Int32) (x9 : Int32) (x10 : Int32) (x11 : Int32) (z12 : Option Value) (z13 : Option Value) (I : xI) (J : xJ) {t : (Int32 × Int32 × Int32 × Int32 × Int32 × Int32 × Int32 × Int32 × Int32 × Int32 × Int32 × (Option Value) × (Option Value) × xI × xJ) ⊕ (Int32 × xI × xJ)} (h : f_X12_beside_22 x1 x2 x3 x4 x5 x6 x7 x8 x9 x10 x11 z12 z13 I J = some t) (hC : (c_X12_beside_20 L xs d Q) t) : Rn L xs (d + 8) 271 199 [some (.ref 61), some (.int x1), some (.int x2), some (.int x3), some (.int x4), some (.int x5), some (.int x6), some (.int x7), some (.int x8), some (.int x9), some (.int x10), some (.int x11), z12, z13] [] 94 (I, J, xrf) Q := by
  unfold f_X12_beside_22 at h
  obtain ⟨hc, h⟩ := xif h
  refine Rn.ok 8 (c := ((6 * x7) + x11) < 0 ∨ 1218 ≤ (((6 * x7) + x11)).toNatClampNeg) (p1 := 212) (l1 := [some (.ref 61), some (.int x1), some (.int x2), some (.int x3), some (.int x4), some (.int x5), some (.int x6), some (.int x7), some (.int x8), some (.int x9), some (.int x10), some (.int x11), z12, z13]) (s1 := [.int ((I 85 (((6 * x7) + x11)).toNatClampNeg))]) (n1 := 94) (M1 := (I, J, xrf)) (fun f => rfl) hc ?_
  refine Rn.fi 2 (c := (I 85 (((6 * x7) + x11)).toNatClampNeg) = x9) (p1 := 217) (l1 := [some (.ref 61), some (.int x1), some (.int x2), some (.int x3), some (.int x4), some (.int x5), some (.int x6), some (.int x7), some (.int x8), some (.int x9), some (.int x10), some (.int x11), z12, z13]) (s1 := []) (n1 := 94) (M1 := (I, J, xrf)) (p2 := 226) (l2 := [some (.ref 61), some (.int x1), some (.int x2), some (.int x3), some (.int x4), some (.int x5), some (.int x6), some (.int x7), some (.int x8), some (.int x9), some (.int x10), some (.int x11), z12, z13]) (s2 := []) (n2 := 94) (M2 := (I, J, xrf)) (fun f => rfl) (fun hc => ?_) (fun hc => ?_)
  · rw [if_pos hc] at h
    exact p_X12_beside_23 x1 x2 x3 x4 x5 x6 x7 x8 x9 x10 x11 z12 z13 I J h hC
  · rw [if_neg hc] at h
    exact p_X12_beside_24 x1 x2 x3 x4 x5 x6 x7 x8 x9 x10 x11 z12 z13 I J h hC
theorem p_X12_beside_21 {L : Nat} {xs : Nat → Int32} {d : Nat} {Q : xO → Prop} (x1 : Int32) (x2 : Int32) (x3 : Int32) (x4 : Int32) (x5 : Int32) (x6 : Int32) (x7 : Int32) (x8 : Int32) (x9 : Int32) (x10 : Int32) (x11 : Int32) (z12 : Option Value) (z13 : Option Value) (I : xI) (J : xJ) {t : (Int32 × Int32 × Int32 × Int32 × Int32 × Int32 × Int32 × Int32 × Int32 × Int32 × Int32 × (Option Value) × (Option Value) × xI × xJ) ⊕ (Int32 × xI × xJ)} (h : f_X12_beside_21 x1 x2 x3 x4 x5 x6 x7 x8 x9 x10 x11 z12 z13 I J = some t) (hC : (c_X12_beside_20 L xs d Q) t) : Rn L xs (d + 8) 271 181 [some (.ref 61), some (.int x1), some (.int x2), some (.int x3), some (.int x4), some (.int x5), some (.int x6), some (.int x7), some (.int x8), some (.int x9), some (.int x10), some (.int x11), z12, z13] [] 94 (I, J, xrf) Q := by
  unfold f_X12_beside_21 at h
  obtain ⟨hc, h⟩ := xif h
  refine Rn.ok 8 (c := ((6 * x6) + x11) < 0 ∨ 1218 ≤ (((6 * x6) + x11)).toNatClampNeg) (p1 := 194) (l1 := [some (.ref 61), some (.int x1), some (.int x2), some (.int x3), some (.int x4), some (.int x5), some (.int x6), some (.int x7), some (.int x8), some (.int x9), some (.int x10), some (.int x11), z12, z13]) (s1 := [.int ((I 85 (((6 * x6) + x11)).toNatClampNeg))]) (n1 := 94) (M1 := (I, J, xrf)) (fun f => rfl) hc ?_
  refine Rn.fi 2 (c := (I 85 (((6 * x6) + x11)).toNatClampNeg) = x8) (p1 := 199) (l1 := [some (.ref 61), some (.int x1), some (.int x2), some (.int x3), some (.int x4), some (.int x5), some (.int x6), some (.int x7), some (.int x8), some (.int x9), some (.int x10), some (.int x11), z12, z13]) (s1 := []) (n1 := 94) (M1 := (I, J, xrf)) (p2 := 226) (l2 := [some (.ref 61), some (.int x1), some (.int x2), some (.int x3), some (.int x4), some (.int x5), some (.int x6), some (.int x7), some (.int x8), some (.int x9), some (.int x10), some (.int x11), z12, z13]) (s2 := []) (n2 := 94) (M2 := (I, J, xrf)) (fun f => rfl) (fun hc => ?_) (fun hc => ?_)
  · rw [if_pos hc] at h
    exact p_X12_beside_22 x1 x2 x3 x4 x5 x6 x7 x8 x9 x10 x11 z12 z13 I J h hC
  · rw [if_neg hc] at h
    exact p_X12_beside_24 x1 x2 x3 x4 x5 x6 x7 x8 x9 x10 x11 z12 z13 I J h hC
theorem q_X12_beside_20 {L : Nat} {xs : Nat → Int32} {d : Nat} {Q : xO → Prop} (x1 : Int32) (x2 : Int32) (x3 : Int32) (x4 : Int32) (x5 : Int32) (x6 : Int32) (x7 : Int32) (x8 : Int32) (x9 : Int32) (x10 : Int32) (x11 : Int32) (z12 : Option Value) (z13 : Option Value) (I : xI) (J : xJ) {t : (Int32 × Int32 × Int32 × Int32 × Int32 × Int32 × Int32 × Int32 × Int32 × Int32 × Int32 × (Option Value) × (Option Value) × xI × xJ) ⊕ (Int32 × xI × xJ)} (h : b_X12_beside_20 x1 x2 x3 x4 x5 x6 x7 x8 x9 x10 x11 z12 z13 I J = some t) (hC : (c_X12_beside_20 L xs d Q) t) : Rn L xs (d + 8) 271 172 [some (.ref 61), some (.int x1), some (.int x2), some (.int x3), some (.int x4), some (.int x5), some (.int x6), some (.int x7), some (.int x8), some (.int x9), some (.int x10), some (.int x11), z12, z13] [] 94 (I, J, xrf) Q := by
  unfold b_X12_beside_20 at h
  refine Rn.fi 4 (c := (I 61 17) ≤ x11) (p1 := 232) (l1 := [some (.ref 61), some (.int x1), some (.int x2), some (.int x3), some (.int x4), some (.int x5), some (.int x6), some (.int x7), some (.int x8), some (.int x9), some (.int x10), some (.int x11), z12, z13]) (s1 := []) (n1 := 94) (M1 := (I, J, xrf)) (p2 := 181) (l2 := [some (.ref 61), some (.int x1), some (.int x2), some (.int x3), some (.int x4), some (.int x5), some (.int x6), some (.int x7), some (.int x8), some (.int x9), some (.int x10), some (.int x11), z12, z13]) (s2 := []) (n2 := 94) (M2 := (I, J, xrf)) (fun f => rfl) (fun hc => ?_) (fun hc => ?_)
  · rw [if_pos hc] at h
    obtain ⟨t0, h0, rfl⟩ := Option.map_eq_some_iff.mp h
    exact p_X12_beside_25 x1 x2 x3 x4 x5 x6 x7 x8 x9 x10 x11 z12 z13 I J h0 hC
  · rw [if_neg hc] at h
    exact p_X12_beside_21 x1 x2 x3 x4 x5 x6 x7 x8 x9 x10 x11 z12 z13 I J h hC
theorem p_X12_beside_20 {L : Nat} {xs : Nat → Int32} {d : Nat} {Q : xO → Prop} (x1 : Int32) (x2 : Int32) (x3 : Int32) (x4 : Int32) (x5 : Int32) (x6 : Int32) (x7 : Int32) (x8 : Int32) (x9 : Int32) (x10 : Int32) (x11 : Int32) (z12 : Option Value) (z13 : Option Value) (I : xI) (J : xJ) {t : Int32 × xI × xJ} (h : f_X12_beside_20 x1 x2 x3 x4 x5 x6 x7 x8 x9 x10 x11 z12 z13 I J = some t) (hC : (c_X12_beside Q) t) : Rn L xs (d + 8) 271 172 [some (.ref 61), some (.int x1), some (.int x2), some (.int x3), some (.int x4), some (.int x5), some (.int x6), some (.int x7), some (.int x8), some (.int x9), some (.int x10), some (.int x11), z12, z13] [] 94 (I, J, xrf) Q := by
  unfold f_X12_beside_20 at h
  exact xloop_some (P := fun s : Int32 × Int32 × Int32 × Int32 × Int32 × Int32 × Int32 × Int32 × Int32 × Int32 × Int32 × (Option Value) × (Option Value) × xI × xJ => Rn L xs (d + 8) 271 172 [some (.ref 61), some (.int s.1), some (.int s.2.1), some (.int s.2.2.1), some (.int s.2.2.2.1), some (.int s.2.2.2.2.1), some (.int s.2.2.2.2.2.1), some (.int s.2.2.2.2.2.2.1), some (.int s.2.2.2.2.2.2.2.1), some (.int s.2.2.2.2.2.2.2.2.1), some (.int s.2.2.2.2.2.2.2.2.2.1), some (.int s.2.2.2.2.2.2.2.2.2.2.1), s.2.2.2.2.2.2.2.2.2.2.2.1, s.2.2.2.2.2.2.2.2.2.2.2.2.1] [] 94 (s.2.2.2.2.2.2.2.2.2.2.2.2.2.1, s.2.2.2.2.2.2.2.2.2.2.2.2.2.2, xrf) Q) t (fun s ⟨s', hb, hp⟩ => q_X12_beside_20 s.1 s.2.1 s.2.2.1 s.2.2.2.1 s.2.2.2.2.1 s.2.2.2.2.2.1 s.2.2.2.2.2.2.1 s.2.2.2.2.2.2.2.1 s.2.2.2.2.2.2.2.2.1 s.2.2.2.2.2.2.2.2.2.1 s.2.2.2.2.2.2.2.2.2.2.1 s.2.2.2.2.2.2.2.2.2.2.2.1 s.2.2.2.2.2.2.2.2.2.2.2.2.1 s.2.2.2.2.2.2.2.2.2.2.2.2.2.1 s.2.2.2.2.2.2.2.2.2.2.2.2.2.2 hb hp) (fun s hb => q_X12_beside_20 s.1 s.2.1 s.2.2.1 s.2.2.2.1 s.2.2.2.2.1 s.2.2.2.2.2.1 s.2.2.2.2.2.2.1 s.2.2.2.2.2.2.2.1 s.2.2.2.2.2.2.2.2.1 s.2.2.2.2.2.2.2.2.2.1 s.2.2.2.2.2.2.2.2.2.2.1 s.2.2.2.2.2.2.2.2.2.2.2.1 s.2.2.2.2.2.2.2.2.2.2.2.2.1 s.2.2.2.2.2.2.2.2.2.2.2.2.2.1 s.2.2.2.2.2.2.2.2.2.2.2.2.2.2 hb hC) _ _ h
theorem p_X12_beside_19 {L : Nat} {xs : Nat → Int32} {d : Nat} {Q : xO → Prop} (x1 : Int32) (x2 : Int32) (x3 : Int32) (x4 : Int32) (x5 : Int32) (x6 : Int32) (x7 : Int32) (x8 : Int32) (x9 : Int32) (x10 : Int32) (z11 : Option Value) (z12 : Option Value) (z13 : Option Value) (I : xI) (J : xJ) {t : Int32 × xI × xJ} (h : f_X12_beside_19 x1 x2 x3 x4 x5 x6 x7 x8 x9 x10 z11 z12 z13 I J = some t) (hC : (c_X12_beside Q) t) : Rn L xs (d + 8) 271 166 [some (.ref 61), some (.int x1), some (.int x2), some (.int x3), some (.int x4), some (.int x5), some (.int x6), some (.int x7), some (.int x8), some (.int x9), some (.int x10), z11, z12, z13] [] 94 (I, J, xrf) Q := by
  unfold f_X12_beside_19 at h
  refine Rn.go 4 (j' := 271) (pc' := 172) (ls' := [some (.ref 61), some (.int x1), some (.int x2), some (.int x3), some (.int x4), some (.int x5), some (.int x6), some (.int x7), some (.int x8), some (.int x9), some (.int 0), some (.int 0), z12, z13]) (st' := []) (n' := 94) (M' := (I, J, xrf)) (fun f => rfl) ?_
  exact p_X12_beside_20 x1 x2 x3 x4 x5 x6 x7 x8 x9 0 0 z12 z13 I J h hC
theorem p_X12_beside_18 {L : Nat} {xs : Nat → Int32} {d : Nat} {Q : xO → Prop} (x1 : Int32) (x2 : Int32) (x3 : Int32) (x4 : Int32) (x5 : Int32) (x6 : Int32) (x7 : Int32) (x8 : Int32) (x9 : Int32) (x10 : Int32) (x11 : Int32) (x12 : Int32) (x13 : Int32) (I : xI) (J : xJ) {t : (Int32 × Int32 × Int32 × Int32 × Int32 × Int32 × Int32 × Int32 × Int32 × Int32 × (Option Value) × (Option Value) × (Option Value) × xI × xJ) ⊕ (Int32 × xI × xJ)} (h : f_X12_beside_18 x1 x2 x3 x4 x5 x6 x7 x8 x9 x10 x11 x12 x13 I J = some t) (hC : (c_X12_beside_12 L xs d Q) t) : Rn L xs (d + 8) 271 152 [some (.ref 61), some (.int x1), some (.int x2), some (.int x3), some (.int x4), some (.int x5), some (.int x6), some (.int x7), some (.int x8), some (.int x9), some (.int x10), some (.int x11), some (.int x12), some (.int x13)] [] 94 (I, J, xrf) Q := by
  unfold f_X12_beside_18 at h
  refine Rn.go 4 (j' := 271) (pc' := 160) (ls' := [some (.ref 61), some (.int x1), some (.int x2), some (.int x3), some (.int x4), some (.int x5), some (.int x6), some (.int x7), some (.int x12), some (.int x13), some (.int x10), some (.int x11), some (.int x12), some (.int x13)]) (st' := []) (n' := 94) (M' := (I, J, xrf)) (fun f => rfl) ?_
  refine Rn.go 1 (d' := (d + 8)) (j' := 271) (pc' := 163) (ls' := [some (.ref 61), some (.int x1), some (.int x2), some (.int x3), some (.int x4), some (.int x5), some (.int x6), some (.int x7), some (.int x12), some (.int x13), some (.int ((x10 + Int32.ofInt (-1)))), some (.int x11), some (.int x12), some (.int x13)]) (st' := []) (n' := 94) (M' := (I, J, xrf)) (fun f => xrun_iinc 10 (-1) x10 rfl rfl rfl) ?_
  refine Rn.go 1 (j' := 271) (pc' := 99) (ls' := [some (.ref 61), some (.int x1), some (.int x2), some (.int x3), some (.int x4), some (.int x5), some (.int x6), some (.int x7), some (.int x12), some (.int x13), some (.int ((x10 + Int32.ofInt (-1)))), some (.int x11), some (.int x12), some (.int x13)]) (st' := []) (n' := 94) (M' := (I, J, xrf)) (fun f => rfl) ?_
  cases h; exact hC
theorem p_X12_beside_17 {L : Nat} {xs : Nat → Int32} {d : Nat} {Q : xO → Prop} (x1 : Int32) (x2 : Int32) (x3 : Int32) (x4 : Int32) (x5 : Int32) (x6 : Int32) (x7 : Int32) (x8 : Int32) (x9 : Int32) (x10 : Int32) (x11 : Int32) (x12 : Int32) (x13 : Int32) (I : xI) (J : xJ) {t : Int32 × xI × xJ} (h : f_X12_beside_17 x1 x2 x3 x4 x5 x6 x7 x8 x9 x10 x11 x12 x13 I J = some t) (hC : (c_X12_beside Q) t) : Rn L xs (d + 8) 271 149 [some (.ref 61), some (.int x1), some (.int x2), some (.int x3), some (.int x4), some (.int x5), some (.int x6), some (.int x7), some (.int x8), some (.int x9), some (.int x10), some (.int x11), some (.int x12), some (.int x13)] [] 94 (I, J, xrf) Q := by
  unfold f_X12_beside_17 at h
  refine Rn.go 1 (j' := 271) (pc' := 166) (ls' := [some (.ref 61), some (.int x1), some (.int x2), some (.int x3), some (.int x4), some (.int x5), some (.int x6), some (.int x7), some (.int x8), some (.int x9), some (.int x10), some (.int x11), some (.int x12), some (.int x13)]) (st' := []) (n' := 94) (M' := (I, J, xrf)) (fun f => rfl) ?_
  exact p_X12_beside_19 x1 x2 x3 x4 x5 x6 x7 x8 x9 x10 (some (.int x11)) (some (.int x12)) (some (.int x13)) I J h hC
theorem p_X12_beside_16 {L : Nat} {xs : Nat → Int32} {d : Nat} {Q : xO → Prop} (x1 : Int32) (x2 : Int32) (x3 : Int32) (x4 : Int32) (x5 : Int32) (x6 : Int32) (x7 : Int32) (x8 : Int32) (x9 : Int32) (x10 : Int32) (x11 : Int32) (x12 : Int32) (x13 : Int32) (I : xI) (J : xJ) {t : (Int32 × Int32 × Int32 × Int32 × Int32 × Int32 × Int32 × Int32 × Int32 × Int32 × (Option Value) × (Option Value) × (Option Value) × xI × xJ) ⊕ (Int32 × xI × xJ)} (h : f_X12_beside_16 x1 x2 x3 x4 x5 x6 x7 x8 x9 x10 x11 x12 x13 I J = some t) (hC : (c_X12_beside_12 L xs d Q) t) : Rn L xs (d + 8) 271 144 [some (.ref 61), some (.int x1), some (.int x2), some (.int x3), some (.int x4), some (.int x5), some (.int x6), some (.int x7), some (.int x8), some (.int x9), some (.int x10), some (.int x11), some (.int x12), some (.int x13)] [] 94 (I, J, xrf) Q := by
  unfold f_X12_beside_16 at h
  refine Rn.fi 2 (c := 0 ≤ x13) (p1 := 152) (l1 := [some (.ref 61), some (.int x1), some (.int x2), some (.int x3), some (.int x4), some (.int x5), some (.int x6), some (.int x7), some (.int x8), some (.int x9), some (.int x10), some (.int x11), some (.int x12), some (.int x13)]) (s1 := []) (n1 := 94) (M1 := (I, J, xrf)) (p2 := 149) (l2 := [some (.ref 61), some (.int x1), some (.int x2), some (.int x3), some (.int x4), some (.int x5), some (.int x6), some (.int x7), some (.int x8), some (.int x9), some (.int x10), some (.int x11), some (.int x12), some (.int x13)]) (s2 := []) (n2 := 94) (M2 := (I, J, xrf)) (fun f => rfl) (fun hc => ?_) (fun hc => ?_)
  · rw [if_pos hc] at h
    exact p_X12_beside_18 x1 x2 x3 x4 x5 x6 x7 x8 x9 x10 x11 x12 x13 I J h hC
  · rw [if_neg hc] at h
    obtain ⟨t0, h0, rfl⟩ := Option.map_eq_some_iff.mp h
    exact p_X12_beside_17 x1 x2 x3 x4 x5 x6 x7 x8 x9 x10 x11 x12 x13 I J h0 hC
theorem p_X12_beside_15 {L : Nat} {xs : Nat → Int32} {d : Nat} {Q : xO → Prop} (x1 : Int32) (x2 : Int32) (x3 : Int32) (x4 : Int32) (x5 : Int32) (x6 : Int32) (x7 : Int32) (x8 : Int32) (x9 : Int32) (x10 : Int32) (x11 : Int32) (x12 : Int32) (z13 : Option Value) (s0 : Int32) (I : xI) (J : xJ) {t : (Int32 × Int32 × Int32 × Int32 × Int32 × Int32 × Int32 × Int32 × Int32 × Int32 × (Option Value) × (Option Value) × (Option Value) × xI × xJ) ⊕ (Int32 × xI × xJ)} (h : f_X12_beside_15 x1 x2 x3 x4 x5 x6 x7 x8 x9 x10 x11 x12 z13 s0 I J = some t) (hC : (c_X12_beside_12 L xs d Q) t) : Rn L xs (d + 8) 271 137 [some (.ref 61), some (.int x1), some (.int x2), some (.int x3), some (.int x4), some (.int x5), some (.int x6), some (.int x7), some (.int x8), some (.int x9), some (.int x10), some (.int x11), some (.int x12), z13] [.int s0] 94 (I, J, xrf) Q := by
  unfold f_X12_beside_15 at h
  refine Rn.fi 3 (c := x12 < 0) (p1 := 166) (l1 := [some (.ref 61), some (.int x1), some (.int x2), some (.int x3), some (.int x4), some (.int x5), some (.int x6), some (.int x7), some (.int x8), some (.int x9), some (.int x10), some (.int x11), some (.int x12), some (.int s0)]) (s1 := []) (n1 := 94) (M1 := (I, J, xrf)) (p2 := 144) (l2 := [some (.ref 61), some (.int x1), some (.int x2), some (.int x3), some (.int x4), some (.int x5), some (.int x6), some (.int x7), some (.int x8), some (.int x9), some (.int x10), some (.int x11), some (.int x12), some (.int s0)]) (s2 := []) (n2 := 94) (M2 := (I, J, xrf)) (fun f => rfl) (fun hc => ?_) (fun hc => ?_)
  · rw [if_pos hc] at h
    obtain ⟨t0, h0, rfl⟩ := Option.map_eq_some_iff.mp h
    exact p_X12_beside_19 x1 x2 x3 x4 x5 x6 x7 x8 x9 x10 (some (.int x11)) (some (.int x12)) (some (.int s0)) I J h0 hC
  · rw [if_neg hc] at h
    exact p_X12_beside_16 x1 x2 x3 x4 x5 x6 x7 x8 x9 x10 x11 x12 s0 I J h hC
theorem p_X12_beside_14 {L : Nat} {xs : Nat → Int32} {d : Nat} {Q : xO → Prop} (x1 : Int32) (x2 : Int32) (x3 : Int32) (x4 : Int32) (x5 : Int32) (x6 : Int32) (x7 : Int32) (x8 : Int32) (x9 : Int32) (x10 : Int32) (x11 : Int32) (z12 : Option Value) (z13 : Option Value) (s0 : Int32) (I : xI) (J : xJ) {t : (Int32 × Int32 × Int32 × Int32 × Int32 × Int32 × Int32 × Int32 × Int32 × Int32 × (Option Value) × (Option Value) × (Option Value) × xI × xJ) ⊕ (Int32 × xI × xJ)} (h : f_X12_beside_14 x1 x2 x3 x4 x5 x6 x7 x8 x9 x10 x11 z12 z13 s0 I J = some t) (hC : (c_X12_beside_12 L xs d Q) t) : Rn L xs (d + 8) 271 125 [some (.ref 61), some (.int x1), some (.int x2), some (.int x3), some (.int x4), some (.int x5), some (.int x6), some (.int x7), some (.int x8), some (.int x9), some (.int x10), some (.int x11), z12, z13] [.int s0] 94 (I, J, xrf) Q := by
  unfold f_X12_beside_14 at h
  refine Rn.go 5 (j' := 271) (pc' := 134) (ls' := [some (.ref 61), some (.int x1), some (.int x2), some (.int x3), some (.int x4), some (.int x5), some (.int x6), some (.int x7), some (.int x8), some (.int x9), some (.int x10), some (.int x11), some (.int s0), z13]) (st' := [.int x11, .int x9, .int x7, .ref 61]) (n' := 94) (M' := (I, J, xrf)) (fun f => rfl) ?_
  obtain ⟨o, ho, h⟩ := Option.bind_eq_some_iff.mp h
  refine Rn.call (d1 := d + 7) (j1 := 268) (ls1 := [some (.ref 61), some (.int x7), some (.int x9), some (.int x11), none]) (rest := []) (fun f => rfl) ?_
  refine p_X12_partTo (d := d + 5) x7 x9 x11 I J (t := o) ho ?_
  exact p_X12_beside_15 x1 x2 x3 x4 x5 x6 x7 x8 x9 x10 x11 s0 z13 o.1 o.2.1 o.2.2 h hC
theorem p_X12_beside_13 {L : Nat} {xs : Nat → Int32} {d : Nat} {Q : xO → Prop} (x1 : Int32) (x2 : Int32) (x3 : Int32) (x4 : Int32) (x5 : Int32) (x6 : Int32) (x7 : Int32) (x8 : Int32) (x9 : Int32) (x10 : Int32) (z11 : Option Value) (z12 : Option Value) (z13 : Option Value) (I : xI) (J : xJ) {t : (Int32 × Int32 × Int32 × Int32 × Int32 × Int32 × Int32 × Int32 × Int32 × Int32 × (Option Value) × (Option Value) × (Option Value) × xI × xJ) ⊕ (Int32 × xI × xJ)} (h : f_X12_beside_13 x1 x2 x3 x4 x5 x6 x7 x8 x9 x10 z11 z12 z13 I J = some t) (hC : (c_X12_beside_12 L xs d Q) t) : Rn L xs (d + 8) 271 104 [some (.ref 61), some (.int x1), some (.int x2), some (.int x3), some (.int x4), some (.int x5), some (.int x6), some (.int x7), some (.int x8), some (.int x9), some (.int x10), z11, z12, z13] [] 94 (I, J, xrf) Q := by
  unfold f_X12_beside_13 at h
  refine Rn.go 12 (j' := 271) (pc' := 122) (ls' := [some (.ref 61), some (.int x1), some (.int x2), some (.int x3), some (.int x4), some (.int x5), some (.int x6), some (.int x7), some (.int x8), some (.int x9), some (.int x10), some (.int (((x4 >>> ((2 * x10) &&& 31)) &&& 3))), z12, z13]) (st' := [.int (((x4 >>> ((2 * x10) &&& 31)) &&& 3)), .int x8, .int x6, .ref 61]) (n' := 94) (M' := (I, J, xrf)) (fun f => rfl) ?_
  obtain ⟨o, ho, h⟩ := Option.bind_eq_some_iff.mp h
  refine Rn.call (d1 := d + 7) (j1 := 268) (ls1 := [some (.ref 61), some (.int x6), some (.int x8), some (.int (((x4 >>> ((2 * x10) &&& 31)) &&& 3))), none]) (rest := []) (fun f => rfl) ?_
  refine p_X12_partTo (d := d + 5) x6 x8 (((x4 >>> ((2 * x10) &&& 31)) &&& 3)) I J (t := o) ho ?_
  exact p_X12_beside_14 x1 x2 x3 x4 x5 x6 x7 x8 x9 x10 (((x4 >>> ((2 * x10) &&& 31)) &&& 3)) z12 z13 o.1 o.2.1 o.2.2 h hC
theorem q_X12_beside_12 {L : Nat} {xs : Nat → Int32} {d : Nat} {Q : xO → Prop} (x1 : Int32) (x2 : Int32) (x3 : Int32) (x4 : Int32) (x5 : Int32) (x6 : Int32) (x7 : Int32) (x8 : Int32) (x9 : Int32) (x10 : Int32) (z11 : Option Value) (z12 : Option Value) (z13 : Option Value) (I : xI) (J : xJ) {t : (Int32 × Int32 × Int32 × Int32 × Int32 × Int32 × Int32 × Int32 × Int32 × Int32 × (Option Value) × (Option Value) × (Option Value) × xI × xJ) ⊕ (Int32 × xI × xJ)} (h : b_X12_beside_12 x1 x2 x3 x4 x5 x6 x7 x8 x9 x10 z11 z12 z13 I J = some t) (hC : (c_X12_beside_12 L xs d Q) t) : Rn L xs (d + 8) 271 99 [some (.ref 61), some (.int x1), some (.int x2), some (.int x3), some (.int x4), some (.int x5), some (.int x6), some (.int x7), some (.int x8), some (.int x9), some (.int x10), z11, z12, z13] [] 94 (I, J, xrf) Q := by
  unfold b_X12_beside_12 at h
  refine Rn.fi 2 (c := x10 < 0) (p1 := 166) (l1 := [some (.ref 61), some (.int x1), some (.int x2), some (.int x3), some (.int x4), some (.int x5), some (.int x6), some (.int x7), some (.int x8), some (.int x9), some (.int x10), z11, z12, z13]) (s1 := []) (n1 := 94) (M1 := (I, J, xrf)) (p2 := 104) (l2 := [some (.ref 61), some (.int x1), some (.int x2), some (.int x3), some (.int x4), some (.int x5), some (.int x6), some (.int x7), some (.int x8), some (.int x9), some (.int x10), z11, z12, z13]) (s2 := []) (n2 := 94) (M2 := (I, J, xrf)) (fun f => rfl) (fun hc => ?_) (fun hc => ?_)
  · rw [if_pos hc] at h
    obtain ⟨t0, h0, rfl⟩ := Option.map_eq_some_iff.mp h
    exact p_X12_beside_19 x1 x2 x3 x4 x5 x6 x7 x8 x9 x10 z11 z12 z13 I J h0 hC
  · rw [if_neg hc] at h
    exact p_X12_beside_13 x1 x2 x3 x4 x5 x6 x7 x8 x9 x10 z11 z12 z13 I J h hC
theorem p_X12_beside_12 {L : Nat} {xs : Nat → Int32} {d : Nat} {Q : xO → Prop} (x1 : Int32) (x2 : Int32) (x3 : Int32) (x4 : Int32) (x5 : Int32) (x6 : Int32) (x7 : Int32) (x8 : Int32) (x9 : Int32) (x10 : Int32) (z11 : Option Value) (z12 : Option Value) (z13 : Option Value) (I : xI) (J : xJ) {t : Int32 × xI × xJ} (h : f_X12_beside_12 x1 x2 x3 x4 x5 x6 x7 x8 x9 x10 z11 z12 z13 I J = some t) (hC : (c_X12_beside Q) t) : Rn L xs (d + 8) 271 99 [some (.ref 61), some (.int x1), some (.int x2), some (.int x3), some (.int x4), some (.int x5), some (.int x6), some (.int x7), some (.int x8), some (.int x9), some (.int x10), z11, z12, z13] [] 94 (I, J, xrf) Q := by
  unfold f_X12_beside_12 at h
  exact xloop_some (P := fun s : Int32 × Int32 × Int32 × Int32 × Int32 × Int32 × Int32 × Int32 × Int32 × Int32 × (Option Value) × (Option Value) × (Option Value) × xI × xJ => Rn L xs (d + 8) 271 99 [some (.ref 61), some (.int s.1), some (.int s.2.1), some (.int s.2.2.1), some (.int s.2.2.2.1), some (.int s.2.2.2.2.1), some (.int s.2.2.2.2.2.1), some (.int s.2.2.2.2.2.2.1), some (.int s.2.2.2.2.2.2.2.1), some (.int s.2.2.2.2.2.2.2.2.1), some (.int s.2.2.2.2.2.2.2.2.2.1), s.2.2.2.2.2.2.2.2.2.2.1, s.2.2.2.2.2.2.2.2.2.2.2.1, s.2.2.2.2.2.2.2.2.2.2.2.2.1] [] 94 (s.2.2.2.2.2.2.2.2.2.2.2.2.2.1, s.2.2.2.2.2.2.2.2.2.2.2.2.2.2, xrf) Q) t (fun s ⟨s', hb, hp⟩ => q_X12_beside_12 s.1 s.2.1 s.2.2.1 s.2.2.2.1 s.2.2.2.2.1 s.2.2.2.2.2.1 s.2.2.2.2.2.2.1 s.2.2.2.2.2.2.2.1 s.2.2.2.2.2.2.2.2.1 s.2.2.2.2.2.2.2.2.2.1 s.2.2.2.2.2.2.2.2.2.2.1 s.2.2.2.2.2.2.2.2.2.2.2.1 s.2.2.2.2.2.2.2.2.2.2.2.2.1 s.2.2.2.2.2.2.2.2.2.2.2.2.2.1 s.2.2.2.2.2.2.2.2.2.2.2.2.2.2 hb hp) (fun s hb => q_X12_beside_12 s.1 s.2.1 s.2.2.1 s.2.2.2.1 s.2.2.2.2.1 s.2.2.2.2.2.1 s.2.2.2.2.2.2.1 s.2.2.2.2.2.2.2.1 s.2.2.2.2.2.2.2.2.1 s.2.2.2.2.2.2.2.2.2.1 s.2.2.2.2.2.2.2.2.2.2.1 s.2.2.2.2.2.2.2.2.2.2.2.1 s.2.2.2.2.2.2.2.2.2.2.2.2.1 s.2.2.2.2.2.2.2.2.2.2.2.2.2.1 s.2.2.2.2.2.2.2.2.2.2.2.2.2.2 hb hC) _ _ h
theorem p_X12_beside_11 {L : Nat} {xs : Nat → Int32} {d : Nat} {Q : xO → Prop} (x1 : Int32) (x2 : Int32) (x3 : Int32) (x4 : Int32) (x5 : Int32) (x6 : Int32) (x7 : Int32) (I : xI) (J : xJ) {t : Int32 × xI × xJ} (h : f_X12_beside_11 x1 x2 x3 x4 x5 x6 x7 I J = some t) (hC : (c_X12_beside Q) t) : Rn L xs (d + 8) 271 65 [some (.ref 61), some (.int x1), some (.int x2), some (.int x3), some (.int x4), some (.int x5), some (.int x6), some (.int x7), none, none, none, none, none, none] [] 94 (I, J, xrf) Q := by
  unfold f_X12_beside_11 at h
  obtain ⟨hc, h⟩ := xif h
  refine Rn.ok 8 (c := ((6 * x6) + x3) < 0 ∨ 1218 ≤ (((6 * x6) + x3)).toNatClampNeg) (p1 := 77) (l1 := [some (.ref 61), some (.int x1), some (.int x2), some (.int x3), some (.int x4), some (.int x5), some (.int x6), some (.int x7), none, none, none, none, none, none]) (s1 := [.int ((I 85 (((6 * x6) + x3)).toNatClampNeg))]) (n1 := 94) (M1 := (I, J, xrf)) (fun f => rfl) hc ?_
  obtain ⟨hc, h⟩ := xif h
  refine Rn.ok 9 (c := ((6 * x7) + x3) < 0 ∨ 1218 ≤ (((6 * x7) + x3)).toNatClampNeg) (p1 := 91) (l1 := [some (.ref 61), some (.int x1), some (.int x2), some (.int x3), some (.int x4), some (.int x5), some (.int x6), some (.int x7), some (.int ((I 85 (((6 * x6) + x3)).toNatClampNeg))), none, none, none, none, none]) (s1 := [.int ((I 85 (((6 * x7) + x3)).toNatClampNeg))]) (n1 := 94) (M1 := (I, J, xrf)) (fun f => rfl) hc ?_
  refine Rn.go 5 (j' := 271) (pc' := 99) (ls' := [some (.ref 61), some (.int x1), some (.int x2), some (.int x3), some (.int x4), some (.int x5), some (.int x6), some (.int x7), some (.int ((I 85 (((6 * x6) + x3)).toNatClampNeg))), some (.int ((I 85 (((6 * x7) + x3)).toNatClampNeg))), some (.int ((x5 - 1))), none, none, none]) (st' := []) (n' := 94) (M' := (I, J, xrf)) (fun f => rfl) ?_
  exact p_X12_beside_12 x1 x2 x3 x4 x5 x6 x7 ((I 85 (((6 * x6) + x3)).toNatClampNeg)) ((I 85 (((6 * x7) + x3)).toNatClampNeg)) ((x5 - 1)) none none none I J h hC
theorem p_X12_beside_9 {L : Nat} {xs : Nat → Int32} {d : Nat} {Q : xO → Prop} (x1 : Int32) (x2 : Int32) (x3 : Int32) (x4 : Int32) (x5 : Int32) (x6 : Int32) (x7 : Int32) (s0 : Int32) (I : xI) (J : xJ) {t : Int32 × xI × xJ} (h : f_X12_beside_9 x1 x2 x3 x4 x5 x6 x7 s0 I J = some t) (hC : (c_X12_beside Q) t) : Rn L xs (d + 8) 271 60 [some (.ref 61), some (.int x1), some (.int x2), some (.int x3), some (.int x4), some (.int x5), some (.int x6), some (.int x7), none, none, none, none, none, none] [.int s0] 94 (I, J, xrf) Q := by
  unfold f_X12_beside_9 at h
  refine Rn.fi 1 (c := s0 = 0) (p1 := 63) (l1 := [some (.ref 61), some (.int x1), some (.int x2), some (.int x3), some (.int x4), some (.int x5), some (.int x6), some (.int x7), none, none, none, none, none, none]) (s1 := []) (n1 := 94) (M1 := (I, J, xrf)) (p2 := 65) (l2 := [some (.ref 61), some (.int x1), some (.int x2), some (.int x3), some (.int x4), some (.int x5), some (.int x6), some (.int x7), none, none, none, none, none, none]) (s2 := []) (n2 := 94) (M2 := (I, J, xrf)) (fun f => rfl) (fun hc => ?_) (fun hc => ?_)
  · rw [if_pos hc] at h
    exact p_X12_beside_10 x1 x2 x3 x4 x5 x6 x7 I J h hC
  · rw [if_neg hc] at h
    exact p_X12_beside_11 x1 x2 x3 x4 x5 x6 x7 I J h hC
theorem p_X12_beside_8 {L : Nat} {xs : Nat → Int32} {d : Nat} {Q : xO → Prop} (x1 : Int32) (x2 : Int32) (x3 : Int32) (x4 : Int32) (x5 : Int32) (x6 : Int32) (x7 : Int32) (I : xI) (J : xJ) {t : Int32 × xI × xJ} (h : f_X12_beside_8 x1 x2 x3 x4 x5 x6 x7 I J = some t) (hC : (c_X12_beside Q) t) : Rn L xs (d + 8) 271 52 [some (.ref 61), some (.int x1), some (.int x2), some (.int x3), some (.int x4), some (.int x5), some (.int x6), some (.int x7), none, none, none, none, none, none] [] 94 (I, J, xrf) Q := by
  unfold f_X12_beside_8 at h
  refine Rn.go 3 (j' := 271) (pc' := 57) (ls' := [some (.ref 61), some (.int x1), some (.int x2), some (.int x3), some (.int x4), some (.int x5), some (.int x6), some (.int x7), none, none, none, none, none, none]) (st' := [.int x5, .int x4, .ref 61]) (n' := 94) (M' := (I, J, xrf)) (fun f => rfl) ?_
  obtain ⟨o, ho, h⟩ := Option.bind_eq_some_iff.mp h
  refine Rn.call (d1 := d + 7) (j1 := 230) (ls1 := [some (.ref 61), some (.int x4), some (.int x5), none]) (rest := []) (fun f => rfl) ?_
  refine p_X12_isWord (d := d + 5) x4 x5 I J (t := o) ho ?_
  exact p_X12_beside_9 x1 x2 x3 x4 x5 x6 x7 o.1 o.2.1 o.2.2 h hC
theorem p_X12_beside_7 {L : Nat} {xs : Nat → Int32} {d : Nat} {Q : xO → Prop} (x1 : Int32) (x2 : Int32) (x3 : Int32) (x4 : Int32) (x5 : Int32) (x6 : Int32) (x7 : Int32) (s0 : Int32) (I : xI) (J : xJ) {t : Int32 × xI × xJ} (h : f_X12_beside_7 x1 x2 x3 x4 x5 x6 x7 s0 I J = some t) (hC : (c_X12_beside Q) t) : Rn L xs (d + 8) 271 49 [some (.ref 61), some (.int x1), some (.int x2), some (.int x3), some (.int x4), some (.int x5), some (.int x6), some (.int x7), none, none, none, none, none, none] [.int s0] 94 (I, J, xrf) Q := by
  unfold f_X12_beside_7 at h
  refine Rn.fi 1 (c := s0 = 0) (p1 := 63) (l1 := [some (.ref 61), some (.int x1), some (.int x2), some (.int x3), some (.int x4), some (.int x5), some (.int x6), some (.int x7), none, none, none, none, none, none]) (s1 := []) (n1 := 94) (M1 := (I, J, xrf)) (p2 := 52) (l2 := [some (.ref 61), some (.int x1), some (.int x2), some (.int x3), some (.int x4), some (.int x5), some (.int x6), some (.int x7), none, none, none, none, none, none]) (s2 := []) (n2 := 94) (M2 := (I, J, xrf)) (fun f => rfl) (fun hc => ?_) (fun hc => ?_)
  · rw [if_pos hc] at h
    exact p_X12_beside_10 x1 x2 x3 x4 x5 x6 x7 I J h hC
  · rw [if_neg hc] at h
    exact p_X12_beside_8 x1 x2 x3 x4 x5 x6 x7 I J h hC
theorem p_X12_beside_6 {L : Nat} {xs : Nat → Int32} {d : Nat} {Q : xO → Prop} (x1 : Int32) (x2 : Int32) (x3 : Int32) (x4 : Int32) (x5 : Int32) (x6 : Int32) (x7 : Int32) (I : xI) (J : xJ) {t : Int32 × xI × xJ} (h : f_X12_beside_6 x1 x2 x3 x4 x5 x6 x7 I J = some t) (hC : (c_X12_beside Q) t) : Rn L xs (d + 8) 271 44 [some (.ref 61), some (.int x1), some (.int x2), some (.int x3), some (.int x4), some (.int x5), some (.int x6), some (.int x7), none, none, none, none, none, none] [] 94 (I, J, xrf) Q := by
  unfold f_X12_beside_6 at h
  refine Rn.go 2 (j' := 271) (pc' := 46) (ls' := [some (.ref 61), some (.int x1), some (.int x2), some (.int x3), some (.int x4), some (.int x5), some (.int x6), some (.int x7), none, none, none, none, none, none]) (st' := [.int x3, .ref 61]) (n' := 94) (M' := (I, J, xrf)) (fun f => rfl) ?_
  obtain ⟨o, ho, h⟩ := Option.bind_eq_some_iff.mp h
  refine Rn.call (d1 := d + 7) (j1 := 207) (ls1 := [some (.ref 61), some (.int x3)]) (rest := []) (fun f => rfl) ?_
  refine p_X12_isState (d := d + 5) x3 I J (t := o) ho ?_
  exact p_X12_beside_7 x1 x2 x3 x4 x5 x6 x7 o.1 o.2.1 o.2.2 h hC
theorem p_X12_beside_5 {L : Nat} {xs : Nat → Int32} {d : Nat} {Q : xO → Prop} (x1 : Int32) (x2 : Int32) (x3 : Int32) (x4 : Int32) (x5 : Int32) (x6 : Int32) (x7 : Int32) (I : xI) (J : xJ) {t : Int32 × xI × xJ} (h : f_X12_beside_5 x1 x2 x3 x4 x5 x6 x7 I J = some t) (hC : (c_X12_beside Q) t) : Rn L xs (d + 8) 271 34 [some (.ref 61), some (.int x1), some (.int x2), some (.int x3), some (.int x4), some (.int x5), some (.int x6), some (.int x7), none, none, none, none, none, none] [] 94 (I, J, xrf) Q := by
  unfold f_X12_beside_5 at h
  obtain ⟨hc, h⟩ := xif h
  refine Rn.ok 4 (c := x7 < 0 ∨ 203 ≤ x7.toNatClampNeg) (p1 := 41) (l1 := [some (.ref 61), some (.int x1), some (.int x2), some (.int x3), some (.int x4), some (.int x5), some (.int x6), some (.int x7), none, none, none, none, none, none]) (s1 := [.int ((I 84 x7.toNatClampNeg))]) (n1 := 94) (M1 := (I, J, xrf)) (fun f => rfl) hc ?_
  refine Rn.fi 1 (c := (I 84 x7.toNatClampNeg) = 0) (p1 := 63) (l1 := [some (.ref 61), some (.int x1), some (.int x2), some (.int x3), some (.int x4), some (.int x5), some (.int x6), some (.int x7), none, none, none, none, none, none]) (s1 := []) (n1 := 94) (M1 := (I, J, xrf)) (p2 := 44) (l2 := [some (.ref 61), some (.int x1), some (.int x2), some (.int x3), some (.int x4), some (.int x5), some (.int x6), some (.int x7), none, none, none, none, none, none]) (s2 := []) (n2 := 94) (M2 := (I, J, xrf)) (fun f => rfl) (fun hc => ?_) (fun hc => ?_)
  · rw [if_pos hc] at h
    exact p_X12_beside_10 x1 x2 x3 x4 x5 x6 x7 I J h hC
  · rw [if_neg hc] at h
    exact p_X12_beside_6 x1 x2 x3 x4 x5 x6 x7 I J h hC
theorem p_X12_beside_4 {L : Nat} {xs : Nat → Int32} {d : Nat} {Q : xO → Prop} (x1 : Int32) (x2 : Int32) (x3 : Int32) (x4 : Int32) (x5 : Int32) (x6 : Int32) (x7 : Int32) (I : xI) (J : xJ) {t : Int32 × xI × xJ} (h : f_X12_beside_4 x1 x2 x3 x4 x5 x6 x7 I J = some t) (hC : (c_X12_beside Q) t) : Rn L xs (d + 8) 271 24 [some (.ref 61), some (.int x1), some (.int x2), some (.int x3), some (.int x4), some (.int x5), some (.int x6), some (.int x7), none, none, none, none, none, none] [] 94 (I, J, xrf) Q := by
  unfold f_X12_beside_4 at h
  obtain ⟨hc, h⟩ := xif h
  refine Rn.ok 4 (c := x6 < 0 ∨ 203 ≤ x6.toNatClampNeg) (p1 := 31) (l1 := [some (.ref 61), some (.int x1), some (.int x2), some (.int x3), some (.int x4), some (.int x5), some (.int x6), some (.int x7), none, none, none, none, none, none]) (s1 := [.int ((I 84 x6.toNatClampNeg))]) (n1 := 94) (M1 := (I, J, xrf)) (fun f => rfl) hc ?_
  refine Rn.fi 1 (c := (I 84 x6.toNatClampNeg) = 0) (p1 := 63) (l1 := [some (.ref 61), some (.int x1), some (.int x2), some (.int x3), some (.int x4), some (.int x5), some (.int x6), some (.int x7), none, none, none, none, none, none]) (s1 := []) (n1 := 94) (M1 := (I, J, xrf)) (p2 := 34) (l2 := [some (.ref 61), some (.int x1), some (.int x2), some (.int x3), some (.int x4), some (.int x5), some (.int x6), some (.int x7), none, none, none, none, none, none]) (s2 := []) (n2 := 94) (M2 := (I, J, xrf)) (fun f => rfl) (fun hc => ?_) (fun hc => ?_)
  · rw [if_pos hc] at h
    exact p_X12_beside_10 x1 x2 x3 x4 x5 x6 x7 I J h hC
  · rw [if_neg hc] at h
    exact p_X12_beside_5 x1 x2 x3 x4 x5 x6 x7 I J h hC
theorem p_X12_beside_3 {L : Nat} {xs : Nat → Int32} {d : Nat} {Q : xO → Prop} (x1 : Int32) (x2 : Int32) (x3 : Int32) (x4 : Int32) (x5 : Int32) (x6 : Int32) (x7 : Int32) (I : xI) (J : xJ) {t : Int32 × xI × xJ} (h : f_X12_beside_3 x1 x2 x3 x4 x5 x6 x7 I J = some t) (hC : (c_X12_beside Q) t) : Rn L xs (d + 8) 271 19 [some (.ref 61), some (.int x1), some (.int x2), some (.int x3), some (.int x4), some (.int x5), some (.int x6), some (.int x7), none, none, none, none, none, none] [] 94 (I, J, xrf) Q := by
  unfold f_X12_beside_3 at h
  refine Rn.fi 2 (c := x7 < 0) (p1 := 63) (l1 := [some (.ref 61), some (.int x1), some (.int x2), some (.int x3), some (.int x4), some (.int x5), some (.int x6), some (.int x7), none, none, none, none, none, none]) (s1 := []) (n1 := 94) (M1 := (I, J, xrf)) (p2 := 24) (l2 := [some (.ref 61), some (.int x1), some (.int x2), some (.int x3), some (.int x4), some (.int x5), some (.int x6), some (.int x7), none, none, none, none, none, none]) (s2 := []) (n2 := 94) (M2 := (I, J, xrf)) (fun f => rfl) (fun hc => ?_) (fun hc => ?_)
  · rw [if_pos hc] at h
    exact p_X12_beside_10 x1 x2 x3 x4 x5 x6 x7 I J h hC
  · rw [if_neg hc] at h
    exact p_X12_beside_4 x1 x2 x3 x4 x5 x6 x7 I J h hC
theorem p_X12_beside_2 {L : Nat} {xs : Nat → Int32} {d : Nat} {Q : xO → Prop} (x1 : Int32) (x2 : Int32) (x3 : Int32) (x4 : Int32) (x5 : Int32) (x6 : Int32) (s0 : Int32) (I : xI) (J : xJ) {t : Int32 × xI × xJ} (h : f_X12_beside_2 x1 x2 x3 x4 x5 x6 s0 I J = some t) (hC : (c_X12_beside Q) t) : Rn L xs (d + 8) 271 12 [some (.ref 61), some (.int x1), some (.int x2), some (.int x3), some (.int x4), some (.int x5), some (.int x6), none, none, none, none, none, none, none] [.int s0] 94 (I, J, xrf) Q := by
  unfold f_X12_beside_2 at h
  refine Rn.fi 3 (c := x6 < 0) (p1 := 63) (l1 := [some (.ref 61), some (.int x1), some (.int x2), some (.int x3), some (.int x4), some (.int x5), some (.int x6), some (.int s0), none, none, none, none, none, none]) (s1 := []) (n1 := 94) (M1 := (I, J, xrf)) (p2 := 19) (l2 := [some (.ref 61), some (.int x1), some (.int x2), some (.int x3), some (.int x4), some (.int x5), some (.int x6), some (.int s0), none, none, none, none, none, none]) (s2 := []) (n2 := 94) (M2 := (I, J, xrf)) (fun f => rfl) (fun hc => ?_) (fun hc => ?_)
  · rw [if_pos hc] at h
    exact p_X12_beside_10 x1 x2 x3 x4 x5 x6 s0 I J h hC
  · rw [if_neg hc] at h
    exact p_X12_beside_3 x1 x2 x3 x4 x5 x6 s0 I J h hC
theorem p_X12_beside_1 {L : Nat} {xs : Nat → Int32} {d : Nat} {Q : xO → Prop} (x1 : Int32) (x2 : Int32) (x3 : Int32) (x4 : Int32) (x5 : Int32) (s0 : Int32) (I : xI) (J : xJ) {t : Int32 × xI × xJ} (h : f_X12_beside_1 x1 x2 x3 x4 x5 s0 I J = some t) (hC : (c_X12_beside Q) t) : Rn L xs (d + 8) 271 5 [some (.ref 61), some (.int x1), some (.int x2), some (.int x3), some (.int x4), some (.int x5), none, none, none, none, none, none, none, none] [.int s0] 94 (I, J, xrf) Q := by
  unfold f_X12_beside_1 at h
  refine Rn.go 3 (j' := 271) (pc' := 9) (ls' := [some (.ref 61), some (.int x1), some (.int x2), some (.int x3), some (.int x4), some (.int x5), some (.int s0), none, none, none, none, none, none, none]) (st' := [.int x2, .ref 61]) (n' := 94) (M' := (I, J, xrf)) (fun f => rfl) ?_
  obtain ⟨o, ho, h⟩ := Option.bind_eq_some_iff.mp h
  refine Rn.call (d1 := d + 7) (j1 := 259) (ls1 := [some (.ref 61), some (.int x2), none]) (rest := []) (fun f => rfl) ?_
  refine p_X12_placeOf (d := d + 0) x2 I J (t := o) ho ?_
  exact p_X12_beside_2 x1 x2 x3 x4 x5 s0 o.1 o.2.1 o.2.2 h hC
theorem p_X12_beside_0 {L : Nat} {xs : Nat → Int32} {d : Nat} {Q : xO → Prop} (x1 : Int32) (x2 : Int32) (x3 : Int32) (x4 : Int32) (x5 : Int32) (I : xI) (J : xJ) {t : Int32 × xI × xJ} (h : f_X12_beside_0 x1 x2 x3 x4 x5 I J = some t) (hC : (c_X12_beside Q) t) : Rn L xs (d + 8) 271 0 [some (.ref 61), some (.int x1), some (.int x2), some (.int x3), some (.int x4), some (.int x5), none, none, none, none, none, none, none, none] [] 94 (I, J, xrf) Q := by
  unfold f_X12_beside_0 at h
  refine Rn.go 2 (j' := 271) (pc' := 2) (ls' := [some (.ref 61), some (.int x1), some (.int x2), some (.int x3), some (.int x4), some (.int x5), none, none, none, none, none, none, none, none]) (st' := [.int x1, .ref 61]) (n' := 94) (M' := (I, J, xrf)) (fun f => rfl) ?_
  obtain ⟨o, ho, h⟩ := Option.bind_eq_some_iff.mp h
  refine Rn.call (d1 := d + 7) (j1 := 259) (ls1 := [some (.ref 61), some (.int x1), none]) (rest := []) (fun f => rfl) ?_
  refine p_X12_placeOf (d := d + 0) x1 I J (t := o) ho ?_
  exact p_X12_beside_1 x1 x2 x3 x4 x5 o.1 o.2.1 o.2.2 h hC
theorem p_X12_beside {L : Nat} {xs : Nat → Int32} {d : Nat} {Q : xO → Prop} (x1 : Int32) (x2 : Int32) (x3 : Int32) (x4 : Int32) (x5 : Int32) (I : xI) (J : xJ) {t : Int32 × xI × xJ} (h : f_X12_beside x1 x2 x3 x4 x5 I J = some t) (hC : Q ((some (.int t.1)), 94, (t.2.1, t.2.2, xrf))) : Rn L xs (d + 8) 271 0 [some (.ref 61), some (.int x1), some (.int x2), some (.int x3), some (.int x4), some (.int x5), none, none, none, none, none, none, none, none] [] 94 (I, J, xrf) Q := p_X12_beside_0 x1 x2 x3 x4 x5 I J h hC
/-! X12_bits -/
def c_X12_bits (Q : xO → Prop) (t : Int32 × xI × xJ) : Prop := Q ((some (.int t.1)), 94, (t.2.1, t.2.2, xrf))
def f_X12_bits_7 (s0 : Int32) (I : xI) (J : xJ) : Option (Int32 × xI × xJ) := some (s0, I, J)
def f_X12_bits_6 (I : xI) (J : xJ) : Option (Int32 × xI × xJ) := f_X12_bits_7 3 I J
def f_X12_bits_5 (I : xI) (J : xJ) : Option (Int32 × xI × xJ) := f_X12_bits_7 2 I J
def f_X12_bits_4 (I : xI) (J : xJ) : Option (Int32 × xI × xJ) := if 5 ≤ (I 61 17) then f_X12_bits_6 I J else f_X12_bits_5 I J
def f_X12_bits_3 (I : xI) (J : xJ) : Option (Int32 × xI × xJ) := f_X12_bits_7 1 I J
def f_X12_bits_2 (I : xI) (J : xJ) : Option (Int32 × xI × xJ) := if (I 61 17) = 2 then f_X12_bits_3 I J else f_X12_bits_4 I J
def f_X12_bits_1 (I : xI) (J : xJ) : Option (Int32 × xI × xJ) := f_X12_bits_7 0 I J
def f_X12_bits_0 (I : xI) (J : xJ) : Option (Int32 × xI × xJ) := if 2 ≤ (I 61 17) then f_X12_bits_2 I J else f_X12_bits_1 I J
def f_X12_bits (I : xI) (J : xJ) : Option (Int32 × xI × xJ) := f_X12_bits_0 I J
theorem p_X12_bits_7 {L : Nat} {xs : Nat → Int32} {d : Nat} {Q : xO → Prop} (s0 : Int32) (I : xI) (J : xJ) {t : Int32 × xI × xJ} (h : f_X12_bits_7 s0 I J = some t) (hC : (c_X12_bits Q) t) : Rn L xs (d + 1) 272 37 [some (.ref 61)] [.int s0] 94 (I, J, xrf) Q := by
  unfold f_X12_bits_7 at h
  cases h
  exact Rn.ret 1 (o := ((some (.int s0)), 94, (I, J, xrf))) (fun f => rfl) hC
theorem p_X12_bits_6 {L : Nat} {xs : Nat → Int32} {d : Nat} {Q : xO → Prop} (I : xI) (J : xJ) {t : Int32 × xI × xJ} (h : f_X12_bits_6 I J = some t) (hC : (c_X12_bits Q) t) : Rn L xs (d + 1) 272 36 [some (.ref 61)] [] 94 (I, J, xrf) Q := by
  unfold f_X12_bits_6 at h
  refine Rn.go 1 (j' := 272) (pc' := 37) (ls' := [some (.ref 61)]) (st' := [.int 3]) (n' := 94) (M' := (I, J, xrf)) (fun f => rfl) ?_
  exact p_X12_bits_7 3 I J h hC
theorem p_X12_bits_5 {L : Nat} {xs : Nat → Int32} {d : Nat} {Q : xO → Prop} (I : xI) (J : xJ) {t : Int32 × xI × xJ} (h : f_X12_bits_5 I J = some t) (hC : (c_X12_bits Q) t) : Rn L xs (d + 1) 272 32 [some (.ref 61)] [] 94 (I, J, xrf) Q := by
  unfold f_X12_bits_5 at h
  refine Rn.go 2 (j' := 272) (pc' := 37) (ls' := [some (.ref 61)]) (st' := [.int 2]) (n' := 94) (M' := (I, J, xrf)) (fun f => rfl) ?_
  exact p_X12_bits_7 2 I J h hC
theorem p_X12_bits_4 {L : Nat} {xs : Nat → Int32} {d : Nat} {Q : xO → Prop} (I : xI) (J : xJ) {t : Int32 × xI × xJ} (h : f_X12_bits_4 I J = some t) (hC : (c_X12_bits Q) t) : Rn L xs (d + 1) 272 24 [some (.ref 61)] [] 94 (I, J, xrf) Q := by
  unfold f_X12_bits_4 at h
  refine Rn.fi 4 (c := 5 ≤ (I 61 17)) (p1 := 36) (l1 := [some (.ref 61)]) (s1 := []) (n1 := 94) (M1 := (I, J, xrf)) (p2 := 32) (l2 := [some (.ref 61)]) (s2 := []) (n2 := 94) (M2 := (I, J, xrf)) (fun f => rfl) (fun hc => ?_) (fun hc => ?_)
  · rw [if_pos hc] at h
    exact p_X12_bits_6 I J h hC
  · rw [if_neg hc] at h
    exact p_X12_bits_5 I J h hC
theorem p_X12_bits_3 {L : Nat} {xs : Nat → Int32} {d : Nat} {Q : xO → Prop} (I : xI) (J : xJ) {t : Int32 × xI × xJ} (h : f_X12_bits_3 I J = some t) (hC : (c_X12_bits Q) t) : Rn L xs (d + 1) 272 20 [some (.ref 61)] [] 94 (I, J, xrf) Q := by
  unfold f_X12_bits_3 at h
  refine Rn.go 2 (j' := 272) (pc' := 37) (ls' := [some (.ref 61)]) (st' := [.int 1]) (n' := 94) (M' := (I, J, xrf)) (fun f => rfl) ?_
  exact p_X12_bits_7 1 I J h hC
theorem p_X12_bits_2 {L : Nat} {xs : Nat → Int32} {d : Nat} {Q : xO → Prop} (I : xI) (J : xJ) {t : Int32 × xI × xJ} (h : f_X12_bits_2 I J = some t) (hC : (c_X12_bits Q) t) : Rn L xs (d + 1) 272 12 [some (.ref 61)] [] 94 (I, J, xrf) Q := by
  unfold f_X12_bits_2 at h
  refine Rn.fi 4 (c := (I 61 17) = 2) (p1 := 20) (l1 := [some (.ref 61)]) (s1 := []) (n1 := 94) (M1 := (I, J, xrf)) (p2 := 24) (l2 := [some (.ref 61)]) (s2 := []) (n2 := 94) (M2 := (I, J, xrf)) (fun f => rfl) (fun hc => ?_) (fun hc => ?_)
  · rw [if_pos hc] at h
    exact p_X12_bits_3 I J h hC
  · rw [if_neg hc] at h
    exact p_X12_bits_4 I J h hC
theorem p_X12_bits_1 {L : Nat} {xs : Nat → Int32} {d : Nat} {Q : xO → Prop} (I : xI) (J : xJ) {t : Int32 × xI × xJ} (h : f_X12_bits_1 I J = some t) (hC : (c_X12_bits Q) t) : Rn L xs (d + 1) 272 8 [some (.ref 61)] [] 94 (I, J, xrf) Q := by
  unfold f_X12_bits_1 at h
  refine Rn.go 2 (j' := 272) (pc' := 37) (ls' := [some (.ref 61)]) (st' := [.int 0]) (n' := 94) (M' := (I, J, xrf)) (fun f => rfl) ?_
  exact p_X12_bits_7 0 I J h hC
theorem p_X12_bits_0 {L : Nat} {xs : Nat → Int32} {d : Nat} {Q : xO → Prop} (I : xI) (J : xJ) {t : Int32 × xI × xJ} (h : f_X12_bits_0 I J = some t) (hC : (c_X12_bits Q) t) : Rn L xs (d + 1) 272 0 [some (.ref 61)] [] 94 (I, J, xrf) Q := by
  unfold f_X12_bits_0 at h
  refine Rn.fi 4 (c := 2 ≤ (I 61 17)) (p1 := 12) (l1 := [some (.ref 61)]) (s1 := []) (n1 := 94) (M1 := (I, J, xrf)) (p2 := 8) (l2 := [some (.ref 61)]) (s2 := []) (n2 := 94) (M2 := (I, J, xrf)) (fun f => rfl) (fun hc => ?_) (fun hc => ?_)
  · rw [if_pos hc] at h
    exact p_X12_bits_2 I J h hC
  · rw [if_neg hc] at h
    exact p_X12_bits_1 I J h hC
theorem p_X12_bits {L : Nat} {xs : Nat → Int32} {d : Nat} {Q : xO → Prop} (I : xI) (J : xJ) {t : Int32 × xI × xJ} (h : f_X12_bits I J = some t) (hC : Q ((some (.int t.1)), 94, (t.2.1, t.2.2, xrf))) : Rn L xs (d + 1) 272 0 [some (.ref 61)] [] 94 (I, J, xrf) Q := p_X12_bits_0 I J h hC
/-! X12_asTheyAre -/
def c_X12_asTheyAre (Q : xO → Prop) (t : Unit × xI × xJ) : Prop := Q (none, 94, (t.2.1, t.2.2, xrf))
def c_X12_asTheyAre_1 (L : Nat) (xs : Nat → Int32) (d : Nat) (Q : xO → Prop) (t : (Int32 × xI × xJ) ⊕ (Unit × xI × xJ)) : Prop := match t with
  | .inl s => Rn L xs (d + 2) 273 2 [some (.ref 61), some (.int s.1)] [] 94 (s.2.1, s.2.2, xrf) Q
  | .inr t => (c_X12_asTheyAre Q) t
def f_X12_asTheyAre_4 (x1 : Int32) (I : xI) (J : xJ) : Option (Unit × xI × xJ) := some ((), I, J)
def f_X12_asTheyAre_3 (x1 : Int32) (s1 : Int32) (s2 : Int32) (I : xI) (J : xJ) : Option ((Int32 × xI × xJ) ⊕ (Unit × xI × xJ)) := if s1 < 0 ∨ 6 ≤ s1.toNatClampNeg then none else some (.inl (((x1 + 1)), ((xup I 86 s1.toNatClampNeg s2)), J))
def f_X12_asTheyAre_2 (x1 : Int32) (I : xI) (J : xJ) : Option ((Int32 × xI × xJ) ⊕ (Unit × xI × xJ)) := (f_X12_codeOf x1 I J).bind fun o => f_X12_asTheyAre_3 x1 x1 o.1 o.2.1 o.2.2
def b_X12_asTheyAre_1 (x1 : Int32) (I : xI) (J : xJ) : Option ((Int32 × xI × xJ) ⊕ (Unit × xI × xJ)) := if 6 ≤ x1 then ((f_X12_asTheyAre_4 x1 I J)).map .inr else f_X12_asTheyAre_2 x1 I J
def f_X12_asTheyAre_1 (x1 : Int32) (I : xI) (J : xJ) : Option (Unit × xI × xJ) := xloop (fun s : Int32 × xI × xJ => b_X12_asTheyAre_1 s.1 s.2.1 s.2.2) 5000 (x1, I, J)
def f_X12_asTheyAre_0 (I : xI) (J : xJ) : Option (Unit × xI × xJ) := f_X12_asTheyAre_1 0 I J
def f_X12_asTheyAre (I : xI) (J : xJ) : Option (Unit × xI × xJ) := f_X12_asTheyAre_0 I J
theorem p_X12_asTheyAre_4 {L : Nat} {xs : Nat → Int32} {d : Nat} {Q : xO → Prop} (x1 : Int32) (I : xI) (J : xJ) {t : Unit × xI × xJ} (h : f_X12_asTheyAre_4 x1 I J = some t) (hC : (c_X12_asTheyAre Q) t) : Rn L xs (d + 2) 273 25 [some (.ref 61), some (.int x1)] [] 94 (I, J, xrf) Q := by
  unfold f_X12_asTheyAre_4 at h
  cases h
  exact Rn.ret 1 (o := (none, 94, (I, J, xrf))) (fun f => rfl) hC
theorem p_X12_asTheyAre_3 {L : Nat} {xs : Nat → Int32} {d : Nat} {Q : xO → Prop} (x1 : Int32) (s1 : Int32) (s2 : Int32) (I : xI) (J : xJ) {t : (Int32 × xI × xJ) ⊕ (Unit × xI × xJ)} (h : f_X12_asTheyAre_3 x1 s1 s2 I J = some t) (hC : (c_X12_asTheyAre_1 L xs d Q) t) : Rn L xs (d + 2) 273 18 [some (.ref 61), some (.int x1)] [.int s2, .int s1, .ref 86] 94 (I, J, xrf) Q := by
  unfold f_X12_asTheyAre_3 at h
  obtain ⟨hc, h⟩ := xif h
  refine Rn.ok 1 (c := s1 < 0 ∨ 6 ≤ s1.toNatClampNeg) (p1 := 19) (l1 := [some (.ref 61), some (.int x1)]) (s1 := []) (n1 := 94) (M1 := ((xup I 86 s1.toNatClampNeg s2), J, xrf)) (fun f => rfl) hc ?_
  refine Rn.go 2 (j' := 273) (pc' := 2) (ls' := [some (.ref 61), some (.int ((x1 + 1)))]) (st' := []) (n' := 94) (M' := ((xup I 86 s1.toNatClampNeg s2), J, xrf)) (fun f => rfl) ?_
  cases h; exact hC
theorem p_X12_asTheyAre_2 {L : Nat} {xs : Nat → Int32} {d : Nat} {Q : xO → Prop} (x1 : Int32) (I : xI) (J : xJ) {t : (Int32 × xI × xJ) ⊕ (Unit × xI × xJ)} (h : f_X12_asTheyAre_2 x1 I J = some t) (hC : (c_X12_asTheyAre_1 L xs d Q) t) : Rn L xs (d + 2) 273 8 [some (.ref 61), some (.int x1)] [] 94 (I, J, xrf) Q := by
  unfold f_X12_asTheyAre_2 at h
  refine Rn.go 5 (j' := 273) (pc' := 15) (ls' := [some (.ref 61), some (.int x1)]) (st' := [.int x1, .ref 61, .int x1, .ref 86]) (n' := 94) (M' := (I, J, xrf)) (fun f => rfl) ?_
  obtain ⟨o, ho, h⟩ := Option.bind_eq_some_iff.mp h
  refine Rn.call (d1 := d + 1) (j1 := 212) (ls1 := [some (.ref 61), some (.int x1)]) (rest := [.int x1, .ref 86]) (fun f => rfl) ?_
  refine p_X12_codeOf (d := d + 0) x1 I J (t := o) ho ?_
  exact p_X12_asTheyAre_3 x1 x1 o.1 o.2.1 o.2.2 h hC
theorem q_X12_asTheyAre_1 {L : Nat} {xs : Nat → Int32} {d : Nat} {Q : xO → Prop} (x1 : Int32) (I : xI) (J : xJ) {t : (Int32 × xI × xJ) ⊕ (Unit × xI × xJ)} (h : b_X12_asTheyAre_1 x1 I J = some t) (hC : (c_X12_asTheyAre_1 L xs d Q) t) : Rn L xs (d + 2) 273 2 [some (.ref 61), some (.int x1)] [] 94 (I, J, xrf) Q := by
  unfold b_X12_asTheyAre_1 at h
  refine Rn.fi 3 (c := 6 ≤ x1) (p1 := 25) (l1 := [some (.ref 61), some (.int x1)]) (s1 := []) (n1 := 94) (M1 := (I, J, xrf)) (p2 := 8) (l2 := [some (.ref 61), some (.int x1)]) (s2 := []) (n2 := 94) (M2 := (I, J, xrf)) (fun f => rfl) (fun hc => ?_) (fun hc => ?_)
  · rw [if_pos hc] at h
    obtain ⟨t0, h0, rfl⟩ := Option.map_eq_some_iff.mp h
    exact p_X12_asTheyAre_4 x1 I J h0 hC
  · rw [if_neg hc] at h
    exact p_X12_asTheyAre_2 x1 I J h hC
theorem p_X12_asTheyAre_1 {L : Nat} {xs : Nat → Int32} {d : Nat} {Q : xO → Prop} (x1 : Int32) (I : xI) (J : xJ) {t : Unit × xI × xJ} (h : f_X12_asTheyAre_1 x1 I J = some t) (hC : (c_X12_asTheyAre Q) t) : Rn L xs (d + 2) 273 2 [some (.ref 61), some (.int x1)] [] 94 (I, J, xrf) Q := by
  unfold f_X12_asTheyAre_1 at h
  exact xloop_some (P := fun s : Int32 × xI × xJ => Rn L xs (d + 2) 273 2 [some (.ref 61), some (.int s.1)] [] 94 (s.2.1, s.2.2, xrf) Q) t (fun s ⟨s', hb, hp⟩ => q_X12_asTheyAre_1 s.1 s.2.1 s.2.2 hb hp) (fun s hb => q_X12_asTheyAre_1 s.1 s.2.1 s.2.2 hb hC) _ _ h
theorem p_X12_asTheyAre_0 {L : Nat} {xs : Nat → Int32} {d : Nat} {Q : xO → Prop} (I : xI) (J : xJ) {t : Unit × xI × xJ} (h : f_X12_asTheyAre_0 I J = some t) (hC : (c_X12_asTheyAre Q) t) : Rn L xs (d + 2) 273 0 [some (.ref 61), none] [] 94 (I, J, xrf) Q := by
  unfold f_X12_asTheyAre_0 at h
  refine Rn.go 2 (j' := 273) (pc' := 2) (ls' := [some (.ref 61), some (.int 0)]) (st' := []) (n' := 94) (M' := (I, J, xrf)) (fun f => rfl) ?_
  exact p_X12_asTheyAre_1 0 I J h hC
theorem p_X12_asTheyAre {L : Nat} {xs : Nat → Int32} {d : Nat} {Q : xO → Prop} (I : xI) (J : xJ) {t : Unit × xI × xJ} (h : f_X12_asTheyAre I J = some t) (hC : Q (none, 94, (t.2.1, t.2.2, xrf))) : Rn L xs (d + 2) 273 0 [some (.ref 61), none] [] 94 (I, J, xrf) Q := p_X12_asTheyAre_0 I J h hC
/-! X12_bitsOf -/
def c_X12_bitsOf (Q : xO → Prop) (t : Int32 × xI × xJ) : Prop := Q ((some (.int t.1)), 94, (t.2.1, t.2.2, xrf))
def c_X12_bitsOf_1 (L : Nat) (xs : Nat → Int32) (d : Nat) (Q : xO → Prop) (t : (Int32 × Int32 × Int32 × xI × xJ) ⊕ (Int32 × xI × xJ)) : Prop := match t with
  | .inl s => Rn L xs (d + 1) 213 4 [some (.int s.1), some (.int s.2.1), some (.int s.2.2.1)] [] 94 (s.2.2.2.1, s.2.2.2.2, xrf) Q
  | .inr t => (c_X12_bitsOf Q) t
def f_X12_bitsOf_3 (x0 : Int32) (x1 : Int32) (x2 : Int32) (I : xI) (J : xJ) : Option (Int32 × xI × xJ) := some (x1, I, J)
def f_X12_bitsOf_2 (x0 : Int32) (x1 : Int32) (x2 : Int32) (I : xI) (J : xJ) : Option ((Int32 × Int32 × Int32 × xI × xJ) ⊕ (Int32 × xI × xJ)) := some (.inl (x0, ((x1 + (x2 &&& 1))), ((x2 >>> (1 &&& 31))), I, J))
def b_X12_bitsOf_1 (x0 : Int32) (x1 : Int32) (x2 : Int32) (I : xI) (J : xJ) : Option ((Int32 × Int32 × Int32 × xI × xJ) ⊕ (Int32 × xI × xJ)) := if x2 ≤ 0 then ((f_X12_bitsOf_3 x0 x1 x2 I J)).map .inr else f_X12_bitsOf_2 x0 x1 x2 I J
def f_X12_bitsOf_1 (x0 : Int32) (x1 : Int32) (x2 : Int32) (I : xI) (J : xJ) : Option (Int32 × xI × xJ) := xloop (fun s : Int32 × Int32 × Int32 × xI × xJ => b_X12_bitsOf_1 s.1 s.2.1 s.2.2.1 s.2.2.2.1 s.2.2.2.2) 5000 (x0, x1, x2, I, J)
def f_X12_bitsOf_0 (x0 : Int32) (I : xI) (J : xJ) : Option (Int32 × xI × xJ) := f_X12_bitsOf_1 x0 0 x0 I J
def f_X12_bitsOf (x0 : Int32) (I : xI) (J : xJ) : Option (Int32 × xI × xJ) := f_X12_bitsOf_0 x0 I J
theorem p_X12_bitsOf_3 {L : Nat} {xs : Nat → Int32} {d : Nat} {Q : xO → Prop} (x0 : Int32) (x1 : Int32) (x2 : Int32) (I : xI) (J : xJ) {t : Int32 × xI × xJ} (h : f_X12_bitsOf_3 x0 x1 x2 I J = some t) (hC : (c_X12_bitsOf Q) t) : Rn L xs (d + 1) 213 21 [some (.int x0), some (.int x1), some (.int x2)] [] 94 (I, J, xrf) Q := by
  unfold f_X12_bitsOf_3 at h
  cases h
  exact Rn.ret 2 (o := ((some (.int x1)), 94, (I, J, xrf))) (fun f => rfl) hC
theorem p_X12_bitsOf_2 {L : Nat} {xs : Nat → Int32} {d : Nat} {Q : xO → Prop} (x0 : Int32) (x1 : Int32) (x2 : Int32) (I : xI) (J : xJ) {t : (Int32 × Int32 × Int32 × xI × xJ) ⊕ (Int32 × xI × xJ)} (h : f_X12_bitsOf_2 x0 x1 x2 I J = some t) (hC : (c_X12_bitsOf_1 L xs d Q) t) : Rn L xs (d + 1) 213 8 [some (.int x0), some (.int x1), some (.int x2)] [] 94 (I, J, xrf) Q := by
  unfold f_X12_bitsOf_2 at h
  refine Rn.go 11 (j' := 213) (pc' := 4) (ls' := [some (.int x0), some (.int ((x1 + (x2 &&& 1)))), some (.int ((x2 >>> (1 &&& 31))))]) (st' := []) (n' := 94) (M' := (I, J, xrf)) (fun f => rfl) ?_
  cases h; exact hC
theorem q_X12_bitsOf_1 {L : Nat} {xs : Nat → Int32} {d : Nat} {Q : xO → Prop} (x0 : Int32) (x1 : Int32) (x2 : Int32) (I : xI) (J : xJ) {t : (Int32 × Int32 × Int32 × xI × xJ) ⊕ (Int32 × xI × xJ)} (h : b_X12_bitsOf_1 x0 x1 x2 I J = some t) (hC : (c_X12_bitsOf_1 L xs d Q) t) : Rn L xs (d + 1) 213 4 [some (.int x0), some (.int x1), some (.int x2)] [] 94 (I, J, xrf) Q := by
  unfold b_X12_bitsOf_1 at h
  refine Rn.fi 2 (c := x2 ≤ 0) (p1 := 21) (l1 := [some (.int x0), some (.int x1), some (.int x2)]) (s1 := []) (n1 := 94) (M1 := (I, J, xrf)) (p2 := 8) (l2 := [some (.int x0), some (.int x1), some (.int x2)]) (s2 := []) (n2 := 94) (M2 := (I, J, xrf)) (fun f => rfl) (fun hc => ?_) (fun hc => ?_)
  · rw [if_pos hc] at h
    obtain ⟨t0, h0, rfl⟩ := Option.map_eq_some_iff.mp h
    exact p_X12_bitsOf_3 x0 x1 x2 I J h0 hC
  · rw [if_neg hc] at h
    exact p_X12_bitsOf_2 x0 x1 x2 I J h hC
theorem p_X12_bitsOf_1 {L : Nat} {xs : Nat → Int32} {d : Nat} {Q : xO → Prop} (x0 : Int32) (x1 : Int32) (x2 : Int32) (I : xI) (J : xJ) {t : Int32 × xI × xJ} (h : f_X12_bitsOf_1 x0 x1 x2 I J = some t) (hC : (c_X12_bitsOf Q) t) : Rn L xs (d + 1) 213 4 [some (.int x0), some (.int x1), some (.int x2)] [] 94 (I, J, xrf) Q := by
  unfold f_X12_bitsOf_1 at h
  exact xloop_some (P := fun s : Int32 × Int32 × Int32 × xI × xJ => Rn L xs (d + 1) 213 4 [some (.int s.1), some (.int s.2.1), some (.int s.2.2.1)] [] 94 (s.2.2.2.1, s.2.2.2.2, xrf) Q) t (fun s ⟨s', hb, hp⟩ => q_X12_bitsOf_1 s.1 s.2.1 s.2.2.1 s.2.2.2.1 s.2.2.2.2 hb hp) (fun s hb => q_X12_bitsOf_1 s.1 s.2.1 s.2.2.1 s.2.2.2.1 s.2.2.2.2 hb hC) _ _ h
theorem p_X12_bitsOf_0 {L : Nat} {xs : Nat → Int32} {d : Nat} {Q : xO → Prop} (x0 : Int32) (I : xI) (J : xJ) {t : Int32 × xI × xJ} (h : f_X12_bitsOf_0 x0 I J = some t) (hC : (c_X12_bitsOf Q) t) : Rn L xs (d + 1) 213 0 [some (.int x0), none, none] [] 94 (I, J, xrf) Q := by
  unfold f_X12_bitsOf_0 at h
  refine Rn.go 4 (j' := 213) (pc' := 4) (ls' := [some (.int x0), some (.int 0), some (.int x0)]) (st' := []) (n' := 94) (M' := (I, J, xrf)) (fun f => rfl) ?_
  exact p_X12_bitsOf_1 x0 0 x0 I J h hC
theorem p_X12_bitsOf {L : Nat} {xs : Nat → Int32} {d : Nat} {Q : xO → Prop} (x0 : Int32) (I : xI) (J : xJ) {t : Int32 × xI × xJ} (h : f_X12_bitsOf x0 I J = some t) (hC : Q ((some (.int t.1)), 94, (t.2.1, t.2.2, xrf))) : Rn L xs (d + 1) 213 0 [some (.int x0), none, none] [] 94 (I, J, xrf) Q := p_X12_bitsOf_0 x0 I J h hC
