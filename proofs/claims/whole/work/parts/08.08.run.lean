/-! X12_line -/
def c_X12_line (Q : xO → Prop) (t : Unit × xI × xJ) : Prop := Q (none, 94, (t.2.1, t.2.2, xrf))
def f_X12_line_8 (x1 : Int32) (I : xI) (J : xJ) : Option (Unit × xI × xJ) := some ((), I, J)
def f_X12_line_7 (x1 : Int32) (I : xI) (J : xJ) : Option (Unit × xI × xJ) := (f_X12_fail 1 I J).bind fun o => f_X12_line_8 x1 o.2.1 o.2.2
def f_X12_line_31 (x1 : Int32) (I : xI) (J : xJ) : Option (Unit × xI × xJ) := some ((), I, J)
def f_X12_line_30 (x1 : Int32) (I : xI) (J : xJ) : Option (Unit × xI × xJ) := (f_X12_must 4 I J).bind fun o => f_X12_line_31 x1 o.2.1 o.2.2
def f_X12_line_29 (x1 : Int32) (I : xI) (J : xJ) : Option (Unit × xI × xJ) := (f_X12_either 2 23 I J).bind fun o => f_X12_line_30 x1 o.2.1 o.2.2
def f_X12_line_28 (x1 : Int32) (I : xI) (J : xJ) : Option (Unit × xI × xJ) := if x1 = 22 then f_X12_line_29 x1 I J else f_X12_line_30 x1 I J
def f_X12_line_27 (x1 : Int32) (I : xI) (J : xJ) : Option (Unit × xI × xJ) := (f_X12_either 1 23 I J).bind fun o => f_X12_line_28 x1 o.2.1 o.2.2
def f_X12_line_26 (x1 : Int32) (I : xI) (J : xJ) : Option (Unit × xI × xJ) := if x1 = 22 then f_X12_line_27 x1 I J else f_X12_line_28 x1 I J
def f_X12_line_25 (x1 : Int32) (I : xI) (J : xJ) : Option (Unit × xI × xJ) := (f_X12_must 2 I J).bind fun o => f_X12_line_26 x1 o.2.1 o.2.2
def f_X12_line_24 (x1 : Int32) (I : xI) (J : xJ) : Option (Unit × xI × xJ) := (f_X12_must 1 I J).bind fun o => f_X12_line_25 x1 o.2.1 o.2.2
def f_X12_line_23 (x1 : Int32) (I : xI) (J : xJ) : Option (Unit × xI × xJ) := f_X12_line_30 x1 I J
def f_X12_line_22 (x1 : Int32) (I : xI) (J : xJ) : Option (Unit × xI × xJ) := (f_X12_must 2 I J).bind fun o => f_X12_line_23 x1 o.2.1 o.2.2
def f_X12_line_21 (x1 : Int32) (I : xI) (J : xJ) : Option (Unit × xI × xJ) := if (I 61 11) < 0 ∨ 403 ≤ ((I 61 11)).toNatClampNeg then none else f_X12_line_22 x1 ((xup I 61 20 ((I 66 ((I 61 11)).toNatClampNeg)))) J
def f_X12_line_20 (x1 : Int32) (s0 : Int32) (I : xI) (J : xJ) : Option (Unit × xI × xJ) := if s0 = 0 then f_X12_line_22 x1 I J else f_X12_line_21 x1 I J
def f_X12_line_19 (x1 : Int32) (I : xI) (J : xJ) : Option (Unit × xI × xJ) := if (I 61 11) < 0 ∨ 403 ≤ ((I 61 11)).toNatClampNeg then none else (f_X12_in ((I 66 ((I 61 11)).toNatClampNeg)) 1 4 I J).bind fun o => f_X12_line_20 x1 o.1 o.2.1 o.2.2
def f_X12_line_18 (x1 : Int32) (s0 : Int32) (I : xI) (J : xJ) : Option (Unit × xI × xJ) := if s0 = 0 then f_X12_line_22 x1 I J else f_X12_line_19 x1 I J
def f_X12_line_17 (x1 : Int32) (I : xI) (J : xJ) : Option (Unit × xI × xJ) := (f_X12_is 2 I J).bind fun o => f_X12_line_18 x1 o.1 o.2.1 o.2.2
def f_X12_line_16 (x1 : Int32) (I : xI) (J : xJ) : Option (Unit × xI × xJ) := if x1 = 21 then f_X12_line_17 x1 I J else f_X12_line_24 x1 I J
def f_X12_line_15 (x1 : Int32) (I : xI) (J : xJ) : Option (Unit × xI × xJ) := f_X12_line_30 x1 I J
def f_X12_line_14 (x1 : Int32) (I : xI) (J : xJ) : Option (Unit × xI × xJ) := (f_X12_must 1 I J).bind fun o => f_X12_line_15 x1 o.2.1 o.2.2
def f_X12_line_13 (x1 : Int32) (I : xI) (J : xJ) : Option (Unit × xI × xJ) := if (I 61 11) < 0 ∨ 403 ≤ ((I 61 11)).toNatClampNeg then none else if (I 61 19) < 0 ∨ 6 ≤ ((I 61 19)).toNatClampNeg then none else f_X12_line_14 x1 ((xup I 61 19 (((I 61 19) + 1)))) ((xup J 69 ((I 61 19)).toNatClampNeg ((J 67 ((I 61 11)).toNatClampNeg))))
def f_X12_line_12 (x1 : Int32) (s0 : Int32) (I : xI) (J : xJ) : Option (Unit × xI × xJ) := if s0 = 0 then f_X12_line_14 x1 I J else f_X12_line_13 x1 I J
def f_X12_line_11 (x1 : Int32) (I : xI) (J : xJ) : Option (Unit × xI × xJ) := (f_X12_is 1 I J).bind fun o => f_X12_line_12 x1 o.1 o.2.1 o.2.2
def f_X12_line_10 (x1 : Int32) (I : xI) (J : xJ) : Option (Unit × xI × xJ) := if x1 = 20 then f_X12_line_11 x1 I J else f_X12_line_16 x1 I J
def f_X12_line_9 (x1 : Int32) (I : xI) (J : xJ) : Option (Unit × xI × xJ) := (f_X12_passes I J).bind fun o => f_X12_line_10 x1 o.2.1 o.2.2
def f_X12_line_6 (x1 : Int32) (I : xI) (J : xJ) : Option (Unit × xI × xJ) := if x1 = 23 then f_X12_line_7 x1 I J else f_X12_line_9 x1 I J
def f_X12_line_5 (x1 : Int32) (I : xI) (J : xJ) : Option (Unit × xI × xJ) := if 24 < x1 then f_X12_line_7 x1 I J else f_X12_line_6 x1 I J
def f_X12_line_4 (x1 : Int32) (I : xI) (J : xJ) : Option (Unit × xI × xJ) := if x1 < 20 then f_X12_line_7 x1 I J else f_X12_line_5 x1 I J
def f_X12_line_3 (x1 : Int32) (I : xI) (J : xJ) : Option (Unit × xI × xJ) := some ((), I, J)
def f_X12_line_2 (x1 : Int32) (I : xI) (J : xJ) : Option (Unit × xI × xJ) := (f_X12_fail 2 I J).bind fun o => f_X12_line_3 x1 o.2.1 o.2.2
def f_X12_line_1 (x1 : Int32) (I : xI) (J : xJ) : Option (Unit × xI × xJ) := if (I 61 19) = 6 then f_X12_line_2 x1 I J else f_X12_line_4 x1 I J
def f_X12_line_0 (I : xI) (J : xJ) : Option (Unit × xI × xJ) := if (I 61 11) < 0 ∨ 403 ≤ ((I 61 11)).toNatClampNeg then none else if (I 64 ((I 61 11)).toNatClampNeg) = 20 then f_X12_line_1 ((I 64 ((I 61 11)).toNatClampNeg)) I J else f_X12_line_4 ((I 64 ((I 61 11)).toNatClampNeg)) I J
def f_X12_line (I : xI) (J : xJ) : Option (Unit × xI × xJ) := f_X12_line_0 I J
theorem p_X12_line_8 {L : Nat} {xs : Nat → Int32} {d : Nat} {Q : xO → Prop} (x1 : Int32) (I : xI) (J : xJ) {t : Unit × xI × xJ} (h : f_X12_line_8 x1 I J = some t) (hC : (c_X12_line Q) t) : Rn L xs (d + 4) 202 54 [some (.ref 61), some (.int x1)] [] 94 (I, J, xrf) Q := by
  unfold f_X12_line_8 at h
  cases h
  exact Rn.ret 1 (o := (none, 94, (I, J, xrf))) (fun f => rfl) hC
theorem p_X12_line_7 {L : Nat} {xs : Nat → Int32} {d : Nat} {Q : xO → Prop} (x1 : Int32) (I : xI) (J : xJ) {t : Unit × xI × xJ} (h : f_X12_line_7 x1 I J = some t) (hC : (c_X12_line Q) t) : Rn L xs (d + 4) 202 49 [some (.ref 61), some (.int x1)] [] 94 (I, J, xrf) Q := by
  unfold f_X12_line_7 at h
  refine Rn.go 2 (j' := 202) (pc' := 51) (ls' := [some (.ref 61), some (.int x1)]) (st' := [.int 1, .ref 61]) (n' := 94) (M' := (I, J, xrf)) (fun f => rfl) ?_
  obtain ⟨o, ho, h⟩ := Option.bind_eq_some_iff.mp h
  refine Rn.call (d1 := d + 3) (j1 := 195) (ls1 := [some (.ref 61), some (.int 1)]) (rest := []) (fun f => rfl) ?_
  refine p_X12_fail (d := d + 2) 1 I J (t := o) ho ?_
  exact p_X12_line_8 x1 o.2.1 o.2.2 h hC
theorem p_X12_line_31 {L : Nat} {xs : Nat → Int32} {d : Nat} {Q : xO → Prop} (x1 : Int32) (I : xI) (J : xJ) {t : Unit × xI × xJ} (h : f_X12_line_31 x1 I J = some t) (hC : (c_X12_line Q) t) : Rn L xs (d + 4) 202 202 [some (.ref 61), some (.int x1)] [] 94 (I, J, xrf) Q := by
  unfold f_X12_line_31 at h
  cases h
  exact Rn.ret 1 (o := (none, 94, (I, J, xrf))) (fun f => rfl) hC
theorem p_X12_line_30 {L : Nat} {xs : Nat → Int32} {d : Nat} {Q : xO → Prop} (x1 : Int32) (I : xI) (J : xJ) {t : Unit × xI × xJ} (h : f_X12_line_30 x1 I J = some t) (hC : (c_X12_line Q) t) : Rn L xs (d + 4) 202 197 [some (.ref 61), some (.int x1)] [] 94 (I, J, xrf) Q := by
  unfold f_X12_line_30 at h
  refine Rn.go 2 (j' := 202) (pc' := 199) (ls' := [some (.ref 61), some (.int x1)]) (st' := [.int 4, .ref 61]) (n' := 94) (M' := (I, J, xrf)) (fun f => rfl) ?_
  obtain ⟨o, ho, h⟩ := Option.bind_eq_some_iff.mp h
  refine Rn.call (d1 := d + 3) (j1 := 198) (ls1 := [some (.ref 61), some (.int 4)]) (rest := []) (fun f => rfl) ?_
  refine p_X12_must (d := d + 0) 4 I J (t := o) ho ?_
  exact p_X12_line_31 x1 o.2.1 o.2.2 h hC
theorem p_X12_line_29 {L : Nat} {xs : Nat → Int32} {d : Nat} {Q : xO → Prop} (x1 : Int32) (I : xI) (J : xJ) {t : Unit × xI × xJ} (h : f_X12_line_29 x1 I J = some t) (hC : (c_X12_line Q) t) : Rn L xs (d + 4) 202 190 [some (.ref 61), some (.int x1)] [] 94 (I, J, xrf) Q := by
  unfold f_X12_line_29 at h
  refine Rn.go 3 (j' := 202) (pc' := 194) (ls' := [some (.ref 61), some (.int x1)]) (st' := [.int 23, .int 2, .ref 61]) (n' := 94) (M' := (I, J, xrf)) (fun f => rfl) ?_
  obtain ⟨o, ho, h⟩ := Option.bind_eq_some_iff.mp h
  refine Rn.call (d1 := d + 3) (j1 := 201) (ls1 := [some (.ref 61), some (.int 2), some (.int 23)]) (rest := []) (fun f => rfl) ?_
  refine p_X12_either (d := d + 0) 2 23 I J (t := o) ho ?_
  exact p_X12_line_30 x1 o.2.1 o.2.2 h hC
theorem p_X12_line_28 {L : Nat} {xs : Nat → Int32} {d : Nat} {Q : xO → Prop} (x1 : Int32) (I : xI) (J : xJ) {t : Unit × xI × xJ} (h : f_X12_line_28 x1 I J = some t) (hC : (c_X12_line Q) t) : Rn L xs (d + 4) 202 184 [some (.ref 61), some (.int x1)] [] 94 (I, J, xrf) Q := by
  unfold f_X12_line_28 at h
  refine Rn.fi 3 (c := x1 = 22) (p1 := 190) (l1 := [some (.ref 61), some (.int x1)]) (s1 := []) (n1 := 94) (M1 := (I, J, xrf)) (p2 := 197) (l2 := [some (.ref 61), some (.int x1)]) (s2 := []) (n2 := 94) (M2 := (I, J, xrf)) (fun f => rfl) (fun hc => ?_) (fun hc => ?_)
  · rw [if_pos hc] at h
    exact p_X12_line_29 x1 I J h hC
  · rw [if_neg hc] at h
    exact p_X12_line_30 x1 I J h hC
theorem p_X12_line_27 {L : Nat} {xs : Nat → Int32} {d : Nat} {Q : xO → Prop} (x1 : Int32) (I : xI) (J : xJ) {t : Unit × xI × xJ} (h : f_X12_line_27 x1 I J = some t) (hC : (c_X12_line Q) t) : Rn L xs (d + 4) 202 177 [some (.ref 61), some (.int x1)] [] 94 (I, J, xrf) Q := by
  unfold f_X12_line_27 at h
  refine Rn.go 3 (j' := 202) (pc' := 181) (ls' := [some (.ref 61), some (.int x1)]) (st' := [.int 23, .int 1, .ref 61]) (n' := 94) (M' := (I, J, xrf)) (fun f => rfl) ?_
  obtain ⟨o, ho, h⟩ := Option.bind_eq_some_iff.mp h
  refine Rn.call (d1 := d + 3) (j1 := 201) (ls1 := [some (.ref 61), some (.int 1), some (.int 23)]) (rest := []) (fun f => rfl) ?_
  refine p_X12_either (d := d + 0) 1 23 I J (t := o) ho ?_
  exact p_X12_line_28 x1 o.2.1 o.2.2 h hC
theorem p_X12_line_26 {L : Nat} {xs : Nat → Int32} {d : Nat} {Q : xO → Prop} (x1 : Int32) (I : xI) (J : xJ) {t : Unit × xI × xJ} (h : f_X12_line_26 x1 I J = some t) (hC : (c_X12_line Q) t) : Rn L xs (d + 4) 202 171 [some (.ref 61), some (.int x1)] [] 94 (I, J, xrf) Q := by
  unfold f_X12_line_26 at h
  refine Rn.fi 3 (c := x1 = 22) (p1 := 177) (l1 := [some (.ref 61), some (.int x1)]) (s1 := []) (n1 := 94) (M1 := (I, J, xrf)) (p2 := 184) (l2 := [some (.ref 61), some (.int x1)]) (s2 := []) (n2 := 94) (M2 := (I, J, xrf)) (fun f => rfl) (fun hc => ?_) (fun hc => ?_)
  · rw [if_pos hc] at h
    exact p_X12_line_27 x1 I J h hC
  · rw [if_neg hc] at h
    exact p_X12_line_28 x1 I J h hC
theorem p_X12_line_25 {L : Nat} {xs : Nat → Int32} {d : Nat} {Q : xO → Prop} (x1 : Int32) (I : xI) (J : xJ) {t : Unit × xI × xJ} (h : f_X12_line_25 x1 I J = some t) (hC : (c_X12_line Q) t) : Rn L xs (d + 4) 202 166 [some (.ref 61), some (.int x1)] [] 94 (I, J, xrf) Q := by
  unfold f_X12_line_25 at h
  refine Rn.go 2 (j' := 202) (pc' := 168) (ls' := [some (.ref 61), some (.int x1)]) (st' := [.int 2, .ref 61]) (n' := 94) (M' := (I, J, xrf)) (fun f => rfl) ?_
  obtain ⟨o, ho, h⟩ := Option.bind_eq_some_iff.mp h
  refine Rn.call (d1 := d + 3) (j1 := 198) (ls1 := [some (.ref 61), some (.int 2)]) (rest := []) (fun f => rfl) ?_
  refine p_X12_must (d := d + 0) 2 I J (t := o) ho ?_
  exact p_X12_line_26 x1 o.2.1 o.2.2 h hC
theorem p_X12_line_24 {L : Nat} {xs : Nat → Int32} {d : Nat} {Q : xO → Prop} (x1 : Int32) (I : xI) (J : xJ) {t : Unit × xI × xJ} (h : f_X12_line_24 x1 I J = some t) (hC : (c_X12_line Q) t) : Rn L xs (d + 4) 202 161 [some (.ref 61), some (.int x1)] [] 94 (I, J, xrf) Q := by
  unfold f_X12_line_24 at h
  refine Rn.go 2 (j' := 202) (pc' := 163) (ls' := [some (.ref 61), some (.int x1)]) (st' := [.int 1, .ref 61]) (n' := 94) (M' := (I, J, xrf)) (fun f => rfl) ?_
  obtain ⟨o, ho, h⟩ := Option.bind_eq_some_iff.mp h
  refine Rn.call (d1 := d + 3) (j1 := 198) (ls1 := [some (.ref 61), some (.int 1)]) (rest := []) (fun f => rfl) ?_
  refine p_X12_must (d := d + 0) 1 I J (t := o) ho ?_
  exact p_X12_line_25 x1 o.2.1 o.2.2 h hC
theorem p_X12_line_23 {L : Nat} {xs : Nat → Int32} {d : Nat} {Q : xO → Prop} (x1 : Int32) (I : xI) (J : xJ) {t : Unit × xI × xJ} (h : f_X12_line_23 x1 I J = some t) (hC : (c_X12_line Q) t) : Rn L xs (d + 4) 202 158 [some (.ref 61), some (.int x1)] [] 94 (I, J, xrf) Q := by
  unfold f_X12_line_23 at h
  refine Rn.go 1 (j' := 202) (pc' := 197) (ls' := [some (.ref 61), some (.int x1)]) (st' := []) (n' := 94) (M' := (I, J, xrf)) (fun f => rfl) ?_
  exact p_X12_line_30 x1 I J h hC
theorem p_X12_line_22 {L : Nat} {xs : Nat → Int32} {d : Nat} {Q : xO → Prop} (x1 : Int32) (I : xI) (J : xJ) {t : Unit × xI × xJ} (h : f_X12_line_22 x1 I J = some t) (hC : (c_X12_line Q) t) : Rn L xs (d + 4) 202 153 [some (.ref 61), some (.int x1)] [] 94 (I, J, xrf) Q := by
  unfold f_X12_line_22 at h
  refine Rn.go 2 (j' := 202) (pc' := 155) (ls' := [some (.ref 61), some (.int x1)]) (st' := [.int 2, .ref 61]) (n' := 94) (M' := (I, J, xrf)) (fun f => rfl) ?_
  obtain ⟨o, ho, h⟩ := Option.bind_eq_some_iff.mp h
  refine Rn.call (d1 := d + 3) (j1 := 198) (ls1 := [some (.ref 61), some (.int 2)]) (rest := []) (fun f => rfl) ?_
  refine p_X12_must (d := d + 0) 2 I J (t := o) ho ?_
  exact p_X12_line_23 x1 o.2.1 o.2.2 h hC
theorem p_X12_line_21 {L : Nat} {xs : Nat → Int32} {d : Nat} {Q : xO → Prop} (x1 : Int32) (I : xI) (J : xJ) {t : Unit × xI × xJ} (h : f_X12_line_21 x1 I J = some t) (hC : (c_X12_line Q) t) : Rn L xs (d + 4) 202 140 [some (.ref 61), some (.int x1)] [] 94 (I, J, xrf) Q := by
  unfold f_X12_line_21 at h
  obtain ⟨hc, h⟩ := xif h
  refine Rn.ok 6 (c := (I 61 11) < 0 ∨ 403 ≤ ((I 61 11)).toNatClampNeg) (p1 := 150) (l1 := [some (.ref 61), some (.int x1)]) (s1 := [.int ((I 66 ((I 61 11)).toNatClampNeg)), .ref 61]) (n1 := 94) (M1 := (I, J, xrf)) (fun f => rfl) hc ?_
  refine Rn.go 1 (j' := 202) (pc' := 153) (ls' := [some (.ref 61), some (.int x1)]) (st' := []) (n' := 94) (M' := ((xup I 61 20 ((I 66 ((I 61 11)).toNatClampNeg))), J, xrf)) (fun f => rfl) ?_
  exact p_X12_line_22 x1 ((xup I 61 20 ((I 66 ((I 61 11)).toNatClampNeg)))) J h hC
theorem p_X12_line_20 {L : Nat} {xs : Nat → Int32} {d : Nat} {Q : xO → Prop} (x1 : Int32) (s0 : Int32) (I : xI) (J : xJ) {t : Unit × xI × xJ} (h : f_X12_line_20 x1 s0 I J = some t) (hC : (c_X12_line Q) t) : Rn L xs (d + 4) 202 137 [some (.ref 61), some (.int x1)] [.int s0] 94 (I, J, xrf) Q := by
  unfold f_X12_line_20 at h
  refine Rn.fi 1 (c := s0 = 0) (p1 := 153) (l1 := [some (.ref 61), some (.int x1)]) (s1 := []) (n1 := 94) (M1 := (I, J, xrf)) (p2 := 140) (l2 := [some (.ref 61), some (.int x1)]) (s2 := []) (n2 := 94) (M2 := (I, J, xrf)) (fun f => rfl) (fun hc => ?_) (fun hc => ?_)
  · rw [if_pos hc] at h
    exact p_X12_line_22 x1 I J h hC
  · rw [if_neg hc] at h
    exact p_X12_line_21 x1 I J h hC
theorem p_X12_line_19 {L : Nat} {xs : Nat → Int32} {d : Nat} {Q : xO → Prop} (x1 : Int32) (I : xI) (J : xJ) {t : Unit × xI × xJ} (h : f_X12_line_19 x1 I J = some t) (hC : (c_X12_line Q) t) : Rn L xs (d + 4) 202 123 [some (.ref 61), some (.int x1)] [] 94 (I, J, xrf) Q := by
  unfold f_X12_line_19 at h
  obtain ⟨hc, h⟩ := xif h
  refine Rn.ok 5 (c := (I 61 11) < 0 ∨ 403 ≤ ((I 61 11)).toNatClampNeg) (p1 := 132) (l1 := [some (.ref 61), some (.int x1)]) (s1 := [.int ((I 66 ((I 61 11)).toNatClampNeg))]) (n1 := 94) (M1 := (I, J, xrf)) (fun f => rfl) hc ?_
  refine Rn.go 2 (j' := 202) (pc' := 134) (ls' := [some (.ref 61), some (.int x1)]) (st' := [.int 4, .int 1, .int ((I 66 ((I 61 11)).toNatClampNeg))]) (n' := 94) (M' := (I, J, xrf)) (fun f => rfl) ?_
  obtain ⟨o, ho, h⟩ := Option.bind_eq_some_iff.mp h
  refine Rn.call (d1 := d + 3) (j1 := 206) (ls1 := [some (.int ((I 66 ((I 61 11)).toNatClampNeg))), some (.int 1), some (.int 4)]) (rest := []) (fun f => rfl) ?_
  refine p_X12_in (d := d + 2) ((I 66 ((I 61 11)).toNatClampNeg)) 1 4 I J (t := o) ho ?_
  exact p_X12_line_20 x1 o.1 o.2.1 o.2.2 h hC
theorem p_X12_line_18 {L : Nat} {xs : Nat → Int32} {d : Nat} {Q : xO → Prop} (x1 : Int32) (s0 : Int32) (I : xI) (J : xJ) {t : Unit × xI × xJ} (h : f_X12_line_18 x1 s0 I J = some t) (hC : (c_X12_line Q) t) : Rn L xs (d + 4) 202 120 [some (.ref 61), some (.int x1)] [.int s0] 94 (I, J, xrf) Q := by
  unfold f_X12_line_18 at h
  refine Rn.fi 1 (c := s0 = 0) (p1 := 153) (l1 := [some (.ref 61), some (.int x1)]) (s1 := []) (n1 := 94) (M1 := (I, J, xrf)) (p2 := 123) (l2 := [some (.ref 61), some (.int x1)]) (s2 := []) (n2 := 94) (M2 := (I, J, xrf)) (fun f => rfl) (fun hc => ?_) (fun hc => ?_)
  · rw [if_pos hc] at h
    exact p_X12_line_22 x1 I J h hC
  · rw [if_neg hc] at h
    exact p_X12_line_19 x1 I J h hC
theorem p_X12_line_17 {L : Nat} {xs : Nat → Int32} {d : Nat} {Q : xO → Prop} (x1 : Int32) (I : xI) (J : xJ) {t : Unit × xI × xJ} (h : f_X12_line_17 x1 I J = some t) (hC : (c_X12_line Q) t) : Rn L xs (d + 4) 202 115 [some (.ref 61), some (.int x1)] [] 94 (I, J, xrf) Q := by
  unfold f_X12_line_17 at h
  refine Rn.go 2 (j' := 202) (pc' := 117) (ls' := [some (.ref 61), some (.int x1)]) (st' := [.int 2, .ref 61]) (n' := 94) (M' := (I, J, xrf)) (fun f => rfl) ?_
  obtain ⟨o, ho, h⟩ := Option.bind_eq_some_iff.mp h
  refine Rn.call (d1 := d + 3) (j1 := 194) (ls1 := [some (.ref 61), some (.int 2)]) (rest := []) (fun f => rfl) ?_
  refine p_X12_is (d := d + 2) 2 I J (t := o) ho ?_
  exact p_X12_line_18 x1 o.1 o.2.1 o.2.2 h hC
theorem p_X12_line_16 {L : Nat} {xs : Nat → Int32} {d : Nat} {Q : xO → Prop} (x1 : Int32) (I : xI) (J : xJ) {t : Unit × xI × xJ} (h : f_X12_line_16 x1 I J = some t) (hC : (c_X12_line Q) t) : Rn L xs (d + 4) 202 109 [some (.ref 61), some (.int x1)] [] 94 (I, J, xrf) Q := by
  unfold f_X12_line_16 at h
  refine Rn.fi 3 (c := x1 = 21) (p1 := 115) (l1 := [some (.ref 61), some (.int x1)]) (s1 := []) (n1 := 94) (M1 := (I, J, xrf)) (p2 := 161) (l2 := [some (.ref 61), some (.int x1)]) (s2 := []) (n2 := 94) (M2 := (I, J, xrf)) (fun f => rfl) (fun hc => ?_) (fun hc => ?_)
  · rw [if_pos hc] at h
    exact p_X12_line_17 x1 I J h hC
  · rw [if_neg hc] at h
    exact p_X12_line_24 x1 I J h hC
theorem p_X12_line_15 {L : Nat} {xs : Nat → Int32} {d : Nat} {Q : xO → Prop} (x1 : Int32) (I : xI) (J : xJ) {t : Unit × xI × xJ} (h : f_X12_line_15 x1 I J = some t) (hC : (c_X12_line Q) t) : Rn L xs (d + 4) 202 106 [some (.ref 61), some (.int x1)] [] 94 (I, J, xrf) Q := by
  unfold f_X12_line_15 at h
  refine Rn.go 1 (j' := 202) (pc' := 197) (ls' := [some (.ref 61), some (.int x1)]) (st' := []) (n' := 94) (M' := (I, J, xrf)) (fun f => rfl) ?_
  exact p_X12_line_30 x1 I J h hC
theorem p_X12_line_14 {L : Nat} {xs : Nat → Int32} {d : Nat} {Q : xO → Prop} (x1 : Int32) (I : xI) (J : xJ) {t : Unit × xI × xJ} (h : f_X12_line_14 x1 I J = some t) (hC : (c_X12_line Q) t) : Rn L xs (d + 4) 202 101 [some (.ref 61), some (.int x1)] [] 94 (I, J, xrf) Q := by
  unfold f_X12_line_14 at h
  refine Rn.go 2 (j' := 202) (pc' := 103) (ls' := [some (.ref 61), some (.int x1)]) (st' := [.int 1, .ref 61]) (n' := 94) (M' := (I, J, xrf)) (fun f => rfl) ?_
  obtain ⟨o, ho, h⟩ := Option.bind_eq_some_iff.mp h
  refine Rn.call (d1 := d + 3) (j1 := 198) (ls1 := [some (.ref 61), some (.int 1)]) (rest := []) (fun f => rfl) ?_
  refine p_X12_must (d := d + 0) 1 I J (t := o) ho ?_
  exact p_X12_line_15 x1 o.2.1 o.2.2 h hC
theorem p_X12_line_13 {L : Nat} {xs : Nat → Int32} {d : Nat} {Q : xO → Prop} (x1 : Int32) (I : xI) (J : xJ) {t : Unit × xI × xJ} (h : f_X12_line_13 x1 I J = some t) (hC : (c_X12_line Q) t) : Rn L xs (d + 4) 202 73 [some (.ref 61), some (.int x1)] [] 94 (I, J, xrf) Q := by
  unfold f_X12_line_13 at h
  obtain ⟨hc, h⟩ := xif h
  refine Rn.ok 9 (c := (I 61 11) < 0 ∨ 403 ≤ ((I 61 11)).toNatClampNeg) (p1 := 90) (l1 := [some (.ref 61), some (.int x1)]) (s1 := [.long ((J 67 ((I 61 11)).toNatClampNeg)), .int ((I 61 19)), .ref 69]) (n1 := 94) (M1 := (I, J, xrf)) (fun f => rfl) hc ?_
  obtain ⟨hc, h⟩ := xif h
  refine Rn.ok 1 (c := (I 61 19) < 0 ∨ 6 ≤ ((I 61 19)).toNatClampNeg) (p1 := 91) (l1 := [some (.ref 61), some (.int x1)]) (s1 := []) (n1 := 94) (M1 := (I, (xup J 69 ((I 61 19)).toNatClampNeg ((J 67 ((I 61 11)).toNatClampNeg))), xrf)) (fun f => rfl) hc ?_
  refine Rn.go 6 (j' := 202) (pc' := 101) (ls' := [some (.ref 61), some (.int x1)]) (st' := []) (n' := 94) (M' := ((xup I 61 19 (((I 61 19) + 1))), (xup J 69 ((I 61 19)).toNatClampNeg ((J 67 ((I 61 11)).toNatClampNeg))), xrf)) (fun f => rfl) ?_
  exact p_X12_line_14 x1 ((xup I 61 19 (((I 61 19) + 1)))) ((xup J 69 ((I 61 19)).toNatClampNeg ((J 67 ((I 61 11)).toNatClampNeg)))) h hC
theorem p_X12_line_12 {L : Nat} {xs : Nat → Int32} {d : Nat} {Q : xO → Prop} (x1 : Int32) (s0 : Int32) (I : xI) (J : xJ) {t : Unit × xI × xJ} (h : f_X12_line_12 x1 s0 I J = some t) (hC : (c_X12_line Q) t) : Rn L xs (d + 4) 202 70 [some (.ref 61), some (.int x1)] [.int s0] 94 (I, J, xrf) Q := by
  unfold f_X12_line_12 at h
  refine Rn.fi 1 (c := s0 = 0) (p1 := 101) (l1 := [some (.ref 61), some (.int x1)]) (s1 := []) (n1 := 94) (M1 := (I, J, xrf)) (p2 := 73) (l2 := [some (.ref 61), some (.int x1)]) (s2 := []) (n2 := 94) (M2 := (I, J, xrf)) (fun f => rfl) (fun hc => ?_) (fun hc => ?_)
  · rw [if_pos hc] at h
    exact p_X12_line_14 x1 I J h hC
  · rw [if_neg hc] at h
    exact p_X12_line_13 x1 I J h hC
theorem p_X12_line_11 {L : Nat} {xs : Nat → Int32} {d : Nat} {Q : xO → Prop} (x1 : Int32) (I : xI) (J : xJ) {t : Unit × xI × xJ} (h : f_X12_line_11 x1 I J = some t) (hC : (c_X12_line Q) t) : Rn L xs (d + 4) 202 65 [some (.ref 61), some (.int x1)] [] 94 (I, J, xrf) Q := by
  unfold f_X12_line_11 at h
  refine Rn.go 2 (j' := 202) (pc' := 67) (ls' := [some (.ref 61), some (.int x1)]) (st' := [.int 1, .ref 61]) (n' := 94) (M' := (I, J, xrf)) (fun f => rfl) ?_
  obtain ⟨o, ho, h⟩ := Option.bind_eq_some_iff.mp h
  refine Rn.call (d1 := d + 3) (j1 := 194) (ls1 := [some (.ref 61), some (.int 1)]) (rest := []) (fun f => rfl) ?_
  refine p_X12_is (d := d + 2) 1 I J (t := o) ho ?_
  exact p_X12_line_12 x1 o.1 o.2.1 o.2.2 h hC
theorem p_X12_line_10 {L : Nat} {xs : Nat → Int32} {d : Nat} {Q : xO → Prop} (x1 : Int32) (I : xI) (J : xJ) {t : Unit × xI × xJ} (h : f_X12_line_10 x1 I J = some t) (hC : (c_X12_line Q) t) : Rn L xs (d + 4) 202 59 [some (.ref 61), some (.int x1)] [] 94 (I, J, xrf) Q := by
  unfold f_X12_line_10 at h
  refine Rn.fi 3 (c := x1 = 20) (p1 := 65) (l1 := [some (.ref 61), some (.int x1)]) (s1 := []) (n1 := 94) (M1 := (I, J, xrf)) (p2 := 109) (l2 := [some (.ref 61), some (.int x1)]) (s2 := []) (n2 := 94) (M2 := (I, J, xrf)) (fun f => rfl) (fun hc => ?_) (fun hc => ?_)
  · rw [if_pos hc] at h
    exact p_X12_line_11 x1 I J h hC
  · rw [if_neg hc] at h
    exact p_X12_line_16 x1 I J h hC
theorem p_X12_line_9 {L : Nat} {xs : Nat → Int32} {d : Nat} {Q : xO → Prop} (x1 : Int32) (I : xI) (J : xJ) {t : Unit × xI × xJ} (h : f_X12_line_9 x1 I J = some t) (hC : (c_X12_line Q) t) : Rn L xs (d + 4) 202 55 [some (.ref 61), some (.int x1)] [] 94 (I, J, xrf) Q := by
  unfold f_X12_line_9 at h
  refine Rn.go 1 (j' := 202) (pc' := 56) (ls' := [some (.ref 61), some (.int x1)]) (st' := [.ref 61]) (n' := 94) (M' := (I, J, xrf)) (fun f => rfl) ?_
  obtain ⟨o, ho, h⟩ := Option.bind_eq_some_iff.mp h
  refine Rn.call (d1 := d + 3) (j1 := 197) (ls1 := [some (.ref 61)]) (rest := []) (fun f => rfl) ?_
  refine p_X12_passes (d := d + 1) I J (t := o) ho ?_
  exact p_X12_line_10 x1 o.2.1 o.2.2 h hC
theorem p_X12_line_6 {L : Nat} {xs : Nat → Int32} {d : Nat} {Q : xO → Prop} (x1 : Int32) (I : xI) (J : xJ) {t : Unit × xI × xJ} (h : f_X12_line_6 x1 I J = some t) (hC : (c_X12_line Q) t) : Rn L xs (d + 4) 202 43 [some (.ref 61), some (.int x1)] [] 94 (I, J, xrf) Q := by
  unfold f_X12_line_6 at h
  refine Rn.fi 3 (c := x1 = 23) (p1 := 49) (l1 := [some (.ref 61), some (.int x1)]) (s1 := []) (n1 := 94) (M1 := (I, J, xrf)) (p2 := 55) (l2 := [some (.ref 61), some (.int x1)]) (s2 := []) (n2 := 94) (M2 := (I, J, xrf)) (fun f => rfl) (fun hc => ?_) (fun hc => ?_)
  · rw [if_pos hc] at h
    exact p_X12_line_7 x1 I J h hC
  · rw [if_neg hc] at h
    exact p_X12_line_9 x1 I J h hC
theorem p_X12_line_5 {L : Nat} {xs : Nat → Int32} {d : Nat} {Q : xO → Prop} (x1 : Int32) (I : xI) (J : xJ) {t : Unit × xI × xJ} (h : f_X12_line_5 x1 I J = some t) (hC : (c_X12_line Q) t) : Rn L xs (d + 4) 202 37 [some (.ref 61), some (.int x1)] [] 94 (I, J, xrf) Q := by
  unfold f_X12_line_5 at h
  refine Rn.fi 3 (c := 24 < x1) (p1 := 49) (l1 := [some (.ref 61), some (.int x1)]) (s1 := []) (n1 := 94) (M1 := (I, J, xrf)) (p2 := 43) (l2 := [some (.ref 61), some (.int x1)]) (s2 := []) (n2 := 94) (M2 := (I, J, xrf)) (fun f => rfl) (fun hc => ?_) (fun hc => ?_)
  · rw [if_pos hc] at h
    exact p_X12_line_7 x1 I J h hC
  · rw [if_neg hc] at h
    exact p_X12_line_6 x1 I J h hC
theorem p_X12_line_4 {L : Nat} {xs : Nat → Int32} {d : Nat} {Q : xO → Prop} (x1 : Int32) (I : xI) (J : xJ) {t : Unit × xI × xJ} (h : f_X12_line_4 x1 I J = some t) (hC : (c_X12_line Q) t) : Rn L xs (d + 4) 202 31 [some (.ref 61), some (.int x1)] [] 94 (I, J, xrf) Q := by
  unfold f_X12_line_4 at h
  refine Rn.fi 3 (c := x1 < 20) (p1 := 49) (l1 := [some (.ref 61), some (.int x1)]) (s1 := []) (n1 := 94) (M1 := (I, J, xrf)) (p2 := 37) (l2 := [some (.ref 61), some (.int x1)]) (s2 := []) (n2 := 94) (M2 := (I, J, xrf)) (fun f => rfl) (fun hc => ?_) (fun hc => ?_)
  · rw [if_pos hc] at h
    exact p_X12_line_7 x1 I J h hC
  · rw [if_neg hc] at h
    exact p_X12_line_5 x1 I J h hC
theorem p_X12_line_3 {L : Nat} {xs : Nat → Int32} {d : Nat} {Q : xO → Prop} (x1 : Int32) (I : xI) (J : xJ) {t : Unit × xI × xJ} (h : f_X12_line_3 x1 I J = some t) (hC : (c_X12_line Q) t) : Rn L xs (d + 4) 202 30 [some (.ref 61), some (.int x1)] [] 94 (I, J, xrf) Q := by
  unfold f_X12_line_3 at h
  cases h
  exact Rn.ret 1 (o := (none, 94, (I, J, xrf))) (fun f => rfl) hC
theorem p_X12_line_2 {L : Nat} {xs : Nat → Int32} {d : Nat} {Q : xO → Prop} (x1 : Int32) (I : xI) (J : xJ) {t : Unit × xI × xJ} (h : f_X12_line_2 x1 I J = some t) (hC : (c_X12_line Q) t) : Rn L xs (d + 4) 202 25 [some (.ref 61), some (.int x1)] [] 94 (I, J, xrf) Q := by
  unfold f_X12_line_2 at h
  refine Rn.go 2 (j' := 202) (pc' := 27) (ls' := [some (.ref 61), some (.int x1)]) (st' := [.int 2, .ref 61]) (n' := 94) (M' := (I, J, xrf)) (fun f => rfl) ?_
  obtain ⟨o, ho, h⟩ := Option.bind_eq_some_iff.mp h
  refine Rn.call (d1 := d + 3) (j1 := 195) (ls1 := [some (.ref 61), some (.int 2)]) (rest := []) (fun f => rfl) ?_
  refine p_X12_fail (d := d + 2) 2 I J (t := o) ho ?_
  exact p_X12_line_3 x1 o.2.1 o.2.2 h hC
theorem p_X12_line_1 {L : Nat} {xs : Nat → Int32} {d : Nat} {Q : xO → Prop} (x1 : Int32) (I : xI) (J : xJ) {t : Unit × xI × xJ} (h : f_X12_line_1 x1 I J = some t) (hC : (c_X12_line Q) t) : Rn L xs (d + 4) 202 16 [some (.ref 61), some (.int x1)] [] 94 (I, J, xrf) Q := by
  unfold f_X12_line_1 at h
  refine Rn.fi 4 (c := (I 61 19) = 6) (p1 := 25) (l1 := [some (.ref 61), some (.int x1)]) (s1 := []) (n1 := 94) (M1 := (I, J, xrf)) (p2 := 31) (l2 := [some (.ref 61), some (.int x1)]) (s2 := []) (n2 := 94) (M2 := (I, J, xrf)) (fun f => rfl) (fun hc => ?_) (fun hc => ?_)
  · rw [if_pos hc] at h
    exact p_X12_line_2 x1 I J h hC
  · rw [if_neg hc] at h
    exact p_X12_line_4 x1 I J h hC
theorem p_X12_line_0 {L : Nat} {xs : Nat → Int32} {d : Nat} {Q : xO → Prop} (I : xI) (J : xJ) {t : Unit × xI × xJ} (h : f_X12_line_0 I J = some t) (hC : (c_X12_line Q) t) : Rn L xs (d + 4) 202 0 [some (.ref 61), none] [] 94 (I, J, xrf) Q := by
  unfold f_X12_line_0 at h
  obtain ⟨hc, h⟩ := xif h
  refine Rn.ok 5 (c := (I 61 11) < 0 ∨ 403 ≤ ((I 61 11)).toNatClampNeg) (p1 := 9) (l1 := [some (.ref 61), none]) (s1 := [.int ((I 64 ((I 61 11)).toNatClampNeg))]) (n1 := 94) (M1 := (I, J, xrf)) (fun f => rfl) hc ?_
  refine Rn.fi 4 (c := (I 64 ((I 61 11)).toNatClampNeg) = 20) (p1 := 16) (l1 := [some (.ref 61), some (.int ((I 64 ((I 61 11)).toNatClampNeg)))]) (s1 := []) (n1 := 94) (M1 := (I, J, xrf)) (p2 := 31) (l2 := [some (.ref 61), some (.int ((I 64 ((I 61 11)).toNatClampNeg)))]) (s2 := []) (n2 := 94) (M2 := (I, J, xrf)) (fun f => rfl) (fun hc => ?_) (fun hc => ?_)
  · rw [if_pos hc] at h
    exact p_X12_line_1 ((I 64 ((I 61 11)).toNatClampNeg)) I J h hC
  · rw [if_neg hc] at h
    exact p_X12_line_4 ((I 64 ((I 61 11)).toNatClampNeg)) I J h hC
theorem p_X12_line {L : Nat} {xs : Nat → Int32} {d : Nat} {Q : xO → Prop} (I : xI) (J : xJ) {t : Unit × xI × xJ} (h : f_X12_line I J = some t) (hC : Q (none, 94, (t.2.1, t.2.2, xrf))) : Rn L xs (d + 4) 202 0 [some (.ref 61), none] [] 94 (I, J, xrf) Q := p_X12_line_0 I J h hC
/-! X12_wrong -/
def c_X12_wrong (Q : xO → Prop) (t : Unit × xI × xJ) : Prop := Q (none, 94, (t.2.1, t.2.2, xrf))
def f_X12_wrong_5 (x1 : Int32) (x2 : Int32) (x3 : Int32) (I : xI) (J : xJ) : Option (Unit × xI × xJ) := some ((), I, J)
def f_X12_wrong_6 (x1 : Int32) (x2 : Int32) (x3 : Int32) (I : xI) (J : xJ) : Option (Unit × xI × xJ) := some ((), (xup ((xup I 61 14 x1)) 61 15 x3), J)
def f_X12_wrong_4 (x1 : Int32) (x2 : Int32) (x3 : Int32) (I : xI) (J : xJ) : Option (Unit × xI × xJ) := if x1 < (I 61 14) then f_X12_wrong_6 x1 x2 x3 I J else f_X12_wrong_5 x1 x2 x3 I J
def f_X12_wrong_3 (x1 : Int32) (x2 : Int32) (x3 : Int32) (I : xI) (J : xJ) : Option (Unit × xI × xJ) := if x3 = (I 61 15) then f_X12_wrong_4 x1 x2 x3 I J else f_X12_wrong_6 x1 x2 x3 I J
def f_X12_wrong_2 (x1 : Int32) (x2 : Int32) (x3 : Int32) (I : xI) (J : xJ) : Option (Unit × xI × xJ) := if (I 61 15) < x3 then f_X12_wrong_5 x1 x2 x3 I J else f_X12_wrong_3 x1 x2 x3 I J
def f_X12_wrong_1 (x1 : Int32) (x2 : Int32) (x3 : Int32) (I : xI) (J : xJ) : Option (Unit × xI × xJ) := if (I 61 14) = 0 then f_X12_wrong_6 x1 x2 x3 I J else f_X12_wrong_2 x1 x2 x3 I J
def f_X12_wrong_0 (x1 : Int32) (x2 : Int32) (I : xI) (J : xJ) : Option (Unit × xI × xJ) := if x2 < 0 ∨ 403 ≤ x2.toNatClampNeg then none else if 0 < (I 61 12) then f_X12_wrong_5 x1 x2 ((I 65 x2.toNatClampNeg)) I J else f_X12_wrong_1 x1 x2 ((I 65 x2.toNatClampNeg)) I J
def f_X12_wrong (x1 : Int32) (x2 : Int32) (I : xI) (J : xJ) : Option (Unit × xI × xJ) := f_X12_wrong_0 x1 x2 I J
theorem p_X12_wrong_5 {L : Nat} {xs : Nat → Int32} {d : Nat} {Q : xO → Prop} (x1 : Int32) (x2 : Int32) (x3 : Int32) (I : xI) (J : xJ) {t : Unit × xI × xJ} (h : f_X12_wrong_5 x1 x2 x3 I J = some t) (hC : (c_X12_wrong Q) t) : Rn L xs (d + 1) 196 45 [some (.ref 61), some (.int x1), some (.int x2), some (.int x3)] [] 94 (I, J, xrf) Q := by
  unfold f_X12_wrong_5 at h
  cases h
  exact Rn.ret 1 (o := (none, 94, (I, J, xrf))) (fun f => rfl) hC
theorem p_X12_wrong_6 {L : Nat} {xs : Nat → Int32} {d : Nat} {Q : xO → Prop} (x1 : Int32) (x2 : Int32) (x3 : Int32) (I : xI) (J : xJ) {t : Unit × xI × xJ} (h : f_X12_wrong_6 x1 x2 x3 I J = some t) (hC : (c_X12_wrong Q) t) : Rn L xs (d + 1) 196 46 [some (.ref 61), some (.int x1), some (.int x2), some (.int x3)] [] 94 (I, J, xrf) Q := by
  unfold f_X12_wrong_6 at h
  cases h
  exact Rn.ret 7 (o := (none, 94, ((xup ((xup I 61 14 x1)) 61 15 x3), J, xrf))) (fun f => rfl) hC
theorem p_X12_wrong_4 {L : Nat} {xs : Nat → Int32} {d : Nat} {Q : xO → Prop} (x1 : Int32) (x2 : Int32) (x3 : Int32) (I : xI) (J : xJ) {t : Unit × xI × xJ} (h : f_X12_wrong_4 x1 x2 x3 I J = some t) (hC : (c_X12_wrong Q) t) : Rn L xs (d + 1) 196 37 [some (.ref 61), some (.int x1), some (.int x2), some (.int x3)] [] 94 (I, J, xrf) Q := by
  unfold f_X12_wrong_4 at h
  refine Rn.fi 4 (c := x1 < (I 61 14)) (p1 := 46) (l1 := [some (.ref 61), some (.int x1), some (.int x2), some (.int x3)]) (s1 := []) (n1 := 94) (M1 := (I, J, xrf)) (p2 := 45) (l2 := [some (.ref 61), some (.int x1), some (.int x2), some (.int x3)]) (s2 := []) (n2 := 94) (M2 := (I, J, xrf)) (fun f => rfl) (fun hc => ?_) (fun hc => ?_)
  · rw [if_pos hc] at h
    exact p_X12_wrong_6 x1 x2 x3 I J h hC
  · rw [if_neg hc] at h
    exact p_X12_wrong_5 x1 x2 x3 I J h hC
theorem p_X12_wrong_3 {L : Nat} {xs : Nat → Int32} {d : Nat} {Q : xO → Prop} (x1 : Int32) (x2 : Int32) (x3 : Int32) (I : xI) (J : xJ) {t : Unit × xI × xJ} (h : f_X12_wrong_3 x1 x2 x3 I J = some t) (hC : (c_X12_wrong Q) t) : Rn L xs (d + 1) 196 29 [some (.ref 61), some (.int x1), some (.int x2), some (.int x3)] [] 94 (I, J, xrf) Q := by
  unfold f_X12_wrong_3 at h
  refine Rn.fi 4 (c := x3 = (I 61 15)) (p1 := 37) (l1 := [some (.ref 61), some (.int x1), some (.int x2), some (.int x3)]) (s1 := []) (n1 := 94) (M1 := (I, J, xrf)) (p2 := 46) (l2 := [some (.ref 61), some (.int x1), some (.int x2), some (.int x3)]) (s2 := []) (n2 := 94) (M2 := (I, J, xrf)) (fun f => rfl) (fun hc => ?_) (fun hc => ?_)
  · rw [if_pos hc] at h
    exact p_X12_wrong_4 x1 x2 x3 I J h hC
  · rw [if_neg hc] at h
    exact p_X12_wrong_6 x1 x2 x3 I J h hC
theorem p_X12_wrong_2 {L : Nat} {xs : Nat → Int32} {d : Nat} {Q : xO → Prop} (x1 : Int32) (x2 : Int32) (x3 : Int32) (I : xI) (J : xJ) {t : Unit × xI × xJ} (h : f_X12_wrong_2 x1 x2 x3 I J = some t) (hC : (c_X12_wrong Q) t) : Rn L xs (d + 1) 196 21 [some (.ref 61), some (.int x1), some (.int x2), some (.int x3)] [] 94 (I, J, xrf) Q := by
  unfold f_X12_wrong_2 at h
  refine Rn.fi 4 (c := (I 61 15) < x3) (p1 := 45) (l1 := [some (.ref 61), some (.int x1), some (.int x2), some (.int x3)]) (s1 := []) (n1 := 94) (M1 := (I, J, xrf)) (p2 := 29) (l2 := [some (.ref 61), some (.int x1), some (.int x2), some (.int x3)]) (s2 := []) (n2 := 94) (M2 := (I, J, xrf)) (fun f => rfl) (fun hc => ?_) (fun hc => ?_)
  · rw [if_pos hc] at h
    exact p_X12_wrong_5 x1 x2 x3 I J h hC
  · rw [if_neg hc] at h
    exact p_X12_wrong_3 x1 x2 x3 I J h hC
theorem p_X12_wrong_1 {L : Nat} {xs : Nat → Int32} {d : Nat} {Q : xO → Prop} (x1 : Int32) (x2 : Int32) (x3 : Int32) (I : xI) (J : xJ) {t : Unit × xI × xJ} (h : f_X12_wrong_1 x1 x2 x3 I J = some t) (hC : (c_X12_wrong Q) t) : Rn L xs (d + 1) 196 14 [some (.ref 61), some (.int x1), some (.int x2), some (.int x3)] [] 94 (I, J, xrf) Q := by
  unfold f_X12_wrong_1 at h
  refine Rn.fi 3 (c := (I 61 14) = 0) (p1 := 46) (l1 := [some (.ref 61), some (.int x1), some (.int x2), some (.int x3)]) (s1 := []) (n1 := 94) (M1 := (I, J, xrf)) (p2 := 21) (l2 := [some (.ref 61), some (.int x1), some (.int x2), some (.int x3)]) (s2 := []) (n2 := 94) (M2 := (I, J, xrf)) (fun f => rfl) (fun hc => ?_) (fun hc => ?_)
  · rw [if_pos hc] at h
    exact p_X12_wrong_6 x1 x2 x3 I J h hC
  · rw [if_neg hc] at h
    exact p_X12_wrong_2 x1 x2 x3 I J h hC
theorem p_X12_wrong_0 {L : Nat} {xs : Nat → Int32} {d : Nat} {Q : xO → Prop} (x1 : Int32) (x2 : Int32) (I : xI) (J : xJ) {t : Unit × xI × xJ} (h : f_X12_wrong_0 x1 x2 I J = some t) (hC : (c_X12_wrong Q) t) : Rn L xs (d + 1) 196 0 [some (.ref 61), some (.int x1), some (.int x2), none] [] 94 (I, J, xrf) Q := by
  unfold f_X12_wrong_0 at h
  obtain ⟨hc, h⟩ := xif h
  refine Rn.ok 4 (c := x2 < 0 ∨ 403 ≤ x2.toNatClampNeg) (p1 := 6) (l1 := [some (.ref 61), some (.int x1), some (.int x2), none]) (s1 := [.int ((I 65 x2.toNatClampNeg))]) (n1 := 94) (M1 := (I, J, xrf)) (fun f => rfl) hc ?_
  refine Rn.fi 4 (c := 0 < (I 61 12)) (p1 := 45) (l1 := [some (.ref 61), some (.int x1), some (.int x2), some (.int ((I 65 x2.toNatClampNeg)))]) (s1 := []) (n1 := 94) (M1 := (I, J, xrf)) (p2 := 14) (l2 := [some (.ref 61), some (.int x1), some (.int x2), some (.int ((I 65 x2.toNatClampNeg)))]) (s2 := []) (n2 := 94) (M2 := (I, J, xrf)) (fun f => rfl) (fun hc => ?_) (fun hc => ?_)
  · rw [if_pos hc] at h
    exact p_X12_wrong_5 x1 x2 ((I 65 x2.toNatClampNeg)) I J h hC
  · rw [if_neg hc] at h
    exact p_X12_wrong_1 x1 x2 ((I 65 x2.toNatClampNeg)) I J h hC
theorem p_X12_wrong {L : Nat} {xs : Nat → Int32} {d : Nat} {Q : xO → Prop} (x1 : Int32) (x2 : Int32) (I : xI) (J : xJ) {t : Unit × xI × xJ} (h : f_X12_wrong x1 x2 I J = some t) (hC : Q (none, 94, (t.2.1, t.2.2, xrf))) : Rn L xs (d + 1) 196 0 [some (.ref 61), some (.int x1), some (.int x2), none] [] 94 (I, J, xrf) Q := p_X12_wrong_0 x1 x2 I J h hC
/-! X12_named -/
def c_X12_named (Q : xO → Prop) (t : Int32 × xI × xJ) : Prop := Q ((some (.int t.1)), 94, (t.2.1, t.2.2, xrf))
def c_X12_named_1 (L : Nat) (xs : Nat → Int32) (d : Nat) (Q : xO → Prop) (t : (Int32 × Int32 × xI × xJ) ⊕ (Int32 × xI × xJ)) : Prop := match t with
  | .inl s => Rn L xs (d + 2) 203 2 [some (.ref 61), some (.int s.1), some (.int s.2.1)] [] 94 (s.2.2.1, s.2.2.2, xrf) Q
  | .inr t => (c_X12_named Q) t
def f_X12_named_6 (x1 : Int32) (x2 : Int32) (I : xI) (J : xJ) : Option (Int32 × xI × xJ) := some (0, I, J)
def f_X12_named_5 (x1 : Int32) (x2 : Int32) (I : xI) (J : xJ) : Option (Int32 × xI × xJ) := (f_X12_wrong 4 x1 I J).bind fun o => f_X12_named_6 x1 x2 o.2.1 o.2.2
def f_X12_named_4 (x1 : Int32) (x2 : Int32) (I : xI) (J : xJ) : Option ((Int32 × Int32 × xI × xJ) ⊕ (Int32 × xI × xJ)) := some (.inl (x1, ((x2 + 1)), I, J))
def f_X12_named_3 (x1 : Int32) (x2 : Int32) (I : xI) (J : xJ) : Option (Int32 × xI × xJ) := some (x2, I, J)
def f_X12_named_2 (x1 : Int32) (x2 : Int32) (I : xI) (J : xJ) : Option ((Int32 × Int32 × xI × xJ) ⊕ (Int32 × xI × xJ)) := if x2 < 0 ∨ 6 ≤ x2.toNatClampNeg then none else if x1 < 0 ∨ 403 ≤ x1.toNatClampNeg then none else if (lg_cmp ((J 69 x2.toNatClampNeg)) ((J 67 x1.toNatClampNeg))) = 0 then ((f_X12_named_3 x1 x2 I J)).map .inr else f_X12_named_4 x1 x2 I J
def b_X12_named_1 (x1 : Int32) (x2 : Int32) (I : xI) (J : xJ) : Option ((Int32 × Int32 × xI × xJ) ⊕ (Int32 × xI × xJ)) := if (I 61 19) ≤ x2 then ((f_X12_named_5 x1 x2 I J)).map .inr else f_X12_named_2 x1 x2 I J
def f_X12_named_1 (x1 : Int32) (x2 : Int32) (I : xI) (J : xJ) : Option (Int32 × xI × xJ) := xloop (fun s : Int32 × Int32 × xI × xJ => b_X12_named_1 s.1 s.2.1 s.2.2.1 s.2.2.2) 5000 (x1, x2, I, J)
def f_X12_named_0 (x1 : Int32) (I : xI) (J : xJ) : Option (Int32 × xI × xJ) := f_X12_named_1 x1 0 I J
def f_X12_named (x1 : Int32) (I : xI) (J : xJ) : Option (Int32 × xI × xJ) := f_X12_named_0 x1 I J
theorem p_X12_named_6 {L : Nat} {xs : Nat → Int32} {d : Nat} {Q : xO → Prop} (x1 : Int32) (x2 : Int32) (I : xI) (J : xJ) {t : Int32 × xI × xJ} (h : f_X12_named_6 x1 x2 I J = some t) (hC : (c_X12_named Q) t) : Rn L xs (d + 2) 203 40 [some (.ref 61), some (.int x1), some (.int x2)] [] 94 (I, J, xrf) Q := by
  unfold f_X12_named_6 at h
  cases h
  exact Rn.ret 2 (o := ((some (.int 0)), 94, (I, J, xrf))) (fun f => rfl) hC
theorem p_X12_named_5 {L : Nat} {xs : Nat → Int32} {d : Nat} {Q : xO → Prop} (x1 : Int32) (x2 : Int32) (I : xI) (J : xJ) {t : Int32 × xI × xJ} (h : f_X12_named_5 x1 x2 I J = some t) (hC : (c_X12_named Q) t) : Rn L xs (d + 2) 203 34 [some (.ref 61), some (.int x1), some (.int x2)] [] 94 (I, J, xrf) Q := by
  unfold f_X12_named_5 at h
  refine Rn.go 3 (j' := 203) (pc' := 37) (ls' := [some (.ref 61), some (.int x1), some (.int x2)]) (st' := [.int x1, .int 4, .ref 61]) (n' := 94) (M' := (I, J, xrf)) (fun f => rfl) ?_
  obtain ⟨o, ho, h⟩ := Option.bind_eq_some_iff.mp h
  refine Rn.call (d1 := d + 1) (j1 := 196) (ls1 := [some (.ref 61), some (.int 4), some (.int x1), none]) (rest := []) (fun f => rfl) ?_
  refine p_X12_wrong (d := d + 0) 4 x1 I J (t := o) ho ?_
  exact p_X12_named_6 x1 x2 o.2.1 o.2.2 h hC
theorem p_X12_named_4 {L : Nat} {xs : Nat → Int32} {d : Nat} {Q : xO → Prop} (x1 : Int32) (x2 : Int32) (I : xI) (J : xJ) {t : (Int32 × Int32 × xI × xJ) ⊕ (Int32 × xI × xJ)} (h : f_X12_named_4 x1 x2 I J = some t) (hC : (c_X12_named_1 L xs d Q) t) : Rn L xs (d + 2) 203 28 [some (.ref 61), some (.int x1), some (.int x2)] [] 94 (I, J, xrf) Q := by
  unfold f_X12_named_4 at h
  refine Rn.go 2 (j' := 203) (pc' := 2) (ls' := [some (.ref 61), some (.int x1), some (.int ((x2 + 1)))]) (st' := []) (n' := 94) (M' := (I, J, xrf)) (fun f => rfl) ?_
  cases h; exact hC
theorem p_X12_named_3 {L : Nat} {xs : Nat → Int32} {d : Nat} {Q : xO → Prop} (x1 : Int32) (x2 : Int32) (I : xI) (J : xJ) {t : Int32 × xI × xJ} (h : f_X12_named_3 x1 x2 I J = some t) (hC : (c_X12_named Q) t) : Rn L xs (d + 2) 203 26 [some (.ref 61), some (.int x1), some (.int x2)] [] 94 (I, J, xrf) Q := by
  unfold f_X12_named_3 at h
  cases h
  exact Rn.ret 2 (o := ((some (.int x2)), 94, (I, J, xrf))) (fun f => rfl) hC
theorem p_X12_named_2 {L : Nat} {xs : Nat → Int32} {d : Nat} {Q : xO → Prop} (x1 : Int32) (x2 : Int32) (I : xI) (J : xJ) {t : (Int32 × Int32 × xI × xJ) ⊕ (Int32 × xI × xJ)} (h : f_X12_named_2 x1 x2 I J = some t) (hC : (c_X12_named_1 L xs d Q) t) : Rn L xs (d + 2) 203 10 [some (.ref 61), some (.int x1), some (.int x2)] [] 94 (I, J, xrf) Q := by
  unfold f_X12_named_2 at h
  obtain ⟨hc, h⟩ := xif h
  refine Rn.ok 4 (c := x2 < 0 ∨ 6 ≤ x2.toNatClampNeg) (p1 := 16) (l1 := [some (.ref 61), some (.int x1), some (.int x2)]) (s1 := [.long ((J 69 x2.toNatClampNeg))]) (n1 := 94) (M1 := (I, J, xrf)) (fun f => rfl) hc ?_
  obtain ⟨hc, h⟩ := xif h
  refine Rn.ok 4 (c := x1 < 0 ∨ 403 ≤ x1.toNatClampNeg) (p1 := 22) (l1 := [some (.ref 61), some (.int x1), some (.int x2)]) (s1 := [.long ((J 67 x1.toNatClampNeg)), .long ((J 69 x2.toNatClampNeg))]) (n1 := 94) (M1 := (I, J, xrf)) (fun f => rfl) hc ?_
  refine Rn.fi 2 (c := (lg_cmp ((J 69 x2.toNatClampNeg)) ((J 67 x1.toNatClampNeg))) = 0) (p1 := 26) (l1 := [some (.ref 61), some (.int x1), some (.int x2)]) (s1 := []) (n1 := 94) (M1 := (I, J, xrf)) (p2 := 28) (l2 := [some (.ref 61), some (.int x1), some (.int x2)]) (s2 := []) (n2 := 94) (M2 := (I, J, xrf)) (fun f => rfl) (fun hc => ?_) (fun hc => ?_)
  · rw [if_pos hc] at h
    obtain ⟨t0, h0, rfl⟩ := Option.map_eq_some_iff.mp h
    exact p_X12_named_3 x1 x2 I J h0 hC
  · rw [if_neg hc] at h
    exact p_X12_named_4 x1 x2 I J h hC
theorem q_X12_named_1 {L : Nat} {xs : Nat → Int32} {d : Nat} {Q : xO → Prop} (x1 : Int32) (x2 : Int32) (I : xI) (J : xJ) {t : (Int32 × Int32 × xI × xJ) ⊕ (Int32 × xI × xJ)} (h : b_X12_named_1 x1 x2 I J = some t) (hC : (c_X12_named_1 L xs d Q) t) : Rn L xs (d + 2) 203 2 [some (.ref 61), some (.int x1), some (.int x2)] [] 94 (I, J, xrf) Q := by
  unfold b_X12_named_1 at h
  refine Rn.fi 4 (c := (I 61 19) ≤ x2) (p1 := 34) (l1 := [some (.ref 61), some (.int x1), some (.int x2)]) (s1 := []) (n1 := 94) (M1 := (I, J, xrf)) (p2 := 10) (l2 := [some (.ref 61), some (.int x1), some (.int x2)]) (s2 := []) (n2 := 94) (M2 := (I, J, xrf)) (fun f => rfl) (fun hc => ?_) (fun hc => ?_)
  · rw [if_pos hc] at h
    obtain ⟨t0, h0, rfl⟩ := Option.map_eq_some_iff.mp h
    exact p_X12_named_5 x1 x2 I J h0 hC
  · rw [if_neg hc] at h
    exact p_X12_named_2 x1 x2 I J h hC
theorem p_X12_named_1 {L : Nat} {xs : Nat → Int32} {d : Nat} {Q : xO → Prop} (x1 : Int32) (x2 : Int32) (I : xI) (J : xJ) {t : Int32 × xI × xJ} (h : f_X12_named_1 x1 x2 I J = some t) (hC : (c_X12_named Q) t) : Rn L xs (d + 2) 203 2 [some (.ref 61), some (.int x1), some (.int x2)] [] 94 (I, J, xrf) Q := by
  unfold f_X12_named_1 at h
  exact xloop_some (P := fun s : Int32 × Int32 × xI × xJ => Rn L xs (d + 2) 203 2 [some (.ref 61), some (.int s.1), some (.int s.2.1)] [] 94 (s.2.2.1, s.2.2.2, xrf) Q) t (fun s ⟨s', hb, hp⟩ => q_X12_named_1 s.1 s.2.1 s.2.2.1 s.2.2.2 hb hp) (fun s hb => q_X12_named_1 s.1 s.2.1 s.2.2.1 s.2.2.2 hb hC) _ _ h
theorem p_X12_named_0 {L : Nat} {xs : Nat → Int32} {d : Nat} {Q : xO → Prop} (x1 : Int32) (I : xI) (J : xJ) {t : Int32 × xI × xJ} (h : f_X12_named_0 x1 I J = some t) (hC : (c_X12_named Q) t) : Rn L xs (d + 2) 203 0 [some (.ref 61), some (.int x1), none] [] 94 (I, J, xrf) Q := by
  unfold f_X12_named_0 at h
  refine Rn.go 2 (j' := 203) (pc' := 2) (ls' := [some (.ref 61), some (.int x1), some (.int 0)]) (st' := []) (n' := 94) (M' := (I, J, xrf)) (fun f => rfl) ?_
  exact p_X12_named_1 x1 0 I J h hC
theorem p_X12_named {L : Nat} {xs : Nat → Int32} {d : Nat} {Q : xO → Prop} (x1 : Int32) (I : xI) (J : xJ) {t : Int32 × xI × xJ} (h : f_X12_named x1 I J = some t) (hC : Q ((some (.int t.1)), 94, (t.2.1, t.2.2, xrf))) : Rn L xs (d + 2) 203 0 [some (.ref 61), some (.int x1), none] [] 94 (I, J, xrf) Q := p_X12_named_0 x1 I J h hC
/-! X12_bounded -/
def c_X12_bounded (Q : xO → Prop) (t : Int32 × xI × xJ) : Prop := Q ((some (.int t.1)), 94, (t.2.1, t.2.2, xrf))
def f_X12_bounded_4 (x1 : Int32) (x2 : Int32) (x3 : Int32) (I : xI) (J : xJ) : Option (Int32 × xI × xJ) := some (x2, I, J)
def f_X12_bounded_3 (x1 : Int32) (x2 : Int32) (x3 : Int32) (I : xI) (J : xJ) : Option (Int32 × xI × xJ) := (f_X12_wrong 5 x1 I J).bind fun o => f_X12_bounded_4 x1 x2 x3 o.2.1 o.2.2
def f_X12_bounded_2 (x1 : Int32) (x2 : Int32) (x3 : Int32) (I : xI) (J : xJ) : Option (Int32 × xI × xJ) := if x1 < 0 ∨ 403 ≤ x1.toNatClampNeg then none else some ((I 66 x1.toNatClampNeg), I, J)
def f_X12_bounded_1 (x1 : Int32) (x2 : Int32) (x3 : Int32) (s0 : Int32) (I : xI) (J : xJ) : Option (Int32 × xI × xJ) := if s0 = 0 then f_X12_bounded_3 x1 x2 x3 I J else f_X12_bounded_2 x1 x2 x3 I J
def f_X12_bounded_0 (x1 : Int32) (x2 : Int32) (x3 : Int32) (I : xI) (J : xJ) : Option (Int32 × xI × xJ) := if x1 < 0 ∨ 403 ≤ x1.toNatClampNeg then none else (f_X12_in ((I 66 x1.toNatClampNeg)) x2 x3 I J).bind fun o => f_X12_bounded_1 x1 x2 x3 o.1 o.2.1 o.2.2
def f_X12_bounded (x1 : Int32) (x2 : Int32) (x3 : Int32) (I : xI) (J : xJ) : Option (Int32 × xI × xJ) := f_X12_bounded_0 x1 x2 x3 I J
theorem p_X12_bounded_4 {L : Nat} {xs : Nat → Int32} {d : Nat} {Q : xO → Prop} (x1 : Int32) (x2 : Int32) (x3 : Int32) (I : xI) (J : xJ) {t : Int32 × xI × xJ} (h : f_X12_bounded_4 x1 x2 x3 I J = some t) (hC : (c_X12_bounded Q) t) : Rn L xs (d + 2) 204 27 [some (.ref 61), some (.int x1), some (.int x2), some (.int x3)] [] 94 (I, J, xrf) Q := by
  unfold f_X12_bounded_4 at h
  cases h
  exact Rn.ret 2 (o := ((some (.int x2)), 94, (I, J, xrf))) (fun f => rfl) hC
theorem p_X12_bounded_3 {L : Nat} {xs : Nat → Int32} {d : Nat} {Q : xO → Prop} (x1 : Int32) (x2 : Int32) (x3 : Int32) (I : xI) (J : xJ) {t : Int32 × xI × xJ} (h : f_X12_bounded_3 x1 x2 x3 I J = some t) (hC : (c_X12_bounded Q) t) : Rn L xs (d + 2) 204 21 [some (.ref 61), some (.int x1), some (.int x2), some (.int x3)] [] 94 (I, J, xrf) Q := by
  unfold f_X12_bounded_3 at h
  refine Rn.go 3 (j' := 204) (pc' := 24) (ls' := [some (.ref 61), some (.int x1), some (.int x2), some (.int x3)]) (st' := [.int x1, .int 5, .ref 61]) (n' := 94) (M' := (I, J, xrf)) (fun f => rfl) ?_
  obtain ⟨o, ho, h⟩ := Option.bind_eq_some_iff.mp h
  refine Rn.call (d1 := d + 1) (j1 := 196) (ls1 := [some (.ref 61), some (.int 5), some (.int x1), none]) (rest := []) (fun f => rfl) ?_
  refine p_X12_wrong (d := d + 0) 5 x1 I J (t := o) ho ?_
  exact p_X12_bounded_4 x1 x2 x3 o.2.1 o.2.2 h hC
theorem p_X12_bounded_2 {L : Nat} {xs : Nat → Int32} {d : Nat} {Q : xO → Prop} (x1 : Int32) (x2 : Int32) (x3 : Int32) (I : xI) (J : xJ) {t : Int32 × xI × xJ} (h : f_X12_bounded_2 x1 x2 x3 I J = some t) (hC : (c_X12_bounded Q) t) : Rn L xs (d + 2) 204 14 [some (.ref 61), some (.int x1), some (.int x2), some (.int x3)] [] 94 (I, J, xrf) Q := by
  unfold f_X12_bounded_2 at h
  obtain ⟨hc, h⟩ := xif h
  refine Rn.ok 4 (c := x1 < 0 ∨ 403 ≤ x1.toNatClampNeg) (p1 := 20) (l1 := [some (.ref 61), some (.int x1), some (.int x2), some (.int x3)]) (s1 := [.int ((I 66 x1.toNatClampNeg))]) (n1 := 94) (M1 := (I, J, xrf)) (fun f => rfl) hc ?_
  cases h
  exact Rn.ret 1 (o := ((some (.int ((I 66 x1.toNatClampNeg)))), 94, (I, J, xrf))) (fun f => rfl) hC
theorem p_X12_bounded_1 {L : Nat} {xs : Nat → Int32} {d : Nat} {Q : xO → Prop} (x1 : Int32) (x2 : Int32) (x3 : Int32) (s0 : Int32) (I : xI) (J : xJ) {t : Int32 × xI × xJ} (h : f_X12_bounded_1 x1 x2 x3 s0 I J = some t) (hC : (c_X12_bounded Q) t) : Rn L xs (d + 2) 204 11 [some (.ref 61), some (.int x1), some (.int x2), some (.int x3)] [.int s0] 94 (I, J, xrf) Q := by
  unfold f_X12_bounded_1 at h
  refine Rn.fi 1 (c := s0 = 0) (p1 := 21) (l1 := [some (.ref 61), some (.int x1), some (.int x2), some (.int x3)]) (s1 := []) (n1 := 94) (M1 := (I, J, xrf)) (p2 := 14) (l2 := [some (.ref 61), some (.int x1), some (.int x2), some (.int x3)]) (s2 := []) (n2 := 94) (M2 := (I, J, xrf)) (fun f => rfl) (fun hc => ?_) (fun hc => ?_)
  · rw [if_pos hc] at h
    exact p_X12_bounded_3 x1 x2 x3 I J h hC
  · rw [if_neg hc] at h
    exact p_X12_bounded_2 x1 x2 x3 I J h hC
theorem p_X12_bounded_0 {L : Nat} {xs : Nat → Int32} {d : Nat} {Q : xO → Prop} (x1 : Int32) (x2 : Int32) (x3 : Int32) (I : xI) (J : xJ) {t : Int32 × xI × xJ} (h : f_X12_bounded_0 x1 x2 x3 I J = some t) (hC : (c_X12_bounded Q) t) : Rn L xs (d + 2) 204 0 [some (.ref 61), some (.int x1), some (.int x2), some (.int x3)] [] 94 (I, J, xrf) Q := by
  unfold f_X12_bounded_0 at h
  obtain ⟨hc, h⟩ := xif h
  refine Rn.ok 4 (c := x1 < 0 ∨ 403 ≤ x1.toNatClampNeg) (p1 := 6) (l1 := [some (.ref 61), some (.int x1), some (.int x2), some (.int x3)]) (s1 := [.int ((I 66 x1.toNatClampNeg))]) (n1 := 94) (M1 := (I, J, xrf)) (fun f => rfl) hc ?_
  refine Rn.go 2 (j' := 204) (pc' := 8) (ls' := [some (.ref 61), some (.int x1), some (.int x2), some (.int x3)]) (st' := [.int x3, .int x2, .int ((I 66 x1.toNatClampNeg))]) (n' := 94) (M' := (I, J, xrf)) (fun f => rfl) ?_
  obtain ⟨o, ho, h⟩ := Option.bind_eq_some_iff.mp h
  refine Rn.call (d1 := d + 1) (j1 := 206) (ls1 := [some (.int ((I 66 x1.toNatClampNeg))), some (.int x2), some (.int x3)]) (rest := []) (fun f => rfl) ?_
  refine p_X12_in (d := d + 0) ((I 66 x1.toNatClampNeg)) x2 x3 I J (t := o) ho ?_
  exact p_X12_bounded_1 x1 x2 x3 o.1 o.2.1 o.2.2 h hC
theorem p_X12_bounded {L : Nat} {xs : Nat → Int32} {d : Nat} {Q : xO → Prop} (x1 : Int32) (x2 : Int32) (x3 : Int32) (I : xI) (J : xJ) {t : Int32 × xI × xJ} (h : f_X12_bounded x1 x2 x3 I J = some t) (hC : Q ((some (.int t.1)), 94, (t.2.1, t.2.2, xrf))) : Rn L xs (d + 2) 204 0 [some (.ref 61), some (.int x1), some (.int x2), some (.int x3)] [] 94 (I, J, xrf) Q := p_X12_bounded_0 x1 x2 x3 I J h hC
/-! X12_means -/
def c_X12_means (Q : xO → Prop) (t : Unit × xI × xJ) : Prop := Q (none, 94, (t.2.1, t.2.2, xrf))
def c_X12_means_7 (L : Nat) (xs : Nat → Int32) (d : Nat) (Q : xO → Prop) (t : (Int32 × Int32 × (Option Value) × xI × xJ) ⊕ (Unit × xI × xJ)) : Prop := match t with
  | .inl s => Rn L xs (d + 3) 205 50 [some (.ref 61), some (.int s.1), some (.int s.2.1), s.2.2.1] [] 94 (s.2.2.2.1, s.2.2.2.2, xrf) Q
  | .inr t => (c_X12_means Q) t
def c_X12_means_11 (L : Nat) (xs : Nat → Int32) (d : Nat) (Q : xO → Prop) (t : (Int32 × Int32 × Int32 × xI × xJ) ⊕ ((Int32 × Int32 × (Option Value) × xI × xJ) ⊕ (Unit × xI × xJ))) : Prop := match t with
  | .inl s => Rn L xs (d + 3) 205 102 [some (.ref 61), some (.int s.1), some (.int s.2.1), some (.int s.2.2.1)] [] 94 (s.2.2.2.1, s.2.2.2.2, xrf) Q
  | .inr t => (c_X12_means_7 L xs d Q) t
def c_X12_means_4 (L : Nat) (xs : Nat → Int32) (d : Nat) (Q : xO → Prop) (t : (Int32 × xI × xJ) ⊕ (Unit × xI × xJ)) : Prop := match t with
  | .inl s => Rn L xs (d + 3) 205 24 [some (.ref 61), some (.int s.1), none, none] [] 94 (s.2.1, s.2.2, xrf) Q
  | .inr t => (c_X12_means Q) t
def c_X12_means_1 (L : Nat) (xs : Nat → Int32) (d : Nat) (Q : xO → Prop) (t : (Int32 × xI × xJ) ⊕ (Unit × xI × xJ)) : Prop := match t with
  | .inl s => Rn L xs (d + 3) 205 2 [some (.ref 61), some (.int s.1), none, none] [] 94 (s.2.1, s.2.2, xrf) Q
  | .inr t => (c_X12_means Q) t
def f_X12_means_33 (x1 : Int32) (x2 : Int32) (z3 : Option Value) (I : xI) (J : xJ) : Option (Unit × xI × xJ) := some ((), I, J)
def f_X12_means_32 (x1 : Int32) (x2 : Int32) (z3 : Option Value) (I : xI) (J : xJ) : Option ((Int32 × Int32 × (Option Value) × xI × xJ) ⊕ (Unit × xI × xJ)) := some (.inl (x1, ((x2 + 1)), z3, I, J))
def f_X12_means_15 (x1 : Int32) (x2 : Int32) (x3 : Int32) (I : xI) (J : xJ) : Option ((Int32 × Int32 × (Option Value) × xI × xJ) ⊕ (Unit × xI × xJ)) := f_X12_means_32 ((x1 + 1)) x2 (some (.int x3)) I J
def f_X12_means_14 (x1 : Int32) (x2 : Int32) (x3 : Int32) (I : xI) (J : xJ) : Option ((Int32 × Int32 × Int32 × xI × xJ) ⊕ ((Int32 × Int32 × (Option Value) × xI × xJ) ⊕ (Unit × xI × xJ))) := some (.inl (x1, x2, ((x3 + 1)), I, J))
def f_X12_means_13 (x1 : Int32) (x2 : Int32) (x3 : Int32) (I : xI) (J : xJ) : Option ((Int32 × Int32 × Int32 × xI × xJ) ⊕ ((Int32 × Int32 × (Option Value) × xI × xJ) ⊕ (Unit × xI × xJ))) := (f_X12_wrong 3 ((x2 + 1)) I J).bind fun o => f_X12_means_14 x1 x2 x3 o.2.1 o.2.2
def f_X12_means_12 (x1 : Int32) (x2 : Int32) (x3 : Int32) (I : xI) (J : xJ) : Option ((Int32 × Int32 × Int32 × xI × xJ) ⊕ ((Int32 × Int32 × (Option Value) × xI × xJ) ⊕ (Unit × xI × xJ))) := if x3 < 0 ∨ 6 ≤ x3.toNatClampNeg then none else if x1 < 0 ∨ 6 ≤ x1.toNatClampNeg then none else if (lg_cmp ((J 69 x3.toNatClampNeg)) ((J 69 x1.toNatClampNeg))) = 0 then f_X12_means_13 x1 x2 x3 I J else f_X12_means_14 x1 x2 x3 I J
def b_X12_means_11 (x1 : Int32) (x2 : Int32) (x3 : Int32) (I : xI) (J : xJ) : Option ((Int32 × Int32 × Int32 × xI × xJ) ⊕ ((Int32 × Int32 × (Option Value) × xI × xJ) ⊕ (Unit × xI × xJ))) := if x1 ≤ x3 then ((f_X12_means_15 x1 x2 x3 I J)).map .inr else f_X12_means_12 x1 x2 x3 I J
def f_X12_means_11 (x1 : Int32) (x2 : Int32) (x3 : Int32) (I : xI) (J : xJ) : Option ((Int32 × Int32 × (Option Value) × xI × xJ) ⊕ (Unit × xI × xJ)) := xloop (fun s : Int32 × Int32 × Int32 × xI × xJ => b_X12_means_11 s.1 s.2.1 s.2.2.1 s.2.2.2.1 s.2.2.2.2) 5000 (x1, x2, x3, I, J)
def f_X12_means_10 (x1 : Int32) (x2 : Int32) (z3 : Option Value) (I : xI) (J : xJ) : Option ((Int32 × Int32 × (Option Value) × xI × xJ) ⊕ (Unit × xI × xJ)) := f_X12_means_11 x1 x2 0 I J
def f_X12_means_17 (x1 : Int32) (x2 : Int32) (z3 : Option Value) (s0 : Int32) (I : xI) (J : xJ) : Option ((Int32 × Int32 × (Option Value) × xI × xJ) ⊕ (Unit × xI × xJ)) := f_X12_means_32 x1 x2 z3 I J
def f_X12_means_16 (x1 : Int32) (x2 : Int32) (z3 : Option Value) (I : xI) (J : xJ) : Option ((Int32 × Int32 × (Option Value) × xI × xJ) ⊕ (Unit × xI × xJ)) := (f_X12_bounded ((x2 + 1)) 1 4 I J).bind fun o => f_X12_means_17 x1 x2 z3 o.1 o.2.1 o.2.2
def f_X12_means_28 (x1 : Int32) (x2 : Int32) (x3 : Int32) (s1 : Int32) (s2 : Int32) (I : xI) (J : xJ) : Option ((Int32 × Int32 × (Option Value) × xI × xJ) ⊕ (Unit × xI × xJ)) := if s1 < 0 ∨ 54 ≤ s1.toNatClampNeg then none else f_X12_means_32 x1 x2 (some (.int x3)) ((xup I 71 s1.toNatClampNeg s2)) J
def f_X12_means_27 (x1 : Int32) (x2 : Int32) (x3 : Int32) (s1 : Int32) (I : xI) (J : xJ) : Option ((Int32 × Int32 × (Option Value) × xI × xJ) ⊕ (Unit × xI × xJ)) := f_X12_means_28 x1 x2 x3 s1 ((-2)) I J
def f_X12_means_26 (x1 : Int32) (x2 : Int32) (x3 : Int32) (s1 : Int32) (s2 : Int32) (I : xI) (J : xJ) : Option ((Int32 × Int32 × (Option Value) × xI × xJ) ⊕ (Unit × xI × xJ)) := f_X12_means_28 x1 x2 x3 s1 s2 I J
def f_X12_means_25 (x1 : Int32) (x2 : Int32) (x3 : Int32) (s1 : Int32) (I : xI) (J : xJ) : Option ((Int32 × Int32 × (Option Value) × xI × xJ) ⊕ (Unit × xI × xJ)) := (f_X12_bounded ((x2 + 4)) 0 3 I J).bind fun o => f_X12_means_26 x1 x2 x3 s1 o.1 o.2.1 o.2.2
def f_X12_means_24 (x1 : Int32) (x2 : Int32) (x3 : Int32) (s1 : Int32) (s2 : Int32) (I : xI) (J : xJ) : Option ((Int32 × Int32 × (Option Value) × xI × xJ) ⊕ (Unit × xI × xJ)) := if s1 < 0 ∨ 54 ≤ s1.toNatClampNeg then none else if (x2 + 4) < 0 ∨ 403 ≤ ((x2 + 4)).toNatClampNeg then none else if (((xup I 71 s1.toNatClampNeg s2)) 64 ((x2 + 4)).toNatClampNeg) = 2 then f_X12_means_25 x1 x2 x3 ((24 + x3)) ((xup I 71 s1.toNatClampNeg s2)) J else f_X12_means_27 x1 x2 x3 ((24 + x3)) ((xup I 71 s1.toNatClampNeg s2)) J
def f_X12_means_23 (x1 : Int32) (x2 : Int32) (x3 : Int32) (s1 : Int32) (I : xI) (J : xJ) : Option ((Int32 × Int32 × (Option Value) × xI × xJ) ⊕ (Unit × xI × xJ)) := f_X12_means_24 x1 x2 x3 s1 ((-2)) I J
def f_X12_means_22 (x1 : Int32) (x2 : Int32) (x3 : Int32) (s1 : Int32) (s2 : Int32) (I : xI) (J : xJ) : Option ((Int32 × Int32 × (Option Value) × xI × xJ) ⊕ (Unit × xI × xJ)) := f_X12_means_24 x1 x2 x3 s1 s2 I J
def f_X12_means_21 (x1 : Int32) (x2 : Int32) (x3 : Int32) (s1 : Int32) (I : xI) (J : xJ) : Option ((Int32 × Int32 × (Option Value) × xI × xJ) ⊕ (Unit × xI × xJ)) := (f_X12_named ((x2 + 3)) I J).bind fun o => f_X12_means_22 x1 x2 x3 s1 o.1 o.2.1 o.2.2
def f_X12_means_20 (x1 : Int32) (x2 : Int32) (z3 : Option Value) (s0 : Int32) (s1 : Int32) (I : xI) (J : xJ) : Option ((Int32 × Int32 × (Option Value) × xI × xJ) ⊕ (Unit × xI × xJ)) := if (x2 + 3) < 0 ∨ 403 ≤ ((x2 + 3)).toNatClampNeg then none else if (I 64 ((x2 + 3)).toNatClampNeg) = 1 then f_X12_means_21 x1 x2 ((s0 + s1)) ((s0 + s1)) I J else f_X12_means_23 x1 x2 ((s0 + s1)) ((s0 + s1)) I J
def f_X12_means_19 (x1 : Int32) (x2 : Int32) (z3 : Option Value) (s0 : Int32) (s1 : Int32) (I : xI) (J : xJ) : Option ((Int32 × Int32 × (Option Value) × xI × xJ) ⊕ (Unit × xI × xJ)) := (f_X12_bounded ((x2 + 2)) 0 (((I 61 20) - 1)) I J).bind fun o => f_X12_means_20 x1 x2 z3 ((s0 * s1)) o.1 o.2.1 o.2.2
def f_X12_means_18 (x1 : Int32) (x2 : Int32) (z3 : Option Value) (I : xI) (J : xJ) : Option ((Int32 × Int32 × (Option Value) × xI × xJ) ⊕ (Unit × xI × xJ)) := (f_X12_named ((x2 + 1)) I J).bind fun o => f_X12_means_19 x1 x2 z3 4 o.1 o.2.1 o.2.2
def f_X12_means_31 (x1 : Int32) (x2 : Int32) (z3 : Option Value) (s1 : Int32) (s2 : Int32) (I : xI) (J : xJ) : Option ((Int32 × Int32 × (Option Value) × xI × xJ) ⊕ (Unit × xI × xJ)) := if s1 < 0 ∨ 54 ≤ s1.toNatClampNeg then none else f_X12_means_32 x1 x2 z3 ((xup I 71 s1.toNatClampNeg s2)) J
def f_X12_means_30 (x1 : Int32) (x2 : Int32) (z3 : Option Value) (s1 : Int32) (s2 : Int32) (I : xI) (J : xJ) : Option ((Int32 × Int32 × (Option Value) × xI × xJ) ⊕ (Unit × xI × xJ)) := (f_X12_bounded ((x2 + 2)) 0 7 I J).bind fun o => f_X12_means_31 x1 x2 z3 ((s1 + s2)) o.1 o.2.1 o.2.2
def f_X12_means_29 (x1 : Int32) (x2 : Int32) (z3 : Option Value) (I : xI) (J : xJ) : Option ((Int32 × Int32 × (Option Value) × xI × xJ) ⊕ (Unit × xI × xJ)) := (f_X12_named ((x2 + 1)) I J).bind fun o => f_X12_means_30 x1 x2 z3 48 o.1 o.2.1 o.2.2
def f_X12_means_9 (x1 : Int32) (x2 : Int32) (z3 : Option Value) (s0 : Int32) (I : xI) (J : xJ) : Option ((Int32 × Int32 × (Option Value) × xI × xJ) ⊕ (Unit × xI × xJ)) := if s0 = 20 then f_X12_means_10 x1 x2 z3 I J else if s0 = 21 then f_X12_means_16 x1 x2 z3 I J else if s0 = 22 then f_X12_means_18 x1 x2 z3 I J else if s0 = 23 then f_X12_means_32 x1 x2 z3 I J else if s0 = 24 then f_X12_means_29 x1 x2 z3 I J else f_X12_means_32 x1 x2 z3 I J
def f_X12_means_8 (x1 : Int32) (x2 : Int32) (z3 : Option Value) (I : xI) (J : xJ) : Option ((Int32 × Int32 × (Option Value) × xI × xJ) ⊕ (Unit × xI × xJ)) := if x2 < 0 ∨ 403 ≤ x2.toNatClampNeg then none else f_X12_means_9 x1 x2 z3 ((I 64 x2.toNatClampNeg)) I J
def b_X12_means_7 (x1 : Int32) (x2 : Int32) (z3 : Option Value) (I : xI) (J : xJ) : Option ((Int32 × Int32 × (Option Value) × xI × xJ) ⊕ (Unit × xI × xJ)) := if (I 61 10) ≤ x2 then ((f_X12_means_33 x1 x2 z3 I J)).map .inr else f_X12_means_8 x1 x2 z3 I J
def f_X12_means_7 (x1 : Int32) (x2 : Int32) (z3 : Option Value) (I : xI) (J : xJ) : Option (Unit × xI × xJ) := xloop (fun s : Int32 × Int32 × (Option Value) × xI × xJ => b_X12_means_7 s.1 s.2.1 s.2.2.1 s.2.2.2.1 s.2.2.2.2) 5000 (x1, x2, z3, I, J)
def f_X12_means_6 (x1 : Int32) (I : xI) (J : xJ) : Option (Unit × xI × xJ) := f_X12_means_7 0 0 none I J
def f_X12_means_5 (x1 : Int32) (I : xI) (J : xJ) : Option ((Int32 × xI × xJ) ⊕ (Unit × xI × xJ)) := if (48 + x1) < 0 ∨ 54 ≤ ((48 + x1)).toNatClampNeg then none else some (.inl (((x1 + 1)), ((xup I 71 ((48 + x1)).toNatClampNeg x1)), J))
def b_X12_means_4 (x1 : Int32) (I : xI) (J : xJ) : Option ((Int32 × xI × xJ) ⊕ (Unit × xI × xJ)) := if 6 ≤ x1 then ((f_X12_means_6 x1 I J)).map .inr else f_X12_means_5 x1 I J
def f_X12_means_4 (x1 : Int32) (I : xI) (J : xJ) : Option (Unit × xI × xJ) := xloop (fun s : Int32 × xI × xJ => b_X12_means_4 s.1 s.2.1 s.2.2) 5000 (x1, I, J)
def f_X12_means_3 (x1 : Int32) (I : xI) (J : xJ) : Option (Unit × xI × xJ) := f_X12_means_4 0 I J
def f_X12_means_2 (x1 : Int32) (I : xI) (J : xJ) : Option ((Int32 × xI × xJ) ⊕ (Unit × xI × xJ)) := if x1 < 0 ∨ 54 ≤ x1.toNatClampNeg then none else some (.inl (((x1 + 1)), ((xup I 71 x1.toNatClampNeg ((-2)))), J))
def b_X12_means_1 (x1 : Int32) (I : xI) (J : xJ) : Option ((Int32 × xI × xJ) ⊕ (Unit × xI × xJ)) := if 48 ≤ x1 then ((f_X12_means_3 x1 I J)).map .inr else f_X12_means_2 x1 I J
def f_X12_means_1 (x1 : Int32) (I : xI) (J : xJ) : Option (Unit × xI × xJ) := xloop (fun s : Int32 × xI × xJ => b_X12_means_1 s.1 s.2.1 s.2.2) 5000 (x1, I, J)
def f_X12_means_0 (I : xI) (J : xJ) : Option (Unit × xI × xJ) := f_X12_means_1 0 I J
def f_X12_means (I : xI) (J : xJ) : Option (Unit × xI × xJ) := f_X12_means_0 I J
theorem p_X12_means_33 {L : Nat} {xs : Nat → Int32} {d : Nat} {Q : xO → Prop} (x1 : Int32) (x2 : Int32) (z3 : Option Value) (I : xI) (J : xJ) {t : Unit × xI × xJ} (h : f_X12_means_33 x1 x2 z3 I J = some t) (hC : (c_X12_means Q) t) : Rn L xs (d + 3) 205 283 [some (.ref 61), some (.int x1), some (.int x2), z3] [] 94 (I, J, xrf) Q := by
  unfold f_X12_means_33 at h
  cases h
  exact Rn.ret 1 (o := (none, 94, (I, J, xrf))) (fun f => rfl) hC
theorem p_X12_means_32 {L : Nat} {xs : Nat → Int32} {d : Nat} {Q : xO → Prop} (x1 : Int32) (x2 : Int32) (z3 : Option Value) (I : xI) (J : xJ) {t : (Int32 × Int32 × (Option Value) × xI × xJ) ⊕ (Unit × xI × xJ)} (h : f_X12_means_32 x1 x2 z3 I J = some t) (hC : (c_X12_means_7 L xs d Q) t) : Rn L xs (d + 3) 205 277 [some (.ref 61), some (.int x1), some (.int x2), z3] [] 94 (I, J, xrf) Q := by
  unfold f_X12_means_32 at h
  refine Rn.go 2 (j' := 205) (pc' := 50) (ls' := [some (.ref 61), some (.int x1), some (.int ((x2 + 1))), z3]) (st' := []) (n' := 94) (M' := (I, J, xrf)) (fun f => rfl) ?_
  cases h; exact hC
theorem p_X12_means_15 {L : Nat} {xs : Nat → Int32} {d : Nat} {Q : xO → Prop} (x1 : Int32) (x2 : Int32) (x3 : Int32) (I : xI) (J : xJ) {t : (Int32 × Int32 × (Option Value) × xI × xJ) ⊕ (Unit × xI × xJ)} (h : f_X12_means_15 x1 x2 x3 I J = some t) (hC : (c_X12_means_7 L xs d Q) t) : Rn L xs (d + 3) 205 137 [some (.ref 61), some (.int x1), some (.int x2), some (.int x3)] [] 94 (I, J, xrf) Q := by
  unfold f_X12_means_15 at h
  refine Rn.go 2 (j' := 205) (pc' := 277) (ls' := [some (.ref 61), some (.int ((x1 + 1))), some (.int x2), some (.int x3)]) (st' := []) (n' := 94) (M' := (I, J, xrf)) (fun f => rfl) ?_
  exact p_X12_means_32 ((x1 + 1)) x2 (some (.int x3)) I J h hC
theorem p_X12_means_14 {L : Nat} {xs : Nat → Int32} {d : Nat} {Q : xO → Prop} (x1 : Int32) (x2 : Int32) (x3 : Int32) (I : xI) (J : xJ) {t : (Int32 × Int32 × Int32 × xI × xJ) ⊕ ((Int32 × Int32 × (Option Value) × xI × xJ) ⊕ (Unit × xI × xJ))} (h : f_X12_means_14 x1 x2 x3 I J = some t) (hC : (c_X12_means_11 L xs d Q) t) : Rn L xs (d + 3) 205 131 [some (.ref 61), some (.int x1), some (.int x2), some (.int x3)] [] 94 (I, J, xrf) Q := by
  unfold f_X12_means_14 at h
  refine Rn.go 2 (j' := 205) (pc' := 102) (ls' := [some (.ref 61), some (.int x1), some (.int x2), some (.int ((x3 + 1)))]) (st' := []) (n' := 94) (M' := (I, J, xrf)) (fun f => rfl) ?_
  cases h; exact hC
theorem p_X12_means_13 {L : Nat} {xs : Nat → Int32} {d : Nat} {Q : xO → Prop} (x1 : Int32) (x2 : Int32) (x3 : Int32) (I : xI) (J : xJ) {t : (Int32 × Int32 × Int32 × xI × xJ) ⊕ ((Int32 × Int32 × (Option Value) × xI × xJ) ⊕ (Unit × xI × xJ))} (h : f_X12_means_13 x1 x2 x3 I J = some t) (hC : (c_X12_means_11 L xs d Q) t) : Rn L xs (d + 3) 205 123 [some (.ref 61), some (.int x1), some (.int x2), some (.int x3)] [] 94 (I, J, xrf) Q := by
  unfold f_X12_means_13 at h
  refine Rn.go 5 (j' := 205) (pc' := 128) (ls' := [some (.ref 61), some (.int x1), some (.int x2), some (.int x3)]) (st' := [.int ((x2 + 1)), .int 3, .ref 61]) (n' := 94) (M' := (I, J, xrf)) (fun f => rfl) ?_
  obtain ⟨o, ho, h⟩ := Option.bind_eq_some_iff.mp h
  refine Rn.call (d1 := d + 2) (j1 := 196) (ls1 := [some (.ref 61), some (.int 3), some (.int ((x2 + 1))), none]) (rest := []) (fun f => rfl) ?_
  refine p_X12_wrong (d := d + 1) 3 ((x2 + 1)) I J (t := o) ho ?_
  exact p_X12_means_14 x1 x2 x3 o.2.1 o.2.2 h hC
theorem p_X12_means_12 {L : Nat} {xs : Nat → Int32} {d : Nat} {Q : xO → Prop} (x1 : Int32) (x2 : Int32) (x3 : Int32) (I : xI) (J : xJ) {t : (Int32 × Int32 × Int32 × xI × xJ) ⊕ ((Int32 × Int32 × (Option Value) × xI × xJ) ⊕ (Unit × xI × xJ))} (h : f_X12_means_12 x1 x2 x3 I J = some t) (hC : (c_X12_means_11 L xs d Q) t) : Rn L xs (d + 3) 205 107 [some (.ref 61), some (.int x1), some (.int x2), some (.int x3)] [] 94 (I, J, xrf) Q := by
  unfold f_X12_means_12 at h
  obtain ⟨hc, h⟩ := xif h
  refine Rn.ok 4 (c := x3 < 0 ∨ 6 ≤ x3.toNatClampNeg) (p1 := 113) (l1 := [some (.ref 61), some (.int x1), some (.int x2), some (.int x3)]) (s1 := [.long ((J 69 x3.toNatClampNeg))]) (n1 := 94) (M1 := (I, J, xrf)) (fun f => rfl) hc ?_
  obtain ⟨hc, h⟩ := xif h
  refine Rn.ok 4 (c := x1 < 0 ∨ 6 ≤ x1.toNatClampNeg) (p1 := 119) (l1 := [some (.ref 61), some (.int x1), some (.int x2), some (.int x3)]) (s1 := [.long ((J 69 x1.toNatClampNeg)), .long ((J 69 x3.toNatClampNeg))]) (n1 := 94) (M1 := (I, J, xrf)) (fun f => rfl) hc ?_
  refine Rn.fi 2 (c := (lg_cmp ((J 69 x3.toNatClampNeg)) ((J 69 x1.toNatClampNeg))) = 0) (p1 := 123) (l1 := [some (.ref 61), some (.int x1), some (.int x2), some (.int x3)]) (s1 := []) (n1 := 94) (M1 := (I, J, xrf)) (p2 := 131) (l2 := [some (.ref 61), some (.int x1), some (.int x2), some (.int x3)]) (s2 := []) (n2 := 94) (M2 := (I, J, xrf)) (fun f => rfl) (fun hc => ?_) (fun hc => ?_)
  · rw [if_pos hc] at h
    exact p_X12_means_13 x1 x2 x3 I J h hC
  · rw [if_neg hc] at h
    exact p_X12_means_14 x1 x2 x3 I J h hC
theorem q_X12_means_11 {L : Nat} {xs : Nat → Int32} {d : Nat} {Q : xO → Prop} (x1 : Int32) (x2 : Int32) (x3 : Int32) (I : xI) (J : xJ) {t : (Int32 × Int32 × Int32 × xI × xJ) ⊕ ((Int32 × Int32 × (Option Value) × xI × xJ) ⊕ (Unit × xI × xJ))} (h : b_X12_means_11 x1 x2 x3 I J = some t) (hC : (c_X12_means_11 L xs d Q) t) : Rn L xs (d + 3) 205 102 [some (.ref 61), some (.int x1), some (.int x2), some (.int x3)] [] 94 (I, J, xrf) Q := by
  unfold b_X12_means_11 at h
  refine Rn.fi 3 (c := x1 ≤ x3) (p1 := 137) (l1 := [some (.ref 61), some (.int x1), some (.int x2), some (.int x3)]) (s1 := []) (n1 := 94) (M1 := (I, J, xrf)) (p2 := 107) (l2 := [some (.ref 61), some (.int x1), some (.int x2), some (.int x3)]) (s2 := []) (n2 := 94) (M2 := (I, J, xrf)) (fun f => rfl) (fun hc => ?_) (fun hc => ?_)
  · rw [if_pos hc] at h
    obtain ⟨t0, h0, rfl⟩ := Option.map_eq_some_iff.mp h
    exact p_X12_means_15 x1 x2 x3 I J h0 hC
  · rw [if_neg hc] at h
    exact p_X12_means_12 x1 x2 x3 I J h hC
theorem p_X12_means_11 {L : Nat} {xs : Nat → Int32} {d : Nat} {Q : xO → Prop} (x1 : Int32) (x2 : Int32) (x3 : Int32) (I : xI) (J : xJ) {t : (Int32 × Int32 × (Option Value) × xI × xJ) ⊕ (Unit × xI × xJ)} (h : f_X12_means_11 x1 x2 x3 I J = some t) (hC : (c_X12_means_7 L xs d Q) t) : Rn L xs (d + 3) 205 102 [some (.ref 61), some (.int x1), some (.int x2), some (.int x3)] [] 94 (I, J, xrf) Q := by
  unfold f_X12_means_11 at h
  exact xloop_some (P := fun s : Int32 × Int32 × Int32 × xI × xJ => Rn L xs (d + 3) 205 102 [some (.ref 61), some (.int s.1), some (.int s.2.1), some (.int s.2.2.1)] [] 94 (s.2.2.2.1, s.2.2.2.2, xrf) Q) t (fun s ⟨s', hb, hp⟩ => q_X12_means_11 s.1 s.2.1 s.2.2.1 s.2.2.2.1 s.2.2.2.2 hb hp) (fun s hb => q_X12_means_11 s.1 s.2.1 s.2.2.1 s.2.2.2.1 s.2.2.2.2 hb hC) _ _ h
theorem p_X12_means_10 {L : Nat} {xs : Nat → Int32} {d : Nat} {Q : xO → Prop} (x1 : Int32) (x2 : Int32) (z3 : Option Value) (I : xI) (J : xJ) {t : (Int32 × Int32 × (Option Value) × xI × xJ) ⊕ (Unit × xI × xJ)} (h : f_X12_means_10 x1 x2 z3 I J = some t) (hC : (c_X12_means_7 L xs d Q) t) : Rn L xs (d + 3) 205 100 [some (.ref 61), some (.int x1), some (.int x2), z3] [] 94 (I, J, xrf) Q := by
  unfold f_X12_means_10 at h
  refine Rn.go 2 (j' := 205) (pc' := 102) (ls' := [some (.ref 61), some (.int x1), some (.int x2), some (.int 0)]) (st' := []) (n' := 94) (M' := (I, J, xrf)) (fun f => rfl) ?_
  exact p_X12_means_11 x1 x2 0 I J h hC
theorem p_X12_means_17 {L : Nat} {xs : Nat → Int32} {d : Nat} {Q : xO → Prop} (x1 : Int32) (x2 : Int32) (z3 : Option Value) (s0 : Int32) (I : xI) (J : xJ) {t : (Int32 × Int32 × (Option Value) × xI × xJ) ⊕ (Unit × xI × xJ)} (h : f_X12_means_17 x1 x2 z3 s0 I J = some t) (hC : (c_X12_means_7 L xs d Q) t) : Rn L xs (d + 3) 205 152 [some (.ref 61), some (.int x1), some (.int x2), z3] [.int s0] 94 (I, J, xrf) Q := by
  unfold f_X12_means_17 at h
  refine Rn.go 2 (j' := 205) (pc' := 277) (ls' := [some (.ref 61), some (.int x1), some (.int x2), z3]) (st' := []) (n' := 94) (M' := (I, J, xrf)) (fun f => rfl) ?_
  exact p_X12_means_32 x1 x2 z3 I J h hC
theorem p_X12_means_16 {L : Nat} {xs : Nat → Int32} {d : Nat} {Q : xO → Prop} (x1 : Int32) (x2 : Int32) (z3 : Option Value) (I : xI) (J : xJ) {t : (Int32 × Int32 × (Option Value) × xI × xJ) ⊕ (Unit × xI × xJ)} (h : f_X12_means_16 x1 x2 z3 I J = some t) (hC : (c_X12_means_7 L xs d Q) t) : Rn L xs (d + 3) 205 143 [some (.ref 61), some (.int x1), some (.int x2), z3] [] 94 (I, J, xrf) Q := by
  unfold f_X12_means_16 at h
  refine Rn.go 6 (j' := 205) (pc' := 149) (ls' := [some (.ref 61), some (.int x1), some (.int x2), z3]) (st' := [.int 4, .int 1, .int ((x2 + 1)), .ref 61]) (n' := 94) (M' := (I, J, xrf)) (fun f => rfl) ?_
  obtain ⟨o, ho, h⟩ := Option.bind_eq_some_iff.mp h
  refine Rn.call (d1 := d + 2) (j1 := 204) (ls1 := [some (.ref 61), some (.int ((x2 + 1))), some (.int 1), some (.int 4)]) (rest := []) (fun f => rfl) ?_
  refine p_X12_bounded (d := d + 0) ((x2 + 1)) 1 4 I J (t := o) ho ?_
  exact p_X12_means_17 x1 x2 z3 o.1 o.2.1 o.2.2 h hC
theorem p_X12_means_28 {L : Nat} {xs : Nat → Int32} {d : Nat} {Q : xO → Prop} (x1 : Int32) (x2 : Int32) (x3 : Int32) (s1 : Int32) (s2 : Int32) (I : xI) (J : xJ) {t : (Int32 × Int32 × (Option Value) × xI × xJ) ⊕ (Unit × xI × xJ)} (h : f_X12_means_28 x1 x2 x3 s1 s2 I J = some t) (hC : (c_X12_means_7 L xs d Q) t) : Rn L xs (d + 3) 205 245 [some (.ref 61), some (.int x1), some (.int x2), some (.int x3)] [.int s2, .int s1, .ref 71] 94 (I, J, xrf) Q := by
  unfold f_X12_means_28 at h
  obtain ⟨hc, h⟩ := xif h
  refine Rn.ok 1 (c := s1 < 0 ∨ 54 ≤ s1.toNatClampNeg) (p1 := 246) (l1 := [some (.ref 61), some (.int x1), some (.int x2), some (.int x3)]) (s1 := []) (n1 := 94) (M1 := ((xup I 71 s1.toNatClampNeg s2), J, xrf)) (fun f => rfl) hc ?_
  refine Rn.go 1 (j' := 205) (pc' := 277) (ls' := [some (.ref 61), some (.int x1), some (.int x2), some (.int x3)]) (st' := []) (n' := 94) (M' := ((xup I 71 s1.toNatClampNeg s2), J, xrf)) (fun f => rfl) ?_
  exact p_X12_means_32 x1 x2 (some (.int x3)) ((xup I 71 s1.toNatClampNeg s2)) J h hC
theorem p_X12_means_27 {L : Nat} {xs : Nat → Int32} {d : Nat} {Q : xO → Prop} (x1 : Int32) (x2 : Int32) (x3 : Int32) (s1 : Int32) (I : xI) (J : xJ) {t : (Int32 × Int32 × (Option Value) × xI × xJ) ⊕ (Unit × xI × xJ)} (h : f_X12_means_27 x1 x2 x3 s1 I J = some t) (hC : (c_X12_means_7 L xs d Q) t) : Rn L xs (d + 3) 205 243 [some (.ref 61), some (.int x1), some (.int x2), some (.int x3)] [.int s1, .ref 71] 94 (I, J, xrf) Q := by
  unfold f_X12_means_27 at h
  refine Rn.go 1 (j' := 205) (pc' := 245) (ls' := [some (.ref 61), some (.int x1), some (.int x2), some (.int x3)]) (st' := [.int ((-2)), .int s1, .ref 71]) (n' := 94) (M' := (I, J, xrf)) (fun f => rfl) ?_
  exact p_X12_means_28 x1 x2 x3 s1 ((-2)) I J h hC
theorem p_X12_means_26 {L : Nat} {xs : Nat → Int32} {d : Nat} {Q : xO → Prop} (x1 : Int32) (x2 : Int32) (x3 : Int32) (s1 : Int32) (s2 : Int32) (I : xI) (J : xJ) {t : (Int32 × Int32 × (Option Value) × xI × xJ) ⊕ (Unit × xI × xJ)} (h : f_X12_means_26 x1 x2 x3 s1 s2 I J = some t) (hC : (c_X12_means_7 L xs d Q) t) : Rn L xs (d + 3) 205 240 [some (.ref 61), some (.int x1), some (.int x2), some (.int x3)] [.int s2, .int s1, .ref 71] 94 (I, J, xrf) Q := by
  unfold f_X12_means_26 at h
  refine Rn.go 1 (j' := 205) (pc' := 245) (ls' := [some (.ref 61), some (.int x1), some (.int x2), some (.int x3)]) (st' := [.int s2, .int s1, .ref 71]) (n' := 94) (M' := (I, J, xrf)) (fun f => rfl) ?_
  exact p_X12_means_28 x1 x2 x3 s1 s2 I J h hC
theorem p_X12_means_25 {L : Nat} {xs : Nat → Int32} {d : Nat} {Q : xO → Prop} (x1 : Int32) (x2 : Int32) (x3 : Int32) (s1 : Int32) (I : xI) (J : xJ) {t : (Int32 × Int32 × (Option Value) × xI × xJ) ⊕ (Unit × xI × xJ)} (h : f_X12_means_25 x1 x2 x3 s1 I J = some t) (hC : (c_X12_means_7 L xs d Q) t) : Rn L xs (d + 3) 205 231 [some (.ref 61), some (.int x1), some (.int x2), some (.int x3)] [.int s1, .ref 71] 94 (I, J, xrf) Q := by
  unfold f_X12_means_25 at h
  refine Rn.go 6 (j' := 205) (pc' := 237) (ls' := [some (.ref 61), some (.int x1), some (.int x2), some (.int x3)]) (st' := [.int 3, .int 0, .int ((x2 + 4)), .ref 61, .int s1, .ref 71]) (n' := 94) (M' := (I, J, xrf)) (fun f => rfl) ?_
  obtain ⟨o, ho, h⟩ := Option.bind_eq_some_iff.mp h
  refine Rn.call (d1 := d + 2) (j1 := 204) (ls1 := [some (.ref 61), some (.int ((x2 + 4))), some (.int 0), some (.int 3)]) (rest := [.int s1, .ref 71]) (fun f => rfl) ?_
  refine p_X12_bounded (d := d + 0) ((x2 + 4)) 0 3 I J (t := o) ho ?_
  exact p_X12_means_26 x1 x2 x3 s1 o.1 o.2.1 o.2.2 h hC
theorem p_X12_means_24 {L : Nat} {xs : Nat → Int32} {d : Nat} {Q : xO → Prop} (x1 : Int32) (x2 : Int32) (x3 : Int32) (s1 : Int32) (s2 : Int32) (I : xI) (J : xJ) {t : (Int32 × Int32 × (Option Value) × xI × xJ) ⊕ (Unit × xI × xJ)} (h : f_X12_means_24 x1 x2 x3 s1 s2 I J = some t) (hC : (c_X12_means_7 L xs d Q) t) : Rn L xs (d + 3) 205 210 [some (.ref 61), some (.int x1), some (.int x2), some (.int x3)] [.int s2, .int s1, .ref 71] 94 (I, J, xrf) Q := by
  unfold f_X12_means_24 at h
  obtain ⟨hc, h⟩ := xif h
  refine Rn.ok 1 (c := s1 < 0 ∨ 54 ≤ s1.toNatClampNeg) (p1 := 211) (l1 := [some (.ref 61), some (.int x1), some (.int x2), some (.int x3)]) (s1 := []) (n1 := 94) (M1 := ((xup I 71 s1.toNatClampNeg s2), J, xrf)) (fun f => rfl) hc ?_
  obtain ⟨hc, h⟩ := xif h
  refine Rn.ok 11 (c := (x2 + 4) < 0 ∨ 403 ≤ ((x2 + 4)).toNatClampNeg) (p1 := 227) (l1 := [some (.ref 61), some (.int x1), some (.int x2), some (.int x3)]) (s1 := [.int ((((xup I 71 s1.toNatClampNeg s2)) 64 ((x2 + 4)).toNatClampNeg)), .int ((24 + x3)), .ref 71]) (n1 := 94) (M1 := ((xup I 71 s1.toNatClampNeg s2), J, xrf)) (fun f => rfl) hc ?_
  refine Rn.fi 2 (c := (((xup I 71 s1.toNatClampNeg s2)) 64 ((x2 + 4)).toNatClampNeg) = 2) (p1 := 231) (l1 := [some (.ref 61), some (.int x1), some (.int x2), some (.int x3)]) (s1 := [.int ((24 + x3)), .ref 71]) (n1 := 94) (M1 := ((xup I 71 s1.toNatClampNeg s2), J, xrf)) (p2 := 243) (l2 := [some (.ref 61), some (.int x1), some (.int x2), some (.int x3)]) (s2 := [.int ((24 + x3)), .ref 71]) (n2 := 94) (M2 := ((xup I 71 s1.toNatClampNeg s2), J, xrf)) (fun f => rfl) (fun hc => ?_) (fun hc => ?_)
  · rw [if_pos hc] at h
    exact p_X12_means_25 x1 x2 x3 ((24 + x3)) ((xup I 71 s1.toNatClampNeg s2)) J h hC
  · rw [if_neg hc] at h
    exact p_X12_means_27 x1 x2 x3 ((24 + x3)) ((xup I 71 s1.toNatClampNeg s2)) J h hC
theorem p_X12_means_23 {L : Nat} {xs : Nat → Int32} {d : Nat} {Q : xO → Prop} (x1 : Int32) (x2 : Int32) (x3 : Int32) (s1 : Int32) (I : xI) (J : xJ) {t : (Int32 × Int32 × (Option Value) × xI × xJ) ⊕ (Unit × xI × xJ)} (h : f_X12_means_23 x1 x2 x3 s1 I J = some t) (hC : (c_X12_means_7 L xs d Q) t) : Rn L xs (d + 3) 205 208 [some (.ref 61), some (.int x1), some (.int x2), some (.int x3)] [.int s1, .ref 71] 94 (I, J, xrf) Q := by
  unfold f_X12_means_23 at h
  refine Rn.go 1 (j' := 205) (pc' := 210) (ls' := [some (.ref 61), some (.int x1), some (.int x2), some (.int x3)]) (st' := [.int ((-2)), .int s1, .ref 71]) (n' := 94) (M' := (I, J, xrf)) (fun f => rfl) ?_
  exact p_X12_means_24 x1 x2 x3 s1 ((-2)) I J h hC
theorem p_X12_means_22 {L : Nat} {xs : Nat → Int32} {d : Nat} {Q : xO → Prop} (x1 : Int32) (x2 : Int32) (x3 : Int32) (s1 : Int32) (s2 : Int32) (I : xI) (J : xJ) {t : (Int32 × Int32 × (Option Value) × xI × xJ) ⊕ (Unit × xI × xJ)} (h : f_X12_means_22 x1 x2 x3 s1 s2 I J = some t) (hC : (c_X12_means_7 L xs d Q) t) : Rn L xs (d + 3) 205 205 [some (.ref 61), some (.int x1), some (.int x2), some (.int x3)] [.int s2, .int s1, .ref 71] 94 (I, J, xrf) Q := by
  unfold f_X12_means_22 at h
  refine Rn.go 1 (j' := 205) (pc' := 210) (ls' := [some (.ref 61), some (.int x1), some (.int x2), some (.int x3)]) (st' := [.int s2, .int s1, .ref 71]) (n' := 94) (M' := (I, J, xrf)) (fun f => rfl) ?_
  exact p_X12_means_24 x1 x2 x3 s1 s2 I J h hC
theorem p_X12_means_21 {L : Nat} {xs : Nat → Int32} {d : Nat} {Q : xO → Prop} (x1 : Int32) (x2 : Int32) (x3 : Int32) (s1 : Int32) (I : xI) (J : xJ) {t : (Int32 × Int32 × (Option Value) × xI × xJ) ⊕ (Unit × xI × xJ)} (h : f_X12_means_21 x1 x2 x3 s1 I J = some t) (hC : (c_X12_means_7 L xs d Q) t) : Rn L xs (d + 3) 205 198 [some (.ref 61), some (.int x1), some (.int x2), some (.int x3)] [.int s1, .ref 71] 94 (I, J, xrf) Q := by
  unfold f_X12_means_21 at h
  refine Rn.go 4 (j' := 205) (pc' := 202) (ls' := [some (.ref 61), some (.int x1), some (.int x2), some (.int x3)]) (st' := [.int ((x2 + 3)), .ref 61, .int s1, .ref 71]) (n' := 94) (M' := (I, J, xrf)) (fun f => rfl) ?_
  obtain ⟨o, ho, h⟩ := Option.bind_eq_some_iff.mp h
  refine Rn.call (d1 := d + 2) (j1 := 203) (ls1 := [some (.ref 61), some (.int ((x2 + 3))), none]) (rest := [.int s1, .ref 71]) (fun f => rfl) ?_
  refine p_X12_named (d := d + 0) ((x2 + 3)) I J (t := o) ho ?_
  exact p_X12_means_22 x1 x2 x3 s1 o.1 o.2.1 o.2.2 h hC
theorem p_X12_means_20 {L : Nat} {xs : Nat → Int32} {d : Nat} {Q : xO → Prop} (x1 : Int32) (x2 : Int32) (z3 : Option Value) (s0 : Int32) (s1 : Int32) (I : xI) (J : xJ) {t : (Int32 × Int32 × (Option Value) × xI × xJ) ⊕ (Unit × xI × xJ)} (h : f_X12_means_20 x1 x2 z3 s0 s1 I J = some t) (hC : (c_X12_means_7 L xs d Q) t) : Rn L xs (d + 3) 205 179 [some (.ref 61), some (.int x1), some (.int x2), z3] [.int s1, .int s0] 94 (I, J, xrf) Q := by
  unfold f_X12_means_20 at h
  obtain ⟨hc, h⟩ := xif h
  refine Rn.ok 11 (c := (x2 + 3) < 0 ∨ 403 ≤ ((x2 + 3)).toNatClampNeg) (p1 := 194) (l1 := [some (.ref 61), some (.int x1), some (.int x2), some (.int ((s0 + s1)))]) (s1 := [.int ((I 64 ((x2 + 3)).toNatClampNeg)), .int ((s0 + s1)), .ref 71]) (n1 := 94) (M1 := (I, J, xrf)) (fun f => rfl) hc ?_
  refine Rn.fi 2 (c := (I 64 ((x2 + 3)).toNatClampNeg) = 1) (p1 := 198) (l1 := [some (.ref 61), some (.int x1), some (.int x2), some (.int ((s0 + s1)))]) (s1 := [.int ((s0 + s1)), .ref 71]) (n1 := 94) (M1 := (I, J, xrf)) (p2 := 208) (l2 := [some (.ref 61), some (.int x1), some (.int x2), some (.int ((s0 + s1)))]) (s2 := [.int ((s0 + s1)), .ref 71]) (n2 := 94) (M2 := (I, J, xrf)) (fun f => rfl) (fun hc => ?_) (fun hc => ?_)
  · rw [if_pos hc] at h
    exact p_X12_means_21 x1 x2 ((s0 + s1)) ((s0 + s1)) I J h hC
  · rw [if_neg hc] at h
    exact p_X12_means_23 x1 x2 ((s0 + s1)) ((s0 + s1)) I J h hC
theorem p_X12_means_19 {L : Nat} {xs : Nat → Int32} {d : Nat} {Q : xO → Prop} (x1 : Int32) (x2 : Int32) (z3 : Option Value) (s0 : Int32) (s1 : Int32) (I : xI) (J : xJ) {t : (Int32 × Int32 × (Option Value) × xI × xJ) ⊕ (Unit × xI × xJ)} (h : f_X12_means_19 x1 x2 z3 s0 s1 I J = some t) (hC : (c_X12_means_7 L xs d Q) t) : Rn L xs (d + 3) 205 164 [some (.ref 61), some (.int x1), some (.int x2), z3] [.int s1, .int s0] 94 (I, J, xrf) Q := by
  unfold f_X12_means_19 at h
  refine Rn.go 10 (j' := 205) (pc' := 176) (ls' := [some (.ref 61), some (.int x1), some (.int x2), z3]) (st' := [.int (((I 61 20) - 1)), .int 0, .int ((x2 + 2)), .ref 61, .int ((s0 * s1))]) (n' := 94) (M' := (I, J, xrf)) (fun f => rfl) ?_
  obtain ⟨o, ho, h⟩ := Option.bind_eq_some_iff.mp h
  refine Rn.call (d1 := d + 2) (j1 := 204) (ls1 := [some (.ref 61), some (.int ((x2 + 2))), some (.int 0), some (.int (((I 61 20) - 1)))]) (rest := [.int ((s0 * s1))]) (fun f => rfl) ?_
  refine p_X12_bounded (d := d + 0) ((x2 + 2)) 0 (((I 61 20) - 1)) I J (t := o) ho ?_
  exact p_X12_means_20 x1 x2 z3 ((s0 * s1)) o.1 o.2.1 o.2.2 h hC
theorem p_X12_means_18 {L : Nat} {xs : Nat → Int32} {d : Nat} {Q : xO → Prop} (x1 : Int32) (x2 : Int32) (z3 : Option Value) (I : xI) (J : xJ) {t : (Int32 × Int32 × (Option Value) × xI × xJ) ⊕ (Unit × xI × xJ)} (h : f_X12_means_18 x1 x2 z3 I J = some t) (hC : (c_X12_means_7 L xs d Q) t) : Rn L xs (d + 3) 205 156 [some (.ref 61), some (.int x1), some (.int x2), z3] [] 94 (I, J, xrf) Q := by
  unfold f_X12_means_18 at h
  refine Rn.go 5 (j' := 205) (pc' := 161) (ls' := [some (.ref 61), some (.int x1), some (.int x2), z3]) (st' := [.int ((x2 + 1)), .ref 61, .int 4]) (n' := 94) (M' := (I, J, xrf)) (fun f => rfl) ?_
  obtain ⟨o, ho, h⟩ := Option.bind_eq_some_iff.mp h
  refine Rn.call (d1 := d + 2) (j1 := 203) (ls1 := [some (.ref 61), some (.int ((x2 + 1))), none]) (rest := [.int 4]) (fun f => rfl) ?_
  refine p_X12_named (d := d + 0) ((x2 + 1)) I J (t := o) ho ?_
  exact p_X12_means_19 x1 x2 z3 4 o.1 o.2.1 o.2.2 h hC
theorem p_X12_means_31 {L : Nat} {xs : Nat → Int32} {d : Nat} {Q : xO → Prop} (x1 : Int32) (x2 : Int32) (z3 : Option Value) (s1 : Int32) (s2 : Int32) (I : xI) (J : xJ) {t : (Int32 × Int32 × (Option Value) × xI × xJ) ⊕ (Unit × xI × xJ)} (h : f_X12_means_31 x1 x2 z3 s1 s2 I J = some t) (hC : (c_X12_means_7 L xs d Q) t) : Rn L xs (d + 3) 205 273 [some (.ref 61), some (.int x1), some (.int x2), z3] [.int s2, .int s1, .ref 71] 94 (I, J, xrf) Q := by
  unfold f_X12_means_31 at h
  obtain ⟨hc, h⟩ := xif h
  refine Rn.ok 1 (c := s1 < 0 ∨ 54 ≤ s1.toNatClampNeg) (p1 := 274) (l1 := [some (.ref 61), some (.int x1), some (.int x2), z3]) (s1 := []) (n1 := 94) (M1 := ((xup I 71 s1.toNatClampNeg s2), J, xrf)) (fun f => rfl) hc ?_
  refine Rn.go 1 (j' := 205) (pc' := 277) (ls' := [some (.ref 61), some (.int x1), some (.int x2), z3]) (st' := []) (n' := 94) (M' := ((xup I 71 s1.toNatClampNeg s2), J, xrf)) (fun f => rfl) ?_
  exact p_X12_means_32 x1 x2 z3 ((xup I 71 s1.toNatClampNeg s2)) J h hC
theorem p_X12_means_30 {L : Nat} {xs : Nat → Int32} {d : Nat} {Q : xO → Prop} (x1 : Int32) (x2 : Int32) (z3 : Option Value) (s1 : Int32) (s2 : Int32) (I : xI) (J : xJ) {t : (Int32 × Int32 × (Option Value) × xI × xJ) ⊕ (Unit × xI × xJ)} (h : f_X12_means_30 x1 x2 z3 s1 s2 I J = some t) (hC : (c_X12_means_7 L xs d Q) t) : Rn L xs (d + 3) 205 262 [some (.ref 61), some (.int x1), some (.int x2), z3] [.int s2, .int s1, .ref 71] 94 (I, J, xrf) Q := by
  unfold f_X12_means_30 at h
  refine Rn.go 7 (j' := 205) (pc' := 270) (ls' := [some (.ref 61), some (.int x1), some (.int x2), z3]) (st' := [.int 7, .int 0, .int ((x2 + 2)), .ref 61, .int ((s1 + s2)), .ref 71]) (n' := 94) (M' := (I, J, xrf)) (fun f => rfl) ?_
  obtain ⟨o, ho, h⟩ := Option.bind_eq_some_iff.mp h
  refine Rn.call (d1 := d + 2) (j1 := 204) (ls1 := [some (.ref 61), some (.int ((x2 + 2))), some (.int 0), some (.int 7)]) (rest := [.int ((s1 + s2)), .ref 71]) (fun f => rfl) ?_
  refine p_X12_bounded (d := d + 0) ((x2 + 2)) 0 7 I J (t := o) ho ?_
  exact p_X12_means_31 x1 x2 z3 ((s1 + s2)) o.1 o.2.1 o.2.2 h hC
theorem p_X12_means_29 {L : Nat} {xs : Nat → Int32} {d : Nat} {Q : xO → Prop} (x1 : Int32) (x2 : Int32) (z3 : Option Value) (I : xI) (J : xJ) {t : (Int32 × Int32 × (Option Value) × xI × xJ) ⊕ (Unit × xI × xJ)} (h : f_X12_means_29 x1 x2 z3 I J = some t) (hC : (c_X12_means_7 L xs d Q) t) : Rn L xs (d + 3) 205 249 [some (.ref 61), some (.int x1), some (.int x2), z3] [] 94 (I, J, xrf) Q := by
  unfold f_X12_means_29 at h
  refine Rn.go 7 (j' := 205) (pc' := 259) (ls' := [some (.ref 61), some (.int x1), some (.int x2), z3]) (st' := [.int ((x2 + 1)), .ref 61, .int 48, .ref 71]) (n' := 94) (M' := (I, J, xrf)) (fun f => rfl) ?_
  obtain ⟨o, ho, h⟩ := Option.bind_eq_some_iff.mp h
  refine Rn.call (d1 := d + 2) (j1 := 203) (ls1 := [some (.ref 61), some (.int ((x2 + 1))), none]) (rest := [.int 48, .ref 71]) (fun f => rfl) ?_
  refine p_X12_named (d := d + 0) ((x2 + 1)) I J (t := o) ho ?_
  exact p_X12_means_30 x1 x2 z3 48 o.1 o.2.1 o.2.2 h hC
theorem p_X12_means_9 {L : Nat} {xs : Nat → Int32} {d : Nat} {Q : xO → Prop} (x1 : Int32) (x2 : Int32) (z3 : Option Value) (s0 : Int32) (I : xI) (J : xJ) {t : (Int32 × Int32 × (Option Value) × xI × xJ) ⊕ (Unit × xI × xJ)} (h : f_X12_means_9 x1 x2 z3 s0 I J = some t) (hC : (c_X12_means_7 L xs d Q) t) : Rn L xs (d + 3) 205 64 [some (.ref 61), some (.int x1), some (.int x2), z3] [.int s0] 94 (I, J, xrf) Q := by
  unfold f_X12_means_9 at h
  by_cases hc0 : s0 = 20
  · rw [if_pos hc0] at h; subst hc0
    refine Rn.go 1 (j' := 205) (pc' := 100) (ls' := [some (.ref 61), some (.int x1), some (.int x2), z3]) (st' := []) (n' := 94) (M' := (I, J, xrf)) (fun f => rfl) ?_
    exact p_X12_means_10 x1 x2 z3 I J h hC
  rw [if_neg hc0] at h
  by_cases hc1 : s0 = 21
  · rw [if_pos hc1] at h; subst hc1
    refine Rn.go 1 (j' := 205) (pc' := 143) (ls' := [some (.ref 61), some (.int x1), some (.int x2), z3]) (st' := []) (n' := 94) (M' := (I, J, xrf)) (fun f => rfl) ?_
    exact p_X12_means_16 x1 x2 z3 I J h hC
  rw [if_neg hc1] at h
  by_cases hc2 : s0 = 22
  · rw [if_pos hc2] at h; subst hc2
    refine Rn.go 1 (j' := 205) (pc' := 156) (ls' := [some (.ref 61), some (.int x1), some (.int x2), z3]) (st' := []) (n' := 94) (M' := (I, J, xrf)) (fun f => rfl) ?_
    exact p_X12_means_18 x1 x2 z3 I J h hC
  rw [if_neg hc2] at h
  by_cases hc3 : s0 = 23
  · rw [if_pos hc3] at h; subst hc3
    refine Rn.go 1 (j' := 205) (pc' := 277) (ls' := [some (.ref 61), some (.int x1), some (.int x2), z3]) (st' := []) (n' := 94) (M' := (I, J, xrf)) (fun f => rfl) ?_
    exact p_X12_means_32 x1 x2 z3 I J h hC
  rw [if_neg hc3] at h
  by_cases hc4 : s0 = 24
  · rw [if_pos hc4] at h; subst hc4
    refine Rn.go 1 (j' := 205) (pc' := 249) (ls' := [some (.ref 61), some (.int x1), some (.int x2), z3]) (st' := []) (n' := 94) (M' := (I, J, xrf)) (fun f => rfl) ?_
    exact p_X12_means_29 x1 x2 z3 I J h hC
  rw [if_neg hc4] at h
  have ho : Int32.toInt s0 < 20 ∨ 24 < Int32.toInt s0 := xsw_out (fun i h1 h2 => by
      have hh : i = 20 ∨ i = 21 ∨ i = 22 ∨ i = 23 ∨ i = 24 := (by omega)
      rcases hh with rfl | rfl | rfl | rfl | rfl
      · exact hc0
      · exact hc1
      · exact hc2
      · exact hc3
      · exact hc4)
  refine Rn.go 1 (d' := (d + 3)) (j' := 205) (pc' := 277) (ls' := [some (.ref 61), some (.int x1), some (.int x2), z3]) (st' := []) (n' := 94) (M' := (I, J, xrf)) (fun f => by show (if Int32.toInt s0 < 20 ∨ 24 < Int32.toInt s0 then _ else _) = _; rw [if_pos ho] <;> rfl) ?_
  exact p_X12_means_32 x1 x2 z3 I J h hC
theorem p_X12_means_8 {L : Nat} {xs : Nat → Int32} {d : Nat} {Q : xO → Prop} (x1 : Int32) (x2 : Int32) (z3 : Option Value) (I : xI) (J : xJ) {t : (Int32 × Int32 × (Option Value) × xI × xJ) ⊕ (Unit × xI × xJ)} (h : f_X12_means_8 x1 x2 z3 I J = some t) (hC : (c_X12_means_7 L xs d Q) t) : Rn L xs (d + 3) 205 58 [some (.ref 61), some (.int x1), some (.int x2), z3] [] 94 (I, J, xrf) Q := by
  unfold f_X12_means_8 at h
  obtain ⟨hc, h⟩ := xif h
  refine Rn.ok 4 (c := x2 < 0 ∨ 403 ≤ x2.toNatClampNeg) (p1 := 64) (l1 := [some (.ref 61), some (.int x1), some (.int x2), z3]) (s1 := [.int ((I 64 x2.toNatClampNeg))]) (n1 := 94) (M1 := (I, J, xrf)) (fun f => rfl) hc ?_
  exact p_X12_means_9 x1 x2 z3 ((I 64 x2.toNatClampNeg)) I J h hC
theorem q_X12_means_7 {L : Nat} {xs : Nat → Int32} {d : Nat} {Q : xO → Prop} (x1 : Int32) (x2 : Int32) (z3 : Option Value) (I : xI) (J : xJ) {t : (Int32 × Int32 × (Option Value) × xI × xJ) ⊕ (Unit × xI × xJ)} (h : b_X12_means_7 x1 x2 z3 I J = some t) (hC : (c_X12_means_7 L xs d Q) t) : Rn L xs (d + 3) 205 50 [some (.ref 61), some (.int x1), some (.int x2), z3] [] 94 (I, J, xrf) Q := by
  unfold b_X12_means_7 at h
  refine Rn.fi 4 (c := (I 61 10) ≤ x2) (p1 := 283) (l1 := [some (.ref 61), some (.int x1), some (.int x2), z3]) (s1 := []) (n1 := 94) (M1 := (I, J, xrf)) (p2 := 58) (l2 := [some (.ref 61), some (.int x1), some (.int x2), z3]) (s2 := []) (n2 := 94) (M2 := (I, J, xrf)) (fun f => rfl) (fun hc => ?_) (fun hc => ?_)
  · rw [if_pos hc] at h
    obtain ⟨t0, h0, rfl⟩ := Option.map_eq_some_iff.mp h
    exact p_X12_means_33 x1 x2 z3 I J h0 hC
  · rw [if_neg hc] at h
    exact p_X12_means_8 x1 x2 z3 I J h hC
theorem p_X12_means_7 {L : Nat} {xs : Nat → Int32} {d : Nat} {Q : xO → Prop} (x1 : Int32) (x2 : Int32) (z3 : Option Value) (I : xI) (J : xJ) {t : Unit × xI × xJ} (h : f_X12_means_7 x1 x2 z3 I J = some t) (hC : (c_X12_means Q) t) : Rn L xs (d + 3) 205 50 [some (.ref 61), some (.int x1), some (.int x2), z3] [] 94 (I, J, xrf) Q := by
  unfold f_X12_means_7 at h
  exact xloop_some (P := fun s : Int32 × Int32 × (Option Value) × xI × xJ => Rn L xs (d + 3) 205 50 [some (.ref 61), some (.int s.1), some (.int s.2.1), s.2.2.1] [] 94 (s.2.2.2.1, s.2.2.2.2, xrf) Q) t (fun s ⟨s', hb, hp⟩ => q_X12_means_7 s.1 s.2.1 s.2.2.1 s.2.2.2.1 s.2.2.2.2 hb hp) (fun s hb => q_X12_means_7 s.1 s.2.1 s.2.2.1 s.2.2.2.1 s.2.2.2.2 hb hC) _ _ h
theorem p_X12_means_6 {L : Nat} {xs : Nat → Int32} {d : Nat} {Q : xO → Prop} (x1 : Int32) (I : xI) (J : xJ) {t : Unit × xI × xJ} (h : f_X12_means_6 x1 I J = some t) (hC : (c_X12_means Q) t) : Rn L xs (d + 3) 205 46 [some (.ref 61), some (.int x1), none, none] [] 94 (I, J, xrf) Q := by
  unfold f_X12_means_6 at h
  refine Rn.go 4 (j' := 205) (pc' := 50) (ls' := [some (.ref 61), some (.int 0), some (.int 0), none]) (st' := []) (n' := 94) (M' := (I, J, xrf)) (fun f => rfl) ?_
  exact p_X12_means_7 0 0 none I J h hC
theorem p_X12_means_5 {L : Nat} {xs : Nat → Int32} {d : Nat} {Q : xO → Prop} (x1 : Int32) (I : xI) (J : xJ) {t : (Int32 × xI × xJ) ⊕ (Unit × xI × xJ)} (h : f_X12_means_5 x1 I J = some t) (hC : (c_X12_means_4 L xs d Q) t) : Rn L xs (d + 3) 205 30 [some (.ref 61), some (.int x1), none, none] [] 94 (I, J, xrf) Q := by
  unfold f_X12_means_5 at h
  obtain ⟨hc, h⟩ := xif h
  refine Rn.ok 7 (c := (48 + x1) < 0 ∨ 54 ≤ ((48 + x1)).toNatClampNeg) (p1 := 40) (l1 := [some (.ref 61), some (.int x1), none, none]) (s1 := []) (n1 := 94) (M1 := ((xup I 71 ((48 + x1)).toNatClampNeg x1), J, xrf)) (fun f => rfl) hc ?_
  refine Rn.go 2 (j' := 205) (pc' := 24) (ls' := [some (.ref 61), some (.int ((x1 + 1))), none, none]) (st' := []) (n' := 94) (M' := ((xup I 71 ((48 + x1)).toNatClampNeg x1), J, xrf)) (fun f => rfl) ?_
  cases h; exact hC
theorem q_X12_means_4 {L : Nat} {xs : Nat → Int32} {d : Nat} {Q : xO → Prop} (x1 : Int32) (I : xI) (J : xJ) {t : (Int32 × xI × xJ) ⊕ (Unit × xI × xJ)} (h : b_X12_means_4 x1 I J = some t) (hC : (c_X12_means_4 L xs d Q) t) : Rn L xs (d + 3) 205 24 [some (.ref 61), some (.int x1), none, none] [] 94 (I, J, xrf) Q := by
  unfold b_X12_means_4 at h
  refine Rn.fi 3 (c := 6 ≤ x1) (p1 := 46) (l1 := [some (.ref 61), some (.int x1), none, none]) (s1 := []) (n1 := 94) (M1 := (I, J, xrf)) (p2 := 30) (l2 := [some (.ref 61), some (.int x1), none, none]) (s2 := []) (n2 := 94) (M2 := (I, J, xrf)) (fun f => rfl) (fun hc => ?_) (fun hc => ?_)
  · rw [if_pos hc] at h
    obtain ⟨t0, h0, rfl⟩ := Option.map_eq_some_iff.mp h
    exact p_X12_means_6 x1 I J h0 hC
  · rw [if_neg hc] at h
    exact p_X12_means_5 x1 I J h hC
theorem p_X12_means_4 {L : Nat} {xs : Nat → Int32} {d : Nat} {Q : xO → Prop} (x1 : Int32) (I : xI) (J : xJ) {t : Unit × xI × xJ} (h : f_X12_means_4 x1 I J = some t) (hC : (c_X12_means Q) t) : Rn L xs (d + 3) 205 24 [some (.ref 61), some (.int x1), none, none] [] 94 (I, J, xrf) Q := by
  unfold f_X12_means_4 at h
  exact xloop_some (P := fun s : Int32 × xI × xJ => Rn L xs (d + 3) 205 24 [some (.ref 61), some (.int s.1), none, none] [] 94 (s.2.1, s.2.2, xrf) Q) t (fun s ⟨s', hb, hp⟩ => q_X12_means_4 s.1 s.2.1 s.2.2 hb hp) (fun s hb => q_X12_means_4 s.1 s.2.1 s.2.2 hb hC) _ _ h
theorem p_X12_means_3 {L : Nat} {xs : Nat → Int32} {d : Nat} {Q : xO → Prop} (x1 : Int32) (I : xI) (J : xJ) {t : Unit × xI × xJ} (h : f_X12_means_3 x1 I J = some t) (hC : (c_X12_means Q) t) : Rn L xs (d + 3) 205 22 [some (.ref 61), some (.int x1), none, none] [] 94 (I, J, xrf) Q := by
  unfold f_X12_means_3 at h
  refine Rn.go 2 (j' := 205) (pc' := 24) (ls' := [some (.ref 61), some (.int 0), none, none]) (st' := []) (n' := 94) (M' := (I, J, xrf)) (fun f => rfl) ?_
  exact p_X12_means_4 0 I J h hC
theorem p_X12_means_2 {L : Nat} {xs : Nat → Int32} {d : Nat} {Q : xO → Prop} (x1 : Int32) (I : xI) (J : xJ) {t : (Int32 × xI × xJ) ⊕ (Unit × xI × xJ)} (h : f_X12_means_2 x1 I J = some t) (hC : (c_X12_means_1 L xs d Q) t) : Rn L xs (d + 3) 205 8 [some (.ref 61), some (.int x1), none, none] [] 94 (I, J, xrf) Q := by
  unfold f_X12_means_2 at h
  obtain ⟨hc, h⟩ := xif h
  refine Rn.ok 5 (c := x1 < 0 ∨ 54 ≤ x1.toNatClampNeg) (p1 := 16) (l1 := [some (.ref 61), some (.int x1), none, none]) (s1 := []) (n1 := 94) (M1 := ((xup I 71 x1.toNatClampNeg ((-2))), J, xrf)) (fun f => rfl) hc ?_
  refine Rn.go 2 (j' := 205) (pc' := 2) (ls' := [some (.ref 61), some (.int ((x1 + 1))), none, none]) (st' := []) (n' := 94) (M' := ((xup I 71 x1.toNatClampNeg ((-2))), J, xrf)) (fun f => rfl) ?_
  cases h; exact hC
theorem q_X12_means_1 {L : Nat} {xs : Nat → Int32} {d : Nat} {Q : xO → Prop} (x1 : Int32) (I : xI) (J : xJ) {t : (Int32 × xI × xJ) ⊕ (Unit × xI × xJ)} (h : b_X12_means_1 x1 I J = some t) (hC : (c_X12_means_1 L xs d Q) t) : Rn L xs (d + 3) 205 2 [some (.ref 61), some (.int x1), none, none] [] 94 (I, J, xrf) Q := by
  unfold b_X12_means_1 at h
  refine Rn.fi 3 (c := 48 ≤ x1) (p1 := 22) (l1 := [some (.ref 61), some (.int x1), none, none]) (s1 := []) (n1 := 94) (M1 := (I, J, xrf)) (p2 := 8) (l2 := [some (.ref 61), some (.int x1), none, none]) (s2 := []) (n2 := 94) (M2 := (I, J, xrf)) (fun f => rfl) (fun hc => ?_) (fun hc => ?_)
  · rw [if_pos hc] at h
    obtain ⟨t0, h0, rfl⟩ := Option.map_eq_some_iff.mp h
    exact p_X12_means_3 x1 I J h0 hC
  · rw [if_neg hc] at h
    exact p_X12_means_2 x1 I J h hC
theorem p_X12_means_1 {L : Nat} {xs : Nat → Int32} {d : Nat} {Q : xO → Prop} (x1 : Int32) (I : xI) (J : xJ) {t : Unit × xI × xJ} (h : f_X12_means_1 x1 I J = some t) (hC : (c_X12_means Q) t) : Rn L xs (d + 3) 205 2 [some (.ref 61), some (.int x1), none, none] [] 94 (I, J, xrf) Q := by
  unfold f_X12_means_1 at h
  exact xloop_some (P := fun s : Int32 × xI × xJ => Rn L xs (d + 3) 205 2 [some (.ref 61), some (.int s.1), none, none] [] 94 (s.2.1, s.2.2, xrf) Q) t (fun s ⟨s', hb, hp⟩ => q_X12_means_1 s.1 s.2.1 s.2.2 hb hp) (fun s hb => q_X12_means_1 s.1 s.2.1 s.2.2 hb hC) _ _ h
theorem p_X12_means_0 {L : Nat} {xs : Nat → Int32} {d : Nat} {Q : xO → Prop} (I : xI) (J : xJ) {t : Unit × xI × xJ} (h : f_X12_means_0 I J = some t) (hC : (c_X12_means Q) t) : Rn L xs (d + 3) 205 0 [some (.ref 61), none, none, none] [] 94 (I, J, xrf) Q := by
  unfold f_X12_means_0 at h
  refine Rn.go 2 (j' := 205) (pc' := 2) (ls' := [some (.ref 61), some (.int 0), none, none]) (st' := []) (n' := 94) (M' := (I, J, xrf)) (fun f => rfl) ?_
  exact p_X12_means_1 0 I J h hC
theorem p_X12_means {L : Nat} {xs : Nat → Int32} {d : Nat} {Q : xO → Prop} (I : xI) (J : xJ) {t : Unit × xI × xJ} (h : f_X12_means I J = some t) (hC : Q (none, 94, (t.2.1, t.2.2, xrf))) : Rn L xs (d + 3) 205 0 [some (.ref 61), none, none, none] [] 94 (I, J, xrf) Q := p_X12_means_0 I J h hC
/-! X12_changes -/
def c_X12_changes (Q : xO → Prop) (t : Unit × xI × xJ) : Prop := Q (none, 94, (t.2.1, t.2.2, xrf))
def f_X12_changes_0 (I : xI) (J : xJ) : Option (Unit × xI × xJ) := some ((), (xup ((xup ((xup I 61 29 0)) 75 0 0)) 75 1 0), J)
def f_X12_changes (I : xI) (J : xJ) : Option (Unit × xI × xJ) := f_X12_changes_0 I J
theorem p_X12_changes_0 {L : Nat} {xs : Nat → Int32} {d : Nat} {Q : xO → Prop} (I : xI) (J : xJ) {t : Unit × xI × xJ} (h : f_X12_changes_0 I J = some t) (hC : (c_X12_changes Q) t) : Rn L xs (d + 1) 222 0 [some (.ref 61)] [] 94 (I, J, xrf) Q := by
  unfold f_X12_changes_0 at h
  cases h
  exact Rn.ret 14 (o := (none, 94, ((xup ((xup ((xup I 61 29 0)) 75 0 0)) 75 1 0), J, xrf))) (fun f => rfl) hC
theorem p_X12_changes {L : Nat} {xs : Nat → Int32} {d : Nat} {Q : xO → Prop} (I : xI) (J : xJ) {t : Unit × xI × xJ} (h : f_X12_changes I J = some t) (hC : Q (none, 94, (t.2.1, t.2.2, xrf))) : Rn L xs (d + 1) 222 0 [some (.ref 61)] [] 94 (I, J, xrf) Q := p_X12_changes_0 I J h hC
/-! X12_read -/
def c_X12_read (Q : xO → Prop) (t : Int32 × xI × xJ) : Prop := Q ((some (.int t.1)), 94, (t.2.1, t.2.2, xrf))
def c_X12_read_5 (L : Nat) (xs : Nat → Int32) (d : Nat) (Q : xO → Prop) (t : (Int32 × xI × xJ) ⊕ (Int32 × xI × xJ)) : Prop := match t with
  | .inl s => Rn L xs (d + 5) 199 70 [some (.ref 61), some (.int s.1)] [] 94 (s.2.1, s.2.2, xrf) Q
  | .inr t => (c_X12_read Q) t
def c_X12_read_25 (L : Nat) (xs : Nat → Int32) (d : Nat) (Q : xO → Prop) (t : (Int32 × xI × xJ) ⊕ (Int32 × xI × xJ)) : Prop := match t with
  | .inl s => Rn L xs (d + 5) 199 209 [some (.ref 61), some (.int s.1)] [] 94 (s.2.1, s.2.2, xrf) Q
  | .inr t => (c_X12_read Q) t
def c_X12_read_22 (L : Nat) (xs : Nat → Int32) (d : Nat) (Q : xO → Prop) (t : (Int32 × xI × xJ) ⊕ (Int32 × xI × xJ)) : Prop := match t with
  | .inl s => Rn L xs (d + 5) 199 178 [some (.ref 61), some (.int s.1)] [] 94 (s.2.1, s.2.2, xrf) Q
  | .inr t => (c_X12_read Q) t
def c_X12_read_1 (L : Nat) (xs : Nat → Int32) (d : Nat) (Q : xO → Prop) (t : (Int32 × xI × xJ) ⊕ (Int32 × xI × xJ)) : Prop := match t with
  | .inl s => Rn L xs (d + 5) 199 10 [some (.ref 61), some (.int s.1)] [] 94 (s.2.1, s.2.2, xrf) Q
  | .inr t => (c_X12_read Q) t
def f_X12_read_28 (x1 : Int32) (I : xI) (J : xJ) : Option (Int32 × xI × xJ) := some (0, I, J)
def f_X12_read_27 (x1 : Int32) (I : xI) (J : xJ) : Option (Int32 × xI × xJ) := (f_X12_changes I J).bind fun o => f_X12_read_28 x1 o.2.1 o.2.2
def f_X12_read_26 (x1 : Int32) (I : xI) (J : xJ) : Option ((Int32 × xI × xJ) ⊕ (Int32 × xI × xJ)) := if x1 < 0 ∨ 3 ≤ x1.toNatClampNeg then none else some (.inl (((x1 + 1)), ((xup I 74 x1.toNatClampNeg 0)), J))
def b_X12_read_25 (x1 : Int32) (I : xI) (J : xJ) : Option ((Int32 × xI × xJ) ⊕ (Int32 × xI × xJ)) := if 3 ≤ x1 then ((f_X12_read_27 x1 I J)).map .inr else f_X12_read_26 x1 I J
def f_X12_read_25 (x1 : Int32) (I : xI) (J : xJ) : Option (Int32 × xI × xJ) := xloop (fun s : Int32 × xI × xJ => b_X12_read_25 s.1 s.2.1 s.2.2) 5000 (x1, I, J)
def f_X12_read_24 (x1 : Int32) (I : xI) (J : xJ) : Option (Int32 × xI × xJ) := f_X12_read_25 0 ((xup I 61 26 0)) J
def f_X12_read_23 (x1 : Int32) (I : xI) (J : xJ) : Option ((Int32 × xI × xJ) ⊕ (Int32 × xI × xJ)) := if x1 < 0 ∨ 54 ≤ x1.toNatClampNeg then none else if x1 < 0 ∨ 54 ≤ x1.toNatClampNeg then none else some (.inl (((x1 + 1)), ((xup I 70 x1.toNatClampNeg ((I 71 x1.toNatClampNeg)))), J))
def b_X12_read_22 (x1 : Int32) (I : xI) (J : xJ) : Option ((Int32 × xI × xJ) ⊕ (Int32 × xI × xJ)) := if 54 ≤ x1 then ((f_X12_read_24 x1 I J)).map .inr else f_X12_read_23 x1 I J
def f_X12_read_22 (x1 : Int32) (I : xI) (J : xJ) : Option (Int32 × xI × xJ) := xloop (fun s : Int32 × xI × xJ => b_X12_read_22 s.1 s.2.1 s.2.2) 5000 (x1, I, J)
def f_X12_read_21 (x1 : Int32) (I : xI) (J : xJ) : Option (Int32 × xI × xJ) := f_X12_read_22 0 ((xup ((xup I 61 17 ((I 61 19)))) 61 18 ((((xup I 61 17 ((I 61 19)))) 61 20)))) J
def f_X12_read_20 (x1 : Int32) (I : xI) (J : xJ) : Option (Int32 × xI × xJ) := some ((I 61 14), I, J)
def f_X12_read_19 (x1 : Int32) (I : xI) (J : xJ) : Option (Int32 × xI × xJ) := if (I 61 14) ≤ 0 then f_X12_read_21 x1 I J else f_X12_read_20 x1 I J
def f_X12_read_18 (x1 : Int32) (I : xI) (J : xJ) : Option (Int32 × xI × xJ) := some ((I 61 12), I, J)
def f_X12_read_17 (x1 : Int32) (s1 : Int32) (I : xI) (J : xJ) : Option (Int32 × xI × xJ) := if (((xup I 61 16 s1)) 61 12) ≤ 0 then f_X12_read_19 x1 ((xup I 61 16 s1)) J else f_X12_read_18 x1 ((xup I 61 16 s1)) J
def f_X12_read_16 (x1 : Int32) (I : xI) (J : xJ) : Option (Int32 × xI × xJ) := f_X12_read_17 x1 ((-1)) I J
def f_X12_read_15 (x1 : Int32) (I : xI) (J : xJ) : Option (Int32 × xI × xJ) := f_X12_read_17 x1 ((I 61 15)) I J
def f_X12_read_14 (x1 : Int32) (I : xI) (J : xJ) : Option (Int32 × xI × xJ) := if (I 61 14) ≤ 0 then f_X12_read_16 x1 I J else f_X12_read_15 x1 I J
def f_X12_read_13 (x1 : Int32) (I : xI) (J : xJ) : Option (Int32 × xI × xJ) := f_X12_read_17 x1 ((I 61 13)) I J
def f_X12_read_12 (x1 : Int32) (I : xI) (J : xJ) : Option (Int32 × xI × xJ) := if (I 61 12) ≤ 0 then f_X12_read_14 x1 I J else f_X12_read_13 x1 I J
def f_X12_read_11 (x1 : Int32) (I : xI) (J : xJ) : Option (Int32 × xI × xJ) := (f_X12_means I J).bind fun o => f_X12_read_12 x1 o.2.1 o.2.2
def f_X12_read_10 (x1 : Int32) (I : xI) (J : xJ) : Option (Int32 × xI × xJ) := if (I 61 12) = 0 then f_X12_read_11 x1 I J else f_X12_read_12 x1 I J
def f_X12_read_9 (x1 : Int32) (I : xI) (J : xJ) : Option ((Int32 × xI × xJ) ⊕ (Int32 × xI × xJ)) := some (.inl (x1, I, J))
def f_X12_read_8 (x1 : Int32) (I : xI) (J : xJ) : Option ((Int32 × xI × xJ) ⊕ (Int32 × xI × xJ)) := (f_X12_line I J).bind fun o => f_X12_read_9 x1 o.2.1 o.2.2
def f_X12_read_7 (x1 : Int32) (s0 : Int32) (I : xI) (J : xJ) : Option ((Int32 × xI × xJ) ⊕ (Int32 × xI × xJ)) := if s0 = 0 then f_X12_read_8 x1 I J else ((f_X12_read_10 x1 I J)).map .inr
def f_X12_read_6 (x1 : Int32) (I : xI) (J : xJ) : Option ((Int32 × xI × xJ) ⊕ (Int32 × xI × xJ)) := (f_X12_is 0 I J).bind fun o => f_X12_read_7 x1 o.1 o.2.1 o.2.2
def b_X12_read_5 (x1 : Int32) (I : xI) (J : xJ) : Option ((Int32 × xI × xJ) ⊕ (Int32 × xI × xJ)) := if (I 61 12) = 0 then f_X12_read_6 x1 I J else ((f_X12_read_10 x1 I J)).map .inr
def f_X12_read_5 (x1 : Int32) (I : xI) (J : xJ) : Option (Int32 × xI × xJ) := xloop (fun s : Int32 × xI × xJ => b_X12_read_5 s.1 s.2.1 s.2.2) 5000 (x1, I, J)
def f_X12_read_4 (x1 : Int32) (I : xI) (J : xJ) : Option (Int32 × xI × xJ) := f_X12_read_5 x1 ((xup ((xup ((xup ((xup ((xup I 61 11 0)) 61 12 0)) 61 14 0)) 61 19 0)) 61 20 2)) J
def f_X12_read_3 (x1 : Int32) (I : xI) (J : xJ) : Option (Int32 × xI × xJ) := (f_X12_parts ((xup I 61 2 0)) J).bind fun o => f_X12_read_4 x1 o.2.1 o.2.2
def f_X12_read_2 (x1 : Int32) (I : xI) (J : xJ) : Option ((Int32 × xI × xJ) ⊕ (Int32 × xI × xJ)) := if x1 < 0 ∨ 2000 ≤ x1.toNatClampNeg then none else if x1 < 0 ∨ 2000 ≤ x1.toNatClampNeg then none else some (.inl (((x1 + 1)), ((xup I 63 x1.toNatClampNeg ((Int8.toInt32 (Int32.toInt8 ((I 62 x1.toNatClampNeg))))))), J))
def b_X12_read_1 (x1 : Int32) (I : xI) (J : xJ) : Option ((Int32 × xI × xJ) ⊕ (Int32 × xI × xJ)) := if (I 61 4) ≤ x1 then ((f_X12_read_3 x1 I J)).map .inr else f_X12_read_2 x1 I J
def f_X12_read_1 (x1 : Int32) (I : xI) (J : xJ) : Option (Int32 × xI × xJ) := xloop (fun s : Int32 × xI × xJ => b_X12_read_1 s.1 s.2.1 s.2.2) 5000 (x1, I, J)
def f_X12_read_0 (I : xI) (J : xJ) : Option (Int32 × xI × xJ) := f_X12_read_1 0 ((xup I 61 4 ((I 61 2)))) J
def f_X12_read (I : xI) (J : xJ) : Option (Int32 × xI × xJ) := f_X12_read_0 I J
theorem p_X12_read_28 {L : Nat} {xs : Nat → Int32} {d : Nat} {Q : xO → Prop} (x1 : Int32) (I : xI) (J : xJ) {t : Int32 × xI × xJ} (h : f_X12_read_28 x1 I J = some t) (hC : (c_X12_read Q) t) : Rn L xs (d + 5) 199 231 [some (.ref 61), some (.int x1)] [] 94 (I, J, xrf) Q := by
  unfold f_X12_read_28 at h
  cases h
  exact Rn.ret 2 (o := ((some (.int 0)), 94, (I, J, xrf))) (fun f => rfl) hC
theorem p_X12_read_27 {L : Nat} {xs : Nat → Int32} {d : Nat} {Q : xO → Prop} (x1 : Int32) (I : xI) (J : xJ) {t : Int32 × xI × xJ} (h : f_X12_read_27 x1 I J = some t) (hC : (c_X12_read Q) t) : Rn L xs (d + 5) 199 227 [some (.ref 61), some (.int x1)] [] 94 (I, J, xrf) Q := by
  unfold f_X12_read_27 at h
  refine Rn.go 1 (j' := 199) (pc' := 228) (ls' := [some (.ref 61), some (.int x1)]) (st' := [.ref 61]) (n' := 94) (M' := (I, J, xrf)) (fun f => rfl) ?_
  obtain ⟨o, ho, h⟩ := Option.bind_eq_some_iff.mp h
  refine Rn.call (d1 := d + 4) (j1 := 222) (ls1 := [some (.ref 61)]) (rest := []) (fun f => rfl) ?_
  refine p_X12_changes (d := d + 3) I J (t := o) ho ?_
  exact p_X12_read_28 x1 o.2.1 o.2.2 h hC
theorem p_X12_read_26 {L : Nat} {xs : Nat → Int32} {d : Nat} {Q : xO → Prop} (x1 : Int32) (I : xI) (J : xJ) {t : (Int32 × xI × xJ) ⊕ (Int32 × xI × xJ)} (h : f_X12_read_26 x1 I J = some t) (hC : (c_X12_read_25 L xs d Q) t) : Rn L xs (d + 5) 199 214 [some (.ref 61), some (.int x1)] [] 94 (I, J, xrf) Q := by
  unfold f_X12_read_26 at h
  obtain ⟨hc, h⟩ := xif h
  refine Rn.ok 5 (c := x1 < 0 ∨ 3 ≤ x1.toNatClampNeg) (p1 := 221) (l1 := [some (.ref 61), some (.int x1)]) (s1 := []) (n1 := 94) (M1 := ((xup I 74 x1.toNatClampNeg 0), J, xrf)) (fun f => rfl) hc ?_
  refine Rn.go 2 (j' := 199) (pc' := 209) (ls' := [some (.ref 61), some (.int ((x1 + 1)))]) (st' := []) (n' := 94) (M' := ((xup I 74 x1.toNatClampNeg 0), J, xrf)) (fun f => rfl) ?_
  cases h; exact hC
theorem q_X12_read_25 {L : Nat} {xs : Nat → Int32} {d : Nat} {Q : xO → Prop} (x1 : Int32) (I : xI) (J : xJ) {t : (Int32 × xI × xJ) ⊕ (Int32 × xI × xJ)} (h : b_X12_read_25 x1 I J = some t) (hC : (c_X12_read_25 L xs d Q) t) : Rn L xs (d + 5) 199 209 [some (.ref 61), some (.int x1)] [] 94 (I, J, xrf) Q := by
  unfold b_X12_read_25 at h
  refine Rn.fi 3 (c := 3 ≤ x1) (p1 := 227) (l1 := [some (.ref 61), some (.int x1)]) (s1 := []) (n1 := 94) (M1 := (I, J, xrf)) (p2 := 214) (l2 := [some (.ref 61), some (.int x1)]) (s2 := []) (n2 := 94) (M2 := (I, J, xrf)) (fun f => rfl) (fun hc => ?_) (fun hc => ?_)
  · rw [if_pos hc] at h
    obtain ⟨t0, h0, rfl⟩ := Option.map_eq_some_iff.mp h
    exact p_X12_read_27 x1 I J h0 hC
  · rw [if_neg hc] at h
    exact p_X12_read_26 x1 I J h hC
theorem p_X12_read_25 {L : Nat} {xs : Nat → Int32} {d : Nat} {Q : xO → Prop} (x1 : Int32) (I : xI) (J : xJ) {t : Int32 × xI × xJ} (h : f_X12_read_25 x1 I J = some t) (hC : (c_X12_read Q) t) : Rn L xs (d + 5) 199 209 [some (.ref 61), some (.int x1)] [] 94 (I, J, xrf) Q := by
  unfold f_X12_read_25 at h
  exact xloop_some (P := fun s : Int32 × xI × xJ => Rn L xs (d + 5) 199 209 [some (.ref 61), some (.int s.1)] [] 94 (s.2.1, s.2.2, xrf) Q) t (fun s ⟨s', hb, hp⟩ => q_X12_read_25 s.1 s.2.1 s.2.2 hb hp) (fun s hb => q_X12_read_25 s.1 s.2.1 s.2.2 hb hC) _ _ h
theorem p_X12_read_24 {L : Nat} {xs : Nat → Int32} {d : Nat} {Q : xO → Prop} (x1 : Int32) (I : xI) (J : xJ) {t : Int32 × xI × xJ} (h : f_X12_read_24 x1 I J = some t) (hC : (c_X12_read Q) t) : Rn L xs (d + 5) 199 202 [some (.ref 61), some (.int x1)] [] 94 (I, J, xrf) Q := by
  unfold f_X12_read_24 at h
  refine Rn.go 5 (j' := 199) (pc' := 209) (ls' := [some (.ref 61), some (.int 0)]) (st' := []) (n' := 94) (M' := ((xup I 61 26 0), J, xrf)) (fun f => rfl) ?_
  exact p_X12_read_25 0 ((xup I 61 26 0)) J h hC
theorem p_X12_read_23 {L : Nat} {xs : Nat → Int32} {d : Nat} {Q : xO → Prop} (x1 : Int32) (I : xI) (J : xJ) {t : (Int32 × xI × xJ) ⊕ (Int32 × xI × xJ)} (h : f_X12_read_23 x1 I J = some t) (hC : (c_X12_read_22 L xs d Q) t) : Rn L xs (d + 5) 199 184 [some (.ref 61), some (.int x1)] [] 94 (I, J, xrf) Q := by
  unfold f_X12_read_23 at h
  obtain ⟨hc, h⟩ := xif h
  refine Rn.ok 7 (c := x1 < 0 ∨ 54 ≤ x1.toNatClampNeg) (p1 := 195) (l1 := [some (.ref 61), some (.int x1)]) (s1 := [.int ((I 71 x1.toNatClampNeg)), .int x1, .ref 70]) (n1 := 94) (M1 := (I, J, xrf)) (fun f => rfl) hc ?_
  obtain ⟨hc, h⟩ := xif h
  refine Rn.ok 1 (c := x1 < 0 ∨ 54 ≤ x1.toNatClampNeg) (p1 := 196) (l1 := [some (.ref 61), some (.int x1)]) (s1 := []) (n1 := 94) (M1 := ((xup I 70 x1.toNatClampNeg ((I 71 x1.toNatClampNeg))), J, xrf)) (fun f => rfl) hc ?_
  refine Rn.go 2 (j' := 199) (pc' := 178) (ls' := [some (.ref 61), some (.int ((x1 + 1)))]) (st' := []) (n' := 94) (M' := ((xup I 70 x1.toNatClampNeg ((I 71 x1.toNatClampNeg))), J, xrf)) (fun f => rfl) ?_
  cases h; exact hC
theorem q_X12_read_22 {L : Nat} {xs : Nat → Int32} {d : Nat} {Q : xO → Prop} (x1 : Int32) (I : xI) (J : xJ) {t : (Int32 × xI × xJ) ⊕ (Int32 × xI × xJ)} (h : b_X12_read_22 x1 I J = some t) (hC : (c_X12_read_22 L xs d Q) t) : Rn L xs (d + 5) 199 178 [some (.ref 61), some (.int x1)] [] 94 (I, J, xrf) Q := by
  unfold b_X12_read_22 at h
  refine Rn.fi 3 (c := 54 ≤ x1) (p1 := 202) (l1 := [some (.ref 61), some (.int x1)]) (s1 := []) (n1 := 94) (M1 := (I, J, xrf)) (p2 := 184) (l2 := [some (.ref 61), some (.int x1)]) (s2 := []) (n2 := 94) (M2 := (I, J, xrf)) (fun f => rfl) (fun hc => ?_) (fun hc => ?_)
  · rw [if_pos hc] at h
    obtain ⟨t0, h0, rfl⟩ := Option.map_eq_some_iff.mp h
    exact p_X12_read_24 x1 I J h0 hC
  · rw [if_neg hc] at h
    exact p_X12_read_23 x1 I J h hC
theorem p_X12_read_22 {L : Nat} {xs : Nat → Int32} {d : Nat} {Q : xO → Prop} (x1 : Int32) (I : xI) (J : xJ) {t : Int32 × xI × xJ} (h : f_X12_read_22 x1 I J = some t) (hC : (c_X12_read Q) t) : Rn L xs (d + 5) 199 178 [some (.ref 61), some (.int x1)] [] 94 (I, J, xrf) Q := by
  unfold f_X12_read_22 at h
  exact xloop_some (P := fun s : Int32 × xI × xJ => Rn L xs (d + 5) 199 178 [some (.ref 61), some (.int s.1)] [] 94 (s.2.1, s.2.2, xrf) Q) t (fun s ⟨s', hb, hp⟩ => q_X12_read_22 s.1 s.2.1 s.2.2 hb hp) (fun s hb => q_X12_read_22 s.1 s.2.1 s.2.2 hb hC) _ _ h
theorem p_X12_read_21 {L : Nat} {xs : Nat → Int32} {d : Nat} {Q : xO → Prop} (x1 : Int32) (I : xI) (J : xJ) {t : Int32 × xI × xJ} (h : f_X12_read_21 x1 I J = some t) (hC : (c_X12_read Q) t) : Rn L xs (d + 5) 199 160 [some (.ref 61), some (.int x1)] [] 94 (I, J, xrf) Q := by
  unfold f_X12_read_21 at h
  refine Rn.go 10 (j' := 199) (pc' := 178) (ls' := [some (.ref 61), some (.int 0)]) (st' := []) (n' := 94) (M' := ((xup ((xup I 61 17 ((I 61 19)))) 61 18 ((((xup I 61 17 ((I 61 19)))) 61 20))), J, xrf)) (fun f => rfl) ?_
  exact p_X12_read_22 0 ((xup ((xup I 61 17 ((I 61 19)))) 61 18 ((((xup I 61 17 ((I 61 19)))) 61 20)))) J h hC
theorem p_X12_read_20 {L : Nat} {xs : Nat → Int32} {d : Nat} {Q : xO → Prop} (x1 : Int32) (I : xI) (J : xJ) {t : Int32 × xI × xJ} (h : f_X12_read_20 x1 I J = some t) (hC : (c_X12_read Q) t) : Rn L xs (d + 5) 199 155 [some (.ref 61), some (.int x1)] [] 94 (I, J, xrf) Q := by
  unfold f_X12_read_20 at h
  cases h
  exact Rn.ret 3 (o := ((some (.int ((I 61 14)))), 94, (I, J, xrf))) (fun f => rfl) hC
theorem p_X12_read_19 {L : Nat} {xs : Nat → Int32} {d : Nat} {Q : xO → Prop} (x1 : Int32) (I : xI) (J : xJ) {t : Int32 × xI × xJ} (h : f_X12_read_19 x1 I J = some t) (hC : (c_X12_read Q) t) : Rn L xs (d + 5) 199 148 [some (.ref 61), some (.int x1)] [] 94 (I, J, xrf) Q := by
  unfold f_X12_read_19 at h
  refine Rn.fi 3 (c := (I 61 14) ≤ 0) (p1 := 160) (l1 := [some (.ref 61), some (.int x1)]) (s1 := []) (n1 := 94) (M1 := (I, J, xrf)) (p2 := 155) (l2 := [some (.ref 61), some (.int x1)]) (s2 := []) (n2 := 94) (M2 := (I, J, xrf)) (fun f => rfl) (fun hc => ?_) (fun hc => ?_)
  · rw [if_pos hc] at h
    exact p_X12_read_21 x1 I J h hC
  · rw [if_neg hc] at h
    exact p_X12_read_20 x1 I J h hC
theorem p_X12_read_18 {L : Nat} {xs : Nat → Int32} {d : Nat} {Q : xO → Prop} (x1 : Int32) (I : xI) (J : xJ) {t : Int32 × xI × xJ} (h : f_X12_read_18 x1 I J = some t) (hC : (c_X12_read Q) t) : Rn L xs (d + 5) 199 143 [some (.ref 61), some (.int x1)] [] 94 (I, J, xrf) Q := by
  unfold f_X12_read_18 at h
  cases h
  exact Rn.ret 3 (o := ((some (.int ((I 61 12)))), 94, (I, J, xrf))) (fun f => rfl) hC
theorem p_X12_read_17 {L : Nat} {xs : Nat → Int32} {d : Nat} {Q : xO → Prop} (x1 : Int32) (s1 : Int32) (I : xI) (J : xJ) {t : Int32 × xI × xJ} (h : f_X12_read_17 x1 s1 I J = some t) (hC : (c_X12_read Q) t) : Rn L xs (d + 5) 199 133 [some (.ref 61), some (.int x1)] [.int s1, .ref 61] 94 (I, J, xrf) Q := by
  unfold f_X12_read_17 at h
  refine Rn.fi 4 (c := (((xup I 61 16 s1)) 61 12) ≤ 0) (p1 := 148) (l1 := [some (.ref 61), some (.int x1)]) (s1 := []) (n1 := 94) (M1 := ((xup I 61 16 s1), J, xrf)) (p2 := 143) (l2 := [some (.ref 61), some (.int x1)]) (s2 := []) (n2 := 94) (M2 := ((xup I 61 16 s1), J, xrf)) (fun f => rfl) (fun hc => ?_) (fun hc => ?_)
  · rw [if_pos hc] at h
    exact p_X12_read_19 x1 ((xup I 61 16 s1)) J h hC
  · rw [if_neg hc] at h
    exact p_X12_read_18 x1 ((xup I 61 16 s1)) J h hC
theorem p_X12_read_16 {L : Nat} {xs : Nat → Int32} {d : Nat} {Q : xO → Prop} (x1 : Int32) (I : xI) (J : xJ) {t : Int32 × xI × xJ} (h : f_X12_read_16 x1 I J = some t) (hC : (c_X12_read Q) t) : Rn L xs (d + 5) 199 132 [some (.ref 61), some (.int x1)] [.ref 61] 94 (I, J, xrf) Q := by
  unfold f_X12_read_16 at h
  refine Rn.go 1 (j' := 199) (pc' := 133) (ls' := [some (.ref 61), some (.int x1)]) (st' := [.int ((-1)), .ref 61]) (n' := 94) (M' := (I, J, xrf)) (fun f => rfl) ?_
  exact p_X12_read_17 x1 ((-1)) I J h hC
theorem p_X12_read_15 {L : Nat} {xs : Nat → Int32} {d : Nat} {Q : xO → Prop} (x1 : Int32) (I : xI) (J : xJ) {t : Int32 × xI × xJ} (h : f_X12_read_15 x1 I J = some t) (hC : (c_X12_read Q) t) : Rn L xs (d + 5) 199 125 [some (.ref 61), some (.int x1)] [.ref 61] 94 (I, J, xrf) Q := by
  unfold f_X12_read_15 at h
  refine Rn.go 3 (j' := 199) (pc' := 133) (ls' := [some (.ref 61), some (.int x1)]) (st' := [.int ((I 61 15)), .ref 61]) (n' := 94) (M' := (I, J, xrf)) (fun f => rfl) ?_
  exact p_X12_read_17 x1 ((I 61 15)) I J h hC
theorem p_X12_read_14 {L : Nat} {xs : Nat → Int32} {d : Nat} {Q : xO → Prop} (x1 : Int32) (I : xI) (J : xJ) {t : Int32 × xI × xJ} (h : f_X12_read_14 x1 I J = some t) (hC : (c_X12_read Q) t) : Rn L xs (d + 5) 199 118 [some (.ref 61), some (.int x1)] [.ref 61] 94 (I, J, xrf) Q := by
  unfold f_X12_read_14 at h
  refine Rn.fi 3 (c := (I 61 14) ≤ 0) (p1 := 132) (l1 := [some (.ref 61), some (.int x1)]) (s1 := [.ref 61]) (n1 := 94) (M1 := (I, J, xrf)) (p2 := 125) (l2 := [some (.ref 61), some (.int x1)]) (s2 := [.ref 61]) (n2 := 94) (M2 := (I, J, xrf)) (fun f => rfl) (fun hc => ?_) (fun hc => ?_)
  · rw [if_pos hc] at h
    exact p_X12_read_16 x1 I J h hC
  · rw [if_neg hc] at h
    exact p_X12_read_15 x1 I J h hC
theorem p_X12_read_13 {L : Nat} {xs : Nat → Int32} {d : Nat} {Q : xO → Prop} (x1 : Int32) (I : xI) (J : xJ) {t : Int32 × xI × xJ} (h : f_X12_read_13 x1 I J = some t) (hC : (c_X12_read Q) t) : Rn L xs (d + 5) 199 111 [some (.ref 61), some (.int x1)] [.ref 61] 94 (I, J, xrf) Q := by
  unfold f_X12_read_13 at h
  refine Rn.go 3 (j' := 199) (pc' := 133) (ls' := [some (.ref 61), some (.int x1)]) (st' := [.int ((I 61 13)), .ref 61]) (n' := 94) (M' := (I, J, xrf)) (fun f => rfl) ?_
  exact p_X12_read_17 x1 ((I 61 13)) I J h hC
theorem p_X12_read_12 {L : Nat} {xs : Nat → Int32} {d : Nat} {Q : xO → Prop} (x1 : Int32) (I : xI) (J : xJ) {t : Int32 × xI × xJ} (h : f_X12_read_12 x1 I J = some t) (hC : (c_X12_read Q) t) : Rn L xs (d + 5) 199 103 [some (.ref 61), some (.int x1)] [] 94 (I, J, xrf) Q := by
  unfold f_X12_read_12 at h
  refine Rn.fi 4 (c := (I 61 12) ≤ 0) (p1 := 118) (l1 := [some (.ref 61), some (.int x1)]) (s1 := [.ref 61]) (n1 := 94) (M1 := (I, J, xrf)) (p2 := 111) (l2 := [some (.ref 61), some (.int x1)]) (s2 := [.ref 61]) (n2 := 94) (M2 := (I, J, xrf)) (fun f => rfl) (fun hc => ?_) (fun hc => ?_)
  · rw [if_pos hc] at h
    exact p_X12_read_14 x1 I J h hC
  · rw [if_neg hc] at h
    exact p_X12_read_13 x1 I J h hC
theorem p_X12_read_11 {L : Nat} {xs : Nat → Int32} {d : Nat} {Q : xO → Prop} (x1 : Int32) (I : xI) (J : xJ) {t : Int32 × xI × xJ} (h : f_X12_read_11 x1 I J = some t) (hC : (c_X12_read Q) t) : Rn L xs (d + 5) 199 99 [some (.ref 61), some (.int x1)] [] 94 (I, J, xrf) Q := by
  unfold f_X12_read_11 at h
  refine Rn.go 1 (j' := 199) (pc' := 100) (ls' := [some (.ref 61), some (.int x1)]) (st' := [.ref 61]) (n' := 94) (M' := (I, J, xrf)) (fun f => rfl) ?_
  obtain ⟨o, ho, h⟩ := Option.bind_eq_some_iff.mp h
  refine Rn.call (d1 := d + 4) (j1 := 205) (ls1 := [some (.ref 61), none, none, none]) (rest := []) (fun f => rfl) ?_
  refine p_X12_means (d := d + 1) I J (t := o) ho ?_
  exact p_X12_read_12 x1 o.2.1 o.2.2 h hC
theorem p_X12_read_10 {L : Nat} {xs : Nat → Int32} {d : Nat} {Q : xO → Prop} (x1 : Int32) (I : xI) (J : xJ) {t : Int32 × xI × xJ} (h : f_X12_read_10 x1 I J = some t) (hC : (c_X12_read Q) t) : Rn L xs (d + 5) 199 92 [some (.ref 61), some (.int x1)] [] 94 (I, J, xrf) Q := by
  unfold f_X12_read_10 at h
  refine Rn.fi 3 (c := (I 61 12) = 0) (p1 := 99) (l1 := [some (.ref 61), some (.int x1)]) (s1 := []) (n1 := 94) (M1 := (I, J, xrf)) (p2 := 103) (l2 := [some (.ref 61), some (.int x1)]) (s2 := []) (n2 := 94) (M2 := (I, J, xrf)) (fun f => rfl) (fun hc => ?_) (fun hc => ?_)
  · rw [if_pos hc] at h
    exact p_X12_read_11 x1 I J h hC
  · rw [if_neg hc] at h
    exact p_X12_read_12 x1 I J h hC
theorem p_X12_read_9 {L : Nat} {xs : Nat → Int32} {d : Nat} {Q : xO → Prop} (x1 : Int32) (I : xI) (J : xJ) {t : (Int32 × xI × xJ) ⊕ (Int32 × xI × xJ)} (h : f_X12_read_9 x1 I J = some t) (hC : (c_X12_read_5 L xs d Q) t) : Rn L xs (d + 5) 199 89 [some (.ref 61), some (.int x1)] [] 94 (I, J, xrf) Q := by
  unfold f_X12_read_9 at h
  refine Rn.go 1 (j' := 199) (pc' := 70) (ls' := [some (.ref 61), some (.int x1)]) (st' := []) (n' := 94) (M' := (I, J, xrf)) (fun f => rfl) ?_
  cases h; exact hC
theorem p_X12_read_8 {L : Nat} {xs : Nat → Int32} {d : Nat} {Q : xO → Prop} (x1 : Int32) (I : xI) (J : xJ) {t : (Int32 × xI × xJ) ⊕ (Int32 × xI × xJ)} (h : f_X12_read_8 x1 I J = some t) (hC : (c_X12_read_5 L xs d Q) t) : Rn L xs (d + 5) 199 85 [some (.ref 61), some (.int x1)] [] 94 (I, J, xrf) Q := by
  unfold f_X12_read_8 at h
  refine Rn.go 1 (j' := 199) (pc' := 86) (ls' := [some (.ref 61), some (.int x1)]) (st' := [.ref 61]) (n' := 94) (M' := (I, J, xrf)) (fun f => rfl) ?_
  obtain ⟨o, ho, h⟩ := Option.bind_eq_some_iff.mp h
  refine Rn.call (d1 := d + 4) (j1 := 202) (ls1 := [some (.ref 61), none]) (rest := []) (fun f => rfl) ?_
  refine p_X12_line (d := d + 0) I J (t := o) ho ?_
  exact p_X12_read_9 x1 o.2.1 o.2.2 h hC
theorem p_X12_read_7 {L : Nat} {xs : Nat → Int32} {d : Nat} {Q : xO → Prop} (x1 : Int32) (s0 : Int32) (I : xI) (J : xJ) {t : (Int32 × xI × xJ) ⊕ (Int32 × xI × xJ)} (h : f_X12_read_7 x1 s0 I J = some t) (hC : (c_X12_read_5 L xs d Q) t) : Rn L xs (d + 5) 199 82 [some (.ref 61), some (.int x1)] [.int s0] 94 (I, J, xrf) Q := by
  unfold f_X12_read_7 at h
  refine Rn.fi 1 (c := s0 = 0) (p1 := 85) (l1 := [some (.ref 61), some (.int x1)]) (s1 := []) (n1 := 94) (M1 := (I, J, xrf)) (p2 := 92) (l2 := [some (.ref 61), some (.int x1)]) (s2 := []) (n2 := 94) (M2 := (I, J, xrf)) (fun f => rfl) (fun hc => ?_) (fun hc => ?_)
  · rw [if_pos hc] at h
    exact p_X12_read_8 x1 I J h hC
  · rw [if_neg hc] at h
    obtain ⟨t0, h0, rfl⟩ := Option.map_eq_some_iff.mp h
    exact p_X12_read_10 x1 I J h0 hC
theorem p_X12_read_6 {L : Nat} {xs : Nat → Int32} {d : Nat} {Q : xO → Prop} (x1 : Int32) (I : xI) (J : xJ) {t : (Int32 × xI × xJ) ⊕ (Int32 × xI × xJ)} (h : f_X12_read_6 x1 I J = some t) (hC : (c_X12_read_5 L xs d Q) t) : Rn L xs (d + 5) 199 77 [some (.ref 61), some (.int x1)] [] 94 (I, J, xrf) Q := by
  unfold f_X12_read_6 at h
  refine Rn.go 2 (j' := 199) (pc' := 79) (ls' := [some (.ref 61), some (.int x1)]) (st' := [.int 0, .ref 61]) (n' := 94) (M' := (I, J, xrf)) (fun f => rfl) ?_
  obtain ⟨o, ho, h⟩ := Option.bind_eq_some_iff.mp h
  refine Rn.call (d1 := d + 4) (j1 := 194) (ls1 := [some (.ref 61), some (.int 0)]) (rest := []) (fun f => rfl) ?_
  refine p_X12_is (d := d + 3) 0 I J (t := o) ho ?_
  exact p_X12_read_7 x1 o.1 o.2.1 o.2.2 h hC
theorem q_X12_read_5 {L : Nat} {xs : Nat → Int32} {d : Nat} {Q : xO → Prop} (x1 : Int32) (I : xI) (J : xJ) {t : (Int32 × xI × xJ) ⊕ (Int32 × xI × xJ)} (h : b_X12_read_5 x1 I J = some t) (hC : (c_X12_read_5 L xs d Q) t) : Rn L xs (d + 5) 199 70 [some (.ref 61), some (.int x1)] [] 94 (I, J, xrf) Q := by
  unfold b_X12_read_5 at h
  refine Rn.fi 3 (c := (I 61 12) = 0) (p1 := 77) (l1 := [some (.ref 61), some (.int x1)]) (s1 := []) (n1 := 94) (M1 := (I, J, xrf)) (p2 := 92) (l2 := [some (.ref 61), some (.int x1)]) (s2 := []) (n2 := 94) (M2 := (I, J, xrf)) (fun f => rfl) (fun hc => ?_) (fun hc => ?_)
  · rw [if_pos hc] at h
    exact p_X12_read_6 x1 I J h hC
  · rw [if_neg hc] at h
    obtain ⟨t0, h0, rfl⟩ := Option.map_eq_some_iff.mp h
    exact p_X12_read_10 x1 I J h0 hC
theorem p_X12_read_5 {L : Nat} {xs : Nat → Int32} {d : Nat} {Q : xO → Prop} (x1 : Int32) (I : xI) (J : xJ) {t : Int32 × xI × xJ} (h : f_X12_read_5 x1 I J = some t) (hC : (c_X12_read Q) t) : Rn L xs (d + 5) 199 70 [some (.ref 61), some (.int x1)] [] 94 (I, J, xrf) Q := by
  unfold f_X12_read_5 at h
  exact xloop_some (P := fun s : Int32 × xI × xJ => Rn L xs (d + 5) 199 70 [some (.ref 61), some (.int s.1)] [] 94 (s.2.1, s.2.2, xrf) Q) t (fun s ⟨s', hb, hp⟩ => q_X12_read_5 s.1 s.2.1 s.2.2 hb hp) (fun s hb => q_X12_read_5 s.1 s.2.1 s.2.2 hb hC) _ _ h
theorem p_X12_read_4 {L : Nat} {xs : Nat → Int32} {d : Nat} {Q : xO → Prop} (x1 : Int32) (I : xI) (J : xJ) {t : Int32 × xI × xJ} (h : f_X12_read_4 x1 I J = some t) (hC : (c_X12_read Q) t) : Rn L xs (d + 5) 199 45 [some (.ref 61), some (.int x1)] [] 94 (I, J, xrf) Q := by
  unfold f_X12_read_4 at h
  refine Rn.go 15 (j' := 199) (pc' := 70) (ls' := [some (.ref 61), some (.int x1)]) (st' := []) (n' := 94) (M' := ((xup ((xup ((xup ((xup ((xup I 61 11 0)) 61 12 0)) 61 14 0)) 61 19 0)) 61 20 2), J, xrf)) (fun f => rfl) ?_
  exact p_X12_read_5 x1 ((xup ((xup ((xup ((xup ((xup I 61 11 0)) 61 12 0)) 61 14 0)) 61 19 0)) 61 20 2)) J h hC
theorem p_X12_read_3 {L : Nat} {xs : Nat → Int32} {d : Nat} {Q : xO → Prop} (x1 : Int32) (I : xI) (J : xJ) {t : Int32 × xI × xJ} (h : f_X12_read_3 x1 I J = some t) (hC : (c_X12_read Q) t) : Rn L xs (d + 5) 199 36 [some (.ref 61), some (.int x1)] [] 94 (I, J, xrf) Q := by
  unfold f_X12_read_3 at h
  refine Rn.go 4 (j' := 199) (pc' := 42) (ls' := [some (.ref 61), some (.int x1)]) (st' := [.ref 61]) (n' := 94) (M' := ((xup I 61 2 0), J, xrf)) (fun f => rfl) ?_
  obtain ⟨o, ho, h⟩ := Option.bind_eq_some_iff.mp h
  refine Rn.call (d1 := d + 4) (j1 := 192) (ls1 := [some (.ref 61), none, none, none, none, none, none, none]) (rest := []) (fun f => rfl) ?_
  refine p_X12_parts (d := d + 1) ((xup I 61 2 0)) J (t := o) ho ?_
  exact p_X12_read_4 x1 o.2.1 o.2.2 h hC
theorem p_X12_read_2 {L : Nat} {xs : Nat → Int32} {d : Nat} {Q : xO → Prop} (x1 : Int32) (I : xI) (J : xJ) {t : (Int32 × xI × xJ) ⊕ (Int32 × xI × xJ)} (h : f_X12_read_2 x1 I J = some t) (hC : (c_X12_read_1 L xs d Q) t) : Rn L xs (d + 5) 199 18 [some (.ref 61), some (.int x1)] [] 94 (I, J, xrf) Q := by
  unfold f_X12_read_2 at h
  obtain ⟨hc, h⟩ := xif h
  refine Rn.ok 7 (c := x1 < 0 ∨ 2000 ≤ x1.toNatClampNeg) (p1 := 29) (l1 := [some (.ref 61), some (.int x1)]) (s1 := [.int ((I 62 x1.toNatClampNeg)), .int x1, .ref 63]) (n1 := 94) (M1 := (I, J, xrf)) (fun f => rfl) hc ?_
  obtain ⟨hc, h⟩ := xif h
  refine Rn.ok 1 (c := x1 < 0 ∨ 2000 ≤ x1.toNatClampNeg) (p1 := 30) (l1 := [some (.ref 61), some (.int x1)]) (s1 := []) (n1 := 94) (M1 := ((xup I 63 x1.toNatClampNeg ((Int8.toInt32 (Int32.toInt8 ((I 62 x1.toNatClampNeg)))))), J, xrf)) (fun f => rfl) hc ?_
  refine Rn.go 2 (j' := 199) (pc' := 10) (ls' := [some (.ref 61), some (.int ((x1 + 1)))]) (st' := []) (n' := 94) (M' := ((xup I 63 x1.toNatClampNeg ((Int8.toInt32 (Int32.toInt8 ((I 62 x1.toNatClampNeg)))))), J, xrf)) (fun f => rfl) ?_
  cases h; exact hC
theorem q_X12_read_1 {L : Nat} {xs : Nat → Int32} {d : Nat} {Q : xO → Prop} (x1 : Int32) (I : xI) (J : xJ) {t : (Int32 × xI × xJ) ⊕ (Int32 × xI × xJ)} (h : b_X12_read_1 x1 I J = some t) (hC : (c_X12_read_1 L xs d Q) t) : Rn L xs (d + 5) 199 10 [some (.ref 61), some (.int x1)] [] 94 (I, J, xrf) Q := by
  unfold b_X12_read_1 at h
  refine Rn.fi 4 (c := (I 61 4) ≤ x1) (p1 := 36) (l1 := [some (.ref 61), some (.int x1)]) (s1 := []) (n1 := 94) (M1 := (I, J, xrf)) (p2 := 18) (l2 := [some (.ref 61), some (.int x1)]) (s2 := []) (n2 := 94) (M2 := (I, J, xrf)) (fun f => rfl) (fun hc => ?_) (fun hc => ?_)
  · rw [if_pos hc] at h
    obtain ⟨t0, h0, rfl⟩ := Option.map_eq_some_iff.mp h
    exact p_X12_read_3 x1 I J h0 hC
  · rw [if_neg hc] at h
    exact p_X12_read_2 x1 I J h hC
theorem p_X12_read_1 {L : Nat} {xs : Nat → Int32} {d : Nat} {Q : xO → Prop} (x1 : Int32) (I : xI) (J : xJ) {t : Int32 × xI × xJ} (h : f_X12_read_1 x1 I J = some t) (hC : (c_X12_read Q) t) : Rn L xs (d + 5) 199 10 [some (.ref 61), some (.int x1)] [] 94 (I, J, xrf) Q := by
  unfold f_X12_read_1 at h
  exact xloop_some (P := fun s : Int32 × xI × xJ => Rn L xs (d + 5) 199 10 [some (.ref 61), some (.int s.1)] [] 94 (s.2.1, s.2.2, xrf) Q) t (fun s ⟨s', hb, hp⟩ => q_X12_read_1 s.1 s.2.1 s.2.2 hb hp) (fun s hb => q_X12_read_1 s.1 s.2.1 s.2.2 hb hC) _ _ h
theorem p_X12_read_0 {L : Nat} {xs : Nat → Int32} {d : Nat} {Q : xO → Prop} (I : xI) (J : xJ) {t : Int32 × xI × xJ} (h : f_X12_read_0 I J = some t) (hC : (c_X12_read Q) t) : Rn L xs (d + 5) 199 0 [some (.ref 61), none] [] 94 (I, J, xrf) Q := by
  unfold f_X12_read_0 at h
  refine Rn.go 6 (j' := 199) (pc' := 10) (ls' := [some (.ref 61), some (.int 0)]) (st' := []) (n' := 94) (M' := ((xup I 61 4 ((I 61 2))), J, xrf)) (fun f => rfl) ?_
  exact p_X12_read_1 0 ((xup I 61 4 ((I 61 2)))) J h hC
theorem p_X12_read {L : Nat} {xs : Nat → Int32} {d : Nat} {Q : xO → Prop} (I : xI) (J : xJ) {t : Int32 × xI × xJ} (h : f_X12_read I J = some t) (hC : Q ((some (.int t.1)), 94, (t.2.1, t.2.2, xrf))) : Rn L xs (d + 5) 199 0 [some (.ref 61), none] [] 94 (I, J, xrf) Q := p_X12_read_0 I J h hC
/-! X12_place -/
def c_X12_place (Q : xO → Prop) (t : Int32 × xI × xJ) : Prop := Q ((some (.int t.1)), 94, (t.2.1, t.2.2, xrf))
def f_X12_place_0 (I : xI) (J : xJ) : Option (Int32 × xI × xJ) := some ((I 61 16), I, J)
def f_X12_place (I : xI) (J : xJ) : Option (Int32 × xI × xJ) := f_X12_place_0 I J
theorem p_X12_place_0 {L : Nat} {xs : Nat → Int32} {d : Nat} {Q : xO → Prop} (I : xI) (J : xJ) {t : Int32 × xI × xJ} (h : f_X12_place_0 I J = some t) (hC : (c_X12_place Q) t) : Rn L xs (d + 1) 200 0 [some (.ref 61)] [] 94 (I, J, xrf) Q := by
  unfold f_X12_place_0 at h
  cases h
  exact Rn.ret 3 (o := ((some (.int ((I 61 16)))), 94, (I, J, xrf))) (fun f => rfl) hC
theorem p_X12_place {L : Nat} {xs : Nat → Int32} {d : Nat} {Q : xO → Prop} (I : xI) (J : xJ) {t : Int32 × xI × xJ} (h : f_X12_place I J = some t) (hC : Q ((some (.int t.1)), 94, (t.2.1, t.2.2, xrf))) : Rn L xs (d + 1) 200 0 [some (.ref 61)] [] 94 (I, J, xrf) Q := p_X12_place_0 I J h hC
/-! X12_isState -/
def c_X12_isState (Q : xO → Prop) (t : Int32 × xI × xJ) : Prop := Q ((some (.int t.1)), 94, (t.2.1, t.2.2, xrf))
def f_X12_isState_1 (x1 : Int32) (s0 : Int32) (I : xI) (J : xJ) : Option (Int32 × xI × xJ) := if s0 = 0 ∨ s0 = 1 then some (s0, I, J) else none
def f_X12_isState_0 (x1 : Int32) (I : xI) (J : xJ) : Option (Int32 × xI × xJ) := (f_X12_in x1 0 (((I 61 17) - 1)) I J).bind fun o => f_X12_isState_1 x1 o.1 o.2.1 o.2.2
def f_X12_isState (x1 : Int32) (I : xI) (J : xJ) : Option (Int32 × xI × xJ) := f_X12_isState_0 x1 I J
theorem p_X12_isState_1 {L : Nat} {xs : Nat → Int32} {d : Nat} {Q : xO → Prop} (x1 : Int32) (s0 : Int32) (I : xI) (J : xJ) {t : Int32 × xI × xJ} (h : f_X12_isState_1 x1 s0 I J = some t) (hC : (c_X12_isState Q) t) : Rn L xs (d + 2) 207 11 [some (.ref 61), some (.int x1)] [.int s0] 94 (I, J, xrf) Q := by
  unfold f_X12_isState_1 at h
  obtain ⟨hc, h⟩ := xifT h
  cases h
  exact Rn.retT 1 (c := s0 = 0 ∨ s0 = 1) (o := ((some (.int s0)), 94, (I, J, xrf))) (fun f => rfl) hc hC
theorem p_X12_isState_0 {L : Nat} {xs : Nat → Int32} {d : Nat} {Q : xO → Prop} (x1 : Int32) (I : xI) (J : xJ) {t : Int32 × xI × xJ} (h : f_X12_isState_0 x1 I J = some t) (hC : (c_X12_isState Q) t) : Rn L xs (d + 2) 207 0 [some (.ref 61), some (.int x1)] [] 94 (I, J, xrf) Q := by
  unfold f_X12_isState_0 at h
  refine Rn.go 6 (j' := 207) (pc' := 8) (ls' := [some (.ref 61), some (.int x1)]) (st' := [.int (((I 61 17) - 1)), .int 0, .int x1]) (n' := 94) (M' := (I, J, xrf)) (fun f => rfl) ?_
  obtain ⟨o, ho, h⟩ := Option.bind_eq_some_iff.mp h
  refine Rn.call (d1 := d + 1) (j1 := 206) (ls1 := [some (.int x1), some (.int 0), some (.int (((I 61 17) - 1)))]) (rest := []) (fun f => rfl) ?_
  refine p_X12_in (d := d + 0) x1 0 (((I 61 17) - 1)) I J (t := o) ho ?_
  exact p_X12_isState_1 x1 o.1 o.2.1 o.2.2 h hC
theorem p_X12_isState {L : Nat} {xs : Nat → Int32} {d : Nat} {Q : xO → Prop} (x1 : Int32) (I : xI) (J : xJ) {t : Int32 × xI × xJ} (h : f_X12_isState x1 I J = some t) (hC : Q ((some (.int t.1)), 94, (t.2.1, t.2.2, xrf))) : Rn L xs (d + 2) 207 0 [some (.ref 61), some (.int x1)] [] 94 (I, J, xrf) Q := p_X12_isState_0 x1 I J h hC
/-! X12_isInput -/
def c_X12_isInput (Q : xO → Prop) (t : Int32 × xI × xJ) : Prop := Q ((some (.int t.1)), 94, (t.2.1, t.2.2, xrf))
def f_X12_isInput_1 (x1 : Int32) (s0 : Int32) (I : xI) (J : xJ) : Option (Int32 × xI × xJ) := if s0 = 0 ∨ s0 = 1 then some (s0, I, J) else none
def f_X12_isInput_0 (x1 : Int32) (I : xI) (J : xJ) : Option (Int32 × xI × xJ) := (f_X12_in x1 0 (((I 61 18) - 1)) I J).bind fun o => f_X12_isInput_1 x1 o.1 o.2.1 o.2.2
def f_X12_isInput (x1 : Int32) (I : xI) (J : xJ) : Option (Int32 × xI × xJ) := f_X12_isInput_0 x1 I J
theorem p_X12_isInput_1 {L : Nat} {xs : Nat → Int32} {d : Nat} {Q : xO → Prop} (x1 : Int32) (s0 : Int32) (I : xI) (J : xJ) {t : Int32 × xI × xJ} (h : f_X12_isInput_1 x1 s0 I J = some t) (hC : (c_X12_isInput Q) t) : Rn L xs (d + 2) 208 11 [some (.ref 61), some (.int x1)] [.int s0] 94 (I, J, xrf) Q := by
  unfold f_X12_isInput_1 at h
  obtain ⟨hc, h⟩ := xifT h
  cases h
  exact Rn.retT 1 (c := s0 = 0 ∨ s0 = 1) (o := ((some (.int s0)), 94, (I, J, xrf))) (fun f => rfl) hc hC
theorem p_X12_isInput_0 {L : Nat} {xs : Nat → Int32} {d : Nat} {Q : xO → Prop} (x1 : Int32) (I : xI) (J : xJ) {t : Int32 × xI × xJ} (h : f_X12_isInput_0 x1 I J = some t) (hC : (c_X12_isInput Q) t) : Rn L xs (d + 2) 208 0 [some (.ref 61), some (.int x1)] [] 94 (I, J, xrf) Q := by
  unfold f_X12_isInput_0 at h
  refine Rn.go 6 (j' := 208) (pc' := 8) (ls' := [some (.ref 61), some (.int x1)]) (st' := [.int (((I 61 18) - 1)), .int 0, .int x1]) (n' := 94) (M' := (I, J, xrf)) (fun f => rfl) ?_
  obtain ⟨o, ho, h⟩ := Option.bind_eq_some_iff.mp h
  refine Rn.call (d1 := d + 1) (j1 := 206) (ls1 := [some (.int x1), some (.int 0), some (.int (((I 61 18) - 1)))]) (rest := []) (fun f => rfl) ?_
  refine p_X12_in (d := d + 0) x1 0 (((I 61 18) - 1)) I J (t := o) ho ?_
  exact p_X12_isInput_1 x1 o.1 o.2.1 o.2.2 h hC
theorem p_X12_isInput {L : Nat} {xs : Nat → Int32} {d : Nat} {Q : xO → Prop} (x1 : Int32) (I : xI) (J : xJ) {t : Int32 × xI × xJ} (h : f_X12_isInput x1 I J = some t) (hC : Q ((some (.int t.1)), 94, (t.2.1, t.2.2, xrf))) : Rn L xs (d + 2) 208 0 [some (.ref 61), some (.int x1)] [] 94 (I, J, xrf) Q := p_X12_isInput_0 x1 I J h hC
/-! X12_isMove -/
def c_X12_isMove (Q : xO → Prop) (t : Int32 × xI × xJ) : Prop := Q ((some (.int t.1)), 94, (t.2.1, t.2.2, xrf))
def f_X12_isMove_6 (x1 : Int32) (x2 : Int32) (s0 : Int32) (I : xI) (J : xJ) : Option (Int32 × xI × xJ) := if s0 = 0 ∨ s0 = 1 then some (s0, I, J) else none
def f_X12_isMove_5 (x1 : Int32) (x2 : Int32) (I : xI) (J : xJ) : Option (Int32 × xI × xJ) := f_X12_isMove_6 x1 x2 0 I J
def f_X12_isMove_4 (x1 : Int32) (x2 : Int32) (I : xI) (J : xJ) : Option (Int32 × xI × xJ) := f_X12_isMove_6 x1 x2 1 I J
def f_X12_isMove_3 (x1 : Int32) (x2 : Int32) (s0 : Int32) (I : xI) (J : xJ) : Option (Int32 × xI × xJ) := if s0 = 0 then f_X12_isMove_5 x1 x2 I J else f_X12_isMove_4 x1 x2 I J
def f_X12_isMove_2 (x1 : Int32) (x2 : Int32) (I : xI) (J : xJ) : Option (Int32 × xI × xJ) := (f_X12_isInput x2 I J).bind fun o => f_X12_isMove_3 x1 x2 o.1 o.2.1 o.2.2
def f_X12_isMove_1 (x1 : Int32) (x2 : Int32) (s0 : Int32) (I : xI) (J : xJ) : Option (Int32 × xI × xJ) := if s0 = 0 then f_X12_isMove_5 x1 x2 I J else f_X12_isMove_2 x1 x2 I J
def f_X12_isMove_0 (x1 : Int32) (x2 : Int32) (I : xI) (J : xJ) : Option (Int32 × xI × xJ) := (f_X12_isState x1 I J).bind fun o => f_X12_isMove_1 x1 x2 o.1 o.2.1 o.2.2
def f_X12_isMove (x1 : Int32) (x2 : Int32) (I : xI) (J : xJ) : Option (Int32 × xI × xJ) := f_X12_isMove_0 x1 x2 I J
theorem p_X12_isMove_6 {L : Nat} {xs : Nat → Int32} {d : Nat} {Q : xO → Prop} (x1 : Int32) (x2 : Int32) (s0 : Int32) (I : xI) (J : xJ) {t : Int32 × xI × xJ} (h : f_X12_isMove_6 x1 x2 s0 I J = some t) (hC : (c_X12_isMove Q) t) : Rn L xs (d + 3) 209 21 [some (.ref 61), some (.int x1), some (.int x2)] [.int s0] 94 (I, J, xrf) Q := by
  unfold f_X12_isMove_6 at h
  obtain ⟨hc, h⟩ := xifT h
  cases h
  exact Rn.retT 1 (c := s0 = 0 ∨ s0 = 1) (o := ((some (.int s0)), 94, (I, J, xrf))) (fun f => rfl) hc hC
theorem p_X12_isMove_5 {L : Nat} {xs : Nat → Int32} {d : Nat} {Q : xO → Prop} (x1 : Int32) (x2 : Int32) (I : xI) (J : xJ) {t : Int32 × xI × xJ} (h : f_X12_isMove_5 x1 x2 I J = some t) (hC : (c_X12_isMove Q) t) : Rn L xs (d + 3) 209 20 [some (.ref 61), some (.int x1), some (.int x2)] [] 94 (I, J, xrf) Q := by
  unfold f_X12_isMove_5 at h
  refine Rn.go 1 (j' := 209) (pc' := 21) (ls' := [some (.ref 61), some (.int x1), some (.int x2)]) (st' := [.int 0]) (n' := 94) (M' := (I, J, xrf)) (fun f => rfl) ?_
  exact p_X12_isMove_6 x1 x2 0 I J h hC
theorem p_X12_isMove_4 {L : Nat} {xs : Nat → Int32} {d : Nat} {Q : xO → Prop} (x1 : Int32) (x2 : Int32) (I : xI) (J : xJ) {t : Int32 × xI × xJ} (h : f_X12_isMove_4 x1 x2 I J = some t) (hC : (c_X12_isMove Q) t) : Rn L xs (d + 3) 209 16 [some (.ref 61), some (.int x1), some (.int x2)] [] 94 (I, J, xrf) Q := by
  unfold f_X12_isMove_4 at h
  refine Rn.go 2 (j' := 209) (pc' := 21) (ls' := [some (.ref 61), some (.int x1), some (.int x2)]) (st' := [.int 1]) (n' := 94) (M' := (I, J, xrf)) (fun f => rfl) ?_
  exact p_X12_isMove_6 x1 x2 1 I J h hC
theorem p_X12_isMove_3 {L : Nat} {xs : Nat → Int32} {d : Nat} {Q : xO → Prop} (x1 : Int32) (x2 : Int32) (s0 : Int32) (I : xI) (J : xJ) {t : Int32 × xI × xJ} (h : f_X12_isMove_3 x1 x2 s0 I J = some t) (hC : (c_X12_isMove Q) t) : Rn L xs (d + 3) 209 13 [some (.ref 61), some (.int x1), some (.int x2)] [.int s0] 94 (I, J, xrf) Q := by
  unfold f_X12_isMove_3 at h
  refine Rn.fi 1 (c := s0 = 0) (p1 := 20) (l1 := [some (.ref 61), some (.int x1), some (.int x2)]) (s1 := []) (n1 := 94) (M1 := (I, J, xrf)) (p2 := 16) (l2 := [some (.ref 61), some (.int x1), some (.int x2)]) (s2 := []) (n2 := 94) (M2 := (I, J, xrf)) (fun f => rfl) (fun hc => ?_) (fun hc => ?_)
  · rw [if_pos hc] at h
    exact p_X12_isMove_5 x1 x2 I J h hC
  · rw [if_neg hc] at h
    exact p_X12_isMove_4 x1 x2 I J h hC
theorem p_X12_isMove_2 {L : Nat} {xs : Nat → Int32} {d : Nat} {Q : xO → Prop} (x1 : Int32) (x2 : Int32) (I : xI) (J : xJ) {t : Int32 × xI × xJ} (h : f_X12_isMove_2 x1 x2 I J = some t) (hC : (c_X12_isMove Q) t) : Rn L xs (d + 3) 209 8 [some (.ref 61), some (.int x1), some (.int x2)] [] 94 (I, J, xrf) Q := by
  unfold f_X12_isMove_2 at h
  refine Rn.go 2 (j' := 209) (pc' := 10) (ls' := [some (.ref 61), some (.int x1), some (.int x2)]) (st' := [.int x2, .ref 61]) (n' := 94) (M' := (I, J, xrf)) (fun f => rfl) ?_
  obtain ⟨o, ho, h⟩ := Option.bind_eq_some_iff.mp h
  refine Rn.call (d1 := d + 2) (j1 := 208) (ls1 := [some (.ref 61), some (.int x2)]) (rest := []) (fun f => rfl) ?_
  refine p_X12_isInput (d := d + 0) x2 I J (t := o) ho ?_
  exact p_X12_isMove_3 x1 x2 o.1 o.2.1 o.2.2 h hC
theorem p_X12_isMove_1 {L : Nat} {xs : Nat → Int32} {d : Nat} {Q : xO → Prop} (x1 : Int32) (x2 : Int32) (s0 : Int32) (I : xI) (J : xJ) {t : Int32 × xI × xJ} (h : f_X12_isMove_1 x1 x2 s0 I J = some t) (hC : (c_X12_isMove Q) t) : Rn L xs (d + 3) 209 5 [some (.ref 61), some (.int x1), some (.int x2)] [.int s0] 94 (I, J, xrf) Q := by
  unfold f_X12_isMove_1 at h
  refine Rn.fi 1 (c := s0 = 0) (p1 := 20) (l1 := [some (.ref 61), some (.int x1), some (.int x2)]) (s1 := []) (n1 := 94) (M1 := (I, J, xrf)) (p2 := 8) (l2 := [some (.ref 61), some (.int x1), some (.int x2)]) (s2 := []) (n2 := 94) (M2 := (I, J, xrf)) (fun f => rfl) (fun hc => ?_) (fun hc => ?_)
  · rw [if_pos hc] at h
    exact p_X12_isMove_5 x1 x2 I J h hC
  · rw [if_neg hc] at h
    exact p_X12_isMove_2 x1 x2 I J h hC
theorem p_X12_isMove_0 {L : Nat} {xs : Nat → Int32} {d : Nat} {Q : xO → Prop} (x1 : Int32) (x2 : Int32) (I : xI) (J : xJ) {t : Int32 × xI × xJ} (h : f_X12_isMove_0 x1 x2 I J = some t) (hC : (c_X12_isMove Q) t) : Rn L xs (d + 3) 209 0 [some (.ref 61), some (.int x1), some (.int x2)] [] 94 (I, J, xrf) Q := by
  unfold f_X12_isMove_0 at h
  refine Rn.go 2 (j' := 209) (pc' := 2) (ls' := [some (.ref 61), some (.int x1), some (.int x2)]) (st' := [.int x1, .ref 61]) (n' := 94) (M' := (I, J, xrf)) (fun f => rfl) ?_
  obtain ⟨o, ho, h⟩ := Option.bind_eq_some_iff.mp h
  refine Rn.call (d1 := d + 2) (j1 := 207) (ls1 := [some (.ref 61), some (.int x1)]) (rest := []) (fun f => rfl) ?_
  refine p_X12_isState (d := d + 0) x1 I J (t := o) ho ?_
  exact p_X12_isMove_1 x1 x2 o.1 o.2.1 o.2.2 h hC
theorem p_X12_isMove {L : Nat} {xs : Nat → Int32} {d : Nat} {Q : xO → Prop} (x1 : Int32) (x2 : Int32) (I : xI) (J : xJ) {t : Int32 × xI × xJ} (h : f_X12_isMove x1 x2 I J = some t) (hC : Q ((some (.int t.1)), 94, (t.2.1, t.2.2, xrf))) : Rn L xs (d + 3) 209 0 [some (.ref 61), some (.int x1), some (.int x2)] [] 94 (I, J, xrf) Q := p_X12_isMove_0 x1 x2 I J h hC
/-! X12_to -/
def c_X12_to (Q : xO → Prop) (t : Int32 × xI × xJ) : Prop := Q ((some (.int t.1)), 94, (t.2.1, t.2.2, xrf))
def f_X12_to_0 (x1 : Int32) (x2 : Int32) (I : xI) (J : xJ) : Option (Int32 × xI × xJ) := if ((4 * x1) + x2) < 0 ∨ 54 ≤ (((4 * x1) + x2)).toNatClampNeg then none else some ((I 70 (((4 * x1) + x2)).toNatClampNeg), I, J)
def f_X12_to (x1 : Int32) (x2 : Int32) (I : xI) (J : xJ) : Option (Int32 × xI × xJ) := f_X12_to_0 x1 x2 I J
theorem p_X12_to_0 {L : Nat} {xs : Nat → Int32} {d : Nat} {Q : xO → Prop} (x1 : Int32) (x2 : Int32) (I : xI) (J : xJ) {t : Int32 × xI × xJ} (h : f_X12_to_0 x1 x2 I J = some t) (hC : (c_X12_to Q) t) : Rn L xs (d + 1) 210 0 [some (.ref 61), some (.int x1), some (.int x2)] [] 94 (I, J, xrf) Q := by
  unfold f_X12_to_0 at h
  obtain ⟨hc, h⟩ := xif h
  refine Rn.ok 8 (c := ((4 * x1) + x2) < 0 ∨ 54 ≤ (((4 * x1) + x2)).toNatClampNeg) (p1 := 10) (l1 := [some (.ref 61), some (.int x1), some (.int x2)]) (s1 := [.int ((I 70 (((4 * x1) + x2)).toNatClampNeg))]) (n1 := 94) (M1 := (I, J, xrf)) (fun f => rfl) hc ?_
  cases h
  exact Rn.ret 1 (o := ((some (.int ((I 70 (((4 * x1) + x2)).toNatClampNeg)))), 94, (I, J, xrf))) (fun f => rfl) hC
theorem p_X12_to {L : Nat} {xs : Nat → Int32} {d : Nat} {Q : xO → Prop} (x1 : Int32) (x2 : Int32) (I : xI) (J : xJ) {t : Int32 × xI × xJ} (h : f_X12_to x1 x2 I J = some t) (hC : Q ((some (.int t.1)), 94, (t.2.1, t.2.2, xrf))) : Rn L xs (d + 1) 210 0 [some (.ref 61), some (.int x1), some (.int x2)] [] 94 (I, J, xrf) Q := p_X12_to_0 x1 x2 I J h hC
/-! X12_answer -/
def c_X12_answer (Q : xO → Prop) (t : Int32 × xI × xJ) : Prop := Q ((some (.int t.1)), 94, (t.2.1, t.2.2, xrf))
def f_X12_answer_0 (x1 : Int32) (x2 : Int32) (I : xI) (J : xJ) : Option (Int32 × xI × xJ) := if ((24 + (4 * x1)) + x2) < 0 ∨ 54 ≤ (((24 + (4 * x1)) + x2)).toNatClampNeg then none else some ((I 70 (((24 + (4 * x1)) + x2)).toNatClampNeg), I, J)
def f_X12_answer (x1 : Int32) (x2 : Int32) (I : xI) (J : xJ) : Option (Int32 × xI × xJ) := f_X12_answer_0 x1 x2 I J
theorem p_X12_answer_0 {L : Nat} {xs : Nat → Int32} {d : Nat} {Q : xO → Prop} (x1 : Int32) (x2 : Int32) (I : xI) (J : xJ) {t : Int32 × xI × xJ} (h : f_X12_answer_0 x1 x2 I J = some t) (hC : (c_X12_answer Q) t) : Rn L xs (d + 1) 211 0 [some (.ref 61), some (.int x1), some (.int x2)] [] 94 (I, J, xrf) Q := by
  unfold f_X12_answer_0 at h
  obtain ⟨hc, h⟩ := xif h
  refine Rn.ok 10 (c := ((24 + (4 * x1)) + x2) < 0 ∨ 54 ≤ (((24 + (4 * x1)) + x2)).toNatClampNeg) (p1 := 13) (l1 := [some (.ref 61), some (.int x1), some (.int x2)]) (s1 := [.int ((I 70 (((24 + (4 * x1)) + x2)).toNatClampNeg))]) (n1 := 94) (M1 := (I, J, xrf)) (fun f => rfl) hc ?_
  cases h
  exact Rn.ret 1 (o := ((some (.int ((I 70 (((24 + (4 * x1)) + x2)).toNatClampNeg)))), 94, (I, J, xrf))) (fun f => rfl) hC
theorem p_X12_answer {L : Nat} {xs : Nat → Int32} {d : Nat} {Q : xO → Prop} (x1 : Int32) (x2 : Int32) (I : xI) (J : xJ) {t : Int32 × xI × xJ} (h : f_X12_answer x1 x2 I J = some t) (hC : Q ((some (.int t.1)), 94, (t.2.1, t.2.2, xrf))) : Rn L xs (d + 1) 211 0 [some (.ref 61), some (.int x1), some (.int x2)] [] 94 (I, J, xrf) Q := p_X12_answer_0 x1 x2 I J h hC
/-! X12_marks -/
def c_X12_marks (Q : xO → Prop) (t : Unit × xI × xJ) : Prop := Q (none, 94, (t.2.1, t.2.2, xrf))
def c_X12_marks_3 (L : Nat) (xs : Nat → Int32) (d : Nat) (Q : xO → Prop) (t : (Int32 × Int32 × xI × xJ) ⊕ (Unit × xI × xJ)) : Prop := match t with
  | .inl s => Rn L xs (d + 2) 215 50 [some (.ref 61), some (.int s.1), some (.int s.2.1)] [] 94 (s.2.2.1, s.2.2.2, xrf) Q
  | .inr t => (c_X12_marks Q) t
def f_X12_marks_6 (x1 : Int32) (x2 : Int32) (I : xI) (J : xJ) : Option (Unit × xI × xJ) := some ((), I, J)
def f_X12_marks_5 (x1 : Int32) (x2 : Int32) (I : xI) (J : xJ) : Option (Unit × xI × xJ) := (f_X12_changes ((xup I 61 26 (((I 61 26) + 1)))) J).bind fun o => f_X12_marks_6 x1 x2 o.2.1 o.2.2
def f_X12_marks_4 (x1 : Int32) (x2 : Int32) (I : xI) (J : xJ) : Option ((Int32 × Int32 × xI × xJ) ⊕ (Unit × xI × xJ)) := if x2 < 0 ∨ 54 ≤ x2.toNatClampNeg then none else if (x1 + x2) < 0 ∨ 2160 ≤ ((x1 + x2)).toNatClampNeg then none else some (.inl (x1, ((x2 + 1)), ((xup I 72 ((x1 + x2)).toNatClampNeg ((I 70 x2.toNatClampNeg)))), J))
def b_X12_marks_3 (x1 : Int32) (x2 : Int32) (I : xI) (J : xJ) : Option ((Int32 × Int32 × xI × xJ) ⊕ (Unit × xI × xJ)) := if 54 ≤ x2 then ((f_X12_marks_5 x1 x2 I J)).map .inr else f_X12_marks_4 x1 x2 I J
def f_X12_marks_3 (x1 : Int32) (x2 : Int32) (I : xI) (J : xJ) : Option (Unit × xI × xJ) := xloop (fun s : Int32 × Int32 × xI × xJ => b_X12_marks_3 s.1 s.2.1 s.2.2.1 s.2.2.2) 5000 (x1, x2, I, J)
def f_X12_marks_2 (I : xI) (J : xJ) : Option (Unit × xI × xJ) := f_X12_marks_3 ((54 * (((I 61 25) + (I 61 26)) - ((I 61 25) + (I 61 26)) / 40 * 40))) 0 I J
def f_X12_marks_1 (I : xI) (J : xJ) : Option (Unit × xI × xJ) := f_X12_marks_2 ((xup ((xup I 61 25 ((((I 61 25) + 1) - ((I 61 25) + 1) / 40 * 40)))) 61 26 (((((xup I 61 25 ((((I 61 25) + 1) - ((I 61 25) + 1) / 40 * 40)))) 61 26) - 1)))) J
def f_X12_marks_0 (I : xI) (J : xJ) : Option (Unit × xI × xJ) := if (I 61 26) = 40 then f_X12_marks_1 I J else f_X12_marks_2 I J
def f_X12_marks (I : xI) (J : xJ) : Option (Unit × xI × xJ) := f_X12_marks_0 I J
theorem p_X12_marks_6 {L : Nat} {xs : Nat → Int32} {d : Nat} {Q : xO → Prop} (x1 : Int32) (x2 : Int32) (I : xI) (J : xJ) {t : Unit × xI × xJ} (h : f_X12_marks_6 x1 x2 I J = some t) (hC : (c_X12_marks Q) t) : Rn L xs (d + 2) 215 90 [some (.ref 61), some (.int x1), some (.int x2)] [] 94 (I, J, xrf) Q := by
  unfold f_X12_marks_6 at h
  cases h
  exact Rn.ret 1 (o := (none, 94, (I, J, xrf))) (fun f => rfl) hC
theorem p_X12_marks_5 {L : Nat} {xs : Nat → Int32} {d : Nat} {Q : xO → Prop} (x1 : Int32) (x2 : Int32) (I : xI) (J : xJ) {t : Unit × xI × xJ} (h : f_X12_marks_5 x1 x2 I J = some t) (hC : (c_X12_marks Q) t) : Rn L xs (d + 2) 215 76 [some (.ref 61), some (.int x1), some (.int x2)] [] 94 (I, J, xrf) Q := by
  unfold f_X12_marks_5 at h
  refine Rn.go 7 (j' := 215) (pc' := 87) (ls' := [some (.ref 61), some (.int x1), some (.int x2)]) (st' := [.ref 61]) (n' := 94) (M' := ((xup I 61 26 (((I 61 26) + 1))), J, xrf)) (fun f => rfl) ?_
  obtain ⟨o, ho, h⟩ := Option.bind_eq_some_iff.mp h
  refine Rn.call (d1 := d + 1) (j1 := 222) (ls1 := [some (.ref 61)]) (rest := []) (fun f => rfl) ?_
  refine p_X12_changes (d := d + 0) ((xup I 61 26 (((I 61 26) + 1)))) J (t := o) ho ?_
  exact p_X12_marks_6 x1 x2 o.2.1 o.2.2 h hC
theorem p_X12_marks_4 {L : Nat} {xs : Nat → Int32} {d : Nat} {Q : xO → Prop} (x1 : Int32) (x2 : Int32) (I : xI) (J : xJ) {t : (Int32 × Int32 × xI × xJ) ⊕ (Unit × xI × xJ)} (h : f_X12_marks_4 x1 x2 I J = some t) (hC : (c_X12_marks_3 L xs d Q) t) : Rn L xs (d + 2) 215 56 [some (.ref 61), some (.int x1), some (.int x2)] [] 94 (I, J, xrf) Q := by
  unfold f_X12_marks_4 at h
  obtain ⟨hc, h⟩ := xif h
  refine Rn.ok 9 (c := x2 < 0 ∨ 54 ≤ x2.toNatClampNeg) (p1 := 69) (l1 := [some (.ref 61), some (.int x1), some (.int x2)]) (s1 := [.int ((I 70 x2.toNatClampNeg)), .int ((x1 + x2)), .ref 72]) (n1 := 94) (M1 := (I, J, xrf)) (fun f => rfl) hc ?_
  obtain ⟨hc, h⟩ := xif h
  refine Rn.ok 1 (c := (x1 + x2) < 0 ∨ 2160 ≤ ((x1 + x2)).toNatClampNeg) (p1 := 70) (l1 := [some (.ref 61), some (.int x1), some (.int x2)]) (s1 := []) (n1 := 94) (M1 := ((xup I 72 ((x1 + x2)).toNatClampNeg ((I 70 x2.toNatClampNeg))), J, xrf)) (fun f => rfl) hc ?_
  refine Rn.go 2 (j' := 215) (pc' := 50) (ls' := [some (.ref 61), some (.int x1), some (.int ((x2 + 1)))]) (st' := []) (n' := 94) (M' := ((xup I 72 ((x1 + x2)).toNatClampNeg ((I 70 x2.toNatClampNeg))), J, xrf)) (fun f => rfl) ?_
  cases h; exact hC
theorem q_X12_marks_3 {L : Nat} {xs : Nat → Int32} {d : Nat} {Q : xO → Prop} (x1 : Int32) (x2 : Int32) (I : xI) (J : xJ) {t : (Int32 × Int32 × xI × xJ) ⊕ (Unit × xI × xJ)} (h : b_X12_marks_3 x1 x2 I J = some t) (hC : (c_X12_marks_3 L xs d Q) t) : Rn L xs (d + 2) 215 50 [some (.ref 61), some (.int x1), some (.int x2)] [] 94 (I, J, xrf) Q := by
  unfold b_X12_marks_3 at h
  refine Rn.fi 3 (c := 54 ≤ x2) (p1 := 76) (l1 := [some (.ref 61), some (.int x1), some (.int x2)]) (s1 := []) (n1 := 94) (M1 := (I, J, xrf)) (p2 := 56) (l2 := [some (.ref 61), some (.int x1), some (.int x2)]) (s2 := []) (n2 := 94) (M2 := (I, J, xrf)) (fun f => rfl) (fun hc => ?_) (fun hc => ?_)
  · rw [if_pos hc] at h
    obtain ⟨t0, h0, rfl⟩ := Option.map_eq_some_iff.mp h
    exact p_X12_marks_5 x1 x2 I J h0 hC
  · rw [if_neg hc] at h
    exact p_X12_marks_4 x1 x2 I J h hC
theorem p_X12_marks_3 {L : Nat} {xs : Nat → Int32} {d : Nat} {Q : xO → Prop} (x1 : Int32) (x2 : Int32) (I : xI) (J : xJ) {t : Unit × xI × xJ} (h : f_X12_marks_3 x1 x2 I J = some t) (hC : (c_X12_marks Q) t) : Rn L xs (d + 2) 215 50 [some (.ref 61), some (.int x1), some (.int x2)] [] 94 (I, J, xrf) Q := by
  unfold f_X12_marks_3 at h
  exact xloop_some (P := fun s : Int32 × Int32 × xI × xJ => Rn L xs (d + 2) 215 50 [some (.ref 61), some (.int s.1), some (.int s.2.1)] [] 94 (s.2.2.1, s.2.2.2, xrf) Q) t (fun s ⟨s', hb, hp⟩ => q_X12_marks_3 s.1 s.2.1 s.2.2.1 s.2.2.2 hb hp) (fun s hb => q_X12_marks_3 s.1 s.2.1 s.2.2.1 s.2.2.2 hb hC) _ _ h
theorem p_X12_marks_2 {L : Nat} {xs : Nat → Int32} {d : Nat} {Q : xO → Prop} (I : xI) (J : xJ) {t : Unit × xI × xJ} (h : f_X12_marks_2 I J = some t) (hC : (c_X12_marks Q) t) : Rn L xs (d + 2) 215 32 [some (.ref 61), none, none] [] 94 (I, J, xrf) Q := by
  unfold f_X12_marks_2 at h
  refine Rn.go 12 (j' := 215) (pc' := 50) (ls' := [some (.ref 61), some (.int ((54 * (((I 61 25) + (I 61 26)) - ((I 61 25) + (I 61 26)) / 40 * 40)))), some (.int 0)]) (st' := []) (n' := 94) (M' := (I, J, xrf)) (fun f => rfl) ?_
  exact p_X12_marks_3 ((54 * (((I 61 25) + (I 61 26)) - ((I 61 25) + (I 61 26)) / 40 * 40))) 0 I J h hC
theorem p_X12_marks_1 {L : Nat} {xs : Nat → Int32} {d : Nat} {Q : xO → Prop} (I : xI) (J : xJ) {t : Unit × xI × xJ} (h : f_X12_marks_1 I J = some t) (hC : (c_X12_marks Q) t) : Rn L xs (d + 2) 215 9 [some (.ref 61), none, none] [] 94 (I, J, xrf) Q := by
  unfold f_X12_marks_1 at h
  refine Rn.go 14 (j' := 215) (pc' := 32) (ls' := [some (.ref 61), none, none]) (st' := []) (n' := 94) (M' := ((xup ((xup I 61 25 ((((I 61 25) + 1) - ((I 61 25) + 1) / 40 * 40)))) 61 26 (((((xup I 61 25 ((((I 61 25) + 1) - ((I 61 25) + 1) / 40 * 40)))) 61 26) - 1))), J, xrf)) (fun f => rfl) ?_
  exact p_X12_marks_2 ((xup ((xup I 61 25 ((((I 61 25) + 1) - ((I 61 25) + 1) / 40 * 40)))) 61 26 (((((xup I 61 25 ((((I 61 25) + 1) - ((I 61 25) + 1) / 40 * 40)))) 61 26) - 1)))) J h hC
theorem p_X12_marks_0 {L : Nat} {xs : Nat → Int32} {d : Nat} {Q : xO → Prop} (I : xI) (J : xJ) {t : Unit × xI × xJ} (h : f_X12_marks_0 I J = some t) (hC : (c_X12_marks Q) t) : Rn L xs (d + 2) 215 0 [some (.ref 61), none, none] [] 94 (I, J, xrf) Q := by
  unfold f_X12_marks_0 at h
  refine Rn.fi 4 (c := (I 61 26) = 40) (p1 := 9) (l1 := [some (.ref 61), none, none]) (s1 := []) (n1 := 94) (M1 := (I, J, xrf)) (p2 := 32) (l2 := [some (.ref 61), none, none]) (s2 := []) (n2 := 94) (M2 := (I, J, xrf)) (fun f => rfl) (fun hc => ?_) (fun hc => ?_)
  · rw [if_pos hc] at h
    exact p_X12_marks_1 I J h hC
  · rw [if_neg hc] at h
    exact p_X12_marks_2 I J h hC
theorem p_X12_marks {L : Nat} {xs : Nat → Int32} {d : Nat} {Q : xO → Prop} (I : xI) (J : xJ) {t : Unit × xI × xJ} (h : f_X12_marks I J = some t) (hC : Q (none, 94, (t.2.1, t.2.2, xrf))) : Rn L xs (d + 2) 215 0 [some (.ref 61), none, none] [] 94 (I, J, xrf) Q := p_X12_marks_0 I J h hC
/-! X12_set -/
def c_X12_set (Q : xO → Prop) (t : Int32 × xI × xJ) : Prop := Q ((some (.int t.1)), 94, (t.2.1, t.2.2, xrf))
def f_X12_set_8 (x1 : Int32) (x2 : Int32) (x3 : Int32) (x4 : Int32) (I : xI) (J : xJ) : Option (Int32 × xI × xJ) := some (0, I, J)
def f_X12_set_15 (x1 : Int32) (x2 : Int32) (x3 : Int32) (x4 : Int32) (I : xI) (J : xJ) : Option (Int32 × xI × xJ) := if ((4 * x1) + x2) < 0 ∨ 54 ≤ (((4 * x1) + x2)).toNatClampNeg then none else if ((24 + (4 * x1)) + x2) < 0 ∨ 54 ≤ (((24 + (4 * x1)) + x2)).toNatClampNeg then none else some (1, (xup ((xup I 70 (((4 * x1) + x2)).toNatClampNeg x3)) 70 (((24 + (4 * x1)) + x2)).toNatClampNeg x4), J)
def f_X12_set_14 (x1 : Int32) (x2 : Int32) (x3 : Int32) (x4 : Int32) (I : xI) (J : xJ) : Option (Int32 × xI × xJ) := (f_X12_marks I J).bind fun o => f_X12_set_15 x1 x2 x3 x4 o.2.1 o.2.2
def f_X12_set_13 (x1 : Int32) (x2 : Int32) (x3 : Int32) (x4 : Int32) (I : xI) (J : xJ) : Option (Int32 × xI × xJ) := some (0, I, J)
def f_X12_set_12 (x1 : Int32) (x2 : Int32) (x3 : Int32) (x4 : Int32) (s0 : Int32) (I : xI) (J : xJ) : Option (Int32 × xI × xJ) := if s0 = x4 then f_X12_set_13 x1 x2 x3 x4 I J else f_X12_set_14 x1 x2 x3 x4 I J
def f_X12_set_11 (x1 : Int32) (x2 : Int32) (x3 : Int32) (x4 : Int32) (I : xI) (J : xJ) : Option (Int32 × xI × xJ) := (f_X12_answer x1 x2 I J).bind fun o => f_X12_set_12 x1 x2 x3 x4 o.1 o.2.1 o.2.2
def f_X12_set_10 (x1 : Int32) (x2 : Int32) (x3 : Int32) (x4 : Int32) (s0 : Int32) (I : xI) (J : xJ) : Option (Int32 × xI × xJ) := if s0 = x3 then f_X12_set_11 x1 x2 x3 x4 I J else f_X12_set_14 x1 x2 x3 x4 I J
def f_X12_set_9 (x1 : Int32) (x2 : Int32) (x3 : Int32) (x4 : Int32) (I : xI) (J : xJ) : Option (Int32 × xI × xJ) := (f_X12_to x1 x2 I J).bind fun o => f_X12_set_10 x1 x2 x3 x4 o.1 o.2.1 o.2.2
def f_X12_set_7 (x1 : Int32) (x2 : Int32) (x3 : Int32) (x4 : Int32) (s0 : Int32) (I : xI) (J : xJ) : Option (Int32 × xI × xJ) := if s0 = 0 then f_X12_set_8 x1 x2 x3 x4 I J else f_X12_set_9 x1 x2 x3 x4 I J
def f_X12_set_6 (x1 : Int32) (x2 : Int32) (x3 : Int32) (x4 : Int32) (I : xI) (J : xJ) : Option (Int32 × xI × xJ) := (f_X12_in x4 0 3 I J).bind fun o => f_X12_set_7 x1 x2 x3 x4 o.1 o.2.1 o.2.2
def f_X12_set_5 (x1 : Int32) (x2 : Int32) (x3 : Int32) (x4 : Int32) (I : xI) (J : xJ) : Option (Int32 × xI × xJ) := if x4 = (-2) then f_X12_set_9 x1 x2 x3 x4 I J else f_X12_set_6 x1 x2 x3 x4 I J
def f_X12_set_4 (x1 : Int32) (x2 : Int32) (x3 : Int32) (x4 : Int32) (s0 : Int32) (I : xI) (J : xJ) : Option (Int32 × xI × xJ) := if s0 = 0 then f_X12_set_8 x1 x2 x3 x4 I J else f_X12_set_5 x1 x2 x3 x4 I J
def f_X12_set_3 (x1 : Int32) (x2 : Int32) (x3 : Int32) (x4 : Int32) (I : xI) (J : xJ) : Option (Int32 × xI × xJ) := (f_X12_isState x3 I J).bind fun o => f_X12_set_4 x1 x2 x3 x4 o.1 o.2.1 o.2.2
def f_X12_set_2 (x1 : Int32) (x2 : Int32) (x3 : Int32) (x4 : Int32) (I : xI) (J : xJ) : Option (Int32 × xI × xJ) := if x3 = (-2) then f_X12_set_5 x1 x2 x3 x4 I J else f_X12_set_3 x1 x2 x3 x4 I J
def f_X12_set_1 (x1 : Int32) (x2 : Int32) (x3 : Int32) (x4 : Int32) (s0 : Int32) (I : xI) (J : xJ) : Option (Int32 × xI × xJ) := if s0 = 0 then f_X12_set_8 x1 x2 x3 x4 I J else f_X12_set_2 x1 x2 x3 x4 I J
def f_X12_set_0 (x1 : Int32) (x2 : Int32) (x3 : Int32) (x4 : Int32) (I : xI) (J : xJ) : Option (Int32 × xI × xJ) := (f_X12_isMove x1 x2 I J).bind fun o => f_X12_set_1 x1 x2 x3 x4 o.1 o.2.1 o.2.2
def f_X12_set (x1 : Int32) (x2 : Int32) (x3 : Int32) (x4 : Int32) (I : xI) (J : xJ) : Option (Int32 × xI × xJ) := f_X12_set_0 x1 x2 x3 x4 I J
theorem p_X12_set_8 {L : Nat} {xs : Nat → Int32} {d : Nat} {Q : xO → Prop} (x1 : Int32) (x2 : Int32) (x3 : Int32) (x4 : Int32) (I : xI) (J : xJ) {t : Int32 × xI × xJ} (h : f_X12_set_8 x1 x2 x3 x4 I J = some t) (hC : (c_X12_set Q) t) : Rn L xs (d + 4) 216 40 [some (.ref 61), some (.int x1), some (.int x2), some (.int x3), some (.int x4)] [] 94 (I, J, xrf) Q := by
  unfold f_X12_set_8 at h
  cases h
  exact Rn.ret 2 (o := ((some (.int 0)), 94, (I, J, xrf))) (fun f => rfl) hC
theorem p_X12_set_15 {L : Nat} {xs : Nat → Int32} {d : Nat} {Q : xO → Prop} (x1 : Int32) (x2 : Int32) (x3 : Int32) (x4 : Int32) (I : xI) (J : xJ) {t : Int32 × xI × xJ} (h : f_X12_set_15 x1 x2 x3 x4 I J = some t) (hC : (c_X12_set Q) t) : Rn L xs (d + 4) 216 69 [some (.ref 61), some (.int x1), some (.int x2), some (.int x3), some (.int x4)] [] 94 (I, J, xrf) Q := by
  unfold f_X12_set_15 at h
  obtain ⟨hc, h⟩ := xif h
  refine Rn.ok 9 (c := ((4 * x1) + x2) < 0 ∨ 54 ≤ (((4 * x1) + x2)).toNatClampNeg) (p1 := 80) (l1 := [some (.ref 61), some (.int x1), some (.int x2), some (.int x3), some (.int x4)]) (s1 := []) (n1 := 94) (M1 := ((xup I 70 (((4 * x1) + x2)).toNatClampNeg x3), J, xrf)) (fun f => rfl) hc ?_
  obtain ⟨hc, h⟩ := xif h
  refine Rn.ok 11 (c := ((24 + (4 * x1)) + x2) < 0 ∨ 54 ≤ (((24 + (4 * x1)) + x2)).toNatClampNeg) (p1 := 95) (l1 := [some (.ref 61), some (.int x1), some (.int x2), some (.int x3), some (.int x4)]) (s1 := []) (n1 := 94) (M1 := ((xup ((xup I 70 (((4 * x1) + x2)).toNatClampNeg x3)) 70 (((24 + (4 * x1)) + x2)).toNatClampNeg x4), J, xrf)) (fun f => rfl) hc ?_
  cases h
  exact Rn.ret 2 (o := ((some (.int 1)), 94, ((xup ((xup I 70 (((4 * x1) + x2)).toNatClampNeg x3)) 70 (((24 + (4 * x1)) + x2)).toNatClampNeg x4), J, xrf))) (fun f => rfl) hC
theorem p_X12_set_14 {L : Nat} {xs : Nat → Int32} {d : Nat} {Q : xO → Prop} (x1 : Int32) (x2 : Int32) (x3 : Int32) (x4 : Int32) (I : xI) (J : xJ) {t : Int32 × xI × xJ} (h : f_X12_set_14 x1 x2 x3 x4 I J = some t) (hC : (c_X12_set Q) t) : Rn L xs (d + 4) 216 65 [some (.ref 61), some (.int x1), some (.int x2), some (.int x3), some (.int x4)] [] 94 (I, J, xrf) Q := by
  unfold f_X12_set_14 at h
  refine Rn.go 1 (j' := 216) (pc' := 66) (ls' := [some (.ref 61), some (.int x1), some (.int x2), some (.int x3), some (.int x4)]) (st' := [.ref 61]) (n' := 94) (M' := (I, J, xrf)) (fun f => rfl) ?_
  obtain ⟨o, ho, h⟩ := Option.bind_eq_some_iff.mp h
  refine Rn.call (d1 := d + 3) (j1 := 215) (ls1 := [some (.ref 61), none, none]) (rest := []) (fun f => rfl) ?_
  refine p_X12_marks (d := d + 1) I J (t := o) ho ?_
  exact p_X12_set_15 x1 x2 x3 x4 o.2.1 o.2.2 h hC
theorem p_X12_set_13 {L : Nat} {xs : Nat → Int32} {d : Nat} {Q : xO → Prop} (x1 : Int32) (x2 : Int32) (x3 : Int32) (x4 : Int32) (I : xI) (J : xJ) {t : Int32 × xI × xJ} (h : f_X12_set_13 x1 x2 x3 x4 I J = some t) (hC : (c_X12_set Q) t) : Rn L xs (d + 4) 216 63 [some (.ref 61), some (.int x1), some (.int x2), some (.int x3), some (.int x4)] [] 94 (I, J, xrf) Q := by
  unfold f_X12_set_13 at h
  cases h
  exact Rn.ret 2 (o := ((some (.int 0)), 94, (I, J, xrf))) (fun f => rfl) hC
theorem p_X12_set_12 {L : Nat} {xs : Nat → Int32} {d : Nat} {Q : xO → Prop} (x1 : Int32) (x2 : Int32) (x3 : Int32) (x4 : Int32) (s0 : Int32) (I : xI) (J : xJ) {t : Int32 × xI × xJ} (h : f_X12_set_12 x1 x2 x3 x4 s0 I J = some t) (hC : (c_X12_set Q) t) : Rn L xs (d + 4) 216 58 [some (.ref 61), some (.int x1), some (.int x2), some (.int x3), some (.int x4)] [.int s0] 94 (I, J, xrf) Q := by
  unfold f_X12_set_12 at h
  refine Rn.fi 2 (c := s0 = x4) (p1 := 63) (l1 := [some (.ref 61), some (.int x1), some (.int x2), some (.int x3), some (.int x4)]) (s1 := []) (n1 := 94) (M1 := (I, J, xrf)) (p2 := 65) (l2 := [some (.ref 61), some (.int x1), some (.int x2), some (.int x3), some (.int x4)]) (s2 := []) (n2 := 94) (M2 := (I, J, xrf)) (fun f => rfl) (fun hc => ?_) (fun hc => ?_)
  · rw [if_pos hc] at h
    exact p_X12_set_13 x1 x2 x3 x4 I J h hC
  · rw [if_neg hc] at h
    exact p_X12_set_14 x1 x2 x3 x4 I J h hC
theorem p_X12_set_11 {L : Nat} {xs : Nat → Int32} {d : Nat} {Q : xO → Prop} (x1 : Int32) (x2 : Int32) (x3 : Int32) (x4 : Int32) (I : xI) (J : xJ) {t : Int32 × xI × xJ} (h : f_X12_set_11 x1 x2 x3 x4 I J = some t) (hC : (c_X12_set Q) t) : Rn L xs (d + 4) 216 52 [some (.ref 61), some (.int x1), some (.int x2), some (.int x3), some (.int x4)] [] 94 (I, J, xrf) Q := by
  unfold f_X12_set_11 at h
  refine Rn.go 3 (j' := 216) (pc' := 55) (ls' := [some (.ref 61), some (.int x1), some (.int x2), some (.int x3), some (.int x4)]) (st' := [.int x2, .int x1, .ref 61]) (n' := 94) (M' := (I, J, xrf)) (fun f => rfl) ?_
  obtain ⟨o, ho, h⟩ := Option.bind_eq_some_iff.mp h
  refine Rn.call (d1 := d + 3) (j1 := 211) (ls1 := [some (.ref 61), some (.int x1), some (.int x2)]) (rest := []) (fun f => rfl) ?_
  refine p_X12_answer (d := d + 2) x1 x2 I J (t := o) ho ?_
  exact p_X12_set_12 x1 x2 x3 x4 o.1 o.2.1 o.2.2 h hC
theorem p_X12_set_10 {L : Nat} {xs : Nat → Int32} {d : Nat} {Q : xO → Prop} (x1 : Int32) (x2 : Int32) (x3 : Int32) (x4 : Int32) (s0 : Int32) (I : xI) (J : xJ) {t : Int32 × xI × xJ} (h : f_X12_set_10 x1 x2 x3 x4 s0 I J = some t) (hC : (c_X12_set Q) t) : Rn L xs (d + 4) 216 48 [some (.ref 61), some (.int x1), some (.int x2), some (.int x3), some (.int x4)] [.int s0] 94 (I, J, xrf) Q := by
  unfold f_X12_set_10 at h
  refine Rn.fi 2 (c := s0 = x3) (p1 := 52) (l1 := [some (.ref 61), some (.int x1), some (.int x2), some (.int x3), some (.int x4)]) (s1 := []) (n1 := 94) (M1 := (I, J, xrf)) (p2 := 65) (l2 := [some (.ref 61), some (.int x1), some (.int x2), some (.int x3), some (.int x4)]) (s2 := []) (n2 := 94) (M2 := (I, J, xrf)) (fun f => rfl) (fun hc => ?_) (fun hc => ?_)
  · rw [if_pos hc] at h
    exact p_X12_set_11 x1 x2 x3 x4 I J h hC
  · rw [if_neg hc] at h
    exact p_X12_set_14 x1 x2 x3 x4 I J h hC
theorem p_X12_set_9 {L : Nat} {xs : Nat → Int32} {d : Nat} {Q : xO → Prop} (x1 : Int32) (x2 : Int32) (x3 : Int32) (x4 : Int32) (I : xI) (J : xJ) {t : Int32 × xI × xJ} (h : f_X12_set_9 x1 x2 x3 x4 I J = some t) (hC : (c_X12_set Q) t) : Rn L xs (d + 4) 216 42 [some (.ref 61), some (.int x1), some (.int x2), some (.int x3), some (.int x4)] [] 94 (I, J, xrf) Q := by
  unfold f_X12_set_9 at h
  refine Rn.go 3 (j' := 216) (pc' := 45) (ls' := [some (.ref 61), some (.int x1), some (.int x2), some (.int x3), some (.int x4)]) (st' := [.int x2, .int x1, .ref 61]) (n' := 94) (M' := (I, J, xrf)) (fun f => rfl) ?_
  obtain ⟨o, ho, h⟩ := Option.bind_eq_some_iff.mp h
  refine Rn.call (d1 := d + 3) (j1 := 210) (ls1 := [some (.ref 61), some (.int x1), some (.int x2)]) (rest := []) (fun f => rfl) ?_
  refine p_X12_to (d := d + 2) x1 x2 I J (t := o) ho ?_
  exact p_X12_set_10 x1 x2 x3 x4 o.1 o.2.1 o.2.2 h hC
theorem p_X12_set_7 {L : Nat} {xs : Nat → Int32} {d : Nat} {Q : xO → Prop} (x1 : Int32) (x2 : Int32) (x3 : Int32) (x4 : Int32) (s0 : Int32) (I : xI) (J : xJ) {t : Int32 × xI × xJ} (h : f_X12_set_7 x1 x2 x3 x4 s0 I J = some t) (hC : (c_X12_set Q) t) : Rn L xs (d + 4) 216 37 [some (.ref 61), some (.int x1), some (.int x2), some (.int x3), some (.int x4)] [.int s0] 94 (I, J, xrf) Q := by
  unfold f_X12_set_7 at h
  refine Rn.fi 1 (c := s0 = 0) (p1 := 40) (l1 := [some (.ref 61), some (.int x1), some (.int x2), some (.int x3), some (.int x4)]) (s1 := []) (n1 := 94) (M1 := (I, J, xrf)) (p2 := 42) (l2 := [some (.ref 61), some (.int x1), some (.int x2), some (.int x3), some (.int x4)]) (s2 := []) (n2 := 94) (M2 := (I, J, xrf)) (fun f => rfl) (fun hc => ?_) (fun hc => ?_)
  · rw [if_pos hc] at h
    exact p_X12_set_8 x1 x2 x3 x4 I J h hC
  · rw [if_neg hc] at h
    exact p_X12_set_9 x1 x2 x3 x4 I J h hC
theorem p_X12_set_6 {L : Nat} {xs : Nat → Int32} {d : Nat} {Q : xO → Prop} (x1 : Int32) (x2 : Int32) (x3 : Int32) (x4 : Int32) (I : xI) (J : xJ) {t : Int32 × xI × xJ} (h : f_X12_set_6 x1 x2 x3 x4 I J = some t) (hC : (c_X12_set Q) t) : Rn L xs (d + 4) 216 30 [some (.ref 61), some (.int x1), some (.int x2), some (.int x3), some (.int x4)] [] 94 (I, J, xrf) Q := by
  unfold f_X12_set_6 at h
  refine Rn.go 3 (j' := 216) (pc' := 34) (ls' := [some (.ref 61), some (.int x1), some (.int x2), some (.int x3), some (.int x4)]) (st' := [.int 3, .int 0, .int x4]) (n' := 94) (M' := (I, J, xrf)) (fun f => rfl) ?_
  obtain ⟨o, ho, h⟩ := Option.bind_eq_some_iff.mp h
  refine Rn.call (d1 := d + 3) (j1 := 206) (ls1 := [some (.int x4), some (.int 0), some (.int 3)]) (rest := []) (fun f => rfl) ?_
  refine p_X12_in (d := d + 2) x4 0 3 I J (t := o) ho ?_
  exact p_X12_set_7 x1 x2 x3 x4 o.1 o.2.1 o.2.2 h hC
theorem p_X12_set_5 {L : Nat} {xs : Nat → Int32} {d : Nat} {Q : xO → Prop} (x1 : Int32) (x2 : Int32) (x3 : Int32) (x4 : Int32) (I : xI) (J : xJ) {t : Int32 × xI × xJ} (h : f_X12_set_5 x1 x2 x3 x4 I J = some t) (hC : (c_X12_set Q) t) : Rn L xs (d + 4) 216 23 [some (.ref 61), some (.int x1), some (.int x2), some (.int x3), some (.int x4)] [] 94 (I, J, xrf) Q := by
  unfold f_X12_set_5 at h
  refine Rn.fi 3 (c := x4 = (-2)) (p1 := 42) (l1 := [some (.ref 61), some (.int x1), some (.int x2), some (.int x3), some (.int x4)]) (s1 := []) (n1 := 94) (M1 := (I, J, xrf)) (p2 := 30) (l2 := [some (.ref 61), some (.int x1), some (.int x2), some (.int x3), some (.int x4)]) (s2 := []) (n2 := 94) (M2 := (I, J, xrf)) (fun f => rfl) (fun hc => ?_) (fun hc => ?_)
  · rw [if_pos hc] at h
    exact p_X12_set_9 x1 x2 x3 x4 I J h hC
  · rw [if_neg hc] at h
    exact p_X12_set_6 x1 x2 x3 x4 I J h hC
theorem p_X12_set_4 {L : Nat} {xs : Nat → Int32} {d : Nat} {Q : xO → Prop} (x1 : Int32) (x2 : Int32) (x3 : Int32) (x4 : Int32) (s0 : Int32) (I : xI) (J : xJ) {t : Int32 × xI × xJ} (h : f_X12_set_4 x1 x2 x3 x4 s0 I J = some t) (hC : (c_X12_set Q) t) : Rn L xs (d + 4) 216 20 [some (.ref 61), some (.int x1), some (.int x2), some (.int x3), some (.int x4)] [.int s0] 94 (I, J, xrf) Q := by
  unfold f_X12_set_4 at h
  refine Rn.fi 1 (c := s0 = 0) (p1 := 40) (l1 := [some (.ref 61), some (.int x1), some (.int x2), some (.int x3), some (.int x4)]) (s1 := []) (n1 := 94) (M1 := (I, J, xrf)) (p2 := 23) (l2 := [some (.ref 61), some (.int x1), some (.int x2), some (.int x3), some (.int x4)]) (s2 := []) (n2 := 94) (M2 := (I, J, xrf)) (fun f => rfl) (fun hc => ?_) (fun hc => ?_)
  · rw [if_pos hc] at h
    exact p_X12_set_8 x1 x2 x3 x4 I J h hC
  · rw [if_neg hc] at h
    exact p_X12_set_5 x1 x2 x3 x4 I J h hC
theorem p_X12_set_3 {L : Nat} {xs : Nat → Int32} {d : Nat} {Q : xO → Prop} (x1 : Int32) (x2 : Int32) (x3 : Int32) (x4 : Int32) (I : xI) (J : xJ) {t : Int32 × xI × xJ} (h : f_X12_set_3 x1 x2 x3 x4 I J = some t) (hC : (c_X12_set Q) t) : Rn L xs (d + 4) 216 15 [some (.ref 61), some (.int x1), some (.int x2), some (.int x3), some (.int x4)] [] 94 (I, J, xrf) Q := by
  unfold f_X12_set_3 at h
  refine Rn.go 2 (j' := 216) (pc' := 17) (ls' := [some (.ref 61), some (.int x1), some (.int x2), some (.int x3), some (.int x4)]) (st' := [.int x3, .ref 61]) (n' := 94) (M' := (I, J, xrf)) (fun f => rfl) ?_
  obtain ⟨o, ho, h⟩ := Option.bind_eq_some_iff.mp h
  refine Rn.call (d1 := d + 3) (j1 := 207) (ls1 := [some (.ref 61), some (.int x3)]) (rest := []) (fun f => rfl) ?_
  refine p_X12_isState (d := d + 1) x3 I J (t := o) ho ?_
  exact p_X12_set_4 x1 x2 x3 x4 o.1 o.2.1 o.2.2 h hC
theorem p_X12_set_2 {L : Nat} {xs : Nat → Int32} {d : Nat} {Q : xO → Prop} (x1 : Int32) (x2 : Int32) (x3 : Int32) (x4 : Int32) (I : xI) (J : xJ) {t : Int32 × xI × xJ} (h : f_X12_set_2 x1 x2 x3 x4 I J = some t) (hC : (c_X12_set Q) t) : Rn L xs (d + 4) 216 9 [some (.ref 61), some (.int x1), some (.int x2), some (.int x3), some (.int x4)] [] 94 (I, J, xrf) Q := by
  unfold f_X12_set_2 at h
  refine Rn.fi 3 (c := x3 = (-2)) (p1 := 23) (l1 := [some (.ref 61), some (.int x1), some (.int x2), some (.int x3), some (.int x4)]) (s1 := []) (n1 := 94) (M1 := (I, J, xrf)) (p2 := 15) (l2 := [some (.ref 61), some (.int x1), some (.int x2), some (.int x3), some (.int x4)]) (s2 := []) (n2 := 94) (M2 := (I, J, xrf)) (fun f => rfl) (fun hc => ?_) (fun hc => ?_)
  · rw [if_pos hc] at h
    exact p_X12_set_5 x1 x2 x3 x4 I J h hC
  · rw [if_neg hc] at h
    exact p_X12_set_3 x1 x2 x3 x4 I J h hC
theorem p_X12_set_1 {L : Nat} {xs : Nat → Int32} {d : Nat} {Q : xO → Prop} (x1 : Int32) (x2 : Int32) (x3 : Int32) (x4 : Int32) (s0 : Int32) (I : xI) (J : xJ) {t : Int32 × xI × xJ} (h : f_X12_set_1 x1 x2 x3 x4 s0 I J = some t) (hC : (c_X12_set Q) t) : Rn L xs (d + 4) 216 6 [some (.ref 61), some (.int x1), some (.int x2), some (.int x3), some (.int x4)] [.int s0] 94 (I, J, xrf) Q := by
  unfold f_X12_set_1 at h
  refine Rn.fi 1 (c := s0 = 0) (p1 := 40) (l1 := [some (.ref 61), some (.int x1), some (.int x2), some (.int x3), some (.int x4)]) (s1 := []) (n1 := 94) (M1 := (I, J, xrf)) (p2 := 9) (l2 := [some (.ref 61), some (.int x1), some (.int x2), some (.int x3), some (.int x4)]) (s2 := []) (n2 := 94) (M2 := (I, J, xrf)) (fun f => rfl) (fun hc => ?_) (fun hc => ?_)
  · rw [if_pos hc] at h
    exact p_X12_set_8 x1 x2 x3 x4 I J h hC
  · rw [if_neg hc] at h
    exact p_X12_set_2 x1 x2 x3 x4 I J h hC
theorem p_X12_set_0 {L : Nat} {xs : Nat → Int32} {d : Nat} {Q : xO → Prop} (x1 : Int32) (x2 : Int32) (x3 : Int32) (x4 : Int32) (I : xI) (J : xJ) {t : Int32 × xI × xJ} (h : f_X12_set_0 x1 x2 x3 x4 I J = some t) (hC : (c_X12_set Q) t) : Rn L xs (d + 4) 216 0 [some (.ref 61), some (.int x1), some (.int x2), some (.int x3), some (.int x4)] [] 94 (I, J, xrf) Q := by
  unfold f_X12_set_0 at h
  refine Rn.go 3 (j' := 216) (pc' := 3) (ls' := [some (.ref 61), some (.int x1), some (.int x2), some (.int x3), some (.int x4)]) (st' := [.int x2, .int x1, .ref 61]) (n' := 94) (M' := (I, J, xrf)) (fun f => rfl) ?_
  obtain ⟨o, ho, h⟩ := Option.bind_eq_some_iff.mp h
  refine Rn.call (d1 := d + 3) (j1 := 209) (ls1 := [some (.ref 61), some (.int x1), some (.int x2)]) (rest := []) (fun f => rfl) ?_
  refine p_X12_isMove (d := d + 0) x1 x2 I J (t := o) ho ?_
  exact p_X12_set_1 x1 x2 x3 x4 o.1 o.2.1 o.2.2 h hC
theorem p_X12_set {L : Nat} {xs : Nat → Int32} {d : Nat} {Q : xO → Prop} (x1 : Int32) (x2 : Int32) (x3 : Int32) (x4 : Int32) (I : xI) (J : xJ) {t : Int32 × xI × xJ} (h : f_X12_set x1 x2 x3 x4 I J = some t) (hC : Q ((some (.int t.1)), 94, (t.2.1, t.2.2, xrf))) : Rn L xs (d + 4) 216 0 [some (.ref 61), some (.int x1), some (.int x2), some (.int x3), some (.int x4)] [] 94 (I, J, xrf) Q := p_X12_set_0 x1 x2 x3 x4 I J h hC
/-! X12_codeOf -/
def c_X12_codeOf (Q : xO → Prop) (t : Int32 × xI × xJ) : Prop := Q ((some (.int t.1)), 94, (t.2.1, t.2.2, xrf))
def f_X12_codeOf_0 (x1 : Int32) (I : xI) (J : xJ) : Option (Int32 × xI × xJ) := if (48 + x1) < 0 ∨ 54 ≤ ((48 + x1)).toNatClampNeg then none else some ((I 70 ((48 + x1)).toNatClampNeg), I, J)
def f_X12_codeOf (x1 : Int32) (I : xI) (J : xJ) : Option (Int32 × xI × xJ) := f_X12_codeOf_0 x1 I J
theorem p_X12_codeOf_0 {L : Nat} {xs : Nat → Int32} {d : Nat} {Q : xO → Prop} (x1 : Int32) (I : xI) (J : xJ) {t : Int32 × xI × xJ} (h : f_X12_codeOf_0 x1 I J = some t) (hC : (c_X12_codeOf Q) t) : Rn L xs (d + 1) 212 0 [some (.ref 61), some (.int x1)] [] 94 (I, J, xrf) Q := by
  unfold f_X12_codeOf_0 at h
  obtain ⟨hc, h⟩ := xif h
  refine Rn.ok 6 (c := (48 + x1) < 0 ∨ 54 ≤ ((48 + x1)).toNatClampNeg) (p1 := 9) (l1 := [some (.ref 61), some (.int x1)]) (s1 := [.int ((I 70 ((48 + x1)).toNatClampNeg))]) (n1 := 94) (M1 := (I, J, xrf)) (fun f => rfl) hc ?_
  cases h
  exact Rn.ret 1 (o := ((some (.int ((I 70 ((48 + x1)).toNatClampNeg)))), 94, (I, J, xrf))) (fun f => rfl) hC
theorem p_X12_codeOf {L : Nat} {xs : Nat → Int32} {d : Nat} {Q : xO → Prop} (x1 : Int32) (I : xI) (J : xJ) {t : Int32 × xI × xJ} (h : f_X12_codeOf x1 I J = some t) (hC : Q ((some (.int t.1)), 94, (t.2.1, t.2.2, xrf))) : Rn L xs (d + 1) 212 0 [some (.ref 61), some (.int x1)] [] 94 (I, J, xrf) Q := p_X12_codeOf_0 x1 I J h hC
/-! X12_code -/
def c_X12_code (Q : xO → Prop) (t : Int32 × xI × xJ) : Prop := Q ((some (.int t.1)), 94, (t.2.1, t.2.2, xrf))
def f_X12_code_6 (x1 : Int32) (x2 : Int32) (I : xI) (J : xJ) : Option (Int32 × xI × xJ) := some (0, I, J)
def f_X12_code_8 (x1 : Int32) (x2 : Int32) (I : xI) (J : xJ) : Option (Int32 × xI × xJ) := if (48 + x1) < 0 ∨ 54 ≤ ((48 + x1)).toNatClampNeg then none else some (1, (xup I 70 ((48 + x1)).toNatClampNeg x2), J)
def f_X12_code_7 (x1 : Int32) (x2 : Int32) (I : xI) (J : xJ) : Option (Int32 × xI × xJ) := (f_X12_marks I J).bind fun o => f_X12_code_8 x1 x2 o.2.1 o.2.2
def f_X12_code_5 (x1 : Int32) (x2 : Int32) (s0 : Int32) (I : xI) (J : xJ) : Option (Int32 × xI × xJ) := if s0 = x2 then f_X12_code_6 x1 x2 I J else f_X12_code_7 x1 x2 I J
def f_X12_code_4 (x1 : Int32) (x2 : Int32) (I : xI) (J : xJ) : Option (Int32 × xI × xJ) := (f_X12_codeOf x1 I J).bind fun o => f_X12_code_5 x1 x2 o.1 o.2.1 o.2.2
def f_X12_code_3 (x1 : Int32) (x2 : Int32) (s0 : Int32) (I : xI) (J : xJ) : Option (Int32 × xI × xJ) := if s0 = 0 then f_X12_code_6 x1 x2 I J else f_X12_code_4 x1 x2 I J
def f_X12_code_2 (x1 : Int32) (x2 : Int32) (I : xI) (J : xJ) : Option (Int32 × xI × xJ) := (f_X12_in x2 0 7 I J).bind fun o => f_X12_code_3 x1 x2 o.1 o.2.1 o.2.2
def f_X12_code_1 (x1 : Int32) (x2 : Int32) (s0 : Int32) (I : xI) (J : xJ) : Option (Int32 × xI × xJ) := if s0 = 0 then f_X12_code_6 x1 x2 I J else f_X12_code_2 x1 x2 I J
def f_X12_code_0 (x1 : Int32) (x2 : Int32) (I : xI) (J : xJ) : Option (Int32 × xI × xJ) := (f_X12_isState x1 I J).bind fun o => f_X12_code_1 x1 x2 o.1 o.2.1 o.2.2
def f_X12_code (x1 : Int32) (x2 : Int32) (I : xI) (J : xJ) : Option (Int32 × xI × xJ) := f_X12_code_0 x1 x2 I J
theorem p_X12_code_6 {L : Nat} {xs : Nat → Int32} {d : Nat} {Q : xO → Prop} (x1 : Int32) (x2 : Int32) (I : xI) (J : xJ) {t : Int32 × xI × xJ} (h : f_X12_code_6 x1 x2 I J = some t) (hC : (c_X12_code Q) t) : Rn L xs (d + 3) 217 27 [some (.ref 61), some (.int x1), some (.int x2)] [] 94 (I, J, xrf) Q := by
  unfold f_X12_code_6 at h
  cases h
  exact Rn.ret 2 (o := ((some (.int 0)), 94, (I, J, xrf))) (fun f => rfl) hC
theorem p_X12_code_8 {L : Nat} {xs : Nat → Int32} {d : Nat} {Q : xO → Prop} (x1 : Int32) (x2 : Int32) (I : xI) (J : xJ) {t : Int32 × xI × xJ} (h : f_X12_code_8 x1 x2 I J = some t) (hC : (c_X12_code Q) t) : Rn L xs (d + 3) 217 33 [some (.ref 61), some (.int x1), some (.int x2)] [] 94 (I, J, xrf) Q := by
  unfold f_X12_code_8 at h
  obtain ⟨hc, h⟩ := xif h
  refine Rn.ok 7 (c := (48 + x1) < 0 ∨ 54 ≤ ((48 + x1)).toNatClampNeg) (p1 := 43) (l1 := [some (.ref 61), some (.int x1), some (.int x2)]) (s1 := []) (n1 := 94) (M1 := ((xup I 70 ((48 + x1)).toNatClampNeg x2), J, xrf)) (fun f => rfl) hc ?_
  cases h
  exact Rn.ret 2 (o := ((some (.int 1)), 94, ((xup I 70 ((48 + x1)).toNatClampNeg x2), J, xrf))) (fun f => rfl) hC
theorem p_X12_code_7 {L : Nat} {xs : Nat → Int32} {d : Nat} {Q : xO → Prop} (x1 : Int32) (x2 : Int32) (I : xI) (J : xJ) {t : Int32 × xI × xJ} (h : f_X12_code_7 x1 x2 I J = some t) (hC : (c_X12_code Q) t) : Rn L xs (d + 3) 217 29 [some (.ref 61), some (.int x1), some (.int x2)] [] 94 (I, J, xrf) Q := by
  unfold f_X12_code_7 at h
  refine Rn.go 1 (j' := 217) (pc' := 30) (ls' := [some (.ref 61), some (.int x1), some (.int x2)]) (st' := [.ref 61]) (n' := 94) (M' := (I, J, xrf)) (fun f => rfl) ?_
  obtain ⟨o, ho, h⟩ := Option.bind_eq_some_iff.mp h
  refine Rn.call (d1 := d + 2) (j1 := 215) (ls1 := [some (.ref 61), none, none]) (rest := []) (fun f => rfl) ?_
  refine p_X12_marks (d := d + 0) I J (t := o) ho ?_
  exact p_X12_code_8 x1 x2 o.2.1 o.2.2 h hC
theorem p_X12_code_5 {L : Nat} {xs : Nat → Int32} {d : Nat} {Q : xO → Prop} (x1 : Int32) (x2 : Int32) (s0 : Int32) (I : xI) (J : xJ) {t : Int32 × xI × xJ} (h : f_X12_code_5 x1 x2 s0 I J = some t) (hC : (c_X12_code Q) t) : Rn L xs (d + 3) 217 23 [some (.ref 61), some (.int x1), some (.int x2)] [.int s0] 94 (I, J, xrf) Q := by
  unfold f_X12_code_5 at h
  refine Rn.fi 2 (c := s0 = x2) (p1 := 27) (l1 := [some (.ref 61), some (.int x1), some (.int x2)]) (s1 := []) (n1 := 94) (M1 := (I, J, xrf)) (p2 := 29) (l2 := [some (.ref 61), some (.int x1), some (.int x2)]) (s2 := []) (n2 := 94) (M2 := (I, J, xrf)) (fun f => rfl) (fun hc => ?_) (fun hc => ?_)
  · rw [if_pos hc] at h
    exact p_X12_code_6 x1 x2 I J h hC
  · rw [if_neg hc] at h
    exact p_X12_code_7 x1 x2 I J h hC
theorem p_X12_code_4 {L : Nat} {xs : Nat → Int32} {d : Nat} {Q : xO → Prop} (x1 : Int32) (x2 : Int32) (I : xI) (J : xJ) {t : Int32 × xI × xJ} (h : f_X12_code_4 x1 x2 I J = some t) (hC : (c_X12_code Q) t) : Rn L xs (d + 3) 217 18 [some (.ref 61), some (.int x1), some (.int x2)] [] 94 (I, J, xrf) Q := by
  unfold f_X12_code_4 at h
  refine Rn.go 2 (j' := 217) (pc' := 20) (ls' := [some (.ref 61), some (.int x1), some (.int x2)]) (st' := [.int x1, .ref 61]) (n' := 94) (M' := (I, J, xrf)) (fun f => rfl) ?_
  obtain ⟨o, ho, h⟩ := Option.bind_eq_some_iff.mp h
  refine Rn.call (d1 := d + 2) (j1 := 212) (ls1 := [some (.ref 61), some (.int x1)]) (rest := []) (fun f => rfl) ?_
  refine p_X12_codeOf (d := d + 1) x1 I J (t := o) ho ?_
  exact p_X12_code_5 x1 x2 o.1 o.2.1 o.2.2 h hC
theorem p_X12_code_3 {L : Nat} {xs : Nat → Int32} {d : Nat} {Q : xO → Prop} (x1 : Int32) (x2 : Int32) (s0 : Int32) (I : xI) (J : xJ) {t : Int32 × xI × xJ} (h : f_X12_code_3 x1 x2 s0 I J = some t) (hC : (c_X12_code Q) t) : Rn L xs (d + 3) 217 15 [some (.ref 61), some (.int x1), some (.int x2)] [.int s0] 94 (I, J, xrf) Q := by
  unfold f_X12_code_3 at h
  refine Rn.fi 1 (c := s0 = 0) (p1 := 27) (l1 := [some (.ref 61), some (.int x1), some (.int x2)]) (s1 := []) (n1 := 94) (M1 := (I, J, xrf)) (p2 := 18) (l2 := [some (.ref 61), some (.int x1), some (.int x2)]) (s2 := []) (n2 := 94) (M2 := (I, J, xrf)) (fun f => rfl) (fun hc => ?_) (fun hc => ?_)
  · rw [if_pos hc] at h
    exact p_X12_code_6 x1 x2 I J h hC
  · rw [if_neg hc] at h
    exact p_X12_code_4 x1 x2 I J h hC
theorem p_X12_code_2 {L : Nat} {xs : Nat → Int32} {d : Nat} {Q : xO → Prop} (x1 : Int32) (x2 : Int32) (I : xI) (J : xJ) {t : Int32 × xI × xJ} (h : f_X12_code_2 x1 x2 I J = some t) (hC : (c_X12_code Q) t) : Rn L xs (d + 3) 217 8 [some (.ref 61), some (.int x1), some (.int x2)] [] 94 (I, J, xrf) Q := by
  unfold f_X12_code_2 at h
  refine Rn.go 3 (j' := 217) (pc' := 12) (ls' := [some (.ref 61), some (.int x1), some (.int x2)]) (st' := [.int 7, .int 0, .int x2]) (n' := 94) (M' := (I, J, xrf)) (fun f => rfl) ?_
  obtain ⟨o, ho, h⟩ := Option.bind_eq_some_iff.mp h
  refine Rn.call (d1 := d + 2) (j1 := 206) (ls1 := [some (.int x2), some (.int 0), some (.int 7)]) (rest := []) (fun f => rfl) ?_
  refine p_X12_in (d := d + 1) x2 0 7 I J (t := o) ho ?_
  exact p_X12_code_3 x1 x2 o.1 o.2.1 o.2.2 h hC
theorem p_X12_code_1 {L : Nat} {xs : Nat → Int32} {d : Nat} {Q : xO → Prop} (x1 : Int32) (x2 : Int32) (s0 : Int32) (I : xI) (J : xJ) {t : Int32 × xI × xJ} (h : f_X12_code_1 x1 x2 s0 I J = some t) (hC : (c_X12_code Q) t) : Rn L xs (d + 3) 217 5 [some (.ref 61), some (.int x1), some (.int x2)] [.int s0] 94 (I, J, xrf) Q := by
  unfold f_X12_code_1 at h
  refine Rn.fi 1 (c := s0 = 0) (p1 := 27) (l1 := [some (.ref 61), some (.int x1), some (.int x2)]) (s1 := []) (n1 := 94) (M1 := (I, J, xrf)) (p2 := 8) (l2 := [some (.ref 61), some (.int x1), some (.int x2)]) (s2 := []) (n2 := 94) (M2 := (I, J, xrf)) (fun f => rfl) (fun hc => ?_) (fun hc => ?_)
  · rw [if_pos hc] at h
    exact p_X12_code_6 x1 x2 I J h hC
  · rw [if_neg hc] at h
    exact p_X12_code_2 x1 x2 I J h hC
theorem p_X12_code_0 {L : Nat} {xs : Nat → Int32} {d : Nat} {Q : xO → Prop} (x1 : Int32) (x2 : Int32) (I : xI) (J : xJ) {t : Int32 × xI × xJ} (h : f_X12_code_0 x1 x2 I J = some t) (hC : (c_X12_code Q) t) : Rn L xs (d + 3) 217 0 [some (.ref 61), some (.int x1), some (.int x2)] [] 94 (I, J, xrf) Q := by
  unfold f_X12_code_0 at h
  refine Rn.go 2 (j' := 217) (pc' := 2) (ls' := [some (.ref 61), some (.int x1), some (.int x2)]) (st' := [.int x1, .ref 61]) (n' := 94) (M' := (I, J, xrf)) (fun f => rfl) ?_
  obtain ⟨o, ho, h⟩ := Option.bind_eq_some_iff.mp h
  refine Rn.call (d1 := d + 2) (j1 := 207) (ls1 := [some (.ref 61), some (.int x1)]) (rest := []) (fun f => rfl) ?_
  refine p_X12_isState (d := d + 0) x1 I J (t := o) ho ?_
  exact p_X12_code_1 x1 x2 o.1 o.2.1 o.2.2 h hC
theorem p_X12_code {L : Nat} {xs : Nat → Int32} {d : Nat} {Q : xO → Prop} (x1 : Int32) (x2 : Int32) (I : xI) (J : xJ) {t : Int32 × xI × xJ} (h : f_X12_code x1 x2 I J = some t) (hC : Q ((some (.int t.1)), 94, (t.2.1, t.2.2, xrf))) : Rn L xs (d + 3) 217 0 [some (.ref 61), some (.int x1), some (.int x2)] [] 94 (I, J, xrf) Q := p_X12_code_0 x1 x2 I J h hC
/-! X12_undo -/
def c_X12_undo (Q : xO → Prop) (t : Int32 × xI × xJ) : Prop := Q ((some (.int t.1)), 94, (t.2.1, t.2.2, xrf))
def c_X12_undo_3 (L : Nat) (xs : Nat → Int32) (d : Nat) (Q : xO → Prop) (t : (Int32 × Int32 × xI × xJ) ⊕ (Int32 × xI × xJ)) : Prop := match t with
  | .inl s => Rn L xs (d + 2) 218 37 [some (.ref 61), some (.int s.1), some (.int s.2.1)] [] 94 (s.2.2.1, s.2.2.2, xrf) Q
  | .inr t => (c_X12_undo Q) t
def f_X12_undo_6 (x1 : Int32) (x2 : Int32) (I : xI) (J : xJ) : Option (Int32 × xI × xJ) := some (1, I, J)
def f_X12_undo_5 (x1 : Int32) (x2 : Int32) (I : xI) (J : xJ) : Option (Int32 × xI × xJ) := (f_X12_changes I J).bind fun o => f_X12_undo_6 x1 x2 o.2.1 o.2.2
def f_X12_undo_4 (x1 : Int32) (x2 : Int32) (I : xI) (J : xJ) : Option ((Int32 × Int32 × xI × xJ) ⊕ (Int32 × xI × xJ)) := if (x1 + x2) < 0 ∨ 2160 ≤ ((x1 + x2)).toNatClampNeg then none else if x2 < 0 ∨ 54 ≤ x2.toNatClampNeg then none else some (.inl (x1, ((x2 + 1)), ((xup I 70 x2.toNatClampNeg ((I 72 ((x1 + x2)).toNatClampNeg)))), J))
def b_X12_undo_3 (x1 : Int32) (x2 : Int32) (I : xI) (J : xJ) : Option ((Int32 × Int32 × xI × xJ) ⊕ (Int32 × xI × xJ)) := if 54 ≤ x2 then ((f_X12_undo_5 x1 x2 I J)).map .inr else f_X12_undo_4 x1 x2 I J
def f_X12_undo_3 (x1 : Int32) (x2 : Int32) (I : xI) (J : xJ) : Option (Int32 × xI × xJ) := xloop (fun s : Int32 × Int32 × xI × xJ => b_X12_undo_3 s.1 s.2.1 s.2.2.1 s.2.2.2) 5000 (x1, x2, I, J)
def f_X12_undo_2 (I : xI) (J : xJ) : Option (Int32 × xI × xJ) := f_X12_undo_3 ((54 * (((((xup I 61 26 (((I 61 26) - 1)))) 61 25) + (((xup I 61 26 (((I 61 26) - 1)))) 61 26)) - ((((xup I 61 26 (((I 61 26) - 1)))) 61 25) + (((xup I 61 26 (((I 61 26) - 1)))) 61 26)) / 40 * 40))) 0 ((xup I 61 26 (((I 61 26) - 1)))) J
def f_X12_undo_1 (I : xI) (J : xJ) : Option (Int32 × xI × xJ) := some (0, I, J)
def f_X12_undo_0 (I : xI) (J : xJ) : Option (Int32 × xI × xJ) := if (I 61 26) = 0 then f_X12_undo_1 I J else f_X12_undo_2 I J
def f_X12_undo (I : xI) (J : xJ) : Option (Int32 × xI × xJ) := f_X12_undo_0 I J
theorem p_X12_undo_6 {L : Nat} {xs : Nat → Int32} {d : Nat} {Q : xO → Prop} (x1 : Int32) (x2 : Int32) (I : xI) (J : xJ) {t : Int32 × xI × xJ} (h : f_X12_undo_6 x1 x2 I J = some t) (hC : (c_X12_undo Q) t) : Rn L xs (d + 2) 218 67 [some (.ref 61), some (.int x1), some (.int x2)] [] 94 (I, J, xrf) Q := by
  unfold f_X12_undo_6 at h
  cases h
  exact Rn.ret 2 (o := ((some (.int 1)), 94, (I, J, xrf))) (fun f => rfl) hC
theorem p_X12_undo_5 {L : Nat} {xs : Nat → Int32} {d : Nat} {Q : xO → Prop} (x1 : Int32) (x2 : Int32) (I : xI) (J : xJ) {t : Int32 × xI × xJ} (h : f_X12_undo_5 x1 x2 I J = some t) (hC : (c_X12_undo Q) t) : Rn L xs (d + 2) 218 63 [some (.ref 61), some (.int x1), some (.int x2)] [] 94 (I, J, xrf) Q := by
  unfold f_X12_undo_5 at h
  refine Rn.go 1 (j' := 218) (pc' := 64) (ls' := [some (.ref 61), some (.int x1), some (.int x2)]) (st' := [.ref 61]) (n' := 94) (M' := (I, J, xrf)) (fun f => rfl) ?_
  obtain ⟨o, ho, h⟩ := Option.bind_eq_some_iff.mp h
  refine Rn.call (d1 := d + 1) (j1 := 222) (ls1 := [some (.ref 61)]) (rest := []) (fun f => rfl) ?_
  refine p_X12_changes (d := d + 0) I J (t := o) ho ?_
  exact p_X12_undo_6 x1 x2 o.2.1 o.2.2 h hC
theorem p_X12_undo_4 {L : Nat} {xs : Nat → Int32} {d : Nat} {Q : xO → Prop} (x1 : Int32) (x2 : Int32) (I : xI) (J : xJ) {t : (Int32 × Int32 × xI × xJ) ⊕ (Int32 × xI × xJ)} (h : f_X12_undo_4 x1 x2 I J = some t) (hC : (c_X12_undo_3 L xs d Q) t) : Rn L xs (d + 2) 218 43 [some (.ref 61), some (.int x1), some (.int x2)] [] 94 (I, J, xrf) Q := by
  unfold f_X12_undo_4 at h
  obtain ⟨hc, h⟩ := xif h
  refine Rn.ok 9 (c := (x1 + x2) < 0 ∨ 2160 ≤ ((x1 + x2)).toNatClampNeg) (p1 := 56) (l1 := [some (.ref 61), some (.int x1), some (.int x2)]) (s1 := [.int ((I 72 ((x1 + x2)).toNatClampNeg)), .int x2, .ref 70]) (n1 := 94) (M1 := (I, J, xrf)) (fun f => rfl) hc ?_
  obtain ⟨hc, h⟩ := xif h
  refine Rn.ok 1 (c := x2 < 0 ∨ 54 ≤ x2.toNatClampNeg) (p1 := 57) (l1 := [some (.ref 61), some (.int x1), some (.int x2)]) (s1 := []) (n1 := 94) (M1 := ((xup I 70 x2.toNatClampNeg ((I 72 ((x1 + x2)).toNatClampNeg))), J, xrf)) (fun f => rfl) hc ?_
  refine Rn.go 2 (j' := 218) (pc' := 37) (ls' := [some (.ref 61), some (.int x1), some (.int ((x2 + 1)))]) (st' := []) (n' := 94) (M' := ((xup I 70 x2.toNatClampNeg ((I 72 ((x1 + x2)).toNatClampNeg))), J, xrf)) (fun f => rfl) ?_
  cases h; exact hC
theorem q_X12_undo_3 {L : Nat} {xs : Nat → Int32} {d : Nat} {Q : xO → Prop} (x1 : Int32) (x2 : Int32) (I : xI) (J : xJ) {t : (Int32 × Int32 × xI × xJ) ⊕ (Int32 × xI × xJ)} (h : b_X12_undo_3 x1 x2 I J = some t) (hC : (c_X12_undo_3 L xs d Q) t) : Rn L xs (d + 2) 218 37 [some (.ref 61), some (.int x1), some (.int x2)] [] 94 (I, J, xrf) Q := by
  unfold b_X12_undo_3 at h
  refine Rn.fi 3 (c := 54 ≤ x2) (p1 := 63) (l1 := [some (.ref 61), some (.int x1), some (.int x2)]) (s1 := []) (n1 := 94) (M1 := (I, J, xrf)) (p2 := 43) (l2 := [some (.ref 61), some (.int x1), some (.int x2)]) (s2 := []) (n2 := 94) (M2 := (I, J, xrf)) (fun f => rfl) (fun hc => ?_) (fun hc => ?_)
  · rw [if_pos hc] at h
    obtain ⟨t0, h0, rfl⟩ := Option.map_eq_some_iff.mp h
    exact p_X12_undo_5 x1 x2 I J h0 hC
  · rw [if_neg hc] at h
    exact p_X12_undo_4 x1 x2 I J h hC
theorem p_X12_undo_3 {L : Nat} {xs : Nat → Int32} {d : Nat} {Q : xO → Prop} (x1 : Int32) (x2 : Int32) (I : xI) (J : xJ) {t : Int32 × xI × xJ} (h : f_X12_undo_3 x1 x2 I J = some t) (hC : (c_X12_undo Q) t) : Rn L xs (d + 2) 218 37 [some (.ref 61), some (.int x1), some (.int x2)] [] 94 (I, J, xrf) Q := by
  unfold f_X12_undo_3 at h
  exact xloop_some (P := fun s : Int32 × Int32 × xI × xJ => Rn L xs (d + 2) 218 37 [some (.ref 61), some (.int s.1), some (.int s.2.1)] [] 94 (s.2.2.1, s.2.2.2, xrf) Q) t (fun s ⟨s', hb, hp⟩ => q_X12_undo_3 s.1 s.2.1 s.2.2.1 s.2.2.2 hb hp) (fun s hb => q_X12_undo_3 s.1 s.2.1 s.2.2.1 s.2.2.2 hb hC) _ _ h
theorem p_X12_undo_2 {L : Nat} {xs : Nat → Int32} {d : Nat} {Q : xO → Prop} (I : xI) (J : xJ) {t : Int32 × xI × xJ} (h : f_X12_undo_2 I J = some t) (hC : (c_X12_undo Q) t) : Rn L xs (d + 2) 218 9 [some (.ref 61), none, none] [] 94 (I, J, xrf) Q := by
  unfold f_X12_undo_2 at h
  refine Rn.go 18 (j' := 218) (pc' := 37) (ls' := [some (.ref 61), some (.int ((54 * (((((xup I 61 26 (((I 61 26) - 1)))) 61 25) + (((xup I 61 26 (((I 61 26) - 1)))) 61 26)) - ((((xup I 61 26 (((I 61 26) - 1)))) 61 25) + (((xup I 61 26 (((I 61 26) - 1)))) 61 26)) / 40 * 40)))), some (.int 0)]) (st' := []) (n' := 94) (M' := ((xup I 61 26 (((I 61 26) - 1))), J, xrf)) (fun f => rfl) ?_
  exact p_X12_undo_3 ((54 * (((((xup I 61 26 (((I 61 26) - 1)))) 61 25) + (((xup I 61 26 (((I 61 26) - 1)))) 61 26)) - ((((xup I 61 26 (((I 61 26) - 1)))) 61 25) + (((xup I 61 26 (((I 61 26) - 1)))) 61 26)) / 40 * 40))) 0 ((xup I 61 26 (((I 61 26) - 1)))) J h hC
theorem p_X12_undo_1 {L : Nat} {xs : Nat → Int32} {d : Nat} {Q : xO → Prop} (I : xI) (J : xJ) {t : Int32 × xI × xJ} (h : f_X12_undo_1 I J = some t) (hC : (c_X12_undo Q) t) : Rn L xs (d + 2) 218 7 [some (.ref 61), none, none] [] 94 (I, J, xrf) Q := by
  unfold f_X12_undo_1 at h
  cases h
  exact Rn.ret 2 (o := ((some (.int 0)), 94, (I, J, xrf))) (fun f => rfl) hC
theorem p_X12_undo_0 {L : Nat} {xs : Nat → Int32} {d : Nat} {Q : xO → Prop} (I : xI) (J : xJ) {t : Int32 × xI × xJ} (h : f_X12_undo_0 I J = some t) (hC : (c_X12_undo Q) t) : Rn L xs (d + 2) 218 0 [some (.ref 61), none, none] [] 94 (I, J, xrf) Q := by
  unfold f_X12_undo_0 at h
  refine Rn.fi 3 (c := (I 61 26) = 0) (p1 := 7) (l1 := [some (.ref 61), none, none]) (s1 := []) (n1 := 94) (M1 := (I, J, xrf)) (p2 := 9) (l2 := [some (.ref 61), none, none]) (s2 := []) (n2 := 94) (M2 := (I, J, xrf)) (fun f => rfl) (fun hc => ?_) (fun hc => ?_)
  · rw [if_pos hc] at h
    exact p_X12_undo_1 I J h hC
  · rw [if_neg hc] at h
    exact p_X12_undo_2 I J h hC
theorem p_X12_undo {L : Nat} {xs : Nat → Int32} {d : Nat} {Q : xO → Prop} (I : xI) (J : xJ) {t : Int32 × xI × xJ} (h : f_X12_undo I J = some t) (hC : Q ((some (.int t.1)), 94, (t.2.1, t.2.2, xrf))) : Rn L xs (d + 2) 218 0 [some (.ref 61), none, none] [] 94 (I, J, xrf) Q := p_X12_undo_0 I J h hC
/-! X12_hold -/
def c_X12_hold (Q : xO → Prop) (t : Int32 × xI × xJ) : Prop := Q ((some (.int t.1)), 94, (t.2.1, t.2.2, xrf))
def c_X12_hold_4 (L : Nat) (xs : Nat → Int32) (d : Nat) (Q : xO → Prop) (t : (Int32 × Int32 × xI × xJ) ⊕ (Int32 × xI × xJ)) : Prop := match t with
  | .inl s => Rn L xs (d + 2) 219 13 [some (.ref 61), some (.int s.1), some (.int s.2.1)] [] 94 (s.2.2.1, s.2.2.2, xrf) Q
  | .inr t => (c_X12_hold Q) t
def f_X12_hold_6 (x1 : Int32) (x2 : Int32) (I : xI) (J : xJ) : Option (Int32 × xI × xJ) := if x1 < 0 ∨ 3 ≤ x1.toNatClampNeg then none else some (1, (xup I 74 x1.toNatClampNeg 1), J)
def f_X12_hold_5 (x1 : Int32) (x2 : Int32) (I : xI) (J : xJ) : Option ((Int32 × Int32 × xI × xJ) ⊕ (Int32 × xI × xJ)) := if x2 < 0 ∨ 54 ≤ x2.toNatClampNeg then none else if ((54 * x1) + x2) < 0 ∨ 162 ≤ (((54 * x1) + x2)).toNatClampNeg then none else some (.inl (x1, ((x2 + 1)), ((xup I 73 (((54 * x1) + x2)).toNatClampNeg ((I 70 x2.toNatClampNeg)))), J))
def b_X12_hold_4 (x1 : Int32) (x2 : Int32) (I : xI) (J : xJ) : Option ((Int32 × Int32 × xI × xJ) ⊕ (Int32 × xI × xJ)) := if 54 ≤ x2 then ((f_X12_hold_6 x1 x2 I J)).map .inr else f_X12_hold_5 x1 x2 I J
def f_X12_hold_4 (x1 : Int32) (x2 : Int32) (I : xI) (J : xJ) : Option (Int32 × xI × xJ) := xloop (fun s : Int32 × Int32 × xI × xJ => b_X12_hold_4 s.1 s.2.1 s.2.2.1 s.2.2.2) 5000 (x1, x2, I, J)
def f_X12_hold_3 (x1 : Int32) (I : xI) (J : xJ) : Option (Int32 × xI × xJ) := f_X12_hold_4 x1 0 I J
def f_X12_hold_2 (x1 : Int32) (I : xI) (J : xJ) : Option (Int32 × xI × xJ) := some (0, I, J)
def f_X12_hold_1 (x1 : Int32) (s0 : Int32) (I : xI) (J : xJ) : Option (Int32 × xI × xJ) := if s0 = 0 then f_X12_hold_2 x1 I J else f_X12_hold_3 x1 I J
def f_X12_hold_0 (x1 : Int32) (I : xI) (J : xJ) : Option (Int32 × xI × xJ) := (f_X12_in x1 0 2 I J).bind fun o => f_X12_hold_1 x1 o.1 o.2.1 o.2.2
def f_X12_hold (x1 : Int32) (I : xI) (J : xJ) : Option (Int32 × xI × xJ) := f_X12_hold_0 x1 I J
theorem p_X12_hold_6 {L : Nat} {xs : Nat → Int32} {d : Nat} {Q : xO → Prop} (x1 : Int32) (x2 : Int32) (I : xI) (J : xJ) {t : Int32 × xI × xJ} (h : f_X12_hold_6 x1 x2 I J = some t) (hC : (c_X12_hold Q) t) : Rn L xs (d + 2) 219 42 [some (.ref 61), some (.int x1), some (.int x2)] [] 94 (I, J, xrf) Q := by
  unfold f_X12_hold_6 at h
  obtain ⟨hc, h⟩ := xif h
  refine Rn.ok 5 (c := x1 < 0 ∨ 3 ≤ x1.toNatClampNeg) (p1 := 49) (l1 := [some (.ref 61), some (.int x1), some (.int x2)]) (s1 := []) (n1 := 94) (M1 := ((xup I 74 x1.toNatClampNeg 1), J, xrf)) (fun f => rfl) hc ?_
  cases h
  exact Rn.ret 2 (o := ((some (.int 1)), 94, ((xup I 74 x1.toNatClampNeg 1), J, xrf))) (fun f => rfl) hC
theorem p_X12_hold_5 {L : Nat} {xs : Nat → Int32} {d : Nat} {Q : xO → Prop} (x1 : Int32) (x2 : Int32) (I : xI) (J : xJ) {t : (Int32 × Int32 × xI × xJ) ⊕ (Int32 × xI × xJ)} (h : f_X12_hold_5 x1 x2 I J = some t) (hC : (c_X12_hold_4 L xs d Q) t) : Rn L xs (d + 2) 219 19 [some (.ref 61), some (.int x1), some (.int x2)] [] 94 (I, J, xrf) Q := by
  unfold f_X12_hold_5 at h
  obtain ⟨hc, h⟩ := xif h
  refine Rn.ok 11 (c := x2 < 0 ∨ 54 ≤ x2.toNatClampNeg) (p1 := 35) (l1 := [some (.ref 61), some (.int x1), some (.int x2)]) (s1 := [.int ((I 70 x2.toNatClampNeg)), .int (((54 * x1) + x2)), .ref 73]) (n1 := 94) (M1 := (I, J, xrf)) (fun f => rfl) hc ?_
  obtain ⟨hc, h⟩ := xif h
  refine Rn.ok 1 (c := ((54 * x1) + x2) < 0 ∨ 162 ≤ (((54 * x1) + x2)).toNatClampNeg) (p1 := 36) (l1 := [some (.ref 61), some (.int x1), some (.int x2)]) (s1 := []) (n1 := 94) (M1 := ((xup I 73 (((54 * x1) + x2)).toNatClampNeg ((I 70 x2.toNatClampNeg))), J, xrf)) (fun f => rfl) hc ?_
  refine Rn.go 2 (j' := 219) (pc' := 13) (ls' := [some (.ref 61), some (.int x1), some (.int ((x2 + 1)))]) (st' := []) (n' := 94) (M' := ((xup I 73 (((54 * x1) + x2)).toNatClampNeg ((I 70 x2.toNatClampNeg))), J, xrf)) (fun f => rfl) ?_
  cases h; exact hC
theorem q_X12_hold_4 {L : Nat} {xs : Nat → Int32} {d : Nat} {Q : xO → Prop} (x1 : Int32) (x2 : Int32) (I : xI) (J : xJ) {t : (Int32 × Int32 × xI × xJ) ⊕ (Int32 × xI × xJ)} (h : b_X12_hold_4 x1 x2 I J = some t) (hC : (c_X12_hold_4 L xs d Q) t) : Rn L xs (d + 2) 219 13 [some (.ref 61), some (.int x1), some (.int x2)] [] 94 (I, J, xrf) Q := by
  unfold b_X12_hold_4 at h
  refine Rn.fi 3 (c := 54 ≤ x2) (p1 := 42) (l1 := [some (.ref 61), some (.int x1), some (.int x2)]) (s1 := []) (n1 := 94) (M1 := (I, J, xrf)) (p2 := 19) (l2 := [some (.ref 61), some (.int x1), some (.int x2)]) (s2 := []) (n2 := 94) (M2 := (I, J, xrf)) (fun f => rfl) (fun hc => ?_) (fun hc => ?_)
  · rw [if_pos hc] at h
    obtain ⟨t0, h0, rfl⟩ := Option.map_eq_some_iff.mp h
    exact p_X12_hold_6 x1 x2 I J h0 hC
  · rw [if_neg hc] at h
    exact p_X12_hold_5 x1 x2 I J h hC
theorem p_X12_hold_4 {L : Nat} {xs : Nat → Int32} {d : Nat} {Q : xO → Prop} (x1 : Int32) (x2 : Int32) (I : xI) (J : xJ) {t : Int32 × xI × xJ} (h : f_X12_hold_4 x1 x2 I J = some t) (hC : (c_X12_hold Q) t) : Rn L xs (d + 2) 219 13 [some (.ref 61), some (.int x1), some (.int x2)] [] 94 (I, J, xrf) Q := by
  unfold f_X12_hold_4 at h
  exact xloop_some (P := fun s : Int32 × Int32 × xI × xJ => Rn L xs (d + 2) 219 13 [some (.ref 61), some (.int s.1), some (.int s.2.1)] [] 94 (s.2.2.1, s.2.2.2, xrf) Q) t (fun s ⟨s', hb, hp⟩ => q_X12_hold_4 s.1 s.2.1 s.2.2.1 s.2.2.2 hb hp) (fun s hb => q_X12_hold_4 s.1 s.2.1 s.2.2.1 s.2.2.2 hb hC) _ _ h
theorem p_X12_hold_3 {L : Nat} {xs : Nat → Int32} {d : Nat} {Q : xO → Prop} (x1 : Int32) (I : xI) (J : xJ) {t : Int32 × xI × xJ} (h : f_X12_hold_3 x1 I J = some t) (hC : (c_X12_hold Q) t) : Rn L xs (d + 2) 219 11 [some (.ref 61), some (.int x1), none] [] 94 (I, J, xrf) Q := by
  unfold f_X12_hold_3 at h
  refine Rn.go 2 (j' := 219) (pc' := 13) (ls' := [some (.ref 61), some (.int x1), some (.int 0)]) (st' := []) (n' := 94) (M' := (I, J, xrf)) (fun f => rfl) ?_
  exact p_X12_hold_4 x1 0 I J h hC
theorem p_X12_hold_2 {L : Nat} {xs : Nat → Int32} {d : Nat} {Q : xO → Prop} (x1 : Int32) (I : xI) (J : xJ) {t : Int32 × xI × xJ} (h : f_X12_hold_2 x1 I J = some t) (hC : (c_X12_hold Q) t) : Rn L xs (d + 2) 219 9 [some (.ref 61), some (.int x1), none] [] 94 (I, J, xrf) Q := by
  unfold f_X12_hold_2 at h
  cases h
  exact Rn.ret 2 (o := ((some (.int 0)), 94, (I, J, xrf))) (fun f => rfl) hC
theorem p_X12_hold_1 {L : Nat} {xs : Nat → Int32} {d : Nat} {Q : xO → Prop} (x1 : Int32) (s0 : Int32) (I : xI) (J : xJ) {t : Int32 × xI × xJ} (h : f_X12_hold_1 x1 s0 I J = some t) (hC : (c_X12_hold Q) t) : Rn L xs (d + 2) 219 6 [some (.ref 61), some (.int x1), none] [.int s0] 94 (I, J, xrf) Q := by
  unfold f_X12_hold_1 at h
  refine Rn.fi 1 (c := s0 = 0) (p1 := 9) (l1 := [some (.ref 61), some (.int x1), none]) (s1 := []) (n1 := 94) (M1 := (I, J, xrf)) (p2 := 11) (l2 := [some (.ref 61), some (.int x1), none]) (s2 := []) (n2 := 94) (M2 := (I, J, xrf)) (fun f => rfl) (fun hc => ?_) (fun hc => ?_)
  · rw [if_pos hc] at h
    exact p_X12_hold_2 x1 I J h hC
  · rw [if_neg hc] at h
    exact p_X12_hold_3 x1 I J h hC
theorem p_X12_hold_0 {L : Nat} {xs : Nat → Int32} {d : Nat} {Q : xO → Prop} (x1 : Int32) (I : xI) (J : xJ) {t : Int32 × xI × xJ} (h : f_X12_hold_0 x1 I J = some t) (hC : (c_X12_hold Q) t) : Rn L xs (d + 2) 219 0 [some (.ref 61), some (.int x1), none] [] 94 (I, J, xrf) Q := by
  unfold f_X12_hold_0 at h
  refine Rn.go 3 (j' := 219) (pc' := 3) (ls' := [some (.ref 61), some (.int x1), none]) (st' := [.int 2, .int 0, .int x1]) (n' := 94) (M' := (I, J, xrf)) (fun f => rfl) ?_
  obtain ⟨o, ho, h⟩ := Option.bind_eq_some_iff.mp h
  refine Rn.call (d1 := d + 1) (j1 := 206) (ls1 := [some (.int x1), some (.int 0), some (.int 2)]) (rest := []) (fun f => rfl) ?_
  refine p_X12_in (d := d + 0) x1 0 2 I J (t := o) ho ?_
  exact p_X12_hold_1 x1 o.1 o.2.1 o.2.2 h hC
theorem p_X12_hold {L : Nat} {xs : Nat → Int32} {d : Nat} {Q : xO → Prop} (x1 : Int32) (I : xI) (J : xJ) {t : Int32 × xI × xJ} (h : f_X12_hold x1 I J = some t) (hC : Q ((some (.int t.1)), 94, (t.2.1, t.2.2, xrf))) : Rn L xs (d + 2) 219 0 [some (.ref 61), some (.int x1), none] [] 94 (I, J, xrf) Q := p_X12_hold_0 x1 I J h hC
/-! X12_restore -/
def c_X12_restore (Q : xO → Prop) (t : Int32 × xI × xJ) : Prop := Q ((some (.int t.1)), 94, (t.2.1, t.2.2, xrf))
def c_X12_restore_5 (L : Nat) (xs : Nat → Int32) (d : Nat) (Q : xO → Prop) (t : (Int32 × Int32 × xI × xJ) ⊕ (Int32 × xI × xJ)) : Prop := match t with
  | .inl s => Rn L xs (d + 2) 220 22 [some (.ref 61), some (.int s.1), some (.int s.2.1)] [] 94 (s.2.2.1, s.2.2.2, xrf) Q
  | .inr t => (c_X12_restore Q) t
def f_X12_restore_3 (x1 : Int32) (I : xI) (J : xJ) : Option (Int32 × xI × xJ) := some (0, I, J)
def f_X12_restore_8 (x1 : Int32) (x2 : Int32) (I : xI) (J : xJ) : Option (Int32 × xI × xJ) := some (1, I, J)
def f_X12_restore_7 (x1 : Int32) (x2 : Int32) (I : xI) (J : xJ) : Option (Int32 × xI × xJ) := (f_X12_changes ((xup I 61 26 0)) J).bind fun o => f_X12_restore_8 x1 x2 o.2.1 o.2.2
def f_X12_restore_6 (x1 : Int32) (x2 : Int32) (I : xI) (J : xJ) : Option ((Int32 × Int32 × xI × xJ) ⊕ (Int32 × xI × xJ)) := if ((54 * x1) + x2) < 0 ∨ 162 ≤ (((54 * x1) + x2)).toNatClampNeg then none else if x2 < 0 ∨ 54 ≤ x2.toNatClampNeg then none else some (.inl (x1, ((x2 + 1)), ((xup I 70 x2.toNatClampNeg ((I 73 (((54 * x1) + x2)).toNatClampNeg)))), J))
def b_X12_restore_5 (x1 : Int32) (x2 : Int32) (I : xI) (J : xJ) : Option ((Int32 × Int32 × xI × xJ) ⊕ (Int32 × xI × xJ)) := if 54 ≤ x2 then ((f_X12_restore_7 x1 x2 I J)).map .inr else f_X12_restore_6 x1 x2 I J
def f_X12_restore_5 (x1 : Int32) (x2 : Int32) (I : xI) (J : xJ) : Option (Int32 × xI × xJ) := xloop (fun s : Int32 × Int32 × xI × xJ => b_X12_restore_5 s.1 s.2.1 s.2.2.1 s.2.2.2) 5000 (x1, x2, I, J)
def f_X12_restore_4 (x1 : Int32) (I : xI) (J : xJ) : Option (Int32 × xI × xJ) := f_X12_restore_5 x1 0 I J
def f_X12_restore_2 (x1 : Int32) (I : xI) (J : xJ) : Option (Int32 × xI × xJ) := if x1 < 0 ∨ 3 ≤ x1.toNatClampNeg then none else if (I 74 x1.toNatClampNeg) = 0 then f_X12_restore_3 x1 I J else f_X12_restore_4 x1 I J
def f_X12_restore_1 (x1 : Int32) (s0 : Int32) (I : xI) (J : xJ) : Option (Int32 × xI × xJ) := if s0 = 0 then f_X12_restore_3 x1 I J else f_X12_restore_2 x1 I J
def f_X12_restore_0 (x1 : Int32) (I : xI) (J : xJ) : Option (Int32 × xI × xJ) := (f_X12_in x1 0 2 I J).bind fun o => f_X12_restore_1 x1 o.1 o.2.1 o.2.2
def f_X12_restore (x1 : Int32) (I : xI) (J : xJ) : Option (Int32 × xI × xJ) := f_X12_restore_0 x1 I J
theorem p_X12_restore_3 {L : Nat} {xs : Nat → Int32} {d : Nat} {Q : xO → Prop} (x1 : Int32) (I : xI) (J : xJ) {t : Int32 × xI × xJ} (h : f_X12_restore_3 x1 I J = some t) (hC : (c_X12_restore Q) t) : Rn L xs (d + 2) 220 18 [some (.ref 61), some (.int x1), none] [] 94 (I, J, xrf) Q := by
  unfold f_X12_restore_3 at h
  cases h
  exact Rn.ret 2 (o := ((some (.int 0)), 94, (I, J, xrf))) (fun f => rfl) hC
theorem p_X12_restore_8 {L : Nat} {xs : Nat → Int32} {d : Nat} {Q : xO → Prop} (x1 : Int32) (x2 : Int32) (I : xI) (J : xJ) {t : Int32 × xI × xJ} (h : f_X12_restore_8 x1 x2 I J = some t) (hC : (c_X12_restore Q) t) : Rn L xs (d + 2) 220 60 [some (.ref 61), some (.int x1), some (.int x2)] [] 94 (I, J, xrf) Q := by
  unfold f_X12_restore_8 at h
  cases h
  exact Rn.ret 2 (o := ((some (.int 1)), 94, (I, J, xrf))) (fun f => rfl) hC
theorem p_X12_restore_7 {L : Nat} {xs : Nat → Int32} {d : Nat} {Q : xO → Prop} (x1 : Int32) (x2 : Int32) (I : xI) (J : xJ) {t : Int32 × xI × xJ} (h : f_X12_restore_7 x1 x2 I J = some t) (hC : (c_X12_restore Q) t) : Rn L xs (d + 2) 220 51 [some (.ref 61), some (.int x1), some (.int x2)] [] 94 (I, J, xrf) Q := by
  unfold f_X12_restore_7 at h
  refine Rn.go 4 (j' := 220) (pc' := 57) (ls' := [some (.ref 61), some (.int x1), some (.int x2)]) (st' := [.ref 61]) (n' := 94) (M' := ((xup I 61 26 0), J, xrf)) (fun f => rfl) ?_
  obtain ⟨o, ho, h⟩ := Option.bind_eq_some_iff.mp h
  refine Rn.call (d1 := d + 1) (j1 := 222) (ls1 := [some (.ref 61)]) (rest := []) (fun f => rfl) ?_
  refine p_X12_changes (d := d + 0) ((xup I 61 26 0)) J (t := o) ho ?_
  exact p_X12_restore_8 x1 x2 o.2.1 o.2.2 h hC
theorem p_X12_restore_6 {L : Nat} {xs : Nat → Int32} {d : Nat} {Q : xO → Prop} (x1 : Int32) (x2 : Int32) (I : xI) (J : xJ) {t : (Int32 × Int32 × xI × xJ) ⊕ (Int32 × xI × xJ)} (h : f_X12_restore_6 x1 x2 I J = some t) (hC : (c_X12_restore_5 L xs d Q) t) : Rn L xs (d + 2) 220 28 [some (.ref 61), some (.int x1), some (.int x2)] [] 94 (I, J, xrf) Q := by
  unfold f_X12_restore_6 at h
  obtain ⟨hc, h⟩ := xif h
  refine Rn.ok 11 (c := ((54 * x1) + x2) < 0 ∨ 162 ≤ (((54 * x1) + x2)).toNatClampNeg) (p1 := 44) (l1 := [some (.ref 61), some (.int x1), some (.int x2)]) (s1 := [.int ((I 73 (((54 * x1) + x2)).toNatClampNeg)), .int x2, .ref 70]) (n1 := 94) (M1 := (I, J, xrf)) (fun f => rfl) hc ?_
  obtain ⟨hc, h⟩ := xif h
  refine Rn.ok 1 (c := x2 < 0 ∨ 54 ≤ x2.toNatClampNeg) (p1 := 45) (l1 := [some (.ref 61), some (.int x1), some (.int x2)]) (s1 := []) (n1 := 94) (M1 := ((xup I 70 x2.toNatClampNeg ((I 73 (((54 * x1) + x2)).toNatClampNeg))), J, xrf)) (fun f => rfl) hc ?_
  refine Rn.go 2 (j' := 220) (pc' := 22) (ls' := [some (.ref 61), some (.int x1), some (.int ((x2 + 1)))]) (st' := []) (n' := 94) (M' := ((xup I 70 x2.toNatClampNeg ((I 73 (((54 * x1) + x2)).toNatClampNeg))), J, xrf)) (fun f => rfl) ?_
  cases h; exact hC
theorem q_X12_restore_5 {L : Nat} {xs : Nat → Int32} {d : Nat} {Q : xO → Prop} (x1 : Int32) (x2 : Int32) (I : xI) (J : xJ) {t : (Int32 × Int32 × xI × xJ) ⊕ (Int32 × xI × xJ)} (h : b_X12_restore_5 x1 x2 I J = some t) (hC : (c_X12_restore_5 L xs d Q) t) : Rn L xs (d + 2) 220 22 [some (.ref 61), some (.int x1), some (.int x2)] [] 94 (I, J, xrf) Q := by
  unfold b_X12_restore_5 at h
  refine Rn.fi 3 (c := 54 ≤ x2) (p1 := 51) (l1 := [some (.ref 61), some (.int x1), some (.int x2)]) (s1 := []) (n1 := 94) (M1 := (I, J, xrf)) (p2 := 28) (l2 := [some (.ref 61), some (.int x1), some (.int x2)]) (s2 := []) (n2 := 94) (M2 := (I, J, xrf)) (fun f => rfl) (fun hc => ?_) (fun hc => ?_)
  · rw [if_pos hc] at h
    obtain ⟨t0, h0, rfl⟩ := Option.map_eq_some_iff.mp h
    exact p_X12_restore_7 x1 x2 I J h0 hC
  · rw [if_neg hc] at h
    exact p_X12_restore_6 x1 x2 I J h hC
theorem p_X12_restore_5 {L : Nat} {xs : Nat → Int32} {d : Nat} {Q : xO → Prop} (x1 : Int32) (x2 : Int32) (I : xI) (J : xJ) {t : Int32 × xI × xJ} (h : f_X12_restore_5 x1 x2 I J = some t) (hC : (c_X12_restore Q) t) : Rn L xs (d + 2) 220 22 [some (.ref 61), some (.int x1), some (.int x2)] [] 94 (I, J, xrf) Q := by
  unfold f_X12_restore_5 at h
  exact xloop_some (P := fun s : Int32 × Int32 × xI × xJ => Rn L xs (d + 2) 220 22 [some (.ref 61), some (.int s.1), some (.int s.2.1)] [] 94 (s.2.2.1, s.2.2.2, xrf) Q) t (fun s ⟨s', hb, hp⟩ => q_X12_restore_5 s.1 s.2.1 s.2.2.1 s.2.2.2 hb hp) (fun s hb => q_X12_restore_5 s.1 s.2.1 s.2.2.1 s.2.2.2 hb hC) _ _ h
theorem p_X12_restore_4 {L : Nat} {xs : Nat → Int32} {d : Nat} {Q : xO → Prop} (x1 : Int32) (I : xI) (J : xJ) {t : Int32 × xI × xJ} (h : f_X12_restore_4 x1 I J = some t) (hC : (c_X12_restore Q) t) : Rn L xs (d + 2) 220 20 [some (.ref 61), some (.int x1), none] [] 94 (I, J, xrf) Q := by
  unfold f_X12_restore_4 at h
  refine Rn.go 2 (j' := 220) (pc' := 22) (ls' := [some (.ref 61), some (.int x1), some (.int 0)]) (st' := []) (n' := 94) (M' := (I, J, xrf)) (fun f => rfl) ?_
  exact p_X12_restore_5 x1 0 I J h hC
theorem p_X12_restore_2 {L : Nat} {xs : Nat → Int32} {d : Nat} {Q : xO → Prop} (x1 : Int32) (I : xI) (J : xJ) {t : Int32 × xI × xJ} (h : f_X12_restore_2 x1 I J = some t) (hC : (c_X12_restore Q) t) : Rn L xs (d + 2) 220 9 [some (.ref 61), some (.int x1), none] [] 94 (I, J, xrf) Q := by
  unfold f_X12_restore_2 at h
  obtain ⟨hc, h⟩ := xif h
  refine Rn.ok 4 (c := x1 < 0 ∨ 3 ≤ x1.toNatClampNeg) (p1 := 15) (l1 := [some (.ref 61), some (.int x1), none]) (s1 := [.int ((I 74 x1.toNatClampNeg))]) (n1 := 94) (M1 := (I, J, xrf)) (fun f => rfl) hc ?_
  refine Rn.fi 1 (c := (I 74 x1.toNatClampNeg) = 0) (p1 := 18) (l1 := [some (.ref 61), some (.int x1), none]) (s1 := []) (n1 := 94) (M1 := (I, J, xrf)) (p2 := 20) (l2 := [some (.ref 61), some (.int x1), none]) (s2 := []) (n2 := 94) (M2 := (I, J, xrf)) (fun f => rfl) (fun hc => ?_) (fun hc => ?_)
  · rw [if_pos hc] at h
    exact p_X12_restore_3 x1 I J h hC
  · rw [if_neg hc] at h
    exact p_X12_restore_4 x1 I J h hC
theorem p_X12_restore_1 {L : Nat} {xs : Nat → Int32} {d : Nat} {Q : xO → Prop} (x1 : Int32) (s0 : Int32) (I : xI) (J : xJ) {t : Int32 × xI × xJ} (h : f_X12_restore_1 x1 s0 I J = some t) (hC : (c_X12_restore Q) t) : Rn L xs (d + 2) 220 6 [some (.ref 61), some (.int x1), none] [.int s0] 94 (I, J, xrf) Q := by
  unfold f_X12_restore_1 at h
  refine Rn.fi 1 (c := s0 = 0) (p1 := 18) (l1 := [some (.ref 61), some (.int x1), none]) (s1 := []) (n1 := 94) (M1 := (I, J, xrf)) (p2 := 9) (l2 := [some (.ref 61), some (.int x1), none]) (s2 := []) (n2 := 94) (M2 := (I, J, xrf)) (fun f => rfl) (fun hc => ?_) (fun hc => ?_)
  · rw [if_pos hc] at h
    exact p_X12_restore_3 x1 I J h hC
  · rw [if_neg hc] at h
    exact p_X12_restore_2 x1 I J h hC
theorem p_X12_restore_0 {L : Nat} {xs : Nat → Int32} {d : Nat} {Q : xO → Prop} (x1 : Int32) (I : xI) (J : xJ) {t : Int32 × xI × xJ} (h : f_X12_restore_0 x1 I J = some t) (hC : (c_X12_restore Q) t) : Rn L xs (d + 2) 220 0 [some (.ref 61), some (.int x1), none] [] 94 (I, J, xrf) Q := by
  unfold f_X12_restore_0 at h
  refine Rn.go 3 (j' := 220) (pc' := 3) (ls' := [some (.ref 61), some (.int x1), none]) (st' := [.int 2, .int 0, .int x1]) (n' := 94) (M' := (I, J, xrf)) (fun f => rfl) ?_
  obtain ⟨o, ho, h⟩ := Option.bind_eq_some_iff.mp h
  refine Rn.call (d1 := d + 1) (j1 := 206) (ls1 := [some (.int x1), some (.int 0), some (.int 2)]) (rest := []) (fun f => rfl) ?_
  refine p_X12_in (d := d + 0) x1 0 2 I J (t := o) ho ?_
  exact p_X12_restore_1 x1 o.1 o.2.1 o.2.2 h hC
theorem p_X12_restore {L : Nat} {xs : Nat → Int32} {d : Nat} {Q : xO → Prop} (x1 : Int32) (I : xI) (J : xJ) {t : Int32 × xI × xJ} (h : f_X12_restore x1 I J = some t) (hC : Q ((some (.int t.1)), 94, (t.2.1, t.2.2, xrf))) : Rn L xs (d + 2) 220 0 [some (.ref 61), some (.int x1), none] [] 94 (I, J, xrf) Q := p_X12_restore_0 x1 I J h hC
/-! X12_move -/
def c_X12_move (Q : xO → Prop) (t : Int32 × xI × xJ) : Prop := Q ((some (.int t.1)), 94, (t.2.1, t.2.2, xrf))
def f_X12_move_4 (x1 : Int32) (x2 : Int32) (x3 : Int32) (I : xI) (J : xJ) : Option (Int32 × xI × xJ) := some ((-1), I, J)
def f_X12_move_9 (x1 : Int32) (x2 : Int32) (x3 : Int32) (s0 : Int32) (I : xI) (J : xJ) : Option (Int32 × xI × xJ) := some (s0, I, J)
def f_X12_move_8 (x1 : Int32) (x2 : Int32) (x3 : Int32) (I : xI) (J : xJ) : Option (Int32 × xI × xJ) := (f_X12_answer x1 x2 I J).bind fun o => f_X12_move_9 x1 x2 x3 o.1 o.2.1 o.2.2
def f_X12_move_7 (x1 : Int32) (x2 : Int32) (x3 : Int32) (s0 : Int32) (I : xI) (J : xJ) : Option (Int32 × xI × xJ) := f_X12_move_9 x1 x2 x3 s0 I J
def f_X12_move_6 (x1 : Int32) (x2 : Int32) (x3 : Int32) (I : xI) (J : xJ) : Option (Int32 × xI × xJ) := (f_X12_to x1 x2 I J).bind fun o => f_X12_move_7 x1 x2 x3 o.1 o.2.1 o.2.2
def f_X12_move_5 (x1 : Int32) (x2 : Int32) (x3 : Int32) (I : xI) (J : xJ) : Option (Int32 × xI × xJ) := if x3 = 0 then f_X12_move_6 x1 x2 x3 I J else f_X12_move_8 x1 x2 x3 I J
def f_X12_move_3 (x1 : Int32) (x2 : Int32) (x3 : Int32) (s0 : Int32) (I : xI) (J : xJ) : Option (Int32 × xI × xJ) := if s0 = 0 then f_X12_move_4 x1 x2 x3 I J else f_X12_move_5 x1 x2 x3 I J
def f_X12_move_2 (x1 : Int32) (x2 : Int32) (x3 : Int32) (I : xI) (J : xJ) : Option (Int32 × xI × xJ) := (f_X12_in x3 0 1 I J).bind fun o => f_X12_move_3 x1 x2 x3 o.1 o.2.1 o.2.2
def f_X12_move_1 (x1 : Int32) (x2 : Int32) (x3 : Int32) (s0 : Int32) (I : xI) (J : xJ) : Option (Int32 × xI × xJ) := if s0 = 0 then f_X12_move_4 x1 x2 x3 I J else f_X12_move_2 x1 x2 x3 I J
def f_X12_move_0 (x1 : Int32) (x2 : Int32) (x3 : Int32) (I : xI) (J : xJ) : Option (Int32 × xI × xJ) := (f_X12_isMove x1 x2 I J).bind fun o => f_X12_move_1 x1 x2 x3 o.1 o.2.1 o.2.2
def f_X12_move (x1 : Int32) (x2 : Int32) (x3 : Int32) (I : xI) (J : xJ) : Option (Int32 × xI × xJ) := f_X12_move_0 x1 x2 x3 I J
theorem p_X12_move_4 {L : Nat} {xs : Nat → Int32} {d : Nat} {Q : xO → Prop} (x1 : Int32) (x2 : Int32) (x3 : Int32) (I : xI) (J : xJ) {t : Int32 × xI × xJ} (h : f_X12_move_4 x1 x2 x3 I J = some t) (hC : (c_X12_move Q) t) : Rn L xs (d + 4) 221 18 [some (.ref 61), some (.int x1), some (.int x2), some (.int x3)] [] 94 (I, J, xrf) Q := by
  unfold f_X12_move_4 at h
  cases h
  exact Rn.ret 2 (o := ((some (.int ((-1)))), 94, (I, J, xrf))) (fun f => rfl) hC
theorem p_X12_move_9 {L : Nat} {xs : Nat → Int32} {d : Nat} {Q : xO → Prop} (x1 : Int32) (x2 : Int32) (x3 : Int32) (s0 : Int32) (I : xI) (J : xJ) {t : Int32 × xI × xJ} (h : f_X12_move_9 x1 x2 x3 s0 I J = some t) (hC : (c_X12_move Q) t) : Rn L xs (d + 4) 221 39 [some (.ref 61), some (.int x1), some (.int x2), some (.int x3)] [.int s0] 94 (I, J, xrf) Q := by
  unfold f_X12_move_9 at h
  cases h
  exact Rn.ret 1 (o := ((some (.int s0)), 94, (I, J, xrf))) (fun f => rfl) hC
theorem p_X12_move_8 {L : Nat} {xs : Nat → Int32} {d : Nat} {Q : xO → Prop} (x1 : Int32) (x2 : Int32) (x3 : Int32) (I : xI) (J : xJ) {t : Int32 × xI × xJ} (h : f_X12_move_8 x1 x2 x3 I J = some t) (hC : (c_X12_move Q) t) : Rn L xs (d + 4) 221 33 [some (.ref 61), some (.int x1), some (.int x2), some (.int x3)] [] 94 (I, J, xrf) Q := by
  unfold f_X12_move_8 at h
  refine Rn.go 3 (j' := 221) (pc' := 36) (ls' := [some (.ref 61), some (.int x1), some (.int x2), some (.int x3)]) (st' := [.int x2, .int x1, .ref 61]) (n' := 94) (M' := (I, J, xrf)) (fun f => rfl) ?_
  obtain ⟨o, ho, h⟩ := Option.bind_eq_some_iff.mp h
  refine Rn.call (d1 := d + 3) (j1 := 211) (ls1 := [some (.ref 61), some (.int x1), some (.int x2)]) (rest := []) (fun f => rfl) ?_
  refine p_X12_answer (d := d + 2) x1 x2 I J (t := o) ho ?_
  exact p_X12_move_9 x1 x2 x3 o.1 o.2.1 o.2.2 h hC
theorem p_X12_move_7 {L : Nat} {xs : Nat → Int32} {d : Nat} {Q : xO → Prop} (x1 : Int32) (x2 : Int32) (x3 : Int32) (s0 : Int32) (I : xI) (J : xJ) {t : Int32 × xI × xJ} (h : f_X12_move_7 x1 x2 x3 s0 I J = some t) (hC : (c_X12_move Q) t) : Rn L xs (d + 4) 221 30 [some (.ref 61), some (.int x1), some (.int x2), some (.int x3)] [.int s0] 94 (I, J, xrf) Q := by
  unfold f_X12_move_7 at h
  refine Rn.go 1 (j' := 221) (pc' := 39) (ls' := [some (.ref 61), some (.int x1), some (.int x2), some (.int x3)]) (st' := [.int s0]) (n' := 94) (M' := (I, J, xrf)) (fun f => rfl) ?_
  exact p_X12_move_9 x1 x2 x3 s0 I J h hC
theorem p_X12_move_6 {L : Nat} {xs : Nat → Int32} {d : Nat} {Q : xO → Prop} (x1 : Int32) (x2 : Int32) (x3 : Int32) (I : xI) (J : xJ) {t : Int32 × xI × xJ} (h : f_X12_move_6 x1 x2 x3 I J = some t) (hC : (c_X12_move Q) t) : Rn L xs (d + 4) 221 24 [some (.ref 61), some (.int x1), some (.int x2), some (.int x3)] [] 94 (I, J, xrf) Q := by
  unfold f_X12_move_6 at h
  refine Rn.go 3 (j' := 221) (pc' := 27) (ls' := [some (.ref 61), some (.int x1), some (.int x2), some (.int x3)]) (st' := [.int x2, .int x1, .ref 61]) (n' := 94) (M' := (I, J, xrf)) (fun f => rfl) ?_
  obtain ⟨o, ho, h⟩ := Option.bind_eq_some_iff.mp h
  refine Rn.call (d1 := d + 3) (j1 := 210) (ls1 := [some (.ref 61), some (.int x1), some (.int x2)]) (rest := []) (fun f => rfl) ?_
  refine p_X12_to (d := d + 2) x1 x2 I J (t := o) ho ?_
  exact p_X12_move_7 x1 x2 x3 o.1 o.2.1 o.2.2 h hC
theorem p_X12_move_5 {L : Nat} {xs : Nat → Int32} {d : Nat} {Q : xO → Prop} (x1 : Int32) (x2 : Int32) (x3 : Int32) (I : xI) (J : xJ) {t : Int32 × xI × xJ} (h : f_X12_move_5 x1 x2 x3 I J = some t) (hC : (c_X12_move Q) t) : Rn L xs (d + 4) 221 20 [some (.ref 61), some (.int x1), some (.int x2), some (.int x3)] [] 94 (I, J, xrf) Q := by
  unfold f_X12_move_5 at h
  refine Rn.fi 2 (c := x3 = 0) (p1 := 24) (l1 := [some (.ref 61), some (.int x1), some (.int x2), some (.int x3)]) (s1 := []) (n1 := 94) (M1 := (I, J, xrf)) (p2 := 33) (l2 := [some (.ref 61), some (.int x1), some (.int x2), some (.int x3)]) (s2 := []) (n2 := 94) (M2 := (I, J, xrf)) (fun f => rfl) (fun hc => ?_) (fun hc => ?_)
  · rw [if_pos hc] at h
    exact p_X12_move_6 x1 x2 x3 I J h hC
  · rw [if_neg hc] at h
    exact p_X12_move_8 x1 x2 x3 I J h hC
theorem p_X12_move_3 {L : Nat} {xs : Nat → Int32} {d : Nat} {Q : xO → Prop} (x1 : Int32) (x2 : Int32) (x3 : Int32) (s0 : Int32) (I : xI) (J : xJ) {t : Int32 × xI × xJ} (h : f_X12_move_3 x1 x2 x3 s0 I J = some t) (hC : (c_X12_move Q) t) : Rn L xs (d + 4) 221 15 [some (.ref 61), some (.int x1), some (.int x2), some (.int x3)] [.int s0] 94 (I, J, xrf) Q := by
  unfold f_X12_move_3 at h
  refine Rn.fi 1 (c := s0 = 0) (p1 := 18) (l1 := [some (.ref 61), some (.int x1), some (.int x2), some (.int x3)]) (s1 := []) (n1 := 94) (M1 := (I, J, xrf)) (p2 := 20) (l2 := [some (.ref 61), some (.int x1), some (.int x2), some (.int x3)]) (s2 := []) (n2 := 94) (M2 := (I, J, xrf)) (fun f => rfl) (fun hc => ?_) (fun hc => ?_)
  · rw [if_pos hc] at h
    exact p_X12_move_4 x1 x2 x3 I J h hC
  · rw [if_neg hc] at h
    exact p_X12_move_5 x1 x2 x3 I J h hC
theorem p_X12_move_2 {L : Nat} {xs : Nat → Int32} {d : Nat} {Q : xO → Prop} (x1 : Int32) (x2 : Int32) (x3 : Int32) (I : xI) (J : xJ) {t : Int32 × xI × xJ} (h : f_X12_move_2 x1 x2 x3 I J = some t) (hC : (c_X12_move Q) t) : Rn L xs (d + 4) 221 9 [some (.ref 61), some (.int x1), some (.int x2), some (.int x3)] [] 94 (I, J, xrf) Q := by
  unfold f_X12_move_2 at h
  refine Rn.go 3 (j' := 221) (pc' := 12) (ls' := [some (.ref 61), some (.int x1), some (.int x2), some (.int x3)]) (st' := [.int 1, .int 0, .int x3]) (n' := 94) (M' := (I, J, xrf)) (fun f => rfl) ?_
  obtain ⟨o, ho, h⟩ := Option.bind_eq_some_iff.mp h
  refine Rn.call (d1 := d + 3) (j1 := 206) (ls1 := [some (.int x3), some (.int 0), some (.int 1)]) (rest := []) (fun f => rfl) ?_
  refine p_X12_in (d := d + 2) x3 0 1 I J (t := o) ho ?_
  exact p_X12_move_3 x1 x2 x3 o.1 o.2.1 o.2.2 h hC
theorem p_X12_move_1 {L : Nat} {xs : Nat → Int32} {d : Nat} {Q : xO → Prop} (x1 : Int32) (x2 : Int32) (x3 : Int32) (s0 : Int32) (I : xI) (J : xJ) {t : Int32 × xI × xJ} (h : f_X12_move_1 x1 x2 x3 s0 I J = some t) (hC : (c_X12_move Q) t) : Rn L xs (d + 4) 221 6 [some (.ref 61), some (.int x1), some (.int x2), some (.int x3)] [.int s0] 94 (I, J, xrf) Q := by
  unfold f_X12_move_1 at h
  refine Rn.fi 1 (c := s0 = 0) (p1 := 18) (l1 := [some (.ref 61), some (.int x1), some (.int x2), some (.int x3)]) (s1 := []) (n1 := 94) (M1 := (I, J, xrf)) (p2 := 9) (l2 := [some (.ref 61), some (.int x1), some (.int x2), some (.int x3)]) (s2 := []) (n2 := 94) (M2 := (I, J, xrf)) (fun f => rfl) (fun hc => ?_) (fun hc => ?_)
  · rw [if_pos hc] at h
    exact p_X12_move_4 x1 x2 x3 I J h hC
  · rw [if_neg hc] at h
    exact p_X12_move_2 x1 x2 x3 I J h hC
theorem p_X12_move_0 {L : Nat} {xs : Nat → Int32} {d : Nat} {Q : xO → Prop} (x1 : Int32) (x2 : Int32) (x3 : Int32) (I : xI) (J : xJ) {t : Int32 × xI × xJ} (h : f_X12_move_0 x1 x2 x3 I J = some t) (hC : (c_X12_move Q) t) : Rn L xs (d + 4) 221 0 [some (.ref 61), some (.int x1), some (.int x2), some (.int x3)] [] 94 (I, J, xrf) Q := by
  unfold f_X12_move_0 at h
  refine Rn.go 3 (j' := 221) (pc' := 3) (ls' := [some (.ref 61), some (.int x1), some (.int x2), some (.int x3)]) (st' := [.int x2, .int x1, .ref 61]) (n' := 94) (M' := (I, J, xrf)) (fun f => rfl) ?_
  obtain ⟨o, ho, h⟩ := Option.bind_eq_some_iff.mp h
  refine Rn.call (d1 := d + 3) (j1 := 209) (ls1 := [some (.ref 61), some (.int x1), some (.int x2)]) (rest := []) (fun f => rfl) ?_
  refine p_X12_isMove (d := d + 0) x1 x2 I J (t := o) ho ?_
  exact p_X12_move_1 x1 x2 x3 o.1 o.2.1 o.2.2 h hC
theorem p_X12_move {L : Nat} {xs : Nat → Int32} {d : Nat} {Q : xO → Prop} (x1 : Int32) (x2 : Int32) (x3 : Int32) (I : xI) (J : xJ) {t : Int32 × xI × xJ} (h : f_X12_move x1 x2 x3 I J = some t) (hC : Q ((some (.int t.1)), 94, (t.2.1, t.2.2, xrf))) : Rn L xs (d + 4) 221 0 [some (.ref 61), some (.int x1), some (.int x2), some (.int x3)] [] 94 (I, J, xrf) Q := p_X12_move_0 x1 x2 x3 I J h hC
/-! X12_areUnlike -/
def c_X12_areUnlike (Q : xO → Prop) (t : Int32 × xI × xJ) : Prop := Q ((some (.int t.1)), 94, (t.2.1, t.2.2, xrf))
def f_X12_areUnlike_9 (x1 : Int32) (x2 : Int32) (x3 : Int32) (s0 : Int32) (I : xI) (J : xJ) : Option (Int32 × xI × xJ) := if s0 = 0 ∨ s0 = 1 then some (s0, I, J) else none
def f_X12_areUnlike_8 (x1 : Int32) (x2 : Int32) (x3 : Int32) (I : xI) (J : xJ) : Option (Int32 × xI × xJ) := f_X12_areUnlike_9 x1 x2 x3 0 I J
def f_X12_areUnlike_7 (x1 : Int32) (x2 : Int32) (x3 : Int32) (I : xI) (J : xJ) : Option (Int32 × xI × xJ) := f_X12_areUnlike_9 x1 x2 x3 1 I J
def f_X12_areUnlike_6 (x1 : Int32) (x2 : Int32) (x3 : Int32) (s0 : Int32) (s1 : Int32) (I : xI) (J : xJ) : Option (Int32 × xI × xJ) := if s0 = s1 then f_X12_areUnlike_8 x1 x2 x3 I J else f_X12_areUnlike_7 x1 x2 x3 I J
def f_X12_areUnlike_5 (x1 : Int32) (x2 : Int32) (x3 : Int32) (s0 : Int32) (I : xI) (J : xJ) : Option (Int32 × xI × xJ) := (f_X12_answer x2 x3 I J).bind fun o => f_X12_areUnlike_6 x1 x2 x3 s0 o.1 o.2.1 o.2.2
def f_X12_areUnlike_4 (x1 : Int32) (x2 : Int32) (x3 : Int32) (I : xI) (J : xJ) : Option (Int32 × xI × xJ) := (f_X12_answer x1 x3 I J).bind fun o => f_X12_areUnlike_5 x1 x2 x3 o.1 o.2.1 o.2.2
def f_X12_areUnlike_3 (x1 : Int32) (x2 : Int32) (x3 : Int32) (s0 : Int32) (I : xI) (J : xJ) : Option (Int32 × xI × xJ) := if s0 < 0 then f_X12_areUnlike_8 x1 x2 x3 I J else f_X12_areUnlike_4 x1 x2 x3 I J
def f_X12_areUnlike_2 (x1 : Int32) (x2 : Int32) (x3 : Int32) (I : xI) (J : xJ) : Option (Int32 × xI × xJ) := (f_X12_answer x2 x3 I J).bind fun o => f_X12_areUnlike_3 x1 x2 x3 o.1 o.2.1 o.2.2
def f_X12_areUnlike_1 (x1 : Int32) (x2 : Int32) (x3 : Int32) (s0 : Int32) (I : xI) (J : xJ) : Option (Int32 × xI × xJ) := if s0 < 0 then f_X12_areUnlike_8 x1 x2 x3 I J else f_X12_areUnlike_2 x1 x2 x3 I J
def f_X12_areUnlike_0 (x1 : Int32) (x2 : Int32) (x3 : Int32) (I : xI) (J : xJ) : Option (Int32 × xI × xJ) := (f_X12_answer x1 x3 I J).bind fun o => f_X12_areUnlike_1 x1 x2 x3 o.1 o.2.1 o.2.2
def f_X12_areUnlike (x1 : Int32) (x2 : Int32) (x3 : Int32) (I : xI) (J : xJ) : Option (Int32 × xI × xJ) := f_X12_areUnlike_0 x1 x2 x3 I J
theorem p_X12_areUnlike_9 {L : Nat} {xs : Nat → Int32} {d : Nat} {Q : xO → Prop} (x1 : Int32) (x2 : Int32) (x3 : Int32) (s0 : Int32) (I : xI) (J : xJ) {t : Int32 × xI × xJ} (h : f_X12_areUnlike_9 x1 x2 x3 s0 I J = some t) (hC : (c_X12_areUnlike Q) t) : Rn L xs (d + 2) 224 38 [some (.ref 61), some (.int x1), some (.int x2), some (.int x3)] [.int s0] 94 (I, J, xrf) Q := by
  unfold f_X12_areUnlike_9 at h
  obtain ⟨hc, h⟩ := xifT h
  cases h
  exact Rn.retT 1 (c := s0 = 0 ∨ s0 = 1) (o := ((some (.int s0)), 94, (I, J, xrf))) (fun f => rfl) hc hC
theorem p_X12_areUnlike_8 {L : Nat} {xs : Nat → Int32} {d : Nat} {Q : xO → Prop} (x1 : Int32) (x2 : Int32) (x3 : Int32) (I : xI) (J : xJ) {t : Int32 × xI × xJ} (h : f_X12_areUnlike_8 x1 x2 x3 I J = some t) (hC : (c_X12_areUnlike Q) t) : Rn L xs (d + 2) 224 37 [some (.ref 61), some (.int x1), some (.int x2), some (.int x3)] [] 94 (I, J, xrf) Q := by
  unfold f_X12_areUnlike_8 at h
  refine Rn.go 1 (j' := 224) (pc' := 38) (ls' := [some (.ref 61), some (.int x1), some (.int x2), some (.int x3)]) (st' := [.int 0]) (n' := 94) (M' := (I, J, xrf)) (fun f => rfl) ?_
  exact p_X12_areUnlike_9 x1 x2 x3 0 I J h hC
theorem p_X12_areUnlike_7 {L : Nat} {xs : Nat → Int32} {d : Nat} {Q : xO → Prop} (x1 : Int32) (x2 : Int32) (x3 : Int32) (I : xI) (J : xJ) {t : Int32 × xI × xJ} (h : f_X12_areUnlike_7 x1 x2 x3 I J = some t) (hC : (c_X12_areUnlike Q) t) : Rn L xs (d + 2) 224 33 [some (.ref 61), some (.int x1), some (.int x2), some (.int x3)] [] 94 (I, J, xrf) Q := by
  unfold f_X12_areUnlike_7 at h
  refine Rn.go 2 (j' := 224) (pc' := 38) (ls' := [some (.ref 61), some (.int x1), some (.int x2), some (.int x3)]) (st' := [.int 1]) (n' := 94) (M' := (I, J, xrf)) (fun f => rfl) ?_
  exact p_X12_areUnlike_9 x1 x2 x3 1 I J h hC
theorem p_X12_areUnlike_6 {L : Nat} {xs : Nat → Int32} {d : Nat} {Q : xO → Prop} (x1 : Int32) (x2 : Int32) (x3 : Int32) (s0 : Int32) (s1 : Int32) (I : xI) (J : xJ) {t : Int32 × xI × xJ} (h : f_X12_areUnlike_6 x1 x2 x3 s0 s1 I J = some t) (hC : (c_X12_areUnlike Q) t) : Rn L xs (d + 2) 224 30 [some (.ref 61), some (.int x1), some (.int x2), some (.int x3)] [.int s1, .int s0] 94 (I, J, xrf) Q := by
  unfold f_X12_areUnlike_6 at h
  refine Rn.fi 1 (c := s0 = s1) (p1 := 37) (l1 := [some (.ref 61), some (.int x1), some (.int x2), some (.int x3)]) (s1 := []) (n1 := 94) (M1 := (I, J, xrf)) (p2 := 33) (l2 := [some (.ref 61), some (.int x1), some (.int x2), some (.int x3)]) (s2 := []) (n2 := 94) (M2 := (I, J, xrf)) (fun f => rfl) (fun hc => ?_) (fun hc => ?_)
  · rw [if_pos hc] at h
    exact p_X12_areUnlike_8 x1 x2 x3 I J h hC
  · rw [if_neg hc] at h
    exact p_X12_areUnlike_7 x1 x2 x3 I J h hC
theorem p_X12_areUnlike_5 {L : Nat} {xs : Nat → Int32} {d : Nat} {Q : xO → Prop} (x1 : Int32) (x2 : Int32) (x3 : Int32) (s0 : Int32) (I : xI) (J : xJ) {t : Int32 × xI × xJ} (h : f_X12_areUnlike_5 x1 x2 x3 s0 I J = some t) (hC : (c_X12_areUnlike Q) t) : Rn L xs (d + 2) 224 24 [some (.ref 61), some (.int x1), some (.int x2), some (.int x3)] [.int s0] 94 (I, J, xrf) Q := by
  unfold f_X12_areUnlike_5 at h
  refine Rn.go 3 (j' := 224) (pc' := 27) (ls' := [some (.ref 61), some (.int x1), some (.int x2), some (.int x3)]) (st' := [.int x3, .int x2, .ref 61, .int s0]) (n' := 94) (M' := (I, J, xrf)) (fun f => rfl) ?_
  obtain ⟨o, ho, h⟩ := Option.bind_eq_some_iff.mp h
  refine Rn.call (d1 := d + 1) (j1 := 211) (ls1 := [some (.ref 61), some (.int x2), some (.int x3)]) (rest := [.int s0]) (fun f => rfl) ?_
  refine p_X12_answer (d := d + 0) x2 x3 I J (t := o) ho ?_
  exact p_X12_areUnlike_6 x1 x2 x3 s0 o.1 o.2.1 o.2.2 h hC
theorem p_X12_areUnlike_4 {L : Nat} {xs : Nat → Int32} {d : Nat} {Q : xO → Prop} (x1 : Int32) (x2 : Int32) (x3 : Int32) (I : xI) (J : xJ) {t : Int32 × xI × xJ} (h : f_X12_areUnlike_4 x1 x2 x3 I J = some t) (hC : (c_X12_areUnlike Q) t) : Rn L xs (d + 2) 224 18 [some (.ref 61), some (.int x1), some (.int x2), some (.int x3)] [] 94 (I, J, xrf) Q := by
  unfold f_X12_areUnlike_4 at h
  refine Rn.go 3 (j' := 224) (pc' := 21) (ls' := [some (.ref 61), some (.int x1), some (.int x2), some (.int x3)]) (st' := [.int x3, .int x1, .ref 61]) (n' := 94) (M' := (I, J, xrf)) (fun f => rfl) ?_
  obtain ⟨o, ho, h⟩ := Option.bind_eq_some_iff.mp h
  refine Rn.call (d1 := d + 1) (j1 := 211) (ls1 := [some (.ref 61), some (.int x1), some (.int x3)]) (rest := []) (fun f => rfl) ?_
  refine p_X12_answer (d := d + 0) x1 x3 I J (t := o) ho ?_
  exact p_X12_areUnlike_5 x1 x2 x3 o.1 o.2.1 o.2.2 h hC
theorem p_X12_areUnlike_3 {L : Nat} {xs : Nat → Int32} {d : Nat} {Q : xO → Prop} (x1 : Int32) (x2 : Int32) (x3 : Int32) (s0 : Int32) (I : xI) (J : xJ) {t : Int32 × xI × xJ} (h : f_X12_areUnlike_3 x1 x2 x3 s0 I J = some t) (hC : (c_X12_areUnlike Q) t) : Rn L xs (d + 2) 224 15 [some (.ref 61), some (.int x1), some (.int x2), some (.int x3)] [.int s0] 94 (I, J, xrf) Q := by
  unfold f_X12_areUnlike_3 at h
  refine Rn.fi 1 (c := s0 < 0) (p1 := 37) (l1 := [some (.ref 61), some (.int x1), some (.int x2), some (.int x3)]) (s1 := []) (n1 := 94) (M1 := (I, J, xrf)) (p2 := 18) (l2 := [some (.ref 61), some (.int x1), some (.int x2), some (.int x3)]) (s2 := []) (n2 := 94) (M2 := (I, J, xrf)) (fun f => rfl) (fun hc => ?_) (fun hc => ?_)
  · rw [if_pos hc] at h
    exact p_X12_areUnlike_8 x1 x2 x3 I J h hC
  · rw [if_neg hc] at h
    exact p_X12_areUnlike_4 x1 x2 x3 I J h hC
theorem p_X12_areUnlike_2 {L : Nat} {xs : Nat → Int32} {d : Nat} {Q : xO → Prop} (x1 : Int32) (x2 : Int32) (x3 : Int32) (I : xI) (J : xJ) {t : Int32 × xI × xJ} (h : f_X12_areUnlike_2 x1 x2 x3 I J = some t) (hC : (c_X12_areUnlike Q) t) : Rn L xs (d + 2) 224 9 [some (.ref 61), some (.int x1), some (.int x2), some (.int x3)] [] 94 (I, J, xrf) Q := by
  unfold f_X12_areUnlike_2 at h
  refine Rn.go 3 (j' := 224) (pc' := 12) (ls' := [some (.ref 61), some (.int x1), some (.int x2), some (.int x3)]) (st' := [.int x3, .int x2, .ref 61]) (n' := 94) (M' := (I, J, xrf)) (fun f => rfl) ?_
  obtain ⟨o, ho, h⟩ := Option.bind_eq_some_iff.mp h
  refine Rn.call (d1 := d + 1) (j1 := 211) (ls1 := [some (.ref 61), some (.int x2), some (.int x3)]) (rest := []) (fun f => rfl) ?_
  refine p_X12_answer (d := d + 0) x2 x3 I J (t := o) ho ?_
  exact p_X12_areUnlike_3 x1 x2 x3 o.1 o.2.1 o.2.2 h hC
theorem p_X12_areUnlike_1 {L : Nat} {xs : Nat → Int32} {d : Nat} {Q : xO → Prop} (x1 : Int32) (x2 : Int32) (x3 : Int32) (s0 : Int32) (I : xI) (J : xJ) {t : Int32 × xI × xJ} (h : f_X12_areUnlike_1 x1 x2 x3 s0 I J = some t) (hC : (c_X12_areUnlike Q) t) : Rn L xs (d + 2) 224 6 [some (.ref 61), some (.int x1), some (.int x2), some (.int x3)] [.int s0] 94 (I, J, xrf) Q := by
  unfold f_X12_areUnlike_1 at h
  refine Rn.fi 1 (c := s0 < 0) (p1 := 37) (l1 := [some (.ref 61), some (.int x1), some (.int x2), some (.int x3)]) (s1 := []) (n1 := 94) (M1 := (I, J, xrf)) (p2 := 9) (l2 := [some (.ref 61), some (.int x1), some (.int x2), some (.int x3)]) (s2 := []) (n2 := 94) (M2 := (I, J, xrf)) (fun f => rfl) (fun hc => ?_) (fun hc => ?_)
  · rw [if_pos hc] at h
    exact p_X12_areUnlike_8 x1 x2 x3 I J h hC
  · rw [if_neg hc] at h
    exact p_X12_areUnlike_2 x1 x2 x3 I J h hC
theorem p_X12_areUnlike_0 {L : Nat} {xs : Nat → Int32} {d : Nat} {Q : xO → Prop} (x1 : Int32) (x2 : Int32) (x3 : Int32) (I : xI) (J : xJ) {t : Int32 × xI × xJ} (h : f_X12_areUnlike_0 x1 x2 x3 I J = some t) (hC : (c_X12_areUnlike Q) t) : Rn L xs (d + 2) 224 0 [some (.ref 61), some (.int x1), some (.int x2), some (.int x3)] [] 94 (I, J, xrf) Q := by
  unfold f_X12_areUnlike_0 at h
  refine Rn.go 3 (j' := 224) (pc' := 3) (ls' := [some (.ref 61), some (.int x1), some (.int x2), some (.int x3)]) (st' := [.int x3, .int x1, .ref 61]) (n' := 94) (M' := (I, J, xrf)) (fun f => rfl) ?_
  obtain ⟨o, ho, h⟩ := Option.bind_eq_some_iff.mp h
  refine Rn.call (d1 := d + 1) (j1 := 211) (ls1 := [some (.ref 61), some (.int x1), some (.int x3)]) (rest := []) (fun f => rfl) ?_
  refine p_X12_answer (d := d + 0) x1 x3 I J (t := o) ho ?_
  exact p_X12_areUnlike_1 x1 x2 x3 o.1 o.2.1 o.2.2 h hC
theorem p_X12_areUnlike {L : Nat} {xs : Nat → Int32} {d : Nat} {Q : xO → Prop} (x1 : Int32) (x2 : Int32) (x3 : Int32) (I : xI) (J : xJ) {t : Int32 × xI × xJ} (h : f_X12_areUnlike x1 x2 x3 I J = some t) (hC : Q ((some (.int t.1)), 94, (t.2.1, t.2.2, xrf))) : Rn L xs (d + 2) 224 0 [some (.ref 61), some (.int x1), some (.int x2), some (.int x3)] [] 94 (I, J, xrf) Q := p_X12_areUnlike_0 x1 x2 x3 I J h hC
/-! X12_finds -/
def c_X12_finds (Q : xO → Prop) (t : Unit × xI × xJ) : Prop := Q (none, 94, (t.2.1, t.2.2, xrf))
def c_X12_finds_16 (L : Nat) (xs : Nat → Int32) (d : Nat) (Q : xO → Prop) (t : (Int32 × Int32 × (Option Value) × (Option Value) × (Option Value) × xI × xJ) ⊕ (Unit × xI × xJ)) : Prop := match t with
  | .inl s => Rn L xs (d + 3) 225 96 [some (.ref 61), some (.int s.1), some (.int s.2.1), s.2.2.1, s.2.2.2.1, s.2.2.2.2.1] [] 94 (s.2.2.2.2.2.1, s.2.2.2.2.2.2, xrf) Q
  | .inr t => (c_X12_finds Q) t
def c_X12_finds_18 (L : Nat) (xs : Nat → Int32) (d : Nat) (Q : xO → Prop) (t : (Int32 × Int32 × Int32 × (Option Value) × (Option Value) × xI × xJ) ⊕ ((Int32 × Int32 × (Option Value) × (Option Value) × (Option Value) × xI × xJ) ⊕ (Unit × xI × xJ))) : Prop := match t with
  | .inl s => Rn L xs (d + 3) 225 104 [some (.ref 61), some (.int s.1), some (.int s.2.1), some (.int s.2.2.1), s.2.2.2.1, s.2.2.2.2.1] [] 94 (s.2.2.2.2.2.1, s.2.2.2.2.2.2, xrf) Q
  | .inr t => (c_X12_finds_16 L xs d Q) t
def c_X12_finds_20 (L : Nat) (xs : Nat → Int32) (d : Nat) (Q : xO → Prop) (t : (Int32 × Int32 × Int32 × Int32 × (Option Value) × xI × xJ) ⊕ ((Int32 × Int32 × Int32 × (Option Value) × (Option Value) × xI × xJ) ⊕ ((Int32 × Int32 × (Option Value) × (Option Value) × (Option Value) × xI × xJ) ⊕ (Unit × xI × xJ)))) : Prop := match t with
  | .inl s => Rn L xs (d + 3) 225 115 [some (.ref 61), some (.int s.1), some (.int s.2.1), some (.int s.2.2.1), some (.int s.2.2.2.1), s.2.2.2.2.1] [] 94 (s.2.2.2.2.2.1, s.2.2.2.2.2.2, xrf) Q
  | .inr t => (c_X12_finds_18 L xs d Q) t
def c_X12_finds_24 (L : Nat) (xs : Nat → Int32) (d : Nat) (Q : xO → Prop) (t : (Int32 × Int32 × Int32 × Int32 × Int32 × xI × xJ) ⊕ ((Int32 × Int32 × Int32 × Int32 × (Option Value) × xI × xJ) ⊕ ((Int32 × Int32 × Int32 × (Option Value) × (Option Value) × xI × xJ) ⊕ ((Int32 × Int32 × (Option Value) × (Option Value) × (Option Value) × xI × xJ) ⊕ (Unit × xI × xJ))))) : Prop := match t with
  | .inl s => Rn L xs (d + 3) 225 145 [some (.ref 61), some (.int s.1), some (.int s.2.1), some (.int s.2.2.1), some (.int s.2.2.2.1), some (.int s.2.2.2.2.1)] [] 94 (s.2.2.2.2.2.1, s.2.2.2.2.2.2, xrf) Q
  | .inr t => (c_X12_finds_20 L xs d Q) t
def c_X12_finds_4 (L : Nat) (xs : Nat → Int32) (d : Nat) (Q : xO → Prop) (t : (Int32 × (Option Value) × (Option Value) × xI × xJ) ⊕ (Unit × xI × xJ)) : Prop := match t with
  | .inl s => Rn L xs (d + 3) 225 24 [some (.ref 61), some (.int s.1), s.2.1, s.2.2.1, none, none] [] 94 (s.2.2.2.1, s.2.2.2.2, xrf) Q
  | .inr t => (c_X12_finds Q) t
def c_X12_finds_6 (L : Nat) (xs : Nat → Int32) (d : Nat) (Q : xO → Prop) (t : (Int32 × Int32 × (Option Value) × xI × xJ) ⊕ ((Int32 × (Option Value) × (Option Value) × xI × xJ) ⊕ (Unit × xI × xJ))) : Prop := match t with
  | .inl s => Rn L xs (d + 3) 225 34 [some (.ref 61), some (.int s.1), some (.int s.2.1), s.2.2.1, none, none] [] 94 (s.2.2.2.1, s.2.2.2.2, xrf) Q
  | .inr t => (c_X12_finds_4 L xs d Q) t
def c_X12_finds_8 (L : Nat) (xs : Nat → Int32) (d : Nat) (Q : xO → Prop) (t : (Int32 × Int32 × Int32 × xI × xJ) ⊕ ((Int32 × Int32 × (Option Value) × xI × xJ) ⊕ ((Int32 × (Option Value) × (Option Value) × xI × xJ) ⊕ (Unit × xI × xJ)))) : Prop := match t with
  | .inl s => Rn L xs (d + 3) 225 44 [some (.ref 61), some (.int s.1), some (.int s.2.1), some (.int s.2.2.1), none, none] [] 94 (s.2.2.2.1, s.2.2.2.2, xrf) Q
  | .inr t => (c_X12_finds_6 L xs d Q) t
def c_X12_finds_1 (L : Nat) (xs : Nat → Int32) (d : Nat) (Q : xO → Prop) (t : (Int32 × xI × xJ) ⊕ (Unit × xI × xJ)) : Prop := match t with
  | .inl s => Rn L xs (d + 3) 225 2 [some (.ref 61), some (.int s.1), none, none, none, none] [] 94 (s.2.1, s.2.2, xrf) Q
  | .inr t => (c_X12_finds Q) t
def f_X12_finds_38 (x1 : Int32) (x2 : Int32) (z3 : Option Value) (z4 : Option Value) (z5 : Option Value) (I : xI) (J : xJ) : Option (Unit × xI × xJ) := some ((), I, J)
def f_X12_finds_37 (x1 : Int32) (x2 : Int32) (x3 : Int32) (z4 : Option Value) (z5 : Option Value) (I : xI) (J : xJ) : Option ((Int32 × Int32 × (Option Value) × (Option Value) × (Option Value) × xI × xJ) ⊕ (Unit × xI × xJ)) := some (.inl (x1, ((x2 + 1)), (some (.int x3)), z4, z5, I, J))
def f_X12_finds_36 (x1 : Int32) (x2 : Int32) (x3 : Int32) (x4 : Int32) (z5 : Option Value) (I : xI) (J : xJ) : Option ((Int32 × Int32 × Int32 × (Option Value) × (Option Value) × xI × xJ) ⊕ ((Int32 × Int32 × (Option Value) × (Option Value) × (Option Value) × xI × xJ) ⊕ (Unit × xI × xJ))) := some (.inl (x1, x2, ((x3 + 1)), (some (.int x4)), z5, I, J))
def f_X12_finds_35 (x1 : Int32) (x2 : Int32) (x3 : Int32) (x4 : Int32) (z5 : Option Value) (I : xI) (J : xJ) : Option ((Int32 × Int32 × Int32 × Int32 × (Option Value) × xI × xJ) ⊕ ((Int32 × Int32 × Int32 × (Option Value) × (Option Value) × xI × xJ) ⊕ ((Int32 × Int32 × (Option Value) × (Option Value) × (Option Value) × xI × xJ) ⊕ (Unit × xI × xJ)))) := some (.inl (x1, x2, x3, ((x4 + 1)), z5, I, J))
def f_X12_finds_34 (x1 : Int32) (x2 : Int32) (x3 : Int32) (x4 : Int32) (x5 : Int32) (I : xI) (J : xJ) : Option ((Int32 × Int32 × Int32 × Int32 × Int32 × xI × xJ) ⊕ ((Int32 × Int32 × Int32 × Int32 × (Option Value) × xI × xJ) ⊕ ((Int32 × Int32 × Int32 × (Option Value) × (Option Value) × xI × xJ) ⊕ ((Int32 × Int32 × (Option Value) × (Option Value) × (Option Value) × xI × xJ) ⊕ (Unit × xI × xJ))))) := some (.inl (x1, x2, x3, x4, ((x5 + 1)), I, J))
def f_X12_finds_33 (x1 : Int32) (x2 : Int32) (x3 : Int32) (x4 : Int32) (x5 : Int32) (I : xI) (J : xJ) : Option ((Int32 × Int32 × Int32 × Int32 × Int32 × xI × xJ) ⊕ ((Int32 × Int32 × Int32 × Int32 × (Option Value) × xI × xJ) ⊕ ((Int32 × Int32 × Int32 × (Option Value) × (Option Value) × xI × xJ) ⊕ ((Int32 × Int32 × (Option Value) × (Option Value) × (Option Value) × xI × xJ) ⊕ (Unit × xI × xJ))))) := if ((6 * x3) + x4) < 0 ∨ 36 ≤ (((6 * x3) + x4)).toNatClampNeg then none else f_X12_finds_34 1 x2 x3 x4 x5 ((xup I 76 (((6 * x3) + x4)).toNatClampNeg x2)) J
def f_X12_finds_32 (x1 : Int32) (x2 : Int32) (x3 : Int32) (x4 : Int32) (x5 : Int32) (I : xI) (J : xJ) : Option ((Int32 × Int32 × Int32 × Int32 × Int32 × xI × xJ) ⊕ ((Int32 × Int32 × Int32 × Int32 × (Option Value) × xI × xJ) ⊕ ((Int32 × Int32 × Int32 × (Option Value) × (Option Value) × xI × xJ) ⊕ ((Int32 × Int32 × (Option Value) × (Option Value) × (Option Value) × xI × xJ) ⊕ (Unit × xI × xJ))))) := f_X12_finds_34 x1 x2 x3 x4 x5 I J
def f_X12_finds_31 (x1 : Int32) (x2 : Int32) (x3 : Int32) (x4 : Int32) (x5 : Int32) (s1 : Int32) (s2 : Int32) (I : xI) (J : xJ) : Option ((Int32 × Int32 × Int32 × Int32 × Int32 × xI × xJ) ⊕ ((Int32 × Int32 × Int32 × Int32 × (Option Value) × xI × xJ) ⊕ ((Int32 × Int32 × Int32 × (Option Value) × (Option Value) × xI × xJ) ⊕ ((Int32 × Int32 × (Option Value) × (Option Value) × (Option Value) × xI × xJ) ⊕ (Unit × xI × xJ))))) := if (s1 + s2) < 0 ∨ 36 ≤ ((s1 + s2)).toNatClampNeg then none else if (I 76 ((s1 + s2)).toNatClampNeg) = (x2 - 1) then f_X12_finds_33 x1 x2 x3 x4 x5 I J else f_X12_finds_32 x1 x2 x3 x4 x5 I J
def f_X12_finds_30 (x1 : Int32) (x2 : Int32) (x3 : Int32) (x4 : Int32) (x5 : Int32) (s1 : Int32) (s2 : Int32) (I : xI) (J : xJ) : Option ((Int32 × Int32 × Int32 × Int32 × Int32 × xI × xJ) ⊕ ((Int32 × Int32 × Int32 × Int32 × (Option Value) × xI × xJ) ⊕ ((Int32 × Int32 × Int32 × (Option Value) × (Option Value) × xI × xJ) ⊕ ((Int32 × Int32 × (Option Value) × (Option Value) × (Option Value) × xI × xJ) ⊕ (Unit × xI × xJ))))) := (f_X12_to x4 x5 I J).bind fun o => f_X12_finds_31 x1 x2 x3 x4 x5 ((s1 * s2)) o.1 o.2.1 o.2.2
def f_X12_finds_29 (x1 : Int32) (x2 : Int32) (x3 : Int32) (x4 : Int32) (x5 : Int32) (I : xI) (J : xJ) : Option ((Int32 × Int32 × Int32 × Int32 × Int32 × xI × xJ) ⊕ ((Int32 × Int32 × Int32 × Int32 × (Option Value) × xI × xJ) ⊕ ((Int32 × Int32 × Int32 × (Option Value) × (Option Value) × xI × xJ) ⊕ ((Int32 × Int32 × (Option Value) × (Option Value) × (Option Value) × xI × xJ) ⊕ (Unit × xI × xJ))))) := (f_X12_to x3 x5 I J).bind fun o => f_X12_finds_30 x1 x2 x3 x4 x5 6 o.1 o.2.1 o.2.2
def f_X12_finds_28 (x1 : Int32) (x2 : Int32) (x3 : Int32) (x4 : Int32) (x5 : Int32) (s0 : Int32) (I : xI) (J : xJ) : Option ((Int32 × Int32 × Int32 × Int32 × Int32 × xI × xJ) ⊕ ((Int32 × Int32 × Int32 × Int32 × (Option Value) × xI × xJ) ⊕ ((Int32 × Int32 × Int32 × (Option Value) × (Option Value) × xI × xJ) ⊕ ((Int32 × Int32 × (Option Value) × (Option Value) × (Option Value) × xI × xJ) ⊕ (Unit × xI × xJ))))) := if s0 < 0 then f_X12_finds_34 x1 x2 x3 x4 x5 I J else f_X12_finds_29 x1 x2 x3 x4 x5 I J
def f_X12_finds_27 (x1 : Int32) (x2 : Int32) (x3 : Int32) (x4 : Int32) (x5 : Int32) (I : xI) (J : xJ) : Option ((Int32 × Int32 × Int32 × Int32 × Int32 × xI × xJ) ⊕ ((Int32 × Int32 × Int32 × Int32 × (Option Value) × xI × xJ) ⊕ ((Int32 × Int32 × Int32 × (Option Value) × (Option Value) × xI × xJ) ⊕ ((Int32 × Int32 × (Option Value) × (Option Value) × (Option Value) × xI × xJ) ⊕ (Unit × xI × xJ))))) := (f_X12_to x4 x5 I J).bind fun o => f_X12_finds_28 x1 x2 x3 x4 x5 o.1 o.2.1 o.2.2
def f_X12_finds_26 (x1 : Int32) (x2 : Int32) (x3 : Int32) (x4 : Int32) (x5 : Int32) (s0 : Int32) (I : xI) (J : xJ) : Option ((Int32 × Int32 × Int32 × Int32 × Int32 × xI × xJ) ⊕ ((Int32 × Int32 × Int32 × Int32 × (Option Value) × xI × xJ) ⊕ ((Int32 × Int32 × Int32 × (Option Value) × (Option Value) × xI × xJ) ⊕ ((Int32 × Int32 × (Option Value) × (Option Value) × (Option Value) × xI × xJ) ⊕ (Unit × xI × xJ))))) := if s0 < 0 then f_X12_finds_34 x1 x2 x3 x4 x5 I J else f_X12_finds_27 x1 x2 x3 x4 x5 I J
def f_X12_finds_25 (x1 : Int32) (x2 : Int32) (x3 : Int32) (x4 : Int32) (x5 : Int32) (I : xI) (J : xJ) : Option ((Int32 × Int32 × Int32 × Int32 × Int32 × xI × xJ) ⊕ ((Int32 × Int32 × Int32 × Int32 × (Option Value) × xI × xJ) ⊕ ((Int32 × Int32 × Int32 × (Option Value) × (Option Value) × xI × xJ) ⊕ ((Int32 × Int32 × (Option Value) × (Option Value) × (Option Value) × xI × xJ) ⊕ (Unit × xI × xJ))))) := (f_X12_to x3 x5 I J).bind fun o => f_X12_finds_26 x1 x2 x3 x4 x5 o.1 o.2.1 o.2.2
def b_X12_finds_24 (x1 : Int32) (x2 : Int32) (x3 : Int32) (x4 : Int32) (x5 : Int32) (I : xI) (J : xJ) : Option ((Int32 × Int32 × Int32 × Int32 × Int32 × xI × xJ) ⊕ ((Int32 × Int32 × Int32 × Int32 × (Option Value) × xI × xJ) ⊕ ((Int32 × Int32 × Int32 × (Option Value) × (Option Value) × xI × xJ) ⊕ ((Int32 × Int32 × (Option Value) × (Option Value) × (Option Value) × xI × xJ) ⊕ (Unit × xI × xJ))))) := if (I 61 18) ≤ x5 then ((f_X12_finds_35 x1 x2 x3 x4 (some (.int x5)) I J)).map .inr else f_X12_finds_25 x1 x2 x3 x4 x5 I J
def f_X12_finds_24 (x1 : Int32) (x2 : Int32) (x3 : Int32) (x4 : Int32) (x5 : Int32) (I : xI) (J : xJ) : Option ((Int32 × Int32 × Int32 × Int32 × (Option Value) × xI × xJ) ⊕ ((Int32 × Int32 × Int32 × (Option Value) × (Option Value) × xI × xJ) ⊕ ((Int32 × Int32 × (Option Value) × (Option Value) × (Option Value) × xI × xJ) ⊕ (Unit × xI × xJ)))) := xloop (fun s : Int32 × Int32 × Int32 × Int32 × Int32 × xI × xJ => b_X12_finds_24 s.1 s.2.1 s.2.2.1 s.2.2.2.1 s.2.2.2.2.1 s.2.2.2.2.2.1 s.2.2.2.2.2.2) 5000 (x1, x2, x3, x4, x5, I, J)
def f_X12_finds_23 (x1 : Int32) (x2 : Int32) (x3 : Int32) (x4 : Int32) (z5 : Option Value) (I : xI) (J : xJ) : Option ((Int32 × Int32 × Int32 × Int32 × (Option Value) × xI × xJ) ⊕ ((Int32 × Int32 × Int32 × (Option Value) × (Option Value) × xI × xJ) ⊕ ((Int32 × Int32 × (Option Value) × (Option Value) × (Option Value) × xI × xJ) ⊕ (Unit × xI × xJ)))) := f_X12_finds_24 x1 x2 x3 x4 0 I J
def f_X12_finds_22 (x1 : Int32) (x2 : Int32) (x3 : Int32) (x4 : Int32) (z5 : Option Value) (I : xI) (J : xJ) : Option ((Int32 × Int32 × Int32 × Int32 × (Option Value) × xI × xJ) ⊕ ((Int32 × Int32 × Int32 × (Option Value) × (Option Value) × xI × xJ) ⊕ ((Int32 × Int32 × (Option Value) × (Option Value) × (Option Value) × xI × xJ) ⊕ (Unit × xI × xJ)))) := f_X12_finds_35 x1 x2 x3 x4 z5 I J
def f_X12_finds_21 (x1 : Int32) (x2 : Int32) (x3 : Int32) (x4 : Int32) (z5 : Option Value) (I : xI) (J : xJ) : Option ((Int32 × Int32 × Int32 × Int32 × (Option Value) × xI × xJ) ⊕ ((Int32 × Int32 × Int32 × (Option Value) × (Option Value) × xI × xJ) ⊕ ((Int32 × Int32 × (Option Value) × (Option Value) × (Option Value) × xI × xJ) ⊕ (Unit × xI × xJ)))) := if ((6 * x3) + x4) < 0 ∨ 36 ≤ (((6 * x3) + x4)).toNatClampNeg then none else if (I 76 (((6 * x3) + x4)).toNatClampNeg) < 0 then f_X12_finds_23 x1 x2 x3 x4 z5 I J else f_X12_finds_22 x1 x2 x3 x4 z5 I J
def b_X12_finds_20 (x1 : Int32) (x2 : Int32) (x3 : Int32) (x4 : Int32) (z5 : Option Value) (I : xI) (J : xJ) : Option ((Int32 × Int32 × Int32 × Int32 × (Option Value) × xI × xJ) ⊕ ((Int32 × Int32 × Int32 × (Option Value) × (Option Value) × xI × xJ) ⊕ ((Int32 × Int32 × (Option Value) × (Option Value) × (Option Value) × xI × xJ) ⊕ (Unit × xI × xJ)))) := if (I 61 17) ≤ x4 then ((f_X12_finds_36 x1 x2 x3 x4 z5 I J)).map .inr else f_X12_finds_21 x1 x2 x3 x4 z5 I J
def f_X12_finds_20 (x1 : Int32) (x2 : Int32) (x3 : Int32) (x4 : Int32) (z5 : Option Value) (I : xI) (J : xJ) : Option ((Int32 × Int32 × Int32 × (Option Value) × (Option Value) × xI × xJ) ⊕ ((Int32 × Int32 × (Option Value) × (Option Value) × (Option Value) × xI × xJ) ⊕ (Unit × xI × xJ))) := xloop (fun s : Int32 × Int32 × Int32 × Int32 × (Option Value) × xI × xJ => b_X12_finds_20 s.1 s.2.1 s.2.2.1 s.2.2.2.1 s.2.2.2.2.1 s.2.2.2.2.2.1 s.2.2.2.2.2.2) 5000 (x1, x2, x3, x4, z5, I, J)
def f_X12_finds_19 (x1 : Int32) (x2 : Int32) (x3 : Int32) (z4 : Option Value) (z5 : Option Value) (I : xI) (J : xJ) : Option ((Int32 × Int32 × Int32 × (Option Value) × (Option Value) × xI × xJ) ⊕ ((Int32 × Int32 × (Option Value) × (Option Value) × (Option Value) × xI × xJ) ⊕ (Unit × xI × xJ))) := f_X12_finds_20 x1 x2 x3 0 z5 I J
def b_X12_finds_18 (x1 : Int32) (x2 : Int32) (x3 : Int32) (z4 : Option Value) (z5 : Option Value) (I : xI) (J : xJ) : Option ((Int32 × Int32 × Int32 × (Option Value) × (Option Value) × xI × xJ) ⊕ ((Int32 × Int32 × (Option Value) × (Option Value) × (Option Value) × xI × xJ) ⊕ (Unit × xI × xJ))) := if (I 61 17) ≤ x3 then ((f_X12_finds_37 x1 x2 x3 z4 z5 I J)).map .inr else f_X12_finds_19 x1 x2 x3 z4 z5 I J
def f_X12_finds_18 (x1 : Int32) (x2 : Int32) (x3 : Int32) (z4 : Option Value) (z5 : Option Value) (I : xI) (J : xJ) : Option ((Int32 × Int32 × (Option Value) × (Option Value) × (Option Value) × xI × xJ) ⊕ (Unit × xI × xJ)) := xloop (fun s : Int32 × Int32 × Int32 × (Option Value) × (Option Value) × xI × xJ => b_X12_finds_18 s.1 s.2.1 s.2.2.1 s.2.2.2.1 s.2.2.2.2.1 s.2.2.2.2.2.1 s.2.2.2.2.2.2) 5000 (x1, x2, x3, z4, z5, I, J)
def f_X12_finds_17 (x1 : Int32) (x2 : Int32) (z3 : Option Value) (z4 : Option Value) (z5 : Option Value) (I : xI) (J : xJ) : Option ((Int32 × Int32 × (Option Value) × (Option Value) × (Option Value) × xI × xJ) ⊕ (Unit × xI × xJ)) := f_X12_finds_18 0 x2 0 z4 z5 I J
def b_X12_finds_16 (x1 : Int32) (x2 : Int32) (z3 : Option Value) (z4 : Option Value) (z5 : Option Value) (I : xI) (J : xJ) : Option ((Int32 × Int32 × (Option Value) × (Option Value) × (Option Value) × xI × xJ) ⊕ (Unit × xI × xJ)) := if x1 = 0 then ((f_X12_finds_38 x1 x2 z3 z4 z5 I J)).map .inr else f_X12_finds_17 x1 x2 z3 z4 z5 I J
def f_X12_finds_16 (x1 : Int32) (x2 : Int32) (z3 : Option Value) (z4 : Option Value) (z5 : Option Value) (I : xI) (J : xJ) : Option (Unit × xI × xJ) := xloop (fun s : Int32 × Int32 × (Option Value) × (Option Value) × (Option Value) × xI × xJ => b_X12_finds_16 s.1 s.2.1 s.2.2.1 s.2.2.2.1 s.2.2.2.2.1 s.2.2.2.2.2.1 s.2.2.2.2.2.2) 5000 (x1, x2, z3, z4, z5, I, J)
def f_X12_finds_15 (x1 : Int32) (z2 : Option Value) (z3 : Option Value) (I : xI) (J : xJ) : Option (Unit × xI × xJ) := f_X12_finds_16 1 1 z3 none none I J
def f_X12_finds_14 (x1 : Int32) (x2 : Int32) (z3 : Option Value) (I : xI) (J : xJ) : Option ((Int32 × (Option Value) × (Option Value) × xI × xJ) ⊕ (Unit × xI × xJ)) := some (.inl (((x1 + 1)), (some (.int x2)), z3, I, J))
def f_X12_finds_13 (x1 : Int32) (x2 : Int32) (x3 : Int32) (I : xI) (J : xJ) : Option ((Int32 × Int32 × (Option Value) × xI × xJ) ⊕ ((Int32 × (Option Value) × (Option Value) × xI × xJ) ⊕ (Unit × xI × xJ))) := some (.inl (x1, ((x2 + 1)), (some (.int x3)), I, J))
def f_X12_finds_12 (x1 : Int32) (x2 : Int32) (x3 : Int32) (I : xI) (J : xJ) : Option ((Int32 × Int32 × Int32 × xI × xJ) ⊕ ((Int32 × Int32 × (Option Value) × xI × xJ) ⊕ ((Int32 × (Option Value) × (Option Value) × xI × xJ) ⊕ (Unit × xI × xJ)))) := some (.inl (x1, x2, ((x3 + 1)), I, J))
def f_X12_finds_11 (x1 : Int32) (x2 : Int32) (x3 : Int32) (I : xI) (J : xJ) : Option ((Int32 × Int32 × Int32 × xI × xJ) ⊕ ((Int32 × Int32 × (Option Value) × xI × xJ) ⊕ ((Int32 × (Option Value) × (Option Value) × xI × xJ) ⊕ (Unit × xI × xJ)))) := if ((6 * x1) + x2) < 0 ∨ 36 ≤ (((6 * x1) + x2)).toNatClampNeg then none else f_X12_finds_12 x1 x2 x3 ((xup I 76 (((6 * x1) + x2)).toNatClampNeg 0)) J
def f_X12_finds_10 (x1 : Int32) (x2 : Int32) (x3 : Int32) (s0 : Int32) (I : xI) (J : xJ) : Option ((Int32 × Int32 × Int32 × xI × xJ) ⊕ ((Int32 × Int32 × (Option Value) × xI × xJ) ⊕ ((Int32 × (Option Value) × (Option Value) × xI × xJ) ⊕ (Unit × xI × xJ)))) := if s0 = 0 then f_X12_finds_12 x1 x2 x3 I J else f_X12_finds_11 x1 x2 x3 I J
def f_X12_finds_9 (x1 : Int32) (x2 : Int32) (x3 : Int32) (I : xI) (J : xJ) : Option ((Int32 × Int32 × Int32 × xI × xJ) ⊕ ((Int32 × Int32 × (Option Value) × xI × xJ) ⊕ ((Int32 × (Option Value) × (Option Value) × xI × xJ) ⊕ (Unit × xI × xJ)))) := (f_X12_areUnlike x1 x2 x3 I J).bind fun o => f_X12_finds_10 x1 x2 x3 o.1 o.2.1 o.2.2
def b_X12_finds_8 (x1 : Int32) (x2 : Int32) (x3 : Int32) (I : xI) (J : xJ) : Option ((Int32 × Int32 × Int32 × xI × xJ) ⊕ ((Int32 × Int32 × (Option Value) × xI × xJ) ⊕ ((Int32 × (Option Value) × (Option Value) × xI × xJ) ⊕ (Unit × xI × xJ)))) := if (I 61 18) ≤ x3 then ((f_X12_finds_13 x1 x2 x3 I J)).map .inr else f_X12_finds_9 x1 x2 x3 I J
def f_X12_finds_8 (x1 : Int32) (x2 : Int32) (x3 : Int32) (I : xI) (J : xJ) : Option ((Int32 × Int32 × (Option Value) × xI × xJ) ⊕ ((Int32 × (Option Value) × (Option Value) × xI × xJ) ⊕ (Unit × xI × xJ))) := xloop (fun s : Int32 × Int32 × Int32 × xI × xJ => b_X12_finds_8 s.1 s.2.1 s.2.2.1 s.2.2.2.1 s.2.2.2.2) 5000 (x1, x2, x3, I, J)
def f_X12_finds_7 (x1 : Int32) (x2 : Int32) (z3 : Option Value) (I : xI) (J : xJ) : Option ((Int32 × Int32 × (Option Value) × xI × xJ) ⊕ ((Int32 × (Option Value) × (Option Value) × xI × xJ) ⊕ (Unit × xI × xJ))) := f_X12_finds_8 x1 x2 0 I J
def b_X12_finds_6 (x1 : Int32) (x2 : Int32) (z3 : Option Value) (I : xI) (J : xJ) : Option ((Int32 × Int32 × (Option Value) × xI × xJ) ⊕ ((Int32 × (Option Value) × (Option Value) × xI × xJ) ⊕ (Unit × xI × xJ))) := if (I 61 17) ≤ x2 then ((f_X12_finds_14 x1 x2 z3 I J)).map .inr else f_X12_finds_7 x1 x2 z3 I J
def f_X12_finds_6 (x1 : Int32) (x2 : Int32) (z3 : Option Value) (I : xI) (J : xJ) : Option ((Int32 × (Option Value) × (Option Value) × xI × xJ) ⊕ (Unit × xI × xJ)) := xloop (fun s : Int32 × Int32 × (Option Value) × xI × xJ => b_X12_finds_6 s.1 s.2.1 s.2.2.1 s.2.2.2.1 s.2.2.2.2) 5000 (x1, x2, z3, I, J)
def f_X12_finds_5 (x1 : Int32) (z2 : Option Value) (z3 : Option Value) (I : xI) (J : xJ) : Option ((Int32 × (Option Value) × (Option Value) × xI × xJ) ⊕ (Unit × xI × xJ)) := f_X12_finds_6 x1 0 z3 I J
def b_X12_finds_4 (x1 : Int32) (z2 : Option Value) (z3 : Option Value) (I : xI) (J : xJ) : Option ((Int32 × (Option Value) × (Option Value) × xI × xJ) ⊕ (Unit × xI × xJ)) := if (I 61 17) ≤ x1 then ((f_X12_finds_15 x1 z2 z3 I J)).map .inr else f_X12_finds_5 x1 z2 z3 I J
def f_X12_finds_4 (x1 : Int32) (z2 : Option Value) (z3 : Option Value) (I : xI) (J : xJ) : Option (Unit × xI × xJ) := xloop (fun s : Int32 × (Option Value) × (Option Value) × xI × xJ => b_X12_finds_4 s.1 s.2.1 s.2.2.1 s.2.2.2.1 s.2.2.2.2) 5000 (x1, z2, z3, I, J)
def f_X12_finds_3 (x1 : Int32) (I : xI) (J : xJ) : Option (Unit × xI × xJ) := f_X12_finds_4 0 none none I J
def f_X12_finds_2 (x1 : Int32) (I : xI) (J : xJ) : Option ((Int32 × xI × xJ) ⊕ (Unit × xI × xJ)) := if x1 < 0 ∨ 36 ≤ x1.toNatClampNeg then none else some (.inl (((x1 + 1)), ((xup I 76 x1.toNatClampNeg ((-2)))), J))
def b_X12_finds_1 (x1 : Int32) (I : xI) (J : xJ) : Option ((Int32 × xI × xJ) ⊕ (Unit × xI × xJ)) := if 36 ≤ x1 then ((f_X12_finds_3 x1 I J)).map .inr else f_X12_finds_2 x1 I J
def f_X12_finds_1 (x1 : Int32) (I : xI) (J : xJ) : Option (Unit × xI × xJ) := xloop (fun s : Int32 × xI × xJ => b_X12_finds_1 s.1 s.2.1 s.2.2) 5000 (x1, I, J)
def f_X12_finds_0 (I : xI) (J : xJ) : Option (Unit × xI × xJ) := f_X12_finds_1 0 I J
def f_X12_finds (I : xI) (J : xJ) : Option (Unit × xI × xJ) := f_X12_finds_0 I J
theorem p_X12_finds_38 {L : Nat} {xs : Nat → Int32} {d : Nat} {Q : xO → Prop} (x1 : Int32) (x2 : Int32) (z3 : Option Value) (z4 : Option Value) (z5 : Option Value) (I : xI) (J : xJ) {t : Unit × xI × xJ} (h : f_X12_finds_38 x1 x2 z3 z4 z5 I J = some t) (hC : (c_X12_finds Q) t) : Rn L xs (d + 3) 225 247 [some (.ref 61), some (.int x1), some (.int x2), z3, z4, z5] [] 94 (I, J, xrf) Q := by
  unfold f_X12_finds_38 at h
  cases h
  exact Rn.ret 1 (o := (none, 94, (I, J, xrf))) (fun f => rfl) hC
theorem p_X12_finds_37 {L : Nat} {xs : Nat → Int32} {d : Nat} {Q : xO → Prop} (x1 : Int32) (x2 : Int32) (x3 : Int32) (z4 : Option Value) (z5 : Option Value) (I : xI) (J : xJ) {t : (Int32 × Int32 × (Option Value) × (Option Value) × (Option Value) × xI × xJ) ⊕ (Unit × xI × xJ)} (h : f_X12_finds_37 x1 x2 x3 z4 z5 I J = some t) (hC : (c_X12_finds_16 L xs d Q) t) : Rn L xs (d + 3) 225 241 [some (.ref 61), some (.int x1), some (.int x2), some (.int x3), z4, z5] [] 94 (I, J, xrf) Q := by
  unfold f_X12_finds_37 at h
  refine Rn.go 2 (j' := 225) (pc' := 96) (ls' := [some (.ref 61), some (.int x1), some (.int ((x2 + 1))), some (.int x3), z4, z5]) (st' := []) (n' := 94) (M' := (I, J, xrf)) (fun f => rfl) ?_
  cases h; exact hC
theorem p_X12_finds_36 {L : Nat} {xs : Nat → Int32} {d : Nat} {Q : xO → Prop} (x1 : Int32) (x2 : Int32) (x3 : Int32) (x4 : Int32) (z5 : Option Value) (I : xI) (J : xJ) {t : (Int32 × Int32 × Int32 × (Option Value) × (Option Value) × xI × xJ) ⊕ ((Int32 × Int32 × (Option Value) × (Option Value) × (Option Value) × xI × xJ) ⊕ (Unit × xI × xJ))} (h : f_X12_finds_36 x1 x2 x3 x4 z5 I J = some t) (hC : (c_X12_finds_18 L xs d Q) t) : Rn L xs (d + 3) 225 235 [some (.ref 61), some (.int x1), some (.int x2), some (.int x3), some (.int x4), z5] [] 94 (I, J, xrf) Q := by
  unfold f_X12_finds_36 at h
  refine Rn.go 2 (j' := 225) (pc' := 104) (ls' := [some (.ref 61), some (.int x1), some (.int x2), some (.int ((x3 + 1))), some (.int x4), z5]) (st' := []) (n' := 94) (M' := (I, J, xrf)) (fun f => rfl) ?_
  cases h; exact hC
theorem p_X12_finds_35 {L : Nat} {xs : Nat → Int32} {d : Nat} {Q : xO → Prop} (x1 : Int32) (x2 : Int32) (x3 : Int32) (x4 : Int32) (z5 : Option Value) (I : xI) (J : xJ) {t : (Int32 × Int32 × Int32 × Int32 × (Option Value) × xI × xJ) ⊕ ((Int32 × Int32 × Int32 × (Option Value) × (Option Value) × xI × xJ) ⊕ ((Int32 × Int32 × (Option Value) × (Option Value) × (Option Value) × xI × xJ) ⊕ (Unit × xI × xJ)))} (h : f_X12_finds_35 x1 x2 x3 x4 z5 I J = some t) (hC : (c_X12_finds_20 L xs d Q) t) : Rn L xs (d + 3) 225 229 [some (.ref 61), some (.int x1), some (.int x2), some (.int x3), some (.int x4), z5] [] 94 (I, J, xrf) Q := by
  unfold f_X12_finds_35 at h
  refine Rn.go 2 (j' := 225) (pc' := 115) (ls' := [some (.ref 61), some (.int x1), some (.int x2), some (.int x3), some (.int ((x4 + 1))), z5]) (st' := []) (n' := 94) (M' := (I, J, xrf)) (fun f => rfl) ?_
  cases h; exact hC
theorem p_X12_finds_34 {L : Nat} {xs : Nat → Int32} {d : Nat} {Q : xO → Prop} (x1 : Int32) (x2 : Int32) (x3 : Int32) (x4 : Int32) (x5 : Int32) (I : xI) (J : xJ) {t : (Int32 × Int32 × Int32 × Int32 × Int32 × xI × xJ) ⊕ ((Int32 × Int32 × Int32 × Int32 × (Option Value) × xI × xJ) ⊕ ((Int32 × Int32 × Int32 × (Option Value) × (Option Value) × xI × xJ) ⊕ ((Int32 × Int32 × (Option Value) × (Option Value) × (Option Value) × xI × xJ) ⊕ (Unit × xI × xJ))))} (h : f_X12_finds_34 x1 x2 x3 x4 x5 I J = some t) (hC : (c_X12_finds_24 L xs d Q) t) : Rn L xs (d + 3) 225 223 [some (.ref 61), some (.int x1), some (.int x2), some (.int x3), some (.int x4), some (.int x5)] [] 94 (I, J, xrf) Q := by
  unfold f_X12_finds_34 at h
  refine Rn.go 2 (j' := 225) (pc' := 145) (ls' := [some (.ref 61), some (.int x1), some (.int x2), some (.int x3), some (.int x4), some (.int ((x5 + 1)))]) (st' := []) (n' := 94) (M' := (I, J, xrf)) (fun f => rfl) ?_
  cases h; exact hC
theorem p_X12_finds_33 {L : Nat} {xs : Nat → Int32} {d : Nat} {Q : xO → Prop} (x1 : Int32) (x2 : Int32) (x3 : Int32) (x4 : Int32) (x5 : Int32) (I : xI) (J : xJ) {t : (Int32 × Int32 × Int32 × Int32 × Int32 × xI × xJ) ⊕ ((Int32 × Int32 × Int32 × Int32 × (Option Value) × xI × xJ) ⊕ ((Int32 × Int32 × Int32 × (Option Value) × (Option Value) × xI × xJ) ⊕ ((Int32 × Int32 × (Option Value) × (Option Value) × (Option Value) × xI × xJ) ⊕ (Unit × xI × xJ))))} (h : f_X12_finds_33 x1 x2 x3 x4 x5 I J = some t) (hC : (c_X12_finds_24 L xs d Q) t) : Rn L xs (d + 3) 225 208 [some (.ref 61), some (.int x1), some (.int x2), some (.int x3), some (.int x4), some (.int x5)] [] 94 (I, J, xrf) Q := by
  unfold f_X12_finds_33 at h
  obtain ⟨hc, h⟩ := xif h
  refine Rn.ok 9 (c := ((6 * x3) + x4) < 0 ∨ 36 ≤ (((6 * x3) + x4)).toNatClampNeg) (p1 := 221) (l1 := [some (.ref 61), some (.int x1), some (.int x2), some (.int x3), some (.int x4), some (.int x5)]) (s1 := []) (n1 := 94) (M1 := ((xup I 76 (((6 * x3) + x4)).toNatClampNeg x2), J, xrf)) (fun f => rfl) hc ?_
  refine Rn.go 2 (j' := 225) (pc' := 223) (ls' := [some (.ref 61), some (.int 1), some (.int x2), some (.int x3), some (.int x4), some (.int x5)]) (st' := []) (n' := 94) (M' := ((xup I 76 (((6 * x3) + x4)).toNatClampNeg x2), J, xrf)) (fun f => rfl) ?_
  exact p_X12_finds_34 1 x2 x3 x4 x5 ((xup I 76 (((6 * x3) + x4)).toNatClampNeg x2)) J h hC
theorem p_X12_finds_32 {L : Nat} {xs : Nat → Int32} {d : Nat} {Q : xO → Prop} (x1 : Int32) (x2 : Int32) (x3 : Int32) (x4 : Int32) (x5 : Int32) (I : xI) (J : xJ) {t : (Int32 × Int32 × Int32 × Int32 × Int32 × xI × xJ) ⊕ ((Int32 × Int32 × Int32 × Int32 × (Option Value) × xI × xJ) ⊕ ((Int32 × Int32 × Int32 × (Option Value) × (Option Value) × xI × xJ) ⊕ ((Int32 × Int32 × (Option Value) × (Option Value) × (Option Value) × xI × xJ) ⊕ (Unit × xI × xJ))))} (h : f_X12_finds_32 x1 x2 x3 x4 x5 I J = some t) (hC : (c_X12_finds_24 L xs d Q) t) : Rn L xs (d + 3) 225 205 [some (.ref 61), some (.int x1), some (.int x2), some (.int x3), some (.int x4), some (.int x5)] [] 94 (I, J, xrf) Q := by
  unfold f_X12_finds_32 at h
  refine Rn.go 1 (j' := 225) (pc' := 223) (ls' := [some (.ref 61), some (.int x1), some (.int x2), some (.int x3), some (.int x4), some (.int x5)]) (st' := []) (n' := 94) (M' := (I, J, xrf)) (fun f => rfl) ?_
  exact p_X12_finds_34 x1 x2 x3 x4 x5 I J h hC
theorem p_X12_finds_31 {L : Nat} {xs : Nat → Int32} {d : Nat} {Q : xO → Prop} (x1 : Int32) (x2 : Int32) (x3 : Int32) (x4 : Int32) (x5 : Int32) (s1 : Int32) (s2 : Int32) (I : xI) (J : xJ) {t : (Int32 × Int32 × Int32 × Int32 × Int32 × xI × xJ) ⊕ ((Int32 × Int32 × Int32 × Int32 × (Option Value) × xI × xJ) ⊕ ((Int32 × Int32 × Int32 × (Option Value) × (Option Value) × xI × xJ) ⊕ ((Int32 × Int32 × (Option Value) × (Option Value) × (Option Value) × xI × xJ) ⊕ (Unit × xI × xJ))))} (h : f_X12_finds_31 x1 x2 x3 x4 x5 s1 s2 I J = some t) (hC : (c_X12_finds_24 L xs d Q) t) : Rn L xs (d + 3) 225 197 [some (.ref 61), some (.int x1), some (.int x2), some (.int x3), some (.int x4), some (.int x5)] [.int s2, .int s1, .ref 76] 94 (I, J, xrf) Q := by
  unfold f_X12_finds_31 at h
  obtain ⟨hc, h⟩ := xif h
  refine Rn.ok 2 (c := (s1 + s2) < 0 ∨ 36 ≤ ((s1 + s2)).toNatClampNeg) (p1 := 199) (l1 := [some (.ref 61), some (.int x1), some (.int x2), some (.int x3), some (.int x4), some (.int x5)]) (s1 := [.int ((I 76 ((s1 + s2)).toNatClampNeg))]) (n1 := 94) (M1 := (I, J, xrf)) (fun f => rfl) hc ?_
  refine Rn.fi 4 (c := (I 76 ((s1 + s2)).toNatClampNeg) = (x2 - 1)) (p1 := 208) (l1 := [some (.ref 61), some (.int x1), some (.int x2), some (.int x3), some (.int x4), some (.int x5)]) (s1 := []) (n1 := 94) (M1 := (I, J, xrf)) (p2 := 205) (l2 := [some (.ref 61), some (.int x1), some (.int x2), some (.int x3), some (.int x4), some (.int x5)]) (s2 := []) (n2 := 94) (M2 := (I, J, xrf)) (fun f => rfl) (fun hc => ?_) (fun hc => ?_)
  · rw [if_pos hc] at h
    exact p_X12_finds_33 x1 x2 x3 x4 x5 I J h hC
  · rw [if_neg hc] at h
    exact p_X12_finds_32 x1 x2 x3 x4 x5 I J h hC
theorem p_X12_finds_30 {L : Nat} {xs : Nat → Int32} {d : Nat} {Q : xO → Prop} (x1 : Int32) (x2 : Int32) (x3 : Int32) (x4 : Int32) (x5 : Int32) (s1 : Int32) (s2 : Int32) (I : xI) (J : xJ) {t : (Int32 × Int32 × Int32 × Int32 × Int32 × xI × xJ) ⊕ ((Int32 × Int32 × Int32 × Int32 × (Option Value) × xI × xJ) ⊕ ((Int32 × Int32 × Int32 × (Option Value) × (Option Value) × xI × xJ) ⊕ ((Int32 × Int32 × (Option Value) × (Option Value) × (Option Value) × xI × xJ) ⊕ (Unit × xI × xJ))))} (h : f_X12_finds_30 x1 x2 x3 x4 x5 s1 s2 I J = some t) (hC : (c_X12_finds_24 L xs d Q) t) : Rn L xs (d + 3) 225 188 [some (.ref 61), some (.int x1), some (.int x2), some (.int x3), some (.int x4), some (.int x5)] [.int s2, .int s1, .ref 76] 94 (I, J, xrf) Q := by
  unfold f_X12_finds_30 at h
  refine Rn.go 4 (j' := 225) (pc' := 194) (ls' := [some (.ref 61), some (.int x1), some (.int x2), some (.int x3), some (.int x4), some (.int x5)]) (st' := [.int x5, .int x4, .ref 61, .int ((s1 * s2)), .ref 76]) (n' := 94) (M' := (I, J, xrf)) (fun f => rfl) ?_
  obtain ⟨o, ho, h⟩ := Option.bind_eq_some_iff.mp h
  refine Rn.call (d1 := d + 2) (j1 := 210) (ls1 := [some (.ref 61), some (.int x4), some (.int x5)]) (rest := [.int ((s1 * s2)), .ref 76]) (fun f => rfl) ?_
  refine p_X12_to (d := d + 1) x4 x5 I J (t := o) ho ?_
  exact p_X12_finds_31 x1 x2 x3 x4 x5 ((s1 * s2)) o.1 o.2.1 o.2.2 h hC
theorem p_X12_finds_29 {L : Nat} {xs : Nat → Int32} {d : Nat} {Q : xO → Prop} (x1 : Int32) (x2 : Int32) (x3 : Int32) (x4 : Int32) (x5 : Int32) (I : xI) (J : xJ) {t : (Int32 × Int32 × Int32 × Int32 × Int32 × xI × xJ) ⊕ ((Int32 × Int32 × Int32 × Int32 × (Option Value) × xI × xJ) ⊕ ((Int32 × Int32 × Int32 × (Option Value) × (Option Value) × xI × xJ) ⊕ ((Int32 × Int32 × (Option Value) × (Option Value) × (Option Value) × xI × xJ) ⊕ (Unit × xI × xJ))))} (h : f_X12_finds_29 x1 x2 x3 x4 x5 I J = some t) (hC : (c_X12_finds_24 L xs d Q) t) : Rn L xs (d + 3) 225 175 [some (.ref 61), some (.int x1), some (.int x2), some (.int x3), some (.int x4), some (.int x5)] [] 94 (I, J, xrf) Q := by
  unfold f_X12_finds_29 at h
  refine Rn.go 6 (j' := 225) (pc' := 185) (ls' := [some (.ref 61), some (.int x1), some (.int x2), some (.int x3), some (.int x4), some (.int x5)]) (st' := [.int x5, .int x3, .ref 61, .int 6, .ref 76]) (n' := 94) (M' := (I, J, xrf)) (fun f => rfl) ?_
  obtain ⟨o, ho, h⟩ := Option.bind_eq_some_iff.mp h
  refine Rn.call (d1 := d + 2) (j1 := 210) (ls1 := [some (.ref 61), some (.int x3), some (.int x5)]) (rest := [.int 6, .ref 76]) (fun f => rfl) ?_
  refine p_X12_to (d := d + 1) x3 x5 I J (t := o) ho ?_
  exact p_X12_finds_30 x1 x2 x3 x4 x5 6 o.1 o.2.1 o.2.2 h hC
theorem p_X12_finds_28 {L : Nat} {xs : Nat → Int32} {d : Nat} {Q : xO → Prop} (x1 : Int32) (x2 : Int32) (x3 : Int32) (x4 : Int32) (x5 : Int32) (s0 : Int32) (I : xI) (J : xJ) {t : (Int32 × Int32 × Int32 × Int32 × Int32 × xI × xJ) ⊕ ((Int32 × Int32 × Int32 × Int32 × (Option Value) × xI × xJ) ⊕ ((Int32 × Int32 × Int32 × (Option Value) × (Option Value) × xI × xJ) ⊕ ((Int32 × Int32 × (Option Value) × (Option Value) × (Option Value) × xI × xJ) ⊕ (Unit × xI × xJ))))} (h : f_X12_finds_28 x1 x2 x3 x4 x5 s0 I J = some t) (hC : (c_X12_finds_24 L xs d Q) t) : Rn L xs (d + 3) 225 172 [some (.ref 61), some (.int x1), some (.int x2), some (.int x3), some (.int x4), some (.int x5)] [.int s0] 94 (I, J, xrf) Q := by
  unfold f_X12_finds_28 at h
  refine Rn.fi 1 (c := s0 < 0) (p1 := 223) (l1 := [some (.ref 61), some (.int x1), some (.int x2), some (.int x3), some (.int x4), some (.int x5)]) (s1 := []) (n1 := 94) (M1 := (I, J, xrf)) (p2 := 175) (l2 := [some (.ref 61), some (.int x1), some (.int x2), some (.int x3), some (.int x4), some (.int x5)]) (s2 := []) (n2 := 94) (M2 := (I, J, xrf)) (fun f => rfl) (fun hc => ?_) (fun hc => ?_)
  · rw [if_pos hc] at h
    exact p_X12_finds_34 x1 x2 x3 x4 x5 I J h hC
  · rw [if_neg hc] at h
    exact p_X12_finds_29 x1 x2 x3 x4 x5 I J h hC
theorem p_X12_finds_27 {L : Nat} {xs : Nat → Int32} {d : Nat} {Q : xO → Prop} (x1 : Int32) (x2 : Int32) (x3 : Int32) (x4 : Int32) (x5 : Int32) (I : xI) (J : xJ) {t : (Int32 × Int32 × Int32 × Int32 × Int32 × xI × xJ) ⊕ ((Int32 × Int32 × Int32 × Int32 × (Option Value) × xI × xJ) ⊕ ((Int32 × Int32 × Int32 × (Option Value) × (Option Value) × xI × xJ) ⊕ ((Int32 × Int32 × (Option Value) × (Option Value) × (Option Value) × xI × xJ) ⊕ (Unit × xI × xJ))))} (h : f_X12_finds_27 x1 x2 x3 x4 x5 I J = some t) (hC : (c_X12_finds_24 L xs d Q) t) : Rn L xs (d + 3) 225 164 [some (.ref 61), some (.int x1), some (.int x2), some (.int x3), some (.int x4), some (.int x5)] [] 94 (I, J, xrf) Q := by
  unfold f_X12_finds_27 at h
  refine Rn.go 3 (j' := 225) (pc' := 169) (ls' := [some (.ref 61), some (.int x1), some (.int x2), some (.int x3), some (.int x4), some (.int x5)]) (st' := [.int x5, .int x4, .ref 61]) (n' := 94) (M' := (I, J, xrf)) (fun f => rfl) ?_
  obtain ⟨o, ho, h⟩ := Option.bind_eq_some_iff.mp h
  refine Rn.call (d1 := d + 2) (j1 := 210) (ls1 := [some (.ref 61), some (.int x4), some (.int x5)]) (rest := []) (fun f => rfl) ?_
  refine p_X12_to (d := d + 1) x4 x5 I J (t := o) ho ?_
  exact p_X12_finds_28 x1 x2 x3 x4 x5 o.1 o.2.1 o.2.2 h hC
theorem p_X12_finds_26 {L : Nat} {xs : Nat → Int32} {d : Nat} {Q : xO → Prop} (x1 : Int32) (x2 : Int32) (x3 : Int32) (x4 : Int32) (x5 : Int32) (s0 : Int32) (I : xI) (J : xJ) {t : (Int32 × Int32 × Int32 × Int32 × Int32 × xI × xJ) ⊕ ((Int32 × Int32 × Int32 × Int32 × (Option Value) × xI × xJ) ⊕ ((Int32 × Int32 × Int32 × (Option Value) × (Option Value) × xI × xJ) ⊕ ((Int32 × Int32 × (Option Value) × (Option Value) × (Option Value) × xI × xJ) ⊕ (Unit × xI × xJ))))} (h : f_X12_finds_26 x1 x2 x3 x4 x5 s0 I J = some t) (hC : (c_X12_finds_24 L xs d Q) t) : Rn L xs (d + 3) 225 161 [some (.ref 61), some (.int x1), some (.int x2), some (.int x3), some (.int x4), some (.int x5)] [.int s0] 94 (I, J, xrf) Q := by
  unfold f_X12_finds_26 at h
  refine Rn.fi 1 (c := s0 < 0) (p1 := 223) (l1 := [some (.ref 61), some (.int x1), some (.int x2), some (.int x3), some (.int x4), some (.int x5)]) (s1 := []) (n1 := 94) (M1 := (I, J, xrf)) (p2 := 164) (l2 := [some (.ref 61), some (.int x1), some (.int x2), some (.int x3), some (.int x4), some (.int x5)]) (s2 := []) (n2 := 94) (M2 := (I, J, xrf)) (fun f => rfl) (fun hc => ?_) (fun hc => ?_)
  · rw [if_pos hc] at h
    exact p_X12_finds_34 x1 x2 x3 x4 x5 I J h hC
  · rw [if_neg hc] at h
    exact p_X12_finds_27 x1 x2 x3 x4 x5 I J h hC
theorem p_X12_finds_25 {L : Nat} {xs : Nat → Int32} {d : Nat} {Q : xO → Prop} (x1 : Int32) (x2 : Int32) (x3 : Int32) (x4 : Int32) (x5 : Int32) (I : xI) (J : xJ) {t : (Int32 × Int32 × Int32 × Int32 × Int32 × xI × xJ) ⊕ ((Int32 × Int32 × Int32 × Int32 × (Option Value) × xI × xJ) ⊕ ((Int32 × Int32 × Int32 × (Option Value) × (Option Value) × xI × xJ) ⊕ ((Int32 × Int32 × (Option Value) × (Option Value) × (Option Value) × xI × xJ) ⊕ (Unit × xI × xJ))))} (h : f_X12_finds_25 x1 x2 x3 x4 x5 I J = some t) (hC : (c_X12_finds_24 L xs d Q) t) : Rn L xs (d + 3) 225 154 [some (.ref 61), some (.int x1), some (.int x2), some (.int x3), some (.int x4), some (.int x5)] [] 94 (I, J, xrf) Q := by
  unfold f_X12_finds_25 at h
  refine Rn.go 3 (j' := 225) (pc' := 158) (ls' := [some (.ref 61), some (.int x1), some (.int x2), some (.int x3), some (.int x4), some (.int x5)]) (st' := [.int x5, .int x3, .ref 61]) (n' := 94) (M' := (I, J, xrf)) (fun f => rfl) ?_
  obtain ⟨o, ho, h⟩ := Option.bind_eq_some_iff.mp h
  refine Rn.call (d1 := d + 2) (j1 := 210) (ls1 := [some (.ref 61), some (.int x3), some (.int x5)]) (rest := []) (fun f => rfl) ?_
  refine p_X12_to (d := d + 1) x3 x5 I J (t := o) ho ?_
  exact p_X12_finds_26 x1 x2 x3 x4 x5 o.1 o.2.1 o.2.2 h hC
theorem q_X12_finds_24 {L : Nat} {xs : Nat → Int32} {d : Nat} {Q : xO → Prop} (x1 : Int32) (x2 : Int32) (x3 : Int32) (x4 : Int32) (x5 : Int32) (I : xI) (J : xJ) {t : (Int32 × Int32 × Int32 × Int32 × Int32 × xI × xJ) ⊕ ((Int32 × Int32 × Int32 × Int32 × (Option Value) × xI × xJ) ⊕ ((Int32 × Int32 × Int32 × (Option Value) × (Option Value) × xI × xJ) ⊕ ((Int32 × Int32 × (Option Value) × (Option Value) × (Option Value) × xI × xJ) ⊕ (Unit × xI × xJ))))} (h : b_X12_finds_24 x1 x2 x3 x4 x5 I J = some t) (hC : (c_X12_finds_24 L xs d Q) t) : Rn L xs (d + 3) 225 145 [some (.ref 61), some (.int x1), some (.int x2), some (.int x3), some (.int x4), some (.int x5)] [] 94 (I, J, xrf) Q := by
  unfold b_X12_finds_24 at h
  refine Rn.fi 4 (c := (I 61 18) ≤ x5) (p1 := 229) (l1 := [some (.ref 61), some (.int x1), some (.int x2), some (.int x3), some (.int x4), some (.int x5)]) (s1 := []) (n1 := 94) (M1 := (I, J, xrf)) (p2 := 154) (l2 := [some (.ref 61), some (.int x1), some (.int x2), some (.int x3), some (.int x4), some (.int x5)]) (s2 := []) (n2 := 94) (M2 := (I, J, xrf)) (fun f => rfl) (fun hc => ?_) (fun hc => ?_)
  · rw [if_pos hc] at h
    obtain ⟨t0, h0, rfl⟩ := Option.map_eq_some_iff.mp h
    exact p_X12_finds_35 x1 x2 x3 x4 (some (.int x5)) I J h0 hC
  · rw [if_neg hc] at h
    exact p_X12_finds_25 x1 x2 x3 x4 x5 I J h hC
theorem p_X12_finds_24 {L : Nat} {xs : Nat → Int32} {d : Nat} {Q : xO → Prop} (x1 : Int32) (x2 : Int32) (x3 : Int32) (x4 : Int32) (x5 : Int32) (I : xI) (J : xJ) {t : (Int32 × Int32 × Int32 × Int32 × (Option Value) × xI × xJ) ⊕ ((Int32 × Int32 × Int32 × (Option Value) × (Option Value) × xI × xJ) ⊕ ((Int32 × Int32 × (Option Value) × (Option Value) × (Option Value) × xI × xJ) ⊕ (Unit × xI × xJ)))} (h : f_X12_finds_24 x1 x2 x3 x4 x5 I J = some t) (hC : (c_X12_finds_20 L xs d Q) t) : Rn L xs (d + 3) 225 145 [some (.ref 61), some (.int x1), some (.int x2), some (.int x3), some (.int x4), some (.int x5)] [] 94 (I, J, xrf) Q := by
  unfold f_X12_finds_24 at h
  exact xloop_some (P := fun s : Int32 × Int32 × Int32 × Int32 × Int32 × xI × xJ => Rn L xs (d + 3) 225 145 [some (.ref 61), some (.int s.1), some (.int s.2.1), some (.int s.2.2.1), some (.int s.2.2.2.1), some (.int s.2.2.2.2.1)] [] 94 (s.2.2.2.2.2.1, s.2.2.2.2.2.2, xrf) Q) t (fun s ⟨s', hb, hp⟩ => q_X12_finds_24 s.1 s.2.1 s.2.2.1 s.2.2.2.1 s.2.2.2.2.1 s.2.2.2.2.2.1 s.2.2.2.2.2.2 hb hp) (fun s hb => q_X12_finds_24 s.1 s.2.1 s.2.2.1 s.2.2.2.1 s.2.2.2.2.1 s.2.2.2.2.2.1 s.2.2.2.2.2.2 hb hC) _ _ h
theorem p_X12_finds_23 {L : Nat} {xs : Nat → Int32} {d : Nat} {Q : xO → Prop} (x1 : Int32) (x2 : Int32) (x3 : Int32) (x4 : Int32) (z5 : Option Value) (I : xI) (J : xJ) {t : (Int32 × Int32 × Int32 × Int32 × (Option Value) × xI × xJ) ⊕ ((Int32 × Int32 × Int32 × (Option Value) × (Option Value) × xI × xJ) ⊕ ((Int32 × Int32 × (Option Value) × (Option Value) × (Option Value) × xI × xJ) ⊕ (Unit × xI × xJ)))} (h : f_X12_finds_23 x1 x2 x3 x4 z5 I J = some t) (hC : (c_X12_finds_20 L xs d Q) t) : Rn L xs (d + 3) 225 142 [some (.ref 61), some (.int x1), some (.int x2), some (.int x3), some (.int x4), z5] [] 94 (I, J, xrf) Q := by
  unfold f_X12_finds_23 at h
  refine Rn.go 2 (j' := 225) (pc' := 145) (ls' := [some (.ref 61), some (.int x1), some (.int x2), some (.int x3), some (.int x4), some (.int 0)]) (st' := []) (n' := 94) (M' := (I, J, xrf)) (fun f => rfl) ?_
  exact p_X12_finds_24 x1 x2 x3 x4 0 I J h hC
theorem p_X12_finds_22 {L : Nat} {xs : Nat → Int32} {d : Nat} {Q : xO → Prop} (x1 : Int32) (x2 : Int32) (x3 : Int32) (x4 : Int32) (z5 : Option Value) (I : xI) (J : xJ) {t : (Int32 × Int32 × Int32 × Int32 × (Option Value) × xI × xJ) ⊕ ((Int32 × Int32 × Int32 × (Option Value) × (Option Value) × xI × xJ) ⊕ ((Int32 × Int32 × (Option Value) × (Option Value) × (Option Value) × xI × xJ) ⊕ (Unit × xI × xJ)))} (h : f_X12_finds_22 x1 x2 x3 x4 z5 I J = some t) (hC : (c_X12_finds_20 L xs d Q) t) : Rn L xs (d + 3) 225 139 [some (.ref 61), some (.int x1), some (.int x2), some (.int x3), some (.int x4), z5] [] 94 (I, J, xrf) Q := by
  unfold f_X12_finds_22 at h
  refine Rn.go 1 (j' := 225) (pc' := 229) (ls' := [some (.ref 61), some (.int x1), some (.int x2), some (.int x3), some (.int x4), z5]) (st' := []) (n' := 94) (M' := (I, J, xrf)) (fun f => rfl) ?_
  exact p_X12_finds_35 x1 x2 x3 x4 z5 I J h hC
theorem p_X12_finds_21 {L : Nat} {xs : Nat → Int32} {d : Nat} {Q : xO → Prop} (x1 : Int32) (x2 : Int32) (x3 : Int32) (x4 : Int32) (z5 : Option Value) (I : xI) (J : xJ) {t : (Int32 × Int32 × Int32 × Int32 × (Option Value) × xI × xJ) ⊕ ((Int32 × Int32 × Int32 × (Option Value) × (Option Value) × xI × xJ) ⊕ ((Int32 × Int32 × (Option Value) × (Option Value) × (Option Value) × xI × xJ) ⊕ (Unit × xI × xJ)))} (h : f_X12_finds_21 x1 x2 x3 x4 z5 I J = some t) (hC : (c_X12_finds_20 L xs d Q) t) : Rn L xs (d + 3) 225 124 [some (.ref 61), some (.int x1), some (.int x2), some (.int x3), some (.int x4), z5] [] 94 (I, J, xrf) Q := by
  unfold f_X12_finds_21 at h
  obtain ⟨hc, h⟩ := xif h
  refine Rn.ok 8 (c := ((6 * x3) + x4) < 0 ∨ 36 ≤ (((6 * x3) + x4)).toNatClampNeg) (p1 := 136) (l1 := [some (.ref 61), some (.int x1), some (.int x2), some (.int x3), some (.int x4), z5]) (s1 := [.int ((I 76 (((6 * x3) + x4)).toNatClampNeg))]) (n1 := 94) (M1 := (I, J, xrf)) (fun f => rfl) hc ?_
  refine Rn.fi 1 (c := (I 76 (((6 * x3) + x4)).toNatClampNeg) < 0) (p1 := 142) (l1 := [some (.ref 61), some (.int x1), some (.int x2), some (.int x3), some (.int x4), z5]) (s1 := []) (n1 := 94) (M1 := (I, J, xrf)) (p2 := 139) (l2 := [some (.ref 61), some (.int x1), some (.int x2), some (.int x3), some (.int x4), z5]) (s2 := []) (n2 := 94) (M2 := (I, J, xrf)) (fun f => rfl) (fun hc => ?_) (fun hc => ?_)
  · rw [if_pos hc] at h
    exact p_X12_finds_23 x1 x2 x3 x4 z5 I J h hC
  · rw [if_neg hc] at h
    exact p_X12_finds_22 x1 x2 x3 x4 z5 I J h hC
theorem q_X12_finds_20 {L : Nat} {xs : Nat → Int32} {d : Nat} {Q : xO → Prop} (x1 : Int32) (x2 : Int32) (x3 : Int32) (x4 : Int32) (z5 : Option Value) (I : xI) (J : xJ) {t : (Int32 × Int32 × Int32 × Int32 × (Option Value) × xI × xJ) ⊕ ((Int32 × Int32 × Int32 × (Option Value) × (Option Value) × xI × xJ) ⊕ ((Int32 × Int32 × (Option Value) × (Option Value) × (Option Value) × xI × xJ) ⊕ (Unit × xI × xJ)))} (h : b_X12_finds_20 x1 x2 x3 x4 z5 I J = some t) (hC : (c_X12_finds_20 L xs d Q) t) : Rn L xs (d + 3) 225 115 [some (.ref 61), some (.int x1), some (.int x2), some (.int x3), some (.int x4), z5] [] 94 (I, J, xrf) Q := by
  unfold b_X12_finds_20 at h
  refine Rn.fi 4 (c := (I 61 17) ≤ x4) (p1 := 235) (l1 := [some (.ref 61), some (.int x1), some (.int x2), some (.int x3), some (.int x4), z5]) (s1 := []) (n1 := 94) (M1 := (I, J, xrf)) (p2 := 124) (l2 := [some (.ref 61), some (.int x1), some (.int x2), some (.int x3), some (.int x4), z5]) (s2 := []) (n2 := 94) (M2 := (I, J, xrf)) (fun f => rfl) (fun hc => ?_) (fun hc => ?_)
  · rw [if_pos hc] at h
    obtain ⟨t0, h0, rfl⟩ := Option.map_eq_some_iff.mp h
    exact p_X12_finds_36 x1 x2 x3 x4 z5 I J h0 hC
  · rw [if_neg hc] at h
    exact p_X12_finds_21 x1 x2 x3 x4 z5 I J h hC
theorem p_X12_finds_20 {L : Nat} {xs : Nat → Int32} {d : Nat} {Q : xO → Prop} (x1 : Int32) (x2 : Int32) (x3 : Int32) (x4 : Int32) (z5 : Option Value) (I : xI) (J : xJ) {t : (Int32 × Int32 × Int32 × (Option Value) × (Option Value) × xI × xJ) ⊕ ((Int32 × Int32 × (Option Value) × (Option Value) × (Option Value) × xI × xJ) ⊕ (Unit × xI × xJ))} (h : f_X12_finds_20 x1 x2 x3 x4 z5 I J = some t) (hC : (c_X12_finds_18 L xs d Q) t) : Rn L xs (d + 3) 225 115 [some (.ref 61), some (.int x1), some (.int x2), some (.int x3), some (.int x4), z5] [] 94 (I, J, xrf) Q := by
  unfold f_X12_finds_20 at h
  exact xloop_some (P := fun s : Int32 × Int32 × Int32 × Int32 × (Option Value) × xI × xJ => Rn L xs (d + 3) 225 115 [some (.ref 61), some (.int s.1), some (.int s.2.1), some (.int s.2.2.1), some (.int s.2.2.2.1), s.2.2.2.2.1] [] 94 (s.2.2.2.2.2.1, s.2.2.2.2.2.2, xrf) Q) t (fun s ⟨s', hb, hp⟩ => q_X12_finds_20 s.1 s.2.1 s.2.2.1 s.2.2.2.1 s.2.2.2.2.1 s.2.2.2.2.2.1 s.2.2.2.2.2.2 hb hp) (fun s hb => q_X12_finds_20 s.1 s.2.1 s.2.2.1 s.2.2.2.1 s.2.2.2.2.1 s.2.2.2.2.2.1 s.2.2.2.2.2.2 hb hC) _ _ h
theorem p_X12_finds_19 {L : Nat} {xs : Nat → Int32} {d : Nat} {Q : xO → Prop} (x1 : Int32) (x2 : Int32) (x3 : Int32) (z4 : Option Value) (z5 : Option Value) (I : xI) (J : xJ) {t : (Int32 × Int32 × Int32 × (Option Value) × (Option Value) × xI × xJ) ⊕ ((Int32 × Int32 × (Option Value) × (Option Value) × (Option Value) × xI × xJ) ⊕ (Unit × xI × xJ))} (h : f_X12_finds_19 x1 x2 x3 z4 z5 I J = some t) (hC : (c_X12_finds_18 L xs d Q) t) : Rn L xs (d + 3) 225 112 [some (.ref 61), some (.int x1), some (.int x2), some (.int x3), z4, z5] [] 94 (I, J, xrf) Q := by
  unfold f_X12_finds_19 at h
  refine Rn.go 2 (j' := 225) (pc' := 115) (ls' := [some (.ref 61), some (.int x1), some (.int x2), some (.int x3), some (.int 0), z5]) (st' := []) (n' := 94) (M' := (I, J, xrf)) (fun f => rfl) ?_
  exact p_X12_finds_20 x1 x2 x3 0 z5 I J h hC
theorem q_X12_finds_18 {L : Nat} {xs : Nat → Int32} {d : Nat} {Q : xO → Prop} (x1 : Int32) (x2 : Int32) (x3 : Int32) (z4 : Option Value) (z5 : Option Value) (I : xI) (J : xJ) {t : (Int32 × Int32 × Int32 × (Option Value) × (Option Value) × xI × xJ) ⊕ ((Int32 × Int32 × (Option Value) × (Option Value) × (Option Value) × xI × xJ) ⊕ (Unit × xI × xJ))} (h : b_X12_finds_18 x1 x2 x3 z4 z5 I J = some t) (hC : (c_X12_finds_18 L xs d Q) t) : Rn L xs (d + 3) 225 104 [some (.ref 61), some (.int x1), some (.int x2), some (.int x3), z4, z5] [] 94 (I, J, xrf) Q := by
  unfold b_X12_finds_18 at h
  refine Rn.fi 4 (c := (I 61 17) ≤ x3) (p1 := 241) (l1 := [some (.ref 61), some (.int x1), some (.int x2), some (.int x3), z4, z5]) (s1 := []) (n1 := 94) (M1 := (I, J, xrf)) (p2 := 112) (l2 := [some (.ref 61), some (.int x1), some (.int x2), some (.int x3), z4, z5]) (s2 := []) (n2 := 94) (M2 := (I, J, xrf)) (fun f => rfl) (fun hc => ?_) (fun hc => ?_)
  · rw [if_pos hc] at h
    obtain ⟨t0, h0, rfl⟩ := Option.map_eq_some_iff.mp h
    exact p_X12_finds_37 x1 x2 x3 z4 z5 I J h0 hC
  · rw [if_neg hc] at h
    exact p_X12_finds_19 x1 x2 x3 z4 z5 I J h hC
theorem p_X12_finds_18 {L : Nat} {xs : Nat → Int32} {d : Nat} {Q : xO → Prop} (x1 : Int32) (x2 : Int32) (x3 : Int32) (z4 : Option Value) (z5 : Option Value) (I : xI) (J : xJ) {t : (Int32 × Int32 × (Option Value) × (Option Value) × (Option Value) × xI × xJ) ⊕ (Unit × xI × xJ)} (h : f_X12_finds_18 x1 x2 x3 z4 z5 I J = some t) (hC : (c_X12_finds_16 L xs d Q) t) : Rn L xs (d + 3) 225 104 [some (.ref 61), some (.int x1), some (.int x2), some (.int x3), z4, z5] [] 94 (I, J, xrf) Q := by
  unfold f_X12_finds_18 at h
  exact xloop_some (P := fun s : Int32 × Int32 × Int32 × (Option Value) × (Option Value) × xI × xJ => Rn L xs (d + 3) 225 104 [some (.ref 61), some (.int s.1), some (.int s.2.1), some (.int s.2.2.1), s.2.2.2.1, s.2.2.2.2.1] [] 94 (s.2.2.2.2.2.1, s.2.2.2.2.2.2, xrf) Q) t (fun s ⟨s', hb, hp⟩ => q_X12_finds_18 s.1 s.2.1 s.2.2.1 s.2.2.2.1 s.2.2.2.2.1 s.2.2.2.2.2.1 s.2.2.2.2.2.2 hb hp) (fun s hb => q_X12_finds_18 s.1 s.2.1 s.2.2.1 s.2.2.2.1 s.2.2.2.2.1 s.2.2.2.2.2.1 s.2.2.2.2.2.2 hb hC) _ _ h
theorem p_X12_finds_17 {L : Nat} {xs : Nat → Int32} {d : Nat} {Q : xO → Prop} (x1 : Int32) (x2 : Int32) (z3 : Option Value) (z4 : Option Value) (z5 : Option Value) (I : xI) (J : xJ) {t : (Int32 × Int32 × (Option Value) × (Option Value) × (Option Value) × xI × xJ) ⊕ (Unit × xI × xJ)} (h : f_X12_finds_17 x1 x2 z3 z4 z5 I J = some t) (hC : (c_X12_finds_16 L xs d Q) t) : Rn L xs (d + 3) 225 100 [some (.ref 61), some (.int x1), some (.int x2), z3, z4, z5] [] 94 (I, J, xrf) Q := by
  unfold f_X12_finds_17 at h
  refine Rn.go 4 (j' := 225) (pc' := 104) (ls' := [some (.ref 61), some (.int 0), some (.int x2), some (.int 0), z4, z5]) (st' := []) (n' := 94) (M' := (I, J, xrf)) (fun f => rfl) ?_
  exact p_X12_finds_18 0 x2 0 z4 z5 I J h hC
theorem q_X12_finds_16 {L : Nat} {xs : Nat → Int32} {d : Nat} {Q : xO → Prop} (x1 : Int32) (x2 : Int32) (z3 : Option Value) (z4 : Option Value) (z5 : Option Value) (I : xI) (J : xJ) {t : (Int32 × Int32 × (Option Value) × (Option Value) × (Option Value) × xI × xJ) ⊕ (Unit × xI × xJ)} (h : b_X12_finds_16 x1 x2 z3 z4 z5 I J = some t) (hC : (c_X12_finds_16 L xs d Q) t) : Rn L xs (d + 3) 225 96 [some (.ref 61), some (.int x1), some (.int x2), z3, z4, z5] [] 94 (I, J, xrf) Q := by
  unfold b_X12_finds_16 at h
  refine Rn.fi 2 (c := x1 = 0) (p1 := 247) (l1 := [some (.ref 61), some (.int x1), some (.int x2), z3, z4, z5]) (s1 := []) (n1 := 94) (M1 := (I, J, xrf)) (p2 := 100) (l2 := [some (.ref 61), some (.int x1), some (.int x2), z3, z4, z5]) (s2 := []) (n2 := 94) (M2 := (I, J, xrf)) (fun f => rfl) (fun hc => ?_) (fun hc => ?_)
  · rw [if_pos hc] at h
    obtain ⟨t0, h0, rfl⟩ := Option.map_eq_some_iff.mp h
    exact p_X12_finds_38 x1 x2 z3 z4 z5 I J h0 hC
  · rw [if_neg hc] at h
    exact p_X12_finds_17 x1 x2 z3 z4 z5 I J h hC
theorem p_X12_finds_16 {L : Nat} {xs : Nat → Int32} {d : Nat} {Q : xO → Prop} (x1 : Int32) (x2 : Int32) (z3 : Option Value) (z4 : Option Value) (z5 : Option Value) (I : xI) (J : xJ) {t : Unit × xI × xJ} (h : f_X12_finds_16 x1 x2 z3 z4 z5 I J = some t) (hC : (c_X12_finds Q) t) : Rn L xs (d + 3) 225 96 [some (.ref 61), some (.int x1), some (.int x2), z3, z4, z5] [] 94 (I, J, xrf) Q := by
  unfold f_X12_finds_16 at h
  exact xloop_some (P := fun s : Int32 × Int32 × (Option Value) × (Option Value) × (Option Value) × xI × xJ => Rn L xs (d + 3) 225 96 [some (.ref 61), some (.int s.1), some (.int s.2.1), s.2.2.1, s.2.2.2.1, s.2.2.2.2.1] [] 94 (s.2.2.2.2.2.1, s.2.2.2.2.2.2, xrf) Q) t (fun s ⟨s', hb, hp⟩ => q_X12_finds_16 s.1 s.2.1 s.2.2.1 s.2.2.2.1 s.2.2.2.2.1 s.2.2.2.2.2.1 s.2.2.2.2.2.2 hb hp) (fun s hb => q_X12_finds_16 s.1 s.2.1 s.2.2.1 s.2.2.2.1 s.2.2.2.2.1 s.2.2.2.2.2.1 s.2.2.2.2.2.2 hb hC) _ _ h
theorem p_X12_finds_15 {L : Nat} {xs : Nat → Int32} {d : Nat} {Q : xO → Prop} (x1 : Int32) (z2 : Option Value) (z3 : Option Value) (I : xI) (J : xJ) {t : Unit × xI × xJ} (h : f_X12_finds_15 x1 z2 z3 I J = some t) (hC : (c_X12_finds Q) t) : Rn L xs (d + 3) 225 92 [some (.ref 61), some (.int x1), z2, z3, none, none] [] 94 (I, J, xrf) Q := by
  unfold f_X12_finds_15 at h
  refine Rn.go 4 (j' := 225) (pc' := 96) (ls' := [some (.ref 61), some (.int 1), some (.int 1), z3, none, none]) (st' := []) (n' := 94) (M' := (I, J, xrf)) (fun f => rfl) ?_
  exact p_X12_finds_16 1 1 z3 none none I J h hC
theorem p_X12_finds_14 {L : Nat} {xs : Nat → Int32} {d : Nat} {Q : xO → Prop} (x1 : Int32) (x2 : Int32) (z3 : Option Value) (I : xI) (J : xJ) {t : (Int32 × (Option Value) × (Option Value) × xI × xJ) ⊕ (Unit × xI × xJ)} (h : f_X12_finds_14 x1 x2 z3 I J = some t) (hC : (c_X12_finds_4 L xs d Q) t) : Rn L xs (d + 3) 225 86 [some (.ref 61), some (.int x1), some (.int x2), z3, none, none] [] 94 (I, J, xrf) Q := by
  unfold f_X12_finds_14 at h
  refine Rn.go 2 (j' := 225) (pc' := 24) (ls' := [some (.ref 61), some (.int ((x1 + 1))), some (.int x2), z3, none, none]) (st' := []) (n' := 94) (M' := (I, J, xrf)) (fun f => rfl) ?_
  cases h; exact hC
theorem p_X12_finds_13 {L : Nat} {xs : Nat → Int32} {d : Nat} {Q : xO → Prop} (x1 : Int32) (x2 : Int32) (x3 : Int32) (I : xI) (J : xJ) {t : (Int32 × Int32 × (Option Value) × xI × xJ) ⊕ ((Int32 × (Option Value) × (Option Value) × xI × xJ) ⊕ (Unit × xI × xJ))} (h : f_X12_finds_13 x1 x2 x3 I J = some t) (hC : (c_X12_finds_6 L xs d Q) t) : Rn L xs (d + 3) 225 80 [some (.ref 61), some (.int x1), some (.int x2), some (.int x3), none, none] [] 94 (I, J, xrf) Q := by
  unfold f_X12_finds_13 at h
  refine Rn.go 2 (j' := 225) (pc' := 34) (ls' := [some (.ref 61), some (.int x1), some (.int ((x2 + 1))), some (.int x3), none, none]) (st' := []) (n' := 94) (M' := (I, J, xrf)) (fun f => rfl) ?_
  cases h; exact hC
theorem p_X12_finds_12 {L : Nat} {xs : Nat → Int32} {d : Nat} {Q : xO → Prop} (x1 : Int32) (x2 : Int32) (x3 : Int32) (I : xI) (J : xJ) {t : (Int32 × Int32 × Int32 × xI × xJ) ⊕ ((Int32 × Int32 × (Option Value) × xI × xJ) ⊕ ((Int32 × (Option Value) × (Option Value) × xI × xJ) ⊕ (Unit × xI × xJ)))} (h : f_X12_finds_12 x1 x2 x3 I J = some t) (hC : (c_X12_finds_8 L xs d Q) t) : Rn L xs (d + 3) 225 74 [some (.ref 61), some (.int x1), some (.int x2), some (.int x3), none, none] [] 94 (I, J, xrf) Q := by
  unfold f_X12_finds_12 at h
  refine Rn.go 2 (j' := 225) (pc' := 44) (ls' := [some (.ref 61), some (.int x1), some (.int x2), some (.int ((x3 + 1))), none, none]) (st' := []) (n' := 94) (M' := (I, J, xrf)) (fun f => rfl) ?_
  cases h; exact hC
theorem p_X12_finds_11 {L : Nat} {xs : Nat → Int32} {d : Nat} {Q : xO → Prop} (x1 : Int32) (x2 : Int32) (x3 : Int32) (I : xI) (J : xJ) {t : (Int32 × Int32 × Int32 × xI × xJ) ⊕ ((Int32 × Int32 × (Option Value) × xI × xJ) ⊕ ((Int32 × (Option Value) × (Option Value) × xI × xJ) ⊕ (Unit × xI × xJ)))} (h : f_X12_finds_11 x1 x2 x3 I J = some t) (hC : (c_X12_finds_8 L xs d Q) t) : Rn L xs (d + 3) 225 62 [some (.ref 61), some (.int x1), some (.int x2), some (.int x3), none, none] [] 94 (I, J, xrf) Q := by
  unfold f_X12_finds_11 at h
  obtain ⟨hc, h⟩ := xif h
  refine Rn.ok 9 (c := ((6 * x1) + x2) < 0 ∨ 36 ≤ (((6 * x1) + x2)).toNatClampNeg) (p1 := 74) (l1 := [some (.ref 61), some (.int x1), some (.int x2), some (.int x3), none, none]) (s1 := []) (n1 := 94) (M1 := ((xup I 76 (((6 * x1) + x2)).toNatClampNeg 0), J, xrf)) (fun f => rfl) hc ?_
  exact p_X12_finds_12 x1 x2 x3 ((xup I 76 (((6 * x1) + x2)).toNatClampNeg 0)) J h hC
theorem p_X12_finds_10 {L : Nat} {xs : Nat → Int32} {d : Nat} {Q : xO → Prop} (x1 : Int32) (x2 : Int32) (x3 : Int32) (s0 : Int32) (I : xI) (J : xJ) {t : (Int32 × Int32 × Int32 × xI × xJ) ⊕ ((Int32 × Int32 × (Option Value) × xI × xJ) ⊕ ((Int32 × (Option Value) × (Option Value) × xI × xJ) ⊕ (Unit × xI × xJ)))} (h : f_X12_finds_10 x1 x2 x3 s0 I J = some t) (hC : (c_X12_finds_8 L xs d Q) t) : Rn L xs (d + 3) 225 59 [some (.ref 61), some (.int x1), some (.int x2), some (.int x3), none, none] [.int s0] 94 (I, J, xrf) Q := by
  unfold f_X12_finds_10 at h
  refine Rn.fi 1 (c := s0 = 0) (p1 := 74) (l1 := [some (.ref 61), some (.int x1), some (.int x2), some (.int x3), none, none]) (s1 := []) (n1 := 94) (M1 := (I, J, xrf)) (p2 := 62) (l2 := [some (.ref 61), some (.int x1), some (.int x2), some (.int x3), none, none]) (s2 := []) (n2 := 94) (M2 := (I, J, xrf)) (fun f => rfl) (fun hc => ?_) (fun hc => ?_)
  · rw [if_pos hc] at h
    exact p_X12_finds_12 x1 x2 x3 I J h hC
  · rw [if_neg hc] at h
    exact p_X12_finds_11 x1 x2 x3 I J h hC
theorem p_X12_finds_9 {L : Nat} {xs : Nat → Int32} {d : Nat} {Q : xO → Prop} (x1 : Int32) (x2 : Int32) (x3 : Int32) (I : xI) (J : xJ) {t : (Int32 × Int32 × Int32 × xI × xJ) ⊕ ((Int32 × Int32 × (Option Value) × xI × xJ) ⊕ ((Int32 × (Option Value) × (Option Value) × xI × xJ) ⊕ (Unit × xI × xJ)))} (h : f_X12_finds_9 x1 x2 x3 I J = some t) (hC : (c_X12_finds_8 L xs d Q) t) : Rn L xs (d + 3) 225 52 [some (.ref 61), some (.int x1), some (.int x2), some (.int x3), none, none] [] 94 (I, J, xrf) Q := by
  unfold f_X12_finds_9 at h
  refine Rn.go 4 (j' := 225) (pc' := 56) (ls' := [some (.ref 61), some (.int x1), some (.int x2), some (.int x3), none, none]) (st' := [.int x3, .int x2, .int x1, .ref 61]) (n' := 94) (M' := (I, J, xrf)) (fun f => rfl) ?_
  obtain ⟨o, ho, h⟩ := Option.bind_eq_some_iff.mp h
  refine Rn.call (d1 := d + 2) (j1 := 224) (ls1 := [some (.ref 61), some (.int x1), some (.int x2), some (.int x3)]) (rest := []) (fun f => rfl) ?_
  refine p_X12_areUnlike (d := d + 0) x1 x2 x3 I J (t := o) ho ?_
  exact p_X12_finds_10 x1 x2 x3 o.1 o.2.1 o.2.2 h hC
theorem q_X12_finds_8 {L : Nat} {xs : Nat → Int32} {d : Nat} {Q : xO → Prop} (x1 : Int32) (x2 : Int32) (x3 : Int32) (I : xI) (J : xJ) {t : (Int32 × Int32 × Int32 × xI × xJ) ⊕ ((Int32 × Int32 × (Option Value) × xI × xJ) ⊕ ((Int32 × (Option Value) × (Option Value) × xI × xJ) ⊕ (Unit × xI × xJ)))} (h : b_X12_finds_8 x1 x2 x3 I J = some t) (hC : (c_X12_finds_8 L xs d Q) t) : Rn L xs (d + 3) 225 44 [some (.ref 61), some (.int x1), some (.int x2), some (.int x3), none, none] [] 94 (I, J, xrf) Q := by
  unfold b_X12_finds_8 at h
  refine Rn.fi 4 (c := (I 61 18) ≤ x3) (p1 := 80) (l1 := [some (.ref 61), some (.int x1), some (.int x2), some (.int x3), none, none]) (s1 := []) (n1 := 94) (M1 := (I, J, xrf)) (p2 := 52) (l2 := [some (.ref 61), some (.int x1), some (.int x2), some (.int x3), none, none]) (s2 := []) (n2 := 94) (M2 := (I, J, xrf)) (fun f => rfl) (fun hc => ?_) (fun hc => ?_)
  · rw [if_pos hc] at h
    obtain ⟨t0, h0, rfl⟩ := Option.map_eq_some_iff.mp h
    exact p_X12_finds_13 x1 x2 x3 I J h0 hC
  · rw [if_neg hc] at h
    exact p_X12_finds_9 x1 x2 x3 I J h hC
theorem p_X12_finds_8 {L : Nat} {xs : Nat → Int32} {d : Nat} {Q : xO → Prop} (x1 : Int32) (x2 : Int32) (x3 : Int32) (I : xI) (J : xJ) {t : (Int32 × Int32 × (Option Value) × xI × xJ) ⊕ ((Int32 × (Option Value) × (Option Value) × xI × xJ) ⊕ (Unit × xI × xJ))} (h : f_X12_finds_8 x1 x2 x3 I J = some t) (hC : (c_X12_finds_6 L xs d Q) t) : Rn L xs (d + 3) 225 44 [some (.ref 61), some (.int x1), some (.int x2), some (.int x3), none, none] [] 94 (I, J, xrf) Q := by
  unfold f_X12_finds_8 at h
  exact xloop_some (P := fun s : Int32 × Int32 × Int32 × xI × xJ => Rn L xs (d + 3) 225 44 [some (.ref 61), some (.int s.1), some (.int s.2.1), some (.int s.2.2.1), none, none] [] 94 (s.2.2.2.1, s.2.2.2.2, xrf) Q) t (fun s ⟨s', hb, hp⟩ => q_X12_finds_8 s.1 s.2.1 s.2.2.1 s.2.2.2.1 s.2.2.2.2 hb hp) (fun s hb => q_X12_finds_8 s.1 s.2.1 s.2.2.1 s.2.2.2.1 s.2.2.2.2 hb hC) _ _ h
theorem p_X12_finds_7 {L : Nat} {xs : Nat → Int32} {d : Nat} {Q : xO → Prop} (x1 : Int32) (x2 : Int32) (z3 : Option Value) (I : xI) (J : xJ) {t : (Int32 × Int32 × (Option Value) × xI × xJ) ⊕ ((Int32 × (Option Value) × (Option Value) × xI × xJ) ⊕ (Unit × xI × xJ))} (h : f_X12_finds_7 x1 x2 z3 I J = some t) (hC : (c_X12_finds_6 L xs d Q) t) : Rn L xs (d + 3) 225 42 [some (.ref 61), some (.int x1), some (.int x2), z3, none, none] [] 94 (I, J, xrf) Q := by
  unfold f_X12_finds_7 at h
  refine Rn.go 2 (j' := 225) (pc' := 44) (ls' := [some (.ref 61), some (.int x1), some (.int x2), some (.int 0), none, none]) (st' := []) (n' := 94) (M' := (I, J, xrf)) (fun f => rfl) ?_
  exact p_X12_finds_8 x1 x2 0 I J h hC
theorem q_X12_finds_6 {L : Nat} {xs : Nat → Int32} {d : Nat} {Q : xO → Prop} (x1 : Int32) (x2 : Int32) (z3 : Option Value) (I : xI) (J : xJ) {t : (Int32 × Int32 × (Option Value) × xI × xJ) ⊕ ((Int32 × (Option Value) × (Option Value) × xI × xJ) ⊕ (Unit × xI × xJ))} (h : b_X12_finds_6 x1 x2 z3 I J = some t) (hC : (c_X12_finds_6 L xs d Q) t) : Rn L xs (d + 3) 225 34 [some (.ref 61), some (.int x1), some (.int x2), z3, none, none] [] 94 (I, J, xrf) Q := by
  unfold b_X12_finds_6 at h
  refine Rn.fi 4 (c := (I 61 17) ≤ x2) (p1 := 86) (l1 := [some (.ref 61), some (.int x1), some (.int x2), z3, none, none]) (s1 := []) (n1 := 94) (M1 := (I, J, xrf)) (p2 := 42) (l2 := [some (.ref 61), some (.int x1), some (.int x2), z3, none, none]) (s2 := []) (n2 := 94) (M2 := (I, J, xrf)) (fun f => rfl) (fun hc => ?_) (fun hc => ?_)
  · rw [if_pos hc] at h
    obtain ⟨t0, h0, rfl⟩ := Option.map_eq_some_iff.mp h
    exact p_X12_finds_14 x1 x2 z3 I J h0 hC
  · rw [if_neg hc] at h
    exact p_X12_finds_7 x1 x2 z3 I J h hC
theorem p_X12_finds_6 {L : Nat} {xs : Nat → Int32} {d : Nat} {Q : xO → Prop} (x1 : Int32) (x2 : Int32) (z3 : Option Value) (I : xI) (J : xJ) {t : (Int32 × (Option Value) × (Option Value) × xI × xJ) ⊕ (Unit × xI × xJ)} (h : f_X12_finds_6 x1 x2 z3 I J = some t) (hC : (c_X12_finds_4 L xs d Q) t) : Rn L xs (d + 3) 225 34 [some (.ref 61), some (.int x1), some (.int x2), z3, none, none] [] 94 (I, J, xrf) Q := by
  unfold f_X12_finds_6 at h
  exact xloop_some (P := fun s : Int32 × Int32 × (Option Value) × xI × xJ => Rn L xs (d + 3) 225 34 [some (.ref 61), some (.int s.1), some (.int s.2.1), s.2.2.1, none, none] [] 94 (s.2.2.2.1, s.2.2.2.2, xrf) Q) t (fun s ⟨s', hb, hp⟩ => q_X12_finds_6 s.1 s.2.1 s.2.2.1 s.2.2.2.1 s.2.2.2.2 hb hp) (fun s hb => q_X12_finds_6 s.1 s.2.1 s.2.2.1 s.2.2.2.1 s.2.2.2.2 hb hC) _ _ h
theorem p_X12_finds_5 {L : Nat} {xs : Nat → Int32} {d : Nat} {Q : xO → Prop} (x1 : Int32) (z2 : Option Value) (z3 : Option Value) (I : xI) (J : xJ) {t : (Int32 × (Option Value) × (Option Value) × xI × xJ) ⊕ (Unit × xI × xJ)} (h : f_X12_finds_5 x1 z2 z3 I J = some t) (hC : (c_X12_finds_4 L xs d Q) t) : Rn L xs (d + 3) 225 32 [some (.ref 61), some (.int x1), z2, z3, none, none] [] 94 (I, J, xrf) Q := by
  unfold f_X12_finds_5 at h
  refine Rn.go 2 (j' := 225) (pc' := 34) (ls' := [some (.ref 61), some (.int x1), some (.int 0), z3, none, none]) (st' := []) (n' := 94) (M' := (I, J, xrf)) (fun f => rfl) ?_
  exact p_X12_finds_6 x1 0 z3 I J h hC
theorem q_X12_finds_4 {L : Nat} {xs : Nat → Int32} {d : Nat} {Q : xO → Prop} (x1 : Int32) (z2 : Option Value) (z3 : Option Value) (I : xI) (J : xJ) {t : (Int32 × (Option Value) × (Option Value) × xI × xJ) ⊕ (Unit × xI × xJ)} (h : b_X12_finds_4 x1 z2 z3 I J = some t) (hC : (c_X12_finds_4 L xs d Q) t) : Rn L xs (d + 3) 225 24 [some (.ref 61), some (.int x1), z2, z3, none, none] [] 94 (I, J, xrf) Q := by
  unfold b_X12_finds_4 at h
  refine Rn.fi 4 (c := (I 61 17) ≤ x1) (p1 := 92) (l1 := [some (.ref 61), some (.int x1), z2, z3, none, none]) (s1 := []) (n1 := 94) (M1 := (I, J, xrf)) (p2 := 32) (l2 := [some (.ref 61), some (.int x1), z2, z3, none, none]) (s2 := []) (n2 := 94) (M2 := (I, J, xrf)) (fun f => rfl) (fun hc => ?_) (fun hc => ?_)
  · rw [if_pos hc] at h
    obtain ⟨t0, h0, rfl⟩ := Option.map_eq_some_iff.mp h
    exact p_X12_finds_15 x1 z2 z3 I J h0 hC
  · rw [if_neg hc] at h
    exact p_X12_finds_5 x1 z2 z3 I J h hC
theorem p_X12_finds_4 {L : Nat} {xs : Nat → Int32} {d : Nat} {Q : xO → Prop} (x1 : Int32) (z2 : Option Value) (z3 : Option Value) (I : xI) (J : xJ) {t : Unit × xI × xJ} (h : f_X12_finds_4 x1 z2 z3 I J = some t) (hC : (c_X12_finds Q) t) : Rn L xs (d + 3) 225 24 [some (.ref 61), some (.int x1), z2, z3, none, none] [] 94 (I, J, xrf) Q := by
  unfold f_X12_finds_4 at h
  exact xloop_some (P := fun s : Int32 × (Option Value) × (Option Value) × xI × xJ => Rn L xs (d + 3) 225 24 [some (.ref 61), some (.int s.1), s.2.1, s.2.2.1, none, none] [] 94 (s.2.2.2.1, s.2.2.2.2, xrf) Q) t (fun s ⟨s', hb, hp⟩ => q_X12_finds_4 s.1 s.2.1 s.2.2.1 s.2.2.2.1 s.2.2.2.2 hb hp) (fun s hb => q_X12_finds_4 s.1 s.2.1 s.2.2.1 s.2.2.2.1 s.2.2.2.2 hb hC) _ _ h
theorem p_X12_finds_3 {L : Nat} {xs : Nat → Int32} {d : Nat} {Q : xO → Prop} (x1 : Int32) (I : xI) (J : xJ) {t : Unit × xI × xJ} (h : f_X12_finds_3 x1 I J = some t) (hC : (c_X12_finds Q) t) : Rn L xs (d + 3) 225 22 [some (.ref 61), some (.int x1), none, none, none, none] [] 94 (I, J, xrf) Q := by
  unfold f_X12_finds_3 at h
  refine Rn.go 2 (j' := 225) (pc' := 24) (ls' := [some (.ref 61), some (.int 0), none, none, none, none]) (st' := []) (n' := 94) (M' := (I, J, xrf)) (fun f => rfl) ?_
  exact p_X12_finds_4 0 none none I J h hC
theorem p_X12_finds_2 {L : Nat} {xs : Nat → Int32} {d : Nat} {Q : xO → Prop} (x1 : Int32) (I : xI) (J : xJ) {t : (Int32 × xI × xJ) ⊕ (Unit × xI × xJ)} (h : f_X12_finds_2 x1 I J = some t) (hC : (c_X12_finds_1 L xs d Q) t) : Rn L xs (d + 3) 225 8 [some (.ref 61), some (.int x1), none, none, none, none] [] 94 (I, J, xrf) Q := by
  unfold f_X12_finds_2 at h
  obtain ⟨hc, h⟩ := xif h
  refine Rn.ok 5 (c := x1 < 0 ∨ 36 ≤ x1.toNatClampNeg) (p1 := 16) (l1 := [some (.ref 61), some (.int x1), none, none, none, none]) (s1 := []) (n1 := 94) (M1 := ((xup I 76 x1.toNatClampNeg ((-2))), J, xrf)) (fun f => rfl) hc ?_
  refine Rn.go 2 (j' := 225) (pc' := 2) (ls' := [some (.ref 61), some (.int ((x1 + 1))), none, none, none, none]) (st' := []) (n' := 94) (M' := ((xup I 76 x1.toNatClampNeg ((-2))), J, xrf)) (fun f => rfl) ?_
  cases h; exact hC
theorem q_X12_finds_1 {L : Nat} {xs : Nat → Int32} {d : Nat} {Q : xO → Prop} (x1 : Int32) (I : xI) (J : xJ) {t : (Int32 × xI × xJ) ⊕ (Unit × xI × xJ)} (h : b_X12_finds_1 x1 I J = some t) (hC : (c_X12_finds_1 L xs d Q) t) : Rn L xs (d + 3) 225 2 [some (.ref 61), some (.int x1), none, none, none, none] [] 94 (I, J, xrf) Q := by
  unfold b_X12_finds_1 at h
  refine Rn.fi 3 (c := 36 ≤ x1) (p1 := 22) (l1 := [some (.ref 61), some (.int x1), none, none, none, none]) (s1 := []) (n1 := 94) (M1 := (I, J, xrf)) (p2 := 8) (l2 := [some (.ref 61), some (.int x1), none, none, none, none]) (s2 := []) (n2 := 94) (M2 := (I, J, xrf)) (fun f => rfl) (fun hc => ?_) (fun hc => ?_)
  · rw [if_pos hc] at h
    obtain ⟨t0, h0, rfl⟩ := Option.map_eq_some_iff.mp h
    exact p_X12_finds_3 x1 I J h0 hC
  · rw [if_neg hc] at h
    exact p_X12_finds_2 x1 I J h hC
theorem p_X12_finds_1 {L : Nat} {xs : Nat → Int32} {d : Nat} {Q : xO → Prop} (x1 : Int32) (I : xI) (J : xJ) {t : Unit × xI × xJ} (h : f_X12_finds_1 x1 I J = some t) (hC : (c_X12_finds Q) t) : Rn L xs (d + 3) 225 2 [some (.ref 61), some (.int x1), none, none, none, none] [] 94 (I, J, xrf) Q := by
  unfold f_X12_finds_1 at h
  exact xloop_some (P := fun s : Int32 × xI × xJ => Rn L xs (d + 3) 225 2 [some (.ref 61), some (.int s.1), none, none, none, none] [] 94 (s.2.1, s.2.2, xrf) Q) t (fun s ⟨s', hb, hp⟩ => q_X12_finds_1 s.1 s.2.1 s.2.2 hb hp) (fun s hb => q_X12_finds_1 s.1 s.2.1 s.2.2 hb hC) _ _ h
theorem p_X12_finds_0 {L : Nat} {xs : Nat → Int32} {d : Nat} {Q : xO → Prop} (I : xI) (J : xJ) {t : Unit × xI × xJ} (h : f_X12_finds_0 I J = some t) (hC : (c_X12_finds Q) t) : Rn L xs (d + 3) 225 0 [some (.ref 61), none, none, none, none, none] [] 94 (I, J, xrf) Q := by
  unfold f_X12_finds_0 at h
  refine Rn.go 2 (j' := 225) (pc' := 2) (ls' := [some (.ref 61), some (.int 0), none, none, none, none]) (st' := []) (n' := 94) (M' := (I, J, xrf)) (fun f => rfl) ?_
  exact p_X12_finds_1 0 I J h hC
theorem p_X12_finds {L : Nat} {xs : Nat → Int32} {d : Nat} {Q : xO → Prop} (I : xI) (J : xJ) {t : Unit × xI × xJ} (h : f_X12_finds I J = some t) (hC : Q (none, 94, (t.2.1, t.2.2, xrf))) : Rn L xs (d + 3) 225 0 [some (.ref 61), none, none, none, none, none] [] 94 (I, J, xrf) Q := p_X12_finds_0 I J h hC
/-! X12_has -/
def c_X12_has (Q : xO → Prop) (t : Int32 × xI × xJ) : Prop := Q ((some (.int t.1)), 94, (t.2.1, t.2.2, xrf))
def f_X12_has_3 (x0 : Int32) (x1 : Int32) (s0 : Int32) (I : xI) (J : xJ) : Option (Int32 × xI × xJ) := if s0 = 0 ∨ s0 = 1 then some (s0, I, J) else none
def f_X12_has_2 (x0 : Int32) (x1 : Int32) (I : xI) (J : xJ) : Option (Int32 × xI × xJ) := f_X12_has_3 x0 x1 0 I J
def f_X12_has_1 (x0 : Int32) (x1 : Int32) (I : xI) (J : xJ) : Option (Int32 × xI × xJ) := f_X12_has_3 x0 x1 1 I J
def f_X12_has_0 (x0 : Int32) (x1 : Int32) (I : xI) (J : xJ) : Option (Int32 × xI × xJ) := if ((x0 >>> (x1 &&& 31)) &&& 1) = 1 then f_X12_has_1 x0 x1 I J else f_X12_has_2 x0 x1 I J
def f_X12_has (x0 : Int32) (x1 : Int32) (I : xI) (J : xJ) : Option (Int32 × xI × xJ) := f_X12_has_0 x0 x1 I J
theorem p_X12_has_3 {L : Nat} {xs : Nat → Int32} {d : Nat} {Q : xO → Prop} (x0 : Int32) (x1 : Int32) (s0 : Int32) (I : xI) (J : xJ) {t : Int32 × xI × xJ} (h : f_X12_has_3 x0 x1 s0 I J = some t) (hC : (c_X12_has Q) t) : Rn L xs (d + 1) 214 14 [some (.int x0), some (.int x1)] [.int s0] 94 (I, J, xrf) Q := by
  unfold f_X12_has_3 at h
  obtain ⟨hc, h⟩ := xifT h
  cases h
  exact Rn.retT 1 (c := s0 = 0 ∨ s0 = 1) (o := ((some (.int s0)), 94, (I, J, xrf))) (fun f => rfl) hc hC
theorem p_X12_has_2 {L : Nat} {xs : Nat → Int32} {d : Nat} {Q : xO → Prop} (x0 : Int32) (x1 : Int32) (I : xI) (J : xJ) {t : Int32 × xI × xJ} (h : f_X12_has_2 x0 x1 I J = some t) (hC : (c_X12_has Q) t) : Rn L xs (d + 1) 214 13 [some (.int x0), some (.int x1)] [] 94 (I, J, xrf) Q := by
  unfold f_X12_has_2 at h
  refine Rn.go 1 (j' := 214) (pc' := 14) (ls' := [some (.int x0), some (.int x1)]) (st' := [.int 0]) (n' := 94) (M' := (I, J, xrf)) (fun f => rfl) ?_
  exact p_X12_has_3 x0 x1 0 I J h hC
theorem p_X12_has_1 {L : Nat} {xs : Nat → Int32} {d : Nat} {Q : xO → Prop} (x0 : Int32) (x1 : Int32) (I : xI) (J : xJ) {t : Int32 × xI × xJ} (h : f_X12_has_1 x0 x1 I J = some t) (hC : (c_X12_has Q) t) : Rn L xs (d + 1) 214 9 [some (.int x0), some (.int x1)] [] 94 (I, J, xrf) Q := by
  unfold f_X12_has_1 at h
  refine Rn.go 2 (j' := 214) (pc' := 14) (ls' := [some (.int x0), some (.int x1)]) (st' := [.int 1]) (n' := 94) (M' := (I, J, xrf)) (fun f => rfl) ?_
  exact p_X12_has_3 x0 x1 1 I J h hC
theorem p_X12_has_0 {L : Nat} {xs : Nat → Int32} {d : Nat} {Q : xO → Prop} (x0 : Int32) (x1 : Int32) (I : xI) (J : xJ) {t : Int32 × xI × xJ} (h : f_X12_has_0 x0 x1 I J = some t) (hC : (c_X12_has Q) t) : Rn L xs (d + 1) 214 0 [some (.int x0), some (.int x1)] [] 94 (I, J, xrf) Q := by
  unfold f_X12_has_0 at h
  refine Rn.fi 7 (c := ((x0 >>> (x1 &&& 31)) &&& 1) = 1) (p1 := 9) (l1 := [some (.int x0), some (.int x1)]) (s1 := []) (n1 := 94) (M1 := (I, J, xrf)) (p2 := 13) (l2 := [some (.int x0), some (.int x1)]) (s2 := []) (n2 := 94) (M2 := (I, J, xrf)) (fun f => rfl) (fun hc => ?_) (fun hc => ?_)
  · rw [if_pos hc] at h
    exact p_X12_has_1 x0 x1 I J h hC
  · rw [if_neg hc] at h
    exact p_X12_has_2 x0 x1 I J h hC
theorem p_X12_has {L : Nat} {xs : Nat → Int32} {d : Nat} {Q : xO → Prop} (x0 : Int32) (x1 : Int32) (I : xI) (J : xJ) {t : Int32 × xI × xJ} (h : f_X12_has x0 x1 I J = some t) (hC : Q ((some (.int t.1)), 94, (t.2.1, t.2.2, xrf))) : Rn L xs (d + 1) 214 0 [some (.int x0), some (.int x1)] [] 94 (I, J, xrf) Q := p_X12_has_0 x0 x1 I J h hC
/-! X12_isAlike -/
def c_X12_isAlike (Q : xO → Prop) (t : Int32 × xI × xJ) : Prop := Q ((some (.int t.1)), 94, (t.2.1, t.2.2, xrf))
def c_X12_isAlike_1 (L : Nat) (xs : Nat → Int32) (d : Nat) (Q : xO → Prop) (t : (Int32 × Int32 × (Option Value) × xI × xJ) ⊕ (Int32 × xI × xJ)) : Prop := match t with
  | .inl s => Rn L xs (d + 2) 233 2 [some (.ref 61), some (.int s.1), some (.int s.2.1), s.2.2.1] [] 94 (s.2.2.2.1, s.2.2.2.2, xrf) Q
  | .inr t => (c_X12_isAlike Q) t
def c_X12_isAlike_3 (L : Nat) (xs : Nat → Int32) (d : Nat) (Q : xO → Prop) (t : (Int32 × Int32 × Int32 × xI × xJ) ⊕ ((Int32 × Int32 × (Option Value) × xI × xJ) ⊕ (Int32 × xI × xJ))) : Prop := match t with
  | .inl s => Rn L xs (d + 2) 233 12 [some (.ref 61), some (.int s.1), some (.int s.2.1), some (.int s.2.2.1)] [] 94 (s.2.2.2.1, s.2.2.2.2, xrf) Q
  | .inr t => (c_X12_isAlike_1 L xs d Q) t
def f_X12_isAlike_12 (x1 : Int32) (x2 : Int32) (z3 : Option Value) (I : xI) (J : xJ) : Option (Int32 × xI × xJ) := some (1, I, J)
def f_X12_isAlike_11 (x1 : Int32) (x2 : Int32) (x3 : Int32) (I : xI) (J : xJ) : Option ((Int32 × Int32 × (Option Value) × xI × xJ) ⊕ (Int32 × xI × xJ)) := some (.inl (x1, ((x2 + 1)), (some (.int x3)), I, J))
def f_X12_isAlike_10 (x1 : Int32) (x2 : Int32) (x3 : Int32) (I : xI) (J : xJ) : Option ((Int32 × Int32 × Int32 × xI × xJ) ⊕ ((Int32 × Int32 × (Option Value) × xI × xJ) ⊕ (Int32 × xI × xJ))) := some (.inl (x1, x2, ((x3 + 1)), I, J))
def f_X12_isAlike_9 (x1 : Int32) (x2 : Int32) (x3 : Int32) (I : xI) (J : xJ) : Option (Int32 × xI × xJ) := some (0, I, J)
def f_X12_isAlike_8 (x1 : Int32) (x2 : Int32) (x3 : Int32) (I : xI) (J : xJ) : Option ((Int32 × Int32 × Int32 × xI × xJ) ⊕ ((Int32 × Int32 × (Option Value) × xI × xJ) ⊕ (Int32 × xI × xJ))) := if ((6 * x2) + x3) < 0 ∨ 36 ≤ (((6 * x2) + x3)).toNatClampNeg then none else if (I 76 (((6 * x2) + x3)).toNatClampNeg) < 0 then f_X12_isAlike_10 x1 x2 x3 I J else (((f_X12_isAlike_9 x1 x2 x3 I J)).map .inr).map .inr
def f_X12_isAlike_7 (x1 : Int32) (x2 : Int32) (x3 : Int32) (s0 : Int32) (I : xI) (J : xJ) : Option ((Int32 × Int32 × Int32 × xI × xJ) ⊕ ((Int32 × Int32 × (Option Value) × xI × xJ) ⊕ (Int32 × xI × xJ))) := if s0 = 0 then f_X12_isAlike_10 x1 x2 x3 I J else f_X12_isAlike_8 x1 x2 x3 I J
def f_X12_isAlike_6 (x1 : Int32) (x2 : Int32) (x3 : Int32) (I : xI) (J : xJ) : Option ((Int32 × Int32 × Int32 × xI × xJ) ⊕ ((Int32 × Int32 × (Option Value) × xI × xJ) ⊕ (Int32 × xI × xJ))) := (f_X12_has x1 x3 I J).bind fun o => f_X12_isAlike_7 x1 x2 x3 o.1 o.2.1 o.2.2
def f_X12_isAlike_5 (x1 : Int32) (x2 : Int32) (x3 : Int32) (s0 : Int32) (I : xI) (J : xJ) : Option ((Int32 × Int32 × Int32 × xI × xJ) ⊕ ((Int32 × Int32 × (Option Value) × xI × xJ) ⊕ (Int32 × xI × xJ))) := if s0 = 0 then f_X12_isAlike_10 x1 x2 x3 I J else f_X12_isAlike_6 x1 x2 x3 I J
def f_X12_isAlike_4 (x1 : Int32) (x2 : Int32) (x3 : Int32) (I : xI) (J : xJ) : Option ((Int32 × Int32 × Int32 × xI × xJ) ⊕ ((Int32 × Int32 × (Option Value) × xI × xJ) ⊕ (Int32 × xI × xJ))) := (f_X12_has x1 x2 I J).bind fun o => f_X12_isAlike_5 x1 x2 x3 o.1 o.2.1 o.2.2
def b_X12_isAlike_3 (x1 : Int32) (x2 : Int32) (x3 : Int32) (I : xI) (J : xJ) : Option ((Int32 × Int32 × Int32 × xI × xJ) ⊕ ((Int32 × Int32 × (Option Value) × xI × xJ) ⊕ (Int32 × xI × xJ))) := if x2 ≤ x3 then ((f_X12_isAlike_11 x1 x2 x3 I J)).map .inr else f_X12_isAlike_4 x1 x2 x3 I J
def f_X12_isAlike_3 (x1 : Int32) (x2 : Int32) (x3 : Int32) (I : xI) (J : xJ) : Option ((Int32 × Int32 × (Option Value) × xI × xJ) ⊕ (Int32 × xI × xJ)) := xloop (fun s : Int32 × Int32 × Int32 × xI × xJ => b_X12_isAlike_3 s.1 s.2.1 s.2.2.1 s.2.2.2.1 s.2.2.2.2) 5000 (x1, x2, x3, I, J)
def f_X12_isAlike_2 (x1 : Int32) (x2 : Int32) (z3 : Option Value) (I : xI) (J : xJ) : Option ((Int32 × Int32 × (Option Value) × xI × xJ) ⊕ (Int32 × xI × xJ)) := f_X12_isAlike_3 x1 x2 0 I J
def b_X12_isAlike_1 (x1 : Int32) (x2 : Int32) (z3 : Option Value) (I : xI) (J : xJ) : Option ((Int32 × Int32 × (Option Value) × xI × xJ) ⊕ (Int32 × xI × xJ)) := if (I 61 17) ≤ x2 then ((f_X12_isAlike_12 x1 x2 z3 I J)).map .inr else f_X12_isAlike_2 x1 x2 z3 I J
def f_X12_isAlike_1 (x1 : Int32) (x2 : Int32) (z3 : Option Value) (I : xI) (J : xJ) : Option (Int32 × xI × xJ) := xloop (fun s : Int32 × Int32 × (Option Value) × xI × xJ => b_X12_isAlike_1 s.1 s.2.1 s.2.2.1 s.2.2.2.1 s.2.2.2.2) 5000 (x1, x2, z3, I, J)
def f_X12_isAlike_0 (x1 : Int32) (I : xI) (J : xJ) : Option (Int32 × xI × xJ) := f_X12_isAlike_1 x1 0 none I J
def f_X12_isAlike (x1 : Int32) (I : xI) (J : xJ) : Option (Int32 × xI × xJ) := f_X12_isAlike_0 x1 I J
theorem p_X12_isAlike_12 {L : Nat} {xs : Nat → Int32} {d : Nat} {Q : xO → Prop} (x1 : Int32) (x2 : Int32) (z3 : Option Value) (I : xI) (J : xJ) {t : Int32 × xI × xJ} (h : f_X12_isAlike_12 x1 x2 z3 I J = some t) (hC : (c_X12_isAlike Q) t) : Rn L xs (d + 2) 233 61 [some (.ref 61), some (.int x1), some (.int x2), z3] [] 94 (I, J, xrf) Q := by
  unfold f_X12_isAlike_12 at h
  cases h
  exact Rn.ret 2 (o := ((some (.int 1)), 94, (I, J, xrf))) (fun f => rfl) hC
theorem p_X12_isAlike_11 {L : Nat} {xs : Nat → Int32} {d : Nat} {Q : xO → Prop} (x1 : Int32) (x2 : Int32) (x3 : Int32) (I : xI) (J : xJ) {t : (Int32 × Int32 × (Option Value) × xI × xJ) ⊕ (Int32 × xI × xJ)} (h : f_X12_isAlike_11 x1 x2 x3 I J = some t) (hC : (c_X12_isAlike_1 L xs d Q) t) : Rn L xs (d + 2) 233 55 [some (.ref 61), some (.int x1), some (.int x2), some (.int x3)] [] 94 (I, J, xrf) Q := by
  unfold f_X12_isAlike_11 at h
  refine Rn.go 2 (j' := 233) (pc' := 2) (ls' := [some (.ref 61), some (.int x1), some (.int ((x2 + 1))), some (.int x3)]) (st' := []) (n' := 94) (M' := (I, J, xrf)) (fun f => rfl) ?_
  cases h; exact hC
theorem p_X12_isAlike_10 {L : Nat} {xs : Nat → Int32} {d : Nat} {Q : xO → Prop} (x1 : Int32) (x2 : Int32) (x3 : Int32) (I : xI) (J : xJ) {t : (Int32 × Int32 × Int32 × xI × xJ) ⊕ ((Int32 × Int32 × (Option Value) × xI × xJ) ⊕ (Int32 × xI × xJ))} (h : f_X12_isAlike_10 x1 x2 x3 I J = some t) (hC : (c_X12_isAlike_3 L xs d Q) t) : Rn L xs (d + 2) 233 49 [some (.ref 61), some (.int x1), some (.int x2), some (.int x3)] [] 94 (I, J, xrf) Q := by
  unfold f_X12_isAlike_10 at h
  refine Rn.go 2 (j' := 233) (pc' := 12) (ls' := [some (.ref 61), some (.int x1), some (.int x2), some (.int ((x3 + 1)))]) (st' := []) (n' := 94) (M' := (I, J, xrf)) (fun f => rfl) ?_
  cases h; exact hC
theorem p_X12_isAlike_9 {L : Nat} {xs : Nat → Int32} {d : Nat} {Q : xO → Prop} (x1 : Int32) (x2 : Int32) (x3 : Int32) (I : xI) (J : xJ) {t : Int32 × xI × xJ} (h : f_X12_isAlike_9 x1 x2 x3 I J = some t) (hC : (c_X12_isAlike Q) t) : Rn L xs (d + 2) 233 47 [some (.ref 61), some (.int x1), some (.int x2), some (.int x3)] [] 94 (I, J, xrf) Q := by
  unfold f_X12_isAlike_9 at h
  cases h
  exact Rn.ret 2 (o := ((some (.int 0)), 94, (I, J, xrf))) (fun f => rfl) hC
theorem p_X12_isAlike_8 {L : Nat} {xs : Nat → Int32} {d : Nat} {Q : xO → Prop} (x1 : Int32) (x2 : Int32) (x3 : Int32) (I : xI) (J : xJ) {t : (Int32 × Int32 × Int32 × xI × xJ) ⊕ ((Int32 × Int32 × (Option Value) × xI × xJ) ⊕ (Int32 × xI × xJ))} (h : f_X12_isAlike_8 x1 x2 x3 I J = some t) (hC : (c_X12_isAlike_3 L xs d Q) t) : Rn L xs (d + 2) 233 33 [some (.ref 61), some (.int x1), some (.int x2), some (.int x3)] [] 94 (I, J, xrf) Q := by
  unfold f_X12_isAlike_8 at h
  obtain ⟨hc, h⟩ := xif h
  refine Rn.ok 8 (c := ((6 * x2) + x3) < 0 ∨ 36 ≤ (((6 * x2) + x3)).toNatClampNeg) (p1 := 44) (l1 := [some (.ref 61), some (.int x1), some (.int x2), some (.int x3)]) (s1 := [.int ((I 76 (((6 * x2) + x3)).toNatClampNeg))]) (n1 := 94) (M1 := (I, J, xrf)) (fun f => rfl) hc ?_
  refine Rn.fi 1 (c := (I 76 (((6 * x2) + x3)).toNatClampNeg) < 0) (p1 := 49) (l1 := [some (.ref 61), some (.int x1), some (.int x2), some (.int x3)]) (s1 := []) (n1 := 94) (M1 := (I, J, xrf)) (p2 := 47) (l2 := [some (.ref 61), some (.int x1), some (.int x2), some (.int x3)]) (s2 := []) (n2 := 94) (M2 := (I, J, xrf)) (fun f => rfl) (fun hc => ?_) (fun hc => ?_)
  · rw [if_pos hc] at h
    exact p_X12_isAlike_10 x1 x2 x3 I J h hC
  · rw [if_neg hc] at h
    obtain ⟨t0, h0, rfl⟩ := Option.map_eq_some_iff.mp h
    obtain ⟨t1, h1, rfl⟩ := Option.map_eq_some_iff.mp h0
    exact p_X12_isAlike_9 x1 x2 x3 I J h1 hC
theorem p_X12_isAlike_7 {L : Nat} {xs : Nat → Int32} {d : Nat} {Q : xO → Prop} (x1 : Int32) (x2 : Int32) (x3 : Int32) (s0 : Int32) (I : xI) (J : xJ) {t : (Int32 × Int32 × Int32 × xI × xJ) ⊕ ((Int32 × Int32 × (Option Value) × xI × xJ) ⊕ (Int32 × xI × xJ))} (h : f_X12_isAlike_7 x1 x2 x3 s0 I J = some t) (hC : (c_X12_isAlike_3 L xs d Q) t) : Rn L xs (d + 2) 233 30 [some (.ref 61), some (.int x1), some (.int x2), some (.int x3)] [.int s0] 94 (I, J, xrf) Q := by
  unfold f_X12_isAlike_7 at h
  refine Rn.fi 1 (c := s0 = 0) (p1 := 49) (l1 := [some (.ref 61), some (.int x1), some (.int x2), some (.int x3)]) (s1 := []) (n1 := 94) (M1 := (I, J, xrf)) (p2 := 33) (l2 := [some (.ref 61), some (.int x1), some (.int x2), some (.int x3)]) (s2 := []) (n2 := 94) (M2 := (I, J, xrf)) (fun f => rfl) (fun hc => ?_) (fun hc => ?_)
  · rw [if_pos hc] at h
    exact p_X12_isAlike_10 x1 x2 x3 I J h hC
  · rw [if_neg hc] at h
    exact p_X12_isAlike_8 x1 x2 x3 I J h hC
theorem p_X12_isAlike_6 {L : Nat} {xs : Nat → Int32} {d : Nat} {Q : xO → Prop} (x1 : Int32) (x2 : Int32) (x3 : Int32) (I : xI) (J : xJ) {t : (Int32 × Int32 × Int32 × xI × xJ) ⊕ ((Int32 × Int32 × (Option Value) × xI × xJ) ⊕ (Int32 × xI × xJ))} (h : f_X12_isAlike_6 x1 x2 x3 I J = some t) (hC : (c_X12_isAlike_3 L xs d Q) t) : Rn L xs (d + 2) 233 25 [some (.ref 61), some (.int x1), some (.int x2), some (.int x3)] [] 94 (I, J, xrf) Q := by
  unfold f_X12_isAlike_6 at h
  refine Rn.go 2 (j' := 233) (pc' := 27) (ls' := [some (.ref 61), some (.int x1), some (.int x2), some (.int x3)]) (st' := [.int x3, .int x1]) (n' := 94) (M' := (I, J, xrf)) (fun f => rfl) ?_
  obtain ⟨o, ho, h⟩ := Option.bind_eq_some_iff.mp h
  refine Rn.call (d1 := d + 1) (j1 := 214) (ls1 := [some (.int x1), some (.int x3)]) (rest := []) (fun f => rfl) ?_
  refine p_X12_has (d := d + 0) x1 x3 I J (t := o) ho ?_
  exact p_X12_isAlike_7 x1 x2 x3 o.1 o.2.1 o.2.2 h hC
theorem p_X12_isAlike_5 {L : Nat} {xs : Nat → Int32} {d : Nat} {Q : xO → Prop} (x1 : Int32) (x2 : Int32) (x3 : Int32) (s0 : Int32) (I : xI) (J : xJ) {t : (Int32 × Int32 × Int32 × xI × xJ) ⊕ ((Int32 × Int32 × (Option Value) × xI × xJ) ⊕ (Int32 × xI × xJ))} (h : f_X12_isAlike_5 x1 x2 x3 s0 I J = some t) (hC : (c_X12_isAlike_3 L xs d Q) t) : Rn L xs (d + 2) 233 22 [some (.ref 61), some (.int x1), some (.int x2), some (.int x3)] [.int s0] 94 (I, J, xrf) Q := by
  unfold f_X12_isAlike_5 at h
  refine Rn.fi 1 (c := s0 = 0) (p1 := 49) (l1 := [some (.ref 61), some (.int x1), some (.int x2), some (.int x3)]) (s1 := []) (n1 := 94) (M1 := (I, J, xrf)) (p2 := 25) (l2 := [some (.ref 61), some (.int x1), some (.int x2), some (.int x3)]) (s2 := []) (n2 := 94) (M2 := (I, J, xrf)) (fun f => rfl) (fun hc => ?_) (fun hc => ?_)
  · rw [if_pos hc] at h
    exact p_X12_isAlike_10 x1 x2 x3 I J h hC
  · rw [if_neg hc] at h
    exact p_X12_isAlike_6 x1 x2 x3 I J h hC
theorem p_X12_isAlike_4 {L : Nat} {xs : Nat → Int32} {d : Nat} {Q : xO → Prop} (x1 : Int32) (x2 : Int32) (x3 : Int32) (I : xI) (J : xJ) {t : (Int32 × Int32 × Int32 × xI × xJ) ⊕ ((Int32 × Int32 × (Option Value) × xI × xJ) ⊕ (Int32 × xI × xJ))} (h : f_X12_isAlike_4 x1 x2 x3 I J = some t) (hC : (c_X12_isAlike_3 L xs d Q) t) : Rn L xs (d + 2) 233 17 [some (.ref 61), some (.int x1), some (.int x2), some (.int x3)] [] 94 (I, J, xrf) Q := by
  unfold f_X12_isAlike_4 at h
  refine Rn.go 2 (j' := 233) (pc' := 19) (ls' := [some (.ref 61), some (.int x1), some (.int x2), some (.int x3)]) (st' := [.int x2, .int x1]) (n' := 94) (M' := (I, J, xrf)) (fun f => rfl) ?_
  obtain ⟨o, ho, h⟩ := Option.bind_eq_some_iff.mp h
  refine Rn.call (d1 := d + 1) (j1 := 214) (ls1 := [some (.int x1), some (.int x2)]) (rest := []) (fun f => rfl) ?_
  refine p_X12_has (d := d + 0) x1 x2 I J (t := o) ho ?_
  exact p_X12_isAlike_5 x1 x2 x3 o.1 o.2.1 o.2.2 h hC
theorem q_X12_isAlike_3 {L : Nat} {xs : Nat → Int32} {d : Nat} {Q : xO → Prop} (x1 : Int32) (x2 : Int32) (x3 : Int32) (I : xI) (J : xJ) {t : (Int32 × Int32 × Int32 × xI × xJ) ⊕ ((Int32 × Int32 × (Option Value) × xI × xJ) ⊕ (Int32 × xI × xJ))} (h : b_X12_isAlike_3 x1 x2 x3 I J = some t) (hC : (c_X12_isAlike_3 L xs d Q) t) : Rn L xs (d + 2) 233 12 [some (.ref 61), some (.int x1), some (.int x2), some (.int x3)] [] 94 (I, J, xrf) Q := by
  unfold b_X12_isAlike_3 at h
  refine Rn.fi 3 (c := x2 ≤ x3) (p1 := 55) (l1 := [some (.ref 61), some (.int x1), some (.int x2), some (.int x3)]) (s1 := []) (n1 := 94) (M1 := (I, J, xrf)) (p2 := 17) (l2 := [some (.ref 61), some (.int x1), some (.int x2), some (.int x3)]) (s2 := []) (n2 := 94) (M2 := (I, J, xrf)) (fun f => rfl) (fun hc => ?_) (fun hc => ?_)
  · rw [if_pos hc] at h
    obtain ⟨t0, h0, rfl⟩ := Option.map_eq_some_iff.mp h
    exact p_X12_isAlike_11 x1 x2 x3 I J h0 hC
  · rw [if_neg hc] at h
    exact p_X12_isAlike_4 x1 x2 x3 I J h hC
theorem p_X12_isAlike_3 {L : Nat} {xs : Nat → Int32} {d : Nat} {Q : xO → Prop} (x1 : Int32) (x2 : Int32) (x3 : Int32) (I : xI) (J : xJ) {t : (Int32 × Int32 × (Option Value) × xI × xJ) ⊕ (Int32 × xI × xJ)} (h : f_X12_isAlike_3 x1 x2 x3 I J = some t) (hC : (c_X12_isAlike_1 L xs d Q) t) : Rn L xs (d + 2) 233 12 [some (.ref 61), some (.int x1), some (.int x2), some (.int x3)] [] 94 (I, J, xrf) Q := by
  unfold f_X12_isAlike_3 at h
  exact xloop_some (P := fun s : Int32 × Int32 × Int32 × xI × xJ => Rn L xs (d + 2) 233 12 [some (.ref 61), some (.int s.1), some (.int s.2.1), some (.int s.2.2.1)] [] 94 (s.2.2.2.1, s.2.2.2.2, xrf) Q) t (fun s ⟨s', hb, hp⟩ => q_X12_isAlike_3 s.1 s.2.1 s.2.2.1 s.2.2.2.1 s.2.2.2.2 hb hp) (fun s hb => q_X12_isAlike_3 s.1 s.2.1 s.2.2.1 s.2.2.2.1 s.2.2.2.2 hb hC) _ _ h
theorem p_X12_isAlike_2 {L : Nat} {xs : Nat → Int32} {d : Nat} {Q : xO → Prop} (x1 : Int32) (x2 : Int32) (z3 : Option Value) (I : xI) (J : xJ) {t : (Int32 × Int32 × (Option Value) × xI × xJ) ⊕ (Int32 × xI × xJ)} (h : f_X12_isAlike_2 x1 x2 z3 I J = some t) (hC : (c_X12_isAlike_1 L xs d Q) t) : Rn L xs (d + 2) 233 10 [some (.ref 61), some (.int x1), some (.int x2), z3] [] 94 (I, J, xrf) Q := by
  unfold f_X12_isAlike_2 at h
  refine Rn.go 2 (j' := 233) (pc' := 12) (ls' := [some (.ref 61), some (.int x1), some (.int x2), some (.int 0)]) (st' := []) (n' := 94) (M' := (I, J, xrf)) (fun f => rfl) ?_
  exact p_X12_isAlike_3 x1 x2 0 I J h hC
theorem q_X12_isAlike_1 {L : Nat} {xs : Nat → Int32} {d : Nat} {Q : xO → Prop} (x1 : Int32) (x2 : Int32) (z3 : Option Value) (I : xI) (J : xJ) {t : (Int32 × Int32 × (Option Value) × xI × xJ) ⊕ (Int32 × xI × xJ)} (h : b_X12_isAlike_1 x1 x2 z3 I J = some t) (hC : (c_X12_isAlike_1 L xs d Q) t) : Rn L xs (d + 2) 233 2 [some (.ref 61), some (.int x1), some (.int x2), z3] [] 94 (I, J, xrf) Q := by
  unfold b_X12_isAlike_1 at h
  refine Rn.fi 4 (c := (I 61 17) ≤ x2) (p1 := 61) (l1 := [some (.ref 61), some (.int x1), some (.int x2), z3]) (s1 := []) (n1 := 94) (M1 := (I, J, xrf)) (p2 := 10) (l2 := [some (.ref 61), some (.int x1), some (.int x2), z3]) (s2 := []) (n2 := 94) (M2 := (I, J, xrf)) (fun f => rfl) (fun hc => ?_) (fun hc => ?_)
  · rw [if_pos hc] at h
    obtain ⟨t0, h0, rfl⟩ := Option.map_eq_some_iff.mp h
    exact p_X12_isAlike_12 x1 x2 z3 I J h0 hC
  · rw [if_neg hc] at h
    exact p_X12_isAlike_2 x1 x2 z3 I J h hC
theorem p_X12_isAlike_1 {L : Nat} {xs : Nat → Int32} {d : Nat} {Q : xO → Prop} (x1 : Int32) (x2 : Int32) (z3 : Option Value) (I : xI) (J : xJ) {t : Int32 × xI × xJ} (h : f_X12_isAlike_1 x1 x2 z3 I J = some t) (hC : (c_X12_isAlike Q) t) : Rn L xs (d + 2) 233 2 [some (.ref 61), some (.int x1), some (.int x2), z3] [] 94 (I, J, xrf) Q := by
  unfold f_X12_isAlike_1 at h
  exact xloop_some (P := fun s : Int32 × Int32 × (Option Value) × xI × xJ => Rn L xs (d + 2) 233 2 [some (.ref 61), some (.int s.1), some (.int s.2.1), s.2.2.1] [] 94 (s.2.2.2.1, s.2.2.2.2, xrf) Q) t (fun s ⟨s', hb, hp⟩ => q_X12_isAlike_1 s.1 s.2.1 s.2.2.1 s.2.2.2.1 s.2.2.2.2 hb hp) (fun s hb => q_X12_isAlike_1 s.1 s.2.1 s.2.2.1 s.2.2.2.1 s.2.2.2.2 hb hC) _ _ h
theorem p_X12_isAlike_0 {L : Nat} {xs : Nat → Int32} {d : Nat} {Q : xO → Prop} (x1 : Int32) (I : xI) (J : xJ) {t : Int32 × xI × xJ} (h : f_X12_isAlike_0 x1 I J = some t) (hC : (c_X12_isAlike Q) t) : Rn L xs (d + 2) 233 0 [some (.ref 61), some (.int x1), none, none] [] 94 (I, J, xrf) Q := by
  unfold f_X12_isAlike_0 at h
  refine Rn.go 2 (j' := 233) (pc' := 2) (ls' := [some (.ref 61), some (.int x1), some (.int 0), none]) (st' := []) (n' := 94) (M' := (I, J, xrf)) (fun f => rfl) ?_
  exact p_X12_isAlike_1 x1 0 none I J h hC
theorem p_X12_isAlike {L : Nat} {xs : Nat → Int32} {d : Nat} {Q : xO → Prop} (x1 : Int32) (I : xI) (J : xJ) {t : Int32 × xI × xJ} (h : f_X12_isAlike x1 I J = some t) (hC : Q ((some (.int t.1)), 94, (t.2.1, t.2.2, xrf))) : Rn L xs (d + 2) 233 0 [some (.ref 61), some (.int x1), none, none] [] 94 (I, J, xrf) Q := p_X12_isAlike_0 x1 I J h hC
