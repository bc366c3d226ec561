/-! X12_doesHang -/
def c_X12_doesHang (Q : xO → Prop) (t : Int32 × xI × xJ) : Prop := Q ((some (.int t.1)), 94, (t.2.1, t.2.2, xrf))
def c_X12_doesHang_1 (L : Nat) (xs : Nat → Int32) (d : Nat) (Q : xO → Prop) (t : (Int32 × Int32 × Int32 × (Option Value) × (Option Value) × xI × xJ) ⊕ (Int32 × xI × xJ)) : Prop := match t with
  | .inl s => Rn L xs (d + 2) 275 2 [some (.ref 61), some (.int s.1), some (.int s.2.1), some (.int s.2.2.1), s.2.2.2.1, s.2.2.2.2.1] [] 94 (s.2.2.2.2.2.1, s.2.2.2.2.2.2, xrf) Q
  | .inr t => (c_X12_doesHang Q) t
def c_X12_doesHang_3 (L : Nat) (xs : Nat → Int32) (d : Nat) (Q : xO → Prop) (t : (Int32 × Int32 × Int32 × Int32 × (Option Value) × xI × xJ) ⊕ ((Int32 × Int32 × Int32 × (Option Value) × (Option Value) × xI × xJ) ⊕ (Int32 × xI × xJ))) : Prop := match t with
  | .inl s => Rn L xs (d + 2) 275 13 [some (.ref 61), some (.int s.1), some (.int s.2.1), some (.int s.2.2.1), some (.int s.2.2.2.1), s.2.2.2.2.1] [] 94 (s.2.2.2.2.2.1, s.2.2.2.2.2.2, xrf) Q
  | .inr t => (c_X12_doesHang_1 L xs d Q) t
def c_X12_doesHang_7 (L : Nat) (xs : Nat → Int32) (d : Nat) (Q : xO → Prop) (t : (Int32 × Int32 × Int32 × Int32 × Int32 × xI × xJ) ⊕ ((Int32 × Int32 × Int32 × Int32 × (Option Value) × xI × xJ) ⊕ ((Int32 × Int32 × Int32 × (Option Value) × (Option Value) × xI × xJ) ⊕ (Int32 × xI × xJ)))) : Prop := match t with
  | .inl s => Rn L xs (d + 2) 275 44 [some (.ref 61), some (.int s.1), some (.int s.2.1), some (.int s.2.2.1), some (.int s.2.2.2.1), some (.int s.2.2.2.2.1)] [] 94 (s.2.2.2.2.2.1, s.2.2.2.2.2.2, xrf) Q
  | .inr t => (c_X12_doesHang_3 L xs d Q) t
def f_X12_doesHang_20 (x1 : Int32) (x2 : Int32) (x3 : Int32) (z4 : Option Value) (z5 : Option Value) (I : xI) (J : xJ) : Option (Int32 × xI × xJ) := some (1, I, J)
def f_X12_doesHang_19 (x1 : Int32) (x2 : Int32) (x3 : Int32) (x4 : Int32) (z5 : Option Value) (I : xI) (J : xJ) : Option ((Int32 × Int32 × Int32 × (Option Value) × (Option Value) × xI × xJ) ⊕ (Int32 × xI × xJ)) := some (.inl (x1, x2, ((x3 + 1)), (some (.int x4)), z5, I, J))
def f_X12_doesHang_18 (x1 : Int32) (x2 : Int32) (x3 : Int32) (x4 : Int32) (z5 : Option Value) (I : xI) (J : xJ) : Option ((Int32 × Int32 × Int32 × Int32 × (Option Value) × xI × xJ) ⊕ ((Int32 × Int32 × Int32 × (Option Value) × (Option Value) × xI × xJ) ⊕ (Int32 × xI × xJ))) := some (.inl (x1, x2, x3, ((x4 + 1)), z5, I, J))
def f_X12_doesHang_17 (x1 : Int32) (x2 : Int32) (x3 : Int32) (x4 : Int32) (x5 : Int32) (I : xI) (J : xJ) : Option ((Int32 × Int32 × Int32 × Int32 × Int32 × xI × xJ) ⊕ ((Int32 × Int32 × Int32 × Int32 × (Option Value) × xI × xJ) ⊕ ((Int32 × Int32 × Int32 × (Option Value) × (Option Value) × xI × xJ) ⊕ (Int32 × xI × xJ)))) := some (.inl (x1, x2, x3, x4, ((x5 + 1)), I, J))
def f_X12_doesHang_16 (x1 : Int32) (x2 : Int32) (x3 : Int32) (x4 : Int32) (x5 : Int32) (I : xI) (J : xJ) : Option (Int32 × xI × xJ) := some (0, I, J)
def f_X12_doesHang_15 (x1 : Int32) (x2 : Int32) (x3 : Int32) (x4 : Int32) (x5 : Int32) (s0 : Int32) (I : xI) (J : xJ) : Option ((Int32 × Int32 × Int32 × Int32 × Int32 × xI × xJ) ⊕ ((Int32 × Int32 × Int32 × Int32 × (Option Value) × xI × xJ) ⊕ ((Int32 × Int32 × Int32 × (Option Value) × (Option Value) × xI × xJ) ⊕ (Int32 × xI × xJ)))) := if s0 = 0 then f_X12_doesHang_17 x1 x2 x3 x4 x5 I J else ((((f_X12_doesHang_16 x1 x2 x3 x4 x5 I J)).map .inr).map .inr).map .inr
def f_X12_doesHang_14 (x1 : Int32) (x2 : Int32) (x3 : Int32) (x4 : Int32) (x5 : Int32) (s0 : Int32) (s2 : Int32) (I : xI) (J : xJ) : Option ((Int32 × Int32 × Int32 × Int32 × Int32 × xI × xJ) ⊕ ((Int32 × Int32 × Int32 × Int32 × (Option Value) × xI × xJ) ⊕ ((Int32 × Int32 × Int32 × (Option Value) × (Option Value) × xI × xJ) ⊕ (Int32 × xI × xJ)))) := if s2 < 0 ∨ 6 ≤ s2.toNatClampNeg then none else (f_X12_has ((s0 ^^^ (I 86 s2.toNatClampNeg))) x1 I J).bind fun o => f_X12_doesHang_15 x1 x2 x3 x4 x5 o.1 o.2.1 o.2.2
def f_X12_doesHang_13 (x1 : Int32) (x2 : Int32) (x3 : Int32) (x4 : Int32) (x5 : Int32) (s1 : Int32) (I : xI) (J : xJ) : Option ((Int32 × Int32 × Int32 × Int32 × Int32 × xI × xJ) ⊕ ((Int32 × Int32 × Int32 × Int32 × (Option Value) × xI × xJ) ⊕ ((Int32 × Int32 × Int32 × (Option Value) × (Option Value) × xI × xJ) ⊕ (Int32 × xI × xJ)))) := if s1 < 0 ∨ 6 ≤ s1.toNatClampNeg then none else (f_X12_to x4 x5 I J).bind fun o => f_X12_doesHang_14 x1 x2 x3 x4 x5 ((I 86 s1.toNatClampNeg)) o.1 o.2.1 o.2.2
def f_X12_doesHang_12 (x1 : Int32) (x2 : Int32) (x3 : Int32) (x4 : Int32) (x5 : Int32) (I : xI) (J : xJ) : Option ((Int32 × Int32 × Int32 × Int32 × Int32 × xI × xJ) ⊕ ((Int32 × Int32 × Int32 × Int32 × (Option Value) × xI × xJ) ⊕ ((Int32 × Int32 × Int32 × (Option Value) × (Option Value) × xI × xJ) ⊕ (Int32 × xI × xJ)))) := (f_X12_to x3 x5 I J).bind fun o => f_X12_doesHang_13 x1 x2 x3 x4 x5 o.1 o.2.1 o.2.2
def f_X12_doesHang_11 (x1 : Int32) (x2 : Int32) (x3 : Int32) (x4 : Int32) (x5 : Int32) (s0 : Int32) (I : xI) (J : xJ) : Option ((Int32 × Int32 × Int32 × Int32 × Int32 × xI × xJ) ⊕ ((Int32 × Int32 × Int32 × Int32 × (Option Value) × xI × xJ) ⊕ ((Int32 × Int32 × Int32 × (Option Value) × (Option Value) × xI × xJ) ⊕ (Int32 × xI × xJ)))) := if s0 < 0 then f_X12_doesHang_17 x1 x2 x3 x4 x5 I J else f_X12_doesHang_12 x1 x2 x3 x4 x5 I J
def f_X12_doesHang_10 (x1 : Int32) (x2 : Int32) (x3 : Int32) (x4 : Int32) (x5 : Int32) (I : xI) (J : xJ) : Option ((Int32 × Int32 × Int32 × Int32 × Int32 × xI × xJ) ⊕ ((Int32 × Int32 × Int32 × Int32 × (Option Value) × xI × xJ) ⊕ ((Int32 × Int32 × Int32 × (Option Value) × (Option Value) × xI × xJ) ⊕ (Int32 × xI × xJ)))) := (f_X12_to x4 x5 I J).bind fun o => f_X12_doesHang_11 x1 x2 x3 x4 x5 o.1 o.2.1 o.2.2
def f_X12_doesHang_9 (x1 : Int32) (x2 : Int32) (x3 : Int32) (x4 : Int32) (x5 : Int32) (s0 : Int32) (I : xI) (J : xJ) : Option ((Int32 × Int32 × Int32 × Int32 × Int32 × xI × xJ) ⊕ ((Int32 × Int32 × Int32 × Int32 × (Option Value) × xI × xJ) ⊕ ((Int32 × Int32 × Int32 × (Option Value) × (Option Value) × xI × xJ) ⊕ (Int32 × xI × xJ)))) := if s0 < 0 then f_X12_doesHang_17 x1 x2 x3 x4 x5 I J else f_X12_doesHang_10 x1 x2 x3 x4 x5 I J
def f_X12_doesHang_8 (x1 : Int32) (x2 : Int32) (x3 : Int32) (x4 : Int32) (x5 : Int32) (I : xI) (J : xJ) : Option ((Int32 × Int32 × Int32 × Int32 × Int32 × xI × xJ) ⊕ ((Int32 × Int32 × Int32 × Int32 × (Option Value) × xI × xJ) ⊕ ((Int32 × Int32 × Int32 × (Option Value) × (Option Value) × xI × xJ) ⊕ (Int32 × xI × xJ)))) := (f_X12_to x3 x5 I J).bind fun o => f_X12_doesHang_9 x1 x2 x3 x4 x5 o.1 o.2.1 o.2.2
def b_X12_doesHang_7 (x1 : Int32) (x2 : Int32) (x3 : Int32) (x4 : Int32) (x5 : Int32) (I : xI) (J : xJ) : Option ((Int32 × Int32 × Int32 × Int32 × Int32 × xI × xJ) ⊕ ((Int32 × Int32 × Int32 × Int32 × (Option Value) × xI × xJ) ⊕ ((Int32 × Int32 × Int32 × (Option Value) × (Option Value) × xI × xJ) ⊕ (Int32 × xI × xJ)))) := if (I 61 18) ≤ x5 then ((f_X12_doesHang_18 x1 x2 x3 x4 (some (.int x5)) I J)).map .inr else f_X12_doesHang_8 x1 x2 x3 x4 x5 I J
def f_X12_doesHang_7 (x1 : Int32) (x2 : Int32) (x3 : Int32) (x4 : Int32) (x5 : Int32) (I : xI) (J : xJ) : Option ((Int32 × Int32 × Int32 × Int32 × (Option Value) × xI × xJ) ⊕ ((Int32 × Int32 × Int32 × (Option Value) × (Option Value) × xI × xJ) ⊕ (Int32 × xI × xJ))) := xloop (fun s : Int32 × Int32 × Int32 × Int32 × Int32 × xI × xJ => b_X12_doesHang_7 s.1 s.2.1 s.2.2.1 s.2.2.2.1 s.2.2.2.2.1 s.2.2.2.2.2.1 s.2.2.2.2.2.2) 5000 (x1, x2, x3, x4, x5, I, J)
def f_X12_doesHang_6 (x1 : Int32) (x2 : Int32) (x3 : Int32) (x4 : Int32) (z5 : Option Value) (I : xI) (J : xJ) : Option ((Int32 × Int32 × Int32 × Int32 × (Option Value) × xI × xJ) ⊕ ((Int32 × Int32 × Int32 × (Option Value) × (Option Value) × xI × xJ) ⊕ (Int32 × xI × xJ))) := f_X12_doesHang_7 x1 x2 x3 x4 0 I J
def f_X12_doesHang_5 (x1 : Int32) (x2 : Int32) (x3 : Int32) (x4 : Int32) (z5 : Option Value) (I : xI) (J : xJ) : Option ((Int32 × Int32 × Int32 × Int32 × (Option Value) × xI × xJ) ⊕ ((Int32 × Int32 × Int32 × (Option Value) × (Option Value) × xI × xJ) ⊕ (Int32 × xI × xJ))) := f_X12_doesHang_18 x1 x2 x3 x4 z5 I J
def f_X12_doesHang_4 (x1 : Int32) (x2 : Int32) (x3 : Int32) (x4 : Int32) (z5 : Option Value) (I : xI) (J : xJ) : Option ((Int32 × Int32 × Int32 × Int32 × (Option Value) × xI × xJ) ⊕ ((Int32 × Int32 × Int32 × (Option Value) × (Option Value) × xI × xJ) ⊕ (Int32 × xI × xJ))) := if x3 < 0 ∨ 6 ≤ x3.toNatClampNeg then none else if x4 < 0 ∨ 6 ≤ x4.toNatClampNeg then none else if (((I 86 x3.toNatClampNeg) ^^^ (I 86 x4.toNatClampNeg)) &&& x2) = 0 then f_X12_doesHang_6 x1 x2 x3 x4 z5 I J else f_X12_doesHang_5 x1 x2 x3 x4 z5 I J
def b_X12_doesHang_3 (x1 : Int32) (x2 : Int32) (x3 : Int32) (x4 : Int32) (z5 : Option Value) (I : xI) (J : xJ) : Option ((Int32 × Int32 × Int32 × Int32 × (Option Value) × xI × xJ) ⊕ ((Int32 × Int32 × Int32 × (Option Value) × (Option Value) × xI × xJ) ⊕ (Int32 × xI × xJ))) := if x3 ≤ x4 then ((f_X12_doesHang_19 x1 x2 x3 x4 z5 I J)).map .inr else f_X12_doesHang_4 x1 x2 x3 x4 z5 I J
def f_X12_doesHang_3 (x1 : Int32) (x2 : Int32) (x3 : Int32) (x4 : Int32) (z5 : Option Value) (I : xI) (J : xJ) : Option ((Int32 × Int32 × Int32 × (Option Value) × (Option Value) × xI × xJ) ⊕ (Int32 × xI × xJ)) := xloop (fun s : Int32 × Int32 × Int32 × Int32 × (Option Value) × xI × xJ => b_X12_doesHang_3 s.1 s.2.1 s.2.2.1 s.2.2.2.1 s.2.2.2.2.1 s.2.2.2.2.2.1 s.2.2.2.2.2.2) 5000 (x1, x2, x3, x4, z5, I, J)
def f_X12_doesHang_2 (x1 : Int32) (x2 : Int32) (x3 : Int32) (z4 : Option Value) (z5 : Option Value) (I : xI) (J : xJ) : Option ((Int32 × Int32 × Int32 × (Option Value) × (Option Value) × xI × xJ) ⊕ (Int32 × xI × xJ)) := f_X12_doesHang_3 x1 x2 x3 0 z5 I J
def b_X12_doesHang_1 (x1 : Int32) (x2 : Int32) (x3 : Int32) (z4 : Option Value) (z5 : Option Value) (I : xI) (J : xJ) : Option ((Int32 × Int32 × Int32 × (Option Value) × (Option Value) × xI × xJ) ⊕ (Int32 × xI × xJ)) := if (I 61 17) ≤ x3 then ((f_X12_doesHang_20 x1 x2 x3 z4 z5 I J)).map .inr else f_X12_doesHang_2 x1 x2 x3 z4 z5 I J
def f_X12_doesHang_1 (x1 : Int32) (x2 : Int32) (x3 : Int32) (z4 : Option Value) (z5 : Option Value) (I : xI) (J : xJ) : Option (Int32 × xI × xJ) := xloop (fun s : Int32 × Int32 × Int32 × (Option Value) × (Option Value) × xI × xJ => b_X12_doesHang_1 s.1 s.2.1 s.2.2.1 s.2.2.2.1 s.2.2.2.2.1 s.2.2.2.2.2.1 s.2.2.2.2.2.2) 5000 (x1, x2, x3, z4, z5, I, J)
def f_X12_doesHang_0 (x1 : Int32) (x2 : Int32) (I : xI) (J : xJ) : Option (Int32 × xI × xJ) := f_X12_doesHang_1 x1 x2 0 none none I J
def f_X12_doesHang (x1 : Int32) (x2 : Int32) (I : xI) (J : xJ) : Option (Int32 × xI × xJ) := f_X12_doesHang_0 x1 x2 I J
theorem p_X12_doesHang_20 {L : Nat} {xs : Nat → Int32} {d : Nat} {Q : xO → Prop} (x1 : Int32) (x2 : Int32) (x3 : Int32) (z4 : Option Value) (z5 : Option Value) (I : xI) (J : xJ) {t : Int32 × xI × xJ} (h : f_X12_doesHang_20 x1 x2 x3 z4 z5 I J = some t) (hC : (c_X12_doesHang Q) t) : Rn L xs (d + 2) 275 127 [some (.ref 61), some (.int x1), some (.int x2), some (.int x3), z4, z5] [] 94 (I, J, xrf) Q := by
  unfold f_X12_doesHang_20 at h
  cases h
  exact Rn.ret 2 (o := ((some (.int 1)), 94, (I, J, xrf))) (fun f => rfl) hC
theorem p_X12_doesHang_19 {L : Nat} {xs : Nat → Int32} {d : Nat} {Q : xO → Prop} (x1 : Int32) (x2 : Int32) (x3 : Int32) (x4 : Int32) (z5 : Option Value) (I : xI) (J : xJ) {t : (Int32 × Int32 × Int32 × (Option Value) × (Option Value) × xI × xJ) ⊕ (Int32 × xI × xJ)} (h : f_X12_doesHang_19 x1 x2 x3 x4 z5 I J = some t) (hC : (c_X12_doesHang_1 L xs d Q) t) : Rn L xs (d + 2) 275 121 [some (.ref 61), some (.int x1), some (.int x2), some (.int x3), some (.int x4), z5] [] 94 (I, J, xrf) Q := by
  unfold f_X12_doesHang_19 at h
  refine Rn.go 2 (j' := 275) (pc' := 2) (ls' := [some (.ref 61), some (.int x1), some (.int x2), some (.int ((x3 + 1))), some (.int x4), z5]) (st' := []) (n' := 94) (M' := (I, J, xrf)) (fun f => rfl) ?_
  cases h; exact hC
theorem p_X12_doesHang_18 {L : Nat} {xs : Nat → Int32} {d : Nat} {Q : xO → Prop} (x1 : Int32) (x2 : Int32) (x3 : Int32) (x4 : Int32) (z5 : Option Value) (I : xI) (J : xJ) {t : (Int32 × Int32 × Int32 × Int32 × (Option Value) × xI × xJ) ⊕ ((Int32 × Int32 × Int32 × (Option Value) × (Option Value) × xI × xJ) ⊕ (Int32 × xI × xJ))} (h : f_X12_doesHang_18 x1 x2 x3 x4 z5 I J = some t) (hC : (c_X12_doesHang_3 L xs d Q) t) : Rn L xs (d + 2) 275 115 [some (.ref 61), some (.int x1), some (.int x2), some (.int x3), some (.int x4), z5] [] 94 (I, J, xrf) Q := by
  unfold f_X12_doesHang_18 at h
  refine Rn.go 2 (j' := 275) (pc' := 13) (ls' := [some (.ref 61), some (.int x1), some (.int x2), some (.int x3), some (.int ((x4 + 1))), z5]) (st' := []) (n' := 94) (M' := (I, J, xrf)) (fun f => rfl) ?_
  cases h; exact hC
theorem p_X12_doesHang_17 {L : Nat} {xs : Nat → Int32} {d : Nat} {Q : xO → Prop} (x1 : Int32) (x2 : Int32) (x3 : Int32) (x4 : Int32) (x5 : Int32) (I : xI) (J : xJ) {t : (Int32 × Int32 × Int32 × Int32 × Int32 × xI × xJ) ⊕ ((Int32 × Int32 × Int32 × Int32 × (Option Value) × xI × xJ) ⊕ ((Int32 × Int32 × Int32 × (Option Value) × (Option Value) × xI × xJ) ⊕ (Int32 × xI × xJ)))} (h : f_X12_doesHang_17 x1 x2 x3 x4 x5 I J = some t) (hC : (c_X12_doesHang_7 L xs d Q) t) : Rn L xs (d + 2) 275 109 [some (.ref 61), some (.int x1), some (.int x2), some (.int x3), some (.int x4), some (.int x5)] [] 94 (I, J, xrf) Q := by
  unfold f_X12_doesHang_17 at h
  refine Rn.go 2 (j' := 275) (pc' := 44) (ls' := [some (.ref 61), some (.int x1), some (.int x2), some (.int x3), some (.int x4), some (.int ((x5 + 1)))]) (st' := []) (n' := 94) (M' := (I, J, xrf)) (fun f => rfl) ?_
  cases h; exact hC
theorem p_X12_doesHang_16 {L : Nat} {xs : Nat → Int32} {d : Nat} {Q : xO → Prop} (x1 : Int32) (x2 : Int32) (x3 : Int32) (x4 : Int32) (x5 : Int32) (I : xI) (J : xJ) {t : Int32 × xI × xJ} (h : f_X12_doesHang_16 x1 x2 x3 x4 x5 I J = some t) (hC : (c_X12_doesHang Q) t) : Rn L xs (d + 2) 275 107 [some (.ref 61), some (.int x1), some (.int x2), some (.int x3), some (.int x4), some (.int x5)] [] 94 (I, J, xrf) Q := by
  unfold f_X12_doesHang_16 at h
  cases h
  exact Rn.ret 2 (o := ((some (.int 0)), 94, (I, J, xrf))) (fun f => rfl) hC
theorem p_X12_doesHang_15 {L : Nat} {xs : Nat → Int32} {d : Nat} {Q : xO → Prop} (x1 : Int32) (x2 : Int32) (x3 : Int32) (x4 : Int32) (x5 : Int32) (s0 : Int32) (I : xI) (J : xJ) {t : (Int32 × Int32 × Int32 × Int32 × Int32 × xI × xJ) ⊕ ((Int32 × Int32 × Int32 × Int32 × (Option Value) × xI × xJ) ⊕ ((Int32 × Int32 × Int32 × (Option Value) × (Option Value) × xI × xJ) ⊕ (Int32 × xI × xJ)))} (h : f_X12_doesHang_15 x1 x2 x3 x4 x5 s0 I J = some t) (hC : (c_X12_doesHang_7 L xs d Q) t) : Rn L xs (d + 2) 275 104 [some (.ref 61), some (.int x1), some (.int x2), some (.int x3), some (.int x4), some (.int x5)] [.int s0] 94 (I, J, xrf) Q := by
  unfold f_X12_doesHang_15 at h
  refine Rn.fi 1 (c := s0 = 0) (p1 := 109) (l1 := [some (.ref 61), some (.int x1), some (.int x2), some (.int x3), some (.int x4), some (.int x5)]) (s1 := []) (n1 := 94) (M1 := (I, J, xrf)) (p2 := 107) (l2 := [some (.ref 61), some (.int x1), some (.int x2), some (.int x3), some (.int x4), some (.int x5)]) (s2 := []) (n2 := 94) (M2 := (I, J, xrf)) (fun f => rfl) (fun hc => ?_) (fun hc => ?_)
  · rw [if_pos hc] at h
    exact p_X12_doesHang_17 x1 x2 x3 x4 x5 I J h hC
  · rw [if_neg hc] at h
    obtain ⟨t0, h0, rfl⟩ := Option.map_eq_some_iff.mp h
    obtain ⟨t1, h1, rfl⟩ := Option.map_eq_some_iff.mp h0
    obtain ⟨t2, h2, rfl⟩ := Option.map_eq_some_iff.mp h1
    exact p_X12_doesHang_16 x1 x2 x3 x4 x5 I J h2 hC
theorem p_X12_doesHang_14 {L : Nat} {xs : Nat → Int32} {d : Nat} {Q : xO → Prop} (x1 : Int32) (x2 : Int32) (x3 : Int32) (x4 : Int32) (x5 : Int32) (s0 : Int32) (s2 : Int32) (I : xI) (J : xJ) {t : (Int32 × Int32 × Int32 × Int32 × Int32 × xI × xJ) ⊕ ((Int32 × Int32 × Int32 × Int32 × (Option Value) × xI × xJ) ⊕ ((Int32 × Int32 × Int32 × (Option Value) × (Option Value) × xI × xJ) ⊕ (Int32 × xI × xJ)))} (h : f_X12_doesHang_14 x1 x2 x3 x4 x5 s0 s2 I J = some t) (hC : (c_X12_doesHang_7 L xs d Q) t) : Rn L xs (d + 2) 275 98 [some (.ref 61), some (.int x1), some (.int x2), some (.int x3), some (.int x4), some (.int x5)] [.int s2, .ref 86, .int s0] 94 (I, J, xrf) Q := by
  unfold f_X12_doesHang_14 at h
  obtain ⟨hc, h⟩ := xif h
  refine Rn.ok 1 (c := s2 < 0 ∨ 6 ≤ s2.toNatClampNeg) (p1 := 99) (l1 := [some (.ref 61), some (.int x1), some (.int x2), some (.int x3), some (.int x4), some (.int x5)]) (s1 := [.int ((I 86 s2.toNatClampNeg)), .int s0]) (n1 := 94) (M1 := (I, J, xrf)) (fun f => rfl) hc ?_
  refine Rn.go 2 (j' := 275) (pc' := 101) (ls' := [some (.ref 61), some (.int x1), some (.int x2), some (.int x3), some (.int x4), some (.int x5)]) (st' := [.int x1, .int ((s0 ^^^ (I 86 s2.toNatClampNeg)))]) (n' := 94) (M' := (I, J, xrf)) (fun f => rfl) ?_
  obtain ⟨o, ho, h⟩ := Option.bind_eq_some_iff.mp h
  refine Rn.call (d1 := d + 1) (j1 := 214) (ls1 := [some (.int ((s0 ^^^ (I 86 s2.toNatClampNeg)))), some (.int x1)]) (rest := []) (fun f => rfl) ?_
  refine p_X12_has (d := d + 0) ((s0 ^^^ (I 86 s2.toNatClampNeg))) x1 I J (t := o) ho ?_
  exact p_X12_doesHang_15 x1 x2 x3 x4 x5 o.1 o.2.1 o.2.2 h hC
theorem p_X12_doesHang_13 {L : Nat} {xs : Nat → Int32} {d : Nat} {Q : xO → Prop} (x1 : Int32) (x2 : Int32) (x3 : Int32) (x4 : Int32) (x5 : Int32) (s1 : Int32) (I : xI) (J : xJ) {t : (Int32 × Int32 × Int32 × Int32 × Int32 × xI × xJ) ⊕ ((Int32 × Int32 × Int32 × Int32 × (Option Value) × xI × xJ) ⊕ ((Int32 × Int32 × Int32 × (Option Value) × (Option Value) × xI × xJ) ⊕ (Int32 × xI × xJ)))} (h : f_X12_doesHang_13 x1 x2 x3 x4 x5 s1 I J = some t) (hC : (c_X12_doesHang_7 L xs d Q) t) : Rn L xs (d + 2) 275 85 [some (.ref 61), some (.int x1), some (.int x2), some (.int x3), some (.int x4), some (.int x5)] [.int s1, .ref 86] 94 (I, J, xrf) Q := by
  unfold f_X12_doesHang_13 at h
  obtain ⟨hc, h⟩ := xif h
  refine Rn.ok 1 (c := s1 < 0 ∨ 6 ≤ s1.toNatClampNeg) (p1 := 86) (l1 := [some (.ref 61), some (.int x1), some (.int x2), some (.int x3), some (.int x4), some (.int x5)]) (s1 := [.int ((I 86 s1.toNatClampNeg))]) (n1 := 94) (M1 := (I, J, xrf)) (fun f => rfl) hc ?_
  refine Rn.go 5 (j' := 275) (pc' := 95) (ls' := [some (.ref 61), some (.int x1), some (.int x2), some (.int x3), some (.int x4), some (.int x5)]) (st' := [.int x5, .int x4, .ref 61, .ref 86, .int ((I 86 s1.toNatClampNeg))]) (n' := 94) (M' := (I, J, xrf)) (fun f => rfl) ?_
  obtain ⟨o, ho, h⟩ := Option.bind_eq_some_iff.mp h
  refine Rn.call (d1 := d + 1) (j1 := 210) (ls1 := [some (.ref 61), some (.int x4), some (.int x5)]) (rest := [.ref 86, .int ((I 86 s1.toNatClampNeg))]) (fun f => rfl) ?_
  refine p_X12_to (d := d + 0) x4 x5 I J (t := o) ho ?_
  exact p_X12_doesHang_14 x1 x2 x3 x4 x5 ((I 86 s1.toNatClampNeg)) o.1 o.2.1 o.2.2 h hC
theorem p_X12_doesHang_12 {L : Nat} {xs : Nat → Int32} {d : Nat} {Q : xO → Prop} (x1 : Int32) (x2 : Int32) (x3 : Int32) (x4 : Int32) (x5 : Int32) (I : xI) (J : xJ) {t : (Int32 × Int32 × Int32 × Int32 × Int32 × xI × xJ) ⊕ ((Int32 × Int32 × Int32 × Int32 × (Option Value) × xI × xJ) ⊕ ((Int32 × Int32 × Int32 × (Option Value) × (Option Value) × xI × xJ) ⊕ (Int32 × xI × xJ)))} (h : f_X12_doesHang_12 x1 x2 x3 x4 x5 I J = some t) (hC : (c_X12_doesHang_7 L xs d Q) t) : Rn L xs (d + 2) 275 74 [some (.ref 61), some (.int x1), some (.int x2), some (.int x3), some (.int x4), some (.int x5)] [] 94 (I, J, xrf) Q := by
  unfold f_X12_doesHang_12 at h
  refine Rn.go 5 (j' := 275) (pc' := 82) (ls' := [some (.ref 61), some (.int x1), some (.int x2), some (.int x3), some (.int x4), some (.int x5)]) (st' := [.int x5, .int x3, .ref 61, .ref 86]) (n' := 94) (M' := (I, J, xrf)) (fun f => rfl) ?_
  obtain ⟨o, ho, h⟩ := Option.bind_eq_some_iff.mp h
  refine Rn.call (d1 := d + 1) (j1 := 210) (ls1 := [some (.ref 61), some (.int x3), some (.int x5)]) (rest := [.ref 86]) (fun f => rfl) ?_
  refine p_X12_to (d := d + 0) x3 x5 I J (t := o) ho ?_
  exact p_X12_doesHang_13 x1 x2 x3 x4 x5 o.1 o.2.1 o.2.2 h hC
theorem p_X12_doesHang_11 {L : Nat} {xs : Nat → Int32} {d : Nat} {Q : xO → Prop} (x1 : Int32) (x2 : Int32) (x3 : Int32) (x4 : Int32) (x5 : Int32) (s0 : Int32) (I : xI) (J : xJ) {t : (Int32 × Int32 × Int32 × Int32 × Int32 × xI × xJ) ⊕ ((Int32 × Int32 × Int32 × Int32 × (Option Value) × xI × xJ) ⊕ ((Int32 × Int32 × Int32 × (Option Value) × (Option Value) × xI × xJ) ⊕ (Int32 × xI × xJ)))} (h : f_X12_doesHang_11 x1 x2 x3 x4 x5 s0 I J = some t) (hC : (c_X12_doesHang_7 L xs d Q) t) : Rn L xs (d + 2) 275 71 [some (.ref 61), some (.int x1), some (.int x2), some (.int x3), some (.int x4), some (.int x5)] [.int s0] 94 (I, J, xrf) Q := by
  unfold f_X12_doesHang_11 at h
  refine Rn.fi 1 (c := s0 < 0) (p1 := 109) (l1 := [some (.ref 61), some (.int x1), some (.int x2), some (.int x3), some (.int x4), some (.int x5)]) (s1 := []) (n1 := 94) (M1 := (I, J, xrf)) (p2 := 74) (l2 := [some (.ref 61), some (.int x1), some (.int x2), some (.int x3), some (.int x4), some (.int x5)]) (s2 := []) (n2 := 94) (M2 := (I, J, xrf)) (fun f => rfl) (fun hc => ?_) (fun hc => ?_)
  · rw [if_pos hc] at h
    exact p_X12_doesHang_17 x1 x2 x3 x4 x5 I J h hC
  · rw [if_neg hc] at h
    exact p_X12_doesHang_12 x1 x2 x3 x4 x5 I J h hC
theorem p_X12_doesHang_10 {L : Nat} {xs : Nat → Int32} {d : Nat} {Q : xO → Prop} (x1 : Int32) (x2 : Int32) (x3 : Int32) (x4 : Int32) (x5 : Int32) (I : xI) (J : xJ) {t : (Int32 × Int32 × Int32 × Int32 × Int32 × xI × xJ) ⊕ ((Int32 × Int32 × Int32 × Int32 × (Option Value) × xI × xJ) ⊕ ((Int32 × Int32 × Int32 × (Option Value) × (Option Value) × xI × xJ) ⊕ (Int32 × xI × xJ)))} (h : f_X12_doesHang_10 x1 x2 x3 x4 x5 I J = some t) (hC : (c_X12_doesHang_7 L xs d Q) t) : Rn L xs (d + 2) 275 63 [some (.ref 61), some (.int x1), some (.int x2), some (.int x3), some (.int x4), some (.int x5)] [] 94 (I, J, xrf) Q := by
  unfold f_X12_doesHang_10 at h
  refine Rn.go 3 (j' := 275) (pc' := 68) (ls' := [some (.ref 61), some (.int x1), some (.int x2), some (.int x3), some (.int x4), some (.int x5)]) (st' := [.int x5, .int x4, .ref 61]) (n' := 94) (M' := (I, J, xrf)) (fun f => rfl) ?_
  obtain ⟨o, ho, h⟩ := Option.bind_eq_some_iff.mp h
  refine Rn.call (d1 := d + 1) (j1 := 210) (ls1 := [some (.ref 61), some (.int x4), some (.int x5)]) (rest := []) (fun f => rfl) ?_
  refine p_X12_to (d := d + 0) x4 x5 I J (t := o) ho ?_
  exact p_X12_doesHang_11 x1 x2 x3 x4 x5 o.1 o.2.1 o.2.2 h hC
theorem p_X12_doesHang_9 {L : Nat} {xs : Nat → Int32} {d : Nat} {Q : xO → Prop} (x1 : Int32) (x2 : Int32) (x3 : Int32) (x4 : Int32) (x5 : Int32) (s0 : Int32) (I : xI) (J : xJ) {t : (Int32 × Int32 × Int32 × Int32 × Int32 × xI × xJ) ⊕ ((Int32 × Int32 × Int32 × Int32 × (Option Value) × xI × xJ) ⊕ ((Int32 × Int32 × Int32 × (Option Value) × (Option Value) × xI × xJ) ⊕ (Int32 × xI × xJ)))} (h : f_X12_doesHang_9 x1 x2 x3 x4 x5 s0 I J = some t) (hC : (c_X12_doesHang_7 L xs d Q) t) : Rn L xs (d + 2) 275 60 [some (.ref 61), some (.int x1), some (.int x2), some (.int x3), some (.int x4), some (.int x5)] [.int s0] 94 (I, J, xrf) Q := by
  unfold f_X12_doesHang_9 at h
  refine Rn.fi 1 (c := s0 < 0) (p1 := 109) (l1 := [some (.ref 61), some (.int x1), some (.int x2), some (.int x3), some (.int x4), some (.int x5)]) (s1 := []) (n1 := 94) (M1 := (I, J, xrf)) (p2 := 63) (l2 := [some (.ref 61), some (.int x1), some (.int x2), some (.int x3), some (.int x4), some (.int x5)]) (s2 := []) (n2 := 94) (M2 := (I, J, xrf)) (fun f => rfl) (fun hc => ?_) (fun hc => ?_)
  · rw [if_pos hc] at h
    exact p_X12_doesHang_17 x1 x2 x3 x4 x5 I J h hC
  · rw [if_neg hc] at h
    exact p_X12_doesHang_10 x1 x2 x3 x4 x5 I J h hC
theorem p_X12_doesHang_8 {L : Nat} {xs : Nat → Int32} {d : Nat} {Q : xO → Prop} (x1 : Int32) (x2 : Int32) (x3 : Int32) (x4 : Int32) (x5 : Int32) (I : xI) (J : xJ) {t : (Int32 × Int32 × Int32 × Int32 × Int32 × xI × xJ) ⊕ ((Int32 × Int32 × Int32 × Int32 × (Option Value) × xI × xJ) ⊕ ((Int32 × Int32 × Int32 × (Option Value) × (Option Value) × xI × xJ) ⊕ (Int32 × xI × xJ)))} (h : f_X12_doesHang_8 x1 x2 x3 x4 x5 I J = some t) (hC : (c_X12_doesHang_7 L xs d Q) t) : Rn L xs (d + 2) 275 53 [some (.ref 61), some (.int x1), some (.int x2), some (.int x3), some (.int x4), some (.int x5)] [] 94 (I, J, xrf) Q := by
  unfold f_X12_doesHang_8 at h
  refine Rn.go 3 (j' := 275) (pc' := 57) (ls' := [some (.ref 61), some (.int x1), some (.int x2), some (.int x3), some (.int x4), some (.int x5)]) (st' := [.int x5, .int x3, .ref 61]) (n' := 94) (M' := (I, J, xrf)) (fun f => rfl) ?_
  obtain ⟨o, ho, h⟩ := Option.bind_eq_some_iff.mp h
  refine Rn.call (d1 := d + 1) (j1 := 210) (ls1 := [some (.ref 61), some (.int x3), some (.int x5)]) (rest := []) (fun f => rfl) ?_
  refine p_X12_to (d := d + 0) x3 x5 I J (t := o) ho ?_
  exact p_X12_doesHang_9 x1 x2 x3 x4 x5 o.1 o.2.1 o.2.2 h hC
theorem q_X12_doesHang_7 {L : Nat} {xs : Nat → Int32} {d : Nat} {Q : xO → Prop} (x1 : Int32) (x2 : Int32) (x3 : Int32) (x4 : Int32) (x5 : Int32) (I : xI) (J : xJ) {t : (Int32 × Int32 × Int32 × Int32 × Int32 × xI × xJ) ⊕ ((Int32 × Int32 × Int32 × Int32 × (Option Value) × xI × xJ) ⊕ ((Int32 × Int32 × Int32 × (Option Value) × (Option Value) × xI × xJ) ⊕ (Int32 × xI × xJ)))} (h : b_X12_doesHang_7 x1 x2 x3 x4 x5 I J = some t) (hC : (c_X12_doesHang_7 L xs d Q) t) : Rn L xs (d + 2) 275 44 [some (.ref 61), some (.int x1), some (.int x2), some (.int x3), some (.int x4), some (.int x5)] [] 94 (I, J, xrf) Q := by
  unfold b_X12_doesHang_7 at h
  refine Rn.fi 4 (c := (I 61 18) ≤ x5) (p1 := 115) (l1 := [some (.ref 61), some (.int x1), some (.int x2), some (.int x3), some (.int x4), some (.int x5)]) (s1 := []) (n1 := 94) (M1 := (I, J, xrf)) (p2 := 53) (l2 := [some (.ref 61), some (.int x1), some (.int x2), some (.int x3), some (.int x4), some (.int x5)]) (s2 := []) (n2 := 94) (M2 := (I, J, xrf)) (fun f => rfl) (fun hc => ?_) (fun hc => ?_)
  · rw [if_pos hc] at h
    obtain ⟨t0, h0, rfl⟩ := Option.map_eq_some_iff.mp h
    exact p_X12_doesHang_18 x1 x2 x3 x4 (some (.int x5)) I J h0 hC
  · rw [if_neg hc] at h
    exact p_X12_doesHang_8 x1 x2 x3 x4 x5 I J h hC
theorem p_X12_doesHang_7 {L : Nat} {xs : Nat → Int32} {d : Nat} {Q : xO → Prop} (x1 : Int32) (x2 : Int32) (x3 : Int32) (x4 : Int32) (x5 : Int32) (I : xI) (J : xJ) {t : (Int32 × Int32 × Int32 × Int32 × (Option Value) × xI × xJ) ⊕ ((Int32 × Int32 × Int32 × (Option Value) × (Option Value) × xI × xJ) ⊕ (Int32 × xI × xJ))} (h : f_X12_doesHang_7 x1 x2 x3 x4 x5 I J = some t) (hC : (c_X12_doesHang_3 L xs d Q) t) : Rn L xs (d + 2) 275 44 [some (.ref 61), some (.int x1), some (.int x2), some (.int x3), some (.int x4), some (.int x5)] [] 94 (I, J, xrf) Q := by
  unfold f_X12_doesHang_7 at h
  exact xloop_some (P := fun s : Int32 × Int32 × Int32 × Int32 × Int32 × xI × xJ => Rn L xs (d + 2) 275 44 [some (.ref 61), some (.int s.1), some (.int s.2.1), some (.int s.2.2.1), some (.int s.2.2.2.1), some (.int s.2.2.2.2.1)] [] 94 (s.2.2.2.2.2.1, s.2.2.2.2.2.2, xrf) Q) t (fun s ⟨s', hb, hp⟩ => q_X12_doesHang_7 s.1 s.2.1 s.2.2.1 s.2.2.2.1 s.2.2.2.2.1 s.2.2.2.2.2.1 s.2.2.2.2.2.2 hb hp) (fun s hb => q_X12_doesHang_7 s.1 s.2.1 s.2.2.1 s.2.2.2.1 s.2.2.2.2.1 s.2.2.2.2.2.1 s.2.2.2.2.2.2 hb hC) _ _ h
theorem p_X12_doesHang_6 {L : Nat} {xs : Nat → Int32} {d : Nat} {Q : xO → Prop} (x1 : Int32) (x2 : Int32) (x3 : Int32) (x4 : Int32) (z5 : Option Value) (I : xI) (J : xJ) {t : (Int32 × Int32 × Int32 × Int32 × (Option Value) × xI × xJ) ⊕ ((Int32 × Int32 × Int32 × (Option Value) × (Option Value) × xI × xJ) ⊕ (Int32 × xI × xJ))} (h : f_X12_doesHang_6 x1 x2 x3 x4 z5 I J = some t) (hC : (c_X12_doesHang_3 L xs d Q) t) : Rn L xs (d + 2) 275 41 [some (.ref 61), some (.int x1), some (.int x2), some (.int x3), some (.int x4), z5] [] 94 (I, J, xrf) Q := by
  unfold f_X12_doesHang_6 at h
  refine Rn.go 2 (j' := 275) (pc' := 44) (ls' := [some (.ref 61), some (.int x1), some (.int x2), some (.int x3), some (.int x4), some (.int 0)]) (st' := []) (n' := 94) (M' := (I, J, xrf)) (fun f => rfl) ?_
  exact p_X12_doesHang_7 x1 x2 x3 x4 0 I J h hC
theorem p_X12_doesHang_5 {L : Nat} {xs : Nat → Int32} {d : Nat} {Q : xO → Prop} (x1 : Int32) (x2 : Int32) (x3 : Int32) (x4 : Int32) (z5 : Option Value) (I : xI) (J : xJ) {t : (Int32 × Int32 × Int32 × Int32 × (Option Value) × xI × xJ) ⊕ ((Int32 × Int32 × Int32 × (Option Value) × (Option Value) × xI × xJ) ⊕ (Int32 × xI × xJ))} (h : f_X12_doesHang_5 x1 x2 x3 x4 z5 I J = some t) (hC : (c_X12_doesHang_3 L xs d Q) t) : Rn L xs (d + 2) 275 38 [some (.ref 61), some (.int x1), some (.int x2), some (.int x3), some (.int x4), z5] [] 94 (I, J, xrf) Q := by
  unfold f_X12_doesHang_5 at h
  refine Rn.go 1 (j' := 275) (pc' := 115) (ls' := [some (.ref 61), some (.int x1), some (.int x2), some (.int x3), some (.int x4), z5]) (st' := []) (n' := 94) (M' := (I, J, xrf)) (fun f => rfl) ?_
  exact p_X12_doesHang_18 x1 x2 x3 x4 z5 I J h hC
theorem p_X12_doesHang_4 {L : Nat} {xs : Nat → Int32} {d : Nat} {Q : xO → Prop} (x1 : Int32) (x2 : Int32) (x3 : Int32) (x4 : Int32) (z5 : Option Value) (I : xI) (J : xJ) {t : (Int32 × Int32 × Int32 × Int32 × (Option Value) × xI × xJ) ⊕ ((Int32 × Int32 × Int32 × (Option Value) × (Option Value) × xI × xJ) ⊕ (Int32 × xI × xJ))} (h : f_X12_doesHang_4 x1 x2 x3 x4 z5 I J = some t) (hC : (c_X12_doesHang_3 L xs d Q) t) : Rn L xs (d + 2) 275 19 [some (.ref 61), some (.int x1), some (.int x2), some (.int x3), some (.int x4), z5] [] 94 (I, J, xrf) Q := by
  unfold f_X12_doesHang_4 at h
  obtain ⟨hc, h⟩ := xif h
  refine Rn.ok 4 (c := x3 < 0 ∨ 6 ≤ x3.toNatClampNeg) (p1 := 25) (l1 := [some (.ref 61), some (.int x1), some (.int x2), some (.int x3), some (.int x4), z5]) (s1 := [.int ((I 86 x3.toNatClampNeg))]) (n1 := 94) (M1 := (I, J, xrf)) (fun f => rfl) hc ?_
  obtain ⟨hc, h⟩ := xif h
  refine Rn.ok 4 (c := x4 < 0 ∨ 6 ≤ x4.toNatClampNeg) (p1 := 32) (l1 := [some (.ref 61), some (.int x1), some (.int x2), some (.int x3), some (.int x4), z5]) (s1 := [.int ((I 86 x4.toNatClampNeg)), .int ((I 86 x3.toNatClampNeg))]) (n1 := 94) (M1 := (I, J, xrf)) (fun f => rfl) hc ?_
  refine Rn.fi 4 (c := (((I 86 x3.toNatClampNeg) ^^^ (I 86 x4.toNatClampNeg)) &&& x2) = 0) (p1 := 41) (l1 := [some (.ref 61), some (.int x1), some (.int x2), some (.int x3), some (.int x4), z5]) (s1 := []) (n1 := 94) (M1 := (I, J, xrf)) (p2 := 38) (l2 := [some (.ref 61), some (.int x1), some (.int x2), some (.int x3), some (.int x4), z5]) (s2 := []) (n2 := 94) (M2 := (I, J, xrf)) (fun f => rfl) (fun hc => ?_) (fun hc => ?_)
  · rw [if_pos hc] at h
    exact p_X12_doesHang_6 x1 x2 x3 x4 z5 I J h hC
  · rw [if_neg hc] at h
    exact p_X12_doesHang_5 x1 x2 x3 x4 z5 I J h hC
theorem q_X12_doesHang_3 {L : Nat} {xs : Nat → Int32} {d : Nat} {Q : xO → Prop} (x1 : Int32) (x2 : Int32) (x3 : Int32) (x4 : Int32) (z5 : Option Value) (I : xI) (J : xJ) {t : (Int32 × Int32 × Int32 × Int32 × (Option Value) × xI × xJ) ⊕ ((Int32 × Int32 × Int32 × (Option Value) × (Option Value) × xI × xJ) ⊕ (Int32 × xI × xJ))} (h : b_X12_doesHang_3 x1 x2 x3 x4 z5 I J = some t) (hC : (c_X12_doesHang_3 L xs d Q) t) : Rn L xs (d + 2) 275 13 [some (.ref 61), some (.int x1), some (.int x2), some (.int x3), some (.int x4), z5] [] 94 (I, J, xrf) Q := by
  unfold b_X12_doesHang_3 at h
  refine Rn.fi 3 (c := x3 ≤ x4) (p1 := 121) (l1 := [some (.ref 61), some (.int x1), some (.int x2), some (.int x3), some (.int x4), z5]) (s1 := []) (n1 := 94) (M1 := (I, J, xrf)) (p2 := 19) (l2 := [some (.ref 61), some (.int x1), some (.int x2), some (.int x3), some (.int x4), z5]) (s2 := []) (n2 := 94) (M2 := (I, J, xrf)) (fun f => rfl) (fun hc => ?_) (fun hc => ?_)
  · rw [if_pos hc] at h
    obtain ⟨t0, h0, rfl⟩ := Option.map_eq_some_iff.mp h
    exact p_X12_doesHang_19 x1 x2 x3 x4 z5 I J h0 hC
  · rw [if_neg hc] at h
    exact p_X12_doesHang_4 x1 x2 x3 x4 z5 I J h hC
theorem p_X12_doesHang_3 {L : Nat} {xs : Nat → Int32} {d : Nat} {Q : xO → Prop} (x1 : Int32) (x2 : Int32) (x3 : Int32) (x4 : Int32) (z5 : Option Value) (I : xI) (J : xJ) {t : (Int32 × Int32 × Int32 × (Option Value) × (Option Value) × xI × xJ) ⊕ (Int32 × xI × xJ)} (h : f_X12_doesHang_3 x1 x2 x3 x4 z5 I J = some t) (hC : (c_X12_doesHang_1 L xs d Q) t) : Rn L xs (d + 2) 275 13 [some (.ref 61), some (.int x1), some (.int x2), some (.int x3), some (.int x4), z5] [] 94 (I, J, xrf) Q := by
  unfold f_X12_doesHang_3 at h
  exact xloop_some (P := fun s : Int32 × Int32 × Int32 × Int32 × (Option Value) × xI × xJ => Rn L xs (d + 2) 275 13 [some (.ref 61), some (.int s.1), some (.int s.2.1), some (.int s.2.2.1), some (.int s.2.2.2.1), s.2.2.2.2.1] [] 94 (s.2.2.2.2.2.1, s.2.2.2.2.2.2, xrf) Q) t (fun s ⟨s', hb, hp⟩ => q_X12_doesHang_3 s.1 s.2.1 s.2.2.1 s.2.2.2.1 s.2.2.2.2.1 s.2.2.2.2.2.1 s.2.2.2.2.2.2 hb hp) (fun s hb => q_X12_doesHang_3 s.1 s.2.1 s.2.2.1 s.2.2.2.1 s.2.2.2.2.1 s.2.2.2.2.2.1 s.2.2.2.2.2.2 hb hC) _ _ h
theorem p_X12_doesHang_2 {L : Nat} {xs : Nat → Int32} {d : Nat} {Q : xO → Prop} (x1 : Int32) (x2 : Int32) (x3 : Int32) (z4 : Option Value) (z5 : Option Value) (I : xI) (J : xJ) {t : (Int32 × Int32 × Int32 × (Option Value) × (Option Value) × xI × xJ) ⊕ (Int32 × xI × xJ)} (h : f_X12_doesHang_2 x1 x2 x3 z4 z5 I J = some t) (hC : (c_X12_doesHang_1 L xs d Q) t) : Rn L xs (d + 2) 275 10 [some (.ref 61), some (.int x1), some (.int x2), some (.int x3), z4, z5] [] 94 (I, J, xrf) Q := by
  unfold f_X12_doesHang_2 at h
  refine Rn.go 2 (j' := 275) (pc' := 13) (ls' := [some (.ref 61), some (.int x1), some (.int x2), some (.int x3), some (.int 0), z5]) (st' := []) (n' := 94) (M' := (I, J, xrf)) (fun f => rfl) ?_
  exact p_X12_doesHang_3 x1 x2 x3 0 z5 I J h hC
theorem q_X12_doesHang_1 {L : Nat} {xs : Nat → Int32} {d : Nat} {Q : xO → Prop} (x1 : Int32) (x2 : Int32) (x3 : Int32) (z4 : Option Value) (z5 : Option Value) (I : xI) (J : xJ) {t : (Int32 × Int32 × Int32 × (Option Value) × (Option Value) × xI × xJ) ⊕ (Int32 × xI × xJ)} (h : b_X12_doesHang_1 x1 x2 x3 z4 z5 I J = some t) (hC : (c_X12_doesHang_1 L xs d Q) t) : Rn L xs (d + 2) 275 2 [some (.ref 61), some (.int x1), some (.int x2), some (.int x3), z4, z5] [] 94 (I, J, xrf) Q := by
  unfold b_X12_doesHang_1 at h
  refine Rn.fi 4 (c := (I 61 17) ≤ x3) (p1 := 127) (l1 := [some (.ref 61), some (.int x1), some (.int x2), some (.int x3), z4, z5]) (s1 := []) (n1 := 94) (M1 := (I, J, xrf)) (p2 := 10) (l2 := [some (.ref 61), some (.int x1), some (.int x2), some (.int x3), z4, z5]) (s2 := []) (n2 := 94) (M2 := (I, J, xrf)) (fun f => rfl) (fun hc => ?_) (fun hc => ?_)
  · rw [if_pos hc] at h
    obtain ⟨t0, h0, rfl⟩ := Option.map_eq_some_iff.mp h
    exact p_X12_doesHang_20 x1 x2 x3 z4 z5 I J h0 hC
  · rw [if_neg hc] at h
    exact p_X12_doesHang_2 x1 x2 x3 z4 z5 I J h hC
theorem p_X12_doesHang_1 {L : Nat} {xs : Nat → Int32} {d : Nat} {Q : xO → Prop} (x1 : Int32) (x2 : Int32) (x3 : Int32) (z4 : Option Value) (z5 : Option Value) (I : xI) (J : xJ) {t : Int32 × xI × xJ} (h : f_X12_doesHang_1 x1 x2 x3 z4 z5 I J = some t) (hC : (c_X12_doesHang Q) t) : Rn L xs (d + 2) 275 2 [some (.ref 61), some (.int x1), some (.int x2), some (.int x3), z4, z5] [] 94 (I, J, xrf) Q := by
  unfold f_X12_doesHang_1 at h
  exact xloop_some (P := fun s : Int32 × Int32 × Int32 × (Option Value) × (Option Value) × xI × xJ => Rn L xs (d + 2) 275 2 [some (.ref 61), some (.int s.1), some (.int s.2.1), some (.int s.2.2.1), s.2.2.2.1, s.2.2.2.2.1] [] 94 (s.2.2.2.2.2.1, s.2.2.2.2.2.2, xrf) Q) t (fun s ⟨s', hb, hp⟩ => q_X12_doesHang_1 s.1 s.2.1 s.2.2.1 s.2.2.2.1 s.2.2.2.2.1 s.2.2.2.2.2.1 s.2.2.2.2.2.2 hb hp) (fun s hb => q_X12_doesHang_1 s.1 s.2.1 s.2.2.1 s.2.2.2.1 s.2.2.2.2.1 s.2.2.2.2.2.1 s.2.2.2.2.2.2 hb hC) _ _ h
theorem p_X12_doesHang_0 {L : Nat} {xs : Nat → Int32} {d : Nat} {Q : xO → Prop} (x1 : Int32) (x2 : Int32) (I : xI) (J : xJ) {t : Int32 × xI × xJ} (h : f_X12_doesHang_0 x1 x2 I J = some t) (hC : (c_X12_doesHang Q) t) : Rn L xs (d + 2) 275 0 [some (.ref 61), some (.int x1), some (.int x2), none, none, none] [] 94 (I, J, xrf) Q := by
  unfold f_X12_doesHang_0 at h
  refine Rn.go 2 (j' := 275) (pc' := 2) (ls' := [some (.ref 61), some (.int x1), some (.int x2), some (.int 0), none, none]) (st' := []) (n' := 94) (M' := (I, J, xrf)) (fun f => rfl) ?_
  exact p_X12_doesHang_1 x1 x2 0 none none I J h hC
theorem p_X12_doesHang {L : Nat} {xs : Nat → Int32} {d : Nat} {Q : xO → Prop} (x1 : Int32) (x2 : Int32) (I : xI) (J : xJ) {t : Int32 × xI × xJ} (h : f_X12_doesHang x1 x2 I J = some t) (hC : Q ((some (.int t.1)), 94, (t.2.1, t.2.2, xrf))) : Rn L xs (d + 2) 275 0 [some (.ref 61), some (.int x1), some (.int x2), none, none, none] [] 94 (I, J, xrf) Q := p_X12_doesHang_0 x1 x2 I J h hC
/-! X12_hangsOn -/
def c_X12_hangsOn (Q : xO → Prop) (t : Int32 × xI × xJ) : Prop := Q ((some (.int t.1)), 94, (t.2.1, t.2.2, xrf))
def c_X12_hangsOn_1 (L : Nat) (xs : Nat → Int32) (d : Nat) (Q : xO → Prop) (t : (Int32 × Int32 × (Option Value) × xI × xJ) ⊕ (Int32 × xI × xJ)) : Prop := match t with
  | .inl s => Rn L xs (d + 3) 276 2 [some (.ref 61), some (.int s.1), some (.int s.2.1), s.2.2.1] [] 94 (s.2.2.2.1, s.2.2.2.2, xrf) Q
  | .inr t => (c_X12_hangsOn Q) t
def c_X12_hangsOn_4 (L : Nat) (xs : Nat → Int32) (d : Nat) (Q : xO → Prop) (t : (Int32 × Int32 × Int32 × xI × xJ) ⊕ ((Int32 × Int32 × (Option Value) × xI × xJ) ⊕ (Int32 × xI × xJ))) : Prop := match t with
  | .inl s => Rn L xs (d + 3) 276 12 [some (.ref 61), some (.int s.1), some (.int s.2.1), some (.int s.2.2.1)] [] 94 (s.2.2.2.1, s.2.2.2.2, xrf) Q
  | .inr t => (c_X12_hangsOn_1 L xs d Q) t
def f_X12_hangsOn_13 (x1 : Int32) (x2 : Int32) (z3 : Option Value) (I : xI) (J : xJ) : Option (Int32 × xI × xJ) := some ((-2), I, J)
def f_X12_hangsOn_12 (x1 : Int32) (x2 : Int32) (x3 : Int32) (I : xI) (J : xJ) : Option ((Int32 × Int32 × (Option Value) × xI × xJ) ⊕ (Int32 × xI × xJ)) := some (.inl (x1, ((x2 + 1)), (some (.int x3)), I, J))
def f_X12_hangsOn_11 (x1 : Int32) (x2 : Int32) (x3 : Int32) (I : xI) (J : xJ) : Option ((Int32 × Int32 × Int32 × xI × xJ) ⊕ ((Int32 × Int32 × (Option Value) × xI × xJ) ⊕ (Int32 × xI × xJ))) := some (.inl (x1, x2, ((x3 + 1)), I, J))
def f_X12_hangsOn_10 (x1 : Int32) (x2 : Int32) (x3 : Int32) (I : xI) (J : xJ) : Option (Int32 × xI × xJ) := some (x3, I, J)
def f_X12_hangsOn_9 (x1 : Int32) (x2 : Int32) (x3 : Int32) (s0 : Int32) (I : xI) (J : xJ) : Option ((Int32 × Int32 × Int32 × xI × xJ) ⊕ ((Int32 × Int32 × (Option Value) × xI × xJ) ⊕ (Int32 × xI × xJ))) := if s0 = 0 then f_X12_hangsOn_11 x1 x2 x3 I J else (((f_X12_hangsOn_10 x1 x2 x3 I J)).map .inr).map .inr
def f_X12_hangsOn_8 (x1 : Int32) (x2 : Int32) (x3 : Int32) (I : xI) (J : xJ) : Option ((Int32 × Int32 × Int32 × xI × xJ) ⊕ ((Int32 × Int32 × (Option Value) × xI × xJ) ⊕ (Int32 × xI × xJ))) := (f_X12_doesHang x1 x3 I J).bind fun o => f_X12_hangsOn_9 x1 x2 x3 o.1 o.2.1 o.2.2
def f_X12_hangsOn_7 (x1 : Int32) (x2 : Int32) (x3 : Int32) (s0 : Int32) (I : xI) (J : xJ) : Option ((Int32 × Int32 × Int32 × xI × xJ) ⊕ ((Int32 × Int32 × (Option Value) × xI × xJ) ⊕ (Int32 × xI × xJ))) := if s0 = x2 then f_X12_hangsOn_8 x1 x2 x3 I J else f_X12_hangsOn_11 x1 x2 x3 I J
def f_X12_hangsOn_6 (x1 : Int32) (x2 : Int32) (x3 : Int32) (I : xI) (J : xJ) : Option ((Int32 × Int32 × Int32 × xI × xJ) ⊕ ((Int32 × Int32 × (Option Value) × xI × xJ) ⊕ (Int32 × xI × xJ))) := (f_X12_bitsOf x3 I J).bind fun o => f_X12_hangsOn_7 x1 x2 x3 o.1 o.2.1 o.2.2
def f_X12_hangsOn_5 (x1 : Int32) (x2 : Int32) (x3 : Int32) (s0 : Int32) (s1 : Int32) (s2 : Int32) (I : xI) (J : xJ) : Option ((Int32 × Int32 × Int32 × xI × xJ) ⊕ ((Int32 × Int32 × (Option Value) × xI × xJ) ⊕ (Int32 × xI × xJ))) := if (s1 <<< (s2 &&& 31)) ≤ s0 then ((f_X12_hangsOn_12 x1 x2 x3 I J)).map .inr else f_X12_hangsOn_6 x1 x2 x3 I J
def b_X12_hangsOn_4 (x1 : Int32) (x2 : Int32) (x3 : Int32) (I : xI) (J : xJ) : Option ((Int32 × Int32 × Int32 × xI × xJ) ⊕ ((Int32 × Int32 × (Option Value) × xI × xJ) ⊕ (Int32 × xI × xJ))) := (f_X12_bits I J).bind fun o => f_X12_hangsOn_5 x1 x2 x3 x3 1 o.1 o.2.1 o.2.2
def f_X12_hangsOn_4 (x1 : Int32) (x2 : Int32) (x3 : Int32) (I : xI) (J : xJ) : Option ((Int32 × Int32 × (Option Value) × xI × xJ) ⊕ (Int32 × xI × xJ)) := xloop (fun s : Int32 × Int32 × Int32 × xI × xJ => b_X12_hangsOn_4 s.1 s.2.1 s.2.2.1 s.2.2.2.1 s.2.2.2.2) 5000 (x1, x2, x3, I, J)
def f_X12_hangsOn_3 (x1 : Int32) (x2 : Int32) (z3 : Option Value) (I : xI) (J : xJ) : Option ((Int32 × Int32 × (Option Value) × xI × xJ) ⊕ (Int32 × xI × xJ)) := f_X12_hangsOn_4 x1 x2 0 I J
def f_X12_hangsOn_2 (x1 : Int32) (x2 : Int32) (z3 : Option Value) (s0 : Int32) (s1 : Int32) (I : xI) (J : xJ) : Option ((Int32 × Int32 × (Option Value) × xI × xJ) ⊕ (Int32 × xI × xJ)) := if s1 < s0 then ((f_X12_hangsOn_13 x1 x2 z3 I J)).map .inr else f_X12_hangsOn_3 x1 x2 z3 I J
def b_X12_hangsOn_1 (x1 : Int32) (x2 : Int32) (z3 : Option Value) (I : xI) (J : xJ) : Option ((Int32 × Int32 × (Option Value) × xI × xJ) ⊕ (Int32 × xI × xJ)) := (f_X12_bits I J).bind fun o => f_X12_hangsOn_2 x1 x2 z3 x2 o.1 o.2.1 o.2.2
def f_X12_hangsOn_1 (x1 : Int32) (x2 : Int32) (z3 : Option Value) (I : xI) (J : xJ) : Option (Int32 × xI × xJ) := xloop (fun s : Int32 × Int32 × (Option Value) × xI × xJ => b_X12_hangsOn_1 s.1 s.2.1 s.2.2.1 s.2.2.2.1 s.2.2.2.2) 5000 (x1, x2, z3, I, J)
def f_X12_hangsOn_0 (x1 : Int32) (I : xI) (J : xJ) : Option (Int32 × xI × xJ) := f_X12_hangsOn_1 x1 0 none I J
def f_X12_hangsOn (x1 : Int32) (I : xI) (J : xJ) : Option (Int32 × xI × xJ) := f_X12_hangsOn_0 x1 I J
theorem p_X12_hangsOn_13 {L : Nat} {xs : Nat → Int32} {d : Nat} {Q : xO → Prop} (x1 : Int32) (x2 : Int32) (z3 : Option Value) (I : xI) (J : xJ) {t : Int32 × xI × xJ} (h : f_X12_hangsOn_13 x1 x2 z3 I J = some t) (hC : (c_X12_hangsOn Q) t) : Rn L xs (d + 3) 276 53 [some (.ref 61), some (.int x1), some (.int x2), z3] [] 94 (I, J, xrf) Q := by
  unfold f_X12_hangsOn_13 at h
  cases h
  exact Rn.ret 2 (o := ((some (.int ((-2)))), 94, (I, J, xrf))) (fun f => rfl) hC
theorem p_X12_hangsOn_12 {L : Nat} {xs : Nat → Int32} {d : Nat} {Q : xO → Prop} (x1 : Int32) (x2 : Int32) (x3 : Int32) (I : xI) (J : xJ) {t : (Int32 × Int32 × (Option Value) × xI × xJ) ⊕ (Int32 × xI × xJ)} (h : f_X12_hangsOn_12 x1 x2 x3 I J = some t) (hC : (c_X12_hangsOn_1 L xs d Q) t) : Rn L xs (d + 3) 276 47 [some (.ref 61), some (.int x1), some (.int x2), some (.int x3)] [] 94 (I, J, xrf) Q := by
  unfold f_X12_hangsOn_12 at h
  refine Rn.go 2 (j' := 276) (pc' := 2) (ls' := [some (.ref 61), some (.int x1), some (.int ((x2 + 1))), some (.int x3)]) (st' := []) (n' := 94) (M' := (I, J, xrf)) (fun f => rfl) ?_
  cases h; exact hC
theorem p_X12_hangsOn_11 {L : Nat} {xs : Nat → Int32} {d : Nat} {Q : xO → Prop} (x1 : Int32) (x2 : Int32) (x3 : Int32) (I : xI) (J : xJ) {t : (Int32 × Int32 × Int32 × xI × xJ) ⊕ ((Int32 × Int32 × (Option Value) × xI × xJ) ⊕ (Int32 × xI × xJ))} (h : f_X12_hangsOn_11 x1 x2 x3 I J = some t) (hC : (c_X12_hangsOn_4 L xs d Q) t) : Rn L xs (d + 3) 276 41 [some (.ref 61), some (.int x1), some (.int x2), some (.int x3)] [] 94 (I, J, xrf) Q := by
  unfold f_X12_hangsOn_11 at h
  refine Rn.go 2 (j' := 276) (pc' := 12) (ls' := [some (.ref 61), some (.int x1), some (.int x2), some (.int ((x3 + 1)))]) (st' := []) (n' := 94) (M' := (I, J, xrf)) (fun f => rfl) ?_
  cases h; exact hC
theorem p_X12_hangsOn_10 {L : Nat} {xs : Nat → Int32} {d : Nat} {Q : xO → Prop} (x1 : Int32) (x2 : Int32) (x3 : Int32) (I : xI) (J : xJ) {t : Int32 × xI × xJ} (h : f_X12_hangsOn_10 x1 x2 x3 I J = some t) (hC : (c_X12_hangsOn Q) t) : Rn L xs (d + 3) 276 39 [some (.ref 61), some (.int x1), some (.int x2), some (.int x3)] [] 94 (I, J, xrf) Q := by
  unfold f_X12_hangsOn_10 at h
  cases h
  exact Rn.ret 2 (o := ((some (.int x3)), 94, (I, J, xrf))) (fun f => rfl) hC
theorem p_X12_hangsOn_9 {L : Nat} {xs : Nat → Int32} {d : Nat} {Q : xO → Prop} (x1 : Int32) (x2 : Int32) (x3 : Int32) (s0 : Int32) (I : xI) (J : xJ) {t : (Int32 × Int32 × Int32 × xI × xJ) ⊕ ((Int32 × Int32 × (Option Value) × xI × xJ) ⊕ (Int32 × xI × xJ))} (h : f_X12_hangsOn_9 x1 x2 x3 s0 I J = some t) (hC : (c_X12_hangsOn_4 L xs d Q) t) : Rn L xs (d + 3) 276 36 [some (.ref 61), some (.int x1), some (.int x2), some (.int x3)] [.int s0] 94 (I, J, xrf) Q := by
  unfold f_X12_hangsOn_9 at h
  refine Rn.fi 1 (c := s0 = 0) (p1 := 41) (l1 := [some (.ref 61), some (.int x1), some (.int x2), some (.int x3)]) (s1 := []) (n1 := 94) (M1 := (I, J, xrf)) (p2 := 39) (l2 := [some (.ref 61), some (.int x1), some (.int x2), some (.int x3)]) (s2 := []) (n2 := 94) (M2 := (I, J, xrf)) (fun f => rfl) (fun hc => ?_) (fun hc => ?_)
  · rw [if_pos hc] at h
    exact p_X12_hangsOn_11 x1 x2 x3 I J h hC
  · rw [if_neg hc] at h
    obtain ⟨t0, h0, rfl⟩ := Option.map_eq_some_iff.mp h
    obtain ⟨t1, h1, rfl⟩ := Option.map_eq_some_iff.mp h0
    exact p_X12_hangsOn_10 x1 x2 x3 I J h1 hC
theorem p_X12_hangsOn_8 {L : Nat} {xs : Nat → Int32} {d : Nat} {Q : xO → Prop} (x1 : Int32) (x2 : Int32) (x3 : Int32) (I : xI) (J : xJ) {t : (Int32 × Int32 × Int32 × xI × xJ) ⊕ ((Int32 × Int32 × (Option Value) × xI × xJ) ⊕ (Int32 × xI × xJ))} (h : f_X12_hangsOn_8 x1 x2 x3 I J = some t) (hC : (c_X12_hangsOn_4 L xs d Q) t) : Rn L xs (d + 3) 276 30 [some (.ref 61), some (.int x1), some (.int x2), some (.int x3)] [] 94 (I, J, xrf) Q := by
  unfold f_X12_hangsOn_8 at h
  refine Rn.go 3 (j' := 276) (pc' := 33) (ls' := [some (.ref 61), some (.int x1), some (.int x2), some (.int x3)]) (st' := [.int x3, .int x1, .ref 61]) (n' := 94) (M' := (I, J, xrf)) (fun f => rfl) ?_
  obtain ⟨o, ho, h⟩ := Option.bind_eq_some_iff.mp h
  refine Rn.call (d1 := d + 2) (j1 := 275) (ls1 := [some (.ref 61), some (.int x1), some (.int x3), none, none, none]) (rest := []) (fun f => rfl) ?_
  refine p_X12_doesHang (d := d + 0) x1 x3 I J (t := o) ho ?_
  exact p_X12_hangsOn_9 x1 x2 x3 o.1 o.2.1 o.2.2 h hC
theorem p_X12_hangsOn_7 {L : Nat} {xs : Nat → Int32} {d : Nat} {Q : xO → Prop} (x1 : Int32) (x2 : Int32) (x3 : Int32) (s0 : Int32) (I : xI) (J : xJ) {t : (Int32 × Int32 × Int32 × xI × xJ) ⊕ ((Int32 × Int32 × (Option Value) × xI × xJ) ⊕ (Int32 × xI × xJ))} (h : f_X12_hangsOn_7 x1 x2 x3 s0 I J = some t) (hC : (c_X12_hangsOn_4 L xs d Q) t) : Rn L xs (d + 3) 276 26 [some (.ref 61), some (.int x1), some (.int x2), some (.int x3)] [.int s0] 94 (I, J, xrf) Q := by
  unfold f_X12_hangsOn_7 at h
  refine Rn.fi 2 (c := s0 = x2) (p1 := 30) (l1 := [some (.ref 61), some (.int x1), some (.int x2), some (.int x3)]) (s1 := []) (n1 := 94) (M1 := (I, J, xrf)) (p2 := 41) (l2 := [some (.ref 61), some (.int x1), some (.int x2), some (.int x3)]) (s2 := []) (n2 := 94) (M2 := (I, J, xrf)) (fun f => rfl) (fun hc => ?_) (fun hc => ?_)
  · rw [if_pos hc] at h
    exact p_X12_hangsOn_8 x1 x2 x3 I J h hC
  · rw [if_neg hc] at h
    exact p_X12_hangsOn_11 x1 x2 x3 I J h hC
theorem p_X12_hangsOn_6 {L : Nat} {xs : Nat → Int32} {d : Nat} {Q : xO → Prop} (x1 : Int32) (x2 : Int32) (x3 : Int32) (I : xI) (J : xJ) {t : (Int32 × Int32 × Int32 × xI × xJ) ⊕ ((Int32 × Int32 × (Option Value) × xI × xJ) ⊕ (Int32 × xI × xJ))} (h : f_X12_hangsOn_6 x1 x2 x3 I J = some t) (hC : (c_X12_hangsOn_4 L xs d Q) t) : Rn L xs (d + 3) 276 22 [some (.ref 61), some (.int x1), some (.int x2), some (.int x3)] [] 94 (I, J, xrf) Q := by
  unfold f_X12_hangsOn_6 at h
  refine Rn.go 1 (j' := 276) (pc' := 23) (ls' := [some (.ref 61), some (.int x1), some (.int x2), some (.int x3)]) (st' := [.int x3]) (n' := 94) (M' := (I, J, xrf)) (fun f => rfl) ?_
  obtain ⟨o, ho, h⟩ := Option.bind_eq_some_iff.mp h
  refine Rn.call (d1 := d + 2) (j1 := 213) (ls1 := [some (.int x3), none, none]) (rest := []) (fun f => rfl) ?_
  refine p_X12_bitsOf (d := d + 1) x3 I J (t := o) ho ?_
  exact p_X12_hangsOn_7 x1 x2 x3 o.1 o.2.1 o.2.2 h hC
theorem p_X12_hangsOn_5 {L : Nat} {xs : Nat → Int32} {d : Nat} {Q : xO → Prop} (x1 : Int32) (x2 : Int32) (x3 : Int32) (s0 : Int32) (s1 : Int32) (s2 : Int32) (I : xI) (J : xJ) {t : (Int32 × Int32 × Int32 × xI × xJ) ⊕ ((Int32 × Int32 × (Option Value) × xI × xJ) ⊕ (Int32 × xI × xJ))} (h : f_X12_hangsOn_5 x1 x2 x3 s0 s1 s2 I J = some t) (hC : (c_X12_hangsOn_4 L xs d Q) t) : Rn L xs (d + 3) 276 18 [some (.ref 61), some (.int x1), some (.int x2), some (.int x3)] [.int s2, .int s1, .int s0] 94 (I, J, xrf) Q := by
  unfold f_X12_hangsOn_5 at h
  refine Rn.fi 2 (c := (s1 <<< (s2 &&& 31)) ≤ s0) (p1 := 47) (l1 := [some (.ref 61), some (.int x1), some (.int x2), some (.int x3)]) (s1 := []) (n1 := 94) (M1 := (I, J, xrf)) (p2 := 22) (l2 := [some (.ref 61), some (.int x1), some (.int x2), some (.int x3)]) (s2 := []) (n2 := 94) (M2 := (I, J, xrf)) (fun f => rfl) (fun hc => ?_) (fun hc => ?_)
  · rw [if_pos hc] at h
    obtain ⟨t0, h0, rfl⟩ := Option.map_eq_some_iff.mp h
    exact p_X12_hangsOn_12 x1 x2 x3 I J h0 hC
  · rw [if_neg hc] at h
    exact p_X12_hangsOn_6 x1 x2 x3 I J h hC
theorem q_X12_hangsOn_4 {L : Nat} {xs : Nat → Int32} {d : Nat} {Q : xO → Prop} (x1 : Int32) (x2 : Int32) (x3 : Int32) (I : xI) (J : xJ) {t : (Int32 × Int32 × Int32 × xI × xJ) ⊕ ((Int32 × Int32 × (Option Value) × xI × xJ) ⊕ (Int32 × xI × xJ))} (h : b_X12_hangsOn_4 x1 x2 x3 I J = some t) (hC : (c_X12_hangsOn_4 L xs d Q) t) : Rn L xs (d + 3) 276 12 [some (.ref 61), some (.int x1), some (.int x2), some (.int x3)] [] 94 (I, J, xrf) Q := by
  unfold b_X12_hangsOn_4 at h
  refine Rn.go 3 (j' := 276) (pc' := 15) (ls' := [some (.ref 61), some (.int x1), some (.int x2), some (.int x3)]) (st' := [.ref 61, .int 1, .int x3]) (n' := 94) (M' := (I, J, xrf)) (fun f => rfl) ?_
  obtain ⟨o, ho, h⟩ := Option.bind_eq_some_iff.mp h
  refine Rn.call (d1 := d + 2) (j1 := 272) (ls1 := [some (.ref 61)]) (rest := [.int 1, .int x3]) (fun f => rfl) ?_
  refine p_X12_bits (d := d + 1) I J (t := o) ho ?_
  exact p_X12_hangsOn_5 x1 x2 x3 x3 1 o.1 o.2.1 o.2.2 h hC
theorem p_X12_hangsOn_4 {L : Nat} {xs : Nat → Int32} {d : Nat} {Q : xO → Prop} (x1 : Int32) (x2 : Int32) (x3 : Int32) (I : xI) (J : xJ) {t : (Int32 × Int32 × (Option Value) × xI × xJ) ⊕ (Int32 × xI × xJ)} (h : f_X12_hangsOn_4 x1 x2 x3 I J = some t) (hC : (c_X12_hangsOn_1 L xs d Q) t) : Rn L xs (d + 3) 276 12 [some (.ref 61), some (.int x1), some (.int x2), some (.int x3)] [] 94 (I, J, xrf) Q := by
  unfold f_X12_hangsOn_4 at h
  exact xloop_some (P := fun s : Int32 × Int32 × Int32 × xI × xJ => Rn L xs (d + 3) 276 12 [some (.ref 61), some (.int s.1), some (.int s.2.1), some (.int s.2.2.1)] [] 94 (s.2.2.2.1, s.2.2.2.2, xrf) Q) t (fun s ⟨s', hb, hp⟩ => q_X12_hangsOn_4 s.1 s.2.1 s.2.2.1 s.2.2.2.1 s.2.2.2.2 hb hp) (fun s hb => q_X12_hangsOn_4 s.1 s.2.1 s.2.2.1 s.2.2.2.1 s.2.2.2.2 hb hC) _ _ h
theorem p_X12_hangsOn_3 {L : Nat} {xs : Nat → Int32} {d : Nat} {Q : xO → Prop} (x1 : Int32) (x2 : Int32) (z3 : Option Value) (I : xI) (J : xJ) {t : (Int32 × Int32 × (Option Value) × xI × xJ) ⊕ (Int32 × xI × xJ)} (h : f_X12_hangsOn_3 x1 x2 z3 I J = some t) (hC : (c_X12_hangsOn_1 L xs d Q) t) : Rn L xs (d + 3) 276 10 [some (.ref 61), some (.int x1), some (.int x2), z3] [] 94 (I, J, xrf) Q := by
  unfold f_X12_hangsOn_3 at h
  refine Rn.go 2 (j' := 276) (pc' := 12) (ls' := [some (.ref 61), some (.int x1), some (.int x2), some (.int 0)]) (st' := []) (n' := 94) (M' := (I, J, xrf)) (fun f => rfl) ?_
  exact p_X12_hangsOn_4 x1 x2 0 I J h hC
theorem p_X12_hangsOn_2 {L : Nat} {xs : Nat → Int32} {d : Nat} {Q : xO → Prop} (x1 : Int32) (x2 : Int32) (z3 : Option Value) (s0 : Int32) (s1 : Int32) (I : xI) (J : xJ) {t : (Int32 × Int32 × (Option Value) × xI × xJ) ⊕ (Int32 × xI × xJ)} (h : f_X12_hangsOn_2 x1 x2 z3 s0 s1 I J = some t) (hC : (c_X12_hangsOn_1 L xs d Q) t) : Rn L xs (d + 3) 276 7 [some (.ref 61), some (.int x1), some (.int x2), z3] [.int s1, .int s0] 94 (I, J, xrf) Q := by
  unfold f_X12_hangsOn_2 at h
  refine Rn.fi 1 (c := s1 < s0) (p1 := 53) (l1 := [some (.ref 61), some (.int x1), some (.int x2), z3]) (s1 := []) (n1 := 94) (M1 := (I, J, xrf)) (p2 := 10) (l2 := [some (.ref 61), some (.int x1), some (.int x2), z3]) (s2 := []) (n2 := 94) (M2 := (I, J, xrf)) (fun f => rfl) (fun hc => ?_) (fun hc => ?_)
  · rw [if_pos hc] at h
    obtain ⟨t0, h0, rfl⟩ := Option.map_eq_some_iff.mp h
    exact p_X12_hangsOn_13 x1 x2 z3 I J h0 hC
  · rw [if_neg hc] at h
    exact p_X12_hangsOn_3 x1 x2 z3 I J h hC
theorem q_X12_hangsOn_1 {L : Nat} {xs : Nat → Int32} {d : Nat} {Q : xO → Prop} (x1 : Int32) (x2 : Int32) (z3 : Option Value) (I : xI) (J : xJ) {t : (Int32 × Int32 × (Option Value) × xI × xJ) ⊕ (Int32 × xI × xJ)} (h : b_X12_hangsOn_1 x1 x2 z3 I J = some t) (hC : (c_X12_hangsOn_1 L xs d Q) t) : Rn L xs (d + 3) 276 2 [some (.ref 61), some (.int x1), some (.int x2), z3] [] 94 (I, J, xrf) Q := by
  unfold b_X12_hangsOn_1 at h
  refine Rn.go 2 (j' := 276) (pc' := 4) (ls' := [some (.ref 61), some (.int x1), some (.int x2), z3]) (st' := [.ref 61, .int x2]) (n' := 94) (M' := (I, J, xrf)) (fun f => rfl) ?_
  obtain ⟨o, ho, h⟩ := Option.bind_eq_some_iff.mp h
  refine Rn.call (d1 := d + 2) (j1 := 272) (ls1 := [some (.ref 61)]) (rest := [.int x2]) (fun f => rfl) ?_
  refine p_X12_bits (d := d + 1) I J (t := o) ho ?_
  exact p_X12_hangsOn_2 x1 x2 z3 x2 o.1 o.2.1 o.2.2 h hC
theorem p_X12_hangsOn_1 {L : Nat} {xs : Nat → Int32} {d : Nat} {Q : xO → Prop} (x1 : Int32) (x2 : Int32) (z3 : Option Value) (I : xI) (J : xJ) {t : Int32 × xI × xJ} (h : f_X12_hangsOn_1 x1 x2 z3 I J = some t) (hC : (c_X12_hangsOn Q) t) : Rn L xs (d + 3) 276 2 [some (.ref 61), some (.int x1), some (.int x2), z3] [] 94 (I, J, xrf) Q := by
  unfold f_X12_hangsOn_1 at h
  exact xloop_some (P := fun s : Int32 × Int32 × (Option Value) × xI × xJ => Rn L xs (d + 3) 276 2 [some (.ref 61), some (.int s.1), some (.int s.2.1), s.2.2.1] [] 94 (s.2.2.2.1, s.2.2.2.2, xrf) Q) t (fun s ⟨s', hb, hp⟩ => q_X12_hangsOn_1 s.1 s.2.1 s.2.2.1 s.2.2.2.1 s.2.2.2.2 hb hp) (fun s hb => q_X12_hangsOn_1 s.1 s.2.1 s.2.2.1 s.2.2.2.1 s.2.2.2.2 hb hC) _ _ h
theorem p_X12_hangsOn_0 {L : Nat} {xs : Nat → Int32} {d : Nat} {Q : xO → Prop} (x1 : Int32) (I : xI) (J : xJ) {t : Int32 × xI × xJ} (h : f_X12_hangsOn_0 x1 I J = some t) (hC : (c_X12_hangsOn Q) t) : Rn L xs (d + 3) 276 0 [some (.ref 61), some (.int x1), none, none] [] 94 (I, J, xrf) Q := by
  unfold f_X12_hangsOn_0 at h
  refine Rn.go 2 (j' := 276) (pc' := 2) (ls' := [some (.ref 61), some (.int x1), some (.int 0), none]) (st' := []) (n' := 94) (M' := (I, J, xrf)) (fun f => rfl) ?_
  exact p_X12_hangsOn_1 x1 0 none I J h hC
theorem p_X12_hangsOn {L : Nat} {xs : Nat → Int32} {d : Nat} {Q : xO → Prop} (x1 : Int32) (I : xI) (J : xJ) {t : Int32 × xI × xJ} (h : f_X12_hangsOn x1 I J = some t) (hC : Q ((some (.int t.1)), 94, (t.2.1, t.2.2, xrf))) : Rn L xs (d + 3) 276 0 [some (.ref 61), some (.int x1), none, none] [] 94 (I, J, xrf) Q := p_X12_hangsOn_0 x1 I J h hC
/-! X12_hangs -/
def c_X12_hangs (Q : xO → Prop) (t : Int32 × xI × xJ) : Prop := Q ((some (.int t.1)), 94, (t.2.1, t.2.2, xrf))
def f_X12_hangs_5 (x1 : Int32) (x2 : Int32) (I : xI) (J : xJ) : Option (Int32 × xI × xJ) := some ((-1), I, J)
def f_X12_hangs_13 (x1 : Int32) (x2 : Int32) (x3 : Int32) (s0 : Int32) (I : xI) (J : xJ) : Option (Int32 × xI × xJ) := some (s0, I, J)
def f_X12_hangs_12 (x1 : Int32) (x2 : Int32) (x3 : Int32) (I : xI) (J : xJ) : Option (Int32 × xI × xJ) := f_X12_hangs_13 x1 x2 x3 x3 I J
def f_X12_hangs_11 (x1 : Int32) (x2 : Int32) (x3 : Int32) (s0 : Int32) (I : xI) (J : xJ) : Option (Int32 × xI × xJ) := f_X12_hangs_13 x1 x2 x3 s0 I J
def f_X12_hangs_10 (x1 : Int32) (x2 : Int32) (x3 : Int32) (I : xI) (J : xJ) : Option (Int32 × xI × xJ) := (f_X12_bitsOf x3 I J).bind fun o => f_X12_hangs_11 x1 x2 x3 o.1 o.2.1 o.2.2
def f_X12_hangs_9 (x1 : Int32) (x2 : Int32) (x3 : Int32) (I : xI) (J : xJ) : Option (Int32 × xI × xJ) := if x3 < 0 then f_X12_hangs_12 x1 x2 x3 I J else f_X12_hangs_10 x1 x2 x3 I J
def f_X12_hangs_8 (x1 : Int32) (x2 : Int32) (s0 : Int32) (I : xI) (J : xJ) : Option (Int32 × xI × xJ) := if x2 = 0 then f_X12_hangs_9 x1 x2 s0 I J else f_X12_hangs_12 x1 x2 s0 I J
def f_X12_hangs_7 (x1 : Int32) (x2 : Int32) (I : xI) (J : xJ) : Option (Int32 × xI × xJ) := (f_X12_hangsOn x1 I J).bind fun o => f_X12_hangs_8 x1 x2 o.1 o.2.1 o.2.2
def f_X12_hangs_6 (x1 : Int32) (x2 : Int32) (I : xI) (J : xJ) : Option (Int32 × xI × xJ) := (f_X12_asTheyAre I J).bind fun o => f_X12_hangs_7 x1 x2 o.2.1 o.2.2
def f_X12_hangs_4 (x1 : Int32) (x2 : Int32) (s0 : Int32) (I : xI) (J : xJ) : Option (Int32 × xI × xJ) := if s0 = 0 then f_X12_hangs_5 x1 x2 I J else f_X12_hangs_6 x1 x2 I J
def f_X12_hangs_3 (x1 : Int32) (x2 : Int32) (I : xI) (J : xJ) : Option (Int32 × xI × xJ) := (f_X12_in x2 0 1 I J).bind fun o => f_X12_hangs_4 x1 x2 o.1 o.2.1 o.2.2
def f_X12_hangs_2 (x1 : Int32) (x2 : Int32) (s0 : Int32) (I : xI) (J : xJ) : Option (Int32 × xI × xJ) := if s0 = 0 then f_X12_hangs_5 x1 x2 I J else f_X12_hangs_3 x1 x2 I J
def f_X12_hangs_1 (x1 : Int32) (x2 : Int32) (s0 : Int32) (s1 : Int32) (s2 : Int32) (I : xI) (J : xJ) : Option (Int32 × xI × xJ) := (f_X12_in s0 s1 ((s2 - 1)) I J).bind fun o => f_X12_hangs_2 x1 x2 o.1 o.2.1 o.2.2
def f_X12_hangs_0 (x1 : Int32) (x2 : Int32) (I : xI) (J : xJ) : Option (Int32 × xI × xJ) := (f_X12_bits I J).bind fun o => f_X12_hangs_1 x1 x2 x1 0 o.1 o.2.1 o.2.2
def f_X12_hangs (x1 : Int32) (x2 : Int32) (I : xI) (J : xJ) : Option (Int32 × xI × xJ) := f_X12_hangs_0 x1 x2 I J
theorem p_X12_hangs_5 {L : Nat} {xs : Nat → Int32} {d : Nat} {Q : xO → Prop} (x1 : Int32) (x2 : Int32) (I : xI) (J : xJ) {t : Int32 × xI × xJ} (h : f_X12_hangs_5 x1 x2 I J = some t) (hC : (c_X12_hangs Q) t) : Rn L xs (d + 4) 277 23 [some (.ref 61), some (.int x1), some (.int x2), none] [] 94 (I, J, xrf) Q := by
  unfold f_X12_hangs_5 at h
  cases h
  exact Rn.ret 2 (o := ((some (.int ((-1)))), 94, (I, J, xrf))) (fun f => rfl) hC
theorem p_X12_hangs_13 {L : Nat} {xs : Nat → Int32} {d : Nat} {Q : xO → Prop} (x1 : Int32) (x2 : Int32) (x3 : Int32) (s0 : Int32) (I : xI) (J : xJ) {t : Int32 × xI × xJ} (h : f_X12_hangs_13 x1 x2 x3 s0 I J = some t) (hC : (c_X12_hangs Q) t) : Rn L xs (d + 4) 277 51 [some (.ref 61), some (.int x1), some (.int x2), some (.int x3)] [.int s0] 94 (I, J, xrf) Q := by
  unfold f_X12_hangs_13 at h
  cases h
  exact Rn.ret 1 (o := ((some (.int s0)), 94, (I, J, xrf))) (fun f => rfl) hC
theorem p_X12_hangs_12 {L : Nat} {xs : Nat → Int32} {d : Nat} {Q : xO → Prop} (x1 : Int32) (x2 : Int32) (x3 : Int32) (I : xI) (J : xJ) {t : Int32 × xI × xJ} (h : f_X12_hangs_12 x1 x2 x3 I J = some t) (hC : (c_X12_hangs Q) t) : Rn L xs (d + 4) 277 50 [some (.ref 61), some (.int x1), some (.int x2), some (.int x3)] [] 94 (I, J, xrf) Q := by
  unfold f_X12_hangs_12 at h
  refine Rn.go 1 (j' := 277) (pc' := 51) (ls' := [some (.ref 61), some (.int x1), some (.int x2), some (.int x3)]) (st' := [.int x3]) (n' := 94) (M' := (I, J, xrf)) (fun f => rfl) ?_
  exact p_X12_hangs_13 x1 x2 x3 x3 I J h hC
theorem p_X12_hangs_11 {L : Nat} {xs : Nat → Int32} {d : Nat} {Q : xO → Prop} (x1 : Int32) (x2 : Int32) (x3 : Int32) (s0 : Int32) (I : xI) (J : xJ) {t : Int32 × xI × xJ} (h : f_X12_hangs_11 x1 x2 x3 s0 I J = some t) (hC : (c_X12_hangs Q) t) : Rn L xs (d + 4) 277 47 [some (.ref 61), some (.int x1), some (.int x2), some (.int x3)] [.int s0] 94 (I, J, xrf) Q := by
  unfold f_X12_hangs_11 at h
  refine Rn.go 1 (j' := 277) (pc' := 51) (ls' := [some (.ref 61), some (.int x1), some (.int x2), some (.int x3)]) (st' := [.int s0]) (n' := 94) (M' := (I, J, xrf)) (fun f => rfl) ?_
  exact p_X12_hangs_13 x1 x2 x3 s0 I J h hC
theorem p_X12_hangs_10 {L : Nat} {xs : Nat → Int32} {d : Nat} {Q : xO → Prop} (x1 : Int32) (x2 : Int32) (x3 : Int32) (I : xI) (J : xJ) {t : Int32 × xI × xJ} (h : f_X12_hangs_10 x1 x2 x3 I J = some t) (hC : (c_X12_hangs Q) t) : Rn L xs (d + 4) 277 43 [some (.ref 61), some (.int x1), some (.int x2), some (.int x3)] [] 94 (I, J, xrf) Q := by
  unfold f_X12_hangs_10 at h
  refine Rn.go 1 (j' := 277) (pc' := 44) (ls' := [some (.ref 61), some (.int x1), some (.int x2), some (.int x3)]) (st' := [.int x3]) (n' := 94) (M' := (I, J, xrf)) (fun f => rfl) ?_
  obtain ⟨o, ho, h⟩ := Option.bind_eq_some_iff.mp h
  refine Rn.call (d1 := d + 3) (j1 := 213) (ls1 := [some (.int x3), none, none]) (rest := []) (fun f => rfl) ?_
  refine p_X12_bitsOf (d := d + 2) x3 I J (t := o) ho ?_
  exact p_X12_hangs_11 x1 x2 x3 o.1 o.2.1 o.2.2 h hC
theorem p_X12_hangs_9 {L : Nat} {xs : Nat → Int32} {d : Nat} {Q : xO → Prop} (x1 : Int32) (x2 : Int32) (x3 : Int32) (I : xI) (J : xJ) {t : Int32 × xI × xJ} (h : f_X12_hangs_9 x1 x2 x3 I J = some t) (hC : (c_X12_hangs Q) t) : Rn L xs (d + 4) 277 39 [some (.ref 61), some (.int x1), some (.int x2), some (.int x3)] [] 94 (I, J, xrf) Q := by
  unfold f_X12_hangs_9 at h
  refine Rn.fi 2 (c := x3 < 0) (p1 := 50) (l1 := [some (.ref 61), some (.int x1), some (.int x2), some (.int x3)]) (s1 := []) (n1 := 94) (M1 := (I, J, xrf)) (p2 := 43) (l2 := [some (.ref 61), some (.int x1), some (.int x2), some (.int x3)]) (s2 := []) (n2 := 94) (M2 := (I, J, xrf)) (fun f => rfl) (fun hc => ?_) (fun hc => ?_)
  · rw [if_pos hc] at h
    exact p_X12_hangs_12 x1 x2 x3 I J h hC
  · rw [if_neg hc] at h
    exact p_X12_hangs_10 x1 x2 x3 I J h hC
theorem p_X12_hangs_8 {L : Nat} {xs : Nat → Int32} {d : Nat} {Q : xO → Prop} (x1 : Int32) (x2 : Int32) (s0 : Int32) (I : xI) (J : xJ) {t : Int32 × xI × xJ} (h : f_X12_hangs_8 x1 x2 s0 I J = some t) (hC : (c_X12_hangs Q) t) : Rn L xs (d + 4) 277 34 [some (.ref 61), some (.int x1), some (.int x2), none] [.int s0] 94 (I, J, xrf) Q := by
  unfold f_X12_hangs_8 at h
  refine Rn.fi 3 (c := x2 = 0) (p1 := 39) (l1 := [some (.ref 61), some (.int x1), some (.int x2), some (.int s0)]) (s1 := []) (n1 := 94) (M1 := (I, J, xrf)) (p2 := 50) (l2 := [some (.ref 61), some (.int x1), some (.int x2), some (.int s0)]) (s2 := []) (n2 := 94) (M2 := (I, J, xrf)) (fun f => rfl) (fun hc => ?_) (fun hc => ?_)
  · rw [if_pos hc] at h
    exact p_X12_hangs_9 x1 x2 s0 I J h hC
  · rw [if_neg hc] at h
    exact p_X12_hangs_12 x1 x2 s0 I J h hC
theorem p_X12_hangs_7 {L : Nat} {xs : Nat → Int32} {d : Nat} {Q : xO → Prop} (x1 : Int32) (x2 : Int32) (I : xI) (J : xJ) {t : Int32 × xI × xJ} (h : f_X12_hangs_7 x1 x2 I J = some t) (hC : (c_X12_hangs Q) t) : Rn L xs (d + 4) 277 29 [some (.ref 61), some (.int x1), some (.int x2), none] [] 94 (I, J, xrf) Q := by
  unfold f_X12_hangs_7 at h
  refine Rn.go 2 (j' := 277) (pc' := 31) (ls' := [some (.ref 61), some (.int x1), some (.int x2), none]) (st' := [.int x1, .ref 61]) (n' := 94) (M' := (I, J, xrf)) (fun f => rfl) ?_
  obtain ⟨o, ho, h⟩ := Option.bind_eq_some_iff.mp h
  refine Rn.call (d1 := d + 3) (j1 := 276) (ls1 := [some (.ref 61), some (.int x1), none, none]) (rest := []) (fun f => rfl) ?_
  refine p_X12_hangsOn (d := d + 0) x1 I J (t := o) ho ?_
  exact p_X12_hangs_8 x1 x2 o.1 o.2.1 o.2.2 h hC
theorem p_X12_hangs_6 {L : Nat} {xs : Nat → Int32} {d : Nat} {Q : xO → Prop} (x1 : Int32) (x2 : Int32) (I : xI) (J : xJ) {t : Int32 × xI × xJ} (h : f_X12_hangs_6 x1 x2 I J = some t) (hC : (c_X12_hangs Q) t) : Rn L xs (d + 4) 277 25 [some (.ref 61), some (.int x1), some (.int x2), none] [] 94 (I, J, xrf) Q := by
  unfold f_X12_hangs_6 at h
  refine Rn.go 1 (j' := 277) (pc' := 26) (ls' := [some (.ref 61), some (.int x1), some (.int x2), none]) (st' := [.ref 61]) (n' := 94) (M' := (I, J, xrf)) (fun f => rfl) ?_
  obtain ⟨o, ho, h⟩ := Option.bind_eq_some_iff.mp h
  refine Rn.call (d1 := d + 3) (j1 := 273) (ls1 := [some (.ref 61), none]) (rest := []) (fun f => rfl) ?_
  refine p_X12_asTheyAre (d := d + 1) I J (t := o) ho ?_
  exact p_X12_hangs_7 x1 x2 o.2.1 o.2.2 h hC
theorem p_X12_hangs_4 {L : Nat} {xs : Nat → Int32} {d : Nat} {Q : xO → Prop} (x1 : Int32) (x2 : Int32) (s0 : Int32) (I : xI) (J : xJ) {t : Int32 × xI × xJ} (h : f_X12_hangs_4 x1 x2 s0 I J = some t) (hC : (c_X12_hangs Q) t) : Rn L xs (d + 4) 277 20 [some (.ref 61), some (.int x1), some (.int x2), none] [.int s0] 94 (I, J, xrf) Q := by
  unfold f_X12_hangs_4 at h
  refine Rn.fi 1 (c := s0 = 0) (p1 := 23) (l1 := [some (.ref 61), some (.int x1), some (.int x2), none]) (s1 := []) (n1 := 94) (M1 := (I, J, xrf)) (p2 := 25) (l2 := [some (.ref 61), some (.int x1), some (.int x2), none]) (s2 := []) (n2 := 94) (M2 := (I, J, xrf)) (fun f => rfl) (fun hc => ?_) (fun hc => ?_)
  · rw [if_pos hc] at h
    exact p_X12_hangs_5 x1 x2 I J h hC
  · rw [if_neg hc] at h
    exact p_X12_hangs_6 x1 x2 I J h hC
theorem p_X12_hangs_3 {L : Nat} {xs : Nat → Int32} {d : Nat} {Q : xO → Prop} (x1 : Int32) (x2 : Int32) (I : xI) (J : xJ) {t : Int32 × xI × xJ} (h : f_X12_hangs_3 x1 x2 I J = some t) (hC : (c_X12_hangs Q) t) : Rn L xs (d + 4) 277 14 [some (.ref 61), some (.int x1), some (.int x2), none] [] 94 (I, J, xrf) Q := by
  unfold f_X12_hangs_3 at h
  refine Rn.go 3 (j' := 277) (pc' := 17) (ls' := [some (.ref 61), some (.int x1), some (.int x2), none]) (st' := [.int 1, .int 0, .int x2]) (n' := 94) (M' := (I, J, xrf)) (fun f => rfl) ?_
  obtain ⟨o, ho, h⟩ := Option.bind_eq_some_iff.mp h
  refine Rn.call (d1 := d + 3) (j1 := 206) (ls1 := [some (.int x2), some (.int 0), some (.int 1)]) (rest := []) (fun f => rfl) ?_
  refine p_X12_in (d := d + 2) x2 0 1 I J (t := o) ho ?_
  exact p_X12_hangs_4 x1 x2 o.1 o.2.1 o.2.2 h hC
theorem p_X12_hangs_2 {L : Nat} {xs : Nat → Int32} {d : Nat} {Q : xO → Prop} (x1 : Int32) (x2 : Int32) (s0 : Int32) (I : xI) (J : xJ) {t : Int32 × xI × xJ} (h : f_X12_hangs_2 x1 x2 s0 I J = some t) (hC : (c_X12_hangs Q) t) : Rn L xs (d + 4) 277 11 [some (.ref 61), some (.int x1), some (.int x2), none] [.int s0] 94 (I, J, xrf) Q := by
  unfold f_X12_hangs_2 at h
  refine Rn.fi 1 (c := s0 = 0) (p1 := 23) (l1 := [some (.ref 61), some (.int x1), some (.int x2), none]) (s1 := []) (n1 := 94) (M1 := (I, J, xrf)) (p2 := 14) (l2 := [some (.ref 61), some (.int x1), some (.int x2), none]) (s2 := []) (n2 := 94) (M2 := (I, J, xrf)) (fun f => rfl) (fun hc => ?_) (fun hc => ?_)
  · rw [if_pos hc] at h
    exact p_X12_hangs_5 x1 x2 I J h hC
  · rw [if_neg hc] at h
    exact p_X12_hangs_3 x1 x2 I J h hC
theorem p_X12_hangs_1 {L : Nat} {xs : Nat → Int32} {d : Nat} {Q : xO → Prop} (x1 : Int32) (x2 : Int32) (s0 : Int32) (s1 : Int32) (s2 : Int32) (I : xI) (J : xJ) {t : Int32 × xI × xJ} (h : f_X12_hangs_1 x1 x2 s0 s1 s2 I J = some t) (hC : (c_X12_hangs Q) t) : Rn L xs (d + 4) 277 6 [some (.ref 61), some (.int x1), some (.int x2), none] [.int s2, .int s1, .int s0] 94 (I, J, xrf) Q := by
  unfold f_X12_hangs_1 at h
  refine Rn.go 2 (j' := 277) (pc' := 8) (ls' := [some (.ref 61), some (.int x1), some (.int x2), none]) (st' := [.int ((s2 - 1)), .int s1, .int s0]) (n' := 94) (M' := (I, J, xrf)) (fun f => rfl) ?_
  obtain ⟨o, ho, h⟩ := Option.bind_eq_some_iff.mp h
  refine Rn.call (d1 := d + 3) (j1 := 206) (ls1 := [some (.int s0), some (.int s1), some (.int ((s2 - 1)))]) (rest := []) (fun f => rfl) ?_
  refine p_X12_in (d := d + 2) s0 s1 ((s2 - 1)) I J (t := o) ho ?_
  exact p_X12_hangs_2 x1 x2 o.1 o.2.1 o.2.2 h hC
theorem p_X12_hangs_0 {L : Nat} {xs : Nat → Int32} {d : Nat} {Q : xO → Prop} (x1 : Int32) (x2 : Int32) (I : xI) (J : xJ) {t : Int32 × xI × xJ} (h : f_X12_hangs_0 x1 x2 I J = some t) (hC : (c_X12_hangs Q) t) : Rn L xs (d + 4) 277 0 [some (.ref 61), some (.int x1), some (.int x2), none] [] 94 (I, J, xrf) Q := by
  unfold f_X12_hangs_0 at h
  refine Rn.go 3 (j' := 277) (pc' := 3) (ls' := [some (.ref 61), some (.int x1), some (.int x2), none]) (st' := [.ref 61, .int 0, .int x1]) (n' := 94) (M' := (I, J, xrf)) (fun f => rfl) ?_
  obtain ⟨o, ho, h⟩ := Option.bind_eq_some_iff.mp h
  refine Rn.call (d1 := d + 3) (j1 := 272) (ls1 := [some (.ref 61)]) (rest := [.int 0, .int x1]) (fun f => rfl) ?_
  refine p_X12_bits (d := d + 2) I J (t := o) ho ?_
  exact p_X12_hangs_1 x1 x2 x1 0 o.1 o.2.1 o.2.2 h hC
theorem p_X12_hangs {L : Nat} {xs : Nat → Int32} {d : Nat} {Q : xO → Prop} (x1 : Int32) (x2 : Int32) (I : xI) (J : xJ) {t : Int32 × xI × xJ} (h : f_X12_hangs x1 x2 I J = some t) (hC : Q ((some (.int t.1)), 94, (t.2.1, t.2.2, xrf))) : Rn L xs (d + 4) 277 0 [some (.ref 61), some (.int x1), some (.int x2), none] [] 94 (I, J, xrf) Q := p_X12_hangs_0 x1 x2 I J h hC
/-! X12_costNow -/
def c_X12_costNow (Q : xO → Prop) (t : Int32 × xI × xJ) : Prop := Q ((some (.int t.1)), 94, (t.2.1, t.2.2, xrf))
def c_X12_costNow_1 (L : Nat) (xs : Nat → Int32) (d : Nat) (Q : xO → Prop) (t : (Int32 × Int32 × (Option Value) × xI × xJ) ⊕ (Int32 × xI × xJ)) : Prop := match t with
  | .inl s => Rn L xs (d + 4) 278 4 [some (.ref 61), some (.int s.1), some (.int s.2.1), s.2.2.1] [] 94 (s.2.2.2.1, s.2.2.2.2, xrf) Q
  | .inr t => (c_X12_costNow Q) t
def f_X12_costNow_8 (x1 : Int32) (x2 : Int32) (z3 : Option Value) (I : xI) (J : xJ) : Option (Int32 × xI × xJ) := some (x1, I, J)
def f_X12_costNow_7 (x1 : Int32) (x2 : Int32) (x3 : Int32) (s0 : Int32) (s1 : Int32) (I : xI) (J : xJ) : Option ((Int32 × Int32 × (Option Value) × xI × xJ) ⊕ (Int32 × xI × xJ)) := some (.inl (((s0 + s1)), ((x2 + 1)), (some (.int x3)), I, J))
def f_X12_costNow_6 (x1 : Int32) (x2 : Int32) (x3 : Int32) (I : xI) (J : xJ) : Option ((Int32 × Int32 × (Option Value) × xI × xJ) ⊕ (Int32 × xI × xJ)) := (f_X12_bitsOf x3 I J).bind fun o => f_X12_costNow_7 x1 x2 x3 x1 o.1 o.2.1 o.2.2
def f_X12_costNow_5 (x1 : Int32) (x2 : Int32) (x3 : Int32) (I : xI) (J : xJ) : Option (Int32 × xI × xJ) := some ((-2), I, J)
def f_X12_costNow_4 (x1 : Int32) (x2 : Int32) (z3 : Option Value) (s0 : Int32) (I : xI) (J : xJ) : Option ((Int32 × Int32 × (Option Value) × xI × xJ) ⊕ (Int32 × xI × xJ)) := if 0 ≤ s0 then f_X12_costNow_6 x1 x2 s0 I J else ((f_X12_costNow_5 x1 x2 s0 I J)).map .inr
def f_X12_costNow_3 (x1 : Int32) (x2 : Int32) (z3 : Option Value) (I : xI) (J : xJ) : Option ((Int32 × Int32 × (Option Value) × xI × xJ) ⊕ (Int32 × xI × xJ)) := (f_X12_hangsOn x2 I J).bind fun o => f_X12_costNow_4 x1 x2 z3 o.1 o.2.1 o.2.2
def f_X12_costNow_2 (x1 : Int32) (x2 : Int32) (z3 : Option Value) (s0 : Int32) (s1 : Int32) (I : xI) (J : xJ) : Option ((Int32 × Int32 × (Option Value) × xI × xJ) ⊕ (Int32 × xI × xJ)) := if s1 ≤ s0 then ((f_X12_costNow_8 x1 x2 z3 I J)).map .inr else f_X12_costNow_3 x1 x2 z3 I J
def b_X12_costNow_1 (x1 : Int32) (x2 : Int32) (z3 : Option Value) (I : xI) (J : xJ) : Option ((Int32 × Int32 × (Option Value) × xI × xJ) ⊕ (Int32 × xI × xJ)) := (f_X12_bits I J).bind fun o => f_X12_costNow_2 x1 x2 z3 x2 o.1 o.2.1 o.2.2
def f_X12_costNow_1 (x1 : Int32) (x2 : Int32) (z3 : Option Value) (I : xI) (J : xJ) : Option (Int32 × xI × xJ) := xloop (fun s : Int32 × Int32 × (Option Value) × xI × xJ => b_X12_costNow_1 s.1 s.2.1 s.2.2.1 s.2.2.2.1 s.2.2.2.2) 5000 (x1, x2, z3, I, J)
def f_X12_costNow_0 (I : xI) (J : xJ) : Option (Int32 × xI × xJ) := f_X12_costNow_1 0 0 none I J
def f_X12_costNow (I : xI) (J : xJ) : Option (Int32 × xI × xJ) := f_X12_costNow_0 I J
theorem p_X12_costNow_8 {L : Nat} {xs : Nat → Int32} {d : Nat} {Q : xO → Prop} (x1 : Int32) (x2 : Int32) (z3 : Option Value) (I : xI) (J : xJ) {t : Int32 × xI × xJ} (h : f_X12_costNow_8 x1 x2 z3 I J = some t) (hC : (c_X12_costNow Q) t) : Rn L xs (d + 4) 278 38 [some (.ref 61), some (.int x1), some (.int x2), z3] [] 94 (I, J, xrf) Q := by
  unfold f_X12_costNow_8 at h
  cases h
  exact Rn.ret 2 (o := ((some (.int x1)), 94, (I, J, xrf))) (fun f => rfl) hC
theorem p_X12_costNow_7 {L : Nat} {xs : Nat → Int32} {d : Nat} {Q : xO → Prop} (x1 : Int32) (x2 : Int32) (x3 : Int32) (s0 : Int32) (s1 : Int32) (I : xI) (J : xJ) {t : (Int32 × Int32 × (Option Value) × xI × xJ) ⊕ (Int32 × xI × xJ)} (h : f_X12_costNow_7 x1 x2 x3 s0 s1 I J = some t) (hC : (c_X12_costNow_1 L xs d Q) t) : Rn L xs (d + 4) 278 30 [some (.ref 61), some (.int x1), some (.int x2), some (.int x3)] [.int s1, .int s0] 94 (I, J, xrf) Q := by
  unfold f_X12_costNow_7 at h
  refine Rn.go 4 (j' := 278) (pc' := 4) (ls' := [some (.ref 61), some (.int ((s0 + s1))), some (.int ((x2 + 1))), some (.int x3)]) (st' := []) (n' := 94) (M' := (I, J, xrf)) (fun f => rfl) ?_
  cases h; exact hC
theorem p_X12_costNow_6 {L : Nat} {xs : Nat → Int32} {d : Nat} {Q : xO → Prop} (x1 : Int32) (x2 : Int32) (x3 : Int32) (I : xI) (J : xJ) {t : (Int32 × Int32 × (Option Value) × xI × xJ) ⊕ (Int32 × xI × xJ)} (h : f_X12_costNow_6 x1 x2 x3 I J = some t) (hC : (c_X12_costNow_1 L xs d Q) t) : Rn L xs (d + 4) 278 25 [some (.ref 61), some (.int x1), some (.int x2), some (.int x3)] [] 94 (I, J, xrf) Q := by
  unfold f_X12_costNow_6 at h
  refine Rn.go 2 (j' := 278) (pc' := 27) (ls' := [some (.ref 61), some (.int x1), some (.int x2), some (.int x3)]) (st' := [.int x3, .int x1]) (n' := 94) (M' := (I, J, xrf)) (fun f => rfl) ?_
  obtain ⟨o, ho, h⟩ := Option.bind_eq_some_iff.mp h
  refine Rn.call (d1 := d + 3) (j1 := 213) (ls1 := [some (.int x3), none, none]) (rest := [.int x1]) (fun f => rfl) ?_
  refine p_X12_bitsOf (d := d + 2) x3 I J (t := o) ho ?_
  exact p_X12_costNow_7 x1 x2 x3 x1 o.1 o.2.1 o.2.2 h hC
theorem p_X12_costNow_5 {L : Nat} {xs : Nat → Int32} {d : Nat} {Q : xO → Prop} (x1 : Int32) (x2 : Int32) (x3 : Int32) (I : xI) (J : xJ) {t : Int32 × xI × xJ} (h : f_X12_costNow_5 x1 x2 x3 I J = some t) (hC : (c_X12_costNow Q) t) : Rn L xs (d + 4) 278 22 [some (.ref 61), some (.int x1), some (.int x2), some (.int x3)] [] 94 (I, J, xrf) Q := by
  unfold f_X12_costNow_5 at h
  cases h
  exact Rn.ret 2 (o := ((some (.int ((-2)))), 94, (I, J, xrf))) (fun f => rfl) hC
theorem p_X12_costNow_4 {L : Nat} {xs : Nat → Int32} {d : Nat} {Q : xO → Prop} (x1 : Int32) (x2 : Int32) (z3 : Option Value) (s0 : Int32) (I : xI) (J : xJ) {t : (Int32 × Int32 × (Option Value) × xI × xJ) ⊕ (Int32 × xI × xJ)} (h : f_X12_costNow_4 x1 x2 z3 s0 I J = some t) (hC : (c_X12_costNow_1 L xs d Q) t) : Rn L xs (d + 4) 278 17 [some (.ref 61), some (.int x1), some (.int x2), z3] [.int s0] 94 (I, J, xrf) Q := by
  unfold f_X12_costNow_4 at h
  refine Rn.fi 3 (c := 0 ≤ s0) (p1 := 25) (l1 := [some (.ref 61), some (.int x1), some (.int x2), some (.int s0)]) (s1 := []) (n1 := 94) (M1 := (I, J, xrf)) (p2 := 22) (l2 := [some (.ref 61), some (.int x1), some (.int x2), some (.int s0)]) (s2 := []) (n2 := 94) (M2 := (I, J, xrf)) (fun f => rfl) (fun hc => ?_) (fun hc => ?_)
  · rw [if_pos hc] at h
    exact p_X12_costNow_6 x1 x2 s0 I J h hC
  · rw [if_neg hc] at h
    obtain ⟨t0, h0, rfl⟩ := Option.map_eq_some_iff.mp h
    exact p_X12_costNow_5 x1 x2 s0 I J h0 hC
theorem p_X12_costNow_3 {L : Nat} {xs : Nat → Int32} {d : Nat} {Q : xO → Prop} (x1 : Int32) (x2 : Int32) (z3 : Option Value) (I : xI) (J : xJ) {t : (Int32 × Int32 × (Option Value) × xI × xJ) ⊕ (Int32 × xI × xJ)} (h : f_X12_costNow_3 x1 x2 z3 I J = some t) (hC : (c_X12_costNow_1 L xs d Q) t) : Rn L xs (d + 4) 278 12 [some (.ref 61), some (.int x1), some (.int x2), z3] [] 94 (I, J, xrf) Q := by
  unfold f_X12_costNow_3 at h
  refine Rn.go 2 (j' := 278) (pc' := 14) (ls' := [some (.ref 61), some (.int x1), some (.int x2), z3]) (st' := [.int x2, .ref 61]) (n' := 94) (M' := (I, J, xrf)) (fun f => rfl) ?_
  obtain ⟨o, ho, h⟩ := Option.bind_eq_some_iff.mp h
  refine Rn.call (d1 := d + 3) (j1 := 276) (ls1 := [some (.ref 61), some (.int x2), none, none]) (rest := []) (fun f => rfl) ?_
  refine p_X12_hangsOn (d := d + 0) x2 I J (t := o) ho ?_
  exact p_X12_costNow_4 x1 x2 z3 o.1 o.2.1 o.2.2 h hC
theorem p_X12_costNow_2 {L : Nat} {xs : Nat → Int32} {d : Nat} {Q : xO → Prop} (x1 : Int32) (x2 : Int32) (z3 : Option Value) (s0 : Int32) (s1 : Int32) (I : xI) (J : xJ) {t : (Int32 × Int32 × (Option Value) × xI × xJ) ⊕ (Int32 × xI × xJ)} (h : f_X12_costNow_2 x1 x2 z3 s0 s1 I J = some t) (hC : (c_X12_costNow_1 L xs d Q) t) : Rn L xs (d + 4) 278 9 [some (.ref 61), some (.int x1), some (.int x2), z3] [.int s1, .int s0] 94 (I, J, xrf) Q := by
  unfold f_X12_costNow_2 at h
  refine Rn.fi 1 (c := s1 ≤ s0) (p1 := 38) (l1 := [some (.ref 61), some (.int x1), some (.int x2), z3]) (s1 := []) (n1 := 94) (M1 := (I, J, xrf)) (p2 := 12) (l2 := [some (.ref 61), some (.int x1), some (.int x2), z3]) (s2 := []) (n2 := 94) (M2 := (I, J, xrf)) (fun f => rfl) (fun hc => ?_) (fun hc => ?_)
  · rw [if_pos hc] at h
    obtain ⟨t0, h0, rfl⟩ := Option.map_eq_some_iff.mp h
    exact p_X12_costNow_8 x1 x2 z3 I J h0 hC
  · rw [if_neg hc] at h
    exact p_X12_costNow_3 x1 x2 z3 I J h hC
theorem q_X12_costNow_1 {L : Nat} {xs : Nat → Int32} {d : Nat} {Q : xO → Prop} (x1 : Int32) (x2 : Int32) (z3 : Option Value) (I : xI) (J : xJ) {t : (Int32 × Int32 × (Option Value) × xI × xJ) ⊕ (Int32 × xI × xJ)} (h : b_X12_costNow_1 x1 x2 z3 I J = some t) (hC : (c_X12_costNow_1 L xs d Q) t) : Rn L xs (d + 4) 278 4 [some (.ref 61), some (.int x1), some (.int x2), z3] [] 94 (I, J, xrf) Q := by
  unfold b_X12_costNow_1 at h
  refine Rn.go 2 (j' := 278) (pc' := 6) (ls' := [some (.ref 61), some (.int x1), some (.int x2), z3]) (st' := [.ref 61, .int x2]) (n' := 94) (M' := (I, J, xrf)) (fun f => rfl) ?_
  obtain ⟨o, ho, h⟩ := Option.bind_eq_some_iff.mp h
  refine Rn.call (d1 := d + 3) (j1 := 272) (ls1 := [some (.ref 61)]) (rest := [.int x2]) (fun f => rfl) ?_
  refine p_X12_bits (d := d + 2) I J (t := o) ho ?_
  exact p_X12_costNow_2 x1 x2 z3 x2 o.1 o.2.1 o.2.2 h hC
theorem p_X12_costNow_1 {L : Nat} {xs : Nat → Int32} {d : Nat} {Q : xO → Prop} (x1 : Int32) (x2 : Int32) (z3 : Option Value) (I : xI) (J : xJ) {t : Int32 × xI × xJ} (h : f_X12_costNow_1 x1 x2 z3 I J = some t) (hC : (c_X12_costNow Q) t) : Rn L xs (d + 4) 278 4 [some (.ref 61), some (.int x1), some (.int x2), z3] [] 94 (I, J, xrf) Q := by
  unfold f_X12_costNow_1 at h
  exact xloop_some (P := fun s : Int32 × Int32 × (Option Value) × xI × xJ => Rn L xs (d + 4) 278 4 [some (.ref 61), some (.int s.1), some (.int s.2.1), s.2.2.1] [] 94 (s.2.2.2.1, s.2.2.2.2, xrf) Q) t (fun s ⟨s', hb, hp⟩ => q_X12_costNow_1 s.1 s.2.1 s.2.2.1 s.2.2.2.1 s.2.2.2.2 hb hp) (fun s hb => q_X12_costNow_1 s.1 s.2.1 s.2.2.1 s.2.2.2.1 s.2.2.2.2 hb hC) _ _ h
theorem p_X12_costNow_0 {L : Nat} {xs : Nat → Int32} {d : Nat} {Q : xO → Prop} (I : xI) (J : xJ) {t : Int32 × xI × xJ} (h : f_X12_costNow_0 I J = some t) (hC : (c_X12_costNow Q) t) : Rn L xs (d + 4) 278 0 [some (.ref 61), none, none, none] [] 94 (I, J, xrf) Q := by
  unfold f_X12_costNow_0 at h
  refine Rn.go 4 (j' := 278) (pc' := 4) (ls' := [some (.ref 61), some (.int 0), some (.int 0), none]) (st' := []) (n' := 94) (M' := (I, J, xrf)) (fun f => rfl) ?_
  exact p_X12_costNow_1 0 0 none I J h hC
theorem p_X12_costNow {L : Nat} {xs : Nat → Int32} {d : Nat} {Q : xO → Prop} (I : xI) (J : xJ) {t : Int32 × xI × xJ} (h : f_X12_costNow I J = some t) (hC : Q ((some (.int t.1)), 94, (t.2.1, t.2.2, xrf))) : Rn L xs (d + 4) 278 0 [some (.ref 61), none, none, none] [] 94 (I, J, xrf) Q := p_X12_costNow_0 I J h hC
/-! X12_cost -/
def c_X12_cost (Q : xO → Prop) (t : Int32 × xI × xJ) : Prop := Q ((some (.int t.1)), 94, (t.2.1, t.2.2, xrf))
def f_X12_cost_2 (s0 : Int32) (I : xI) (J : xJ) : Option (Int32 × xI × xJ) := some (s0, I, J)
def f_X12_cost_1 (I : xI) (J : xJ) : Option (Int32 × xI × xJ) := (f_X12_costNow I J).bind fun o => f_X12_cost_2 o.1 o.2.1 o.2.2
def f_X12_cost_0 (I : xI) (J : xJ) : Option (Int32 × xI × xJ) := (f_X12_asTheyAre I J).bind fun o => f_X12_cost_1 o.2.1 o.2.2
def f_X12_cost (I : xI) (J : xJ) : Option (Int32 × xI × xJ) := f_X12_cost_0 I J
theorem p_X12_cost_2 {L : Nat} {xs : Nat → Int32} {d : Nat} {Q : xO → Prop} (s0 : Int32) (I : xI) (J : xJ) {t : Int32 × xI × xJ} (h : f_X12_cost_2 s0 I J = some t) (hC : (c_X12_cost Q) t) : Rn L xs (d + 5) 279 8 [some (.ref 61)] [.int s0] 94 (I, J, xrf) Q := by
  unfold f_X12_cost_2 at h
  cases h
  exact Rn.ret 1 (o := ((some (.int s0)), 94, (I, J, xrf))) (fun f => rfl) hC
theorem p_X12_cost_1 {L : Nat} {xs : Nat → Int32} {d : Nat} {Q : xO → Prop} (I : xI) (J : xJ) {t : Int32 × xI × xJ} (h : f_X12_cost_1 I J = some t) (hC : (c_X12_cost Q) t) : Rn L xs (d + 5) 279 4 [some (.ref 61)] [] 94 (I, J, xrf) Q := by
  unfold f_X12_cost_1 at h
  refine Rn.go 1 (j' := 279) (pc' := 5) (ls' := [some (.ref 61)]) (st' := [.ref 61]) (n' := 94) (M' := (I, J, xrf)) (fun f => rfl) ?_
  obtain ⟨o, ho, h⟩ := Option.bind_eq_some_iff.mp h
  refine Rn.call (d1 := d + 4) (j1 := 278) (ls1 := [some (.ref 61), none, none, none]) (rest := []) (fun f => rfl) ?_
  refine p_X12_costNow (d := d + 0) I J (t := o) ho ?_
  exact p_X12_cost_2 o.1 o.2.1 o.2.2 h hC
theorem p_X12_cost_0 {L : Nat} {xs : Nat → Int32} {d : Nat} {Q : xO → Prop} (I : xI) (J : xJ) {t : Int32 × xI × xJ} (h : f_X12_cost_0 I J = some t) (hC : (c_X12_cost Q) t) : Rn L xs (d + 5) 279 0 [some (.ref 61)] [] 94 (I, J, xrf) Q := by
  unfold f_X12_cost_0 at h
  refine Rn.go 1 (j' := 279) (pc' := 1) (ls' := [some (.ref 61)]) (st' := [.ref 61]) (n' := 94) (M' := (I, J, xrf)) (fun f => rfl) ?_
  obtain ⟨o, ho, h⟩ := Option.bind_eq_some_iff.mp h
  refine Rn.call (d1 := d + 4) (j1 := 273) (ls1 := [some (.ref 61), none]) (rest := []) (fun f => rfl) ?_
  refine p_X12_asTheyAre (d := d + 2) I J (t := o) ho ?_
  exact p_X12_cost_1 o.2.1 o.2.2 h hC
theorem p_X12_cost {L : Nat} {xs : Nat → Int32} {d : Nat} {Q : xO → Prop} (I : xI) (J : xJ) {t : Int32 × xI × xJ} (h : f_X12_cost I J = some t) (hC : Q ((some (.int t.1)), 94, (t.2.1, t.2.2, xrf))) : Rn L xs (d + 5) 279 0 [some (.ref 61)] [] 94 (I, J, xrf) Q := p_X12_cost_0 I J h hC
/-! X12_isBit -/
def c_X12_isBit (Q : xO → Prop) (t : Int32 × xI × xJ) : Prop := Q ((some (.int t.1)), 94, (t.2.1, t.2.2, xrf))
def f_X12_isBit_2 (x1 : Int32) (s0 : Int32) (I : xI) (J : xJ) : Option (Int32 × xI × xJ) := if s0 = 0 ∨ s0 = 1 then some (s0, I, J) else none
def f_X12_isBit_1 (x1 : Int32) (s0 : Int32) (s1 : Int32) (s2 : Int32) (I : xI) (J : xJ) : Option (Int32 × xI × xJ) := (f_X12_in s0 s1 ((s2 - 1)) I J).bind fun o => f_X12_isBit_2 x1 o.1 o.2.1 o.2.2
def f_X12_isBit_0 (x1 : Int32) (I : xI) (J : xJ) : Option (Int32 × xI × xJ) := (f_X12_bits I J).bind fun o => f_X12_isBit_1 x1 x1 0 o.1 o.2.1 o.2.2
def f_X12_isBit (x1 : Int32) (I : xI) (J : xJ) : Option (Int32 × xI × xJ) := f_X12_isBit_0 x1 I J
theorem p_X12_isBit_2 {L : Nat} {xs : Nat → Int32} {d : Nat} {Q : xO → Prop} (x1 : Int32) (s0 : Int32) (I : xI) (J : xJ) {t : Int32 × xI × xJ} (h : f_X12_isBit_2 x1 s0 I J = some t) (hC : (c_X12_isBit Q) t) : Rn L xs (d + 2) 287 11 [some (.ref 61), some (.int x1)] [.int s0] 94 (I, J, xrf) Q := by
  unfold f_X12_isBit_2 at h
  obtain ⟨hc, h⟩ := xifT h
  cases h
  exact Rn.retT 1 (c := s0 = 0 ∨ s0 = 1) (o := ((some (.int s0)), 94, (I, J, xrf))) (fun f => rfl) hc hC
theorem p_X12_isBit_1 {L : Nat} {xs : Nat → Int32} {d : Nat} {Q : xO → Prop} (x1 : Int32) (s0 : Int32) (s1 : Int32) (s2 : Int32) (I : xI) (J : xJ) {t : Int32 × xI × xJ} (h : f_X12_isBit_1 x1 s0 s1 s2 I J = some t) (hC : (c_X12_isBit Q) t) : Rn L xs (d + 2) 287 6 [some (.ref 61), some (.int x1)] [.int s2, .int s1, .int s0] 94 (I, J, xrf) Q := by
  unfold f_X12_isBit_1 at h
  refine Rn.go 2 (j' := 287) (pc' := 8) (ls' := [some (.ref 61), some (.int x1)]) (st' := [.int ((s2 - 1)), .int s1, .int s0]) (n' := 94) (M' := (I, J, xrf)) (fun f => rfl) ?_
  obtain ⟨o, ho, h⟩ := Option.bind_eq_some_iff.mp h
  refine Rn.call (d1 := d + 1) (j1 := 206) (ls1 := [some (.int s0), some (.int s1), some (.int ((s2 - 1)))]) (rest := []) (fun f => rfl) ?_
  refine p_X12_in (d := d + 0) s0 s1 ((s2 - 1)) I J (t := o) ho ?_
  exact p_X12_isBit_2 x1 o.1 o.2.1 o.2.2 h hC
theorem p_X12_isBit_0 {L : Nat} {xs : Nat → Int32} {d : Nat} {Q : xO → Prop} (x1 : Int32) (I : xI) (J : xJ) {t : Int32 × xI × xJ} (h : f_X12_isBit_0 x1 I J = some t) (hC : (c_X12_isBit Q) t) : Rn L xs (d + 2) 287 0 [some (.ref 61), some (.int x1)] [] 94 (I, J, xrf) Q := by
  unfold f_X12_isBit_0 at h
  refine Rn.go 3 (j' := 287) (pc' := 3) (ls' := [some (.ref 61), some (.int x1)]) (st' := [.ref 61, .int 0, .int x1]) (n' := 94) (M' := (I, J, xrf)) (fun f => rfl) ?_
  obtain ⟨o, ho, h⟩ := Option.bind_eq_some_iff.mp h
  refine Rn.call (d1 := d + 1) (j1 := 272) (ls1 := [some (.ref 61)]) (rest := [.int 0, .int x1]) (fun f => rfl) ?_
  refine p_X12_bits (d := d + 0) I J (t := o) ho ?_
  exact p_X12_isBit_1 x1 x1 0 o.1 o.2.1 o.2.2 h hC
theorem p_X12_isBit {L : Nat} {xs : Nat → Int32} {d : Nat} {Q : xO → Prop} (x1 : Int32) (I : xI) (J : xJ) {t : Int32 × xI × xJ} (h : f_X12_isBit x1 I J = some t) (hC : Q ((some (.int t.1)), 94, (t.2.1, t.2.2, xrf))) : Rn L xs (d + 2) 287 0 [some (.ref 61), some (.int x1)] [] 94 (I, J, xrf) Q := p_X12_isBit_0 x1 I J h hC
/-! X12_isProper -/
def c_X12_isProper (Q : xO → Prop) (t : Int32 × xI × xJ) : Prop := Q ((some (.int t.1)), 94, (t.2.1, t.2.2, xrf))
def c_X12_isProper_1 (L : Nat) (xs : Nat → Int32) (d : Nat) (Q : xO → Prop) (t : (Int32 × (Option Value) × xI × xJ) ⊕ (Int32 × xI × xJ)) : Prop := match t with
  | .inl s => Rn L xs (d + 2) 274 2 [some (.ref 61), some (.int s.1), s.2.1] [] 94 (s.2.2.1, s.2.2.2, xrf) Q
  | .inr t => (c_X12_isProper Q) t
def c_X12_isProper_7 (L : Nat) (xs : Nat → Int32) (d : Nat) (Q : xO → Prop) (t : (Int32 × Int32 × xI × xJ) ⊕ ((Int32 × (Option Value) × xI × xJ) ⊕ (Int32 × xI × xJ))) : Prop := match t with
  | .inl s => Rn L xs (d + 2) 274 28 [some (.ref 61), some (.int s.1), some (.int s.2.1)] [] 94 (s.2.2.1, s.2.2.2, xrf) Q
  | .inr t => (c_X12_isProper_1 L xs d Q) t
def f_X12_isProper_14 (x1 : Int32) (z2 : Option Value) (I : xI) (J : xJ) : Option (Int32 × xI × xJ) := some (1, I, J)
def f_X12_isProper_13 (x1 : Int32) (x2 : Int32) (I : xI) (J : xJ) : Option ((Int32 × (Option Value) × xI × xJ) ⊕ (Int32 × xI × xJ)) := some (.inl (((x1 + 1)), (some (.int x2)), I, J))
def f_X12_isProper_12 (x1 : Int32) (x2 : Int32) (I : xI) (J : xJ) : Option ((Int32 × Int32 × xI × xJ) ⊕ ((Int32 × (Option Value) × xI × xJ) ⊕ (Int32 × xI × xJ))) := some (.inl (x1, ((x2 + 1)), I, J))
def f_X12_isProper_11 (x1 : Int32) (x2 : Int32) (I : xI) (J : xJ) : Option (Int32 × xI × xJ) := some (0, I, J)
def f_X12_isProper_10 (x1 : Int32) (x2 : Int32) (s0 : Int32) (s1 : Int32) (I : xI) (J : xJ) : Option ((Int32 × Int32 × xI × xJ) ⊕ ((Int32 × (Option Value) × xI × xJ) ⊕ (Int32 × xI × xJ))) := if s0 = s1 then (((f_X12_isProper_11 x1 x2 I J)).map .inr).map .inr else f_X12_isProper_12 x1 x2 I J
def f_X12_isProper_9 (x1 : Int32) (x2 : Int32) (s0 : Int32) (I : xI) (J : xJ) : Option ((Int32 × Int32 × xI × xJ) ⊕ ((Int32 × (Option Value) × xI × xJ) ⊕ (Int32 × xI × xJ))) := (f_X12_codeOf x2 I J).bind fun o => f_X12_isProper_10 x1 x2 s0 o.1 o.2.1 o.2.2
def f_X12_isProper_8 (x1 : Int32) (x2 : Int32) (I : xI) (J : xJ) : Option ((Int32 × Int32 × xI × xJ) ⊕ ((Int32 × (Option Value) × xI × xJ) ⊕ (Int32 × xI × xJ))) := (f_X12_codeOf x1 I J).bind fun o => f_X12_isProper_9 x1 x2 o.1 o.2.1 o.2.2
def b_X12_isProper_7 (x1 : Int32) (x2 : Int32) (I : xI) (J : xJ) : Option ((Int32 × Int32 × xI × xJ) ⊕ ((Int32 × (Option Value) × xI × xJ) ⊕ (Int32 × xI × xJ))) := if x1 ≤ x2 then ((f_X12_isProper_13 x1 x2 I J)).map .inr else f_X12_isProper_8 x1 x2 I J
def f_X12_isProper_7 (x1 : Int32) (x2 : Int32) (I : xI) (J : xJ) : Option ((Int32 × (Option Value) × xI × xJ) ⊕ (Int32 × xI × xJ)) := xloop (fun s : Int32 × Int32 × xI × xJ => b_X12_isProper_7 s.1 s.2.1 s.2.2.1 s.2.2.2) 5000 (x1, x2, I, J)
def f_X12_isProper_6 (x1 : Int32) (z2 : Option Value) (I : xI) (J : xJ) : Option ((Int32 × (Option Value) × xI × xJ) ⊕ (Int32 × xI × xJ)) := f_X12_isProper_7 x1 0 I J
def f_X12_isProper_5 (x1 : Int32) (z2 : Option Value) (I : xI) (J : xJ) : Option (Int32 × xI × xJ) := some (0, I, J)
def f_X12_isProper_4 (x1 : Int32) (z2 : Option Value) (s0 : Int32) (s1 : Int32) (s2 : Int32) (I : xI) (J : xJ) : Option ((Int32 × (Option Value) × xI × xJ) ⊕ (Int32 × xI × xJ)) := if s0 < (s1 <<< (s2 &&& 31)) then f_X12_isProper_6 x1 z2 I J else ((f_X12_isProper_5 x1 z2 I J)).map .inr
def f_X12_isProper_3 (x1 : Int32) (z2 : Option Value) (s0 : Int32) (I : xI) (J : xJ) : Option ((Int32 × (Option Value) × xI × xJ) ⊕ (Int32 × xI × xJ)) := (f_X12_bits I J).bind fun o => f_X12_isProper_4 x1 z2 s0 1 o.1 o.2.1 o.2.2
def f_X12_isProper_2 (x1 : Int32) (z2 : Option Value) (I : xI) (J : xJ) : Option ((Int32 × (Option Value) × xI × xJ) ⊕ (Int32 × xI × xJ)) := (f_X12_codeOf x1 I J).bind fun o => f_X12_isProper_3 x1 z2 o.1 o.2.1 o.2.2
def b_X12_isProper_1 (x1 : Int32) (z2 : Option Value) (I : xI) (J : xJ) : Option ((Int32 × (Option Value) × xI × xJ) ⊕ (Int32 × xI × xJ)) := if (I 61 17) ≤ x1 then ((f_X12_isProper_14 x1 z2 I J)).map .inr else f_X12_isProper_2 x1 z2 I J
def f_X12_isProper_1 (x1 : Int32) (z2 : Option Value) (I : xI) (J : xJ) : Option (Int32 × xI × xJ) := xloop (fun s : Int32 × (Option Value) × xI × xJ => b_X12_isProper_1 s.1 s.2.1 s.2.2.1 s.2.2.2) 5000 (x1, z2, I, J)
def f_X12_isProper_0 (I : xI) (J : xJ) : Option (Int32 × xI × xJ) := f_X12_isProper_1 0 none I J
def f_X12_isProper (I : xI) (J : xJ) : Option (Int32 × xI × xJ) := f_X12_isProper_0 I J
theorem p_X12_isProper_14 {L : Nat} {xs : Nat → Int32} {d : Nat} {Q : xO → Prop} (x1 : Int32) (z2 : Option Value) (I : xI) (J : xJ) {t : Int32 × xI × xJ} (h : f_X12_isProper_14 x1 z2 I J = some t) (hC : (c_X12_isProper Q) t) : Rn L xs (d + 2) 274 60 [some (.ref 61), some (.int x1), z2] [] 94 (I, J, xrf) Q := by
  unfold f_X12_isProper_14 at h
  cases h
  exact Rn.ret 2 (o := ((some (.int 1)), 94, (I, J, xrf))) (fun f => rfl) hC
theorem p_X12_isProper_13 {L : Nat} {xs : Nat → Int32} {d : Nat} {Q : xO → Prop} (x1 : Int32) (x2 : Int32) (I : xI) (J : xJ) {t : (Int32 × (Option Value) × xI × xJ) ⊕ (Int32 × xI × xJ)} (h : f_X12_isProper_13 x1 x2 I J = some t) (hC : (c_X12_isProper_1 L xs d Q) t) : Rn L xs (d + 2) 274 54 [some (.ref 61), some (.int x1), some (.int x2)] [] 94 (I, J, xrf) Q := by
  unfold f_X12_isProper_13 at h
  refine Rn.go 2 (j' := 274) (pc' := 2) (ls' := [some (.ref 61), some (.int ((x1 + 1))), some (.int x2)]) (st' := []) (n' := 94) (M' := (I, J, xrf)) (fun f => rfl) ?_
  cases h; exact hC
theorem p_X12_isProper_12 {L : Nat} {xs : Nat → Int32} {d : Nat} {Q : xO → Prop} (x1 : Int32) (x2 : Int32) (I : xI) (J : xJ) {t : (Int32 × Int32 × xI × xJ) ⊕ ((Int32 × (Option Value) × xI × xJ) ⊕ (Int32 × xI × xJ))} (h : f_X12_isProper_12 x1 x2 I J = some t) (hC : (c_X12_isProper_7 L xs d Q) t) : Rn L xs (d + 2) 274 48 [some (.ref 61), some (.int x1), some (.int x2)] [] 94 (I, J, xrf) Q := by
  unfold f_X12_isProper_12 at h
  refine Rn.go 2 (j' := 274) (pc' := 28) (ls' := [some (.ref 61), some (.int x1), some (.int ((x2 + 1)))]) (st' := []) (n' := 94) (M' := (I, J, xrf)) (fun f => rfl) ?_
  cases h; exact hC
theorem p_X12_isProper_11 {L : Nat} {xs : Nat → Int32} {d : Nat} {Q : xO → Prop} (x1 : Int32) (x2 : Int32) (I : xI) (J : xJ) {t : Int32 × xI × xJ} (h : f_X12_isProper_11 x1 x2 I J = some t) (hC : (c_X12_isProper Q) t) : Rn L xs (d + 2) 274 46 [some (.ref 61), some (.int x1), some (.int x2)] [] 94 (I, J, xrf) Q := by
  unfold f_X12_isProper_11 at h
  cases h
  exact Rn.ret 2 (o := ((some (.int 0)), 94, (I, J, xrf))) (fun f => rfl) hC
theorem p_X12_isProper_10 {L : Nat} {xs : Nat → Int32} {d : Nat} {Q : xO → Prop} (x1 : Int32) (x2 : Int32) (s0 : Int32) (s1 : Int32) (I : xI) (J : xJ) {t : (Int32 × Int32 × xI × xJ) ⊕ ((Int32 × (Option Value) × xI × xJ) ⊕ (Int32 × xI × xJ))} (h : f_X12_isProper_10 x1 x2 s0 s1 I J = some t) (hC : (c_X12_isProper_7 L xs d Q) t) : Rn L xs (d + 2) 274 43 [some (.ref 61), some (.int x1), some (.int x2)] [.int s1, .int s0] 94 (I, J, xrf) Q := by
  unfold f_X12_isProper_10 at h
  refine Rn.fi 1 (c := s0 = s1) (p1 := 46) (l1 := [some (.ref 61), some (.int x1), some (.int x2)]) (s1 := []) (n1 := 94) (M1 := (I, J, xrf)) (p2 := 48) (l2 := [some (.ref 61), some (.int x1), some (.int x2)]) (s2 := []) (n2 := 94) (M2 := (I, J, xrf)) (fun f => rfl) (fun hc => ?_) (fun hc => ?_)
  · rw [if_pos hc] at h
    obtain ⟨t0, h0, rfl⟩ := Option.map_eq_some_iff.mp h
    obtain ⟨t1, h1, rfl⟩ := Option.map_eq_some_iff.mp h0
    exact p_X12_isProper_11 x1 x2 I J h1 hC
  · rw [if_neg hc] at h
    exact p_X12_isProper_12 x1 x2 I J h hC
theorem p_X12_isProper_9 {L : Nat} {xs : Nat → Int32} {d : Nat} {Q : xO → Prop} (x1 : Int32) (x2 : Int32) (s0 : Int32) (I : xI) (J : xJ) {t : (Int32 × Int32 × xI × xJ) ⊕ ((Int32 × (Option Value) × xI × xJ) ⊕ (Int32 × xI × xJ))} (h : f_X12_isProper_9 x1 x2 s0 I J = some t) (hC : (c_X12_isProper_7 L xs d Q) t) : Rn L xs (d + 2) 274 38 [some (.ref 61), some (.int x1), some (.int x2)] [.int s0] 94 (I, J, xrf) Q := by
  unfold f_X12_isProper_9 at h
  refine Rn.go 2 (j' := 274) (pc' := 40) (ls' := [some (.ref 61), some (.int x1), some (.int x2)]) (st' := [.int x2, .ref 61, .int s0]) (n' := 94) (M' := (I, J, xrf)) (fun f => rfl) ?_
  obtain ⟨o, ho, h⟩ := Option.bind_eq_some_iff.mp h
  refine Rn.call (d1 := d + 1) (j1 := 212) (ls1 := [some (.ref 61), some (.int x2)]) (rest := [.int s0]) (fun f => rfl) ?_
  refine p_X12_codeOf (d := d + 0) x2 I J (t := o) ho ?_
  exact p_X12_isProper_10 x1 x2 s0 o.1 o.2.1 o.2.2 h hC
theorem p_X12_isProper_8 {L : Nat} {xs : Nat → Int32} {d : Nat} {Q : xO → Prop} (x1 : Int32) (x2 : Int32) (I : xI) (J : xJ) {t : (Int32 × Int32 × xI × xJ) ⊕ ((Int32 × (Option Value) × xI × xJ) ⊕ (Int32 × xI × xJ))} (h : f_X12_isProper_8 x1 x2 I J = some t) (hC : (c_X12_isProper_7 L xs d Q) t) : Rn L xs (d + 2) 274 33 [some (.ref 61), some (.int x1), some (.int x2)] [] 94 (I, J, xrf) Q := by
  unfold f_X12_isProper_8 at h
  refine Rn.go 2 (j' := 274) (pc' := 35) (ls' := [some (.ref 61), some (.int x1), some (.int x2)]) (st' := [.int x1, .ref 61]) (n' := 94) (M' := (I, J, xrf)) (fun f => rfl) ?_
  obtain ⟨o, ho, h⟩ := Option.bind_eq_some_iff.mp h
  refine Rn.call (d1 := d + 1) (j1 := 212) (ls1 := [some (.ref 61), some (.int x1)]) (rest := []) (fun f => rfl) ?_
  refine p_X12_codeOf (d := d + 0) x1 I J (t := o) ho ?_
  exact p_X12_isProper_9 x1 x2 o.1 o.2.1 o.2.2 h hC
theorem q_X12_isProper_7 {L : Nat} {xs : Nat → Int32} {d : Nat} {Q : xO → Prop} (x1 : Int32) (x2 : Int32) (I : xI) (J : xJ) {t : (Int32 × Int32 × xI × xJ) ⊕ ((Int32 × (Option Value) × xI × xJ) ⊕ (Int32 × xI × xJ))} (h : b_X12_isProper_7 x1 x2 I J = some t) (hC : (c_X12_isProper_7 L xs d Q) t) : Rn L xs (d + 2) 274 28 [some (.ref 61), some (.int x1), some (.int x2)] [] 94 (I, J, xrf) Q := by
  unfold b_X12_isProper_7 at h
  refine Rn.fi 3 (c := x1 ≤ x2) (p1 := 54) (l1 := [some (.ref 61), some (.int x1), some (.int x2)]) (s1 := []) (n1 := 94) (M1 := (I, J, xrf)) (p2 := 33) (l2 := [some (.ref 61), some (.int x1), some (.int x2)]) (s2 := []) (n2 := 94) (M2 := (I, J, xrf)) (fun f => rfl) (fun hc => ?_) (fun hc => ?_)
  · rw [if_pos hc] at h
    obtain ⟨t0, h0, rfl⟩ := Option.map_eq_some_iff.mp h
    exact p_X12_isProper_13 x1 x2 I J h0 hC
  · rw [if_neg hc] at h
    exact p_X12_isProper_8 x1 x2 I J h hC
theorem p_X12_isProper_7 {L : Nat} {xs : Nat → Int32} {d : Nat} {Q : xO → Prop} (x1 : Int32) (x2 : Int32) (I : xI) (J : xJ) {t : (Int32 × (Option Value) × xI × xJ) ⊕ (Int32 × xI × xJ)} (h : f_X12_isProper_7 x1 x2 I J = some t) (hC : (c_X12_isProper_1 L xs d Q) t) : Rn L xs (d + 2) 274 28 [some (.ref 61), some (.int x1), some (.int x2)] [] 94 (I, J, xrf) Q := by
  unfold f_X12_isProper_7 at h
  exact xloop_some (P := fun s : Int32 × Int32 × xI × xJ => Rn L xs (d + 2) 274 28 [some (.ref 61), some (.int s.1), some (.int s.2.1)] [] 94 (s.2.2.1, s.2.2.2, xrf) Q) t (fun s ⟨s', hb, hp⟩ => q_X12_isProper_7 s.1 s.2.1 s.2.2.1 s.2.2.2 hb hp) (fun s hb => q_X12_isProper_7 s.1 s.2.1 s.2.2.1 s.2.2.2 hb hC) _ _ h
theorem p_X12_isProper_6 {L : Nat} {xs : Nat → Int32} {d : Nat} {Q : xO → Prop} (x1 : Int32) (z2 : Option Value) (I : xI) (J : xJ) {t : (Int32 × (Option Value) × xI × xJ) ⊕ (Int32 × xI × xJ)} (h : f_X12_isProper_6 x1 z2 I J = some t) (hC : (c_X12_isProper_1 L xs d Q) t) : Rn L xs (d + 2) 274 26 [some (.ref 61), some (.int x1), z2] [] 94 (I, J, xrf) Q := by
  unfold f_X12_isProper_6 at h
  refine Rn.go 2 (j' := 274) (pc' := 28) (ls' := [some (.ref 61), some (.int x1), some (.int 0)]) (st' := []) (n' := 94) (M' := (I, J, xrf)) (fun f => rfl) ?_
  exact p_X12_isProper_7 x1 0 I J h hC
theorem p_X12_isProper_5 {L : Nat} {xs : Nat → Int32} {d : Nat} {Q : xO → Prop} (x1 : Int32) (z2 : Option Value) (I : xI) (J : xJ) {t : Int32 × xI × xJ} (h : f_X12_isProper_5 x1 z2 I J = some t) (hC : (c_X12_isProper Q) t) : Rn L xs (d + 2) 274 24 [some (.ref 61), some (.int x1), z2] [] 94 (I, J, xrf) Q := by
  unfold f_X12_isProper_5 at h
  cases h
  exact Rn.ret 2 (o := ((some (.int 0)), 94, (I, J, xrf))) (fun f => rfl) hC
theorem p_X12_isProper_4 {L : Nat} {xs : Nat → Int32} {d : Nat} {Q : xO → Prop} (x1 : Int32) (z2 : Option Value) (s0 : Int32) (s1 : Int32) (s2 : Int32) (I : xI) (J : xJ) {t : (Int32 × (Option Value) × xI × xJ) ⊕ (Int32 × xI × xJ)} (h : f_X12_isProper_4 x1 z2 s0 s1 s2 I J = some t) (hC : (c_X12_isProper_1 L xs d Q) t) : Rn L xs (d + 2) 274 20 [some (.ref 61), some (.int x1), z2] [.int s2, .int s1, .int s0] 94 (I, J, xrf) Q := by
  unfold f_X12_isProper_4 at h
  refine Rn.fi 2 (c := s0 < (s1 <<< (s2 &&& 31))) (p1 := 26) (l1 := [some (.ref 61), some (.int x1), z2]) (s1 := []) (n1 := 94) (M1 := (I, J, xrf)) (p2 := 24) (l2 := [some (.ref 61), some (.int x1), z2]) (s2 := []) (n2 := 94) (M2 := (I, J, xrf)) (fun f => rfl) (fun hc => ?_) (fun hc => ?_)
  · rw [if_pos hc] at h
    exact p_X12_isProper_6 x1 z2 I J h hC
  · rw [if_neg hc] at h
    obtain ⟨t0, h0, rfl⟩ := Option.map_eq_some_iff.mp h
    exact p_X12_isProper_5 x1 z2 I J h0 hC
theorem p_X12_isProper_3 {L : Nat} {xs : Nat → Int32} {d : Nat} {Q : xO → Prop} (x1 : Int32) (z2 : Option Value) (s0 : Int32) (I : xI) (J : xJ) {t : (Int32 × (Option Value) × xI × xJ) ⊕ (Int32 × xI × xJ)} (h : f_X12_isProper_3 x1 z2 s0 I J = some t) (hC : (c_X12_isProper_1 L xs d Q) t) : Rn L xs (d + 2) 274 15 [some (.ref 61), some (.int x1), z2] [.int s0] 94 (I, J, xrf) Q := by
  unfold f_X12_isProper_3 at h
  refine Rn.go 2 (j' := 274) (pc' := 17) (ls' := [some (.ref 61), some (.int x1), z2]) (st' := [.ref 61, .int 1, .int s0]) (n' := 94) (M' := (I, J, xrf)) (fun f => rfl) ?_
  obtain ⟨o, ho, h⟩ := Option.bind_eq_some_iff.mp h
  refine Rn.call (d1 := d + 1) (j1 := 272) (ls1 := [some (.ref 61)]) (rest := [.int 1, .int s0]) (fun f => rfl) ?_
  refine p_X12_bits (d := d + 0) I J (t := o) ho ?_
  exact p_X12_isProper_4 x1 z2 s0 1 o.1 o.2.1 o.2.2 h hC
theorem p_X12_isProper_2 {L : Nat} {xs : Nat → Int32} {d : Nat} {Q : xO → Prop} (x1 : Int32) (z2 : Option Value) (I : xI) (J : xJ) {t : (Int32 × (Option Value) × xI × xJ) ⊕ (Int32 × xI × xJ)} (h : f_X12_isProper_2 x1 z2 I J = some t) (hC : (c_X12_isProper_1 L xs d Q) t) : Rn L xs (d + 2) 274 10 [some (.ref 61), some (.int x1), z2] [] 94 (I, J, xrf) Q := by
  unfold f_X12_isProper_2 at h
  refine Rn.go 2 (j' := 274) (pc' := 12) (ls' := [some (.ref 61), some (.int x1), z2]) (st' := [.int x1, .ref 61]) (n' := 94) (M' := (I, J, xrf)) (fun f => rfl) ?_
  obtain ⟨o, ho, h⟩ := Option.bind_eq_some_iff.mp h
  refine Rn.call (d1 := d + 1) (j1 := 212) (ls1 := [some (.ref 61), some (.int x1)]) (rest := []) (fun f => rfl) ?_
  refine p_X12_codeOf (d := d + 0) x1 I J (t := o) ho ?_
  exact p_X12_isProper_3 x1 z2 o.1 o.2.1 o.2.2 h hC
theorem q_X12_isProper_1 {L : Nat} {xs : Nat → Int32} {d : Nat} {Q : xO → Prop} (x1 : Int32) (z2 : Option Value) (I : xI) (J : xJ) {t : (Int32 × (Option Value) × xI × xJ) ⊕ (Int32 × xI × xJ)} (h : b_X12_isProper_1 x1 z2 I J = some t) (hC : (c_X12_isProper_1 L xs d Q) t) : Rn L xs (d + 2) 274 2 [some (.ref 61), some (.int x1), z2] [] 94 (I, J, xrf) Q := by
  unfold b_X12_isProper_1 at h
  refine Rn.fi 4 (c := (I 61 17) ≤ x1) (p1 := 60) (l1 := [some (.ref 61), some (.int x1), z2]) (s1 := []) (n1 := 94) (M1 := (I, J, xrf)) (p2 := 10) (l2 := [some (.ref 61), some (.int x1), z2]) (s2 := []) (n2 := 94) (M2 := (I, J, xrf)) (fun f => rfl) (fun hc => ?_) (fun hc => ?_)
  · rw [if_pos hc] at h
    obtain ⟨t0, h0, rfl⟩ := Option.map_eq_some_iff.mp h
    exact p_X12_isProper_14 x1 z2 I J h0 hC
  · rw [if_neg hc] at h
    exact p_X12_isProper_2 x1 z2 I J h hC
theorem p_X12_isProper_1 {L : Nat} {xs : Nat → Int32} {d : Nat} {Q : xO → Prop} (x1 : Int32) (z2 : Option Value) (I : xI) (J : xJ) {t : Int32 × xI × xJ} (h : f_X12_isProper_1 x1 z2 I J = some t) (hC : (c_X12_isProper Q) t) : Rn L xs (d + 2) 274 2 [some (.ref 61), some (.int x1), z2] [] 94 (I, J, xrf) Q := by
  unfold f_X12_isProper_1 at h
  exact xloop_some (P := fun s : Int32 × (Option Value) × xI × xJ => Rn L xs (d + 2) 274 2 [some (.ref 61), some (.int s.1), s.2.1] [] 94 (s.2.2.1, s.2.2.2, xrf) Q) t (fun s ⟨s', hb, hp⟩ => q_X12_isProper_1 s.1 s.2.1 s.2.2.1 s.2.2.2 hb hp) (fun s hb => q_X12_isProper_1 s.1 s.2.1 s.2.2.1 s.2.2.2 hb hC) _ _ h
theorem p_X12_isProper_0 {L : Nat} {xs : Nat → Int32} {d : Nat} {Q : xO → Prop} (I : xI) (J : xJ) {t : Int32 × xI × xJ} (h : f_X12_isProper_0 I J = some t) (hC : (c_X12_isProper Q) t) : Rn L xs (d + 2) 274 0 [some (.ref 61), none, none] [] 94 (I, J, xrf) Q := by
  unfold f_X12_isProper_0 at h
  refine Rn.go 2 (j' := 274) (pc' := 2) (ls' := [some (.ref 61), some (.int 0), none]) (st' := []) (n' := 94) (M' := (I, J, xrf)) (fun f => rfl) ?_
  exact p_X12_isProper_1 0 none I J h hC
theorem p_X12_isProper {L : Nat} {xs : Nat → Int32} {d : Nat} {Q : xO → Prop} (I : xI) (J : xJ) {t : Int32 × xI × xJ} (h : f_X12_isProper I J = some t) (hC : Q ((some (.int t.1)), 94, (t.2.1, t.2.2, xrf))) : Rn L xs (d + 2) 274 0 [some (.ref 61), none, none] [] 94 (I, J, xrf) Q := p_X12_isProper_0 I J h hC
/-! X12_laysCodes -/
def c_X12_laysCodes (Q : xO → Prop) (t : Unit × xI × xJ) : Prop := Q (none, 94, (t.2.1, t.2.2, xrf))
def c_X12_laysCodes_1 (L : Nat) (xs : Nat → Int32) (d : Nat) (Q : xO → Prop) (t : (Int32 × Int32 × Int32 × xI × xJ) ⊕ (Unit × xI × xJ)) : Prop := match t with
  | .inl s => Rn L xs (d + 2) 282 12 [some (.ref 61), some (.int s.1), some (.int s.2.1), some (.int s.2.2.1)] [] 94 (s.2.2.2.1, s.2.2.2.2, xrf) Q
  | .inr t => (c_X12_laysCodes Q) t
def f_X12_laysCodes_11 (x1 : Int32) (x2 : Int32) (x3 : Int32) (I : xI) (J : xJ) : Option (Unit × xI × xJ) := some ((), I, J)
def f_X12_laysCodes_10 (x1 : Int32) (x2 : Int32) (x3 : Int32) (I : xI) (J : xJ) : Option ((Int32 × Int32 × Int32 × xI × xJ) ⊕ (Unit × xI × xJ)) := some (.inl (x1, x2, ((x3 + 1)), I, J))
def f_X12_laysCodes_9 (x1 : Int32) (x2 : Int32) (x3 : Int32) (I : xI) (J : xJ) : Option ((Int32 × Int32 × Int32 × xI × xJ) ⊕ (Unit × xI × xJ)) := if x3 < 0 ∨ 6 ≤ x3.toNatClampNeg then none else f_X12_laysCodes_10 x1 x2 x3 ((xup I 61 49 (((I 61 49) ||| (1 <<< ((I 86 x3.toNatClampNeg) &&& 31)))))) J
def f_X12_laysCodes_8 (x1 : Int32) (x2 : Int32) (x3 : Int32) (I : xI) (J : xJ) : Option ((Int32 × Int32 × Int32 × xI × xJ) ⊕ (Unit × xI × xJ)) := if x3 < 0 ∨ 6 ≤ x3.toNatClampNeg then none else f_X12_laysCodes_10 x1 x2 x3 ((xup I 61 48 (((I 61 48) ||| (1 <<< ((I 86 x3.toNatClampNeg) &&& 31)))))) J
def f_X12_laysCodes_7 (x1 : Int32) (x2 : Int32) (x3 : Int32) (s0 : Int32) (I : xI) (J : xJ) : Option ((Int32 × Int32 × Int32 × xI × xJ) ⊕ (Unit × xI × xJ)) := if s0 = 0 then f_X12_laysCodes_9 x1 x2 x3 I J else f_X12_laysCodes_8 x1 x2 x3 I J
def f_X12_laysCodes_6 (x1 : Int32) (x2 : Int32) (x3 : Int32) (s1 : Int32) (I : xI) (J : xJ) : Option ((Int32 × Int32 × Int32 × xI × xJ) ⊕ (Unit × xI × xJ)) := if s1 < 0 ∨ 6 ≤ s1.toNatClampNeg then none else (f_X12_has ((I 86 s1.toNatClampNeg)) x1 I J).bind fun o => f_X12_laysCodes_7 x1 x2 x3 o.1 o.2.1 o.2.2
def f_X12_laysCodes_5 (x1 : Int32) (x2 : Int32) (x3 : Int32) (I : xI) (J : xJ) : Option ((Int32 × Int32 × Int32 × xI × xJ) ⊕ (Unit × xI × xJ)) := (f_X12_to x3 x2 I J).bind fun o => f_X12_laysCodes_6 x1 x2 x3 o.1 o.2.1 o.2.2
def f_X12_laysCodes_4 (x1 : Int32) (x2 : Int32) (x3 : Int32) (I : xI) (J : xJ) : Option ((Int32 × Int32 × Int32 × xI × xJ) ⊕ (Unit × xI × xJ)) := f_X12_laysCodes_10 x1 x2 x3 I J
def f_X12_laysCodes_3 (x1 : Int32) (x2 : Int32) (x3 : Int32) (s0 : Int32) (I : xI) (J : xJ) : Option ((Int32 × Int32 × Int32 × xI × xJ) ⊕ (Unit × xI × xJ)) := if 0 ≤ s0 then f_X12_laysCodes_5 x1 x2 x3 I J else f_X12_laysCodes_4 x1 x2 x3 I J
def f_X12_laysCodes_2 (x1 : Int32) (x2 : Int32) (x3 : Int32) (I : xI) (J : xJ) : Option ((Int32 × Int32 × Int32 × xI × xJ) ⊕ (Unit × xI × xJ)) := (f_X12_to x3 x2 I J).bind fun o => f_X12_laysCodes_3 x1 x2 x3 o.1 o.2.1 o.2.2
def b_X12_laysCodes_1 (x1 : Int32) (x2 : Int32) (x3 : Int32) (I : xI) (J : xJ) : Option ((Int32 × Int32 × Int32 × xI × xJ) ⊕ (Unit × xI × xJ)) := if (I 61 17) ≤ x3 then ((f_X12_laysCodes_11 x1 x2 x3 I J)).map .inr else f_X12_laysCodes_2 x1 x2 x3 I J
def f_X12_laysCodes_1 (x1 : Int32) (x2 : Int32) (x3 : Int32) (I : xI) (J : xJ) : Option (Unit × xI × xJ) := xloop (fun s : Int32 × Int32 × Int32 × xI × xJ => b_X12_laysCodes_1 s.1 s.2.1 s.2.2.1 s.2.2.2.1 s.2.2.2.2) 5000 (x1, x2, x3, I, J)
def f_X12_laysCodes_0 (x1 : Int32) (x2 : Int32) (I : xI) (J : xJ) : Option (Unit × xI × xJ) := f_X12_laysCodes_1 x1 x2 0 ((xup ((xup I 61 48 0)) 61 49 0)) J
def f_X12_laysCodes (x1 : Int32) (x2 : Int32) (I : xI) (J : xJ) : Option (Unit × xI × xJ) := f_X12_laysCodes_0 x1 x2 I J
theorem p_X12_laysCodes_11 {L : Nat} {xs : Nat → Int32} {d : Nat} {Q : xO → Prop} (x1 : Int32) (x2 : Int32) (x3 : Int32) (I : xI) (J : xJ) {t : Unit × xI × xJ} (h : f_X12_laysCodes_11 x1 x2 x3 I J = some t) (hC : (c_X12_laysCodes Q) t) : Rn L xs (d + 2) 282 93 [some (.ref 61), some (.int x1), some (.int x2), some (.int x3)] [] 94 (I, J, xrf) Q := by
  unfold f_X12_laysCodes_11 at h
  cases h
  exact Rn.ret 1 (o := (none, 94, (I, J, xrf))) (fun f => rfl) hC
theorem p_X12_laysCodes_10 {L : Nat} {xs : Nat → Int32} {d : Nat} {Q : xO → Prop} (x1 : Int32) (x2 : Int32) (x3 : Int32) (I : xI) (J : xJ) {t : (Int32 × Int32 × Int32 × xI × xJ) ⊕ (Unit × xI × xJ)} (h : f_X12_laysCodes_10 x1 x2 x3 I J = some t) (hC : (c_X12_laysCodes_1 L xs d Q) t) : Rn L xs (d + 2) 282 87 [some (.ref 61), some (.int x1), some (.int x2), some (.int x3)] [] 94 (I, J, xrf) Q := by
  unfold f_X12_laysCodes_10 at h
  refine Rn.go 2 (j' := 282) (pc' := 12) (ls' := [some (.ref 61), some (.int x1), some (.int x2), some (.int ((x3 + 1)))]) (st' := []) (n' := 94) (M' := (I, J, xrf)) (fun f => rfl) ?_
  cases h; exact hC
theorem p_X12_laysCodes_9 {L : Nat} {xs : Nat → Int32} {d : Nat} {Q : xO → Prop} (x1 : Int32) (x2 : Int32) (x3 : Int32) (I : xI) (J : xJ) {t : (Int32 × Int32 × Int32 × xI × xJ) ⊕ (Unit × xI × xJ)} (h : f_X12_laysCodes_9 x1 x2 x3 I J = some t) (hC : (c_X12_laysCodes_1 L xs d Q) t) : Rn L xs (d + 2) 282 70 [some (.ref 61), some (.int x1), some (.int x2), some (.int x3)] [] 94 (I, J, xrf) Q := by
  unfold f_X12_laysCodes_9 at h
  obtain ⟨hc, h⟩ := xif h
  refine Rn.ok 8 (c := x3 < 0 ∨ 6 ≤ x3.toNatClampNeg) (p1 := 82) (l1 := [some (.ref 61), some (.int x1), some (.int x2), some (.int x3)]) (s1 := [.int ((I 86 x3.toNatClampNeg)), .int 1, .int ((I 61 49)), .ref 61]) (n1 := 94) (M1 := (I, J, xrf)) (fun f => rfl) hc ?_
  refine Rn.go 3 (j' := 282) (pc' := 87) (ls' := [some (.ref 61), some (.int x1), some (.int x2), some (.int x3)]) (st' := []) (n' := 94) (M' := ((xup I 61 49 (((I 61 49) ||| (1 <<< ((I 86 x3.toNatClampNeg) &&& 31))))), J, xrf)) (fun f => rfl) ?_
  exact p_X12_laysCodes_10 x1 x2 x3 ((xup I 61 49 (((I 61 49) ||| (1 <<< ((I 86 x3.toNatClampNeg) &&& 31)))))) J h hC
theorem p_X12_laysCodes_8 {L : Nat} {xs : Nat → Int32} {d : Nat} {Q : xO → Prop} (x1 : Int32) (x2 : Int32) (x3 : Int32) (I : xI) (J : xJ) {t : (Int32 × Int32 × Int32 × xI × xJ) ⊕ (Unit × xI × xJ)} (h : f_X12_laysCodes_8 x1 x2 x3 I J = some t) (hC : (c_X12_laysCodes_1 L xs d Q) t) : Rn L xs (d + 2) 282 50 [some (.ref 61), some (.int x1), some (.int x2), some (.int x3)] [] 94 (I, J, xrf) Q := by
  unfold f_X12_laysCodes_8 at h
  obtain ⟨hc, h⟩ := xif h
  refine Rn.ok 8 (c := x3 < 0 ∨ 6 ≤ x3.toNatClampNeg) (p1 := 62) (l1 := [some (.ref 61), some (.int x1), some (.int x2), some (.int x3)]) (s1 := [.int ((I 86 x3.toNatClampNeg)), .int 1, .int ((I 61 48)), .ref 61]) (n1 := 94) (M1 := (I, J, xrf)) (fun f => rfl) hc ?_
  refine Rn.go 4 (j' := 282) (pc' := 87) (ls' := [some (.ref 61), some (.int x1), some (.int x2), some (.int x3)]) (st' := []) (n' := 94) (M' := ((xup I 61 48 (((I 61 48) ||| (1 <<< ((I 86 x3.toNatClampNeg) &&& 31))))), J, xrf)) (fun f => rfl) ?_
  exact p_X12_laysCodes_10 x1 x2 x3 ((xup I 61 48 (((I 61 48) ||| (1 <<< ((I 86 x3.toNatClampNeg) &&& 31)))))) J h hC
theorem p_X12_laysCodes_7 {L : Nat} {xs : Nat → Int32} {d : Nat} {Q : xO → Prop} (x1 : Int32) (x2 : Int32) (x3 : Int32) (s0 : Int32) (I : xI) (J : xJ) {t : (Int32 × Int32 × Int32 × xI × xJ) ⊕ (Unit × xI × xJ)} (h : f_X12_laysCodes_7 x1 x2 x3 s0 I J = some t) (hC : (c_X12_laysCodes_1 L xs d Q) t) : Rn L xs (d + 2) 282 47 [some (.ref 61), some (.int x1), some (.int x2), some (.int x3)] [.int s0] 94 (I, J, xrf) Q := by
  unfold f_X12_laysCodes_7 at h
  refine Rn.fi 1 (c := s0 = 0) (p1 := 70) (l1 := [some (.ref 61), some (.int x1), some (.int x2), some (.int x3)]) (s1 := []) (n1 := 94) (M1 := (I, J, xrf)) (p2 := 50) (l2 := [some (.ref 61), some (.int x1), some (.int x2), some (.int x3)]) (s2 := []) (n2 := 94) (M2 := (I, J, xrf)) (fun f => rfl) (fun hc => ?_) (fun hc => ?_)
  · rw [if_pos hc] at h
    exact p_X12_laysCodes_9 x1 x2 x3 I J h hC
  · rw [if_neg hc] at h
    exact p_X12_laysCodes_8 x1 x2 x3 I J h hC
theorem p_X12_laysCodes_6 {L : Nat} {xs : Nat → Int32} {d : Nat} {Q : xO → Prop} (x1 : Int32) (x2 : Int32) (x3 : Int32) (s1 : Int32) (I : xI) (J : xJ) {t : (Int32 × Int32 × Int32 × xI × xJ) ⊕ (Unit × xI × xJ)} (h : f_X12_laysCodes_6 x1 x2 x3 s1 I J = some t) (hC : (c_X12_laysCodes_1 L xs d Q) t) : Rn L xs (d + 2) 282 42 [some (.ref 61), some (.int x1), some (.int x2), some (.int x3)] [.int s1, .ref 86] 94 (I, J, xrf) Q := by
  unfold f_X12_laysCodes_6 at h
  obtain ⟨hc, h⟩ := xif h
  refine Rn.ok 1 (c := s1 < 0 ∨ 6 ≤ s1.toNatClampNeg) (p1 := 43) (l1 := [some (.ref 61), some (.int x1), some (.int x2), some (.int x3)]) (s1 := [.int ((I 86 s1.toNatClampNeg))]) (n1 := 94) (M1 := (I, J, xrf)) (fun f => rfl) hc ?_
  refine Rn.go 1 (j' := 282) (pc' := 44) (ls' := [some (.ref 61), some (.int x1), some (.int x2), some (.int x3)]) (st' := [.int x1, .int ((I 86 s1.toNatClampNeg))]) (n' := 94) (M' := (I, J, xrf)) (fun f => rfl) ?_
  obtain ⟨o, ho, h⟩ := Option.bind_eq_some_iff.mp h
  refine Rn.call (d1 := d + 1) (j1 := 214) (ls1 := [some (.int ((I 86 s1.toNatClampNeg))), some (.int x1)]) (rest := []) (fun f => rfl) ?_
  refine p_X12_has (d := d + 0) ((I 86 s1.toNatClampNeg)) x1 I J (t := o) ho ?_
  exact p_X12_laysCodes_7 x1 x2 x3 o.1 o.2.1 o.2.2 h hC
theorem p_X12_laysCodes_5 {L : Nat} {xs : Nat → Int32} {d : Nat} {Q : xO → Prop} (x1 : Int32) (x2 : Int32) (x3 : Int32) (I : xI) (J : xJ) {t : (Int32 × Int32 × Int32 × xI × xJ) ⊕ (Unit × xI × xJ)} (h : f_X12_laysCodes_5 x1 x2 x3 I J = some t) (hC : (c_X12_laysCodes_1 L xs d Q) t) : Rn L xs (d + 2) 282 32 [some (.ref 61), some (.int x1), some (.int x2), some (.int x3)] [] 94 (I, J, xrf) Q := by
  unfold f_X12_laysCodes_5 at h
  refine Rn.go 5 (j' := 282) (pc' := 39) (ls' := [some (.ref 61), some (.int x1), some (.int x2), some (.int x3)]) (st' := [.int x2, .int x3, .ref 61, .ref 86]) (n' := 94) (M' := (I, J, xrf)) (fun f => rfl) ?_
  obtain ⟨o, ho, h⟩ := Option.bind_eq_some_iff.mp h
  refine Rn.call (d1 := d + 1) (j1 := 210) (ls1 := [some (.ref 61), some (.int x3), some (.int x2)]) (rest := [.ref 86]) (fun f => rfl) ?_
  refine p_X12_to (d := d + 0) x3 x2 I J (t := o) ho ?_
  exact p_X12_laysCodes_6 x1 x2 x3 o.1 o.2.1 o.2.2 h hC
theorem p_X12_laysCodes_4 {L : Nat} {xs : Nat → Int32} {d : Nat} {Q : xO → Prop} (x1 : Int32) (x2 : Int32) (x3 : Int32) (I : xI) (J : xJ) {t : (Int32 × Int32 × Int32 × xI × xJ) ⊕ (Unit × xI × xJ)} (h : f_X12_laysCodes_4 x1 x2 x3 I J = some t) (hC : (c_X12_laysCodes_1 L xs d Q) t) : Rn L xs (d + 2) 282 29 [some (.ref 61), some (.int x1), some (.int x2), some (.int x3)] [] 94 (I, J, xrf) Q := by
  unfold f_X12_laysCodes_4 at h
  refine Rn.go 1 (j' := 282) (pc' := 87) (ls' := [some (.ref 61), some (.int x1), some (.int x2), some (.int x3)]) (st' := []) (n' := 94) (M' := (I, J, xrf)) (fun f => rfl) ?_
  exact p_X12_laysCodes_10 x1 x2 x3 I J h hC
theorem p_X12_laysCodes_3 {L : Nat} {xs : Nat → Int32} {d : Nat} {Q : xO → Prop} (x1 : Int32) (x2 : Int32) (x3 : Int32) (s0 : Int32) (I : xI) (J : xJ) {t : (Int32 × Int32 × Int32 × xI × xJ) ⊕ (Unit × xI × xJ)} (h : f_X12_laysCodes_3 x1 x2 x3 s0 I J = some t) (hC : (c_X12_laysCodes_1 L xs d Q) t) : Rn L xs (d + 2) 282 26 [some (.ref 61), some (.int x1), some (.int x2), some (.int x3)] [.int s0] 94 (I, J, xrf) Q := by
  unfold f_X12_laysCodes_3 at h
  refine Rn.fi 1 (c := 0 ≤ s0) (p1 := 32) (l1 := [some (.ref 61), some (.int x1), some (.int x2), some (.int x3)]) (s1 := []) (n1 := 94) (M1 := (I, J, xrf)) (p2 := 29) (l2 := [some (.ref 61), some (.int x1), some (.int x2), some (.int x3)]) (s2 := []) (n2 := 94) (M2 := (I, J, xrf)) (fun f => rfl) (fun hc => ?_) (fun hc => ?_)
  · rw [if_pos hc] at h
    exact p_X12_laysCodes_5 x1 x2 x3 I J h hC
  · rw [if_neg hc] at h
    exact p_X12_laysCodes_4 x1 x2 x3 I J h hC
theorem p_X12_laysCodes_2 {L : Nat} {xs : Nat → Int32} {d : Nat} {Q : xO → Prop} (x1 : Int32) (x2 : Int32) (x3 : Int32) (I : xI) (J : xJ) {t : (Int32 × Int32 × Int32 × xI × xJ) ⊕ (Unit × xI × xJ)} (h : f_X12_laysCodes_2 x1 x2 x3 I J = some t) (hC : (c_X12_laysCodes_1 L xs d Q) t) : Rn L xs (d + 2) 282 20 [some (.ref 61), some (.int x1), some (.int x2), some (.int x3)] [] 94 (I, J, xrf) Q := by
  unfold f_X12_laysCodes_2 at h
  refine Rn.go 3 (j' := 282) (pc' := 23) (ls' := [some (.ref 61), some (.int x1), some (.int x2), some (.int x3)]) (st' := [.int x2, .int x3, .ref 61]) (n' := 94) (M' := (I, J, xrf)) (fun f => rfl) ?_
  obtain ⟨o, ho, h⟩ := Option.bind_eq_some_iff.mp h
  refine Rn.call (d1 := d + 1) (j1 := 210) (ls1 := [some (.ref 61), some (.int x3), some (.int x2)]) (rest := []) (fun f => rfl) ?_
  refine p_X12_to (d := d + 0) x3 x2 I J (t := o) ho ?_
  exact p_X12_laysCodes_3 x1 x2 x3 o.1 o.2.1 o.2.2 h hC
theorem q_X12_laysCodes_1 {L : Nat} {xs : Nat → Int32} {d : Nat} {Q : xO → Prop} (x1 : Int32) (x2 : Int32) (x3 : Int32) (I : xI) (J : xJ) {t : (Int32 × Int32 × Int32 × xI × xJ) ⊕ (Unit × xI × xJ)} (h : b_X12_laysCodes_1 x1 x2 x3 I J = some t) (hC : (c_X12_laysCodes_1 L xs d Q) t) : Rn L xs (d + 2) 282 12 [some (.ref 61), some (.int x1), some (.int x2), some (.int x3)] [] 94 (I, J, xrf) Q := by
  unfold b_X12_laysCodes_1 at h
  refine Rn.fi 4 (c := (I 61 17) ≤ x3) (p1 := 93) (l1 := [some (.ref 61), some (.int x1), some (.int x2), some (.int x3)]) (s1 := []) (n1 := 94) (M1 := (I, J, xrf)) (p2 := 20) (l2 := [some (.ref 61), some (.int x1), some (.int x2), some (.int x3)]) (s2 := []) (n2 := 94) (M2 := (I, J, xrf)) (fun f => rfl) (fun hc => ?_) (fun hc => ?_)
  · rw [if_pos hc] at h
    obtain ⟨t0, h0, rfl⟩ := Option.map_eq_some_iff.mp h
    exact p_X12_laysCodes_11 x1 x2 x3 I J h0 hC
  · rw [if_neg hc] at h
    exact p_X12_laysCodes_2 x1 x2 x3 I J h hC
theorem p_X12_laysCodes_1 {L : Nat} {xs : Nat → Int32} {d : Nat} {Q : xO → Prop} (x1 : Int32) (x2 : Int32) (x3 : Int32) (I : xI) (J : xJ) {t : Unit × xI × xJ} (h : f_X12_laysCodes_1 x1 x2 x3 I J = some t) (hC : (c_X12_laysCodes Q) t) : Rn L xs (d + 2) 282 12 [some (.ref 61), some (.int x1), some (.int x2), some (.int x3)] [] 94 (I, J, xrf) Q := by
  unfold f_X12_laysCodes_1 at h
  exact xloop_some (P := fun s : Int32 × Int32 × Int32 × xI × xJ => Rn L xs (d + 2) 282 12 [some (.ref 61), some (.int s.1), some (.int s.2.1), some (.int s.2.2.1)] [] 94 (s.2.2.2.1, s.2.2.2.2, xrf) Q) t (fun s ⟨s', hb, hp⟩ => q_X12_laysCodes_1 s.1 s.2.1 s.2.2.1 s.2.2.2.1 s.2.2.2.2 hb hp) (fun s hb => q_X12_laysCodes_1 s.1 s.2.1 s.2.2.1 s.2.2.2.1 s.2.2.2.2 hb hC) _ _ h
theorem p_X12_laysCodes_0 {L : Nat} {xs : Nat → Int32} {d : Nat} {Q : xO → Prop} (x1 : Int32) (x2 : Int32) (I : xI) (J : xJ) {t : Unit × xI × xJ} (h : f_X12_laysCodes_0 x1 x2 I J = some t) (hC : (c_X12_laysCodes Q) t) : Rn L xs (d + 2) 282 0 [some (.ref 61), some (.int x1), some (.int x2), none] [] 94 (I, J, xrf) Q := by
  unfold f_X12_laysCodes_0 at h
  refine Rn.go 8 (j' := 282) (pc' := 12) (ls' := [some (.ref 61), some (.int x1), some (.int x2), some (.int 0)]) (st' := []) (n' := 94) (M' := ((xup ((xup I 61 48 0)) 61 49 0), J, xrf)) (fun f => rfl) ?_
  exact p_X12_laysCodes_1 x1 x2 0 ((xup ((xup I 61 48 0)) 61 49 0)) J h hC
theorem p_X12_laysCodes {L : Nat} {xs : Nat → Int32} {d : Nat} {Q : xO → Prop} (x1 : Int32) (x2 : Int32) (I : xI) (J : xJ) {t : Unit × xI × xJ} (h : f_X12_laysCodes x1 x2 I J = some t) (hC : Q (none, 94, (t.2.1, t.2.2, xrf))) : Rn L xs (d + 2) 282 0 [some (.ref 61), some (.int x1), some (.int x2), none] [] 94 (I, J, xrf) Q := p_X12_laysCodes_0 x1 x2 I J h hC
/-! X12_fewOf -/
def c_X12_fewOf (Q : xO → Prop) (t : Int32 × xI × xJ) : Prop := Q ((some (.int t.1)), 94, (t.2.1, t.2.2, xrf))
def c_X12_fewOf_1 (L : Nat) (xs : Nat → Int32) (d : Nat) (Q : xO → Prop) (t : (Int32 × (Option Value) × (Option Value) × (Option Value) × xI × xJ) ⊕ (Int32 × xI × xJ)) : Prop := match t with
  | .inl s => Rn L xs (d + 1) 283 9 [some (.ref 61), some (.int s.1), s.2.1, s.2.2.1, s.2.2.2.1] [] 94 (s.2.2.2.2.1, s.2.2.2.2.2, xrf) Q
  | .inr t => (c_X12_fewOf Q) t
def c_X12_fewOf_5 (L : Nat) (xs : Nat → Int32) (d : Nat) (Q : xO → Prop) (t : (Int32 × Int32 × Int32 × (Option Value) × xI × xJ) ⊕ ((Int32 × (Option Value) × (Option Value) × (Option Value) × xI × xJ) ⊕ (Int32 × xI × xJ))) : Prop := match t with
  | .inl s => Rn L xs (d + 1) 283 46 [some (.ref 61), some (.int s.1), some (.int s.2.1), some (.int s.2.2.1), s.2.2.2.1] [] 94 (s.2.2.2.2.1, s.2.2.2.2.2, xrf) Q
  | .inr t => (c_X12_fewOf_1 L xs d Q) t
def f_X12_fewOf_13 (x1 : Int32) (z2 : Option Value) (z3 : Option Value) (z4 : Option Value) (I : xI) (J : xJ) : Option (Int32 × xI × xJ) := if (I 61 48) < 0 ∨ 256 ≤ ((I 61 48)).toNatClampNeg then none else some ((I 89 ((I 61 48)).toNatClampNeg), I, J)
def f_X12_fewOf_12 (x1 : Int32) (z2 : Option Value) (z3 : Option Value) (z4 : Option Value) (I : xI) (J : xJ) : Option ((Int32 × (Option Value) × (Option Value) × (Option Value) × xI × xJ) ⊕ (Int32 × xI × xJ)) := some (.inl (((x1 + 1)), z2, z3, z4, I, J))
def f_X12_fewOf_11 (x1 : Int32) (x2 : Int32) (x3 : Int32) (z4 : Option Value) (I : xI) (J : xJ) : Option ((Int32 × Int32 × Int32 × (Option Value) × xI × xJ) ⊕ ((Int32 × (Option Value) × (Option Value) × (Option Value) × xI × xJ) ⊕ (Int32 × xI × xJ))) := some (.inl (x1, x2, ((x3 + 1)), z4, I, J))
def f_X12_fewOf_10 (x1 : Int32) (x2 : Int32) (x3 : Int32) (x4 : Int32) (I : xI) (J : xJ) : Option ((Int32 × Int32 × Int32 × (Option Value) × xI × xJ) ⊕ ((Int32 × (Option Value) × (Option Value) × (Option Value) × xI × xJ) ⊕ (Int32 × xI × xJ))) := if x1 < 0 ∨ 256 ≤ x1.toNatClampNeg then none else f_X12_fewOf_11 x1 x2 x3 (some (.int x4)) ((xup I 89 x1.toNatClampNeg x4)) J
def f_X12_fewOf_9 (x1 : Int32) (x2 : Int32) (x3 : Int32) (z4 : Option Value) (I : xI) (J : xJ) : Option ((Int32 × Int32 × Int32 × (Option Value) × xI × xJ) ⊕ ((Int32 × (Option Value) × (Option Value) × (Option Value) × xI × xJ) ⊕ (Int32 × xI × xJ))) := if x3 < 0 ∨ 27 ≤ x3.toNatClampNeg then none else if (x1 &&& ((I 87 x3.toNatClampNeg) ^^^ (-1))) < 0 ∨ 256 ≤ ((x1 &&& ((I 87 x3.toNatClampNeg) ^^^ (-1)))).toNatClampNeg then none else if x1 < 0 ∨ 256 ≤ x1.toNatClampNeg then none else if (I 89 x1.toNatClampNeg) ≤ ((I 89 ((x1 &&& ((I 87 x3.toNatClampNeg) ^^^ (-1)))).toNatClampNeg) + 1) then f_X12_fewOf_11 x1 x2 x3 (some (.int (((I 89 ((x1 &&& ((I 87 x3.toNatClampNeg) ^^^ (-1)))).toNatClampNeg) + 1)))) I J else f_X12_fewOf_10 x1 x2 x3 (((I 89 ((x1 &&& ((I 87 x3.toNatClampNeg) ^^^ (-1)))).toNatClampNeg) + 1)) I J
def f_X12_fewOf_8 (x1 : Int32) (x2 : Int32) (x3 : Int32) (z4 : Option Value) (I : xI) (J : xJ) : Option ((Int32 × Int32 × Int32 × (Option Value) × xI × xJ) ⊕ ((Int32 × (Option Value) × (Option Value) × (Option Value) × xI × xJ) ⊕ (Int32 × xI × xJ))) := f_X12_fewOf_11 x1 x2 x3 z4 I J
def f_X12_fewOf_7 (x1 : Int32) (x2 : Int32) (x3 : Int32) (z4 : Option Value) (I : xI) (J : xJ) : Option ((Int32 × Int32 × Int32 × (Option Value) × xI × xJ) ⊕ ((Int32 × (Option Value) × (Option Value) × (Option Value) × xI × xJ) ⊕ (Int32 × xI × xJ))) := if x3 < 0 ∨ 27 ≤ x3.toNatClampNeg then none else if ((I 87 x3.toNatClampNeg) &&& (I 61 49)) = 0 then f_X12_fewOf_9 x1 x2 x3 z4 I J else f_X12_fewOf_8 x1 x2 x3 z4 I J
def f_X12_fewOf_6 (x1 : Int32) (x2 : Int32) (x3 : Int32) (z4 : Option Value) (I : xI) (J : xJ) : Option ((Int32 × Int32 × Int32 × (Option Value) × xI × xJ) ⊕ ((Int32 × (Option Value) × (Option Value) × (Option Value) × xI × xJ) ⊕ (Int32 × xI × xJ))) := if x3 < 0 ∨ 27 ≤ x3.toNatClampNeg then none else if ((I 87 x3.toNatClampNeg) &&& x2) = 0 then f_X12_fewOf_11 x1 x2 x3 z4 I J else f_X12_fewOf_7 x1 x2 x3 z4 I J
def b_X12_fewOf_5 (x1 : Int32) (x2 : Int32) (x3 : Int32) (z4 : Option Value) (I : xI) (J : xJ) : Option ((Int32 × Int32 × Int32 × (Option Value) × xI × xJ) ⊕ ((Int32 × (Option Value) × (Option Value) × (Option Value) × xI × xJ) ⊕ (Int32 × xI × xJ))) := if 27 ≤ x3 then ((f_X12_fewOf_12 x1 (some (.int x2)) (some (.int x3)) z4 I J)).map .inr else f_X12_fewOf_6 x1 x2 x3 z4 I J
def f_X12_fewOf_5 (x1 : Int32) (x2 : Int32) (x3 : Int32) (z4 : Option Value) (I : xI) (J : xJ) : Option ((Int32 × (Option Value) × (Option Value) × (Option Value) × xI × xJ) ⊕ (Int32 × xI × xJ)) := xloop (fun s : Int32 × Int32 × Int32 × (Option Value) × xI × xJ => b_X12_fewOf_5 s.1 s.2.1 s.2.2.1 s.2.2.2.1 s.2.2.2.2.1 s.2.2.2.2.2) 5000 (x1, x2, x3, z4, I, J)
def f_X12_fewOf_4 (x1 : Int32) (z2 : Option Value) (z3 : Option Value) (z4 : Option Value) (I : xI) (J : xJ) : Option ((Int32 × (Option Value) × (Option Value) × (Option Value) × xI × xJ) ⊕ (Int32 × xI × xJ)) := if x1 < 0 ∨ 256 ≤ x1.toNatClampNeg then none else f_X12_fewOf_5 x1 ((x1 &&& (-x1))) 0 z4 ((xup I 89 x1.toNatClampNeg 99)) J
def f_X12_fewOf_3 (x1 : Int32) (z2 : Option Value) (z3 : Option Value) (z4 : Option Value) (I : xI) (J : xJ) : Option ((Int32 × (Option Value) × (Option Value) × (Option Value) × xI × xJ) ⊕ (Int32 × xI × xJ)) := f_X12_fewOf_12 x1 z2 z3 z4 I J
def f_X12_fewOf_2 (x1 : Int32) (z2 : Option Value) (z3 : Option Value) (z4 : Option Value) (I : xI) (J : xJ) : Option ((Int32 × (Option Value) × (Option Value) × (Option Value) × xI × xJ) ⊕ (Int32 × xI × xJ)) := if (x1 &&& ((I 61 48) ^^^ (-1))) = 0 then f_X12_fewOf_4 x1 z2 z3 z4 I J else f_X12_fewOf_3 x1 z2 z3 z4 I J
def b_X12_fewOf_1 (x1 : Int32) (z2 : Option Value) (z3 : Option Value) (z4 : Option Value) (I : xI) (J : xJ) : Option ((Int32 × (Option Value) × (Option Value) × (Option Value) × xI × xJ) ⊕ (Int32 × xI × xJ)) := if (I 61 48) < x1 then ((f_X12_fewOf_13 x1 z2 z3 z4 I J)).map .inr else f_X12_fewOf_2 x1 z2 z3 z4 I J
def f_X12_fewOf_1 (x1 : Int32) (z2 : Option Value) (z3 : Option Value) (z4 : Option Value) (I : xI) (J : xJ) : Option (Int32 × xI × xJ) := xloop (fun s : Int32 × (Option Value) × (Option Value) × (Option Value) × xI × xJ => b_X12_fewOf_1 s.1 s.2.1 s.2.2.1 s.2.2.2.1 s.2.2.2.2.1 s.2.2.2.2.2) 5000 (x1, z2, z3, z4, I, J)
def f_X12_fewOf_0 (I : xI) (J : xJ) : Option (Int32 × xI × xJ) := f_X12_fewOf_1 1 none none none ((xup I 89 0 0)) J
def f_X12_fewOf (I : xI) (J : xJ) : Option (Int32 × xI × xJ) := f_X12_fewOf_0 I J
theorem p_X12_fewOf_13 {L : Nat} {xs : Nat → Int32} {d : Nat} {Q : xO → Prop} (x1 : Int32) (z2 : Option Value) (z3 : Option Value) (z4 : Option Value) (I : xI) (J : xJ) {t : Int32 × xI × xJ} (h : f_X12_fewOf_13 x1 z2 z3 z4 I J = some t) (hC : (c_X12_fewOf Q) t) : Rn L xs (d + 1) 283 130 [some (.ref 61), some (.int x1), z2, z3, z4] [] 94 (I, J, xrf) Q := by
  unfold f_X12_fewOf_13 at h
  obtain ⟨hc, h⟩ := xif h
  refine Rn.ok 5 (c := (I 61 48) < 0 ∨ 256 ≤ ((I 61 48)).toNatClampNeg) (p1 := 139) (l1 := [some (.ref 61), some (.int x1), z2, z3, z4]) (s1 := [.int ((I 89 ((I 61 48)).toNatClampNeg))]) (n1 := 94) (M1 := (I, J, xrf)) (fun f => rfl) hc ?_
  cases h
  exact Rn.ret 1 (o := ((some (.int ((I 89 ((I 61 48)).toNatClampNeg)))), 94, (I, J, xrf))) (fun f => rfl) hC
theorem p_X12_fewOf_12 {L : Nat} {xs : Nat → Int32} {d : Nat} {Q : xO → Prop} (x1 : Int32) (z2 : Option Value) (z3 : Option Value) (z4 : Option Value) (I : xI) (J : xJ) {t : (Int32 × (Option Value) × (Option Value) × (Option Value) × xI × xJ) ⊕ (Int32 × xI × xJ)} (h : f_X12_fewOf_12 x1 z2 z3 z4 I J = some t) (hC : (c_X12_fewOf_1 L xs d Q) t) : Rn L xs (d + 1) 283 124 [some (.ref 61), some (.int x1), z2, z3, z4] [] 94 (I, J, xrf) Q := by
  unfold f_X12_fewOf_12 at h
  refine Rn.go 2 (j' := 283) (pc' := 9) (ls' := [some (.ref 61), some (.int ((x1 + 1))), z2, z3, z4]) (st' := []) (n' := 94) (M' := (I, J, xrf)) (fun f => rfl) ?_
  cases h; exact hC
theorem p_X12_fewOf_11 {L : Nat} {xs : Nat → Int32} {d : Nat} {Q : xO → Prop} (x1 : Int32) (x2 : Int32) (x3 : Int32) (z4 : Option Value) (I : xI) (J : xJ) {t : (Int32 × Int32 × Int32 × (Option Value) × xI × xJ) ⊕ ((Int32 × (Option Value) × (Option Value) × (Option Value) × xI × xJ) ⊕ (Int32 × xI × xJ))} (h : f_X12_fewOf_11 x1 x2 x3 z4 I J = some t) (hC : (c_X12_fewOf_5 L xs d Q) t) : Rn L xs (d + 1) 283 118 [some (.ref 61), some (.int x1), some (.int x2), some (.int x3), z4] [] 94 (I, J, xrf) Q := by
  unfold f_X12_fewOf_11 at h
  refine Rn.go 2 (j' := 283) (pc' := 46) (ls' := [some (.ref 61), some (.int x1), some (.int x2), some (.int ((x3 + 1))), z4]) (st' := []) (n' := 94) (M' := (I, J, xrf)) (fun f => rfl) ?_
  cases h; exact hC
theorem p_X12_fewOf_10 {L : Nat} {xs : Nat → Int32} {d : Nat} {Q : xO → Prop} (x1 : Int32) (x2 : Int32) (x3 : Int32) (x4 : Int32) (I : xI) (J : xJ) {t : (Int32 × Int32 × Int32 × (Option Value) × xI × xJ) ⊕ ((Int32 × (Option Value) × (Option Value) × (Option Value) × xI × xJ) ⊕ (Int32 × xI × xJ))} (h : f_X12_fewOf_10 x1 x2 x3 x4 I J = some t) (hC : (c_X12_fewOf_5 L xs d Q) t) : Rn L xs (d + 1) 283 110 [some (.ref 61), some (.int x1), some (.int x2), some (.int x3), some (.int x4)] [] 94 (I, J, xrf) Q := by
  unfold f_X12_fewOf_10 at h
  obtain ⟨hc, h⟩ := xif h
  refine Rn.ok 5 (c := x1 < 0 ∨ 256 ≤ x1.toNatClampNeg) (p1 := 118) (l1 := [some (.ref 61), some (.int x1), some (.int x2), some (.int x3), some (.int x4)]) (s1 := []) (n1 := 94) (M1 := ((xup I 89 x1.toNatClampNeg x4), J, xrf)) (fun f => rfl) hc ?_
  exact p_X12_fewOf_11 x1 x2 x3 (some (.int x4)) ((xup I 89 x1.toNatClampNeg x4)) J h hC
theorem p_X12_fewOf_9 {L : Nat} {xs : Nat → Int32} {d : Nat} {Q : xO → Prop} (x1 : Int32) (x2 : Int32) (x3 : Int32) (z4 : Option Value) (I : xI) (J : xJ) {t : (Int32 × Int32 × Int32 × (Option Value) × xI × xJ) ⊕ ((Int32 × (Option Value) × (Option Value) × (Option Value) × xI × xJ) ⊕ (Int32 × xI × xJ))} (h : f_X12_fewOf_9 x1 x2 x3 z4 I J = some t) (hC : (c_X12_fewOf_5 L xs d Q) t) : Rn L xs (d + 1) 283 80 [some (.ref 61), some (.int x1), some (.int x2), some (.int x3), z4] [] 94 (I, J, xrf) Q := by
  unfold f_X12_fewOf_9 at h
  obtain ⟨hc, h⟩ := xif h
  refine Rn.ok 7 (c := x3 < 0 ∨ 27 ≤ x3.toNatClampNeg) (p1 := 91) (l1 := [some (.ref 61), some (.int x1), some (.int x2), some (.int x3), z4]) (s1 := [.int ((I 87 x3.toNatClampNeg)), .int x1, .ref 89]) (n1 := 94) (M1 := (I, J, xrf)) (fun f => rfl) hc ?_
  obtain ⟨hc, h⟩ := xif h
  refine Rn.ok 4 (c := (x1 &&& ((I 87 x3.toNatClampNeg) ^^^ (-1))) < 0 ∨ 256 ≤ ((x1 &&& ((I 87 x3.toNatClampNeg) ^^^ (-1)))).toNatClampNeg) (p1 := 95) (l1 := [some (.ref 61), some (.int x1), some (.int x2), some (.int x3), z4]) (s1 := [.int ((I 89 ((x1 &&& ((I 87 x3.toNatClampNeg) ^^^ (-1)))).toNatClampNeg))]) (n1 := 94) (M1 := (I, J, xrf)) (fun f => rfl) hc ?_
  obtain ⟨hc, h⟩ := xif h
  refine Rn.ok 8 (c := x1 < 0 ∨ 256 ≤ x1.toNatClampNeg) (p1 := 107) (l1 := [some (.ref 61), some (.int x1), some (.int x2), some (.int x3), some (.int (((I 89 ((x1 &&& ((I 87 x3.toNatClampNeg) ^^^ (-1)))).toNatClampNeg) + 1)))]) (s1 := [.int ((I 89 x1.toNatClampNeg)), .int (((I 89 ((x1 &&& ((I 87 x3.toNatClampNeg) ^^^ (-1)))).toNatClampNeg) + 1))]) (n1 := 94) (M1 := (I, J, xrf)) (fun f => rfl) hc ?_
  refine Rn.fi 1 (c := (I 89 x1.toNatClampNeg) ≤ ((I 89 ((x1 &&& ((I 87 x3.toNatClampNeg) ^^^ (-1)))).toNatClampNeg) + 1)) (p1 := 118) (l1 := [some (.ref 61), some (.int x1), some (.int x2), some (.int x3), some (.int (((I 89 ((x1 &&& ((I 87 x3.toNatClampNeg) ^^^ (-1)))).toNatClampNeg) + 1)))]) (s1 := []) (n1 := 94) (M1 := (I, J, xrf)) (p2 := 110) (l2 := [some (.ref 61), some (.int x1), some (.int x2), some (.int x3), some (.int (((I 89 ((x1 &&& ((I 87 x3.toNatClampNeg) ^^^ (-1)))).toNatClampNeg) + 1)))]) (s2 := []) (n2 := 94) (M2 := (I, J, xrf)) (fun f => rfl) (fun hc => ?_) (fun hc => ?_)
  · rw [if_pos hc] at h
    exact p_X12_fewOf_11 x1 x2 x3 (some (.int (((I 89 ((x1 &&& ((I 87 x3.toNatClampNeg) ^^^ (-1)))).toNatClampNeg) + 1)))) I J h hC
  · rw [if_neg hc] at h
    exact p_X12_fewOf_10 x1 x2 x3 (((I 89 ((x1 &&& ((I 87 x3.toNatClampNeg) ^^^ (-1)))).toNatClampNeg) + 1)) I J h hC
theorem p_X12_fewOf_8 {L : Nat} {xs : Nat → Int32} {d : Nat} {Q : xO → Prop} (x1 : Int32) (x2 : Int32) (x3 : Int32) (z4 : Option Value) (I : xI) (J : xJ) {t : (Int32 × Int32 × Int32 × (Option Value) × xI × xJ) ⊕ ((Int32 × (Option Value) × (Option Value) × (Option Value) × xI × xJ) ⊕ (Int32 × xI × xJ))} (h : f_X12_fewOf_8 x1 x2 x3 z4 I J = some t) (hC : (c_X12_fewOf_5 L xs d Q) t) : Rn L xs (d + 1) 283 77 [some (.ref 61), some (.int x1), some (.int x2), some (.int x3), z4] [] 94 (I, J, xrf) Q := by
  unfold f_X12_fewOf_8 at h
  refine Rn.go 1 (j' := 283) (pc' := 118) (ls' := [some (.ref 61), some (.int x1), some (.int x2), some (.int x3), z4]) (st' := []) (n' := 94) (M' := (I, J, xrf)) (fun f => rfl) ?_
  exact p_X12_fewOf_11 x1 x2 x3 z4 I J h hC
theorem p_X12_fewOf_7 {L : Nat} {xs : Nat → Int32} {d : Nat} {Q : xO → Prop} (x1 : Int32) (x2 : Int32) (x3 : Int32) (z4 : Option Value) (I : xI) (J : xJ) {t : (Int32 × Int32 × Int32 × (Option Value) × xI × xJ) ⊕ ((Int32 × (Option Value) × (Option Value) × (Option Value) × xI × xJ) ⊕ (Int32 × xI × xJ))} (h : f_X12_fewOf_7 x1 x2 x3 z4 I J = some t) (hC : (c_X12_fewOf_5 L xs d Q) t) : Rn L xs (d + 1) 283 63 [some (.ref 61), some (.int x1), some (.int x2), some (.int x3), z4] [] 94 (I, J, xrf) Q := by
  unfold f_X12_fewOf_7 at h
  obtain ⟨hc, h⟩ := xif h
  refine Rn.ok 4 (c := x3 < 0 ∨ 27 ≤ x3.toNatClampNeg) (p1 := 69) (l1 := [some (.ref 61), some (.int x1), some (.int x2), some (.int x3), z4]) (s1 := [.int ((I 87 x3.toNatClampNeg))]) (n1 := 94) (M1 := (I, J, xrf)) (fun f => rfl) hc ?_
  refine Rn.fi 4 (c := ((I 87 x3.toNatClampNeg) &&& (I 61 49)) = 0) (p1 := 80) (l1 := [some (.ref 61), some (.int x1), some (.int x2), some (.int x3), z4]) (s1 := []) (n1 := 94) (M1 := (I, J, xrf)) (p2 := 77) (l2 := [some (.ref 61), some (.int x1), some (.int x2), some (.int x3), z4]) (s2 := []) (n2 := 94) (M2 := (I, J, xrf)) (fun f => rfl) (fun hc => ?_) (fun hc => ?_)
  · rw [if_pos hc] at h
    exact p_X12_fewOf_9 x1 x2 x3 z4 I J h hC
  · rw [if_neg hc] at h
    exact p_X12_fewOf_8 x1 x2 x3 z4 I J h hC
theorem p_X12_fewOf_6 {L : Nat} {xs : Nat → Int32} {d : Nat} {Q : xO → Prop} (x1 : Int32) (x2 : Int32) (x3 : Int32) (z4 : Option Value) (I : xI) (J : xJ) {t : (Int32 × Int32 × Int32 × (Option Value) × xI × xJ) ⊕ ((Int32 × (Option Value) × (Option Value) × (Option Value) × xI × xJ) ⊕ (Int32 × xI × xJ))} (h : f_X12_fewOf_6 x1 x2 x3 z4 I J = some t) (hC : (c_X12_fewOf_5 L xs d Q) t) : Rn L xs (d + 1) 283 52 [some (.ref 61), some (.int x1), some (.int x2), some (.int x3), z4] [] 94 (I, J, xrf) Q := by
  unfold f_X12_fewOf_6 at h
  obtain ⟨hc, h⟩ := xif h
  refine Rn.ok 4 (c := x3 < 0 ∨ 27 ≤ x3.toNatClampNeg) (p1 := 58) (l1 := [some (.ref 61), some (.int x1), some (.int x2), some (.int x3), z4]) (s1 := [.int ((I 87 x3.toNatClampNeg))]) (n1 := 94) (M1 := (I, J, xrf)) (fun f => rfl) hc ?_
  refine Rn.fi 3 (c := ((I 87 x3.toNatClampNeg) &&& x2) = 0) (p1 := 118) (l1 := [some (.ref 61), some (.int x1), some (.int x2), some (.int x3), z4]) (s1 := []) (n1 := 94) (M1 := (I, J, xrf)) (p2 := 63) (l2 := [some (.ref 61), some (.int x1), some (.int x2), some (.int x3), z4]) (s2 := []) (n2 := 94) (M2 := (I, J, xrf)) (fun f => rfl) (fun hc => ?_) (fun hc => ?_)
  · rw [if_pos hc] at h
    exact p_X12_fewOf_11 x1 x2 x3 z4 I J h hC
  · rw [if_neg hc] at h
    exact p_X12_fewOf_7 x1 x2 x3 z4 I J h hC
theorem q_X12_fewOf_5 {L : Nat} {xs : Nat → Int32} {d : Nat} {Q : xO → Prop} (x1 : Int32) (x2 : Int32) (x3 : Int32) (z4 : Option Value) (I : xI) (J : xJ) {t : (Int32 × Int32 × Int32 × (Option Value) × xI × xJ) ⊕ ((Int32 × (Option Value) × (Option Value) × (Option Value) × xI × xJ) ⊕ (Int32 × xI × xJ))} (h : b_X12_fewOf_5 x1 x2 x3 z4 I J = some t) (hC : (c_X12_fewOf_5 L xs d Q) t) : Rn L xs (d + 1) 283 46 [some (.ref 61), some (.int x1), some (.int x2), some (.int x3), z4] [] 94 (I, J, xrf) Q := by
  unfold b_X12_fewOf_5 at h
  refine Rn.fi 3 (c := 27 ≤ x3) (p1 := 124) (l1 := [some (.ref 61), some (.int x1), some (.int x2), some (.int x3), z4]) (s1 := []) (n1 := 94) (M1 := (I, J, xrf)) (p2 := 52) (l2 := [some (.ref 61), some (.int x1), some (.int x2), some (.int x3), z4]) (s2 := []) (n2 := 94) (M2 := (I, J, xrf)) (fun f => rfl) (fun hc => ?_) (fun hc => ?_)
  · rw [if_pos hc] at h
    obtain ⟨t0, h0, rfl⟩ := Option.map_eq_some_iff.mp h
    exact p_X12_fewOf_12 x1 (some (.int x2)) (some (.int x3)) z4 I J h0 hC
  · rw [if_neg hc] at h
    exact p_X12_fewOf_6 x1 x2 x3 z4 I J h hC
theorem p_X12_fewOf_5 {L : Nat} {xs : Nat → Int32} {d : Nat} {Q : xO → Prop} (x1 : Int32) (x2 : Int32) (x3 : Int32) (z4 : Option Value) (I : xI) (J : xJ) {t : (Int32 × (Option Value) × (Option Value) × (Option Value) × xI × xJ) ⊕ (Int32 × xI × xJ)} (h : f_X12_fewOf_5 x1 x2 x3 z4 I J = some t) (hC : (c_X12_fewOf_1 L xs d Q) t) : Rn L xs (d + 1) 283 46 [some (.ref 61), some (.int x1), some (.int x2), some (.int x3), z4] [] 94 (I, J, xrf) Q := by
  unfold f_X12_fewOf_5 at h
  exact xloop_some (P := fun s : Int32 × Int32 × Int32 × (Option Value) × xI × xJ => Rn L xs (d + 1) 283 46 [some (.ref 61), some (.int s.1), some (.int s.2.1), some (.int s.2.2.1), s.2.2.2.1] [] 94 (s.2.2.2.2.1, s.2.2.2.2.2, xrf) Q) t (fun s ⟨s', hb, hp⟩ => q_X12_fewOf_5 s.1 s.2.1 s.2.2.1 s.2.2.2.1 s.2.2.2.2.1 s.2.2.2.2.2 hb hp) (fun s hb => q_X12_fewOf_5 s.1 s.2.1 s.2.2.1 s.2.2.2.1 s.2.2.2.2.1 s.2.2.2.2.2 hb hC) _ _ h
theorem p_X12_fewOf_4 {L : Nat} {xs : Nat → Int32} {d : Nat} {Q : xO → Prop} (x1 : Int32) (z2 : Option Value) (z3 : Option Value) (z4 : Option Value) (I : xI) (J : xJ) {t : (Int32 × (Option Value) × (Option Value) × (Option Value) × xI × xJ) ⊕ (Int32 × xI × xJ)} (h : f_X12_fewOf_4 x1 z2 z3 z4 I J = some t) (hC : (c_X12_fewOf_1 L xs d Q) t) : Rn L xs (d + 1) 283 31 [some (.ref 61), some (.int x1), z2, z3, z4] [] 94 (I, J, xrf) Q := by
  unfold f_X12_fewOf_4 at h
  obtain ⟨hc, h⟩ := xif h
  refine Rn.ok 10 (c := x1 < 0 ∨ 256 ≤ x1.toNatClampNeg) (p1 := 44) (l1 := [some (.ref 61), some (.int x1), some (.int ((x1 &&& (-x1)))), z3, z4]) (s1 := []) (n1 := 94) (M1 := ((xup I 89 x1.toNatClampNeg 99), J, xrf)) (fun f => rfl) hc ?_
  refine Rn.go 2 (j' := 283) (pc' := 46) (ls' := [some (.ref 61), some (.int x1), some (.int ((x1 &&& (-x1)))), some (.int 0), z4]) (st' := []) (n' := 94) (M' := ((xup I 89 x1.toNatClampNeg 99), J, xrf)) (fun f => rfl) ?_
  exact p_X12_fewOf_5 x1 ((x1 &&& (-x1))) 0 z4 ((xup I 89 x1.toNatClampNeg 99)) J h hC
theorem p_X12_fewOf_3 {L : Nat} {xs : Nat → Int32} {d : Nat} {Q : xO → Prop} (x1 : Int32) (z2 : Option Value) (z3 : Option Value) (z4 : Option Value) (I : xI) (J : xJ) {t : (Int32 × (Option Value) × (Option Value) × (Option Value) × xI × xJ) ⊕ (Int32 × xI × xJ)} (h : f_X12_fewOf_3 x1 z2 z3 z4 I J = some t) (hC : (c_X12_fewOf_1 L xs d Q) t) : Rn L xs (d + 1) 283 28 [some (.ref 61), some (.int x1), z2, z3, z4] [] 94 (I, J, xrf) Q := by
  unfold f_X12_fewOf_3 at h
  refine Rn.go 1 (j' := 283) (pc' := 124) (ls' := [some (.ref 61), some (.int x1), z2, z3, z4]) (st' := []) (n' := 94) (M' := (I, J, xrf)) (fun f => rfl) ?_
  exact p_X12_fewOf_12 x1 z2 z3 z4 I J h hC
theorem p_X12_fewOf_2 {L : Nat} {xs : Nat → Int32} {d : Nat} {Q : xO → Prop} (x1 : Int32) (z2 : Option Value) (z3 : Option Value) (z4 : Option Value) (I : xI) (J : xJ) {t : (Int32 × (Option Value) × (Option Value) × (Option Value) × xI × xJ) ⊕ (Int32 × xI × xJ)} (h : f_X12_fewOf_2 x1 z2 z3 z4 I J = some t) (hC : (c_X12_fewOf_1 L xs d Q) t) : Rn L xs (d + 1) 283 17 [some (.ref 61), some (.int x1), z2, z3, z4] [] 94 (I, J, xrf) Q := by
  unfold f_X12_fewOf_2 at h
  refine Rn.fi 7 (c := (x1 &&& ((I 61 48) ^^^ (-1))) = 0) (p1 := 31) (l1 := [some (.ref 61), some (.int x1), z2, z3, z4]) (s1 := []) (n1 := 94) (M1 := (I, J, xrf)) (p2 := 28) (l2 := [some (.ref 61), some (.int x1), z2, z3, z4]) (s2 := []) (n2 := 94) (M2 := (I, J, xrf)) (fun f => rfl) (fun hc => ?_) (fun hc => ?_)
  · rw [if_pos hc] at h
    exact p_X12_fewOf_4 x1 z2 z3 z4 I J h hC
  · rw [if_neg hc] at h
    exact p_X12_fewOf_3 x1 z2 z3 z4 I J h hC
theorem q_X12_fewOf_1 {L : Nat} {xs : Nat → Int32} {d : Nat} {Q : xO → Prop} (x1 : Int32) (z2 : Option Value) (z3 : Option Value) (z4 : Option Value) (I : xI) (J : xJ) {t : (Int32 × (Option Value) × (Option Value) × (Option Value) × xI × xJ) ⊕ (Int32 × xI × xJ)} (h : b_X12_fewOf_1 x1 z2 z3 z4 I J = some t) (hC : (c_X12_fewOf_1 L xs d Q) t) : Rn L xs (d + 1) 283 9 [some (.ref 61), some (.int x1), z2, z3, z4] [] 94 (I, J, xrf) Q := by
  unfold b_X12_fewOf_1 at h
  refine Rn.fi 4 (c := (I 61 48) < x1) (p1 := 130) (l1 := [some (.ref 61), some (.int x1), z2, z3, z4]) (s1 := []) (n1 := 94) (M1 := (I, J, xrf)) (p2 := 17) (l2 := [some (.ref 61), some (.int x1), z2, z3, z4]) (s2 := []) (n2 := 94) (M2 := (I, J, xrf)) (fun f => rfl) (fun hc => ?_) (fun hc => ?_)
  · rw [if_pos hc] at h
    obtain ⟨t0, h0, rfl⟩ := Option.map_eq_some_iff.mp h
    exact p_X12_fewOf_13 x1 z2 z3 z4 I J h0 hC
  · rw [if_neg hc] at h
    exact p_X12_fewOf_2 x1 z2 z3 z4 I J h hC
theorem p_X12_fewOf_1 {L : Nat} {xs : Nat → Int32} {d : Nat} {Q : xO → Prop} (x1 : Int32) (z2 : Option Value) (z3 : Option Value) (z4 : Option Value) (I : xI) (J : xJ) {t : Int32 × xI × xJ} (h : f_X12_fewOf_1 x1 z2 z3 z4 I J = some t) (hC : (c_X12_fewOf Q) t) : Rn L xs (d + 1) 283 9 [some (.ref 61), some (.int x1), z2, z3, z4] [] 94 (I, J, xrf) Q := by
  unfold f_X12_fewOf_1 at h
  exact xloop_some (P := fun s : Int32 × (Option Value) × (Option Value) × (Option Value) × xI × xJ => Rn L xs (d + 1) 283 9 [some (.ref 61), some (.int s.1), s.2.1, s.2.2.1, s.2.2.2.1] [] 94 (s.2.2.2.2.1, s.2.2.2.2.2, xrf) Q) t (fun s ⟨s', hb, hp⟩ => q_X12_fewOf_1 s.1 s.2.1 s.2.2.1 s.2.2.2.1 s.2.2.2.2.1 s.2.2.2.2.2 hb hp) (fun s hb => q_X12_fewOf_1 s.1 s.2.1 s.2.2.1 s.2.2.2.1 s.2.2.2.2.1 s.2.2.2.2.2 hb hC) _ _ h
theorem p_X12_fewOf_0 {L : Nat} {xs : Nat → Int32} {d : Nat} {Q : xO → Prop} (I : xI) (J : xJ) {t : Int32 × xI × xJ} (h : f_X12_fewOf_0 I J = some t) (hC : (c_X12_fewOf Q) t) : Rn L xs (d + 1) 283 0 [some (.ref 61), none, none, none, none] [] 94 (I, J, xrf) Q := by
  unfold f_X12_fewOf_0 at h
  refine Rn.go 7 (j' := 283) (pc' := 9) (ls' := [some (.ref 61), some (.int 1), none, none, none]) (st' := []) (n' := 94) (M' := ((xup I 89 0 0), J, xrf)) (fun f => rfl) ?_
  exact p_X12_fewOf_1 1 none none none ((xup I 89 0 0)) J h hC
theorem p_X12_fewOf {L : Nat} {xs : Nat → Int32} {d : Nat} {Q : xO → Prop} (I : xI) (J : xJ) {t : Int32 × xI × xJ} (h : f_X12_fewOf I J = some t) (hC : Q ((some (.int t.1)), 94, (t.2.1, t.2.2, xrf))) : Rn L xs (d + 1) 283 0 [some (.ref 61), none, none, none, none] [] 94 (I, J, xrf) Q := p_X12_fewOf_0 I J h hC
/-! X12_howFew -/
def c_X12_howFew (Q : xO → Prop) (t : Int32 × xI × xJ) : Prop := Q ((some (.int t.1)), 94, (t.2.1, t.2.2, xrf))
def c_X12_howFew_1 (L : Nat) (xs : Nat → Int32) (d : Nat) (Q : xO → Prop) (t : (Int32 × Int32 × xI × xJ) ⊕ (Int32 × xI × xJ)) : Prop := match t with
  | .inl s => Rn L xs (d + 2) 284 4 [some (.ref 61), some (.int s.1), some (.int s.2.1)] [] 94 (s.2.2.1, s.2.2.2, xrf) Q
  | .inr t => (c_X12_howFew Q) t
def f_X12_howFew_13 (x1 : Int32) (x2 : Int32) (I : xI) (J : xJ) : Option (Int32 × xI × xJ) := if x1 < 0 ∨ 6561 ≤ x1.toNatClampNeg then none else some (((I 88 x1.toNatClampNeg) - 1), I, J)
def f_X12_howFew_12 (x1 : Int32) (x2 : Int32) (s1 : Int32) (s2 : Int32) (I : xI) (J : xJ) : Option (Int32 × xI × xJ) := if s1 < 0 ∨ 6561 ≤ s1.toNatClampNeg then none else f_X12_howFew_13 x1 x2 ((xup I 88 s1.toNatClampNeg ((Int8.toInt32 (Int32.toInt8 ((Int8.toInt32 (Int32.toInt8 ((s2 + 1)))))))))) J
def f_X12_howFew_11 (x1 : Int32) (x2 : Int32) (I : xI) (J : xJ) : Option (Int32 × xI × xJ) := (f_X12_fewOf I J).bind fun o => f_X12_howFew_12 x1 x2 x1 o.1 o.2.1 o.2.2
def f_X12_howFew_10 (x1 : Int32) (x2 : Int32) (I : xI) (J : xJ) : Option (Int32 × xI × xJ) := if x1 < 0 ∨ 6561 ≤ x1.toNatClampNeg then none else if (I 88 x1.toNatClampNeg) = 0 then f_X12_howFew_11 x1 x2 I J else f_X12_howFew_13 x1 x2 I J
def f_X12_howFew_9 (x1 : Int32) (x2 : Int32) (s0 : Int32) (s1 : Int32) (I : xI) (J : xJ) : Option ((Int32 × Int32 × xI × xJ) ⊕ (Int32 × xI × xJ)) := some (.inl (((s0 + s1)), ((x2 + 1)), I, J))
def f_X12_howFew_8 (x1 : Int32) (x2 : Int32) (s0 : Int32) (I : xI) (J : xJ) : Option ((Int32 × Int32 × xI × xJ) ⊕ (Int32 × xI × xJ)) := f_X12_howFew_9 x1 x2 s0 2 I J
def f_X12_howFew_7 (x1 : Int32) (x2 : Int32) (s0 : Int32) (I : xI) (J : xJ) : Option ((Int32 × Int32 × xI × xJ) ⊕ (Int32 × xI × xJ)) := f_X12_howFew_9 x1 x2 s0 0 I J
def f_X12_howFew_6 (x1 : Int32) (x2 : Int32) (s0 : Int32) (s1 : Int32) (I : xI) (J : xJ) : Option ((Int32 × Int32 × xI × xJ) ⊕ (Int32 × xI × xJ)) := if s1 = 0 then f_X12_howFew_8 x1 x2 s0 I J else f_X12_howFew_7 x1 x2 s0 I J
def f_X12_howFew_5 (x1 : Int32) (x2 : Int32) (s0 : Int32) (I : xI) (J : xJ) : Option ((Int32 × Int32 × xI × xJ) ⊕ (Int32 × xI × xJ)) := (f_X12_has ((I 61 49)) x2 I J).bind fun o => f_X12_howFew_6 x1 x2 s0 o.1 o.2.1 o.2.2
def f_X12_howFew_4 (x1 : Int32) (x2 : Int32) (s0 : Int32) (I : xI) (J : xJ) : Option ((Int32 × Int32 × xI × xJ) ⊕ (Int32 × xI × xJ)) := f_X12_howFew_9 x1 x2 s0 1 I J
def f_X12_howFew_3 (x1 : Int32) (x2 : Int32) (s0 : Int32) (s1 : Int32) (I : xI) (J : xJ) : Option ((Int32 × Int32 × xI × xJ) ⊕ (Int32 × xI × xJ)) := if s1 = 0 then f_X12_howFew_5 x1 x2 s0 I J else f_X12_howFew_4 x1 x2 s0 I J
def f_X12_howFew_2 (x1 : Int32) (x2 : Int32) (I : xI) (J : xJ) : Option ((Int32 × Int32 × xI × xJ) ⊕ (Int32 × xI × xJ)) := (f_X12_has ((I 61 48)) x2 I J).bind fun o => f_X12_howFew_3 x1 x2 ((3 * x1)) o.1 o.2.1 o.2.2
def b_X12_howFew_1 (x1 : Int32) (x2 : Int32) (I : xI) (J : xJ) : Option ((Int32 × Int32 × xI × xJ) ⊕ (Int32 × xI × xJ)) := if 8 ≤ x2 then ((f_X12_howFew_10 x1 x2 I J)).map .inr else f_X12_howFew_2 x1 x2 I J
def f_X12_howFew_1 (x1 : Int32) (x2 : Int32) (I : xI) (J : xJ) : Option (Int32 × xI × xJ) := xloop (fun s : Int32 × Int32 × xI × xJ => b_X12_howFew_1 s.1 s.2.1 s.2.2.1 s.2.2.2) 5000 (x1, x2, I, J)
def f_X12_howFew_0 (I : xI) (J : xJ) : Option (Int32 × xI × xJ) := f_X12_howFew_1 0 0 I J
def f_X12_howFew (I : xI) (J : xJ) : Option (Int32 × xI × xJ) := f_X12_howFew_0 I J
theorem p_X12_howFew_13 {L : Nat} {xs : Nat → Int32} {d : Nat} {Q : xO → Prop} (x1 : Int32) (x2 : Int32) (I : xI) (J : xJ) {t : Int32 × xI × xJ} (h : f_X12_howFew_13 x1 x2 I J = some t) (hC : (c_X12_howFew Q) t) : Rn L xs (d + 2) 284 74 [some (.ref 61), some (.int x1), some (.int x2)] [] 94 (I, J, xrf) Q := by
  unfold f_X12_howFew_13 at h
  obtain ⟨hc, h⟩ := xif h
  refine Rn.ok 4 (c := x1 < 0 ∨ 6561 ≤ x1.toNatClampNeg) (p1 := 80) (l1 := [some (.ref 61), some (.int x1), some (.int x2)]) (s1 := [.int ((I 88 x1.toNatClampNeg))]) (n1 := 94) (M1 := (I, J, xrf)) (fun f => rfl) hc ?_
  cases h
  exact Rn.ret 3 (o := ((some (.int (((I 88 x1.toNatClampNeg) - 1)))), 94, (I, J, xrf))) (fun f => rfl) hC
theorem p_X12_howFew_12 {L : Nat} {xs : Nat → Int32} {d : Nat} {Q : xO → Prop} (x1 : Int32) (x2 : Int32) (s1 : Int32) (s2 : Int32) (I : xI) (J : xJ) {t : Int32 × xI × xJ} (h : f_X12_howFew_12 x1 x2 s1 s2 I J = some t) (hC : (c_X12_howFew Q) t) : Rn L xs (d + 2) 284 70 [some (.ref 61), some (.int x1), some (.int x2)] [.int s2, .int s1, .ref 88] 94 (I, J, xrf) Q := by
  unfold f_X12_howFew_12 at h
  obtain ⟨hc, h⟩ := xif h
  refine Rn.ok 4 (c := s1 < 0 ∨ 6561 ≤ s1.toNatClampNeg) (p1 := 74) (l1 := [some (.ref 61), some (.int x1), some (.int x2)]) (s1 := []) (n1 := 94) (M1 := ((xup I 88 s1.toNatClampNeg ((Int8.toInt32 (Int32.toInt8 ((Int8.toInt32 (Int32.toInt8 ((s2 + 1))))))))), J, xrf)) (fun f => rfl) hc ?_
  exact p_X12_howFew_13 x1 x2 ((xup I 88 s1.toNatClampNeg ((Int8.toInt32 (Int32.toInt8 ((Int8.toInt32 (Int32.toInt8 ((s2 + 1)))))))))) J h hC
theorem p_X12_howFew_11 {L : Nat} {xs : Nat → Int32} {d : Nat} {Q : xO → Prop} (x1 : Int32) (x2 : Int32) (I : xI) (J : xJ) {t : Int32 × xI × xJ} (h : f_X12_howFew_11 x1 x2 I J = some t) (hC : (c_X12_howFew Q) t) : Rn L xs (d + 2) 284 61 [some (.ref 61), some (.int x1), some (.int x2)] [] 94 (I, J, xrf) Q := by
  unfold f_X12_howFew_11 at h
  refine Rn.go 4 (j' := 284) (pc' := 67) (ls' := [some (.ref 61), some (.int x1), some (.int x2)]) (st' := [.ref 61, .int x1, .ref 88]) (n' := 94) (M' := (I, J, xrf)) (fun f => rfl) ?_
  obtain ⟨o, ho, h⟩ := Option.bind_eq_some_iff.mp h
  refine Rn.call (d1 := d + 1) (j1 := 283) (ls1 := [some (.ref 61), none, none, none, none]) (rest := [.int x1, .ref 88]) (fun f => rfl) ?_
  refine p_X12_fewOf (d := d + 0) I J (t := o) ho ?_
  exact p_X12_howFew_12 x1 x2 x1 o.1 o.2.1 o.2.2 h hC
theorem p_X12_howFew_10 {L : Nat} {xs : Nat → Int32} {d : Nat} {Q : xO → Prop} (x1 : Int32) (x2 : Int32) (I : xI) (J : xJ) {t : Int32 × xI × xJ} (h : f_X12_howFew_10 x1 x2 I J = some t) (hC : (c_X12_howFew Q) t) : Rn L xs (d + 2) 284 52 [some (.ref 61), some (.int x1), some (.int x2)] [] 94 (I, J, xrf) Q := by
  unfold f_X12_howFew_10 at h
  obtain ⟨hc, h⟩ := xif h
  refine Rn.ok 4 (c := x1 < 0 ∨ 6561 ≤ x1.toNatClampNeg) (p1 := 58) (l1 := [some (.ref 61), some (.int x1), some (.int x2)]) (s1 := [.int ((I 88 x1.toNatClampNeg))]) (n1 := 94) (M1 := (I, J, xrf)) (fun f => rfl) hc ?_
  refine Rn.fi 1 (c := (I 88 x1.toNatClampNeg) = 0) (p1 := 61) (l1 := [some (.ref 61), some (.int x1), some (.int x2)]) (s1 := []) (n1 := 94) (M1 := (I, J, xrf)) (p2 := 74) (l2 := [some (.ref 61), some (.int x1), some (.int x2)]) (s2 := []) (n2 := 94) (M2 := (I, J, xrf)) (fun f => rfl) (fun hc => ?_) (fun hc => ?_)
  · rw [if_pos hc] at h
    exact p_X12_howFew_11 x1 x2 I J h hC
  · rw [if_neg hc] at h
    exact p_X12_howFew_13 x1 x2 I J h hC
theorem p_X12_howFew_9 {L : Nat} {xs : Nat → Int32} {d : Nat} {Q : xO → Prop} (x1 : Int32) (x2 : Int32) (s0 : Int32) (s1 : Int32) (I : xI) (J : xJ) {t : (Int32 × Int32 × xI × xJ) ⊕ (Int32 × xI × xJ)} (h : f_X12_howFew_9 x1 x2 s0 s1 I J = some t) (hC : (c_X12_howFew_1 L xs d Q) t) : Rn L xs (d + 2) 284 44 [some (.ref 61), some (.int x1), some (.int x2)] [.int s1, .int s0] 94 (I, J, xrf) Q := by
  unfold f_X12_howFew_9 at h
  refine Rn.go 4 (j' := 284) (pc' := 4) (ls' := [some (.ref 61), some (.int ((s0 + s1))), some (.int ((x2 + 1)))]) (st' := []) (n' := 94) (M' := (I, J, xrf)) (fun f => rfl) ?_
  cases h; exact hC
theorem p_X12_howFew_8 {L : Nat} {xs : Nat → Int32} {d : Nat} {Q : xO → Prop} (x1 : Int32) (x2 : Int32) (s0 : Int32) (I : xI) (J : xJ) {t : (Int32 × Int32 × xI × xJ) ⊕ (Int32 × xI × xJ)} (h : f_X12_howFew_8 x1 x2 s0 I J = some t) (hC : (c_X12_howFew_1 L xs d Q) t) : Rn L xs (d + 2) 284 43 [some (.ref 61), some (.int x1), some (.int x2)] [.int s0] 94 (I, J, xrf) Q := by
  unfold f_X12_howFew_8 at h
  refine Rn.go 1 (j' := 284) (pc' := 44) (ls' := [some (.ref 61), some (.int x1), some (.int x2)]) (st' := [.int 2, .int s0]) (n' := 94) (M' := (I, J, xrf)) (fun f => rfl) ?_
  exact p_X12_howFew_9 x1 x2 s0 2 I J h hC
theorem p_X12_howFew_7 {L : Nat} {xs : Nat → Int32} {d : Nat} {Q : xO → Prop} (x1 : Int32) (x2 : Int32) (s0 : Int32) (I : xI) (J : xJ) {t : (Int32 × Int32 × xI × xJ) ⊕ (Int32 × xI × xJ)} (h : f_X12_howFew_7 x1 x2 s0 I J = some t) (hC : (c_X12_howFew_1 L xs d Q) t) : Rn L xs (d + 2) 284 39 [some (.ref 61), some (.int x1), some (.int x2)] [.int s0] 94 (I, J, xrf) Q := by
  unfold f_X12_howFew_7 at h
  refine Rn.go 2 (j' := 284) (pc' := 44) (ls' := [some (.ref 61), some (.int x1), some (.int x2)]) (st' := [.int 0, .int s0]) (n' := 94) (M' := (I, J, xrf)) (fun f => rfl) ?_
  exact p_X12_howFew_9 x1 x2 s0 0 I J h hC
theorem p_X12_howFew_6 {L : Nat} {xs : Nat → Int32} {d : Nat} {Q : xO → Prop} (x1 : Int32) (x2 : Int32) (s0 : Int32) (s1 : Int32) (I : xI) (J : xJ) {t : (Int32 × Int32 × xI × xJ) ⊕ (Int32 × xI × xJ)} (h : f_X12_howFew_6 x1 x2 s0 s1 I J = some t) (hC : (c_X12_howFew_1 L xs d Q) t) : Rn L xs (d + 2) 284 36 [some (.ref 61), some (.int x1), some (.int x2)] [.int s1, .int s0] 94 (I, J, xrf) Q := by
  unfold f_X12_howFew_6 at h
  refine Rn.fi 1 (c := s1 = 0) (p1 := 43) (l1 := [some (.ref 61), some (.int x1), some (.int x2)]) (s1 := [.int s0]) (n1 := 94) (M1 := (I, J, xrf)) (p2 := 39) (l2 := [some (.ref 61), some (.int x1), some (.int x2)]) (s2 := [.int s0]) (n2 := 94) (M2 := (I, J, xrf)) (fun f => rfl) (fun hc => ?_) (fun hc => ?_)
  · rw [if_pos hc] at h
    exact p_X12_howFew_8 x1 x2 s0 I J h hC
  · rw [if_neg hc] at h
    exact p_X12_howFew_7 x1 x2 s0 I J h hC
theorem p_X12_howFew_5 {L : Nat} {xs : Nat → Int32} {d : Nat} {Q : xO → Prop} (x1 : Int32) (x2 : Int32) (s0 : Int32) (I : xI) (J : xJ) {t : (Int32 × Int32 × xI × xJ) ⊕ (Int32 × xI × xJ)} (h : f_X12_howFew_5 x1 x2 s0 I J = some t) (hC : (c_X12_howFew_1 L xs d Q) t) : Rn L xs (d + 2) 284 28 [some (.ref 61), some (.int x1), some (.int x2)] [.int s0] 94 (I, J, xrf) Q := by
  unfold f_X12_howFew_5 at h
  refine Rn.go 3 (j' := 284) (pc' := 33) (ls' := [some (.ref 61), some (.int x1), some (.int x2)]) (st' := [.int x2, .int ((I 61 49)), .int s0]) (n' := 94) (M' := (I, J, xrf)) (fun f => rfl) ?_
  obtain ⟨o, ho, h⟩ := Option.bind_eq_some_iff.mp h
  refine Rn.call (d1 := d + 1) (j1 := 214) (ls1 := [some (.int ((I 61 49))), some (.int x2)]) (rest := [.int s0]) (fun f => rfl) ?_
  refine p_X12_has (d := d + 0) ((I 61 49)) x2 I J (t := o) ho ?_
  exact p_X12_howFew_6 x1 x2 s0 o.1 o.2.1 o.2.2 h hC
theorem p_X12_howFew_4 {L : Nat} {xs : Nat → Int32} {d : Nat} {Q : xO → Prop} (x1 : Int32) (x2 : Int32) (s0 : Int32) (I : xI) (J : xJ) {t : (Int32 × Int32 × xI × xJ) ⊕ (Int32 × xI × xJ)} (h : f_X12_howFew_4 x1 x2 s0 I J = some t) (hC : (c_X12_howFew_1 L xs d Q) t) : Rn L xs (d + 2) 284 24 [some (.ref 61), some (.int x1), some (.int x2)] [.int s0] 94 (I, J, xrf) Q := by
  unfold f_X12_howFew_4 at h
  refine Rn.go 2 (j' := 284) (pc' := 44) (ls' := [some (.ref 61), some (.int x1), some (.int x2)]) (st' := [.int 1, .int s0]) (n' := 94) (M' := (I, J, xrf)) (fun f => rfl) ?_
  exact p_X12_howFew_9 x1 x2 s0 1 I J h hC
theorem p_X12_howFew_3 {L : Nat} {xs : Nat → Int32} {d : Nat} {Q : xO → Prop} (x1 : Int32) (x2 : Int32) (s0 : Int32) (s1 : Int32) (I : xI) (J : xJ) {t : (Int32 × Int32 × xI × xJ) ⊕ (Int32 × xI × xJ)} (h : f_X12_howFew_3 x1 x2 s0 s1 I J = some t) (hC : (c_X12_howFew_1 L xs d Q) t) : Rn L xs (d + 2) 284 21 [some (.ref 61), some (.int x1), some (.int x2)] [.int s1, .int s0] 94 (I, J, xrf) Q := by
  unfold f_X12_howFew_3 at h
  refine Rn.fi 1 (c := s1 = 0) (p1 := 28) (l1 := [some (.ref 61), some (.int x1), some (.int x2)]) (s1 := [.int s0]) (n1 := 94) (M1 := (I, J, xrf)) (p2 := 24) (l2 := [some (.ref 61), some (.int x1), some (.int x2)]) (s2 := [.int s0]) (n2 := 94) (M2 := (I, J, xrf)) (fun f => rfl) (fun hc => ?_) (fun hc => ?_)
  · rw [if_pos hc] at h
    exact p_X12_howFew_5 x1 x2 s0 I J h hC
  · rw [if_neg hc] at h
    exact p_X12_howFew_4 x1 x2 s0 I J h hC
theorem p_X12_howFew_2 {L : Nat} {xs : Nat → Int32} {d : Nat} {Q : xO → Prop} (x1 : Int32) (x2 : Int32) (I : xI) (J : xJ) {t : (Int32 × Int32 × xI × xJ) ⊕ (Int32 × xI × xJ)} (h : f_X12_howFew_2 x1 x2 I J = some t) (hC : (c_X12_howFew_1 L xs d Q) t) : Rn L xs (d + 2) 284 10 [some (.ref 61), some (.int x1), some (.int x2)] [] 94 (I, J, xrf) Q := by
  unfold f_X12_howFew_2 at h
  refine Rn.go 6 (j' := 284) (pc' := 18) (ls' := [some (.ref 61), some (.int x1), some (.int x2)]) (st' := [.int x2, .int ((I 61 48)), .int ((3 * x1))]) (n' := 94) (M' := (I, J, xrf)) (fun f => rfl) ?_
  obtain ⟨o, ho, h⟩ := Option.bind_eq_some_iff.mp h
  refine Rn.call (d1 := d + 1) (j1 := 214) (ls1 := [some (.int ((I 61 48))), some (.int x2)]) (rest := [.int ((3 * x1))]) (fun f => rfl) ?_
  refine p_X12_has (d := d + 0) ((I 61 48)) x2 I J (t := o) ho ?_
  exact p_X12_howFew_3 x1 x2 ((3 * x1)) o.1 o.2.1 o.2.2 h hC
theorem q_X12_howFew_1 {L : Nat} {xs : Nat → Int32} {d : Nat} {Q : xO → Prop} (x1 : Int32) (x2 : Int32) (I : xI) (J : xJ) {t : (Int32 × Int32 × xI × xJ) ⊕ (Int32 × xI × xJ)} (h : b_X12_howFew_1 x1 x2 I J = some t) (hC : (c_X12_howFew_1 L xs d Q) t) : Rn L xs (d + 2) 284 4 [some (.ref 61), some (.int x1), some (.int x2)] [] 94 (I, J, xrf) Q := by
  unfold b_X12_howFew_1 at h
  refine Rn.fi 3 (c := 8 ≤ x2) (p1 := 52) (l1 := [some (.ref 61), some (.int x1), some (.int x2)]) (s1 := []) (n1 := 94) (M1 := (I, J, xrf)) (p2 := 10) (l2 := [some (.ref 61), some (.int x1), some (.int x2)]) (s2 := []) (n2 := 94) (M2 := (I, J, xrf)) (fun f => rfl) (fun hc => ?_) (fun hc => ?_)
  · rw [if_pos hc] at h
    obtain ⟨t0, h0, rfl⟩ := Option.map_eq_some_iff.mp h
    exact p_X12_howFew_10 x1 x2 I J h0 hC
  · rw [if_neg hc] at h
    exact p_X12_howFew_2 x1 x2 I J h hC
theorem p_X12_howFew_1 {L : Nat} {xs : Nat → Int32} {d : Nat} {Q : xO → Prop} (x1 : Int32) (x2 : Int32) (I : xI) (J : xJ) {t : Int32 × xI × xJ} (h : f_X12_howFew_1 x1 x2 I J = some t) (hC : (c_X12_howFew Q) t) : Rn L xs (d + 2) 284 4 [some (.ref 61), some (.int x1), some (.int x2)] [] 94 (I, J, xrf) Q := by
  unfold f_X12_howFew_1 at h
  exact xloop_some (P := fun s : Int32 × Int32 × xI × xJ => Rn L xs (d + 2) 284 4 [some (.ref 61), some (.int s.1), some (.int s.2.1)] [] 94 (s.2.2.1, s.2.2.2, xrf) Q) t (fun s ⟨s', hb, hp⟩ => q_X12_howFew_1 s.1 s.2.1 s.2.2.1 s.2.2.2 hb hp) (fun s hb => q_X12_howFew_1 s.1 s.2.1 s.2.2.1 s.2.2.2 hb hC) _ _ h
theorem p_X12_howFew_0 {L : Nat} {xs : Nat → Int32} {d : Nat} {Q : xO → Prop} (I : xI) (J : xJ) {t : Int32 × xI × xJ} (h : f_X12_howFew_0 I J = some t) (hC : (c_X12_howFew Q) t) : Rn L xs (d + 2) 284 0 [some (.ref 61), none, none] [] 94 (I, J, xrf) Q := by
  unfold f_X12_howFew_0 at h
  refine Rn.go 4 (j' := 284) (pc' := 4) (ls' := [some (.ref 61), some (.int 0), some (.int 0)]) (st' := []) (n' := 94) (M' := (I, J, xrf)) (fun f => rfl) ?_
  exact p_X12_howFew_1 0 0 I J h hC
theorem p_X12_howFew {L : Nat} {xs : Nat → Int32} {d : Nat} {Q : xO → Prop} (I : xI) (J : xJ) {t : Int32 × xI × xJ} (h : f_X12_howFew I J = some t) (hC : Q ((some (.int t.1)), 94, (t.2.1, t.2.2, xrf))) : Rn L xs (d + 2) 284 0 [some (.ref 61), none, none] [] 94 (I, J, xrf) Q := p_X12_howFew_0 I J h hC
/-! X12_heldBy -/
def c_X12_heldBy (Q : xO → Prop) (t : Int32 × xI × xJ) : Prop := Q ((some (.int t.1)), 94, (t.2.1, t.2.2, xrf))
def c_X12_heldBy_1 (L : Nat) (xs : Nat → Int32) (d : Nat) (Q : xO → Prop) (t : (Int32 × Int32 × Int32 × Int32 × (Option Value) × (Option Value) × (Option Value) × xI × xJ) ⊕ (Int32 × xI × xJ)) : Prop := match t with
  | .inl s => Rn L xs (d + 1) 280 4 [some (.int s.1), some (.int s.2.1), some (.int s.2.2.1), some (.int s.2.2.2.1), s.2.2.2.2.1, s.2.2.2.2.2.1, s.2.2.2.2.2.2.1] [] 94 (s.2.2.2.2.2.2.2.1, s.2.2.2.2.2.2.2.2, xrf) Q
  | .inr t => (c_X12_heldBy Q) t
def c_X12_heldBy_3 (L : Nat) (xs : Nat → Int32) (d : Nat) (Q : xO → Prop) (t : (Int32 × Int32 × Int32 × Int32 × Int32 × Int32 × Int32 × xI × xJ) ⊕ ((Int32 × Int32 × Int32 × Int32 × (Option Value) × (Option Value) × (Option Value) × xI × xJ) ⊕ (Int32 × xI × xJ))) : Prop := match t with
  | .inl s => Rn L xs (d + 1) 280 20 [some (.int s.1), some (.int s.2.1), some (.int s.2.2.1), some (.int s.2.2.2.1), some (.int s.2.2.2.2.1), some (.int s.2.2.2.2.2.1), some (.int s.2.2.2.2.2.2.1)] [] 94 (s.2.2.2.2.2.2.2.1, s.2.2.2.2.2.2.2.2, xrf) Q
  | .inr t => (c_X12_heldBy_1 L xs d Q) t
def f_X12_heldBy_11 (x0 : Int32) (x1 : Int32) (x2 : Int32) (x3 : Int32) (z4 : Option Value) (z5 : Option Value) (z6 : Option Value) (I : xI) (J : xJ) : Option (Int32 × xI × xJ) := some (x2, I, J)
def f_X12_heldBy_10 (x0 : Int32) (x1 : Int32) (x2 : Int32) (x3 : Int32) (x4 : Int32) (x5 : Int32) (x6 : Int32) (I : xI) (J : xJ) : Option ((Int32 × Int32 × Int32 × Int32 × (Option Value) × (Option Value) × (Option Value) × xI × xJ) ⊕ (Int32 × xI × xJ)) := some (.inl (x0, x1, x2, ((x3 + 1)), (some (.int x4)), (some (.int x5)), (some (.int x6)), I, J))
def f_X12_heldBy_9 (x0 : Int32) (x1 : Int32) (x2 : Int32) (x3 : Int32) (x4 : Int32) (x5 : Int32) (x6 : Int32) (I : xI) (J : xJ) : Option ((Int32 × Int32 × Int32 × Int32 × (Option Value) × (Option Value) × (Option Value) × xI × xJ) ⊕ (Int32 × xI × xJ)) := f_X12_heldBy_10 x0 x1 ((x2 ||| (1 <<< (x3 &&& 31)))) x3 x4 x5 x6 I J
def f_X12_heldBy_8 (x0 : Int32) (x1 : Int32) (x2 : Int32) (x3 : Int32) (x4 : Int32) (x5 : Int32) (x6 : Int32) (I : xI) (J : xJ) : Option ((Int32 × Int32 × Int32 × Int32 × (Option Value) × (Option Value) × (Option Value) × xI × xJ) ⊕ (Int32 × xI × xJ)) := if x5 = 0 then f_X12_heldBy_10 x0 x1 x2 x3 x4 x5 x6 I J else f_X12_heldBy_9 x0 x1 x2 x3 x4 x5 x6 I J
def f_X12_heldBy_7 (x0 : Int32) (x1 : Int32) (x2 : Int32) (x3 : Int32) (x4 : Int32) (x5 : Int32) (x6 : Int32) (I : xI) (J : xJ) : Option ((Int32 × Int32 × Int32 × Int32 × Int32 × Int32 × Int32 × xI × xJ) ⊕ ((Int32 × Int32 × Int32 × Int32 × (Option Value) × (Option Value) × (Option Value) × xI × xJ) ⊕ (Int32 × xI × xJ))) := some (.inl (x0, x1, x2, x3, ((x4 / 3)), x5, ((x6 + 1)), I, J))
def f_X12_heldBy_6 (x0 : Int32) (x1 : Int32) (x2 : Int32) (x3 : Int32) (x4 : Int32) (x5 : Int32) (x6 : Int32) (I : xI) (J : xJ) : Option ((Int32 × Int32 × Int32 × Int32 × Int32 × Int32 × Int32 × xI × xJ) ⊕ ((Int32 × Int32 × Int32 × Int32 × (Option Value) × (Option Value) × (Option Value) × xI × xJ) ⊕ (Int32 × xI × xJ))) := f_X12_heldBy_7 x0 x1 x2 x3 x4 0 x6 I J
def f_X12_heldBy_5 (x0 : Int32) (x1 : Int32) (x2 : Int32) (x3 : Int32) (x4 : Int32) (x5 : Int32) (x6 : Int32) (I : xI) (J : xJ) : Option ((Int32 × Int32 × Int32 × Int32 × Int32 × Int32 × Int32 × xI × xJ) ⊕ ((Int32 × Int32 × Int32 × Int32 × (Option Value) × (Option Value) × (Option Value) × xI × xJ) ⊕ (Int32 × xI × xJ))) := if (x4 - x4 / 3 * 3) = ((x3 >>> (x6 &&& 31)) &&& 1) then f_X12_heldBy_7 x0 x1 x2 x3 x4 x5 x6 I J else f_X12_heldBy_6 x0 x1 x2 x3 x4 x5 x6 I J
def f_X12_heldBy_4 (x0 : Int32) (x1 : Int32) (x2 : Int32) (x3 : Int32) (x4 : Int32) (x5 : Int32) (x6 : Int32) (I : xI) (J : xJ) : Option ((Int32 × Int32 × Int32 × Int32 × Int32 × Int32 × Int32 × xI × xJ) ⊕ ((Int32 × Int32 × Int32 × Int32 × (Option Value) × (Option Value) × (Option Value) × xI × xJ) ⊕ (Int32 × xI × xJ))) := if 2 ≤ (x4 - x4 / 3 * 3) then f_X12_heldBy_7 x0 x1 x2 x3 x4 x5 x6 I J else f_X12_heldBy_5 x0 x1 x2 x3 x4 x5 x6 I J
def b_X12_heldBy_3 (x0 : Int32) (x1 : Int32) (x2 : Int32) (x3 : Int32) (x4 : Int32) (x5 : Int32) (x6 : Int32) (I : xI) (J : xJ) : Option ((Int32 × Int32 × Int32 × Int32 × Int32 × Int32 × Int32 × xI × xJ) ⊕ ((Int32 × Int32 × Int32 × Int32 × (Option Value) × (Option Value) × (Option Value) × xI × xJ) ⊕ (Int32 × xI × xJ))) := if x1 ≤ x6 then ((f_X12_heldBy_8 x0 x1 x2 x3 x4 x5 x6 I J)).map .inr else f_X12_heldBy_4 x0 x1 x2 x3 x4 x5 x6 I J
def f_X12_heldBy_3 (x0 : Int32) (x1 : Int32) (x2 : Int32) (x3 : Int32) (x4 : Int32) (x5 : Int32) (x6 : Int32) (I : xI) (J : xJ) : Option ((Int32 × Int32 × Int32 × Int32 × (Option Value) × (Option Value) × (Option Value) × xI × xJ) ⊕ (Int32 × xI × xJ)) := xloop (fun s : Int32 × Int32 × Int32 × Int32 × Int32 × Int32 × Int32 × xI × xJ => b_X12_heldBy_3 s.1 s.2.1 s.2.2.1 s.2.2.2.1 s.2.2.2.2.1 s.2.2.2.2.2.1 s.2.2.2.2.2.2.1 s.2.2.2.2.2.2.2.1 s.2.2.2.2.2.2.2.2) 5000 (x0, x1, x2, x3, x4, x5, x6, I, J)
def f_X12_heldBy_2 (x0 : Int32) (x1 : Int32) (x2 : Int32) (x3 : Int32) (z4 : Option Value) (z5 : Option Value) (z6 : Option Value) (I : xI) (J : xJ) : Option ((Int32 × Int32 × Int32 × Int32 × (Option Value) × (Option Value) × (Option Value) × xI × xJ) ⊕ (Int32 × xI × xJ)) := f_X12_heldBy_3 x0 x1 x2 x3 x0 1 0 I J
def b_X12_heldBy_1 (x0 : Int32) (x1 : Int32) (x2 : Int32) (x3 : Int32) (z4 : Option Value) (z5 : Option Value) (z6 : Option Value) (I : xI) (J : xJ) : Option ((Int32 × Int32 × Int32 × Int32 × (Option Value) × (Option Value) × (Option Value) × xI × xJ) ⊕ (Int32 × xI × xJ)) := if (1 <<< (x1 &&& 31)) ≤ x3 then ((f_X12_heldBy_11 x0 x1 x2 x3 z4 z5 z6 I J)).map .inr else f_X12_heldBy_2 x0 x1 x2 x3 z4 z5 z6 I J
def f_X12_heldBy_1 (x0 : Int32) (x1 : Int32) (x2 : Int32) (x3 : Int32) (z4 : Option Value) (z5 : Option Value) (z6 : Option Value) (I : xI) (J : xJ) : Option (Int32 × xI × xJ) := xloop (fun s : Int32 × Int32 × Int32 × Int32 × (Option Value) × (Option Value) × (Option Value) × xI × xJ => b_X12_heldBy_1 s.1 s.2.1 s.2.2.1 s.2.2.2.1 s.2.2.2.2.1 s.2.2.2.2.2.1 s.2.2.2.2.2.2.1 s.2.2.2.2.2.2.2.1 s.2.2.2.2.2.2.2.2) 5000 (x0, x1, x2, x3, z4, z5, z6, I, J)
def f_X12_heldBy_0 (x0 : Int32) (x1 : Int32) (I : xI) (J : xJ) : Option (Int32 × xI × xJ) := f_X12_heldBy_1 x0 x1 0 0 none none none I J
def f_X12_heldBy (x0 : Int32) (x1 : Int32) (I : xI) (J : xJ) : Option (Int32 × xI × xJ) := f_X12_heldBy_0 x0 x1 I J
theorem p_X12_heldBy_11 {L : Nat} {xs : Nat → Int32} {d : Nat} {Q : xO → Prop} (x0 : Int32) (x1 : Int32) (x2 : Int32) (x3 : Int32) (z4 : Option Value) (z5 : Option Value) (z6 : Option Value) (I : xI) (J : xJ) {t : Int32 × xI × xJ} (h : f_X12_heldBy_11 x0 x1 x2 x3 z4 z5 z6 I J = some t) (hC : (c_X12_heldBy Q) t) : Rn L xs (d + 1) 280 79 [some (.int x0), some (.int x1), some (.int x2), some (.int x3), z4, z5, z6] [] 94 (I, J, xrf) Q := by
  unfold f_X12_heldBy_11 at h
  cases h
  exact Rn.ret 2 (o := ((some (.int x2)), 94, (I, J, xrf))) (fun f => rfl) hC
theorem p_X12_heldBy_10 {L : Nat} {xs : Nat → Int32} {d : Nat} {Q : xO → Prop} (x0 : Int32) (x1 : Int32) (x2 : Int32) (x3 : Int32) (x4 : Int32) (x5 : Int32) (x6 : Int32) (I : xI) (J : xJ) {t : (Int32 × Int32 × Int32 × Int32 × (Option Value) × (Option Value) × (Option Value) × xI × xJ) ⊕ (Int32 × xI × xJ)} (h : f_X12_heldBy_10 x0 x1 x2 x3 x4 x5 x6 I J = some t) (hC : (c_X12_heldBy_1 L xs d Q) t) : Rn L xs (d + 1) 280 73 [some (.int x0), some (.int x1), some (.int x2), some (.int x3), some (.int x4), some (.int x5), some (.int x6)] [] 94 (I, J, xrf) Q := by
  unfold f_X12_heldBy_10 at h
  refine Rn.go 2 (j' := 280) (pc' := 4) (ls' := [some (.int x0), some (.int x1), some (.int x2), some (.int ((x3 + 1))), some (.int x4), some (.int x5), some (.int x6)]) (st' := []) (n' := 94) (M' := (I, J, xrf)) (fun f => rfl) ?_
  cases h; exact hC
theorem p_X12_heldBy_9 {L : Nat} {xs : Nat → Int32} {d : Nat} {Q : xO → Prop} (x0 : Int32) (x1 : Int32) (x2 : Int32) (x3 : Int32) (x4 : Int32) (x5 : Int32) (x6 : Int32) (I : xI) (J : xJ) {t : (Int32 × Int32 × Int32 × Int32 × (Option Value) × (Option Value) × (Option Value) × xI × xJ) ⊕ (Int32 × xI × xJ)} (h : f_X12_heldBy_9 x0 x1 x2 x3 x4 x5 x6 I J = some t) (hC : (c_X12_heldBy_1 L xs d Q) t) : Rn L xs (d + 1) 280 67 [some (.int x0), some (.int x1), some (.int x2), some (.int x3), some (.int x4), some (.int x5), some (.int x6)] [] 94 (I, J, xrf) Q := by
  unfold f_X12_heldBy_9 at h
  refine Rn.go 6 (j' := 280) (pc' := 73) (ls' := [some (.int x0), some (.int x1), some (.int ((x2 ||| (1 <<< (x3 &&& 31))))), some (.int x3), some (.int x4), some (.int x5), some (.int x6)]) (st' := []) (n' := 94) (M' := (I, J, xrf)) (fun f => rfl) ?_
  exact p_X12_heldBy_10 x0 x1 ((x2 ||| (1 <<< (x3 &&& 31)))) x3 x4 x5 x6 I J h hC
theorem p_X12_heldBy_8 {L : Nat} {xs : Nat → Int32} {d : Nat} {Q : xO → Prop} (x0 : Int32) (x1 : Int32) (x2 : Int32) (x3 : Int32) (x4 : Int32) (x5 : Int32) (x6 : Int32) (I : xI) (J : xJ) {t : (Int32 × Int32 × Int32 × Int32 × (Option Value) × (Option Value) × (Option Value) × xI × xJ) ⊕ (Int32 × xI × xJ)} (h : f_X12_heldBy_8 x0 x1 x2 x3 x4 x5 x6 I J = some t) (hC : (c_X12_heldBy_1 L xs d Q) t) : Rn L xs (d + 1) 280 62 [some (.int x0), some (.int x1), some (.int x2), some (.int x3), some (.int x4), some (.int x5), some (.int x6)] [] 94 (I, J, xrf) Q := by
  unfold f_X12_heldBy_8 at h
  refine Rn.fi 2 (c := x5 = 0) (p1 := 73) (l1 := [some (.int x0), some (.int x1), some (.int x2), some (.int x3), some (.int x4), some (.int x5), some (.int x6)]) (s1 := []) (n1 := 94) (M1 := (I, J, xrf)) (p2 := 67) (l2 := [some (.int x0), some (.int x1), some (.int x2), some (.int x3), some (.int x4), some (.int x5), some (.int x6)]) (s2 := []) (n2 := 94) (M2 := (I, J, xrf)) (fun f => rfl) (fun hc => ?_) (fun hc => ?_)
  · rw [if_pos hc] at h
    exact p_X12_heldBy_10 x0 x1 x2 x3 x4 x5 x6 I J h hC
  · rw [if_neg hc] at h
    exact p_X12_heldBy_9 x0 x1 x2 x3 x4 x5 x6 I J h hC
theorem p_X12_heldBy_7 {L : Nat} {xs : Nat → Int32} {d : Nat} {Q : xO → Prop} (x0 : Int32) (x1 : Int32) (x2 : Int32) (x3 : Int32) (x4 : Int32) (x5 : Int32) (x6 : Int32) (I : xI) (J : xJ) {t : (Int32 × Int32 × Int32 × Int32 × Int32 × Int32 × Int32 × xI × xJ) ⊕ ((Int32 × Int32 × Int32 × Int32 × (Option Value) × (Option Value) × (Option Value) × xI × xJ) ⊕ (Int32 × xI × xJ))} (h : f_X12_heldBy_7 x0 x1 x2 x3 x4 x5 x6 I J = some t) (hC : (c_X12_heldBy_3 L xs d Q) t) : Rn L xs (d + 1) 280 50 [some (.int x0), some (.int x1), some (.int x2), some (.int x3), some (.int x4), some (.int x5), some (.int x6)] [] 94 (I, J, xrf) Q := by
  unfold f_X12_heldBy_7 at h
  refine Rn.go 6 (j' := 280) (pc' := 20) (ls' := [some (.int x0), some (.int x1), some (.int x2), some (.int x3), some (.int ((x4 / 3))), some (.int x5), some (.int ((x6 + 1)))]) (st' := []) (n' := 94) (M' := (I, J, xrf)) (fun f => rfl) ?_
  cases h; exact hC
theorem p_X12_heldBy_6 {L : Nat} {xs : Nat → Int32} {d : Nat} {Q : xO → Prop} (x0 : Int32) (x1 : Int32) (x2 : Int32) (x3 : Int32) (x4 : Int32) (x5 : Int32) (x6 : Int32) (I : xI) (J : xJ) {t : (Int32 × Int32 × Int32 × Int32 × Int32 × Int32 × Int32 × xI × xJ) ⊕ ((Int32 × Int32 × Int32 × Int32 × (Option Value) × (Option Value) × (Option Value) × xI × xJ) ⊕ (Int32 × xI × xJ))} (h : f_X12_heldBy_6 x0 x1 x2 x3 x4 x5 x6 I J = some t) (hC : (c_X12_heldBy_3 L xs d Q) t) : Rn L xs (d + 1) 280 47 [some (.int x0), some (.int x1), some (.int x2), some (.int x3), some (.int x4), some (.int x5), some (.int x6)] [] 94 (I, J, xrf) Q := by
  unfold f_X12_heldBy_6 at h
  refine Rn.go 2 (j' := 280) (pc' := 50) (ls' := [some (.int x0), some (.int x1), some (.int x2), some (.int x3), some (.int x4), some (.int 0), some (.int x6)]) (st' := []) (n' := 94) (M' := (I, J, xrf)) (fun f => rfl) ?_
  exact p_X12_heldBy_7 x0 x1 x2 x3 x4 0 x6 I J h hC
theorem p_X12_heldBy_5 {L : Nat} {xs : Nat → Int32} {d : Nat} {Q : xO → Prop} (x0 : Int32) (x1 : Int32) (x2 : Int32) (x3 : Int32) (x4 : Int32) (x5 : Int32) (x6 : Int32) (I : xI) (J : xJ) {t : (Int32 × Int32 × Int32 × Int32 × Int32 × Int32 × Int32 × xI × xJ) ⊕ ((Int32 × Int32 × Int32 × Int32 × (Option Value) × (Option Value) × (Option Value) × xI × xJ) ⊕ (Int32 × xI × xJ))} (h : f_X12_heldBy_5 x0 x1 x2 x3 x4 x5 x6 I J = some t) (hC : (c_X12_heldBy_3 L xs d Q) t) : Rn L xs (d + 1) 280 34 [some (.int x0), some (.int x1), some (.int x2), some (.int x3), some (.int x4), some (.int x5), some (.int x6)] [] 94 (I, J, xrf) Q := by
  unfold f_X12_heldBy_5 at h
  refine Rn.fi 9 (c := (x4 - x4 / 3 * 3) = ((x3 >>> (x6 &&& 31)) &&& 1)) (p1 := 50) (l1 := [some (.int x0), some (.int x1), some (.int x2), some (.int x3), some (.int x4), some (.int x5), some (.int x6)]) (s1 := []) (n1 := 94) (M1 := (I, J, xrf)) (p2 := 47) (l2 := [some (.int x0), some (.int x1), some (.int x2), some (.int x3), some (.int x4), some (.int x5), some (.int x6)]) (s2 := []) (n2 := 94) (M2 := (I, J, xrf)) (fun f => rfl) (fun hc => ?_) (fun hc => ?_)
  · rw [if_pos hc] at h
    exact p_X12_heldBy_7 x0 x1 x2 x3 x4 x5 x6 I J h hC
  · rw [if_neg hc] at h
    exact p_X12_heldBy_6 x0 x1 x2 x3 x4 x5 x6 I J h hC
theorem p_X12_heldBy_4 {L : Nat} {xs : Nat → Int32} {d : Nat} {Q : xO → Prop} (x0 : Int32) (x1 : Int32) (x2 : Int32) (x3 : Int32) (x4 : Int32) (x5 : Int32) (x6 : Int32) (I : xI) (J : xJ) {t : (Int32 × Int32 × Int32 × Int32 × Int32 × Int32 × Int32 × xI × xJ) ⊕ ((Int32 × Int32 × Int32 × Int32 × (Option Value) × (Option Value) × (Option Value) × xI × xJ) ⊕ (Int32 × xI × xJ))} (h : f_X12_heldBy_4 x0 x1 x2 x3 x4 x5 x6 I J = some t) (hC : (c_X12_heldBy_3 L xs d Q) t) : Rn L xs (d + 1) 280 26 [some (.int x0), some (.int x1), some (.int x2), some (.int x3), some (.int x4), some (.int x5), some (.int x6)] [] 94 (I, J, xrf) Q := by
  unfold f_X12_heldBy_4 at h
  refine Rn.fi 5 (c := 2 ≤ (x4 - x4 / 3 * 3)) (p1 := 50) (l1 := [some (.int x0), some (.int x1), some (.int x2), some (.int x3), some (.int x4), some (.int x5), some (.int x6)]) (s1 := []) (n1 := 94) (M1 := (I, J, xrf)) (p2 := 34) (l2 := [some (.int x0), some (.int x1), some (.int x2), some (.int x3), some (.int x4), some (.int x5), some (.int x6)]) (s2 := []) (n2 := 94) (M2 := (I, J, xrf)) (fun f => rfl) (fun hc => ?_) (fun hc => ?_)
  · rw [if_pos hc] at h
    exact p_X12_heldBy_7 x0 x1 x2 x3 x4 x5 x6 I J h hC
  · rw [if_neg hc] at h
    exact p_X12_heldBy_5 x0 x1 x2 x3 x4 x5 x6 I J h hC
theorem q_X12_heldBy_3 {L : Nat} {xs : Nat → Int32} {d : Nat} {Q : xO → Prop} (x0 : Int32) (x1 : Int32) (x2 : Int32) (x3 : Int32) (x4 : Int32) (x5 : Int32) (x6 : Int32) (I : xI) (J : xJ) {t : (Int32 × Int32 × Int32 × Int32 × Int32 × Int32 × Int32 × xI × xJ) ⊕ ((Int32 × Int32 × Int32 × Int32 × (Option Value) × (Option Value) × (Option Value) × xI × xJ) ⊕ (Int32 × xI × xJ))} (h : b_X12_heldBy_3 x0 x1 x2 x3 x4 x5 x6 I J = some t) (hC : (c_X12_heldBy_3 L xs d Q) t) : Rn L xs (d + 1) 280 20 [some (.int x0), some (.int x1), some (.int x2), some (.int x3), some (.int x4), some (.int x5), some (.int x6)] [] 94 (I, J, xrf) Q := by
  unfold b_X12_heldBy_3 at h
  refine Rn.fi 3 (c := x1 ≤ x6) (p1 := 62) (l1 := [some (.int x0), some (.int x1), some (.int x2), some (.int x3), some (.int x4), some (.int x5), some (.int x6)]) (s1 := []) (n1 := 94) (M1 := (I, J, xrf)) (p2 := 26) (l2 := [some (.int x0), some (.int x1), some (.int x2), some (.int x3), some (.int x4), some (.int x5), some (.int x6)]) (s2 := []) (n2 := 94) (M2 := (I, J, xrf)) (fun f => rfl) (fun hc => ?_) (fun hc => ?_)
  · rw [if_pos hc] at h
    obtain ⟨t0, h0, rfl⟩ := Option.map_eq_some_iff.mp h
    exact p_X12_heldBy_8 x0 x1 x2 x3 x4 x5 x6 I J h0 hC
  · rw [if_neg hc] at h
    exact p_X12_heldBy_4 x0 x1 x2 x3 x4 x5 x6 I J h hC
theorem p_X12_heldBy_3 {L : Nat} {xs : Nat → Int32} {d : Nat} {Q : xO → Prop} (x0 : Int32) (x1 : Int32) (x2 : Int32) (x3 : Int32) (x4 : Int32) (x5 : Int32) (x6 : Int32) (I : xI) (J : xJ) {t : (Int32 × Int32 × Int32 × Int32 × (Option Value) × (Option Value) × (Option Value) × xI × xJ) ⊕ (Int32 × xI × xJ)} (h : f_X12_heldBy_3 x0 x1 x2 x3 x4 x5 x6 I J = some t) (hC : (c_X12_heldBy_1 L xs d Q) t) : Rn L xs (d + 1) 280 20 [some (.int x0), some (.int x1), some (.int x2), some (.int x3), some (.int x4), some (.int x5), some (.int x6)] [] 94 (I, J, xrf) Q := by
  unfold f_X12_heldBy_3 at h
  exact xloop_some (P := fun s : Int32 × Int32 × Int32 × Int32 × Int32 × Int32 × Int32 × xI × xJ => Rn L xs (d + 1) 280 20 [some (.int s.1), some (.int s.2.1), some (.int s.2.2.1), some (.int s.2.2.2.1), some (.int s.2.2.2.2.1), some (.int s.2.2.2.2.2.1), some (.int s.2.2.2.2.2.2.1)] [] 94 (s.2.2.2.2.2.2.2.1, s.2.2.2.2.2.2.2.2, xrf) Q) t (fun s ⟨s', hb, hp⟩ => q_X12_heldBy_3 s.1 s.2.1 s.2.2.1 s.2.2.2.1 s.2.2.2.2.1 s.2.2.2.2.2.1 s.2.2.2.2.2.2.1 s.2.2.2.2.2.2.2.1 s.2.2.2.2.2.2.2.2 hb hp) (fun s hb => q_X12_heldBy_3 s.1 s.2.1 s.2.2.1 s.2.2.2.1 s.2.2.2.2.1 s.2.2.2.2.2.1 s.2.2.2.2.2.2.1 s.2.2.2.2.2.2.2.1 s.2.2.2.2.2.2.2.2 hb hC) _ _ h
theorem p_X12_heldBy_2 {L : Nat} {xs : Nat → Int32} {d : Nat} {Q : xO → Prop} (x0 : Int32) (x1 : Int32) (x2 : Int32) (x3 : Int32) (z4 : Option Value) (z5 : Option Value) (z6 : Option Value) (I : xI) (J : xJ) {t : (Int32 × Int32 × Int32 × Int32 × (Option Value) × (Option Value) × (Option Value) × xI × xJ) ⊕ (Int32 × xI × xJ)} (h : f_X12_heldBy_2 x0 x1 x2 x3 z4 z5 z6 I J = some t) (hC : (c_X12_heldBy_1 L xs d Q) t) : Rn L xs (d + 1) 280 11 [some (.int x0), some (.int x1), some (.int x2), some (.int x3), z4, z5, z6] [] 94 (I, J, xrf) Q := by
  unfold f_X12_heldBy_2 at h
  refine Rn.go 6 (j' := 280) (pc' := 20) (ls' := [some (.int x0), some (.int x1), some (.int x2), some (.int x3), some (.int x0), some (.int 1), some (.int 0)]) (st' := []) (n' := 94) (M' := (I, J, xrf)) (fun f => rfl) ?_
  exact p_X12_heldBy_3 x0 x1 x2 x3 x0 1 0 I J h hC
theorem q_X12_heldBy_1 {L : Nat} {xs : Nat → Int32} {d : Nat} {Q : xO → Prop} (x0 : Int32) (x1 : Int32) (x2 : Int32) (x3 : Int32) (z4 : Option Value) (z5 : Option Value) (z6 : Option Value) (I : xI) (J : xJ) {t : (Int32 × Int32 × Int32 × Int32 × (Option Value) × (Option Value) × (Option Value) × xI × xJ) ⊕ (Int32 × xI × xJ)} (h : b_X12_heldBy_1 x0 x1 x2 x3 z4 z5 z6 I J = some t) (hC : (c_X12_heldBy_1 L xs d Q) t) : Rn L xs (d + 1) 280 4 [some (.int x0), some (.int x1), some (.int x2), some (.int x3), z4, z5, z6] [] 94 (I, J, xrf) Q := by
  unfold b_X12_heldBy_1 at h
  refine Rn.fi 5 (c := (1 <<< (x1 &&& 31)) ≤ x3) (p1 := 79) (l1 := [some (.int x0), some (.int x1), some (.int x2), some (.int x3), z4, z5, z6]) (s1 := []) (n1 := 94) (M1 := (I, J, xrf)) (p2 := 11) (l2 := [some (.int x0), some (.int x1), some (.int x2), some (.int x3), z4, z5, z6]) (s2 := []) (n2 := 94) (M2 := (I, J, xrf)) (fun f => rfl) (fun hc => ?_) (fun hc => ?_)
  · rw [if_pos hc] at h
    obtain ⟨t0, h0, rfl⟩ := Option.map_eq_some_iff.mp h
    exact p_X12_heldBy_11 x0 x1 x2 x3 z4 z5 z6 I J h0 hC
  · rw [if_neg hc] at h
    exact p_X12_heldBy_2 x0 x1 x2 x3 z4 z5 z6 I J h hC
theorem p_X12_heldBy_1 {L : Nat} {xs : Nat → Int32} {d : Nat} {Q : xO → Prop} (x0 : Int32) (x1 : Int32) (x2 : Int32) (x3 : Int32) (z4 : Option Value) (z5 : Option Value) (z6 : Option Value) (I : xI) (J : xJ) {t : Int32 × xI × xJ} (h : f_X12_heldBy_1 x0 x1 x2 x3 z4 z5 z6 I J = some t) (hC : (c_X12_heldBy Q) t) : Rn L xs (d + 1) 280 4 [some (.int x0), some (.int x1), some (.int x2), some (.int x3), z4, z5, z6] [] 94 (I, J, xrf) Q := by
  unfold f_X12_heldBy_1 at h
  exact xloop_some (P := fun s : Int32 × Int32 × Int32 × Int32 × (Option Value) × (Option Value) × (Option Value) × xI × xJ => Rn L xs (d + 1) 280 4 [some (.int s.1), some (.int s.2.1), some (.int s.2.2.1), some (.int s.2.2.2.1), s.2.2.2.2.1, s.2.2.2.2.2.1, s.2.2.2.2.2.2.1] [] 94 (s.2.2.2.2.2.2.2.1, s.2.2.2.2.2.2.2.2, xrf) Q) t (fun s ⟨s', hb, hp⟩ => q_X12_heldBy_1 s.1 s.2.1 s.2.2.1 s.2.2.2.1 s.2.2.2.2.1 s.2.2.2.2.2.1 s.2.2.2.2.2.2.1 s.2.2.2.2.2.2.2.1 s.2.2.2.2.2.2.2.2 hb hp) (fun s hb => q_X12_heldBy_1 s.1 s.2.1 s.2.2.1 s.2.2.2.1 s.2.2.2.2.1 s.2.2.2.2.2.1 s.2.2.2.2.2.2.1 s.2.2.2.2.2.2.2.1 s.2.2.2.2.2.2.2.2 hb hC) _ _ h
theorem p_X12_heldBy_0 {L : Nat} {xs : Nat → Int32} {d : Nat} {Q : xO → Prop} (x0 : Int32) (x1 : Int32) (I : xI) (J : xJ) {t : Int32 × xI × xJ} (h : f_X12_heldBy_0 x0 x1 I J = some t) (hC : (c_X12_heldBy Q) t) : Rn L xs (d + 1) 280 0 [some (.int x0), some (.int x1), none, none, none, none, none] [] 94 (I, J, xrf) Q := by
  unfold f_X12_heldBy_0 at h
  refine Rn.go 4 (j' := 280) (pc' := 4) (ls' := [some (.int x0), some (.int x1), some (.int 0), some (.int 0), none, none, none]) (st' := []) (n' := 94) (M' := (I, J, xrf)) (fun f => rfl) ?_
  exact p_X12_heldBy_1 x0 x1 0 0 none none none I J h hC
theorem p_X12_heldBy {L : Nat} {xs : Nat → Int32} {d : Nat} {Q : xO → Prop} (x0 : Int32) (x1 : Int32) (I : xI) (J : xJ) {t : Int32 × xI × xJ} (h : f_X12_heldBy x0 x1 I J = some t) (hC : Q ((some (.int t.1)), 94, (t.2.1, t.2.2, xrf))) : Rn L xs (d + 1) 280 0 [some (.int x0), some (.int x1), none, none, none, none, none] [] 94 (I, J, xrf) Q := p_X12_heldBy_0 x0 x1 I J h hC
/-! X12_laysCubes -/
def c_X12_laysCubes (Q : xO → Prop) (t : Unit × xI × xJ) : Prop := Q (none, 94, (t.2.1, t.2.2, xrf))
def c_X12_laysCubes_20 (L : Nat) (xs : Nat → Int32) (d : Nat) (Q : xO → Prop) (t : (Int32 × Int32 × Int32 × Int32 × (Option Value) × (Option Value) × xI × xJ) ⊕ (Unit × xI × xJ)) : Prop := match t with
  | .inl s => Rn L xs (d + 3) 286 118 [some (.ref 61), some (.int s.1), some (.int s.2.1), some (.int s.2.2.1), some (.int s.2.2.2.1), s.2.2.2.2.1, s.2.2.2.2.2.1] [] 94 (s.2.2.2.2.2.2.1, s.2.2.2.2.2.2.2, xrf) Q
  | .inr t => (c_X12_laysCubes Q) t
def c_X12_laysCubes_11 (L : Nat) (xs : Nat → Int32) (d : Nat) (Q : xO → Prop) (t : (Int32 × Int32 × Int32 × Int32 × xI × xJ) ⊕ (Unit × xI × xJ)) : Prop := match t with
  | .inl s => Rn L xs (d + 3) 286 54 [some (.ref 61), some (.int s.1), some (.int s.2.1), some (.int s.2.2.1), some (.int s.2.2.2.1), none, none] [] 94 (s.2.2.2.2.1, s.2.2.2.2.2, xrf) Q
  | .inr t => (c_X12_laysCubes Q) t
def c_X12_laysCubes_22 (L : Nat) (xs : Nat → Int32) (d : Nat) (Q : xO → Prop) (t : (Int32 × Int32 × Int32 × Int32 × Int32 × Int32 × xI × xJ) ⊕ ((Int32 × Int32 × Int32 × Int32 × (Option Value) × (Option Value) × xI × xJ) ⊕ (Unit × xI × xJ))) : Prop := match t with
  | .inl s => Rn L xs (d + 3) 286 132 [some (.ref 61), some (.int s.1), some (.int s.2.1), some (.int s.2.2.1), some (.int s.2.2.2.1), some (.int s.2.2.2.2.1), some (.int s.2.2.2.2.2.1)] [] 94 (s.2.2.2.2.2.2.1, s.2.2.2.2.2.2.2, xrf) Q
  | .inr t => (c_X12_laysCubes_20 L xs d Q) t
def f_X12_laysCubes_32 (x1 : Int32) (x2 : Int32) (x3 : Int32) (x4 : Int32) (z5 : Option Value) (z6 : Option Value) (I : xI) (J : xJ) : Option (Unit × xI × xJ) := some ((), I, J)
def f_X12_laysCubes_31 (x1 : Int32) (x2 : Int32) (x3 : Int32) (x4 : Int32) (x5 : Int32) (x6 : Int32) (s0 : Int32) (I : xI) (J : xJ) : Option ((Int32 × Int32 × Int32 × Int32 × (Option Value) × (Option Value) × xI × xJ) ⊕ (Unit × xI × xJ)) := some (.inl (x1, x2, x3, s0, (some (.int x5)), (some (.int x6)), I, J))
def f_X12_laysCubes_30 (x1 : Int32) (x2 : Int32) (x3 : Int32) (x4 : Int32) (x5 : Int32) (x6 : Int32) (I : xI) (J : xJ) : Option ((Int32 × Int32 × Int32 × Int32 × (Option Value) × (Option Value) × xI × xJ) ⊕ (Unit × xI × xJ)) := f_X12_laysCubes_31 x1 x2 x3 x4 x5 x6 0 I J
def f_X12_laysCubes_29 (x1 : Int32) (x2 : Int32) (x3 : Int32) (x4 : Int32) (x5 : Int32) (x6 : Int32) (I : xI) (J : xJ) : Option ((Int32 × Int32 × Int32 × Int32 × (Option Value) × (Option Value) × xI × xJ) ⊕ (Unit × xI × xJ)) := f_X12_laysCubes_31 x1 x2 x3 x4 x5 x6 1 I J
def f_X12_laysCubes_28 (x1 : Int32) (x2 : Int32) (x3 : Int32) (x4 : Int32) (x5 : Int32) (x6 : Int32) (s0 : Int32) (I : xI) (J : xJ) : Option ((Int32 × Int32 × Int32 × Int32 × (Option Value) × (Option Value) × xI × xJ) ⊕ (Unit × xI × xJ)) := if s0 = 0 then f_X12_laysCubes_30 x1 x2 x3 x4 x5 x6 I J else f_X12_laysCubes_29 x1 x2 x3 x4 x5 x6 I J
def f_X12_laysCubes_27 (x1 : Int32) (x2 : Int32) (x3 : Int32) (x4 : Int32) (x5 : Int32) (x6 : Int32) (I : xI) (J : xJ) : Option ((Int32 × Int32 × Int32 × Int32 × (Option Value) × (Option Value) × xI × xJ) ⊕ (Unit × xI × xJ)) := (f_X12_nextPick ((I 61 52)) ((I 61 54)) I J).bind fun o => f_X12_laysCubes_28 x1 x2 x3 x4 x5 x6 o.1 o.2.1 o.2.2
def f_X12_laysCubes_26 (x1 : Int32) (x2 : Int32) (x3 : Int32) (x4 : Int32) (x5 : Int32) (x6 : Int32) (I : xI) (J : xJ) : Option ((Int32 × Int32 × Int32 × Int32 × (Option Value) × (Option Value) × xI × xJ) ⊕ (Unit × xI × xJ)) := if x5 = 0 then f_X12_laysCubes_30 x1 x2 x3 x4 x5 x6 I J else f_X12_laysCubes_27 x1 x2 x3 x4 x5 x6 I J
def f_X12_laysCubes_25 (x1 : Int32) (x2 : Int32) (x3 : Int32) (x4 : Int32) (x5 : Int32) (x6 : Int32) (s0 : Int32) (s1 : Int32) (I : xI) (J : xJ) : Option ((Int32 × Int32 × Int32 × Int32 × Int32 × Int32 × xI × xJ) ⊕ ((Int32 × Int32 × Int32 × Int32 × (Option Value) × (Option Value) × xI × xJ) ⊕ (Unit × xI × xJ))) := some (.inl (x1, x2, x3, x4, ((s0 &&& (s1 ^^^ (-1)))), ((x6 + 1)), I, J))
def f_X12_laysCubes_24 (x1 : Int32) (x2 : Int32) (x3 : Int32) (x4 : Int32) (x5 : Int32) (x6 : Int32) (s0 : Int32) (s1 : Int32) (s2 : Int32) (I : xI) (J : xJ) : Option ((Int32 × Int32 × Int32 × Int32 × Int32 × Int32 × xI × xJ) ⊕ ((Int32 × Int32 × Int32 × Int32 × (Option Value) × (Option Value) × xI × xJ) ⊕ (Unit × xI × xJ))) := (f_X12_heldBy s1 s2 I J).bind fun o => f_X12_laysCubes_25 x1 x2 x3 x4 x5 x6 s0 o.1 o.2.1 o.2.2
def f_X12_laysCubes_23 (x1 : Int32) (x2 : Int32) (x3 : Int32) (x4 : Int32) (x5 : Int32) (x6 : Int32) (I : xI) (J : xJ) : Option ((Int32 × Int32 × Int32 × Int32 × Int32 × Int32 × xI × xJ) ⊕ ((Int32 × Int32 × Int32 × Int32 × (Option Value) × (Option Value) × xI × xJ) ⊕ (Unit × xI × xJ))) := if x6 < 0 ∨ 8 ≤ x6.toNatClampNeg then none else if (I 80 x6.toNatClampNeg) < 0 ∨ 27 ≤ ((I 80 x6.toNatClampNeg)).toNatClampNeg then none else if x6 < 0 ∨ 8 ≤ x6.toNatClampNeg then none else if x6 < 0 ∨ 8 ≤ x6.toNatClampNeg then none else (f_X12_bits ((xup I 90 x6.toNatClampNeg ((I 91 ((I 80 x6.toNatClampNeg)).toNatClampNeg)))) J).bind fun o => f_X12_laysCubes_24 x1 x2 x3 x4 x5 x6 x5 ((((xup I 90 x6.toNatClampNeg ((I 91 ((I 80 x6.toNatClampNeg)).toNatClampNeg)))) 90 x6.toNatClampNeg)) o.1 o.2.1 o.2.2
def b_X12_laysCubes_22 (x1 : Int32) (x2 : Int32) (x3 : Int32) (x4 : Int32) (x5 : Int32) (x6 : Int32) (I : xI) (J : xJ) : Option ((Int32 × Int32 × Int32 × Int32 × Int32 × Int32 × xI × xJ) ⊕ ((Int32 × Int32 × Int32 × Int32 × (Option Value) × (Option Value) × xI × xJ) ⊕ (Unit × xI × xJ))) := if (I 61 52) ≤ x6 then ((f_X12_laysCubes_26 x1 x2 x3 x4 x5 x6 I J)).map .inr else f_X12_laysCubes_23 x1 x2 x3 x4 x5 x6 I J
def f_X12_laysCubes_22 (x1 : Int32) (x2 : Int32) (x3 : Int32) (x4 : Int32) (x5 : Int32) (x6 : Int32) (I : xI) (J : xJ) : Option ((Int32 × Int32 × Int32 × Int32 × (Option Value) × (Option Value) × xI × xJ) ⊕ (Unit × xI × xJ)) := xloop (fun s : Int32 × Int32 × Int32 × Int32 × Int32 × Int32 × xI × xJ => b_X12_laysCubes_22 s.1 s.2.1 s.2.2.1 s.2.2.2.1 s.2.2.2.2.1 s.2.2.2.2.2.1 s.2.2.2.2.2.2.1 s.2.2.2.2.2.2.2) 5000 (x1, x2, x3, x4, x5, x6, I, J)
def f_X12_laysCubes_21 (x1 : Int32) (x2 : Int32) (x3 : Int32) (x4 : Int32) (z5 : Option Value) (z6 : Option Value) (I : xI) (J : xJ) : Option ((Int32 × Int32 × Int32 × Int32 × (Option Value) × (Option Value) × xI × xJ) ⊕ (Unit × xI × xJ)) := f_X12_laysCubes_22 x1 x2 x3 x4 ((I 61 48)) 0 I J
def b_X12_laysCubes_20 (x1 : Int32) (x2 : Int32) (x3 : Int32) (x4 : Int32) (z5 : Option Value) (z6 : Option Value) (I : xI) (J : xJ) : Option ((Int32 × Int32 × Int32 × Int32 × (Option Value) × (Option Value) × xI × xJ) ⊕ (Unit × xI × xJ)) := if x4 = 0 then ((f_X12_laysCubes_32 x1 x2 x3 x4 z5 z6 I J)).map .inr else f_X12_laysCubes_21 x1 x2 x3 x4 z5 z6 I J
def f_X12_laysCubes_20 (x1 : Int32) (x2 : Int32) (x3 : Int32) (x4 : Int32) (z5 : Option Value) (z6 : Option Value) (I : xI) (J : xJ) : Option (Unit × xI × xJ) := xloop (fun s : Int32 × Int32 × Int32 × Int32 × (Option Value) × (Option Value) × xI × xJ => b_X12_laysCubes_20 s.1 s.2.1 s.2.2.1 s.2.2.2.1 s.2.2.2.2.1 s.2.2.2.2.2.1 s.2.2.2.2.2.2.1 s.2.2.2.2.2.2.2) 10000000000000 (x1, x2, x3, x4, z5, z6, I, J)
def f_X12_laysCubes_19 (x1 : Int32) (x2 : Int32) (x3 : Int32) (x4 : Int32) (I : xI) (J : xJ) : Option (Unit × xI × xJ) := f_X12_laysCubes_20 x1 x2 x3 1 none none I J
def f_X12_laysCubes_18 (x1 : Int32) (x2 : Int32) (x3 : Int32) (x4 : Int32) (I : xI) (J : xJ) : Option (Unit × xI × xJ) := (f_X12_firstPick ((I 61 52)) I J).bind fun o => f_X12_laysCubes_19 x1 x2 x3 x4 o.2.1 o.2.2
def f_X12_laysCubes_17 (x1 : Int32) (x2 : Int32) (x3 : Int32) (x4 : Int32) (I : xI) (J : xJ) : Option ((Int32 × Int32 × Int32 × Int32 × xI × xJ) ⊕ (Unit × xI × xJ)) := some (.inl (x1, x2, x3, ((x4 + 1)), I, J))
def f_X12_laysCubes_16 (x1 : Int32) (x2 : Int32) (x3 : Int32) (x4 : Int32) (I : xI) (J : xJ) : Option ((Int32 × Int32 × Int32 × Int32 × xI × xJ) ⊕ (Unit × xI × xJ)) := if (I 61 54) < 0 ∨ 27 ≤ ((I 61 54)).toNatClampNeg then none else f_X12_laysCubes_17 x1 x2 x3 x4 ((xup ((xup I 91 ((I 61 54)).toNatClampNeg x4)) 61 54 (((((xup I 91 ((I 61 54)).toNatClampNeg x4)) 61 54) + 1)))) J
def f_X12_laysCubes_15 (x1 : Int32) (x2 : Int32) (x3 : Int32) (x4 : Int32) (I : xI) (J : xJ) : Option ((Int32 × Int32 × Int32 × Int32 × xI × xJ) ⊕ (Unit × xI × xJ)) := f_X12_laysCubes_17 x1 x2 x3 x4 I J
def f_X12_laysCubes_14 (x1 : Int32) (x2 : Int32) (x3 : Int32) (x4 : Int32) (s0 : Int32) (I : xI) (J : xJ) : Option ((Int32 × Int32 × Int32 × Int32 × xI × xJ) ⊕ (Unit × xI × xJ)) := if (s0 &&& (I 61 49)) = 0 then f_X12_laysCubes_16 x1 x2 x3 x4 I J else f_X12_laysCubes_15 x1 x2 x3 x4 I J
def f_X12_laysCubes_13 (x1 : Int32) (x2 : Int32) (x3 : Int32) (x4 : Int32) (s0 : Int32) (s1 : Int32) (I : xI) (J : xJ) : Option ((Int32 × Int32 × Int32 × Int32 × xI × xJ) ⊕ (Unit × xI × xJ)) := (f_X12_heldBy s0 s1 I J).bind fun o => f_X12_laysCubes_14 x1 x2 x3 x4 o.1 o.2.1 o.2.2
def f_X12_laysCubes_12 (x1 : Int32) (x2 : Int32) (x3 : Int32) (x4 : Int32) (I : xI) (J : xJ) : Option ((Int32 × Int32 × Int32 × Int32 × xI × xJ) ⊕ (Unit × xI × xJ)) := (f_X12_bits I J).bind fun o => f_X12_laysCubes_13 x1 x2 x3 x4 x4 o.1 o.2.1 o.2.2
def b_X12_laysCubes_11 (x1 : Int32) (x2 : Int32) (x3 : Int32) (x4 : Int32) (I : xI) (J : xJ) : Option ((Int32 × Int32 × Int32 × Int32 × xI × xJ) ⊕ (Unit × xI × xJ)) := if x3 ≤ x4 then ((f_X12_laysCubes_18 x1 x2 x3 x4 I J)).map .inr else f_X12_laysCubes_12 x1 x2 x3 x4 I J
def f_X12_laysCubes_11 (x1 : Int32) (x2 : Int32) (x3 : Int32) (x4 : Int32) (I : xI) (J : xJ) : Option (Unit × xI × xJ) := xloop (fun s : Int32 × Int32 × Int32 × Int32 × xI × xJ => b_X12_laysCubes_11 s.1 s.2.1 s.2.2.1 s.2.2.2.1 s.2.2.2.2.1 s.2.2.2.2.2) 5000 (x1, x2, x3, x4, I, J)
def f_X12_laysCubes_10 (x1 : Int32) (x2 : Int32) (s0 : Int32) (I : xI) (J : xJ) : Option (Unit × xI × xJ) := f_X12_laysCubes_11 x1 x2 s0 0 ((xup I 61 54 0)) J
def f_X12_laysCubes_9 (x1 : Int32) (x2 : Int32) (I : xI) (J : xJ) : Option (Unit × xI × xJ) := f_X12_laysCubes_10 x1 x2 27 I J
def f_X12_laysCubes_8 (x1 : Int32) (x2 : Int32) (I : xI) (J : xJ) : Option (Unit × xI × xJ) := f_X12_laysCubes_10 x1 x2 9 I J
def f_X12_laysCubes_7 (x1 : Int32) (x2 : Int32) (s0 : Int32) (I : xI) (J : xJ) : Option (Unit × xI × xJ) := if s0 = 2 then f_X12_laysCubes_8 x1 x2 I J else f_X12_laysCubes_9 x1 x2 I J
def f_X12_laysCubes_6 (x1 : Int32) (x2 : Int32) (I : xI) (J : xJ) : Option (Unit × xI × xJ) := (f_X12_bits I J).bind fun o => f_X12_laysCubes_7 x1 x2 o.1 o.2.1 o.2.2
def f_X12_laysCubes_5 (x1 : Int32) (x2 : Int32) (I : xI) (J : xJ) : Option (Unit × xI × xJ) := f_X12_laysCubes_10 x1 x2 3 I J
def f_X12_laysCubes_4 (x1 : Int32) (x2 : Int32) (s0 : Int32) (I : xI) (J : xJ) : Option (Unit × xI × xJ) := if s0 = 1 then f_X12_laysCubes_5 x1 x2 I J else f_X12_laysCubes_6 x1 x2 I J
def f_X12_laysCubes_3 (x1 : Int32) (x2 : Int32) (s1 : Int32) (I : xI) (J : xJ) : Option (Unit × xI × xJ) := (f_X12_bits ((xup I 61 52 s1)) J).bind fun o => f_X12_laysCubes_4 x1 x2 o.1 o.2.1 o.2.2
def f_X12_laysCubes_2 (x1 : Int32) (x2 : Int32) (I : xI) (J : xJ) : Option (Unit × xI × xJ) := (f_X12_howFew I J).bind fun o => f_X12_laysCubes_3 x1 x2 o.1 o.2.1 o.2.2
def f_X12_laysCubes_1 (x1 : Int32) (x2 : Int32) (I : xI) (J : xJ) : Option (Unit × xI × xJ) := (f_X12_laysCodes x1 x2 I J).bind fun o => f_X12_laysCubes_2 x1 x2 o.2.1 o.2.2
def f_X12_laysCubes_0 (x1 : Int32) (x2 : Int32) (I : xI) (J : xJ) : Option (Unit × xI × xJ) := (f_X12_asTheyAre I J).bind fun o => f_X12_laysCubes_1 x1 x2 o.2.1 o.2.2
def f_X12_laysCubes (x1 : Int32) (x2 : Int32) (I : xI) (J : xJ) : Option (Unit × xI × xJ) := f_X12_laysCubes_0 x1 x2 I J
theorem p_X12_laysCubes_32 {L : Nat} {xs : Nat → Int32} {d : Nat} {Q : xO → Prop} (x1 : Int32) (x2 : Int32) (x3 : Int32) (x4 : Int32) (z5 : Option Value) (z6 : Option Value) (I : xI) (J : xJ) {t : Unit × xI × xJ} (h : f_X12_laysCubes_32 x1 x2 x3 x4 z5 z6 I J = some t) (hC : (c_X12_laysCubes Q) t) : Rn L xs (d + 3) 286 217 [some (.ref 61), some (.int x1), some (.int x2), some (.int x3), some (.int x4), z5, z6] [] 94 (I, J, xrf) Q := by
  unfold f_X12_laysCubes_32 at h
  cases h
  exact Rn.ret 1 (o := (none, 94, (I, J, xrf))) (fun f => rfl) hC
theorem p_X12_laysCubes_31 {L : Nat} {xs : Nat → Int32} {d : Nat} {Q : xO → Prop} (x1 : Int32) (x2 : Int32) (x3 : Int32) (x4 : Int32) (x5 : Int32) (x6 : Int32) (s0 : Int32) (I : xI) (J : xJ) {t : (Int32 × Int32 × Int32 × Int32 × (Option Value) × (Option Value) × xI × xJ) ⊕ (Unit × xI × xJ)} (h : f_X12_laysCubes_31 x1 x2 x3 x4 x5 x6 s0 I J = some t) (hC : (c_X12_laysCubes_20 L xs d Q) t) : Rn L xs (d + 3) 286 212 [some (.ref 61), some (.int x1), some (.int x2), some (.int x3), some (.int x4), some (.int x5), some (.int x6)] [.int s0] 94 (I, J, xrf) Q := by
  unfold f_X12_laysCubes_31 at h
  refine Rn.go 2 (j' := 286) (pc' := 118) (ls' := [some (.ref 61), some (.int x1), some (.int x2), some (.int x3), some (.int s0), some (.int x5), some (.int x6)]) (st' := []) (n' := 94) (M' := (I, J, xrf)) (fun f => rfl) ?_
  cases h; exact hC
theorem p_X12_laysCubes_30 {L : Nat} {xs : Nat → Int32} {d : Nat} {Q : xO → Prop} (x1 : Int32) (x2 : Int32) (x3 : Int32) (x4 : Int32) (x5 : Int32) (x6 : Int32) (I : xI) (J : xJ) {t : (Int32 × Int32 × Int32 × Int32 × (Option Value) × (Option Value) × xI × xJ) ⊕ (Unit × xI × xJ)} (h : f_X12_laysCubes_30 x1 x2 x3 x4 x5 x6 I J = some t) (hC : (c_X12_laysCubes_20 L xs d Q) t) : Rn L xs (d + 3) 286 211 [some (.ref 61), some (.int x1), some (.int x2), some (.int x3), some (.int x4), some (.int x5), some (.int x6)] [] 94 (I, J, xrf) Q := by
  unfold f_X12_laysCubes_30 at h
  refine Rn.go 1 (j' := 286) (pc' := 212) (ls' := [some (.ref 61), some (.int x1), some (.int x2), some (.int x3), some (.int x4), some (.int x5), some (.int x6)]) (st' := [.int 0]) (n' := 94) (M' := (I, J, xrf)) (fun f => rfl) ?_
  exact p_X12_laysCubes_31 x1 x2 x3 x4 x5 x6 0 I J h hC
theorem p_X12_laysCubes_29 {L : Nat} {xs : Nat → Int32} {d : Nat} {Q : xO → Prop} (x1 : Int32) (x2 : Int32) (x3 : Int32) (x4 : Int32) (x5 : Int32) (x6 : Int32) (I : xI) (J : xJ) {t : (Int32 × Int32 × Int32 × Int32 × (Option Value) × (Option Value) × xI × xJ) ⊕ (Unit × xI × xJ)} (h : f_X12_laysCubes_29 x1 x2 x3 x4 x5 x6 I J = some t) (hC : (c_X12_laysCubes_20 L xs d Q) t) : Rn L xs (d + 3) 286 207 [some (.ref 61), some (.int x1), some (.int x2), some (.int x3), some (.int x4), some (.int x5), some (.int x6)] [] 94 (I, J, xrf) Q := by
  unfold f_X12_laysCubes_29 at h
  refine Rn.go 2 (j' := 286) (pc' := 212) (ls' := [some (.ref 61), some (.int x1), some (.int x2), some (.int x3), some (.int x4), some (.int x5), some (.int x6)]) (st' := [.int 1]) (n' := 94) (M' := (I, J, xrf)) (fun f => rfl) ?_
  exact p_X12_laysCubes_31 x1 x2 x3 x4 x5 x6 1 I J h hC
theorem p_X12_laysCubes_28 {L : Nat} {xs : Nat → Int32} {d : Nat} {Q : xO → Prop} (x1 : Int32) (x2 : Int32) (x3 : Int32) (x4 : Int32) (x5 : Int32) (x6 : Int32) (s0 : Int32) (I : xI) (J : xJ) {t : (Int32 × Int32 × Int32 × Int32 × (Option Value) × (Option Value) × xI × xJ) ⊕ (Unit × xI × xJ)} (h : f_X12_laysCubes_28 x1 x2 x3 x4 x5 x6 s0 I J = some t) (hC : (c_X12_laysCubes_20 L xs d Q) t) : Rn L xs (d + 3) 286 204 [some (.ref 61), some (.int x1), some (.int x2), some (.int x3), some (.int x4), some (.int x5), some (.int x6)] [.int s0] 94 (I, J, xrf) Q := by
  unfold f_X12_laysCubes_28 at h
  refine Rn.fi 1 (c := s0 = 0) (p1 := 211) (l1 := [some (.ref 61), some (.int x1), some (.int x2), some (.int x3), some (.int x4), some (.int x5), some (.int x6)]) (s1 := []) (n1 := 94) (M1 := (I, J, xrf)) (p2 := 207) (l2 := [some (.ref 61), some (.int x1), some (.int x2), some (.int x3), some (.int x4), some (.int x5), some (.int x6)]) (s2 := []) (n2 := 94) (M2 := (I, J, xrf)) (fun f => rfl) (fun hc => ?_) (fun hc => ?_)
  · rw [if_pos hc] at h
    exact p_X12_laysCubes_30 x1 x2 x3 x4 x5 x6 I J h hC
  · rw [if_neg hc] at h
    exact p_X12_laysCubes_29 x1 x2 x3 x4 x5 x6 I J h hC
theorem p_X12_laysCubes_27 {L : Nat} {xs : Nat → Int32} {d : Nat} {Q : xO → Prop} (x1 : Int32) (x2 : Int32) (x3 : Int32) (x4 : Int32) (x5 : Int32) (x6 : Int32) (I : xI) (J : xJ) {t : (Int32 × Int32 × Int32 × Int32 × (Option Value) × (Option Value) × xI × xJ) ⊕ (Unit × xI × xJ)} (h : f_X12_laysCubes_27 x1 x2 x3 x4 x5 x6 I J = some t) (hC : (c_X12_laysCubes_20 L xs d Q) t) : Rn L xs (d + 3) 286 192 [some (.ref 61), some (.int x1), some (.int x2), some (.int x3), some (.int x4), some (.int x5), some (.int x6)] [] 94 (I, J, xrf) Q := by
  unfold f_X12_laysCubes_27 at h
  refine Rn.go 5 (j' := 286) (pc' := 201) (ls' := [some (.ref 61), some (.int x1), some (.int x2), some (.int x3), some (.int x4), some (.int x5), some (.int x6)]) (st' := [.int ((I 61 54)), .int ((I 61 52)), .ref 61]) (n' := 94) (M' := (I, J, xrf)) (fun f => rfl) ?_
  obtain ⟨o, ho, h⟩ := Option.bind_eq_some_iff.mp h
  refine Rn.call (d1 := d + 2) (j1 := 245) (ls1 := [some (.ref 61), some (.int ((I 61 52))), some (.int ((I 61 54))), none, none]) (rest := []) (fun f => rfl) ?_
  refine p_X12_nextPick (d := d + 1) ((I 61 52)) ((I 61 54)) I J (t := o) ho ?_
  exact p_X12_laysCubes_28 x1 x2 x3 x4 x5 x6 o.1 o.2.1 o.2.2 h hC
theorem p_X12_laysCubes_26 {L : Nat} {xs : Nat → Int32} {d : Nat} {Q : xO → Prop} (x1 : Int32) (x2 : Int32) (x3 : Int32) (x4 : Int32) (x5 : Int32) (x6 : Int32) (I : xI) (J : xJ) {t : (Int32 × Int32 × Int32 × Int32 × (Option Value) × (Option Value) × xI × xJ) ⊕ (Unit × xI × xJ)} (h : f_X12_laysCubes_26 x1 x2 x3 x4 x5 x6 I J = some t) (hC : (c_X12_laysCubes_20 L xs d Q) t) : Rn L xs (d + 3) 286 187 [some (.ref 61), some (.int x1), some (.int x2), some (.int x3), some (.int x4), some (.int x5), some (.int x6)] [] 94 (I, J, xrf) Q := by
  unfold f_X12_laysCubes_26 at h
  refine Rn.fi 2 (c := x5 = 0) (p1 := 211) (l1 := [some (.ref 61), some (.int x1), some (.int x2), some (.int x3), some (.int x4), some (.int x5), some (.int x6)]) (s1 := []) (n1 := 94) (M1 := (I, J, xrf)) (p2 := 192) (l2 := [some (.ref 61), some (.int x1), some (.int x2), some (.int x3), some (.int x4), some (.int x5), some (.int x6)]) (s2 := []) (n2 := 94) (M2 := (I, J, xrf)) (fun f => rfl) (fun hc => ?_) (fun hc => ?_)
  · rw [if_pos hc] at h
    exact p_X12_laysCubes_30 x1 x2 x3 x4 x5 x6 I J h hC
  · rw [if_neg hc] at h
    exact p_X12_laysCubes_27 x1 x2 x3 x4 x5 x6 I J h hC
theorem p_X12_laysCubes_25 {L : Nat} {xs : Nat → Int32} {d : Nat} {Q : xO → Prop} (x1 : Int32) (x2 : Int32) (x3 : Int32) (x4 : Int32) (x5 : Int32) (x6 : Int32) (s0 : Int32) (s1 : Int32) (I : xI) (J : xJ) {t : (Int32 × Int32 × Int32 × Int32 × Int32 × Int32 × xI × xJ) ⊕ ((Int32 × Int32 × Int32 × Int32 × (Option Value) × (Option Value) × xI × xJ) ⊕ (Unit × xI × xJ))} (h : f_X12_laysCubes_25 x1 x2 x3 x4 x5 x6 s0 s1 I J = some t) (hC : (c_X12_laysCubes_22 L xs d Q) t) : Rn L xs (d + 3) 286 176 [some (.ref 61), some (.int x1), some (.int x2), some (.int x3), some (.int x4), some (.int x5), some (.int x6)] [.int s1, .int s0] 94 (I, J, xrf) Q := by
  unfold f_X12_laysCubes_25 at h
  refine Rn.go 6 (j' := 286) (pc' := 132) (ls' := [some (.ref 61), some (.int x1), some (.int x2), some (.int x3), some (.int x4), some (.int ((s0 &&& (s1 ^^^ (-1))))), some (.int ((x6 + 1)))]) (st' := []) (n' := 94) (M' := (I, J, xrf)) (fun f => rfl) ?_
  cases h; exact hC
theorem p_X12_laysCubes_24 {L : Nat} {xs : Nat → Int32} {d : Nat} {Q : xO → Prop} (x1 : Int32) (x2 : Int32) (x3 : Int32) (x4 : Int32) (x5 : Int32) (x6 : Int32) (s0 : Int32) (s1 : Int32) (s2 : Int32) (I : xI) (J : xJ) {t : (Int32 × Int32 × Int32 × Int32 × Int32 × Int32 × xI × xJ) ⊕ ((Int32 × Int32 × Int32 × Int32 × (Option Value) × (Option Value) × xI × xJ) ⊕ (Unit × xI × xJ))} (h : f_X12_laysCubes_24 x1 x2 x3 x4 x5 x6 s0 s1 s2 I J = some t) (hC : (c_X12_laysCubes_22 L xs d Q) t) : Rn L xs (d + 3) 286 173 [some (.ref 61), some (.int x1), some (.int x2), some (.int x3), some (.int x4), some (.int x5), some (.int x6)] [.int s2, .int s1, .int s0] 94 (I, J, xrf) Q := by
  unfold f_X12_laysCubes_24 at h
  obtain ⟨o, ho, h⟩ := Option.bind_eq_some_iff.mp h
  refine Rn.call (d1 := d + 2) (j1 := 280) (ls1 := [some (.int s1), some (.int s2), none, none, none, none, none]) (rest := [.int s0]) (fun f => rfl) ?_
  refine p_X12_heldBy (d := d + 1) s1 s2 I J (t := o) ho ?_
  exact p_X12_laysCubes_25 x1 x2 x3 x4 x5 x6 s0 o.1 o.2.1 o.2.2 h hC
theorem p_X12_laysCubes_23 {L : Nat} {xs : Nat → Int32} {d : Nat} {Q : xO → Prop} (x1 : Int32) (x2 : Int32) (x3 : Int32) (x4 : Int32) (x5 : Int32) (x6 : Int32) (I : xI) (J : xJ) {t : (Int32 × Int32 × Int32 × Int32 × Int32 × Int32 × xI × xJ) ⊕ ((Int32 × Int32 × Int32 × Int32 × (Option Value) × (Option Value) × xI × xJ) ⊕ (Unit × xI × xJ))} (h : f_X12_laysCubes_23 x1 x2 x3 x4 x5 x6 I J = some t) (hC : (c_X12_laysCubes_22 L xs d Q) t) : Rn L xs (d + 3) 286 141 [some (.ref 61), some (.int x1), some (.int x2), some (.int x3), some (.int x4), some (.int x5), some (.int x6)] [] 94 (I, J, xrf) Q := by
  unfold f_X12_laysCubes_23 at h
  obtain ⟨hc, h⟩ := xif h
  refine Rn.ok 9 (c := x6 < 0 ∨ 8 ≤ x6.toNatClampNeg) (p1 := 158) (l1 := [some (.ref 61), some (.int x1), some (.int x2), some (.int x3), some (.int x4), some (.int x5), some (.int x6)]) (s1 := [.int ((I 80 x6.toNatClampNeg)), .ref 91, .int x6, .ref 90]) (n1 := 94) (M1 := (I, J, xrf)) (fun f => rfl) hc ?_
  obtain ⟨hc, h⟩ := xif h
  refine Rn.ok 1 (c := (I 80 x6.toNatClampNeg) < 0 ∨ 27 ≤ ((I 80 x6.toNatClampNeg)).toNatClampNeg) (p1 := 159) (l1 := [some (.ref 61), some (.int x1), some (.int x2), some (.int x3), some (.int x4), some (.int x5), some (.int x6)]) (s1 := [.int ((I 91 ((I 80 x6.toNatClampNeg)).toNatClampNeg)), .int x6, .ref 90]) (n1 := 94) (M1 := (I, J, xrf)) (fun f => rfl) hc ?_
  obtain ⟨hc, h⟩ := xif h
  refine Rn.ok 1 (c := x6 < 0 ∨ 8 ≤ x6.toNatClampNeg) (p1 := 160) (l1 := [some (.ref 61), some (.int x1), some (.int x2), some (.int x3), some (.int x4), some (.int x5), some (.int x6)]) (s1 := []) (n1 := 94) (M1 := ((xup I 90 x6.toNatClampNeg ((I 91 ((I 80 x6.toNatClampNeg)).toNatClampNeg))), J, xrf)) (fun f => rfl) hc ?_
  obtain ⟨hc, h⟩ := xif h
  refine Rn.ok 5 (c := x6 < 0 ∨ 8 ≤ x6.toNatClampNeg) (p1 := 169) (l1 := [some (.ref 61), some (.int x1), some (.int x2), some (.int x3), some (.int x4), some (.int x5), some (.int x6)]) (s1 := [.int ((((xup I 90 x6.toNatClampNeg ((I 91 ((I 80 x6.toNatClampNeg)).toNatClampNeg)))) 90 x6.toNatClampNeg)), .int x5]) (n1 := 94) (M1 := ((xup I 90 x6.toNatClampNeg ((I 91 ((I 80 x6.toNatClampNeg)).toNatClampNeg))), J, xrf)) (fun f => rfl) hc ?_
  refine Rn.go 1 (j' := 286) (pc' := 170) (ls' := [some (.ref 61), some (.int x1), some (.int x2), some (.int x3), some (.int x4), some (.int x5), some (.int x6)]) (st' := [.ref 61, .int ((((xup I 90 x6.toNatClampNeg ((I 91 ((I 80 x6.toNatClampNeg)).toNatClampNeg)))) 90 x6.toNatClampNeg)), .int x5]) (n' := 94) (M' := ((xup I 90 x6.toNatClampNeg ((I 91 ((I 80 x6.toNatClampNeg)).toNatClampNeg))), J, xrf)) (fun f => rfl) ?_
  obtain ⟨o, ho, h⟩ := Option.bind_eq_some_iff.mp h
  refine Rn.call (d1 := d + 2) (j1 := 272) (ls1 := [some (.ref 61)]) (rest := [.int ((((xup I 90 x6.toNatClampNeg ((I 91 ((I 80 x6.toNatClampNeg)).toNatClampNeg)))) 90 x6.toNatClampNeg)), .int x5]) (fun f => rfl) ?_
  refine p_X12_bits (d := d + 1) ((xup I 90 x6.toNatClampNeg ((I 91 ((I 80 x6.toNatClampNeg)).toNatClampNeg)))) J (t := o) ho ?_
  exact p_X12_laysCubes_24 x1 x2 x3 x4 x5 x6 x5 ((((xup I 90 x6.toNatClampNeg ((I 91 ((I 80 x6.toNatClampNeg)).toNatClampNeg)))) 90 x6.toNatClampNeg)) o.1 o.2.1 o.2.2 h hC
theorem q_X12_laysCubes_22 {L : Nat} {xs : Nat → Int32} {d : Nat} {Q : xO → Prop} (x1 : Int32) (x2 : Int32) (x3 : Int32) (x4 : Int32) (x5 : Int32) (x6 : Int32) (I : xI) (J : xJ) {t : (Int32 × Int32 × Int32 × Int32 × Int32 × Int32 × xI × xJ) ⊕ ((Int32 × Int32 × Int32 × Int32 × (Option Value) × (Option Value) × xI × xJ) ⊕ (Unit × xI × xJ))} (h : b_X12_laysCubes_22 x1 x2 x3 x4 x5 x6 I J = some t) (hC : (c_X12_laysCubes_22 L xs d Q) t) : Rn L xs (d + 3) 286 132 [some (.ref 61), some (.int x1), some (.int x2), some (.int x3), some (.int x4), some (.int x5), some (.int x6)] [] 94 (I, J, xrf) Q := by
  unfold b_X12_laysCubes_22 at h
  refine Rn.fi 4 (c := (I 61 52) ≤ x6) (p1 := 187) (l1 := [some (.ref 61), some (.int x1), some (.int x2), some (.int x3), some (.int x4), some (.int x5), some (.int x6)]) (s1 := []) (n1 := 94) (M1 := (I, J, xrf)) (p2 := 141) (l2 := [some (.ref 61), some (.int x1), some (.int x2), some (.int x3), some (.int x4), some (.int x5), some (.int x6)]) (s2 := []) (n2 := 94) (M2 := (I, J, xrf)) (fun f => rfl) (fun hc => ?_) (fun hc => ?_)
  · rw [if_pos hc] at h
    obtain ⟨t0, h0, rfl⟩ := Option.map_eq_some_iff.mp h
    exact p_X12_laysCubes_26 x1 x2 x3 x4 x5 x6 I J h0 hC
  · rw [if_neg hc] at h
    exact p_X12_laysCubes_23 x1 x2 x3 x4 x5 x6 I J h hC
theorem p_X12_laysCubes_22 {L : Nat} {xs : Nat → Int32} {d : Nat} {Q : xO → Prop} (x1 : Int32) (x2 : Int32) (x3 : Int32) (x4 : Int32) (x5 : Int32) (x6 : Int32) (I : xI) (J : xJ) {t : (Int32 × Int32 × Int32 × Int32 × (Option Value) × (Option Value) × xI × xJ) ⊕ (Unit × xI × xJ)} (h : f_X12_laysCubes_22 x1 x2 x3 x4 x5 x6 I J = some t) (hC : (c_X12_laysCubes_20 L xs d Q) t) : Rn L xs (d + 3) 286 132 [some (.ref 61), some (.int x1), some (.int x2), some (.int x3), some (.int x4), some (.int x5), some (.int x6)] [] 94 (I, J, xrf) Q := by
  unfold f_X12_laysCubes_22 at h
  exact xloop_some (P := fun s : Int32 × Int32 × Int32 × Int32 × Int32 × Int32 × xI × xJ => Rn L xs (d + 3) 286 132 [some (.ref 61), some (.int s.1), some (.int s.2.1), some (.int s.2.2.1), some (.int s.2.2.2.1), some (.int s.2.2.2.2.1), some (.int s.2.2.2.2.2.1)] [] 94 (s.2.2.2.2.2.2.1, s.2.2.2.2.2.2.2, xrf) Q) t (fun s ⟨s', hb, hp⟩ => q_X12_laysCubes_22 s.1 s.2.1 s.2.2.1 s.2.2.2.1 s.2.2.2.2.1 s.2.2.2.2.2.1 s.2.2.2.2.2.2.1 s.2.2.2.2.2.2.2 hb hp) (fun s hb => q_X12_laysCubes_22 s.1 s.2.1 s.2.2.1 s.2.2.2.1 s.2.2.2.2.1 s.2.2.2.2.2.1 s.2.2.2.2.2.2.1 s.2.2.2.2.2.2.2 hb hC) _ _ h
theorem p_X12_laysCubes_21 {L : Nat} {xs : Nat → Int32} {d : Nat} {Q : xO → Prop} (x1 : Int32) (x2 : Int32) (x3 : Int32) (x4 : Int32) (z5 : Option Value) (z6 : Option Value) (I : xI) (J : xJ) {t : (Int32 × Int32 × Int32 × Int32 × (Option Value) × (Option Value) × xI × xJ) ⊕ (Unit × xI × xJ)} (h : f_X12_laysCubes_21 x1 x2 x3 x4 z5 z6 I J = some t) (hC : (c_X12_laysCubes_20 L xs d Q) t) : Rn L xs (d + 3) 286 123 [some (.ref 61), some (.int x1), some (.int x2), some (.int x3), some (.int x4), z5, z6] [] 94 (I, J, xrf) Q := by
  unfold f_X12_laysCubes_21 at h
  refine Rn.go 5 (j' := 286) (pc' := 132) (ls' := [some (.ref 61), some (.int x1), some (.int x2), some (.int x3), some (.int x4), some (.int ((I 61 48))), some (.int 0)]) (st' := []) (n' := 94) (M' := (I, J, xrf)) (fun f => rfl) ?_
  exact p_X12_laysCubes_22 x1 x2 x3 x4 ((I 61 48)) 0 I J h hC
theorem q_X12_laysCubes_20 {L : Nat} {xs : Nat → Int32} {d : Nat} {Q : xO → Prop} (x1 : Int32) (x2 : Int32) (x3 : Int32) (x4 : Int32) (z5 : Option Value) (z6 : Option Value) (I : xI) (J : xJ) {t : (Int32 × Int32 × Int32 × Int32 × (Option Value) × (Option Value) × xI × xJ) ⊕ (Unit × xI × xJ)} (h : b_X12_laysCubes_20 x1 x2 x3 x4 z5 z6 I J = some t) (hC : (c_X12_laysCubes_20 L xs d Q) t) : Rn L xs (d + 3) 286 118 [some (.ref 61), some (.int x1), some (.int x2), some (.int x3), some (.int x4), z5, z6] [] 94 (I, J, xrf) Q := by
  unfold b_X12_laysCubes_20 at h
  refine Rn.fi 2 (c := x4 = 0) (p1 := 217) (l1 := [some (.ref 61), some (.int x1), some (.int x2), some (.int x3), some (.int x4), z5, z6]) (s1 := []) (n1 := 94) (M1 := (I, J, xrf)) (p2 := 123) (l2 := [some (.ref 61), some (.int x1), some (.int x2), some (.int x3), some (.int x4), z5, z6]) (s2 := []) (n2 := 94) (M2 := (I, J, xrf)) (fun f => rfl) (fun hc => ?_) (fun hc => ?_)
  · rw [if_pos hc] at h
    obtain ⟨t0, h0, rfl⟩ := Option.map_eq_some_iff.mp h
    exact p_X12_laysCubes_32 x1 x2 x3 x4 z5 z6 I J h0 hC
  · rw [if_neg hc] at h
    exact p_X12_laysCubes_21 x1 x2 x3 x4 z5 z6 I J h hC
theorem p_X12_laysCubes_20 {L : Nat} {xs : Nat → Int32} {d : Nat} {Q : xO → Prop} (x1 : Int32) (x2 : Int32) (x3 : Int32) (x4 : Int32) (z5 : Option Value) (z6 : Option Value) (I : xI) (J : xJ) {t : Unit × xI × xJ} (h : f_X12_laysCubes_20 x1 x2 x3 x4 z5 z6 I J = some t) (hC : (c_X12_laysCubes Q) t) : Rn L xs (d + 3) 286 118 [some (.ref 61), some (.int x1), some (.int x2), some (.int x3), some (.int x4), z5, z6] [] 94 (I, J, xrf) Q := by
  unfold f_X12_laysCubes_20 at h
  exact xloop_some (P := fun s : Int32 × Int32 × Int32 × Int32 × (Option Value) × (Option Value) × xI × xJ => Rn L xs (d + 3) 286 118 [some (.ref 61), some (.int s.1), some (.int s.2.1), some (.int s.2.2.1), some (.int s.2.2.2.1), s.2.2.2.2.1, s.2.2.2.2.2.1] [] 94 (s.2.2.2.2.2.2.1, s.2.2.2.2.2.2.2, xrf) Q) t (fun s ⟨s', hb, hp⟩ => q_X12_laysCubes_20 s.1 s.2.1 s.2.2.1 s.2.2.2.1 s.2.2.2.2.1 s.2.2.2.2.2.1 s.2.2.2.2.2.2.1 s.2.2.2.2.2.2.2 hb hp) (fun s hb => q_X12_laysCubes_20 s.1 s.2.1 s.2.2.1 s.2.2.2.1 s.2.2.2.2.1 s.2.2.2.2.2.1 s.2.2.2.2.2.2.1 s.2.2.2.2.2.2.2 hb hC) _ _ h
theorem p_X12_laysCubes_19 {L : Nat} {xs : Nat → Int32} {d : Nat} {Q : xO → Prop} (x1 : Int32) (x2 : Int32) (x3 : Int32) (x4 : Int32) (I : xI) (J : xJ) {t : Unit × xI × xJ} (h : f_X12_laysCubes_19 x1 x2 x3 x4 I J = some t) (hC : (c_X12_laysCubes Q) t) : Rn L xs (d + 3) 286 115 [some (.ref 61), some (.int x1), some (.int x2), some (.int x3), some (.int x4), none, none] [] 94 (I, J, xrf) Q := by
  unfold f_X12_laysCubes_19 at h
  refine Rn.go 2 (j' := 286) (pc' := 118) (ls' := [some (.ref 61), some (.int x1), some (.int x2), some (.int x3), some (.int 1), none, none]) (st' := []) (n' := 94) (M' := (I, J, xrf)) (fun f => rfl) ?_
  exact p_X12_laysCubes_20 x1 x2 x3 1 none none I J h hC
theorem p_X12_laysCubes_18 {L : Nat} {xs : Nat → Int32} {d : Nat} {Q : xO → Prop} (x1 : Int32) (x2 : Int32) (x3 : Int32) (x4 : Int32) (I : xI) (J : xJ) {t : Unit × xI × xJ} (h : f_X12_laysCubes_18 x1 x2 x3 x4 I J = some t) (hC : (c_X12_laysCubes Q) t) : Rn L xs (d + 3) 286 107 [some (.ref 61), some (.int x1), some (.int x2), some (.int x3), some (.int x4), none, none] [] 94 (I, J, xrf) Q := by
  unfold f_X12_laysCubes_18 at h
  refine Rn.go 3 (j' := 286) (pc' := 112) (ls' := [some (.ref 61), some (.int x1), some (.int x2), some (.int x3), some (.int x4), none, none]) (st' := [.int ((I 61 52)), .ref 61]) (n' := 94) (M' := (I, J, xrf)) (fun f => rfl) ?_
  obtain ⟨o, ho, h⟩ := Option.bind_eq_some_iff.mp h
  refine Rn.call (d1 := d + 2) (j1 := 244) (ls1 := [some (.ref 61), some (.int ((I 61 52))), none]) (rest := []) (fun f => rfl) ?_
  refine p_X12_firstPick (d := d + 1) ((I 61 52)) I J (t := o) ho ?_
  exact p_X12_laysCubes_19 x1 x2 x3 x4 o.2.1 o.2.2 h hC
theorem p_X12_laysCubes_17 {L : Nat} {xs : Nat → Int32} {d : Nat} {Q : xO → Prop} (x1 : Int32) (x2 : Int32) (x3 : Int32) (x4 : Int32) (I : xI) (J : xJ) {t : (Int32 × Int32 × Int32 × Int32 × xI × xJ) ⊕ (Unit × xI × xJ)} (h : f_X12_laysCubes_17 x1 x2 x3 x4 I J = some t) (hC : (c_X12_laysCubes_11 L xs d Q) t) : Rn L xs (d + 3) 286 101 [some (.ref 61), some (.int x1), some (.int x2), some (.int x3), some (.int x4), none, none] [] 94 (I, J, xrf) Q := by
  unfold f_X12_laysCubes_17 at h
  refine Rn.go 2 (j' := 286) (pc' := 54) (ls' := [some (.ref 61), some (.int x1), some (.int x2), some (.int x3), some (.int ((x4 + 1))), none, none]) (st' := []) (n' := 94) (M' := (I, J, xrf)) (fun f => rfl) ?_
  cases h; exact hC
theorem p_X12_laysCubes_16 {L : Nat} {xs : Nat → Int32} {d : Nat} {Q : xO → Prop} (x1 : Int32) (x2 : Int32) (x3 : Int32) (x4 : Int32) (I : xI) (J : xJ) {t : (Int32 × Int32 × Int32 × Int32 × xI × xJ) ⊕ (Unit × xI × xJ)} (h : f_X12_laysCubes_16 x1 x2 x3 x4 I J = some t) (hC : (c_X12_laysCubes_11 L xs d Q) t) : Rn L xs (d + 3) 286 80 [some (.ref 61), some (.int x1), some (.int x2), some (.int x3), some (.int x4), none, none] [] 94 (I, J, xrf) Q := by
  unfold f_X12_laysCubes_16 at h
  obtain ⟨hc, h⟩ := xif h
  refine Rn.ok 6 (c := (I 61 54) < 0 ∨ 27 ≤ ((I 61 54)).toNatClampNeg) (p1 := 91) (l1 := [some (.ref 61), some (.int x1), some (.int x2), some (.int x3), some (.int x4), none, none]) (s1 := []) (n1 := 94) (M1 := ((xup I 91 ((I 61 54)).toNatClampNeg x4), J, xrf)) (fun f => rfl) hc ?_
  refine Rn.go 6 (j' := 286) (pc' := 101) (ls' := [some (.ref 61), some (.int x1), some (.int x2), some (.int x3), some (.int x4), none, none]) (st' := []) (n' := 94) (M' := ((xup ((xup I 91 ((I 61 54)).toNatClampNeg x4)) 61 54 (((((xup I 91 ((I 61 54)).toNatClampNeg x4)) 61 54) + 1))), J, xrf)) (fun f => rfl) ?_
  exact p_X12_laysCubes_17 x1 x2 x3 x4 ((xup ((xup I 91 ((I 61 54)).toNatClampNeg x4)) 61 54 (((((xup I 91 ((I 61 54)).toNatClampNeg x4)) 61 54) + 1)))) J h hC
theorem p_X12_laysCubes_15 {L : Nat} {xs : Nat → Int32} {d : Nat} {Q : xO → Prop} (x1 : Int32) (x2 : Int32) (x3 : Int32) (x4 : Int32) (I : xI) (J : xJ) {t : (Int32 × Int32 × Int32 × Int32 × xI × xJ) ⊕ (Unit × xI × xJ)} (h : f_X12_laysCubes_15 x1 x2 x3 x4 I J = some t) (hC : (c_X12_laysCubes_11 L xs d Q) t) : Rn L xs (d + 3) 286 77 [some (.ref 61), some (.int x1), some (.int x2), some (.int x3), some (.int x4), none, none] [] 94 (I, J, xrf) Q := by
  unfold f_X12_laysCubes_15 at h
  refine Rn.go 1 (j' := 286) (pc' := 101) (ls' := [some (.ref 61), some (.int x1), some (.int x2), some (.int x3), some (.int x4), none, none]) (st' := []) (n' := 94) (M' := (I, J, xrf)) (fun f => rfl) ?_
  exact p_X12_laysCubes_17 x1 x2 x3 x4 I J h hC
theorem p_X12_laysCubes_14 {L : Nat} {xs : Nat → Int32} {d : Nat} {Q : xO → Prop} (x1 : Int32) (x2 : Int32) (x3 : Int32) (x4 : Int32) (s0 : Int32) (I : xI) (J : xJ) {t : (Int32 × Int32 × Int32 × Int32 × xI × xJ) ⊕ (Unit × xI × xJ)} (h : f_X12_laysCubes_14 x1 x2 x3 x4 s0 I J = some t) (hC : (c_X12_laysCubes_11 L xs d Q) t) : Rn L xs (d + 3) 286 69 [some (.ref 61), some (.int x1), some (.int x2), some (.int x3), some (.int x4), none, none] [.int s0] 94 (I, J, xrf) Q := by
  unfold f_X12_laysCubes_14 at h
  refine Rn.fi 4 (c := (s0 &&& (I 61 49)) = 0) (p1 := 80) (l1 := [some (.ref 61), some (.int x1), some (.int x2), some (.int x3), some (.int x4), none, none]) (s1 := []) (n1 := 94) (M1 := (I, J, xrf)) (p2 := 77) (l2 := [some (.ref 61), some (.int x1), some (.int x2), some (.int x3), some (.int x4), none, none]) (s2 := []) (n2 := 94) (M2 := (I, J, xrf)) (fun f => rfl) (fun hc => ?_) (fun hc => ?_)
  · rw [if_pos hc] at h
    exact p_X12_laysCubes_16 x1 x2 x3 x4 I J h hC
  · rw [if_neg hc] at h
    exact p_X12_laysCubes_15 x1 x2 x3 x4 I J h hC
theorem p_X12_laysCubes_13 {L : Nat} {xs : Nat → Int32} {d : Nat} {Q : xO → Prop} (x1 : Int32) (x2 : Int32) (x3 : Int32) (x4 : Int32) (s0 : Int32) (s1 : Int32) (I : xI) (J : xJ) {t : (Int32 × Int32 × Int32 × Int32 × xI × xJ) ⊕ (Unit × xI × xJ)} (h : f_X12_laysCubes_13 x1 x2 x3 x4 s0 s1 I J = some t) (hC : (c_X12_laysCubes_11 L xs d Q) t) : Rn L xs (d + 3) 286 66 [some (.ref 61), some (.int x1), some (.int x2), some (.int x3), some (.int x4), none, none] [.int s1, .int s0] 94 (I, J, xrf) Q := by
  unfold f_X12_laysCubes_13 at h
  obtain ⟨o, ho, h⟩ := Option.bind_eq_some_iff.mp h
  refine Rn.call (d1 := d + 2) (j1 := 280) (ls1 := [some (.int s0), some (.int s1), none, none, none, none, none]) (rest := []) (fun f => rfl) ?_
  refine p_X12_heldBy (d := d + 1) s0 s1 I J (t := o) ho ?_
  exact p_X12_laysCubes_14 x1 x2 x3 x4 o.1 o.2.1 o.2.2 h hC
theorem p_X12_laysCubes_12 {L : Nat} {xs : Nat → Int32} {d : Nat} {Q : xO → Prop} (x1 : Int32) (x2 : Int32) (x3 : Int32) (x4 : Int32) (I : xI) (J : xJ) {t : (Int32 × Int32 × Int32 × Int32 × xI × xJ) ⊕ (Unit × xI × xJ)} (h : f_X12_laysCubes_12 x1 x2 x3 x4 I J = some t) (hC : (c_X12_laysCubes_11 L xs d Q) t) : Rn L xs (d + 3) 286 60 [some (.ref 61), some (.int x1), some (.int x2), some (.int x3), some (.int x4), none, none] [] 94 (I, J, xrf) Q := by
  unfold f_X12_laysCubes_12 at h
  refine Rn.go 2 (j' := 286) (pc' := 63) (ls' := [some (.ref 61), some (.int x1), some (.int x2), some (.int x3), some (.int x4), none, none]) (st' := [.ref 61, .int x4]) (n' := 94) (M' := (I, J, xrf)) (fun f => rfl) ?_
  obtain ⟨o, ho, h⟩ := Option.bind_eq_some_iff.mp h
  refine Rn.call (d1 := d + 2) (j1 := 272) (ls1 := [some (.ref 61)]) (rest := [.int x4]) (fun f => rfl) ?_
  refine p_X12_bits (d := d + 1) I J (t := o) ho ?_
  exact p_X12_laysCubes_13 x1 x2 x3 x4 x4 o.1 o.2.1 o.2.2 h hC
theorem q_X12_laysCubes_11 {L : Nat} {xs : Nat → Int32} {d : Nat} {Q : xO → Prop} (x1 : Int32) (x2 : Int32) (x3 : Int32) (x4 : Int32) (I : xI) (J : xJ) {t : (Int32 × Int32 × Int32 × Int32 × xI × xJ) ⊕ (Unit × xI × xJ)} (h : b_X12_laysCubes_11 x1 x2 x3 x4 I J = some t) (hC : (c_X12_laysCubes_11 L xs d Q) t) : Rn L xs (d + 3) 286 54 [some (.ref 61), some (.int x1), some (.int x2), some (.int x3), some (.int x4), none, none] [] 94 (I, J, xrf) Q := by
  unfold b_X12_laysCubes_11 at h
  refine Rn.fi 3 (c := x3 ≤ x4) (p1 := 107) (l1 := [some (.ref 61), some (.int x1), some (.int x2), some (.int x3), some (.int x4), none, none]) (s1 := []) (n1 := 94) (M1 := (I, J, xrf)) (p2 := 60) (l2 := [some (.ref 61), some (.int x1), some (.int x2), some (.int x3), some (.int x4), none, none]) (s2 := []) (n2 := 94) (M2 := (I, J, xrf)) (fun f => rfl) (fun hc => ?_) (fun hc => ?_)
  · rw [if_pos hc] at h
    obtain ⟨t0, h0, rfl⟩ := Option.map_eq_some_iff.mp h
    exact p_X12_laysCubes_18 x1 x2 x3 x4 I J h0 hC
  · rw [if_neg hc] at h
    exact p_X12_laysCubes_12 x1 x2 x3 x4 I J h hC
theorem p_X12_laysCubes_11 {L : Nat} {xs : Nat → Int32} {d : Nat} {Q : xO → Prop} (x1 : Int32) (x2 : Int32) (x3 : Int32) (x4 : Int32) (I : xI) (J : xJ) {t : Unit × xI × xJ} (h : f_X12_laysCubes_11 x1 x2 x3 x4 I J = some t) (hC : (c_X12_laysCubes Q) t) : Rn L xs (d + 3) 286 54 [some (.ref 61), some (.int x1), some (.int x2), some (.int x3), some (.int x4), none, none] [] 94 (I, J, xrf) Q := by
  unfold f_X12_laysCubes_11 at h
  exact xloop_some (P := fun s : Int32 × Int32 × Int32 × Int32 × xI × xJ => Rn L xs (d + 3) 286 54 [some (.ref 61), some (.int s.1), some (.int s.2.1), some (.int s.2.2.1), some (.int s.2.2.2.1), none, none] [] 94 (s.2.2.2.2.1, s.2.2.2.2.2, xrf) Q) t (fun s ⟨s', hb, hp⟩ => q_X12_laysCubes_11 s.1 s.2.1 s.2.2.1 s.2.2.2.1 s.2.2.2.2.1 s.2.2.2.2.2 hb hp) (fun s hb => q_X12_laysCubes_11 s.1 s.2.1 s.2.2.1 s.2.2.2.1 s.2.2.2.2.1 s.2.2.2.2.2 hb hC) _ _ h
theorem p_X12_laysCubes_10 {L : Nat} {xs : Nat → Int32} {d : Nat} {Q : xO → Prop} (x1 : Int32) (x2 : Int32) (s0 : Int32) (I : xI) (J : xJ) {t : Unit × xI × xJ} (h : f_X12_laysCubes_10 x1 x2 s0 I J = some t) (hC : (c_X12_laysCubes Q) t) : Rn L xs (d + 3) 286 45 [some (.ref 61), some (.int x1), some (.int x2), none, none, none, none] [.int s0] 94 (I, J, xrf) Q := by
  unfold f_X12_laysCubes_10 at h
  refine Rn.go 6 (j' := 286) (pc' := 54) (ls' := [some (.ref 61), some (.int x1), some (.int x2), some (.int s0), some (.int 0), none, none]) (st' := []) (n' := 94) (M' := ((xup I 61 54 0), J, xrf)) (fun f => rfl) ?_
  exact p_X12_laysCubes_11 x1 x2 s0 0 ((xup I 61 54 0)) J h hC
theorem p_X12_laysCubes_9 {L : Nat} {xs : Nat → Int32} {d : Nat} {Q : xO → Prop} (x1 : Int32) (x2 : Int32) (I : xI) (J : xJ) {t : Unit × xI × xJ} (h : f_X12_laysCubes_9 x1 x2 I J = some t) (hC : (c_X12_laysCubes Q) t) : Rn L xs (d + 3) 286 43 [some (.ref 61), some (.int x1), some (.int x2), none, none, none, none] [] 94 (I, J, xrf) Q := by
  unfold f_X12_laysCubes_9 at h
  refine Rn.go 1 (j' := 286) (pc' := 45) (ls' := [some (.ref 61), some (.int x1), some (.int x2), none, none, none, none]) (st' := [.int 27]) (n' := 94) (M' := (I, J, xrf)) (fun f => rfl) ?_
  exact p_X12_laysCubes_10 x1 x2 27 I J h hC
theorem p_X12_laysCubes_8 {L : Nat} {xs : Nat → Int32} {d : Nat} {Q : xO → Prop} (x1 : Int32) (x2 : Int32) (I : xI) (J : xJ) {t : Unit × xI × xJ} (h : f_X12_laysCubes_8 x1 x2 I J = some t) (hC : (c_X12_laysCubes Q) t) : Rn L xs (d + 3) 286 38 [some (.ref 61), some (.int x1), some (.int x2), none, none, none, none] [] 94 (I, J, xrf) Q := by
  unfold f_X12_laysCubes_8 at h
  refine Rn.go 2 (j' := 286) (pc' := 45) (ls' := [some (.ref 61), some (.int x1), some (.int x2), none, none, none, none]) (st' := [.int 9]) (n' := 94) (M' := (I, J, xrf)) (fun f => rfl) ?_
  exact p_X12_laysCubes_10 x1 x2 9 I J h hC
theorem p_X12_laysCubes_7 {L : Nat} {xs : Nat → Int32} {d : Nat} {Q : xO → Prop} (x1 : Int32) (x2 : Int32) (s0 : Int32) (I : xI) (J : xJ) {t : Unit × xI × xJ} (h : f_X12_laysCubes_7 x1 x2 s0 I J = some t) (hC : (c_X12_laysCubes Q) t) : Rn L xs (d + 3) 286 34 [some (.ref 61), some (.int x1), some (.int x2), none, none, none, none] [.int s0] 94 (I, J, xrf) Q := by
  unfold f_X12_laysCubes_7 at h
  refine Rn.fi 2 (c := s0 = 2) (p1 := 38) (l1 := [some (.ref 61), some (.int x1), some (.int x2), none, none, none, none]) (s1 := []) (n1 := 94) (M1 := (I, J, xrf)) (p2 := 43) (l2 := [some (.ref 61), some (.int x1), some (.int x2), none, none, none, none]) (s2 := []) (n2 := 94) (M2 := (I, J, xrf)) (fun f => rfl) (fun hc => ?_) (fun hc => ?_)
  · rw [if_pos hc] at h
    exact p_X12_laysCubes_8 x1 x2 I J h hC
  · rw [if_neg hc] at h
    exact p_X12_laysCubes_9 x1 x2 I J h hC
theorem p_X12_laysCubes_6 {L : Nat} {xs : Nat → Int32} {d : Nat} {Q : xO → Prop} (x1 : Int32) (x2 : Int32) (I : xI) (J : xJ) {t : Unit × xI × xJ} (h : f_X12_laysCubes_6 x1 x2 I J = some t) (hC : (c_X12_laysCubes Q) t) : Rn L xs (d + 3) 286 30 [some (.ref 61), some (.int x1), some (.int x2), none, none, none, none] [] 94 (I, J, xrf) Q := by
  unfold f_X12_laysCubes_6 at h
  refine Rn.go 1 (j' := 286) (pc' := 31) (ls' := [some (.ref 61), some (.int x1), some (.int x2), none, none, none, none]) (st' := [.ref 61]) (n' := 94) (M' := (I, J, xrf)) (fun f => rfl) ?_
  obtain ⟨o, ho, h⟩ := Option.bind_eq_some_iff.mp h
  refine Rn.call (d1 := d + 2) (j1 := 272) (ls1 := [some (.ref 61)]) (rest := []) (fun f => rfl) ?_
  refine p_X12_bits (d := d + 1) I J (t := o) ho ?_
  exact p_X12_laysCubes_7 x1 x2 o.1 o.2.1 o.2.2 h hC
theorem p_X12_laysCubes_5 {L : Nat} {xs : Nat → Int32} {d : Nat} {Q : xO → Prop} (x1 : Int32) (x2 : Int32) (I : xI) (J : xJ) {t : Unit × xI × xJ} (h : f_X12_laysCubes_5 x1 x2 I J = some t) (hC : (c_X12_laysCubes Q) t) : Rn L xs (d + 3) 286 26 [some (.ref 61), some (.int x1), some (.int x2), none, none, none, none] [] 94 (I, J, xrf) Q := by
  unfold f_X12_laysCubes_5 at h
  refine Rn.go 2 (j' := 286) (pc' := 45) (ls' := [some (.ref 61), some (.int x1), some (.int x2), none, none, none, none]) (st' := [.int 3]) (n' := 94) (M' := (I, J, xrf)) (fun f => rfl) ?_
  exact p_X12_laysCubes_10 x1 x2 3 I J h hC
theorem p_X12_laysCubes_4 {L : Nat} {xs : Nat → Int32} {d : Nat} {Q : xO → Prop} (x1 : Int32) (x2 : Int32) (s0 : Int32) (I : xI) (J : xJ) {t : Unit × xI × xJ} (h : f_X12_laysCubes_4 x1 x2 s0 I J = some t) (hC : (c_X12_laysCubes Q) t) : Rn L xs (d + 3) 286 22 [some (.ref 61), some (.int x1), some (.int x2), none, none, none, none] [.int s0] 94 (I, J, xrf) Q := by
  unfold f_X12_laysCubes_4 at h
  refine Rn.fi 2 (c := s0 = 1) (p1 := 26) (l1 := [some (.ref 61), some (.int x1), some (.int x2), none, none, none, none]) (s1 := []) (n1 := 94) (M1 := (I, J, xrf)) (p2 := 30) (l2 := [some (.ref 61), some (.int x1), some (.int x2), none, none, none, none]) (s2 := []) (n2 := 94) (M2 := (I, J, xrf)) (fun f => rfl) (fun hc => ?_) (fun hc => ?_)
  · rw [if_pos hc] at h
    exact p_X12_laysCubes_5 x1 x2 I J h hC
  · rw [if_neg hc] at h
    exact p_X12_laysCubes_6 x1 x2 I J h hC
theorem p_X12_laysCubes_3 {L : Nat} {xs : Nat → Int32} {d : Nat} {Q : xO → Prop} (x1 : Int32) (x2 : Int32) (s1 : Int32) (I : xI) (J : xJ) {t : Unit × xI × xJ} (h : f_X12_laysCubes_3 x1 x2 s1 I J = some t) (hC : (c_X12_laysCubes Q) t) : Rn L xs (d + 3) 286 15 [some (.ref 61), some (.int x1), some (.int x2), none, none, none, none] [.int s1, .ref 61] 94 (I, J, xrf) Q := by
  unfold f_X12_laysCubes_3 at h
  refine Rn.go 2 (j' := 286) (pc' := 19) (ls' := [some (.ref 61), some (.int x1), some (.int x2), none, none, none, none]) (st' := [.ref 61]) (n' := 94) (M' := ((xup I 61 52 s1), J, xrf)) (fun f => rfl) ?_
  obtain ⟨o, ho, h⟩ := Option.bind_eq_some_iff.mp h
  refine Rn.call (d1 := d + 2) (j1 := 272) (ls1 := [some (.ref 61)]) (rest := []) (fun f => rfl) ?_
  refine p_X12_bits (d := d + 1) ((xup I 61 52 s1)) J (t := o) ho ?_
  exact p_X12_laysCubes_4 x1 x2 o.1 o.2.1 o.2.2 h hC
theorem p_X12_laysCubes_2 {L : Nat} {xs : Nat → Int32} {d : Nat} {Q : xO → Prop} (x1 : Int32) (x2 : Int32) (I : xI) (J : xJ) {t : Unit × xI × xJ} (h : f_X12_laysCubes_2 x1 x2 I J = some t) (hC : (c_X12_laysCubes Q) t) : Rn L xs (d + 3) 286 10 [some (.ref 61), some (.int x1), some (.int x2), none, none, none, none] [] 94 (I, J, xrf) Q := by
  unfold f_X12_laysCubes_2 at h
  refine Rn.go 2 (j' := 286) (pc' := 12) (ls' := [some (.ref 61), some (.int x1), some (.int x2), none, none, none, none]) (st' := [.ref 61, .ref 61]) (n' := 94) (M' := (I, J, xrf)) (fun f => rfl) ?_
  obtain ⟨o, ho, h⟩ := Option.bind_eq_some_iff.mp h
  refine Rn.call (d1 := d + 2) (j1 := 284) (ls1 := [some (.ref 61), none, none]) (rest := [.ref 61]) (fun f => rfl) ?_
  refine p_X12_howFew (d := d + 0) I J (t := o) ho ?_
  exact p_X12_laysCubes_3 x1 x2 o.1 o.2.1 o.2.2 h hC
theorem p_X12_laysCubes_1 {L : Nat} {xs : Nat → Int32} {d : Nat} {Q : xO → Prop} (x1 : Int32) (x2 : Int32) (I : xI) (J : xJ) {t : Unit × xI × xJ} (h : f_X12_laysCubes_1 x1 x2 I J = some t) (hC : (c_X12_laysCubes Q) t) : Rn L xs (d + 3) 286 4 [some (.ref 61), some (.int x1), some (.int x2), none, none, none, none] [] 94 (I, J, xrf) Q := by
  unfold f_X12_laysCubes_1 at h
  refine Rn.go 3 (j' := 286) (pc' := 7) (ls' := [some (.ref 61), some (.int x1), some (.int x2), none, none, none, none]) (st' := [.int x2, .int x1, .ref 61]) (n' := 94) (M' := (I, J, xrf)) (fun f => rfl) ?_
  obtain ⟨o, ho, h⟩ := Option.bind_eq_some_iff.mp h
  refine Rn.call (d1 := d + 2) (j1 := 282) (ls1 := [some (.ref 61), some (.int x1), some (.int x2), none]) (rest := []) (fun f => rfl) ?_
  refine p_X12_laysCodes (d := d + 0) x1 x2 I J (t := o) ho ?_
  exact p_X12_laysCubes_2 x1 x2 o.2.1 o.2.2 h hC
theorem p_X12_laysCubes_0 {L : Nat} {xs : Nat → Int32} {d : Nat} {Q : xO → Prop} (x1 : Int32) (x2 : Int32) (I : xI) (J : xJ) {t : Unit × xI × xJ} (h : f_X12_laysCubes_0 x1 x2 I J = some t) (hC : (c_X12_laysCubes Q) t) : Rn L xs (d + 3) 286 0 [some (.ref 61), some (.int x1), some (.int x2), none, none, none, none] [] 94 (I, J, xrf) Q := by
  unfold f_X12_laysCubes_0 at h
  refine Rn.go 1 (j' := 286) (pc' := 1) (ls' := [some (.ref 61), some (.int x1), some (.int x2), none, none, none, none]) (st' := [.ref 61]) (n' := 94) (M' := (I, J, xrf)) (fun f => rfl) ?_
  obtain ⟨o, ho, h⟩ := Option.bind_eq_some_iff.mp h
  refine Rn.call (d1 := d + 2) (j1 := 273) (ls1 := [some (.ref 61), none]) (rest := []) (fun f => rfl) ?_
  refine p_X12_asTheyAre (d := d + 0) I J (t := o) ho ?_
  exact p_X12_laysCubes_1 x1 x2 o.2.1 o.2.2 h hC
theorem p_X12_laysCubes {L : Nat} {xs : Nat → Int32} {d : Nat} {Q : xO → Prop} (x1 : Int32) (x2 : Int32) (I : xI) (J : xJ) {t : Unit × xI × xJ} (h : f_X12_laysCubes x1 x2 I J = some t) (hC : Q (none, 94, (t.2.1, t.2.2, xrf))) : Rn L xs (d + 3) 286 0 [some (.ref 61), some (.int x1), some (.int x2), none, none, none, none] [] 94 (I, J, xrf) Q := p_X12_laysCubes_0 x1 x2 I J h hC
/-! X12_ofRow_90 -/
def c_X12_ofRow_90 (Q : xO → Prop) (t : Int32 × xI × xJ) : Prop := Q ((some (.int t.1)), 94, (t.2.1, t.2.2, xrf))
def f_X12_ofRow_90_6 (x1 : Int32) (x2 : Int32) (s0 : Int32) (I : xI) (J : xJ) : Option (Int32 × xI × xJ) := some (s0, I, J)
def f_X12_ofRow_90_5 (x1 : Int32) (x2 : Int32) (I : xI) (J : xJ) : Option (Int32 × xI × xJ) := f_X12_ofRow_90_6 x1 x2 ((-1)) I J
def f_X12_ofRow_90_4 (x1 : Int32) (x2 : Int32) (I : xI) (J : xJ) : Option (Int32 × xI × xJ) := if x2 < 0 ∨ 8 ≤ x2.toNatClampNeg then none else f_X12_ofRow_90_6 x1 x2 ((I 90 x2.toNatClampNeg)) I J
def f_X12_ofRow_90_3 (x1 : Int32) (x2 : Int32) (s0 : Int32) (I : xI) (J : xJ) : Option (Int32 × xI × xJ) := if s0 = 0 then f_X12_ofRow_90_5 x1 x2 I J else f_X12_ofRow_90_4 x1 x2 I J
def f_X12_ofRow_90_2 (x1 : Int32) (x2 : Int32) (I : xI) (J : xJ) : Option (Int32 × xI × xJ) := (f_X12_in x2 0 ((x1 - 1)) I J).bind fun o => f_X12_ofRow_90_3 x1 x2 o.1 o.2.1 o.2.2
def f_X12_ofRow_90_1 (x1 : Int32) (x2 : Int32) (I : xI) (J : xJ) : Option (Int32 × xI × xJ) := f_X12_ofRow_90_6 x1 x2 x1 I J
def f_X12_ofRow_90_0 (x1 : Int32) (x2 : Int32) (I : xI) (J : xJ) : Option (Int32 × xI × xJ) := if x2 = (-1) then f_X12_ofRow_90_1 x1 x2 I J else f_X12_ofRow_90_2 x1 x2 I J
def f_X12_ofRow_90 (x1 : Int32) (x2 : Int32) (I : xI) (J : xJ) : Option (Int32 × xI × xJ) := f_X12_ofRow_90_0 x1 x2 I J
theorem p_X12_ofRow_90_6 {L : Nat} {xs : Nat → Int32} {d : Nat} {Q : xO → Prop} (x1 : Int32) (x2 : Int32) (s0 : Int32) (I : xI) (J : xJ) {t : Int32 × xI × xJ} (h : f_X12_ofRow_90_6 x1 x2 s0 I J = some t) (hC : (c_X12_ofRow_90 Q) t) : Rn L xs (d + 2) 236 27 [some (.ref 90), some (.int x1), some (.int x2)] [.int s0] 94 (I, J, xrf) Q := by
  unfold f_X12_ofRow_90_6 at h
  cases h
  exact Rn.ret 1 (o := ((some (.int s0)), 94, (I, J, xrf))) (fun f => rfl) hC
theorem p_X12_ofRow_90_5 {L : Nat} {xs : Nat → Int32} {d : Nat} {Q : xO → Prop} (x1 : Int32) (x2 : Int32) (I : xI) (J : xJ) {t : Int32 × xI × xJ} (h : f_X12_ofRow_90_5 x1 x2 I J = some t) (hC : (c_X12_ofRow_90 Q) t) : Rn L xs (d + 2) 236 26 [some (.ref 90), some (.int x1), some (.int x2)] [] 94 (I, J, xrf) Q := by
  unfold f_X12_ofRow_90_5 at h
  refine Rn.go 1 (j' := 236) (pc' := 27) (ls' := [some (.ref 90), some (.int x1), some (.int x2)]) (st' := [.int ((-1))]) (n' := 94) (M' := (I, J, xrf)) (fun f => rfl) ?_
  exact p_X12_ofRow_90_6 x1 x2 ((-1)) I J h hC
theorem p_X12_ofRow_90_4 {L : Nat} {xs : Nat → Int32} {d : Nat} {Q : xO → Prop} (x1 : Int32) (x2 : Int32) (I : xI) (J : xJ) {t : Int32 × xI × xJ} (h : f_X12_ofRow_90_4 x1 x2 I J = some t) (hC : (c_X12_ofRow_90 Q) t) : Rn L xs (d + 2) 236 20 [some (.ref 90), some (.int x1), some (.int x2)] [] 94 (I, J, xrf) Q := by
  unfold f_X12_ofRow_90_4 at h
  obtain ⟨hc, h⟩ := xif h
  refine Rn.ok 3 (c := x2 < 0 ∨ 8 ≤ x2.toNatClampNeg) (p1 := 23) (l1 := [some (.ref 90), some (.int x1), some (.int x2)]) (s1 := [.int ((I 90 x2.toNatClampNeg))]) (n1 := 94) (M1 := (I, J, xrf)) (fun f => rfl) hc ?_
  refine Rn.go 1 (j' := 236) (pc' := 27) (ls' := [some (.ref 90), some (.int x1), some (.int x2)]) (st' := [.int ((I 90 x2.toNatClampNeg))]) (n' := 94) (M' := (I, J, xrf)) (fun f => rfl) ?_
  exact p_X12_ofRow_90_6 x1 x2 ((I 90 x2.toNatClampNeg)) I J h hC
theorem p_X12_ofRow_90_3 {L : Nat} {xs : Nat → Int32} {d : Nat} {Q : xO → Prop} (x1 : Int32) (x2 : Int32) (s0 : Int32) (I : xI) (J : xJ) {t : Int32 × xI × xJ} (h : f_X12_ofRow_90_3 x1 x2 s0 I J = some t) (hC : (c_X12_ofRow_90 Q) t) : Rn L xs (d + 2) 236 17 [some (.ref 90), some (.int x1), some (.int x2)] [.int s0] 94 (I, J, xrf) Q := by
  unfold f_X12_ofRow_90_3 at h
  refine Rn.fi 1 (c := s0 = 0) (p1 := 26) (l1 := [some (.ref 90), some (.int x1), some (.int x2)]) (s1 := []) (n1 := 94) (M1 := (I, J, xrf)) (p2 := 20) (l2 := [some (.ref 90), some (.int x1), some (.int x2)]) (s2 := []) (n2 := 94) (M2 := (I, J, xrf)) (fun f => rfl) (fun hc => ?_) (fun hc => ?_)
  · rw [if_pos hc] at h
    exact p_X12_ofRow_90_5 x1 x2 I J h hC
  · rw [if_neg hc] at h
    exact p_X12_ofRow_90_4 x1 x2 I J h hC
theorem p_X12_ofRow_90_2 {L : Nat} {xs : Nat → Int32} {d : Nat} {Q : xO → Prop} (x1 : Int32) (x2 : Int32) (I : xI) (J : xJ) {t : Int32 × xI × xJ} (h : f_X12_ofRow_90_2 x1 x2 I J = some t) (hC : (c_X12_ofRow_90 Q) t) : Rn L xs (d + 2) 236 9 [some (.ref 90), some (.int x1), some (.int x2)] [] 94 (I, J, xrf) Q := by
  unfold f_X12_ofRow_90_2 at h
  refine Rn.go 5 (j' := 236) (pc' := 14) (ls' := [some (.ref 90), some (.int x1), some (.int x2)]) (st' := [.int ((x1 - 1)), .int 0, .int x2]) (n' := 94) (M' := (I, J, xrf)) (fun f => rfl) ?_
  obtain ⟨o, ho, h⟩ := Option.bind_eq_some_iff.mp h
  refine Rn.call (d1 := d + 1) (j1 := 206) (ls1 := [some (.int x2), some (.int 0), some (.int ((x1 - 1)))]) (rest := []) (fun f => rfl) ?_
  refine p_X12_in (d := d + 0) x2 0 ((x1 - 1)) I J (t := o) ho ?_
  exact p_X12_ofRow_90_3 x1 x2 o.1 o.2.1 o.2.2 h hC
theorem p_X12_ofRow_90_1 {L : Nat} {xs : Nat → Int32} {d : Nat} {Q : xO → Prop} (x1 : Int32) (x2 : Int32) (I : xI) (J : xJ) {t : Int32 × xI × xJ} (h : f_X12_ofRow_90_1 x1 x2 I J = some t) (hC : (c_X12_ofRow_90 Q) t) : Rn L xs (d + 2) 236 5 [some (.ref 90), some (.int x1), some (.int x2)] [] 94 (I, J, xrf) Q := by
  unfold f_X12_ofRow_90_1 at h
  refine Rn.go 2 (j' := 236) (pc' := 27) (ls' := [some (.ref 90), some (.int x1), some (.int x2)]) (st' := [.int x1]) (n' := 94) (M' := (I, J, xrf)) (fun f => rfl) ?_
  exact p_X12_ofRow_90_6 x1 x2 x1 I J h hC
theorem p_X12_ofRow_90_0 {L : Nat} {xs : Nat → Int32} {d : Nat} {Q : xO → Prop} (x1 : Int32) (x2 : Int32) (I : xI) (J : xJ) {t : Int32 × xI × xJ} (h : f_X12_ofRow_90_0 x1 x2 I J = some t) (hC : (c_X12_ofRow_90 Q) t) : Rn L xs (d + 2) 236 0 [some (.ref 90), some (.int x1), some (.int x2)] [] 94 (I, J, xrf) Q := by
  unfold f_X12_ofRow_90_0 at h
  refine Rn.fi 3 (c := x2 = (-1)) (p1 := 5) (l1 := [some (.ref 90), some (.int x1), some (.int x2)]) (s1 := []) (n1 := 94) (M1 := (I, J, xrf)) (p2 := 9) (l2 := [some (.ref 90), some (.int x1), some (.int x2)]) (s2 := []) (n2 := 94) (M2 := (I, J, xrf)) (fun f => rfl) (fun hc => ?_) (fun hc => ?_)
  · rw [if_pos hc] at h
    exact p_X12_ofRow_90_1 x1 x2 I J h hC
  · rw [if_neg hc] at h
    exact p_X12_ofRow_90_2 x1 x2 I J h hC
theorem p_X12_ofRow_90 {L : Nat} {xs : Nat → Int32} {d : Nat} {Q : xO → Prop} (x1 : Int32) (x2 : Int32) (I : xI) (J : xJ) {t : Int32 × xI × xJ} (h : f_X12_ofRow_90 x1 x2 I J = some t) (hC : Q ((some (.int t.1)), 94, (t.2.1, t.2.2, xrf))) : Rn L xs (d + 2) 236 0 [some (.ref 90), some (.int x1), some (.int x2)] [] 94 (I, J, xrf) Q := p_X12_ofRow_90_0 x1 x2 I J h hC
/-! X12_cube -/
def c_X12_cube (Q : xO → Prop) (t : Int32 × xI × xJ) : Prop := Q ((some (.int t.1)), 94, (t.2.1, t.2.2, xrf))
def f_X12_cube_4 (x1 : Int32) (x2 : Int32) (x3 : Int32) (I : xI) (J : xJ) : Option (Int32 × xI × xJ) := some ((-1), I, J)
def f_X12_cube_10 (x1 : Int32) (x2 : Int32) (x3 : Int32) (s0 : Int32) (I : xI) (J : xJ) : Option (Int32 × xI × xJ) := some (s0, I, J)
def f_X12_cube_9 (x1 : Int32) (x2 : Int32) (x3 : Int32) (I : xI) (J : xJ) : Option (Int32 × xI × xJ) := (f_X12_ofRow_90 ((I 61 52)) x3 I J).bind fun o => f_X12_cube_10 x1 x2 x3 o.1 o.2.1 o.2.2
def f_X12_cube_8 (x1 : Int32) (x2 : Int32) (x3 : Int32) (I : xI) (J : xJ) : Option (Int32 × xI × xJ) := (f_X12_laysCubes x1 x2 I J).bind fun o => f_X12_cube_9 x1 x2 x3 o.2.1 o.2.2
def f_X12_cube_7 (x1 : Int32) (x2 : Int32) (x3 : Int32) (I : xI) (J : xJ) : Option (Int32 × xI × xJ) := some ((-2), I, J)
def f_X12_cube_6 (x1 : Int32) (x2 : Int32) (x3 : Int32) (s0 : Int32) (I : xI) (J : xJ) : Option (Int32 × xI × xJ) := if s0 = 0 then f_X12_cube_7 x1 x2 x3 I J else f_X12_cube_8 x1 x2 x3 I J
def f_X12_cube_5 (x1 : Int32) (x2 : Int32) (x3 : Int32) (I : xI) (J : xJ) : Option (Int32 × xI × xJ) := (f_X12_isProper I J).bind fun o => f_X12_cube_6 x1 x2 x3 o.1 o.2.1 o.2.2
def f_X12_cube_3 (x1 : Int32) (x2 : Int32) (x3 : Int32) (s0 : Int32) (I : xI) (J : xJ) : Option (Int32 × xI × xJ) := if s0 = 0 then f_X12_cube_4 x1 x2 x3 I J else f_X12_cube_5 x1 x2 x3 I J
def f_X12_cube_2 (x1 : Int32) (x2 : Int32) (x3 : Int32) (I : xI) (J : xJ) : Option (Int32 × xI × xJ) := (f_X12_isInput x2 I J).bind fun o => f_X12_cube_3 x1 x2 x3 o.1 o.2.1 o.2.2
def f_X12_cube_1 (x1 : Int32) (x2 : Int32) (x3 : Int32) (s0 : Int32) (I : xI) (J : xJ) : Option (Int32 × xI × xJ) := if s0 = 0 then f_X12_cube_4 x1 x2 x3 I J else f_X12_cube_2 x1 x2 x3 I J
def f_X12_cube_0 (x1 : Int32) (x2 : Int32) (x3 : Int32) (I : xI) (J : xJ) : Option (Int32 × xI × xJ) := (f_X12_isBit x1 I J).bind fun o => f_X12_cube_1 x1 x2 x3 o.1 o.2.1 o.2.2
def f_X12_cube (x1 : Int32) (x2 : Int32) (x3 : Int32) (I : xI) (J : xJ) : Option (Int32 × xI × xJ) := f_X12_cube_0 x1 x2 x3 I J
theorem p_X12_cube_4 {L : Nat} {xs : Nat → Int32} {d : Nat} {Q : xO → Prop} (x1 : Int32) (x2 : Int32) (x3 : Int32) (I : xI) (J : xJ) {t : Int32 × xI × xJ} (h : f_X12_cube_4 x1 x2 x3 I J = some t) (hC : (c_X12_cube Q) t) : Rn L xs (d + 4) 288 16 [some (.ref 61), some (.int x1), some (.int x2), some (.int x3)] [] 94 (I, J, xrf) Q := by
  unfold f_X12_cube_4 at h
  cases h
  exact Rn.ret 2 (o := ((some (.int ((-1)))), 94, (I, J, xrf))) (fun f => rfl) hC
theorem p_X12_cube_10 {L : Nat} {xs : Nat → Int32} {d : Nat} {Q : xO → Prop} (x1 : Int32) (x2 : Int32) (x3 : Int32) (s0 : Int32) (I : xI) (J : xJ) {t : Int32 × xI × xJ} (h : f_X12_cube_10 x1 x2 x3 s0 I J = some t) (hC : (c_X12_cube Q) t) : Rn L xs (d + 4) 288 46 [some (.ref 61), some (.int x1), some (.int x2), some (.int x3)] [.int s0] 94 (I, J, xrf) Q := by
  unfold f_X12_cube_10 at h
  cases h
  exact Rn.ret 1 (o := ((some (.int s0)), 94, (I, J, xrf))) (fun f => rfl) hC
theorem p_X12_cube_9 {L : Nat} {xs : Nat → Int32} {d : Nat} {Q : xO → Prop} (x1 : Int32) (x2 : Int32) (x3 : Int32) (I : xI) (J : xJ) {t : Int32 × xI × xJ} (h : f_X12_cube_9 x1 x2 x3 I J = some t) (hC : (c_X12_cube Q) t) : Rn L xs (d + 4) 288 34 [some (.ref 61), some (.int x1), some (.int x2), some (.int x3)] [] 94 (I, J, xrf) Q := by
  unfold f_X12_cube_9 at h
  refine Rn.go 5 (j' := 288) (pc' := 43) (ls' := [some (.ref 61), some (.int x1), some (.int x2), some (.int x3)]) (st' := [.int x3, .int ((I 61 52)), .ref 90]) (n' := 94) (M' := (I, J, xrf)) (fun f => rfl) ?_
  obtain ⟨o, ho, h⟩ := Option.bind_eq_some_iff.mp h
  refine Rn.call (d1 := d + 3) (j1 := 236) (ls1 := [some (.ref 90), some (.int ((I 61 52))), some (.int x3)]) (rest := []) (fun f => rfl) ?_
  refine p_X12_ofRow_90 (d := d + 1) ((I 61 52)) x3 I J (t := o) ho ?_
  exact p_X12_cube_10 x1 x2 x3 o.1 o.2.1 o.2.2 h hC
theorem p_X12_cube_8 {L : Nat} {xs : Nat → Int32} {d : Nat} {Q : xO → Prop} (x1 : Int32) (x2 : Int32) (x3 : Int32) (I : xI) (J : xJ) {t : Int32 × xI × xJ} (h : f_X12_cube_8 x1 x2 x3 I J = some t) (hC : (c_X12_cube Q) t) : Rn L xs (d + 4) 288 28 [some (.ref 61), some (.int x1), some (.int x2), some (.int x3)] [] 94 (I, J, xrf) Q := by
  unfold f_X12_cube_8 at h
  refine Rn.go 3 (j' := 288) (pc' := 31) (ls' := [some (.ref 61), some (.int x1), some (.int x2), some (.int x3)]) (st' := [.int x2, .int x1, .ref 61]) (n' := 94) (M' := (I, J, xrf)) (fun f => rfl) ?_
  obtain ⟨o, ho, h⟩ := Option.bind_eq_some_iff.mp h
  refine Rn.call (d1 := d + 3) (j1 := 286) (ls1 := [some (.ref 61), some (.int x1), some (.int x2), none, none, none, none]) (rest := []) (fun f => rfl) ?_
  refine p_X12_laysCubes (d := d + 0) x1 x2 I J (t := o) ho ?_
  exact p_X12_cube_9 x1 x2 x3 o.2.1 o.2.2 h hC
theorem p_X12_cube_7 {L : Nat} {xs : Nat → Int32} {d : Nat} {Q : xO → Prop} (x1 : Int32) (x2 : Int32) (x3 : Int32) (I : xI) (J : xJ) {t : Int32 × xI × xJ} (h : f_X12_cube_7 x1 x2 x3 I J = some t) (hC : (c_X12_cube Q) t) : Rn L xs (d + 4) 288 25 [some (.ref 61), some (.int x1), some (.int x2), some (.int x3)] [] 94 (I, J, xrf) Q := by
  unfold f_X12_cube_7 at h
  cases h
  exact Rn.ret 2 (o := ((some (.int ((-2)))), 94, (I, J, xrf))) (fun f => rfl) hC
theorem p_X12_cube_6 {L : Nat} {xs : Nat → Int32} {d : Nat} {Q : xO → Prop} (x1 : Int32) (x2 : Int32) (x3 : Int32) (s0 : Int32) (I : xI) (J : xJ) {t : Int32 × xI × xJ} (h : f_X12_cube_6 x1 x2 x3 s0 I J = some t) (hC : (c_X12_cube Q) t) : Rn L xs (d + 4) 288 22 [some (.ref 61), some (.int x1), some (.int x2), some (.int x3)] [.int s0] 94 (I, J, xrf) Q := by
  unfold f_X12_cube_6 at h
  refine Rn.fi 1 (c := s0 = 0) (p1 := 25) (l1 := [some (.ref 61), some (.int x1), some (.int x2), some (.int x3)]) (s1 := []) (n1 := 94) (M1 := (I, J, xrf)) (p2 := 28) (l2 := [some (.ref 61), some (.int x1), some (.int x2), some (.int x3)]) (s2 := []) (n2 := 94) (M2 := (I, J, xrf)) (fun f => rfl) (fun hc => ?_) (fun hc => ?_)
  · rw [if_pos hc] at h
    exact p_X12_cube_7 x1 x2 x3 I J h hC
  · rw [if_neg hc] at h
    exact p_X12_cube_8 x1 x2 x3 I J h hC
theorem p_X12_cube_5 {L : Nat} {xs : Nat → Int32} {d : Nat} {Q : xO → Prop} (x1 : Int32) (x2 : Int32) (x3 : Int32) (I : xI) (J : xJ) {t : Int32 × xI × xJ} (h : f_X12_cube_5 x1 x2 x3 I J = some t) (hC : (c_X12_cube Q) t) : Rn L xs (d + 4) 288 18 [some (.ref 61), some (.int x1), some (.int x2), some (.int x3)] [] 94 (I, J, xrf) Q := by
  unfold f_X12_cube_5 at h
  refine Rn.go 1 (j' := 288) (pc' := 19) (ls' := [some (.ref 61), some (.int x1), some (.int x2), some (.int x3)]) (st' := [.ref 61]) (n' := 94) (M' := (I, J, xrf)) (fun f => rfl) ?_
  obtain ⟨o, ho, h⟩ := Option.bind_eq_some_iff.mp h
  refine Rn.call (d1 := d + 3) (j1 := 274) (ls1 := [some (.ref 61), none, none]) (rest := []) (fun f => rfl) ?_
  refine p_X12_isProper (d := d + 1) I J (t := o) ho ?_
  exact p_X12_cube_6 x1 x2 x3 o.1 o.2.1 o.2.2 h hC
theorem p_X12_cube_3 {L : Nat} {xs : Nat → Int32} {d : Nat} {Q : xO → Prop} (x1 : Int32) (x2 : Int32) (x3 : Int32) (s0 : Int32) (I : xI) (J : xJ) {t : Int32 × xI × xJ} (h : f_X12_cube_3 x1 x2 x3 s0 I J = some t) (hC : (c_X12_cube Q) t) : Rn L xs (d + 4) 288 13 [some (.ref 61), some (.int x1), some (.int x2), some (.int x3)] [.int s0] 94 (I, J, xrf) Q := by
  unfold f_X12_cube_3 at h
  refine Rn.fi 1 (c := s0 = 0) (p1 := 16) (l1 := [some (.ref 61), some (.int x1), some (.int x2), some (.int x3)]) (s1 := []) (n1 := 94) (M1 := (I, J, xrf)) (p2 := 18) (l2 := [some (.ref 61), some (.int x1), some (.int x2), some (.int x3)]) (s2 := []) (n2 := 94) (M2 := (I, J, xrf)) (fun f => rfl) (fun hc => ?_) (fun hc => ?_)
  · rw [if_pos hc] at h
    exact p_X12_cube_4 x1 x2 x3 I J h hC
  · rw [if_neg hc] at h
    exact p_X12_cube_5 x1 x2 x3 I J h hC
theorem p_X12_cube_2 {L : Nat} {xs : Nat → Int32} {d : Nat} {Q : xO → Prop} (x1 : Int32) (x2 : Int32) (x3 : Int32) (I : xI) (J : xJ) {t : Int32 × xI × xJ} (h : f_X12_cube_2 x1 x2 x3 I J = some t) (hC : (c_X12_cube Q) t) : Rn L xs (d + 4) 288 8 [some (.ref 61), some (.int x1), some (.int x2), some (.int x3)] [] 94 (I, J, xrf) Q := by
  unfold f_X12_cube_2 at h
  refine Rn.go 2 (j' := 288) (pc' := 10) (ls' := [some (.ref 61), some (.int x1), some (.int x2), some (.int x3)]) (st' := [.int x2, .ref 61]) (n' := 94) (M' := (I, J, xrf)) (fun f => rfl) ?_
  obtain ⟨o, ho, h⟩ := Option.bind_eq_some_iff.mp h
  refine Rn.call (d1 := d + 3) (j1 := 208) (ls1 := [some (.ref 61), some (.int x2)]) (rest := []) (fun f => rfl) ?_
  refine p_X12_isInput (d := d + 1) x2 I J (t := o) ho ?_
  exact p_X12_cube_3 x1 x2 x3 o.1 o.2.1 o.2.2 h hC
theorem p_X12_cube_1 {L : Nat} {xs : Nat → Int32} {d : Nat} {Q : xO → Prop} (x1 : Int32) (x2 : Int32) (x3 : Int32) (s0 : Int32) (I : xI) (J : xJ) {t : Int32 × xI × xJ} (h : f_X12_cube_1 x1 x2 x3 s0 I J = some t) (hC : (c_X12_cube Q) t) : Rn L xs (d + 4) 288 5 [some (.ref 61), some (.int x1), some (.int x2), some (.int x3)] [.int s0] 94 (I, J, xrf) Q := by
  unfold f_X12_cube_1 at h
  refine Rn.fi 1 (c := s0 = 0) (p1 := 16) (l1 := [some (.ref 61), some (.int x1), some (.int x2), some (.int x3)]) (s1 := []) (n1 := 94) (M1 := (I, J, xrf)) (p2 := 8) (l2 := [some (.ref 61), some (.int x1), some (.int x2), some (.int x3)]) (s2 := []) (n2 := 94) (M2 := (I, J, xrf)) (fun f => rfl) (fun hc => ?_) (fun hc => ?_)
  · rw [if_pos hc] at h
    exact p_X12_cube_4 x1 x2 x3 I J h hC
  · rw [if_neg hc] at h
    exact p_X12_cube_2 x1 x2 x3 I J h hC
theorem p_X12_cube_0 {L : Nat} {xs : Nat → Int32} {d : Nat} {Q : xO → Prop} (x1 : Int32) (x2 : Int32) (x3 : Int32) (I : xI) (J : xJ) {t : Int32 × xI × xJ} (h : f_X12_cube_0 x1 x2 x3 I J = some t) (hC : (c_X12_cube Q) t) : Rn L xs (d + 4) 288 0 [some (.ref 61), some (.int x1), some (.int x2), some (.int x3)] [] 94 (I, J, xrf) Q := by
  unfold f_X12_cube_0 at h
  refine Rn.go 2 (j' := 288) (pc' := 2) (ls' := [some (.ref 61), some (.int x1), some (.int x2), some (.int x3)]) (st' := [.int x1, .ref 61]) (n' := 94) (M' := (I, J, xrf)) (fun f => rfl) ?_
  obtain ⟨o, ho, h⟩ := Option.bind_eq_some_iff.mp h
  refine Rn.call (d1 := d + 3) (j1 := 287) (ls1 := [some (.ref 61), some (.int x1)]) (rest := []) (fun f => rfl) ?_
  refine p_X12_isBit (d := d + 1) x1 I J (t := o) ho ?_
  exact p_X12_cube_1 x1 x2 x3 o.1 o.2.1 o.2.2 h hC
theorem p_X12_cube {L : Nat} {xs : Nat → Int32} {d : Nat} {Q : xO → Prop} (x1 : Int32) (x2 : Int32) (x3 : Int32) (I : xI) (J : xJ) {t : Int32 × xI × xJ} (h : f_X12_cube x1 x2 x3 I J = some t) (hC : Q ((some (.int t.1)), 94, (t.2.1, t.2.2, xrf))) : Rn L xs (d + 4) 288 0 [some (.ref 61), some (.int x1), some (.int x2), some (.int x3)] [] 94 (I, J, xrf) Q := p_X12_cube_0 x1 x2 x3 I J h hC
/-! X12_sumNow -/
def c_X12_sumNow (Q : xO → Prop) (t : Int32 × xI × xJ) : Prop := Q ((some (.int t.1)), 94, (t.2.1, t.2.2, xrf))
def c_X12_sumNow_1 (L : Nat) (xs : Nat → Int32) (d : Nat) (Q : xO → Prop) (t : (Int32 × Int32 × (Option Value) × xI × xJ) ⊕ (Int32 × xI × xJ)) : Prop := match t with
  | .inl s => Rn L xs (d + 3) 285 4 [some (.ref 61), some (.int s.1), some (.int s.2.1), s.2.2.1] [] 94 (s.2.2.2.1, s.2.2.2.2, xrf) Q
  | .inr t => (c_X12_sumNow Q) t
def c_X12_sumNow_4 (L : Nat) (xs : Nat → Int32) (d : Nat) (Q : xO → Prop) (t : (Int32 × Int32 × Int32 × xI × xJ) ⊕ ((Int32 × Int32 × (Option Value) × xI × xJ) ⊕ (Int32 × xI × xJ))) : Prop := match t with
  | .inl s => Rn L xs (d + 3) 285 14 [some (.ref 61), some (.int s.1), some (.int s.2.1), some (.int s.2.2.1)] [] 94 (s.2.2.2.1, s.2.2.2.2, xrf) Q
  | .inr t => (c_X12_sumNow_1 L xs d Q) t
def f_X12_sumNow_9 (x1 : Int32) (x2 : Int32) (z3 : Option Value) (I : xI) (J : xJ) : Option (Int32 × xI × xJ) := some (x1, I, J)
def f_X12_sumNow_8 (x1 : Int32) (x2 : Int32) (x3 : Int32) (I : xI) (J : xJ) : Option ((Int32 × Int32 × (Option Value) × xI × xJ) ⊕ (Int32 × xI × xJ)) := some (.inl (x1, ((x2 + 1)), (some (.int x3)), I, J))
def f_X12_sumNow_7 (x1 : Int32) (x2 : Int32) (x3 : Int32) (s0 : Int32) (s1 : Int32) (I : xI) (J : xJ) : Option ((Int32 × Int32 × Int32 × xI × xJ) ⊕ ((Int32 × Int32 × (Option Value) × xI × xJ) ⊕ (Int32 × xI × xJ))) := some (.inl (((s0 + s1)), x2, ((x3 + 1)), I, J))
def f_X12_sumNow_6 (x1 : Int32) (x2 : Int32) (x3 : Int32) (I : xI) (J : xJ) : Option ((Int32 × Int32 × Int32 × xI × xJ) ⊕ ((Int32 × Int32 × (Option Value) × xI × xJ) ⊕ (Int32 × xI × xJ))) := (f_X12_howFew I J).bind fun o => f_X12_sumNow_7 x1 x2 x3 x1 o.1 o.2.1 o.2.2
def f_X12_sumNow_5 (x1 : Int32) (x2 : Int32) (x3 : Int32) (I : xI) (J : xJ) : Option ((Int32 × Int32 × Int32 × xI × xJ) ⊕ ((Int32 × Int32 × (Option Value) × xI × xJ) ⊕ (Int32 × xI × xJ))) := (f_X12_laysCodes x2 x3 I J).bind fun o => f_X12_sumNow_6 x1 x2 x3 o.2.1 o.2.2
def b_X12_sumNow_4 (x1 : Int32) (x2 : Int32) (x3 : Int32) (I : xI) (J : xJ) : Option ((Int32 × Int32 × Int32 × xI × xJ) ⊕ ((Int32 × Int32 × (Option Value) × xI × xJ) ⊕ (Int32 × xI × xJ))) := if (I 61 18) ≤ x3 then ((f_X12_sumNow_8 x1 x2 x3 I J)).map .inr else f_X12_sumNow_5 x1 x2 x3 I J
def f_X12_sumNow_4 (x1 : Int32) (x2 : Int32) (x3 : Int32) (I : xI) (J : xJ) : Option ((Int32 × Int32 × (Option Value) × xI × xJ) ⊕ (Int32 × xI × xJ)) := xloop (fun s : Int32 × Int32 × Int32 × xI × xJ => b_X12_sumNow_4 s.1 s.2.1 s.2.2.1 s.2.2.2.1 s.2.2.2.2) 5000 (x1, x2, x3, I, J)
def f_X12_sumNow_3 (x1 : Int32) (x2 : Int32) (z3 : Option Value) (I : xI) (J : xJ) : Option ((Int32 × Int32 × (Option Value) × xI × xJ) ⊕ (Int32 × xI × xJ)) := f_X12_sumNow_4 x1 x2 0 I J
def f_X12_sumNow_2 (x1 : Int32) (x2 : Int32) (z3 : Option Value) (s0 : Int32) (s1 : Int32) (I : xI) (J : xJ) : Option ((Int32 × Int32 × (Option Value) × xI × xJ) ⊕ (Int32 × xI × xJ)) := if s1 ≤ s0 then ((f_X12_sumNow_9 x1 x2 z3 I J)).map .inr else f_X12_sumNow_3 x1 x2 z3 I J
def b_X12_sumNow_1 (x1 : Int32) (x2 : Int32) (z3 : Option Value) (I : xI) (J : xJ) : Option ((Int32 × Int32 × (Option Value) × xI × xJ) ⊕ (Int32 × xI × xJ)) := (f_X12_bits I J).bind fun o => f_X12_sumNow_2 x1 x2 z3 x2 o.1 o.2.1 o.2.2
def f_X12_sumNow_1 (x1 : Int32) (x2 : Int32) (z3 : Option Value) (I : xI) (J : xJ) : Option (Int32 × xI × xJ) := xloop (fun s : Int32 × Int32 × (Option Value) × xI × xJ => b_X12_sumNow_1 s.1 s.2.1 s.2.2.1 s.2.2.2.1 s.2.2.2.2) 5000 (x1, x2, z3, I, J)
def f_X12_sumNow_0 (I : xI) (J : xJ) : Option (Int32 × xI × xJ) := f_X12_sumNow_1 0 0 none I J
def f_X12_sumNow (I : xI) (J : xJ) : Option (Int32 × xI × xJ) := f_X12_sumNow_0 I J
theorem p_X12_sumNow_9 {L : Nat} {xs : Nat → Int32} {d : Nat} {Q : xO → Prop} (x1 : Int32) (x2 : Int32) (z3 : Option Value) (I : xI) (J : xJ) {t : Int32 × xI × xJ} (h : f_X12_sumNow_9 x1 x2 z3 I J = some t) (hC : (c_X12_sumNow Q) t) : Rn L xs (d + 3) 285 47 [some (.ref 61), some (.int x1), some (.int x2), z3] [] 94 (I, J, xrf) Q := by
  unfold f_X12_sumNow_9 at h
  cases h
  exact Rn.ret 2 (o := ((some (.int x1)), 94, (I, J, xrf))) (fun f => rfl) hC
theorem p_X12_sumNow_8 {L : Nat} {xs : Nat → Int32} {d : Nat} {Q : xO → Prop} (x1 : Int32) (x2 : Int32) (x3 : Int32) (I : xI) (J : xJ) {t : (Int32 × Int32 × (Option Value) × xI × xJ) ⊕ (Int32 × xI × xJ)} (h : f_X12_sumNow_8 x1 x2 x3 I J = some t) (hC : (c_X12_sumNow_1 L xs d Q) t) : Rn L xs (d + 3) 285 41 [some (.ref 61), some (.int x1), some (.int x2), some (.int x3)] [] 94 (I, J, xrf) Q := by
  unfold f_X12_sumNow_8 at h
  refine Rn.go 2 (j' := 285) (pc' := 4) (ls' := [some (.ref 61), some (.int x1), some (.int ((x2 + 1))), some (.int x3)]) (st' := []) (n' := 94) (M' := (I, J, xrf)) (fun f => rfl) ?_
  cases h; exact hC
theorem p_X12_sumNow_7 {L : Nat} {xs : Nat → Int32} {d : Nat} {Q : xO → Prop} (x1 : Int32) (x2 : Int32) (x3 : Int32) (s0 : Int32) (s1 : Int32) (I : xI) (J : xJ) {t : (Int32 × Int32 × Int32 × xI × xJ) ⊕ ((Int32 × Int32 × (Option Value) × xI × xJ) ⊕ (Int32 × xI × xJ))} (h : f_X12_sumNow_7 x1 x2 x3 s0 s1 I J = some t) (hC : (c_X12_sumNow_4 L xs d Q) t) : Rn L xs (d + 3) 285 33 [some (.ref 61), some (.int x1), some (.int x2), some (.int x3)] [.int s1, .int s0] 94 (I, J, xrf) Q := by
  unfold f_X12_sumNow_7 at h
  refine Rn.go 4 (j' := 285) (pc' := 14) (ls' := [some (.ref 61), some (.int ((s0 + s1))), some (.int x2), some (.int ((x3 + 1)))]) (st' := []) (n' := 94) (M' := (I, J, xrf)) (fun f => rfl) ?_
  cases h; exact hC
theorem p_X12_sumNow_6 {L : Nat} {xs : Nat → Int32} {d : Nat} {Q : xO → Prop} (x1 : Int32) (x2 : Int32) (x3 : Int32) (I : xI) (J : xJ) {t : (Int32 × Int32 × Int32 × xI × xJ) ⊕ ((Int32 × Int32 × (Option Value) × xI × xJ) ⊕ (Int32 × xI × xJ))} (h : f_X12_sumNow_6 x1 x2 x3 I J = some t) (hC : (c_X12_sumNow_4 L xs d Q) t) : Rn L xs (d + 3) 285 28 [some (.ref 61), some (.int x1), some (.int x2), some (.int x3)] [] 94 (I, J, xrf) Q := by
  unfold f_X12_sumNow_6 at h
  refine Rn.go 2 (j' := 285) (pc' := 30) (ls' := [some (.ref 61), some (.int x1), some (.int x2), some (.int x3)]) (st' := [.ref 61, .int x1]) (n' := 94) (M' := (I, J, xrf)) (fun f => rfl) ?_
  obtain ⟨o, ho, h⟩ := Option.bind_eq_some_iff.mp h
  refine Rn.call (d1 := d + 2) (j1 := 284) (ls1 := [some (.ref 61), none, none]) (rest := [.int x1]) (fun f => rfl) ?_
  refine p_X12_howFew (d := d + 0) I J (t := o) ho ?_
  exact p_X12_sumNow_7 x1 x2 x3 x1 o.1 o.2.1 o.2.2 h hC
theorem p_X12_sumNow_5 {L : Nat} {xs : Nat → Int32} {d : Nat} {Q : xO → Prop} (x1 : Int32) (x2 : Int32) (x3 : Int32) (I : xI) (J : xJ) {t : (Int32 × Int32 × Int32 × xI × xJ) ⊕ ((Int32 × Int32 × (Option Value) × xI × xJ) ⊕ (Int32 × xI × xJ))} (h : f_X12_sumNow_5 x1 x2 x3 I J = some t) (hC : (c_X12_sumNow_4 L xs d Q) t) : Rn L xs (d + 3) 285 22 [some (.ref 61), some (.int x1), some (.int x2), some (.int x3)] [] 94 (I, J, xrf) Q := by
  unfold f_X12_sumNow_5 at h
  refine Rn.go 3 (j' := 285) (pc' := 25) (ls' := [some (.ref 61), some (.int x1), some (.int x2), some (.int x3)]) (st' := [.int x3, .int x2, .ref 61]) (n' := 94) (M' := (I, J, xrf)) (fun f => rfl) ?_
  obtain ⟨o, ho, h⟩ := Option.bind_eq_some_iff.mp h
  refine Rn.call (d1 := d + 2) (j1 := 282) (ls1 := [some (.ref 61), some (.int x2), some (.int x3), none]) (rest := []) (fun f => rfl) ?_
  refine p_X12_laysCodes (d := d + 0) x2 x3 I J (t := o) ho ?_
  exact p_X12_sumNow_6 x1 x2 x3 o.2.1 o.2.2 h hC
theorem q_X12_sumNow_4 {L : Nat} {xs : Nat → Int32} {d : Nat} {Q : xO → Prop} (x1 : Int32) (x2 : Int32) (x3 : Int32) (I : xI) (J : xJ) {t : (Int32 × Int32 × Int32 × xI × xJ) ⊕ ((Int32 × Int32 × (Option Value) × xI × xJ) ⊕ (Int32 × xI × xJ))} (h : b_X12_sumNow_4 x1 x2 x3 I J = some t) (hC : (c_X12_sumNow_4 L xs d Q) t) : Rn L xs (d + 3) 285 14 [some (.ref 61), some (.int x1), some (.int x2), some (.int x3)] [] 94 (I, J, xrf) Q := by
  unfold b_X12_sumNow_4 at h
  refine Rn.fi 4 (c := (I 61 18) ≤ x3) (p1 := 41) (l1 := [some (.ref 61), some (.int x1), some (.int x2), some (.int x3)]) (s1 := []) (n1 := 94) (M1 := (I, J, xrf)) (p2 := 22) (l2 := [some (.ref 61), some (.int x1), some (.int x2), some (.int x3)]) (s2 := []) (n2 := 94) (M2 := (I, J, xrf)) (fun f => rfl) (fun hc => ?_) (fun hc => ?_)
  · rw [if_pos hc] at h
    obtain ⟨t0, h0, rfl⟩ := Option.map_eq_some_iff.mp h
    exact p_X12_sumNow_8 x1 x2 x3 I J h0 hC
  · rw [if_neg hc] at h
    exact p_X12_sumNow_5 x1 x2 x3 I J h hC
theorem p_X12_sumNow_4 {L : Nat} {xs : Nat → Int32} {d : Nat} {Q : xO → Prop} (x1 : Int32) (x2 : Int32) (x3 : Int32) (I : xI) (J : xJ) {t : (Int32 × Int32 × (Option Value) × xI × xJ) ⊕ (Int32 × xI × xJ)} (h : f_X12_sumNow_4 x1 x2 x3 I J = some t) (hC : (c_X12_sumNow_1 L xs d Q) t) : Rn L xs (d + 3) 285 14 [some (.ref 61), some (.int x1), some (.int x2), some (.int x3)] [] 94 (I, J, xrf) Q := by
  unfold f_X12_sumNow_4 at h
  exact xloop_some (P := fun s : Int32 × Int32 × Int32 × xI × xJ => Rn L xs (d + 3) 285 14 [some (.ref 61), some (.int s.1), some (.int s.2.1), some (.int s.2.2.1)] [] 94 (s.2.2.2.1, s.2.2.2.2, xrf) Q) t (fun s ⟨s', hb, hp⟩ => q_X12_sumNow_4 s.1 s.2.1 s.2.2.1 s.2.2.2.1 s.2.2.2.2 hb hp) (fun s hb => q_X12_sumNow_4 s.1 s.2.1 s.2.2.1 s.2.2.2.1 s.2.2.2.2 hb hC) _ _ h
theorem p_X12_sumNow_3 {L : Nat} {xs : Nat → Int32} {d : Nat} {Q : xO → Prop} (x1 : Int32) (x2 : Int32) (z3 : Option Value) (I : xI) (J : xJ) {t : (Int32 × Int32 × (Option Value) × xI × xJ) ⊕ (Int32 × xI × xJ)} (h : f_X12_sumNow_3 x1 x2 z3 I J = some t) (hC : (c_X12_sumNow_1 L xs d Q) t) : Rn L xs (d + 3) 285 12 [some (.ref 61), some (.int x1), some (.int x2), z3] [] 94 (I, J, xrf) Q := by
  unfold f_X12_sumNow_3 at h
  refine Rn.go 2 (j' := 285) (pc' := 14) (ls' := [some (.ref 61), some (.int x1), some (.int x2), some (.int 0)]) (st' := []) (n' := 94) (M' := (I, J, xrf)) (fun f => rfl) ?_
  exact p_X12_sumNow_4 x1 x2 0 I J h hC
theorem p_X12_sumNow_2 {L : Nat} {xs : Nat → Int32} {d : Nat} {Q : xO → Prop} (x1 : Int32) (x2 : Int32) (z3 : Option Value) (s0 : Int32) (s1 : Int32) (I : xI) (J : xJ) {t : (Int32 × Int32 × (Option Value) × xI × xJ) ⊕ (Int32 × xI × xJ)} (h : f_X12_sumNow_2 x1 x2 z3 s0 s1 I J = some t) (hC : (c_X12_sumNow_1 L xs d Q) t) : Rn L xs (d + 3) 285 9 [some (.ref 61), some (.int x1), some (.int x2), z3] [.int s1, .int s0] 94 (I, J, xrf) Q := by
  unfold f_X12_sumNow_2 at h
  refine Rn.fi 1 (c := s1 ≤ s0) (p1 := 47) (l1 := [some (.ref 61), some (.int x1), some (.int x2), z3]) (s1 := []) (n1 := 94) (M1 := (I, J, xrf)) (p2 := 12) (l2 := [some (.ref 61), some (.int x1), some (.int x2), z3]) (s2 := []) (n2 := 94) (M2 := (I, J, xrf)) (fun f => rfl) (fun hc => ?_) (fun hc => ?_)
  · rw [if_pos hc] at h
    obtain ⟨t0, h0, rfl⟩ := Option.map_eq_some_iff.mp h
    exact p_X12_sumNow_9 x1 x2 z3 I J h0 hC
  · rw [if_neg hc] at h
    exact p_X12_sumNow_3 x1 x2 z3 I J h hC
theorem q_X12_sumNow_1 {L : Nat} {xs : Nat → Int32} {d : Nat} {Q : xO → Prop} (x1 : Int32) (x2 : Int32) (z3 : Option Value) (I : xI) (J : xJ) {t : (Int32 × Int32 × (Option Value) × xI × xJ) ⊕ (Int32 × xI × xJ)} (h : b_X12_sumNow_1 x1 x2 z3 I J = some t) (hC : (c_X12_sumNow_1 L xs d Q) t) : Rn L xs (d + 3) 285 4 [some (.ref 61), some (.int x1), some (.int x2), z3] [] 94 (I, J, xrf) Q := by
  unfold b_X12_sumNow_1 at h
  refine Rn.go 2 (j' := 285) (pc' := 6) (ls' := [some (.ref 61), some (.int x1), some (.int x2), z3]) (st' := [.ref 61, .int x2]) (n' := 94) (M' := (I, J, xrf)) (fun f => rfl) ?_
  obtain ⟨o, ho, h⟩ := Option.bind_eq_some_iff.mp h
  refine Rn.call (d1 := d + 2) (j1 := 272) (ls1 := [some (.ref 61)]) (rest := [.int x2]) (fun f => rfl) ?_
  refine p_X12_bits (d := d + 1) I J (t := o) ho ?_
  exact p_X12_sumNow_2 x1 x2 z3 x2 o.1 o.2.1 o.2.2 h hC
theorem p_X12_sumNow_1 {L : Nat} {xs : Nat → Int32} {d : Nat} {Q : xO → Prop} (x1 : Int32) (x2 : Int32) (z3 : Option Value) (I : xI) (J : xJ) {t : Int32 × xI × xJ} (h : f_X12_sumNow_1 x1 x2 z3 I J = some t) (hC : (c_X12_sumNow Q) t) : Rn L xs (d + 3) 285 4 [some (.ref 61), some (.int x1), some (.int x2), z3] [] 94 (I, J, xrf) Q := by
  unfold f_X12_sumNow_1 at h
  exact xloop_some (P := fun s : Int32 × Int32 × (Option Value) × xI × xJ => Rn L xs (d + 3) 285 4 [some (.ref 61), some (.int s.1), some (.int s.2.1), s.2.2.1] [] 94 (s.2.2.2.1, s.2.2.2.2, xrf) Q) t (fun s ⟨s', hb, hp⟩ => q_X12_sumNow_1 s.1 s.2.1 s.2.2.1 s.2.2.2.1 s.2.2.2.2 hb hp) (fun s hb => q_X12_sumNow_1 s.1 s.2.1 s.2.2.1 s.2.2.2.1 s.2.2.2.2 hb hC) _ _ h
theorem p_X12_sumNow_0 {L : Nat} {xs : Nat → Int32} {d : Nat} {Q : xO → Prop} (I : xI) (J : xJ) {t : Int32 × xI × xJ} (h : f_X12_sumNow_0 I J = some t) (hC : (c_X12_sumNow Q) t) : Rn L xs (d + 3) 285 0 [some (.ref 61), none, none, none] [] 94 (I, J, xrf) Q := by
  unfold f_X12_sumNow_0 at h
  refine Rn.go 4 (j' := 285) (pc' := 4) (ls' := [some (.ref 61), some (.int 0), some (.int 0), none]) (st' := []) (n' := 94) (M' := (I, J, xrf)) (fun f => rfl) ?_
  exact p_X12_sumNow_1 0 0 none I J h hC
theorem p_X12_sumNow {L : Nat} {xs : Nat → Int32} {d : Nat} {Q : xO → Prop} (I : xI) (J : xJ) {t : Int32 × xI × xJ} (h : f_X12_sumNow I J = some t) (hC : Q ((some (.int t.1)), 94, (t.2.1, t.2.2, xrf))) : Rn L xs (d + 3) 285 0 [some (.ref 61), none, none, none] [] 94 (I, J, xrf) Q := p_X12_sumNow_0 I J h hC
/-! X12_sum -/
def c_X12_sum (Q : xO → Prop) (t : Int32 × xI × xJ) : Prop := Q ((some (.int t.1)), 94, (t.2.1, t.2.2, xrf))
def f_X12_sum_5 (s0 : Int32) (I : xI) (J : xJ) : Option (Int32 × xI × xJ) := some (s0, I, J)
def f_X12_sum_4 (I : xI) (J : xJ) : Option (Int32 × xI × xJ) := (f_X12_sumNow I J).bind fun o => f_X12_sum_5 o.1 o.2.1 o.2.2
def f_X12_sum_3 (I : xI) (J : xJ) : Option (Int32 × xI × xJ) := (f_X12_asTheyAre I J).bind fun o => f_X12_sum_4 o.2.1 o.2.2
def f_X12_sum_2 (I : xI) (J : xJ) : Option (Int32 × xI × xJ) := some ((-2), I, J)
def f_X12_sum_1 (s0 : Int32) (I : xI) (J : xJ) : Option (Int32 × xI × xJ) := if s0 = 0 then f_X12_sum_2 I J else f_X12_sum_3 I J
def f_X12_sum_0 (I : xI) (J : xJ) : Option (Int32 × xI × xJ) := (f_X12_isProper I J).bind fun o => f_X12_sum_1 o.1 o.2.1 o.2.2
def f_X12_sum (I : xI) (J : xJ) : Option (Int32 × xI × xJ) := f_X12_sum_0 I J
theorem p_X12_sum_5 {L : Nat} {xs : Nat → Int32} {d : Nat} {Q : xO → Prop} (s0 : Int32) (I : xI) (J : xJ) {t : Int32 × xI × xJ} (h : f_X12_sum_5 s0 I J = some t) (hC : (c_X12_sum Q) t) : Rn L xs (d + 4) 289 18 [some (.ref 61)] [.int s0] 94 (I, J, xrf) Q := by
  unfold f_X12_sum_5 at h
  cases h
  exact Rn.ret 1 (o := ((some (.int s0)), 94, (I, J, xrf))) (fun f => rfl) hC
theorem p_X12_sum_4 {L : Nat} {xs : Nat → Int32} {d : Nat} {Q : xO → Prop} (I : xI) (J : xJ) {t : Int32 × xI × xJ} (h : f_X12_sum_4 I J = some t) (hC : (c_X12_sum Q) t) : Rn L xs (d + 4) 289 14 [some (.ref 61)] [] 94 (I, J, xrf) Q := by
  unfold f_X12_sum_4 at h
  refine Rn.go 1 (j' := 289) (pc' := 15) (ls' := [some (.ref 61)]) (st' := [.ref 61]) (n' := 94) (M' := (I, J, xrf)) (fun f => rfl) ?_
  obtain ⟨o, ho, h⟩ := Option.bind_eq_some_iff.mp h
  refine Rn.call (d1 := d + 3) (j1 := 285) (ls1 := [some (.ref 61), none, none, none]) (rest := []) (fun f => rfl) ?_
  refine p_X12_sumNow (d := d + 0) I J (t := o) ho ?_
  exact p_X12_sum_5 o.1 o.2.1 o.2.2 h hC
theorem p_X12_sum_3 {L : Nat} {xs : Nat → Int32} {d : Nat} {Q : xO → Prop} (I : xI) (J : xJ) {t : Int32 × xI × xJ} (h : f_X12_sum_3 I J = some t) (hC : (c_X12_sum Q) t) : Rn L xs (d + 4) 289 10 [some (.ref 61)] [] 94 (I, J, xrf) Q := by
  unfold f_X12_sum_3 at h
  refine Rn.go 1 (j' := 289) (pc' := 11) (ls' := [some (.ref 61)]) (st' := [.ref 61]) (n' := 94) (M' := (I, J, xrf)) (fun f => rfl) ?_
  obtain ⟨o, ho, h⟩ := Option.bind_eq_some_iff.mp h
  refine Rn.call (d1 := d + 3) (j1 := 273) (ls1 := [some (.ref 61), none]) (rest := []) (fun f => rfl) ?_
  refine p_X12_asTheyAre (d := d + 1) I J (t := o) ho ?_
  exact p_X12_sum_4 o.2.1 o.2.2 h hC
theorem p_X12_sum_2 {L : Nat} {xs : Nat → Int32} {d : Nat} {Q : xO → Prop} (I : xI) (J : xJ) {t : Int32 × xI × xJ} (h : f_X12_sum_2 I J = some t) (hC : (c_X12_sum Q) t) : Rn L xs (d + 4) 289 7 [some (.ref 61)] [] 94 (I, J, xrf) Q := by
  unfold f_X12_sum_2 at h
  cases h
  exact Rn.ret 2 (o := ((some (.int ((-2)))), 94, (I, J, xrf))) (fun f => rfl) hC
theorem p_X12_sum_1 {L : Nat} {xs : Nat → Int32} {d : Nat} {Q : xO → Prop} (s0 : Int32) (I : xI) (J : xJ) {t : Int32 × xI × xJ} (h : f_X12_sum_1 s0 I J = some t) (hC : (c_X12_sum Q) t) : Rn L xs (d + 4) 289 4 [some (.ref 61)] [.int s0] 94 (I, J, xrf) Q := by
  unfold f_X12_sum_1 at h
  refine Rn.fi 1 (c := s0 = 0) (p1 := 7) (l1 := [some (.ref 61)]) (s1 := []) (n1 := 94) (M1 := (I, J, xrf)) (p2 := 10) (l2 := [some (.ref 61)]) (s2 := []) (n2 := 94) (M2 := (I, J, xrf)) (fun f => rfl) (fun hc => ?_) (fun hc => ?_)
  · rw [if_pos hc] at h
    exact p_X12_sum_2 I J h hC
  · rw [if_neg hc] at h
    exact p_X12_sum_3 I J h hC
theorem p_X12_sum_0 {L : Nat} {xs : Nat → Int32} {d : Nat} {Q : xO → Prop} (I : xI) (J : xJ) {t : Int32 × xI × xJ} (h : f_X12_sum_0 I J = some t) (hC : (c_X12_sum Q) t) : Rn L xs (d + 4) 289 0 [some (.ref 61)] [] 94 (I, J, xrf) Q := by
  unfold f_X12_sum_0 at h
  refine Rn.go 1 (j' := 289) (pc' := 1) (ls' := [some (.ref 61)]) (st' := [.ref 61]) (n' := 94) (M' := (I, J, xrf)) (fun f => rfl) ?_
  obtain ⟨o, ho, h⟩ := Option.bind_eq_some_iff.mp h
  refine Rn.call (d1 := d + 3) (j1 := 274) (ls1 := [some (.ref 61), none, none]) (rest := []) (fun f => rfl) ?_
  refine p_X12_isProper (d := d + 1) I J (t := o) ho ?_
  exact p_X12_sum_1 o.1 o.2.1 o.2.2 h hC
theorem p_X12_sum {L : Nat} {xs : Nat → Int32} {d : Nat} {Q : xO → Prop} (I : xI) (J : xJ) {t : Int32 × xI × xJ} (h : f_X12_sum I J = some t) (hC : Q ((some (.int t.1)), 94, (t.2.1, t.2.2, xrf))) : Rn L xs (d + 4) 289 0 [some (.ref 61)] [] 94 (I, J, xrf) Q := p_X12_sum_0 I J h hC
/-! X12_coded -/
def c_X12_coded (Q : xO → Prop) (t : Int32 × xI × xJ) : Prop := Q ((some (.int t.1)), 94, (t.2.1, t.2.2, xrf))
def c_X12_coded_10 (L : Nat) (xs : Nat → Int32) (d : Nat) (Q : xO → Prop) (t : (Int32 × Int32 × Int32 × Int32 × (Option Value) × xI × xJ) ⊕ (Int32 × xI × xJ)) : Prop := match t with
  | .inl s => Rn L xs (d + 4) 290 41 [some (.ref 61), some (.int s.1), some (.int s.2.1), some (.int s.2.2.1), some (.int s.2.2.2.1), s.2.2.2.2.1] [] 94 (s.2.2.2.2.2.1, s.2.2.2.2.2.2, xrf) Q
  | .inr t => (c_X12_coded Q) t
def c_X12_coded_14 (L : Nat) (xs : Nat → Int32) (d : Nat) (Q : xO → Prop) (t : (Int32 × Int32 × Int32 × Int32 × Int32 × xI × xJ) ⊕ ((Int32 × Int32 × Int32 × Int32 × (Option Value) × xI × xJ) ⊕ (Int32 × xI × xJ))) : Prop := match t with
  | .inl s => Rn L xs (d + 4) 290 60 [some (.ref 61), some (.int s.1), some (.int s.2.1), some (.int s.2.2.1), some (.int s.2.2.2.1), some (.int s.2.2.2.2.1)] [] 94 (s.2.2.2.2.2.1, s.2.2.2.2.2.2, xrf) Q
  | .inr t => (c_X12_coded_10 L xs d Q) t
def f_X12_coded_5 (x1 : Int32) (x2 : Int32) (I : xI) (J : xJ) : Option (Int32 × xI × xJ) := some ((-1), I, J)
def f_X12_coded_22 (x1 : Int32) (x2 : Int32) (x3 : Int32) (x4 : Int32) (z5 : Option Value) (I : xI) (J : xJ) : Option (Int32 × xI × xJ) := some (x3, I, J)
def f_X12_coded_21 (x1 : Int32) (x2 : Int32) (x3 : Int32) (x4 : Int32) (x5 : Int32) (I : xI) (J : xJ) : Option ((Int32 × Int32 × Int32 × Int32 × (Option Value) × xI × xJ) ⊕ (Int32 × xI × xJ)) := some (.inl (x1, x2, x3, ((x4 + 1)), (some (.int x5)), I, J))
def f_X12_coded_20 (x1 : Int32) (x2 : Int32) (x3 : Int32) (x4 : Int32) (x5 : Int32) (I : xI) (J : xJ) : Option ((Int32 × Int32 × Int32 × Int32 × Int32 × xI × xJ) ⊕ ((Int32 × Int32 × Int32 × Int32 × (Option Value) × xI × xJ) ⊕ (Int32 × xI × xJ))) := some (.inl (x1, x2, x3, x4, ((x5 + 1)), I, J))
def f_X12_coded_19 (x1 : Int32) (x2 : Int32) (x3 : Int32) (x4 : Int32) (x5 : Int32) (I : xI) (J : xJ) : Option ((Int32 × Int32 × Int32 × Int32 × Int32 × xI × xJ) ⊕ ((Int32 × Int32 × Int32 × Int32 × (Option Value) × xI × xJ) ⊕ (Int32 × xI × xJ))) := f_X12_coded_20 x1 x2 ((x3 ||| (1 <<< (x4 &&& 31)))) x4 x5 I J
def f_X12_coded_18 (x1 : Int32) (x2 : Int32) (x3 : Int32) (x4 : Int32) (x5 : Int32) (s0 : Int32) (I : xI) (J : xJ) : Option ((Int32 × Int32 × Int32 × Int32 × Int32 × xI × xJ) ⊕ ((Int32 × Int32 × Int32 × Int32 × (Option Value) × xI × xJ) ⊕ (Int32 × xI × xJ))) := if s0 = 0 then f_X12_coded_20 x1 x2 x3 x4 x5 I J else f_X12_coded_19 x1 x2 x3 x4 x5 I J
def f_X12_coded_17 (x1 : Int32) (x2 : Int32) (x3 : Int32) (x4 : Int32) (x5 : Int32) (s0 : Int32) (I : xI) (J : xJ) : Option ((Int32 × Int32 × Int32 × Int32 × Int32 × xI × xJ) ⊕ ((Int32 × Int32 × Int32 × Int32 × (Option Value) × xI × xJ) ⊕ (Int32 × xI × xJ))) := (f_X12_has s0 x1 I J).bind fun o => f_X12_coded_18 x1 x2 x3 x4 x5 o.1 o.2.1 o.2.2
def f_X12_coded_16 (x1 : Int32) (x2 : Int32) (x3 : Int32) (x4 : Int32) (x5 : Int32) (s0 : Int32) (s1 : Int32) (I : xI) (J : xJ) : Option ((Int32 × Int32 × Int32 × Int32 × Int32 × xI × xJ) ⊕ ((Int32 × Int32 × Int32 × Int32 × (Option Value) × xI × xJ) ⊕ (Int32 × xI × xJ))) := (f_X12_heldBy s0 s1 I J).bind fun o => f_X12_coded_17 x1 x2 x3 x4 x5 o.1 o.2.1 o.2.2
def f_X12_coded_15 (x1 : Int32) (x2 : Int32) (x3 : Int32) (x4 : Int32) (x5 : Int32) (I : xI) (J : xJ) : Option ((Int32 × Int32 × Int32 × Int32 × Int32 × xI × xJ) ⊕ ((Int32 × Int32 × Int32 × Int32 × (Option Value) × xI × xJ) ⊕ (Int32 × xI × xJ))) := if x5 < 0 ∨ 8 ≤ x5.toNatClampNeg then none else (f_X12_bits I J).bind fun o => f_X12_coded_16 x1 x2 x3 x4 x5 ((I 90 x5.toNatClampNeg)) o.1 o.2.1 o.2.2
def b_X12_coded_14 (x1 : Int32) (x2 : Int32) (x3 : Int32) (x4 : Int32) (x5 : Int32) (I : xI) (J : xJ) : Option ((Int32 × Int32 × Int32 × Int32 × Int32 × xI × xJ) ⊕ ((Int32 × Int32 × Int32 × Int32 × (Option Value) × xI × xJ) ⊕ (Int32 × xI × xJ))) := if (I 61 52) ≤ x5 then ((f_X12_coded_21 x1 x2 x3 x4 x5 I J)).map .inr else f_X12_coded_15 x1 x2 x3 x4 x5 I J
def f_X12_coded_14 (x1 : Int32) (x2 : Int32) (x3 : Int32) (x4 : Int32) (x5 : Int32) (I : xI) (J : xJ) : Option ((Int32 × Int32 × Int32 × Int32 × (Option Value) × xI × xJ) ⊕ (Int32 × xI × xJ)) := xloop (fun s : Int32 × Int32 × Int32 × Int32 × Int32 × xI × xJ => b_X12_coded_14 s.1 s.2.1 s.2.2.1 s.2.2.2.1 s.2.2.2.2.1 s.2.2.2.2.2.1 s.2.2.2.2.2.2) 5000 (x1, x2, x3, x4, x5, I, J)
def f_X12_coded_13 (x1 : Int32) (x2 : Int32) (x3 : Int32) (x4 : Int32) (z5 : Option Value) (I : xI) (J : xJ) : Option ((Int32 × Int32 × Int32 × Int32 × (Option Value) × xI × xJ) ⊕ (Int32 × xI × xJ)) := f_X12_coded_14 x1 x2 x3 x4 0 I J
def f_X12_coded_12 (x1 : Int32) (x2 : Int32) (x3 : Int32) (x4 : Int32) (z5 : Option Value) (I : xI) (J : xJ) : Option ((Int32 × Int32 × Int32 × Int32 × (Option Value) × xI × xJ) ⊕ (Int32 × xI × xJ)) := (f_X12_laysCubes x4 x2 I J).bind fun o => f_X12_coded_13 x1 x2 x3 x4 z5 o.2.1 o.2.2
def f_X12_coded_11 (x1 : Int32) (x2 : Int32) (x3 : Int32) (x4 : Int32) (z5 : Option Value) (s0 : Int32) (s1 : Int32) (I : xI) (J : xJ) : Option ((Int32 × Int32 × Int32 × Int32 × (Option Value) × xI × xJ) ⊕ (Int32 × xI × xJ)) := if s1 ≤ s0 then ((f_X12_coded_22 x1 x2 x3 x4 z5 I J)).map .inr else f_X12_coded_12 x1 x2 x3 x4 z5 I J
def b_X12_coded_10 (x1 : Int32) (x2 : Int32) (x3 : Int32) (x4 : Int32) (z5 : Option Value) (I : xI) (J : xJ) : Option ((Int32 × Int32 × Int32 × Int32 × (Option Value) × xI × xJ) ⊕ (Int32 × xI × xJ)) := (f_X12_bits I J).bind fun o => f_X12_coded_11 x1 x2 x3 x4 z5 x4 o.1 o.2.1 o.2.2
def f_X12_coded_10 (x1 : Int32) (x2 : Int32) (x3 : Int32) (x4 : Int32) (z5 : Option Value) (I : xI) (J : xJ) : Option (Int32 × xI × xJ) := xloop (fun s : Int32 × Int32 × Int32 × Int32 × (Option Value) × xI × xJ => b_X12_coded_10 s.1 s.2.1 s.2.2.1 s.2.2.2.1 s.2.2.2.2.1 s.2.2.2.2.2.1 s.2.2.2.2.2.2) 5000 (x1, x2, x3, x4, z5, I, J)
def f_X12_coded_9 (x1 : Int32) (x2 : Int32) (I : xI) (J : xJ) : Option (Int32 × xI × xJ) := f_X12_coded_10 x1 x2 0 0 none I J
def f_X12_coded_8 (x1 : Int32) (x2 : Int32) (I : xI) (J : xJ) : Option (Int32 × xI × xJ) := some ((-2), I, J)
def f_X12_coded_7 (x1 : Int32) (x2 : Int32) (s0 : Int32) (I : xI) (J : xJ) : Option (Int32 × xI × xJ) := if s0 = 0 then f_X12_coded_8 x1 x2 I J else f_X12_coded_9 x1 x2 I J
def f_X12_coded_6 (x1 : Int32) (x2 : Int32) (I : xI) (J : xJ) : Option (Int32 × xI × xJ) := (f_X12_isProper I J).bind fun o => f_X12_coded_7 x1 x2 o.1 o.2.1 o.2.2
def f_X12_coded_4 (x1 : Int32) (x2 : Int32) (s0 : Int32) (I : xI) (J : xJ) : Option (Int32 × xI × xJ) := if s0 = 0 then f_X12_coded_5 x1 x2 I J else f_X12_coded_6 x1 x2 I J
def f_X12_coded_3 (x1 : Int32) (x2 : Int32) (I : xI) (J : xJ) : Option (Int32 × xI × xJ) := (f_X12_isInput x2 I J).bind fun o => f_X12_coded_4 x1 x2 o.1 o.2.1 o.2.2
def f_X12_coded_2 (x1 : Int32) (x2 : Int32) (s0 : Int32) (I : xI) (J : xJ) : Option (Int32 × xI × xJ) := if s0 = 0 then f_X12_coded_5 x1 x2 I J else f_X12_coded_3 x1 x2 I J
def f_X12_coded_1 (x1 : Int32) (x2 : Int32) (s0 : Int32) (s1 : Int32) (s2 : Int32) (s3 : Int32) (I : xI) (J : xJ) : Option (Int32 × xI × xJ) := (f_X12_in s0 s1 (((s2 <<< (s3 &&& 31)) - 1)) I J).bind fun o => f_X12_coded_2 x1 x2 o.1 o.2.1 o.2.2
def f_X12_coded_0 (x1 : Int32) (x2 : Int32) (I : xI) (J : xJ) : Option (Int32 × xI × xJ) := (f_X12_bits I J).bind fun o => f_X12_coded_1 x1 x2 x1 0 1 o.1 o.2.1 o.2.2
def f_X12_coded (x1 : Int32) (x2 : Int32) (I : xI) (J : xJ) : Option (Int32 × xI × xJ) := f_X12_coded_0 x1 x2 I J
theorem p_X12_coded_5 {L : Nat} {xs : Nat → Int32} {d : Nat} {Q : xO → Prop} (x1 : Int32) (x2 : Int32) (I : xI) (J : xJ) {t : Int32 × xI × xJ} (h : f_X12_coded_5 x1 x2 I J = some t) (hC : (c_X12_coded Q) t) : Rn L xs (d + 4) 290 24 [some (.ref 61), some (.int x1), some (.int x2), none, none, none] [] 94 (I, J, xrf) Q := by
  unfold f_X12_coded_5 at h
  cases h
  exact Rn.ret 2 (o := ((some (.int ((-1)))), 94, (I, J, xrf))) (fun f => rfl) hC
theorem p_X12_coded_22 {L : Nat} {xs : Nat → Int32} {d : Nat} {Q : xO → Prop} (x1 : Int32) (x2 : Int32) (x3 : Int32) (x4 : Int32) (z5 : Option Value) (I : xI) (J : xJ) {t : Int32 × xI × xJ} (h : f_X12_coded_22 x1 x2 x3 x4 z5 I J = some t) (hC : (c_X12_coded Q) t) : Rn L xs (d + 4) 290 109 [some (.ref 61), some (.int x1), some (.int x2), some (.int x3), some (.int x4), z5] [] 94 (I, J, xrf) Q := by
  unfold f_X12_coded_22 at h
  cases h
  exact Rn.ret 2 (o := ((some (.int x3)), 94, (I, J, xrf))) (fun f => rfl) hC
theorem p_X12_coded_21 {L : Nat} {xs : Nat → Int32} {d : Nat} {Q : xO → Prop} (x1 : Int32) (x2 : Int32) (x3 : Int32) (x4 : Int32) (x5 : Int32) (I : xI) (J : xJ) {t : (Int32 × Int32 × Int32 × Int32 × (Option Value) × xI × xJ) ⊕ (Int32 × xI × xJ)} (h : f_X12_coded_21 x1 x2 x3 x4 x5 I J = some t) (hC : (c_X12_coded_10 L xs d Q) t) : Rn L xs (d + 4) 290 103 [some (.ref 61), some (.int x1), some (.int x2), some (.int x3), some (.int x4), some (.int x5)] [] 94 (I, J, xrf) Q := by
  unfold f_X12_coded_21 at h
  refine Rn.go 2 (j' := 290) (pc' := 41) (ls' := [some (.ref 61), some (.int x1), some (.int x2), some (.int x3), some (.int ((x4 + 1))), some (.int x5)]) (st' := []) (n' := 94) (M' := (I, J, xrf)) (fun f => rfl) ?_
  cases h; exact hC
theorem p_X12_coded_20 {L : Nat} {xs : Nat → Int32} {d : Nat} {Q : xO → Prop} (x1 : Int32) (x2 : Int32) (x3 : Int32) (x4 : Int32) (x5 : Int32) (I : xI) (J : xJ) {t : (Int32 × Int32 × Int32 × Int32 × Int32 × xI × xJ) ⊕ ((Int32 × Int32 × Int32 × Int32 × (Option Value) × xI × xJ) ⊕ (Int32 × xI × xJ))} (h : f_X12_coded_20 x1 x2 x3 x4 x5 I J = some t) (hC : (c_X12_coded_14 L xs d Q) t) : Rn L xs (d + 4) 290 97 [some (.ref 61), some (.int x1), some (.int x2), some (.int x3), some (.int x4), some (.int x5)] [] 94 (I, J, xrf) Q := by
  unfold f_X12_coded_20 at h
  refine Rn.go 2 (j' := 290) (pc' := 60) (ls' := [some (.ref 61), some (.int x1), some (.int x2), some (.int x3), some (.int x4), some (.int ((x5 + 1)))]) (st' := []) (n' := 94) (M' := (I, J, xrf)) (fun f => rfl) ?_
  cases h; exact hC
theorem p_X12_coded_19 {L : Nat} {xs : Nat → Int32} {d : Nat} {Q : xO → Prop} (x1 : Int32) (x2 : Int32) (x3 : Int32) (x4 : Int32) (x5 : Int32) (I : xI) (J : xJ) {t : (Int32 × Int32 × Int32 × Int32 × Int32 × xI × xJ) ⊕ ((Int32 × Int32 × Int32 × Int32 × (Option Value) × xI × xJ) ⊕ (Int32 × xI × xJ))} (h : f_X12_coded_19 x1 x2 x3 x4 x5 I J = some t) (hC : (c_X12_coded_14 L xs d Q) t) : Rn L xs (d + 4) 290 90 [some (.ref 61), some (.int x1), some (.int x2), some (.int x3), some (.int x4), some (.int x5)] [] 94 (I, J, xrf) Q := by
  unfold f_X12_coded_19 at h
  refine Rn.go 6 (j' := 290) (pc' := 97) (ls' := [some (.ref 61), some (.int x1), some (.int x2), some (.int ((x3 ||| (1 <<< (x4 &&& 31))))), some (.int x4), some (.int x5)]) (st' := []) (n' := 94) (M' := (I, J, xrf)) (fun f => rfl) ?_
  exact p_X12_coded_20 x1 x2 ((x3 ||| (1 <<< (x4 &&& 31)))) x4 x5 I J h hC
theorem p_X12_coded_18 {L : Nat} {xs : Nat → Int32} {d : Nat} {Q : xO → Prop} (x1 : Int32) (x2 : Int32) (x3 : Int32) (x4 : Int32) (x5 : Int32) (s0 : Int32) (I : xI) (J : xJ) {t : (Int32 × Int32 × Int32 × Int32 × Int32 × xI × xJ) ⊕ ((Int32 × Int32 × Int32 × Int32 × (Option Value) × xI × xJ) ⊕ (Int32 × xI × xJ))} (h : f_X12_coded_18 x1 x2 x3 x4 x5 s0 I J = some t) (hC : (c_X12_coded_14 L xs d Q) t) : Rn L xs (d + 4) 290 87 [some (.ref 61), some (.int x1), some (.int x2), some (.int x3), some (.int x4), some (.int x5)] [.int s0] 94 (I, J, xrf) Q := by
  unfold f_X12_coded_18 at h
  refine Rn.fi 1 (c := s0 = 0) (p1 := 97) (l1 := [some (.ref 61), some (.int x1), some (.int x2), some (.int x3), some (.int x4), some (.int x5)]) (s1 := []) (n1 := 94) (M1 := (I, J, xrf)) (p2 := 90) (l2 := [some (.ref 61), some (.int x1), some (.int x2), some (.int x3), some (.int x4), some (.int x5)]) (s2 := []) (n2 := 94) (M2 := (I, J, xrf)) (fun f => rfl) (fun hc => ?_) (fun hc => ?_)
  · rw [if_pos hc] at h
    exact p_X12_coded_20 x1 x2 x3 x4 x5 I J h hC
  · rw [if_neg hc] at h
    exact p_X12_coded_19 x1 x2 x3 x4 x5 I J h hC
theorem p_X12_coded_17 {L : Nat} {xs : Nat → Int32} {d : Nat} {Q : xO → Prop} (x1 : Int32) (x2 : Int32) (x3 : Int32) (x4 : Int32) (x5 : Int32) (s0 : Int32) (I : xI) (J : xJ) {t : (Int32 × Int32 × Int32 × Int32 × Int32 × xI × xJ) ⊕ ((Int32 × Int32 × Int32 × Int32 × (Option Value) × xI × xJ) ⊕ (Int32 × xI × xJ))} (h : f_X12_coded_17 x1 x2 x3 x4 x5 s0 I J = some t) (hC : (c_X12_coded_14 L xs d Q) t) : Rn L xs (d + 4) 290 83 [some (.ref 61), some (.int x1), some (.int x2), some (.int x3), some (.int x4), some (.int x5)] [.int s0] 94 (I, J, xrf) Q := by
  unfold f_X12_coded_17 at h
  refine Rn.go 1 (j' := 290) (pc' := 84) (ls' := [some (.ref 61), some (.int x1), some (.int x2), some (.int x3), some (.int x4), some (.int x5)]) (st' := [.int x1, .int s0]) (n' := 94) (M' := (I, J, xrf)) (fun f => rfl) ?_
  obtain ⟨o, ho, h⟩ := Option.bind_eq_some_iff.mp h
  refine Rn.call (d1 := d + 3) (j1 := 214) (ls1 := [some (.int s0), some (.int x1)]) (rest := []) (fun f => rfl) ?_
  refine p_X12_has (d := d + 2) s0 x1 I J (t := o) ho ?_
  exact p_X12_coded_18 x1 x2 x3 x4 x5 o.1 o.2.1 o.2.2 h hC
theorem p_X12_coded_16 {L : Nat} {xs : Nat → Int32} {d : Nat} {Q : xO → Prop} (x1 : Int32) (x2 : Int32) (x3 : Int32) (x4 : Int32) (x5 : Int32) (s0 : Int32) (s1 : Int32) (I : xI) (J : xJ) {t : (Int32 × Int32 × Int32 × Int32 × Int32 × xI × xJ) ⊕ ((Int32 × Int32 × Int32 × Int32 × (Option Value) × xI × xJ) ⊕ (Int32 × xI × xJ))} (h : f_X12_coded_16 x1 x2 x3 x4 x5 s0 s1 I J = some t) (hC : (c_X12_coded_14 L xs d Q) t) : Rn L xs (d + 4) 290 80 [some (.ref 61), some (.int x1), some (.int x2), some (.int x3), some (.int x4), some (.int x5)] [.int s1, .int s0] 94 (I, J, xrf) Q := by
  unfold f_X12_coded_16 at h
  obtain ⟨o, ho, h⟩ := Option.bind_eq_some_iff.mp h
  refine Rn.call (d1 := d + 3) (j1 := 280) (ls1 := [some (.int s0), some (.int s1), none, none, none, none, none]) (rest := []) (fun f => rfl) ?_
  refine p_X12_heldBy (d := d + 2) s0 s1 I J (t := o) ho ?_
  exact p_X12_coded_17 x1 x2 x3 x4 x5 o.1 o.2.1 o.2.2 h hC
theorem p_X12_coded_15 {L : Nat} {xs : Nat → Int32} {d : Nat} {Q : xO → Prop} (x1 : Int32) (x2 : Int32) (x3 : Int32) (x4 : Int32) (x5 : Int32) (I : xI) (J : xJ) {t : (Int32 × Int32 × Int32 × Int32 × Int32 × xI × xJ) ⊕ ((Int32 × Int32 × Int32 × Int32 × (Option Value) × xI × xJ) ⊕ (Int32 × xI × xJ))} (h : f_X12_coded_15 x1 x2 x3 x4 x5 I J = some t) (hC : (c_X12_coded_14 L xs d Q) t) : Rn L xs (d + 4) 290 69 [some (.ref 61), some (.int x1), some (.int x2), some (.int x3), some (.int x4), some (.int x5)] [] 94 (I, J, xrf) Q := by
  unfold f_X12_coded_15 at h
  obtain ⟨hc, h⟩ := xif h
  refine Rn.ok 4 (c := x5 < 0 ∨ 8 ≤ x5.toNatClampNeg) (p1 := 76) (l1 := [some (.ref 61), some (.int x1), some (.int x2), some (.int x3), some (.int x4), some (.int x5)]) (s1 := [.int ((I 90 x5.toNatClampNeg))]) (n1 := 94) (M1 := (I, J, xrf)) (fun f => rfl) hc ?_
  refine Rn.go 1 (j' := 290) (pc' := 77) (ls' := [some (.ref 61), some (.int x1), some (.int x2), some (.int x3), some (.int x4), some (.int x5)]) (st' := [.ref 61, .int ((I 90 x5.toNatClampNeg))]) (n' := 94) (M' := (I, J, xrf)) (fun f => rfl) ?_
  obtain ⟨o, ho, h⟩ := Option.bind_eq_some_iff.mp h
  refine Rn.call (d1 := d + 3) (j1 := 272) (ls1 := [some (.ref 61)]) (rest := [.int ((I 90 x5.toNatClampNeg))]) (fun f => rfl) ?_
  refine p_X12_bits (d := d + 2) I J (t := o) ho ?_
  exact p_X12_coded_16 x1 x2 x3 x4 x5 ((I 90 x5.toNatClampNeg)) o.1 o.2.1 o.2.2 h hC
theorem q_X12_coded_14 {L : Nat} {xs : Nat → Int32} {d : Nat} {Q : xO → Prop} (x1 : Int32) (x2 : Int32) (x3 : Int32) (x4 : Int32) (x5 : Int32) (I : xI) (J : xJ) {t : (Int32 × Int32 × Int32 × Int32 × Int32 × xI × xJ) ⊕ ((Int32 × Int32 × Int32 × Int32 × (Option Value) × xI × xJ) ⊕ (Int32 × xI × xJ))} (h : b_X12_coded_14 x1 x2 x3 x4 x5 I J = some t) (hC : (c_X12_coded_14 L xs d Q) t) : Rn L xs (d + 4) 290 60 [some (.ref 61), some (.int x1), some (.int x2), some (.int x3), some (.int x4), some (.int x5)] [] 94 (I, J, xrf) Q := by
  unfold b_X12_coded_14 at h
  refine Rn.fi 4 (c := (I 61 52) ≤ x5) (p1 := 103) (l1 := [some (.ref 61), some (.int x1), some (.int x2), some (.int x3), some (.int x4), some (.int x5)]) (s1 := []) (n1 := 94) (M1 := (I, J, xrf)) (p2 := 69) (l2 := [some (.ref 61), some (.int x1), some (.int x2), some (.int x3), some (.int x4), some (.int x5)]) (s2 := []) (n2 := 94) (M2 := (I, J, xrf)) (fun f => rfl) (fun hc => ?_) (fun hc => ?_)
  · rw [if_pos hc] at h
    obtain ⟨t0, h0, rfl⟩ := Option.map_eq_some_iff.mp h
    exact p_X12_coded_21 x1 x2 x3 x4 x5 I J h0 hC
  · rw [if_neg hc] at h
    exact p_X12_coded_15 x1 x2 x3 x4 x5 I J h hC
theorem p_X12_coded_14 {L : Nat} {xs : Nat → Int32} {d : Nat} {Q : xO → Prop} (x1 : Int32) (x2 : Int32) (x3 : Int32) (x4 : Int32) (x5 : Int32) (I : xI) (J : xJ) {t : (Int32 × Int32 × Int32 × Int32 × (Option Value) × xI × xJ) ⊕ (Int32 × xI × xJ)} (h : f_X12_coded_14 x1 x2 x3 x4 x5 I J = some t) (hC : (c_X12_coded_10 L xs d Q) t) : Rn L xs (d + 4) 290 60 [some (.ref 61), some (.int x1), some (.int x2), some (.int x3), some (.int x4), some (.int x5)] [] 94 (I, J, xrf) Q := by
  unfold f_X12_coded_14 at h
  exact xloop_some (P := fun s : Int32 × Int32 × Int32 × Int32 × Int32 × xI × xJ => Rn L xs (d + 4) 290 60 [some (.ref 61), some (.int s.1), some (.int s.2.1), some (.int s.2.2.1), some (.int s.2.2.2.1), some (.int s.2.2.2.2.1)] [] 94 (s.2.2.2.2.2.1, s.2.2.2.2.2.2, xrf) Q) t (fun s ⟨s', hb, hp⟩ => q_X12_coded_14 s.1 s.2.1 s.2.2.1 s.2.2.2.1 s.2.2.2.2.1 s.2.2.2.2.2.1 s.2.2.2.2.2.2 hb hp) (fun s hb => q_X12_coded_14 s.1 s.2.1 s.2.2.1 s.2.2.2.1 s.2.2.2.2.1 s.2.2.2.2.2.1 s.2.2.2.2.2.2 hb hC) _ _ h
theorem p_X12_coded_13 {L : Nat} {xs : Nat → Int32} {d : Nat} {Q : xO → Prop} (x1 : Int32) (x2 : Int32) (x3 : Int32) (x4 : Int32) (z5 : Option Value) (I : xI) (J : xJ) {t : (Int32 × Int32 × Int32 × Int32 × (Option Value) × xI × xJ) ⊕ (Int32 × xI × xJ)} (h : f_X12_coded_13 x1 x2 x3 x4 z5 I J = some t) (hC : (c_X12_coded_10 L xs d Q) t) : Rn L xs (d + 4) 290 57 [some (.ref 61), some (.int x1), some (.int x2), some (.int x3), some (.int x4), z5] [] 94 (I, J, xrf) Q := by
  unfold f_X12_coded_13 at h
  refine Rn.go 2 (j' := 290) (pc' := 60) (ls' := [some (.ref 61), some (.int x1), some (.int x2), some (.int x3), some (.int x4), some (.int 0)]) (st' := []) (n' := 94) (M' := (I, J, xrf)) (fun f => rfl) ?_
  exact p_X12_coded_14 x1 x2 x3 x4 0 I J h hC
theorem p_X12_coded_12 {L : Nat} {xs : Nat → Int32} {d : Nat} {Q : xO → Prop} (x1 : Int32) (x2 : Int32) (x3 : Int32) (x4 : Int32) (z5 : Option Value) (I : xI) (J : xJ) {t : (Int32 × Int32 × Int32 × Int32 × (Option Value) × xI × xJ) ⊕ (Int32 × xI × xJ)} (h : f_X12_coded_12 x1 x2 x3 x4 z5 I J = some t) (hC : (c_X12_coded_10 L xs d Q) t) : Rn L xs (d + 4) 290 50 [some (.ref 61), some (.int x1), some (.int x2), some (.int x3), some (.int x4), z5] [] 94 (I, J, xrf) Q := by
  unfold f_X12_coded_12 at h
  refine Rn.go 3 (j' := 290) (pc' := 54) (ls' := [some (.ref 61), some (.int x1), some (.int x2), some (.int x3), some (.int x4), z5]) (st' := [.int x2, .int x4, .ref 61]) (n' := 94) (M' := (I, J, xrf)) (fun f => rfl) ?_
  obtain ⟨o, ho, h⟩ := Option.bind_eq_some_iff.mp h
  refine Rn.call (d1 := d + 3) (j1 := 286) (ls1 := [some (.ref 61), some (.int x4), some (.int x2), none, none, none, none]) (rest := []) (fun f => rfl) ?_
  refine p_X12_laysCubes (d := d + 0) x4 x2 I J (t := o) ho ?_
  exact p_X12_coded_13 x1 x2 x3 x4 z5 o.2.1 o.2.2 h hC
theorem p_X12_coded_11 {L : Nat} {xs : Nat → Int32} {d : Nat} {Q : xO → Prop} (x1 : Int32) (x2 : Int32) (x3 : Int32) (x4 : Int32) (z5 : Option Value) (s0 : Int32) (s1 : Int32) (I : xI) (J : xJ) {t : (Int32 × Int32 × Int32 × Int32 × (Option Value) × xI × xJ) ⊕ (Int32 × xI × xJ)} (h : f_X12_coded_11 x1 x2 x3 x4 z5 s0 s1 I J = some t) (hC : (c_X12_coded_10 L xs d Q) t) : Rn L xs (d + 4) 290 47 [some (.ref 61), some (.int x1), some (.int x2), some (.int x3), some (.int x4), z5] [.int s1, .int s0] 94 (I, J, xrf) Q := by
  unfold f_X12_coded_11 at h
  refine Rn.fi 1 (c := s1 ≤ s0) (p1 := 109) (l1 := [some (.ref 61), some (.int x1), some (.int x2), some (.int x3), some (.int x4), z5]) (s1 := []) (n1 := 94) (M1 := (I, J, xrf)) (p2 := 50) (l2 := [some (.ref 61), some (.int x1), some (.int x2), some (.int x3), some (.int x4), z5]) (s2 := []) (n2 := 94) (M2 := (I, J, xrf)) (fun f => rfl) (fun hc => ?_) (fun hc => ?_)
  · rw [if_pos hc] at h
    obtain ⟨t0, h0, rfl⟩ := Option.map_eq_some_iff.mp h
    exact p_X12_coded_22 x1 x2 x3 x4 z5 I J h0 hC
  · rw [if_neg hc] at h
    exact p_X12_coded_12 x1 x2 x3 x4 z5 I J h hC
theorem q_X12_coded_10 {L : Nat} {xs : Nat → Int32} {d : Nat} {Q : xO → Prop} (x1 : Int32) (x2 : Int32) (x3 : Int32) (x4 : Int32) (z5 : Option Value) (I : xI) (J : xJ) {t : (Int32 × Int32 × Int32 × Int32 × (Option Value) × xI × xJ) ⊕ (Int32 × xI × xJ)} (h : b_X12_coded_10 x1 x2 x3 x4 z5 I J = some t) (hC : (c_X12_coded_10 L xs d Q) t) : Rn L xs (d + 4) 290 41 [some (.ref 61), some (.int x1), some (.int x2), some (.int x3), some (.int x4), z5] [] 94 (I, J, xrf) Q := by
  unfold b_X12_coded_10 at h
  refine Rn.go 2 (j' := 290) (pc' := 44) (ls' := [some (.ref 61), some (.int x1), some (.int x2), some (.int x3), some (.int x4), z5]) (st' := [.ref 61, .int x4]) (n' := 94) (M' := (I, J, xrf)) (fun f => rfl) ?_
  obtain ⟨o, ho, h⟩ := Option.bind_eq_some_iff.mp h
  refine Rn.call (d1 := d + 3) (j1 := 272) (ls1 := [some (.ref 61)]) (rest := [.int x4]) (fun f => rfl) ?_
  refine p_X12_bits (d := d + 2) I J (t := o) ho ?_
  exact p_X12_coded_11 x1 x2 x3 x4 z5 x4 o.1 o.2.1 o.2.2 h hC
theorem p_X12_coded_10 {L : Nat} {xs : Nat → Int32} {d : Nat} {Q : xO → Prop} (x1 : Int32) (x2 : Int32) (x3 : Int32) (x4 : Int32) (z5 : Option Value) (I : xI) (J : xJ) {t : Int32 × xI × xJ} (h : f_X12_coded_10 x1 x2 x3 x4 z5 I J = some t) (hC : (c_X12_coded Q) t) : Rn L xs (d + 4) 290 41 [some (.ref 61), some (.int x1), some (.int x2), some (.int x3), some (.int x4), z5] [] 94 (I, J, xrf) Q := by
  unfold f_X12_coded_10 at h
  exact xloop_some (P := fun s : Int32 × Int32 × Int32 × Int32 × (Option Value) × xI × xJ => Rn L xs (d + 4) 290 41 [some (.ref 61), some (.int s.1), some (.int s.2.1), some (.int s.2.2.1), some (.int s.2.2.2.1), s.2.2.2.2.1] [] 94 (s.2.2.2.2.2.1, s.2.2.2.2.2.2, xrf) Q) t (fun s ⟨s', hb, hp⟩ => q_X12_coded_10 s.1 s.2.1 s.2.2.1 s.2.2.2.1 s.2.2.2.2.1 s.2.2.2.2.2.1 s.2.2.2.2.2.2 hb hp) (fun s hb => q_X12_coded_10 s.1 s.2.1 s.2.2.1 s.2.2.2.1 s.2.2.2.2.1 s.2.2.2.2.2.1 s.2.2.2.2.2.2 hb hC) _ _ h
theorem p_X12_coded_9 {L : Nat} {xs : Nat → Int32} {d : Nat} {Q : xO → Prop} (x1 : Int32) (x2 : Int32) (I : xI) (J : xJ) {t : Int32 × xI × xJ} (h : f_X12_coded_9 x1 x2 I J = some t) (hC : (c_X12_coded Q) t) : Rn L xs (d + 4) 290 36 [some (.ref 61), some (.int x1), some (.int x2), none, none, none] [] 94 (I, J, xrf) Q := by
  unfold f_X12_coded_9 at h
  refine Rn.go 4 (j' := 290) (pc' := 41) (ls' := [some (.ref 61), some (.int x1), some (.int x2), some (.int 0), some (.int 0), none]) (st' := []) (n' := 94) (M' := (I, J, xrf)) (fun f => rfl) ?_
  exact p_X12_coded_10 x1 x2 0 0 none I J h hC
theorem p_X12_coded_8 {L : Nat} {xs : Nat → Int32} {d : Nat} {Q : xO → Prop} (x1 : Int32) (x2 : Int32) (I : xI) (J : xJ) {t : Int32 × xI × xJ} (h : f_X12_coded_8 x1 x2 I J = some t) (hC : (c_X12_coded Q) t) : Rn L xs (d + 4) 290 33 [some (.ref 61), some (.int x1), some (.int x2), none, none, none] [] 94 (I, J, xrf) Q := by
  unfold f_X12_coded_8 at h
  cases h
  exact Rn.ret 2 (o := ((some (.int ((-2)))), 94, (I, J, xrf))) (fun f => rfl) hC
theorem p_X12_coded_7 {L : Nat} {xs : Nat → Int32} {d : Nat} {Q : xO → Prop} (x1 : Int32) (x2 : Int32) (s0 : Int32) (I : xI) (J : xJ) {t : Int32 × xI × xJ} (h : f_X12_coded_7 x1 x2 s0 I J = some t) (hC : (c_X12_coded Q) t) : Rn L xs (d + 4) 290 30 [some (.ref 61), some (.int x1), some (.int x2), none, none, none] [.int s0] 94 (I, J, xrf) Q := by
  unfold f_X12_coded_7 at h
  refine Rn.fi 1 (c := s0 = 0) (p1 := 33) (l1 := [some (.ref 61), some (.int x1), some (.int x2), none, none, none]) (s1 := []) (n1 := 94) (M1 := (I, J, xrf)) (p2 := 36) (l2 := [some (.ref 61), some (.int x1), some (.int x2), none, none, none]) (s2 := []) (n2 := 94) (M2 := (I, J, xrf)) (fun f => rfl) (fun hc => ?_) (fun hc => ?_)
  · rw [if_pos hc] at h
    exact p_X12_coded_8 x1 x2 I J h hC
  · rw [if_neg hc] at h
    exact p_X12_coded_9 x1 x2 I J h hC
theorem p_X12_coded_6 {L : Nat} {xs : Nat → Int32} {d : Nat} {Q : xO → Prop} (x1 : Int32) (x2 : Int32) (I : xI) (J : xJ) {t : Int32 × xI × xJ} (h : f_X12_coded_6 x1 x2 I J = some t) (hC : (c_X12_coded Q) t) : Rn L xs (d + 4) 290 26 [some (.ref 61), some (.int x1), some (.int x2), none, none, none] [] 94 (I, J, xrf) Q := by
  unfold f_X12_coded_6 at h
  refine Rn.go 1 (j' := 290) (pc' := 27) (ls' := [some (.ref 61), some (.int x1), some (.int x2), none, none, none]) (st' := [.ref 61]) (n' := 94) (M' := (I, J, xrf)) (fun f => rfl) ?_
  obtain ⟨o, ho, h⟩ := Option.bind_eq_some_iff.mp h
  refine Rn.call (d1 := d + 3) (j1 := 274) (ls1 := [some (.ref 61), none, none]) (rest := []) (fun f => rfl) ?_
  refine p_X12_isProper (d := d + 1) I J (t := o) ho ?_
  exact p_X12_coded_7 x1 x2 o.1 o.2.1 o.2.2 h hC
theorem p_X12_coded_4 {L : Nat} {xs : Nat → Int32} {d : Nat} {Q : xO → Prop} (x1 : Int32) (x2 : Int32) (s0 : Int32) (I : xI) (J : xJ) {t : Int32 × xI × xJ} (h : f_X12_coded_4 x1 x2 s0 I J = some t) (hC : (c_X12_coded Q) t) : Rn L xs (d + 4) 290 21 [some (.ref 61), some (.int x1), some (.int x2), none, none, none] [.int s0] 94 (I, J, xrf) Q := by
  unfold f_X12_coded_4 at h
  refine Rn.fi 1 (c := s0 = 0) (p1 := 24) (l1 := [some (.ref 61), some (.int x1), some (.int x2), none, none, none]) (s1 := []) (n1 := 94) (M1 := (I, J, xrf)) (p2 := 26) (l2 := [some (.ref 61), some (.int x1), some (.int x2), none, none, none]) (s2 := []) (n2 := 94) (M2 := (I, J, xrf)) (fun f => rfl) (fun hc => ?_) (fun hc => ?_)
  · rw [if_pos hc] at h
    exact p_X12_coded_5 x1 x2 I J h hC
  · rw [if_neg hc] at h
    exact p_X12_coded_6 x1 x2 I J h hC
theorem p_X12_coded_3 {L : Nat} {xs : Nat → Int32} {d : Nat} {Q : xO → Prop} (x1 : Int32) (x2 : Int32) (I : xI) (J : xJ) {t : Int32 × xI × xJ} (h : f_X12_coded_3 x1 x2 I J = some t) (hC : (c_X12_coded Q) t) : Rn L xs (d + 4) 290 16 [some (.ref 61), some (.int x1), some (.int x2), none, none, none] [] 94 (I, J, xrf) Q := by
  unfold f_X12_coded_3 at h
  refine Rn.go 2 (j' := 290) (pc' := 18) (ls' := [some (.ref 61), some (.int x1), some (.int x2), none, none, none]) (st' := [.int x2, .ref 61]) (n' := 94) (M' := (I, J, xrf)) (fun f => rfl) ?_
  obtain ⟨o, ho, h⟩ := Option.bind_eq_some_iff.mp h
  refine Rn.call (d1 := d + 3) (j1 := 208) (ls1 := [some (.ref 61), some (.int x2)]) (rest := []) (fun f => rfl) ?_
  refine p_X12_isInput (d := d + 1) x2 I J (t := o) ho ?_
  exact p_X12_coded_4 x1 x2 o.1 o.2.1 o.2.2 h hC
theorem p_X12_coded_2 {L : Nat} {xs : Nat → Int32} {d : Nat} {Q : xO → Prop} (x1 : Int32) (x2 : Int32) (s0 : Int32) (I : xI) (J : xJ) {t : Int32 × xI × xJ} (h : f_X12_coded_2 x1 x2 s0 I J = some t) (hC : (c_X12_coded Q) t) : Rn L xs (d + 4) 290 13 [some (.ref 61), some (.int x1), some (.int x2), none, none, none] [.int s0] 94 (I, J, xrf) Q := by
  unfold f_X12_coded_2 at h
  refine Rn.fi 1 (c := s0 = 0) (p1 := 24) (l1 := [some (.ref 61), some (.int x1), some (.int x2), none, none, none]) (s1 := []) (n1 := 94) (M1 := (I, J, xrf)) (p2 := 16) (l2 := [some (.ref 61), some (.int x1), some (.int x2), none, none, none]) (s2 := []) (n2 := 94) (M2 := (I, J, xrf)) (fun f => rfl) (fun hc => ?_) (fun hc => ?_)
  · rw [if_pos hc] at h
    exact p_X12_coded_5 x1 x2 I J h hC
  · rw [if_neg hc] at h
    exact p_X12_coded_3 x1 x2 I J h hC
theorem p_X12_coded_1 {L : Nat} {xs : Nat → Int32} {d : Nat} {Q : xO → Prop} (x1 : Int32) (x2 : Int32) (s0 : Int32) (s1 : Int32) (s2 : Int32) (s3 : Int32) (I : xI) (J : xJ) {t : Int32 × xI × xJ} (h : f_X12_coded_1 x1 x2 s0 s1 s2 s3 I J = some t) (hC : (c_X12_coded Q) t) : Rn L xs (d + 4) 290 7 [some (.ref 61), some (.int x1), some (.int x2), none, none, none] [.int s3, .int s2, .int s1, .int s0] 94 (I, J, xrf) Q := by
  unfold f_X12_coded_1 at h
  refine Rn.go 3 (j' := 290) (pc' := 10) (ls' := [some (.ref 61), some (.int x1), some (.int x2), none, none, none]) (st' := [.int (((s2 <<< (s3 &&& 31)) - 1)), .int s1, .int s0]) (n' := 94) (M' := (I, J, xrf)) (fun f => rfl) ?_
  obtain ⟨o, ho, h⟩ := Option.bind_eq_some_iff.mp h
  refine Rn.call (d1 := d + 3) (j1 := 206) (ls1 := [some (.int s0), some (.int s1), some (.int (((s2 <<< (s3 &&& 31)) - 1)))]) (rest := []) (fun f => rfl) ?_
  refine p_X12_in (d := d + 2) s0 s1 (((s2 <<< (s3 &&& 31)) - 1)) I J (t := o) ho ?_
  exact p_X12_coded_2 x1 x2 o.1 o.2.1 o.2.2 h hC
theorem p_X12_coded_0 {L : Nat} {xs : Nat → Int32} {d : Nat} {Q : xO → Prop} (x1 : Int32) (x2 : Int32) (I : xI) (J : xJ) {t : Int32 × xI × xJ} (h : f_X12_coded_0 x1 x2 I J = some t) (hC : (c_X12_coded Q) t) : Rn L xs (d + 4) 290 0 [some (.ref 61), some (.int x1), some (.int x2), none, none, none] [] 94 (I, J, xrf) Q := by
  unfold f_X12_coded_0 at h
  refine Rn.go 4 (j' := 290) (pc' := 4) (ls' := [some (.ref 61), some (.int x1), some (.int x2), none, none, none]) (st' := [.ref 61, .int 1, .int 0, .int x1]) (n' := 94) (M' := (I, J, xrf)) (fun f => rfl) ?_
  obtain ⟨o, ho, h⟩ := Option.bind_eq_some_iff.mp h
  refine Rn.call (d1 := d + 3) (j1 := 272) (ls1 := [some (.ref 61)]) (rest := [.int 1, .int 0, .int x1]) (fun f => rfl) ?_
  refine p_X12_bits (d := d + 2) I J (t := o) ho ?_
  exact p_X12_coded_1 x1 x2 x1 0 1 o.1 o.2.1 o.2.2 h hC
theorem p_X12_coded {L : Nat} {xs : Nat → Int32} {d : Nat} {Q : xO → Prop} (x1 : Int32) (x2 : Int32) (I : xI) (J : xJ) {t : Int32 × xI × xJ} (h : f_X12_coded x1 x2 I J = some t) (hC : Q ((some (.int t.1)), 94, (t.2.1, t.2.2, xrf))) : Rn L xs (d + 4) 290 0 [some (.ref 61), some (.int x1), some (.int x2), none, none, none] [] 94 (I, J, xrf) Q := p_X12_coded_0 x1 x2 I J h hC
/-! X12_isTaken -/
def c_X12_isTaken (Q : xO → Prop) (t : Int32 × xI × xJ) : Prop := Q ((some (.int t.1)), 94, (t.2.1, t.2.2, xrf))
def c_X12_isTaken_1 (L : Nat) (xs : Nat → Int32) (d : Nat) (Q : xO → Prop) (t : (Int32 × Int32 × xI × xJ) ⊕ (Int32 × xI × xJ)) : Prop := match t with
  | .inl s => Rn L xs (d + 1) 292 2 [some (.ref 61), some (.int s.1), some (.int s.2.1)] [] 94 (s.2.2.1, s.2.2.2, xrf) Q
  | .inr t => (c_X12_isTaken Q) t
def f_X12_isTaken_5 (x1 : Int32) (x2 : Int32) (I : xI) (J : xJ) : Option (Int32 × xI × xJ) := some (0, I, J)
def f_X12_isTaken_4 (x1 : Int32) (x2 : Int32) (I : xI) (J : xJ) : Option ((Int32 × Int32 × xI × xJ) ⊕ (Int32 × xI × xJ)) := some (.inl (x1, ((x2 + 1)), I, J))
def f_X12_isTaken_3 (x1 : Int32) (x2 : Int32) (I : xI) (J : xJ) : Option (Int32 × xI × xJ) := some (1, I, J)
def f_X12_isTaken_2 (x1 : Int32) (x2 : Int32) (I : xI) (J : xJ) : Option ((Int32 × Int32 × xI × xJ) ⊕ (Int32 × xI × xJ)) := if x2 < 0 ∨ 6 ≤ x2.toNatClampNeg then none else if x1 < 0 ∨ 6 ≤ x1.toNatClampNeg then none else if (I 86 x2.toNatClampNeg) = (I 86 x1.toNatClampNeg) then ((f_X12_isTaken_3 x1 x2 I J)).map .inr else f_X12_isTaken_4 x1 x2 I J
def b_X12_isTaken_1 (x1 : Int32) (x2 : Int32) (I : xI) (J : xJ) : Option ((Int32 × Int32 × xI × xJ) ⊕ (Int32 × xI × xJ)) := if x1 ≤ x2 then ((f_X12_isTaken_5 x1 x2 I J)).map .inr else f_X12_isTaken_2 x1 x2 I J
def f_X12_isTaken_1 (x1 : Int32) (x2 : Int32) (I : xI) (J : xJ) : Option (Int32 × xI × xJ) := xloop (fun s : Int32 × Int32 × xI × xJ => b_X12_isTaken_1 s.1 s.2.1 s.2.2.1 s.2.2.2) 5000 (x1, x2, I, J)
def f_X12_isTaken_0 (x1 : Int32) (I : xI) (J : xJ) : Option (Int32 × xI × xJ) := f_X12_isTaken_1 x1 0 I J
def f_X12_isTaken (x1 : Int32) (I : xI) (J : xJ) : Option (Int32 × xI × xJ) := f_X12_isTaken_0 x1 I J
theorem p_X12_isTaken_5 {L : Nat} {xs : Nat → Int32} {d : Nat} {Q : xO → Prop} (x1 : Int32) (x2 : Int32) (I : xI) (J : xJ) {t : Int32 × xI × xJ} (h : f_X12_isTaken_5 x1 x2 I J = some t) (hC : (c_X12_isTaken Q) t) : Rn L xs (d + 1) 292 30 [some (.ref 61), some (.int x1), some (.int x2)] [] 94 (I, J, xrf) Q := by
  unfold f_X12_isTaken_5 at h
  cases h
  exact Rn.ret 2 (o := ((some (.int 0)), 94, (I, J, xrf))) (fun f => rfl) hC
theorem p_X12_isTaken_4 {L : Nat} {xs : Nat → Int32} {d : Nat} {Q : xO → Prop} (x1 : Int32) (x2 : Int32) (I : xI) (J : xJ) {t : (Int32 × Int32 × xI × xJ) ⊕ (Int32 × xI × xJ)} (h : f_X12_isTaken_4 x1 x2 I J = some t) (hC : (c_X12_isTaken_1 L xs d Q) t) : Rn L xs (d + 1) 292 24 [some (.ref 61), some (.int x1), some (.int x2)] [] 94 (I, J, xrf) Q := by
  unfold f_X12_isTaken_4 at h
  refine Rn.go 2 (j' := 292) (pc' := 2) (ls' := [some (.ref 61), some (.int x1), some (.int ((x2 + 1)))]) (st' := []) (n' := 94) (M' := (I, J, xrf)) (fun f => rfl) ?_
  cases h; exact hC
theorem p_X12_isTaken_3 {L : Nat} {xs : Nat → Int32} {d : Nat} {Q : xO → Prop} (x1 : Int32) (x2 : Int32) (I : xI) (J : xJ) {t : Int32 × xI × xJ} (h : f_X12_isTaken_3 x1 x2 I J = some t) (hC : (c_X12_isTaken Q) t) : Rn L xs (d + 1) 292 22 [some (.ref 61), some (.int x1), some (.int x2)] [] 94 (I, J, xrf) Q := by
  unfold f_X12_isTaken_3 at h
  cases h
  exact Rn.ret 2 (o := ((some (.int 1)), 94, (I, J, xrf))) (fun f => rfl) hC
theorem p_X12_isTaken_2 {L : Nat} {xs : Nat → Int32} {d : Nat} {Q : xO → Prop} (x1 : Int32) (x2 : Int32) (I : xI) (J : xJ) {t : (Int32 × Int32 × xI × xJ) ⊕ (Int32 × xI × xJ)} (h : f_X12_isTaken_2 x1 x2 I J = some t) (hC : (c_X12_isTaken_1 L xs d Q) t) : Rn L xs (d + 1) 292 7 [some (.ref 61), some (.int x1), some (.int x2)] [] 94 (I, J, xrf) Q := by
  unfold f_X12_isTaken_2 at h
  obtain ⟨hc, h⟩ := xif h
  refine Rn.ok 4 (c := x2 < 0 ∨ 6 ≤ x2.toNatClampNeg) (p1 := 13) (l1 := [some (.ref 61), some (.int x1), some (.int x2)]) (s1 := [.int ((I 86 x2.toNatClampNeg))]) (n1 := 94) (M1 := (I, J, xrf)) (fun f => rfl) hc ?_
  obtain ⟨hc, h⟩ := xif h
  refine Rn.ok 4 (c := x1 < 0 ∨ 6 ≤ x1.toNatClampNeg) (p1 := 19) (l1 := [some (.ref 61), some (.int x1), some (.int x2)]) (s1 := [.int ((I 86 x1.toNatClampNeg)), .int ((I 86 x2.toNatClampNeg))]) (n1 := 94) (M1 := (I, J, xrf)) (fun f => rfl) hc ?_
  refine Rn.fi 1 (c := (I 86 x2.toNatClampNeg) = (I 86 x1.toNatClampNeg)) (p1 := 22) (l1 := [some (.ref 61), some (.int x1), some (.int x2)]) (s1 := []) (n1 := 94) (M1 := (I, J, xrf)) (p2 := 24) (l2 := [some (.ref 61), some (.int x1), some (.int x2)]) (s2 := []) (n2 := 94) (M2 := (I, J, xrf)) (fun f => rfl) (fun hc => ?_) (fun hc => ?_)
  · rw [if_pos hc] at h
    obtain ⟨t0, h0, rfl⟩ := Option.map_eq_some_iff.mp h
    exact p_X12_isTaken_3 x1 x2 I J h0 hC
  · rw [if_neg hc] at h
    exact p_X12_isTaken_4 x1 x2 I J h hC
theorem q_X12_isTaken_1 {L : Nat} {xs : Nat → Int32} {d : Nat} {Q : xO → Prop} (x1 : Int32) (x2 : Int32) (I : xI) (J : xJ) {t : (Int32 × Int32 × xI × xJ) ⊕ (Int32 × xI × xJ)} (h : b_X12_isTaken_1 x1 x2 I J = some t) (hC : (c_X12_isTaken_1 L xs d Q) t) : Rn L xs (d + 1) 292 2 [some (.ref 61), some (.int x1), some (.int x2)] [] 94 (I, J, xrf) Q := by
  unfold b_X12_isTaken_1 at h
  refine Rn.fi 3 (c := x1 ≤ x2) (p1 := 30) (l1 := [some (.ref 61), some (.int x1), some (.int x2)]) (s1 := []) (n1 := 94) (M1 := (I, J, xrf)) (p2 := 7) (l2 := [some (.ref 61), some (.int x1), some (.int x2)]) (s2 := []) (n2 := 94) (M2 := (I, J, xrf)) (fun f => rfl) (fun hc => ?_) (fun hc => ?_)
  · rw [if_pos hc] at h
    obtain ⟨t0, h0, rfl⟩ := Option.map_eq_some_iff.mp h
    exact p_X12_isTaken_5 x1 x2 I J h0 hC
  · rw [if_neg hc] at h
    exact p_X12_isTaken_2 x1 x2 I J h hC
theorem p_X12_isTaken_1 {L : Nat} {xs : Nat → Int32} {d : Nat} {Q : xO → Prop} (x1 : Int32) (x2 : Int32) (I : xI) (J : xJ) {t : Int32 × xI × xJ} (h : f_X12_isTaken_1 x1 x2 I J = some t) (hC : (c_X12_isTaken Q) t) : Rn L xs (d + 1) 292 2 [some (.ref 61), some (.int x1), some (.int x2)] [] 94 (I, J, xrf) Q := by
  unfold f_X12_isTaken_1 at h
  exact xloop_some (P := fun s : Int32 × Int32 × xI × xJ => Rn L xs (d + 1) 292 2 [some (.ref 61), some (.int s.1), some (.int s.2.1)] [] 94 (s.2.2.1, s.2.2.2, xrf) Q) t (fun s ⟨s', hb, hp⟩ => q_X12_isTaken_1 s.1 s.2.1 s.2.2.1 s.2.2.2 hb hp) (fun s hb => q_X12_isTaken_1 s.1 s.2.1 s.2.2.1 s.2.2.2 hb hC) _ _ h
theorem p_X12_isTaken_0 {L : Nat} {xs : Nat → Int32} {d : Nat} {Q : xO → Prop} (x1 : Int32) (I : xI) (J : xJ) {t : Int32 × xI × xJ} (h : f_X12_isTaken_0 x1 I J = some t) (hC : (c_X12_isTaken Q) t) : Rn L xs (d + 1) 292 0 [some (.ref 61), some (.int x1), none] [] 94 (I, J, xrf) Q := by
  unfold f_X12_isTaken_0 at h
  refine Rn.go 2 (j' := 292) (pc' := 2) (ls' := [some (.ref 61), some (.int x1), some (.int 0)]) (st' := []) (n' := 94) (M' := (I, J, xrf)) (fun f => rfl) ?_
  exact p_X12_isTaken_1 x1 0 I J h hC
theorem p_X12_isTaken {L : Nat} {xs : Nat → Int32} {d : Nat} {Q : xO → Prop} (x1 : Int32) (I : xI) (J : xJ) {t : Int32 × xI × xJ} (h : f_X12_isTaken x1 I J = some t) (hC : Q ((some (.int t.1)), 94, (t.2.1, t.2.2, xrf))) : Rn L xs (d + 1) 292 0 [some (.ref 61), some (.int x1), none] [] 94 (I, J, xrf) Q := p_X12_isTaken_0 x1 I J h hC
/-! X12_weighs -/
def c_X12_weighs (Q : xO → Prop) (t : Unit × xI × xJ) : Prop := Q (none, 94, (t.2.1, t.2.2, xrf))
def c_X12_weighs_8 (L : Nat) (xs : Nat → Int32) (d : Nat) (Q : xO → Prop) (t : (Int32 × Int32 × Int32 × xI × xJ) ⊕ (Unit × xI × xJ)) : Prop := match t with
  | .inl s => Rn L xs (d + 5) 293 45 [some (.ref 61), some (.int s.1), some (.int s.2.1), some (.int s.2.2.1)] [] 94 (s.2.2.2.1, s.2.2.2.2, xrf) Q
  | .inr t => (c_X12_weighs Q) t
def f_X12_weighs_10 (x1 : Int32) (x2 : Int32) (x3 : Int32) (I : xI) (J : xJ) : Option (Unit × xI × xJ) := some ((), I, J)
def f_X12_weighs_9 (x1 : Int32) (x2 : Int32) (x3 : Int32) (I : xI) (J : xJ) : Option ((Int32 × Int32 × Int32 × xI × xJ) ⊕ (Unit × xI × xJ)) := if x3 < 0 ∨ 6 ≤ x3.toNatClampNeg then none else if ((6 * x1) + x3) < 0 ∨ 12 ≤ (((6 * x1) + x3)).toNatClampNeg then none else some (.inl (x1, x2, ((x3 + 1)), ((xup I 92 (((6 * x1) + x3)).toNatClampNeg ((I 86 x3.toNatClampNeg)))), J))
def b_X12_weighs_8 (x1 : Int32) (x2 : Int32) (x3 : Int32) (I : xI) (J : xJ) : Option ((Int32 × Int32 × Int32 × xI × xJ) ⊕ (Unit × xI × xJ)) := if (I 61 17) ≤ x3 then ((f_X12_weighs_10 x1 x2 x3 I J)).map .inr else f_X12_weighs_9 x1 x2 x3 I J
def f_X12_weighs_8 (x1 : Int32) (x2 : Int32) (x3 : Int32) (I : xI) (J : xJ) : Option (Unit × xI × xJ) := xloop (fun s : Int32 × Int32 × Int32 × xI × xJ => b_X12_weighs_8 s.1 s.2.1 s.2.2.1 s.2.2.2.1 s.2.2.2.2) 5000 (x1, x2, x3, I, J)
def f_X12_weighs_7 (x1 : Int32) (x2 : Int32) (I : xI) (J : xJ) : Option (Unit × xI × xJ) := if x1 < 0 ∨ 2 ≤ x1.toNatClampNeg then none else f_X12_weighs_8 x1 x2 0 ((xup I 93 x1.toNatClampNeg x2)) J
def f_X12_weighs_6 (x1 : Int32) (x2 : Int32) (I : xI) (J : xJ) : Option (Unit × xI × xJ) := some ((), I, J)
def f_X12_weighs_5 (x1 : Int32) (x2 : Int32) (I : xI) (J : xJ) : Option (Unit × xI × xJ) := if x1 < 0 ∨ 2 ≤ x1.toNatClampNeg then none else if x2 < (I 93 x1.toNatClampNeg) then f_X12_weighs_7 x1 x2 I J else f_X12_weighs_6 x1 x2 I J
def f_X12_weighs_4 (x1 : Int32) (s0 : Int32) (I : xI) (J : xJ) : Option (Unit × xI × xJ) := if x1 < 0 ∨ 2 ≤ x1.toNatClampNeg then none else if (I 93 x1.toNatClampNeg) < 0 then f_X12_weighs_7 x1 s0 I J else f_X12_weighs_5 x1 s0 I J
def f_X12_weighs_3 (x1 : Int32) (I : xI) (J : xJ) : Option (Unit × xI × xJ) := (f_X12_sumNow I J).bind fun o => f_X12_weighs_4 x1 o.1 o.2.1 o.2.2
def f_X12_weighs_2 (x1 : Int32) (s0 : Int32) (I : xI) (J : xJ) : Option (Unit × xI × xJ) := f_X12_weighs_4 x1 s0 I J
def f_X12_weighs_1 (x1 : Int32) (I : xI) (J : xJ) : Option (Unit × xI × xJ) := (f_X12_costNow I J).bind fun o => f_X12_weighs_2 x1 o.1 o.2.1 o.2.2
def f_X12_weighs_0 (x1 : Int32) (I : xI) (J : xJ) : Option (Unit × xI × xJ) := if x1 = 0 then f_X12_weighs_1 x1 I J else f_X12_weighs_3 x1 I J
def f_X12_weighs (x1 : Int32) (I : xI) (J : xJ) : Option (Unit × xI × xJ) := f_X12_weighs_0 x1 I J
theorem p_X12_weighs_10 {L : Nat} {xs : Nat → Int32} {d : Nat} {Q : xO → Prop} (x1 : Int32) (x2 : Int32) (x3 : Int32) (I : xI) (J : xJ) {t : Unit × xI × xJ} (h : f_X12_weighs_10 x1 x2 x3 I J = some t) (hC : (c_X12_weighs Q) t) : Rn L xs (d + 5) 293 76 [some (.ref 61), some (.int x1), some (.int x2), some (.int x3)] [] 94 (I, J, xrf) Q := by
  unfold f_X12_weighs_10 at h
  cases h
  exact Rn.ret 1 (o := (none, 94, (I, J, xrf))) (fun f => rfl) hC
theorem p_X12_weighs_9 {L : Nat} {xs : Nat → Int32} {d : Nat} {Q : xO → Prop} (x1 : Int32) (x2 : Int32) (x3 : Int32) (I : xI) (J : xJ) {t : (Int32 × Int32 × Int32 × xI × xJ) ⊕ (Unit × xI × xJ)} (h : f_X12_weighs_9 x1 x2 x3 I J = some t) (hC : (c_X12_weighs_8 L xs d Q) t) : Rn L xs (d + 5) 293 53 [some (.ref 61), some (.int x1), some (.int x2), some (.int x3)] [] 94 (I, J, xrf) Q := by
  unfold f_X12_weighs_9 at h
  obtain ⟨hc, h⟩ := xif h
  refine Rn.ok 11 (c := x3 < 0 ∨ 6 ≤ x3.toNatClampNeg) (p1 := 69) (l1 := [some (.ref 61), some (.int x1), some (.int x2), some (.int x3)]) (s1 := [.int ((I 86 x3.toNatClampNeg)), .int (((6 * x1) + x3)), .ref 92]) (n1 := 94) (M1 := (I, J, xrf)) (fun f => rfl) hc ?_
  obtain ⟨hc, h⟩ := xif h
  refine Rn.ok 1 (c := ((6 * x1) + x3) < 0 ∨ 12 ≤ (((6 * x1) + x3)).toNatClampNeg) (p1 := 70) (l1 := [some (.ref 61), some (.int x1), some (.int x2), some (.int x3)]) (s1 := []) (n1 := 94) (M1 := ((xup I 92 (((6 * x1) + x3)).toNatClampNeg ((I 86 x3.toNatClampNeg))), J, xrf)) (fun f => rfl) hc ?_
  refine Rn.go 2 (j' := 293) (pc' := 45) (ls' := [some (.ref 61), some (.int x1), some (.int x2), some (.int ((x3 + 1)))]) (st' := []) (n' := 94) (M' := ((xup I 92 (((6 * x1) + x3)).toNatClampNeg ((I 86 x3.toNatClampNeg))), J, xrf)) (fun f => rfl) ?_
  cases h; exact hC
theorem q_X12_weighs_8 {L : Nat} {xs : Nat → Int32} {d : Nat} {Q : xO → Prop} (x1 : Int32) (x2 : Int32) (x3 : Int32) (I : xI) (J : xJ) {t : (Int32 × Int32 × Int32 × xI × xJ) ⊕ (Unit × xI × xJ)} (h : b_X12_weighs_8 x1 x2 x3 I J = some t) (hC : (c_X12_weighs_8 L xs d Q) t) : Rn L xs (d + 5) 293 45 [some (.ref 61), some (.int x1), some (.int x2), some (.int x3)] [] 94 (I, J, xrf) Q := by
  unfold b_X12_weighs_8 at h
  refine Rn.fi 4 (c := (I 61 17) ≤ x3) (p1 := 76) (l1 := [some (.ref 61), some (.int x1), some (.int x2), some (.int x3)]) (s1 := []) (n1 := 94) (M1 := (I, J, xrf)) (p2 := 53) (l2 := [some (.ref 61), some (.int x1), some (.int x2), some (.int x3)]) (s2 := []) (n2 := 94) (M2 := (I, J, xrf)) (fun f => rfl) (fun hc => ?_) (fun hc => ?_)
  · rw [if_pos hc] at h
    obtain ⟨t0, h0, rfl⟩ := Option.map_eq_some_iff.mp h
    exact p_X12_weighs_10 x1 x2 x3 I J h0 hC
  · rw [if_neg hc] at h
    exact p_X12_weighs_9 x1 x2 x3 I J h hC
theorem p_X12_weighs_8 {L : Nat} {xs : Nat → Int32} {d : Nat} {Q : xO → Prop} (x1 : Int32) (x2 : Int32) (x3 : Int32) (I : xI) (J : xJ) {t : Unit × xI × xJ} (h : f_X12_weighs_8 x1 x2 x3 I J = some t) (hC : (c_X12_weighs Q) t) : Rn L xs (d + 5) 293 45 [some (.ref 61), some (.int x1), some (.int x2), some (.int x3)] [] 94 (I, J, xrf) Q := by
  unfold f_X12_weighs_8 at h
  exact xloop_some (P := fun s : Int32 × Int32 × Int32 × xI × xJ => Rn L xs (d + 5) 293 45 [some (.ref 61), some (.int s.1), some (.int s.2.1), some (.int s.2.2.1)] [] 94 (s.2.2.2.1, s.2.2.2.2, xrf) Q) t (fun s ⟨s', hb, hp⟩ => q_X12_weighs_8 s.1 s.2.1 s.2.2.1 s.2.2.2.1 s.2.2.2.2 hb hp) (fun s hb => q_X12_weighs_8 s.1 s.2.1 s.2.2.1 s.2.2.2.1 s.2.2.2.2 hb hC) _ _ h
theorem p_X12_weighs_7 {L : Nat} {xs : Nat → Int32} {d : Nat} {Q : xO → Prop} (x1 : Int32) (x2 : Int32) (I : xI) (J : xJ) {t : Unit × xI × xJ} (h : f_X12_weighs_7 x1 x2 I J = some t) (hC : (c_X12_weighs Q) t) : Rn L xs (d + 5) 293 36 [some (.ref 61), some (.int x1), some (.int x2), none] [] 94 (I, J, xrf) Q := by
  unfold f_X12_weighs_7 at h
  obtain ⟨hc, h⟩ := xif h
  refine Rn.ok 5 (c := x1 < 0 ∨ 2 ≤ x1.toNatClampNeg) (p1 := 43) (l1 := [some (.ref 61), some (.int x1), some (.int x2), none]) (s1 := []) (n1 := 94) (M1 := ((xup I 93 x1.toNatClampNeg x2), J, xrf)) (fun f => rfl) hc ?_
  refine Rn.go 2 (j' := 293) (pc' := 45) (ls' := [some (.ref 61), some (.int x1), some (.int x2), some (.int 0)]) (st' := []) (n' := 94) (M' := ((xup I 93 x1.toNatClampNeg x2), J, xrf)) (fun f => rfl) ?_
  exact p_X12_weighs_8 x1 x2 0 ((xup I 93 x1.toNatClampNeg x2)) J h hC
theorem p_X12_weighs_6 {L : Nat} {xs : Nat → Int32} {d : Nat} {Q : xO → Prop} (x1 : Int32) (x2 : Int32) (I : xI) (J : xJ) {t : Unit × xI × xJ} (h : f_X12_weighs_6 x1 x2 I J = some t) (hC : (c_X12_weighs Q) t) : Rn L xs (d + 5) 293 35 [some (.ref 61), some (.int x1), some (.int x2), none] [] 94 (I, J, xrf) Q := by
  unfold f_X12_weighs_6 at h
  cases h
  exact Rn.ret 1 (o := (none, 94, (I, J, xrf))) (fun f => rfl) hC
theorem p_X12_weighs_5 {L : Nat} {xs : Nat → Int32} {d : Nat} {Q : xO → Prop} (x1 : Int32) (x2 : Int32) (I : xI) (J : xJ) {t : Unit × xI × xJ} (h : f_X12_weighs_5 x1 x2 I J = some t) (hC : (c_X12_weighs Q) t) : Rn L xs (d + 5) 293 25 [some (.ref 61), some (.int x1), some (.int x2), none] [] 94 (I, J, xrf) Q := by
  unfold f_X12_weighs_5 at h
  obtain ⟨hc, h⟩ := xif h
  refine Rn.ok 5 (c := x1 < 0 ∨ 2 ≤ x1.toNatClampNeg) (p1 := 32) (l1 := [some (.ref 61), some (.int x1), some (.int x2), none]) (s1 := [.int ((I 93 x1.toNatClampNeg)), .int x2]) (n1 := 94) (M1 := (I, J, xrf)) (fun f => rfl) hc ?_
  refine Rn.fi 1 (c := x2 < (I 93 x1.toNatClampNeg)) (p1 := 36) (l1 := [some (.ref 61), some (.int x1), some (.int x2), none]) (s1 := []) (n1 := 94) (M1 := (I, J, xrf)) (p2 := 35) (l2 := [some (.ref 61), some (.int x1), some (.int x2), none]) (s2 := []) (n2 := 94) (M2 := (I, J, xrf)) (fun f => rfl) (fun hc => ?_) (fun hc => ?_)
  · rw [if_pos hc] at h
    exact p_X12_weighs_7 x1 x2 I J h hC
  · rw [if_neg hc] at h
    exact p_X12_weighs_6 x1 x2 I J h hC
theorem p_X12_weighs_4 {L : Nat} {xs : Nat → Int32} {d : Nat} {Q : xO → Prop} (x1 : Int32) (s0 : Int32) (I : xI) (J : xJ) {t : Unit × xI × xJ} (h : f_X12_weighs_4 x1 s0 I J = some t) (hC : (c_X12_weighs Q) t) : Rn L xs (d + 5) 293 15 [some (.ref 61), some (.int x1), none, none] [.int s0] 94 (I, J, xrf) Q := by
  unfold f_X12_weighs_4 at h
  obtain ⟨hc, h⟩ := xif h
  refine Rn.ok 5 (c := x1 < 0 ∨ 2 ≤ x1.toNatClampNeg) (p1 := 22) (l1 := [some (.ref 61), some (.int x1), some (.int s0), none]) (s1 := [.int ((I 93 x1.toNatClampNeg))]) (n1 := 94) (M1 := (I, J, xrf)) (fun f => rfl) hc ?_
  refine Rn.fi 1 (c := (I 93 x1.toNatClampNeg) < 0) (p1 := 36) (l1 := [some (.ref 61), some (.int x1), some (.int s0), none]) (s1 := []) (n1 := 94) (M1 := (I, J, xrf)) (p2 := 25) (l2 := [some (.ref 61), some (.int x1), some (.int s0), none]) (s2 := []) (n2 := 94) (M2 := (I, J, xrf)) (fun f => rfl) (fun hc => ?_) (fun hc => ?_)
  · rw [if_pos hc] at h
    exact p_X12_weighs_7 x1 s0 I J h hC
  · rw [if_neg hc] at h
    exact p_X12_weighs_5 x1 s0 I J h hC
theorem p_X12_weighs_3 {L : Nat} {xs : Nat → Int32} {d : Nat} {Q : xO → Prop} (x1 : Int32) (I : xI) (J : xJ) {t : Unit × xI × xJ} (h : f_X12_weighs_3 x1 I J = some t) (hC : (c_X12_weighs Q) t) : Rn L xs (d + 5) 293 11 [some (.ref 61), some (.int x1), none, none] [] 94 (I, J, xrf) Q := by
  unfold f_X12_weighs_3 at h
  refine Rn.go 1 (j' := 293) (pc' := 12) (ls' := [some (.ref 61), some (.int x1), none, none]) (st' := [.ref 61]) (n' := 94) (M' := (I, J, xrf)) (fun f => rfl) ?_
  obtain ⟨o, ho, h⟩ := Option.bind_eq_some_iff.mp h
  refine Rn.call (d1 := d + 4) (j1 := 285) (ls1 := [some (.ref 61), none, none, none]) (rest := []) (fun f => rfl) ?_
  refine p_X12_sumNow (d := d + 1) I J (t := o) ho ?_
  exact p_X12_weighs_4 x1 o.1 o.2.1 o.2.2 h hC
theorem p_X12_weighs_2 {L : Nat} {xs : Nat → Int32} {d : Nat} {Q : xO → Prop} (x1 : Int32) (s0 : Int32) (I : xI) (J : xJ) {t : Unit × xI × xJ} (h : f_X12_weighs_2 x1 s0 I J = some t) (hC : (c_X12_weighs Q) t) : Rn L xs (d + 5) 293 8 [some (.ref 61), some (.int x1), none, none] [.int s0] 94 (I, J, xrf) Q := by
  unfold f_X12_weighs_2 at h
  refine Rn.go 1 (j' := 293) (pc' := 15) (ls' := [some (.ref 61), some (.int x1), none, none]) (st' := [.int s0]) (n' := 94) (M' := (I, J, xrf)) (fun f => rfl) ?_
  exact p_X12_weighs_4 x1 s0 I J h hC
theorem p_X12_weighs_1 {L : Nat} {xs : Nat → Int32} {d : Nat} {Q : xO → Prop} (x1 : Int32) (I : xI) (J : xJ) {t : Unit × xI × xJ} (h : f_X12_weighs_1 x1 I J = some t) (hC : (c_X12_weighs Q) t) : Rn L xs (d + 5) 293 4 [some (.ref 61), some (.int x1), none, none] [] 94 (I, J, xrf) Q := by
  unfold f_X12_weighs_1 at h
  refine Rn.go 1 (j' := 293) (pc' := 5) (ls' := [some (.ref 61), some (.int x1), none, none]) (st' := [.ref 61]) (n' := 94) (M' := (I, J, xrf)) (fun f => rfl) ?_
  obtain ⟨o, ho, h⟩ := Option.bind_eq_some_iff.mp h
  refine Rn.call (d1 := d + 4) (j1 := 278) (ls1 := [some (.ref 61), none, none, none]) (rest := []) (fun f => rfl) ?_
  refine p_X12_costNow (d := d + 0) I J (t := o) ho ?_
  exact p_X12_weighs_2 x1 o.1 o.2.1 o.2.2 h hC
theorem p_X12_weighs_0 {L : Nat} {xs : Nat → Int32} {d : Nat} {Q : xO → Prop} (x1 : Int32) (I : xI) (J : xJ) {t : Unit × xI × xJ} (h : f_X12_weighs_0 x1 I J = some t) (hC : (c_X12_weighs Q) t) : Rn L xs (d + 5) 293 0 [some (.ref 61), some (.int x1), none, none] [] 94 (I, J, xrf) Q := by
  unfold f_X12_weighs_0 at h
  refine Rn.fi 2 (c := x1 = 0) (p1 := 4) (l1 := [some (.ref 61), some (.int x1), none, none]) (s1 := []) (n1 := 94) (M1 := (I, J, xrf)) (p2 := 11) (l2 := [some (.ref 61), some (.int x1), none, none]) (s2 := []) (n2 := 94) (M2 := (I, J, xrf)) (fun f => rfl) (fun hc => ?_) (fun hc => ?_)
  · rw [if_pos hc] at h
    exact p_X12_weighs_1 x1 I J h hC
  · rw [if_neg hc] at h
    exact p_X12_weighs_3 x1 I J h hC
theorem p_X12_weighs {L : Nat} {xs : Nat → Int32} {d : Nat} {Q : xO → Prop} (x1 : Int32) (I : xI) (J : xJ) {t : Unit × xI × xJ} (h : f_X12_weighs x1 I J = some t) (hC : Q (none, 94, (t.2.1, t.2.2, xrf))) : Rn L xs (d + 5) 293 0 [some (.ref 61), some (.int x1), none, none] [] 94 (I, J, xrf) Q := p_X12_weighs_0 x1 I J h hC
/-! X12_laysBest -/
def c_X12_laysBest (Q : xO → Prop) (t : Unit × xI × xJ) : Prop := Q (none, 94, (t.2.1, t.2.2, xrf))
def c_X12_laysBest_9 (L : Nat) (xs : Nat → Int32) (d : Nat) (Q : xO → Prop) (t : (Int32 × Int32 × xI × xJ) ⊕ (Unit × xI × xJ)) : Prop := match t with
  | .inl s => Rn L xs (d + 6) 291 55 [some (.ref 61), some (.int s.1), some (.int s.2.1)] [] 94 (s.2.2.1, s.2.2.2, xrf) Q
  | .inr t => (c_X12_laysBest Q) t
def f_X12_laysBest_21 (x1 : Int32) (x2 : Int32) (I : xI) (J : xJ) : Option (Unit × xI × xJ) := some ((), I, J)
def f_X12_laysBest_20 (x1 : Int32) (x2 : Int32) (I : xI) (J : xJ) : Option ((Int32 × Int32 × xI × xJ) ⊕ (Unit × xI × xJ)) := if (x2 + 1) < 0 ∨ 6 ≤ ((x2 + 1)).toNatClampNeg then none else some (.inl (x1, ((x2 + 1)), ((xup I 86 ((x2 + 1)).toNatClampNeg ((-1)))), J))
def f_X12_laysBest_19 (x1 : Int32) (x2 : Int32) (s0 : Int32) (I : xI) (J : xJ) : Option ((Int32 × Int32 × xI × xJ) ⊕ (Unit × xI × xJ)) := if s0 = 0 then f_X12_laysBest_20 x1 x2 I J else some (.inl (x1, x2, I, J))
def f_X12_laysBest_18 (x1 : Int32) (x2 : Int32) (I : xI) (J : xJ) : Option ((Int32 × Int32 × xI × xJ) ⊕ (Unit × xI × xJ)) := (f_X12_isTaken x2 I J).bind fun o => f_X12_laysBest_19 x1 x2 o.1 o.2.1 o.2.2
def f_X12_laysBest_17 (x1 : Int32) (x2 : Int32) (I : xI) (J : xJ) : Option ((Int32 × Int32 × xI × xJ) ⊕ (Unit × xI × xJ)) := some (.inl (x1, x2, I, J))
def f_X12_laysBest_16 (x1 : Int32) (x2 : Int32) (I : xI) (J : xJ) : Option ((Int32 × Int32 × xI × xJ) ⊕ (Unit × xI × xJ)) := (f_X12_weighs x1 I J).bind fun o => f_X12_laysBest_17 x1 x2 o.2.1 o.2.2
def f_X12_laysBest_15 (x1 : Int32) (x2 : Int32) (I : xI) (J : xJ) : Option ((Int32 × Int32 × xI × xJ) ⊕ (Unit × xI × xJ)) := if x2 = ((I 61 17) - 1) then f_X12_laysBest_16 x1 x2 I J else f_X12_laysBest_18 x1 x2 I J
def f_X12_laysBest_14 (x1 : Int32) (x2 : Int32) (s0 : Int32) (I : xI) (J : xJ) : Option ((Int32 × Int32 × xI × xJ) ⊕ (Unit × xI × xJ)) := if s0 = 0 then f_X12_laysBest_15 x1 x2 I J else f_X12_laysBest_18 x1 x2 I J
def f_X12_laysBest_13 (x1 : Int32) (x2 : Int32) (I : xI) (J : xJ) : Option ((Int32 × Int32 × xI × xJ) ⊕ (Unit × xI × xJ)) := (f_X12_isTaken x2 I J).bind fun o => f_X12_laysBest_14 x1 x2 o.1 o.2.1 o.2.2
def f_X12_laysBest_12 (x1 : Int32) (x2 : Int32) (I : xI) (J : xJ) : Option ((Int32 × Int32 × xI × xJ) ⊕ (Unit × xI × xJ)) := some (.inl (x1, ((x2 + Int32.ofInt (-1))), I, J))
def f_X12_laysBest_11 (x1 : Int32) (x2 : Int32) (s0 : Int32) (s1 : Int32) (s2 : Int32) (I : xI) (J : xJ) : Option ((Int32 × Int32 × xI × xJ) ⊕ (Unit × xI × xJ)) := if s0 = (s1 <<< (s2 &&& 31)) then f_X12_laysBest_12 x1 x2 I J else f_X12_laysBest_13 x1 x2 I J
def f_X12_laysBest_10 (x1 : Int32) (x2 : Int32) (I : xI) (J : xJ) : Option ((Int32 × Int32 × xI × xJ) ⊕ (Unit × xI × xJ)) := if x2 < 0 ∨ 6 ≤ x2.toNatClampNeg then none else if x2 < 0 ∨ 6 ≤ x2.toNatClampNeg then none else if x2 < 0 ∨ 6 ≤ x2.toNatClampNeg then none else (f_X12_bits ((xup I 86 x2.toNatClampNeg (((I 86 x2.toNatClampNeg) + 1)))) J).bind fun o => f_X12_laysBest_11 x1 x2 ((((xup I 86 x2.toNatClampNeg (((I 86 x2.toNatClampNeg) + 1)))) 86 x2.toNatClampNeg)) 1 o.1 o.2.1 o.2.2
def b_X12_laysBest_9 (x1 : Int32) (x2 : Int32) (I : xI) (J : xJ) : Option ((Int32 × Int32 × xI × xJ) ⊕ (Unit × xI × xJ)) := if x2 < 0 then ((f_X12_laysBest_21 x1 x2 I J)).map .inr else f_X12_laysBest_10 x1 x2 I J
def f_X12_laysBest_9 (x1 : Int32) (x2 : Int32) (I : xI) (J : xJ) : Option (Unit × xI × xJ) := xloop (fun s : Int32 × Int32 × xI × xJ => b_X12_laysBest_9 s.1 s.2.1 s.2.2.1 s.2.2.2) 10000000000000 (x1, x2, I, J)
def f_X12_laysBest_8 (x1 : Int32) (s0 : Int32) (I : xI) (J : xJ) : Option (Unit × xI × xJ) := f_X12_laysBest_9 x1 s0 ((xup I 86 0 ((-1)))) J
def f_X12_laysBest_7 (x1 : Int32) (I : xI) (J : xJ) : Option (Unit × xI × xJ) := f_X12_laysBest_8 x1 0 I J
def f_X12_laysBest_6 (x1 : Int32) (I : xI) (J : xJ) : Option (Unit × xI × xJ) := f_X12_laysBest_8 x1 ((-1)) I J
def f_X12_laysBest_5 (x1 : Int32) (s1 : Int32) (s2 : Int32) (I : xI) (J : xJ) : Option (Unit × xI × xJ) := if s1 < 0 ∨ 2 ≤ s1.toNatClampNeg then none else if (((xup I 93 s1.toNatClampNeg s2)) 61 17) = 0 then f_X12_laysBest_6 x1 ((xup I 93 s1.toNatClampNeg s2)) J else f_X12_laysBest_7 x1 ((xup I 93 s1.toNatClampNeg s2)) J
def f_X12_laysBest_4 (x1 : Int32) (s1 : Int32) (I : xI) (J : xJ) : Option (Unit × xI × xJ) := f_X12_laysBest_5 x1 s1 ((-1)) I J
def f_X12_laysBest_3 (x1 : Int32) (s1 : Int32) (I : xI) (J : xJ) : Option (Unit × xI × xJ) := f_X12_laysBest_5 x1 s1 0 I J
def f_X12_laysBest_2 (x1 : Int32) (I : xI) (J : xJ) : Option (Unit × xI × xJ) := if x1 < 0 ∨ 2 ≤ x1.toNatClampNeg then none else if (((xup I 75 x1.toNatClampNeg 1)) 61 17) = 0 then f_X12_laysBest_3 x1 x1 ((xup I 75 x1.toNatClampNeg 1)) J else f_X12_laysBest_4 x1 x1 ((xup I 75 x1.toNatClampNeg 1)) J
def f_X12_laysBest_1 (x1 : Int32) (I : xI) (J : xJ) : Option (Unit × xI × xJ) := some ((), I, J)
def f_X12_laysBest_0 (x1 : Int32) (I : xI) (J : xJ) : Option (Unit × xI × xJ) := if x1 < 0 ∨ 2 ≤ x1.toNatClampNeg then none else if (I 75 x1.toNatClampNeg) = 0 then f_X12_laysBest_2 x1 I J else f_X12_laysBest_1 x1 I J
def f_X12_laysBest (x1 : Int32) (I : xI) (J : xJ) : Option (Unit × xI × xJ) := f_X12_laysBest_0 x1 I J
theorem p_X12_laysBest_21 {L : Nat} {xs : Nat → Int32} {d : Nat} {Q : xO → Prop} (x1 : Int32) (x2 : Int32) (I : xI) (J : xJ) {t : Unit × xI × xJ} (h : f_X12_laysBest_21 x1 x2 I J = some t) (hC : (c_X12_laysBest Q) t) : Rn L xs (d + 6) 291 137 [some (.ref 61), some (.int x1), some (.int x2)] [] 94 (I, J, xrf) Q := by
  unfold f_X12_laysBest_21 at h
  cases h
  exact Rn.ret 1 (o := (none, 94, (I, J, xrf))) (fun f => rfl) hC
theorem p_X12_laysBest_20 {L : Nat} {xs : Nat → Int32} {d : Nat} {Q : xO → Prop} (x1 : Int32) (x2 : Int32) (I : xI) (J : xJ) {t : (Int32 × Int32 × xI × xJ) ⊕ (Unit × xI × xJ)} (h : f_X12_laysBest_20 x1 x2 I J = some t) (hC : (c_X12_laysBest_9 L xs d Q) t) : Rn L xs (d + 6) 291 124 [some (.ref 61), some (.int x1), some (.int x2)] [] 94 (I, J, xrf) Q := by
  unfold f_X12_laysBest_20 at h
  obtain ⟨hc, h⟩ := xif h
  refine Rn.ok 6 (c := (x2 + 1) < 0 ∨ 6 ≤ ((x2 + 1)).toNatClampNeg) (p1 := 134) (l1 := [some (.ref 61), some (.int x1), some (.int ((x2 + 1)))]) (s1 := []) (n1 := 94) (M1 := ((xup I 86 ((x2 + 1)).toNatClampNeg ((-1))), J, xrf)) (fun f => rfl) hc ?_
  refine Rn.go 1 (j' := 291) (pc' := 55) (ls' := [some (.ref 61), some (.int x1), some (.int ((x2 + 1)))]) (st' := []) (n' := 94) (M' := ((xup I 86 ((x2 + 1)).toNatClampNeg ((-1))), J, xrf)) (fun f => rfl) ?_
  cases h; exact hC
theorem p_X12_laysBest_19 {L : Nat} {xs : Nat → Int32} {d : Nat} {Q : xO → Prop} (x1 : Int32) (x2 : Int32) (s0 : Int32) (I : xI) (J : xJ) {t : (Int32 × Int32 × xI × xJ) ⊕ (Unit × xI × xJ)} (h : f_X12_laysBest_19 x1 x2 s0 I J = some t) (hC : (c_X12_laysBest_9 L xs d Q) t) : Rn L xs (d + 6) 291 121 [some (.ref 61), some (.int x1), some (.int x2)] [.int s0] 94 (I, J, xrf) Q := by
  unfold f_X12_laysBest_19 at h
  refine Rn.fi 1 (c := s0 = 0) (p1 := 124) (l1 := [some (.ref 61), some (.int x1), some (.int x2)]) (s1 := []) (n1 := 94) (M1 := (I, J, xrf)) (p2 := 55) (l2 := [some (.ref 61), some (.int x1), some (.int x2)]) (s2 := []) (n2 := 94) (M2 := (I, J, xrf)) (fun f => rfl) (fun hc => ?_) (fun hc => ?_)
  · rw [if_pos hc] at h
    exact p_X12_laysBest_20 x1 x2 I J h hC
  · rw [if_neg hc] at h
    cases h; exact hC
theorem p_X12_laysBest_18 {L : Nat} {xs : Nat → Int32} {d : Nat} {Q : xO → Prop} (x1 : Int32) (x2 : Int32) (I : xI) (J : xJ) {t : (Int32 × Int32 × xI × xJ) ⊕ (Unit × xI × xJ)} (h : f_X12_laysBest_18 x1 x2 I J = some t) (hC : (c_X12_laysBest_9 L xs d Q) t) : Rn L xs (d + 6) 291 116 [some (.ref 61), some (.int x1), some (.int x2)] [] 94 (I, J, xrf) Q := by
  unfold f_X12_laysBest_18 at h
  refine Rn.go 2 (j' := 291) (pc' := 118) (ls' := [some (.ref 61), some (.int x1), some (.int x2)]) (st' := [.int x2, .ref 61]) (n' := 94) (M' := (I, J, xrf)) (fun f => rfl) ?_
  obtain ⟨o, ho, h⟩ := Option.bind_eq_some_iff.mp h
  refine Rn.call (d1 := d + 5) (j1 := 292) (ls1 := [some (.ref 61), some (.int x2), none]) (rest := []) (fun f => rfl) ?_
  refine p_X12_isTaken (d := d + 4) x2 I J (t := o) ho ?_
  exact p_X12_laysBest_19 x1 x2 o.1 o.2.1 o.2.2 h hC
theorem p_X12_laysBest_17 {L : Nat} {xs : Nat → Int32} {d : Nat} {Q : xO → Prop} (x1 : Int32) (x2 : Int32) (I : xI) (J : xJ) {t : (Int32 × Int32 × xI × xJ) ⊕ (Unit × xI × xJ)} (h : f_X12_laysBest_17 x1 x2 I J = some t) (hC : (c_X12_laysBest_9 L xs d Q) t) : Rn L xs (d + 6) 291 113 [some (.ref 61), some (.int x1), some (.int x2)] [] 94 (I, J, xrf) Q := by
  unfold f_X12_laysBest_17 at h
  refine Rn.go 1 (j' := 291) (pc' := 55) (ls' := [some (.ref 61), some (.int x1), some (.int x2)]) (st' := []) (n' := 94) (M' := (I, J, xrf)) (fun f => rfl) ?_
  cases h; exact hC
theorem p_X12_laysBest_16 {L : Nat} {xs : Nat → Int32} {d : Nat} {Q : xO → Prop} (x1 : Int32) (x2 : Int32) (I : xI) (J : xJ) {t : (Int32 × Int32 × xI × xJ) ⊕ (Unit × xI × xJ)} (h : f_X12_laysBest_16 x1 x2 I J = some t) (hC : (c_X12_laysBest_9 L xs d Q) t) : Rn L xs (d + 6) 291 108 [some (.ref 61), some (.int x1), some (.int x2)] [] 94 (I, J, xrf) Q := by
  unfold f_X12_laysBest_16 at h
  refine Rn.go 2 (j' := 291) (pc' := 110) (ls' := [some (.ref 61), some (.int x1), some (.int x2)]) (st' := [.int x1, .ref 61]) (n' := 94) (M' := (I, J, xrf)) (fun f => rfl) ?_
  obtain ⟨o, ho, h⟩ := Option.bind_eq_some_iff.mp h
  refine Rn.call (d1 := d + 5) (j1 := 293) (ls1 := [some (.ref 61), some (.int x1), none, none]) (rest := []) (fun f => rfl) ?_
  refine p_X12_weighs (d := d + 0) x1 I J (t := o) ho ?_
  exact p_X12_laysBest_17 x1 x2 o.2.1 o.2.2 h hC
theorem p_X12_laysBest_15 {L : Nat} {xs : Nat → Int32} {d : Nat} {Q : xO → Prop} (x1 : Int32) (x2 : Int32) (I : xI) (J : xJ) {t : (Int32 × Int32 × xI × xJ) ⊕ (Unit × xI × xJ)} (h : f_X12_laysBest_15 x1 x2 I J = some t) (hC : (c_X12_laysBest_9 L xs d Q) t) : Rn L xs (d + 6) 291 98 [some (.ref 61), some (.int x1), some (.int x2)] [] 94 (I, J, xrf) Q := by
  unfold f_X12_laysBest_15 at h
  refine Rn.fi 6 (c := x2 = ((I 61 17) - 1)) (p1 := 108) (l1 := [some (.ref 61), some (.int x1), some (.int x2)]) (s1 := []) (n1 := 94) (M1 := (I, J, xrf)) (p2 := 116) (l2 := [some (.ref 61), some (.int x1), some (.int x2)]) (s2 := []) (n2 := 94) (M2 := (I, J, xrf)) (fun f => rfl) (fun hc => ?_) (fun hc => ?_)
  · rw [if_pos hc] at h
    exact p_X12_laysBest_16 x1 x2 I J h hC
  · rw [if_neg hc] at h
    exact p_X12_laysBest_18 x1 x2 I J h hC
theorem p_X12_laysBest_14 {L : Nat} {xs : Nat → Int32} {d : Nat} {Q : xO → Prop} (x1 : Int32) (x2 : Int32) (s0 : Int32) (I : xI) (J : xJ) {t : (Int32 × Int32 × xI × xJ) ⊕ (Unit × xI × xJ)} (h : f_X12_laysBest_14 x1 x2 s0 I J = some t) (hC : (c_X12_laysBest_9 L xs d Q) t) : Rn L xs (d + 6) 291 95 [some (.ref 61), some (.int x1), some (.int x2)] [.int s0] 94 (I, J, xrf) Q := by
  unfold f_X12_laysBest_14 at h
  refine Rn.fi 1 (c := s0 = 0) (p1 := 98) (l1 := [some (.ref 61), some (.int x1), some (.int x2)]) (s1 := []) (n1 := 94) (M1 := (I, J, xrf)) (p2 := 116) (l2 := [some (.ref 61), some (.int x1), some (.int x2)]) (s2 := []) (n2 := 94) (M2 := (I, J, xrf)) (fun f => rfl) (fun hc => ?_) (fun hc => ?_)
  · rw [if_pos hc] at h
    exact p_X12_laysBest_15 x1 x2 I J h hC
  · rw [if_neg hc] at h
    exact p_X12_laysBest_18 x1 x2 I J h hC
theorem p_X12_laysBest_13 {L : Nat} {xs : Nat → Int32} {d : Nat} {Q : xO → Prop} (x1 : Int32) (x2 : Int32) (I : xI) (J : xJ) {t : (Int32 × Int32 × xI × xJ) ⊕ (Unit × xI × xJ)} (h : f_X12_laysBest_13 x1 x2 I J = some t) (hC : (c_X12_laysBest_9 L xs d Q) t) : Rn L xs (d + 6) 291 90 [some (.ref 61), some (.int x1), some (.int x2)] [] 94 (I, J, xrf) Q := by
  unfold f_X12_laysBest_13 at h
  refine Rn.go 2 (j' := 291) (pc' := 92) (ls' := [some (.ref 61), some (.int x1), some (.int x2)]) (st' := [.int x2, .ref 61]) (n' := 94) (M' := (I, J, xrf)) (fun f => rfl) ?_
  obtain ⟨o, ho, h⟩ := Option.bind_eq_some_iff.mp h
  refine Rn.call (d1 := d + 5) (j1 := 292) (ls1 := [some (.ref 61), some (.int x2), none]) (rest := []) (fun f => rfl) ?_
  refine p_X12_isTaken (d := d + 4) x2 I J (t := o) ho ?_
  exact p_X12_laysBest_14 x1 x2 o.1 o.2.1 o.2.2 h hC
theorem p_X12_laysBest_12 {L : Nat} {xs : Nat → Int32} {d : Nat} {Q : xO → Prop} (x1 : Int32) (x2 : Int32) (I : xI) (J : xJ) {t : (Int32 × Int32 × xI × xJ) ⊕ (Unit × xI × xJ)} (h : f_X12_laysBest_12 x1 x2 I J = some t) (hC : (c_X12_laysBest_9 L xs d Q) t) : Rn L xs (d + 6) 291 84 [some (.ref 61), some (.int x1), some (.int x2)] [] 94 (I, J, xrf) Q := by
  unfold f_X12_laysBest_12 at h
  refine Rn.go 1 (d' := (d + 6)) (j' := 291) (pc' := 87) (ls' := [some (.ref 61), some (.int x1), some (.int ((x2 + Int32.ofInt (-1))))]) (st' := []) (n' := 94) (M' := (I, J, xrf)) (fun f => xrun_iinc 2 (-1) x2 rfl rfl rfl) ?_
  refine Rn.go 1 (j' := 291) (pc' := 55) (ls' := [some (.ref 61), some (.int x1), some (.int ((x2 + Int32.ofInt (-1))))]) (st' := []) (n' := 94) (M' := (I, J, xrf)) (fun f => rfl) ?_
  cases h; exact hC
theorem p_X12_laysBest_11 {L : Nat} {xs : Nat → Int32} {d : Nat} {Q : xO → Prop} (x1 : Int32) (x2 : Int32) (s0 : Int32) (s1 : Int32) (s2 : Int32) (I : xI) (J : xJ) {t : (Int32 × Int32 × xI × xJ) ⊕ (Unit × xI × xJ)} (h : f_X12_laysBest_11 x1 x2 s0 s1 s2 I J = some t) (hC : (c_X12_laysBest_9 L xs d Q) t) : Rn L xs (d + 6) 291 80 [some (.ref 61), some (.int x1), some (.int x2)] [.int s2, .int s1, .int s0] 94 (I, J, xrf) Q := by
  unfold f_X12_laysBest_11 at h
  refine Rn.fi 2 (c := s0 = (s1 <<< (s2 &&& 31))) (p1 := 84) (l1 := [some (.ref 61), some (.int x1), some (.int x2)]) (s1 := []) (n1 := 94) (M1 := (I, J, xrf)) (p2 := 90) (l2 := [some (.ref 61), some (.int x1), some (.int x2)]) (s2 := []) (n2 := 94) (M2 := (I, J, xrf)) (fun f => rfl) (fun hc => ?_) (fun hc => ?_)
  · rw [if_pos hc] at h
    exact p_X12_laysBest_12 x1 x2 I J h hC
  · rw [if_neg hc] at h
    exact p_X12_laysBest_13 x1 x2 I J h hC
theorem p_X12_laysBest_10 {L : Nat} {xs : Nat → Int32} {d : Nat} {Q : xO → Prop} (x1 : Int32) (x2 : Int32) (I : xI) (J : xJ) {t : (Int32 × Int32 × xI × xJ) ⊕ (Unit × xI × xJ)} (h : f_X12_laysBest_10 x1 x2 I J = some t) (hC : (c_X12_laysBest_9 L xs d Q) t) : Rn L xs (d + 6) 291 59 [some (.ref 61), some (.int x1), some (.int x2)] [] 94 (I, J, xrf) Q := by
  unfold f_X12_laysBest_10 at h
  obtain ⟨hc, h⟩ := xif h
  refine Rn.ok 5 (c := x2 < 0 ∨ 6 ≤ x2.toNatClampNeg) (p1 := 66) (l1 := [some (.ref 61), some (.int x1), some (.int x2)]) (s1 := [.int ((I 86 x2.toNatClampNeg)), .int x2, .ref 86]) (n1 := 94) (M1 := (I, J, xrf)) (fun f => rfl) hc ?_
  obtain ⟨hc, h⟩ := xif h
  refine Rn.ok 3 (c := x2 < 0 ∨ 6 ≤ x2.toNatClampNeg) (p1 := 69) (l1 := [some (.ref 61), some (.int x1), some (.int x2)]) (s1 := []) (n1 := 94) (M1 := ((xup I 86 x2.toNatClampNeg (((I 86 x2.toNatClampNeg) + 1))), J, xrf)) (fun f => rfl) hc ?_
  obtain ⟨hc, h⟩ := xif h
  refine Rn.ok 4 (c := x2 < 0 ∨ 6 ≤ x2.toNatClampNeg) (p1 := 75) (l1 := [some (.ref 61), some (.int x1), some (.int x2)]) (s1 := [.int ((((xup I 86 x2.toNatClampNeg (((I 86 x2.toNatClampNeg) + 1)))) 86 x2.toNatClampNeg))]) (n1 := 94) (M1 := ((xup I 86 x2.toNatClampNeg (((I 86 x2.toNatClampNeg) + 1))), J, xrf)) (fun f => rfl) hc ?_
  refine Rn.go 2 (j' := 291) (pc' := 77) (ls' := [some (.ref 61), some (.int x1), some (.int x2)]) (st' := [.ref 61, .int 1, .int ((((xup I 86 x2.toNatClampNeg (((I 86 x2.toNatClampNeg) + 1)))) 86 x2.toNatClampNeg))]) (n' := 94) (M' := ((xup I 86 x2.toNatClampNeg (((I 86 x2.toNatClampNeg) + 1))), J, xrf)) (fun f => rfl) ?_
  obtain ⟨o, ho, h⟩ := Option.bind_eq_some_iff.mp h
  refine Rn.call (d1 := d + 5) (j1 := 272) (ls1 := [some (.ref 61)]) (rest := [.int 1, .int ((((xup I 86 x2.toNatClampNeg (((I 86 x2.toNatClampNeg) + 1)))) 86 x2.toNatClampNeg))]) (fun f => rfl) ?_
  refine p_X12_bits (d := d + 4) ((xup I 86 x2.toNatClampNeg (((I 86 x2.toNatClampNeg) + 1)))) J (t := o) ho ?_
  exact p_X12_laysBest_11 x1 x2 ((((xup I 86 x2.toNatClampNeg (((I 86 x2.toNatClampNeg) + 1)))) 86 x2.toNatClampNeg)) 1 o.1 o.2.1 o.2.2 h hC
theorem q_X12_laysBest_9 {L : Nat} {xs : Nat → Int32} {d : Nat} {Q : xO → Prop} (x1 : Int32) (x2 : Int32) (I : xI) (J : xJ) {t : (Int32 × Int32 × xI × xJ) ⊕ (Unit × xI × xJ)} (h : b_X12_laysBest_9 x1 x2 I J = some t) (hC : (c_X12_laysBest_9 L xs d Q) t) : Rn L xs (d + 6) 291 55 [some (.ref 61), some (.int x1), some (.int x2)] [] 94 (I, J, xrf) Q := by
  unfold b_X12_laysBest_9 at h
  refine Rn.fi 2 (c := x2 < 0) (p1 := 137) (l1 := [some (.ref 61), some (.int x1), some (.int x2)]) (s1 := []) (n1 := 94) (M1 := (I, J, xrf)) (p2 := 59) (l2 := [some (.ref 61), some (.int x1), some (.int x2)]) (s2 := []) (n2 := 94) (M2 := (I, J, xrf)) (fun f => rfl) (fun hc => ?_) (fun hc => ?_)
  · rw [if_pos hc] at h
    obtain ⟨t0, h0, rfl⟩ := Option.map_eq_some_iff.mp h
    exact p_X12_laysBest_21 x1 x2 I J h0 hC
  · rw [if_neg hc] at h
    exact p_X12_laysBest_10 x1 x2 I J h hC
theorem p_X12_laysBest_9 {L : Nat} {xs : Nat → Int32} {d : Nat} {Q : xO → Prop} (x1 : Int32) (x2 : Int32) (I : xI) (J : xJ) {t : Unit × xI × xJ} (h : f_X12_laysBest_9 x1 x2 I J = some t) (hC : (c_X12_laysBest Q) t) : Rn L xs (d + 6) 291 55 [some (.ref 61), some (.int x1), some (.int x2)] [] 94 (I, J, xrf) Q := by
  unfold f_X12_laysBest_9 at h
  exact xloop_some (P := fun s : Int32 × Int32 × xI × xJ => Rn L xs (d + 6) 291 55 [some (.ref 61), some (.int s.1), some (.int s.2.1)] [] 94 (s.2.2.1, s.2.2.2, xrf) Q) t (fun s ⟨s', hb, hp⟩ => q_X12_laysBest_9 s.1 s.2.1 s.2.2.1 s.2.2.2 hb hp) (fun s hb => q_X12_laysBest_9 s.1 s.2.1 s.2.2.1 s.2.2.2 hb hC) _ _ h
theorem p_X12_laysBest_8 {L : Nat} {xs : Nat → Int32} {d : Nat} {Q : xO → Prop} (x1 : Int32) (s0 : Int32) (I : xI) (J : xJ) {t : Unit × xI × xJ} (h : f_X12_laysBest_8 x1 s0 I J = some t) (hC : (c_X12_laysBest Q) t) : Rn L xs (d + 6) 291 47 [some (.ref 61), some (.int x1), none] [.int s0] 94 (I, J, xrf) Q := by
  unfold f_X12_laysBest_8 at h
  refine Rn.go 6 (j' := 291) (pc' := 55) (ls' := [some (.ref 61), some (.int x1), some (.int s0)]) (st' := []) (n' := 94) (M' := ((xup I 86 0 ((-1))), J, xrf)) (fun f => rfl) ?_
  exact p_X12_laysBest_9 x1 s0 ((xup I 86 0 ((-1)))) J h hC
theorem p_X12_laysBest_7 {L : Nat} {xs : Nat → Int32} {d : Nat} {Q : xO → Prop} (x1 : Int32) (I : xI) (J : xJ) {t : Unit × xI × xJ} (h : f_X12_laysBest_7 x1 I J = some t) (hC : (c_X12_laysBest Q) t) : Rn L xs (d + 6) 291 46 [some (.ref 61), some (.int x1), none] [] 94 (I, J, xrf) Q := by
  unfold f_X12_laysBest_7 at h
  refine Rn.go 1 (j' := 291) (pc' := 47) (ls' := [some (.ref 61), some (.int x1), none]) (st' := [.int 0]) (n' := 94) (M' := (I, J, xrf)) (fun f => rfl) ?_
  exact p_X12_laysBest_8 x1 0 I J h hC
theorem p_X12_laysBest_6 {L : Nat} {xs : Nat → Int32} {d : Nat} {Q : xO → Prop} (x1 : Int32) (I : xI) (J : xJ) {t : Unit × xI × xJ} (h : f_X12_laysBest_6 x1 I J = some t) (hC : (c_X12_laysBest Q) t) : Rn L xs (d + 6) 291 42 [some (.ref 61), some (.int x1), none] [] 94 (I, J, xrf) Q := by
  unfold f_X12_laysBest_6 at h
  refine Rn.go 2 (j' := 291) (pc' := 47) (ls' := [some (.ref 61), some (.int x1), none]) (st' := [.int ((-1))]) (n' := 94) (M' := (I, J, xrf)) (fun f => rfl) ?_
  exact p_X12_laysBest_8 x1 ((-1)) I J h hC
theorem p_X12_laysBest_5 {L : Nat} {xs : Nat → Int32} {d : Nat} {Q : xO → Prop} (x1 : Int32) (s1 : Int32) (s2 : Int32) (I : xI) (J : xJ) {t : Unit × xI × xJ} (h : f_X12_laysBest_5 x1 s1 s2 I J = some t) (hC : (c_X12_laysBest Q) t) : Rn L xs (d + 6) 291 34 [some (.ref 61), some (.int x1), none] [.int s2, .int s1, .ref 93] 94 (I, J, xrf) Q := by
  unfold f_X12_laysBest_5 at h
  obtain ⟨hc, h⟩ := xif h
  refine Rn.ok 1 (c := s1 < 0 ∨ 2 ≤ s1.toNatClampNeg) (p1 := 35) (l1 := [some (.ref 61), some (.int x1), none]) (s1 := []) (n1 := 94) (M1 := ((xup I 93 s1.toNatClampNeg s2), J, xrf)) (fun f => rfl) hc ?_
  refine Rn.fi 3 (c := (((xup I 93 s1.toNatClampNeg s2)) 61 17) = 0) (p1 := 42) (l1 := [some (.ref 61), some (.int x1), none]) (s1 := []) (n1 := 94) (M1 := ((xup I 93 s1.toNatClampNeg s2), J, xrf)) (p2 := 46) (l2 := [some (.ref 61), some (.int x1), none]) (s2 := []) (n2 := 94) (M2 := ((xup I 93 s1.toNatClampNeg s2), J, xrf)) (fun f => rfl) (fun hc => ?_) (fun hc => ?_)
  · rw [if_pos hc] at h
    exact p_X12_laysBest_6 x1 ((xup I 93 s1.toNatClampNeg s2)) J h hC
  · rw [if_neg hc] at h
    exact p_X12_laysBest_7 x1 ((xup I 93 s1.toNatClampNeg s2)) J h hC
theorem p_X12_laysBest_4 {L : Nat} {xs : Nat → Int32} {d : Nat} {Q : xO → Prop} (x1 : Int32) (s1 : Int32) (I : xI) (J : xJ) {t : Unit × xI × xJ} (h : f_X12_laysBest_4 x1 s1 I J = some t) (hC : (c_X12_laysBest Q) t) : Rn L xs (d + 6) 291 33 [some (.ref 61), some (.int x1), none] [.int s1, .ref 93] 94 (I, J, xrf) Q := by
  unfold f_X12_laysBest_4 at h
  refine Rn.go 1 (j' := 291) (pc' := 34) (ls' := [some (.ref 61), some (.int x1), none]) (st' := [.int ((-1)), .int s1, .ref 93]) (n' := 94) (M' := (I, J, xrf)) (fun f => rfl) ?_
  exact p_X12_laysBest_5 x1 s1 ((-1)) I J h hC
theorem p_X12_laysBest_3 {L : Nat} {xs : Nat → Int32} {d : Nat} {Q : xO → Prop} (x1 : Int32) (s1 : Int32) (I : xI) (J : xJ) {t : Unit × xI × xJ} (h : f_X12_laysBest_3 x1 s1 I J = some t) (hC : (c_X12_laysBest Q) t) : Rn L xs (d + 6) 291 29 [some (.ref 61), some (.int x1), none] [.int s1, .ref 93] 94 (I, J, xrf) Q := by
  unfold f_X12_laysBest_3 at h
  refine Rn.go 2 (j' := 291) (pc' := 34) (ls' := [some (.ref 61), some (.int x1), none]) (st' := [.int 0, .int s1, .ref 93]) (n' := 94) (M' := (I, J, xrf)) (fun f => rfl) ?_
  exact p_X12_laysBest_5 x1 s1 0 I J h hC
theorem p_X12_laysBest_2 {L : Nat} {xs : Nat → Int32} {d : Nat} {Q : xO → Prop} (x1 : Int32) (I : xI) (J : xJ) {t : Unit × xI × xJ} (h : f_X12_laysBest_2 x1 I J = some t) (hC : (c_X12_laysBest Q) t) : Rn L xs (d + 6) 291 10 [some (.ref 61), some (.int x1), none] [] 94 (I, J, xrf) Q := by
  unfold f_X12_laysBest_2 at h
  obtain ⟨hc, h⟩ := xif h
  refine Rn.ok 5 (c := x1 < 0 ∨ 2 ≤ x1.toNatClampNeg) (p1 := 17) (l1 := [some (.ref 61), some (.int x1), none]) (s1 := []) (n1 := 94) (M1 := ((xup I 75 x1.toNatClampNeg 1), J, xrf)) (fun f => rfl) hc ?_
  refine Rn.fi 6 (c := (((xup I 75 x1.toNatClampNeg 1)) 61 17) = 0) (p1 := 29) (l1 := [some (.ref 61), some (.int x1), none]) (s1 := [.int x1, .ref 93]) (n1 := 94) (M1 := ((xup I 75 x1.toNatClampNeg 1), J, xrf)) (p2 := 33) (l2 := [some (.ref 61), some (.int x1), none]) (s2 := [.int x1, .ref 93]) (n2 := 94) (M2 := ((xup I 75 x1.toNatClampNeg 1), J, xrf)) (fun f => rfl) (fun hc => ?_) (fun hc => ?_)
  · rw [if_pos hc] at h
    exact p_X12_laysBest_3 x1 x1 ((xup I 75 x1.toNatClampNeg 1)) J h hC
  · rw [if_neg hc] at h
    exact p_X12_laysBest_4 x1 x1 ((xup I 75 x1.toNatClampNeg 1)) J h hC
theorem p_X12_laysBest_1 {L : Nat} {xs : Nat → Int32} {d : Nat} {Q : xO → Prop} (x1 : Int32) (I : xI) (J : xJ) {t : Unit × xI × xJ} (h : f_X12_laysBest_1 x1 I J = some t) (hC : (c_X12_laysBest Q) t) : Rn L xs (d + 6) 291 9 [some (.ref 61), some (.int x1), none] [] 94 (I, J, xrf) Q := by
  unfold f_X12_laysBest_1 at h
  cases h
  exact Rn.ret 1 (o := (none, 94, (I, J, xrf))) (fun f => rfl) hC
theorem p_X12_laysBest_0 {L : Nat} {xs : Nat → Int32} {d : Nat} {Q : xO → Prop} (x1 : Int32) (I : xI) (J : xJ) {t : Unit × xI × xJ} (h : f_X12_laysBest_0 x1 I J = some t) (hC : (c_X12_laysBest Q) t) : Rn L xs (d + 6) 291 0 [some (.ref 61), some (.int x1), none] [] 94 (I, J, xrf) Q := by
  unfold f_X12_laysBest_0 at h
  obtain ⟨hc, h⟩ := xif h
  refine Rn.ok 4 (c := x1 < 0 ∨ 2 ≤ x1.toNatClampNeg) (p1 := 6) (l1 := [some (.ref 61), some (.int x1), none]) (s1 := [.int ((I 75 x1.toNatClampNeg))]) (n1 := 94) (M1 := (I, J, xrf)) (fun f => rfl) hc ?_
  refine Rn.fi 1 (c := (I 75 x1.toNatClampNeg) = 0) (p1 := 10) (l1 := [some (.ref 61), some (.int x1), none]) (s1 := []) (n1 := 94) (M1 := (I, J, xrf)) (p2 := 9) (l2 := [some (.ref 61), some (.int x1), none]) (s2 := []) (n2 := 94) (M2 := (I, J, xrf)) (fun f => rfl) (fun hc => ?_) (fun hc => ?_)
  · rw [if_pos hc] at h
    exact p_X12_laysBest_2 x1 I J h hC
  · rw [if_neg hc] at h
    exact p_X12_laysBest_1 x1 I J h hC
theorem p_X12_laysBest {L : Nat} {xs : Nat → Int32} {d : Nat} {Q : xO → Prop} (x1 : Int32) (I : xI) (J : xJ) {t : Unit × xI × xJ} (h : f_X12_laysBest x1 I J = some t) (hC : Q (none, 94, (t.2.1, t.2.2, xrf))) : Rn L xs (d + 6) 291 0 [some (.ref 61), some (.int x1), none] [] 94 (I, J, xrf) Q := p_X12_laysBest_0 x1 I J h hC
/-! X12_best -/
def c_X12_best (Q : xO → Prop) (t : Int32 × xI × xJ) : Prop := Q ((some (.int t.1)), 94, (t.2.1, t.2.2, xrf))
def f_X12_best_5 (x1 : Int32) (x2 : Int32) (I : xI) (J : xJ) : Option (Int32 × xI × xJ) := some ((-1), I, J)
def f_X12_best_10 (x1 : Int32) (x2 : Int32) (s0 : Int32) (I : xI) (J : xJ) : Option (Int32 × xI × xJ) := some (s0, I, J)
def f_X12_best_9 (x1 : Int32) (x2 : Int32) (I : xI) (J : xJ) : Option (Int32 × xI × xJ) := if ((6 * x1) + x2) < 0 ∨ 12 ≤ (((6 * x1) + x2)).toNatClampNeg then none else f_X12_best_10 x1 x2 ((I 92 (((6 * x1) + x2)).toNatClampNeg)) I J
def f_X12_best_8 (x1 : Int32) (x2 : Int32) (I : xI) (J : xJ) : Option (Int32 × xI × xJ) := if x1 < 0 ∨ 2 ≤ x1.toNatClampNeg then none else f_X12_best_10 x1 x2 ((I 93 x1.toNatClampNeg)) I J
def f_X12_best_7 (x1 : Int32) (x2 : Int32) (I : xI) (J : xJ) : Option (Int32 × xI × xJ) := if x2 = (-1) then f_X12_best_8 x1 x2 I J else f_X12_best_9 x1 x2 I J
def f_X12_best_6 (x1 : Int32) (x2 : Int32) (I : xI) (J : xJ) : Option (Int32 × xI × xJ) := (f_X12_laysBest x1 I J).bind fun o => f_X12_best_7 x1 x2 o.2.1 o.2.2
def f_X12_best_4 (x1 : Int32) (x2 : Int32) (s0 : Int32) (I : xI) (J : xJ) : Option (Int32 × xI × xJ) := if s0 = 0 then f_X12_best_5 x1 x2 I J else f_X12_best_6 x1 x2 I J
def f_X12_best_3 (x1 : Int32) (x2 : Int32) (I : xI) (J : xJ) : Option (Int32 × xI × xJ) := (f_X12_isState x2 I J).bind fun o => f_X12_best_4 x1 x2 o.1 o.2.1 o.2.2
def f_X12_best_2 (x1 : Int32) (x2 : Int32) (I : xI) (J : xJ) : Option (Int32 × xI × xJ) := if x2 = (-1) then f_X12_best_6 x1 x2 I J else f_X12_best_3 x1 x2 I J
def f_X12_best_1 (x1 : Int32) (x2 : Int32) (s0 : Int32) (I : xI) (J : xJ) : Option (Int32 × xI × xJ) := if s0 = 0 then f_X12_best_5 x1 x2 I J else f_X12_best_2 x1 x2 I J
def f_X12_best_0 (x1 : Int32) (x2 : Int32) (I : xI) (J : xJ) : Option (Int32 × xI × xJ) := (f_X12_in x1 0 1 I J).bind fun o => f_X12_best_1 x1 x2 o.1 o.2.1 o.2.2
def f_X12_best (x1 : Int32) (x2 : Int32) (I : xI) (J : xJ) : Option (Int32 × xI × xJ) := f_X12_best_0 x1 x2 I J
theorem p_X12_best_5 {L : Nat} {xs : Nat → Int32} {d : Nat} {Q : xO → Prop} (x1 : Int32) (x2 : Int32) (I : xI) (J : xJ) {t : Int32 × xI × xJ} (h : f_X12_best_5 x1 x2 I J = some t) (hC : (c_X12_best Q) t) : Rn L xs (d + 7) 294 22 [some (.ref 61), some (.int x1), some (.int x2)] [] 94 (I, J, xrf) Q := by
  unfold f_X12_best_5 at h
  cases h
  exact Rn.ret 2 (o := ((some (.int ((-1)))), 94, (I, J, xrf))) (fun f => rfl) hC
theorem p_X12_best_10 {L : Nat} {xs : Nat → Int32} {d : Nat} {Q : xO → Prop} (x1 : Int32) (x2 : Int32) (s0 : Int32) (I : xI) (J : xJ) {t : Int32 × xI × xJ} (h : f_X12_best_10 x1 x2 s0 I J = some t) (hC : (c_X12_best Q) t) : Rn L xs (d + 7) 294 54 [some (.ref 61), some (.int x1), some (.int x2)] [.int s0] 94 (I, J, xrf) Q := by
  unfold f_X12_best_10 at h
  cases h
  exact Rn.ret 1 (o := ((some (.int s0)), 94, (I, J, xrf))) (fun f => rfl) hC
theorem p_X12_best_9 {L : Nat} {xs : Nat → Int32} {d : Nat} {Q : xO → Prop} (x1 : Int32) (x2 : Int32) (I : xI) (J : xJ) {t : Int32 × xI × xJ} (h : f_X12_best_9 x1 x2 I J = some t) (hC : (c_X12_best Q) t) : Rn L xs (d + 7) 294 43 [some (.ref 61), some (.int x1), some (.int x2)] [] 94 (I, J, xrf) Q := by
  unfold f_X12_best_9 at h
  obtain ⟨hc, h⟩ := xif h
  refine Rn.ok 8 (c := ((6 * x1) + x2) < 0 ∨ 12 ≤ (((6 * x1) + x2)).toNatClampNeg) (p1 := 54) (l1 := [some (.ref 61), some (.int x1), some (.int x2)]) (s1 := [.int ((I 92 (((6 * x1) + x2)).toNatClampNeg))]) (n1 := 94) (M1 := (I, J, xrf)) (fun f => rfl) hc ?_
  exact p_X12_best_10 x1 x2 ((I 92 (((6 * x1) + x2)).toNatClampNeg)) I J h hC
theorem p_X12_best_8 {L : Nat} {xs : Nat → Int32} {d : Nat} {Q : xO → Prop} (x1 : Int32) (x2 : Int32) (I : xI) (J : xJ) {t : Int32 × xI × xJ} (h : f_X12_best_8 x1 x2 I J = some t) (hC : (c_X12_best Q) t) : Rn L xs (d + 7) 294 34 [some (.ref 61), some (.int x1), some (.int x2)] [] 94 (I, J, xrf) Q := by
  unfold f_X12_best_8 at h
  obtain ⟨hc, h⟩ := xif h
  refine Rn.ok 4 (c := x1 < 0 ∨ 2 ≤ x1.toNatClampNeg) (p1 := 40) (l1 := [some (.ref 61), some (.int x1), some (.int x2)]) (s1 := [.int ((I 93 x1.toNatClampNeg))]) (n1 := 94) (M1 := (I, J, xrf)) (fun f => rfl) hc ?_
  refine Rn.go 1 (j' := 294) (pc' := 54) (ls' := [some (.ref 61), some (.int x1), some (.int x2)]) (st' := [.int ((I 93 x1.toNatClampNeg))]) (n' := 94) (M' := (I, J, xrf)) (fun f => rfl) ?_
  exact p_X12_best_10 x1 x2 ((I 93 x1.toNatClampNeg)) I J h hC
theorem p_X12_best_7 {L : Nat} {xs : Nat → Int32} {d : Nat} {Q : xO → Prop} (x1 : Int32) (x2 : Int32) (I : xI) (J : xJ) {t : Int32 × xI × xJ} (h : f_X12_best_7 x1 x2 I J = some t) (hC : (c_X12_best Q) t) : Rn L xs (d + 7) 294 29 [some (.ref 61), some (.int x1), some (.int x2)] [] 94 (I, J, xrf) Q := by
  unfold f_X12_best_7 at h
  refine Rn.fi 3 (c := x2 = (-1)) (p1 := 34) (l1 := [some (.ref 61), some (.int x1), some (.int x2)]) (s1 := []) (n1 := 94) (M1 := (I, J, xrf)) (p2 := 43) (l2 := [some (.ref 61), some (.int x1), some (.int x2)]) (s2 := []) (n2 := 94) (M2 := (I, J, xrf)) (fun f => rfl) (fun hc => ?_) (fun hc => ?_)
  · rw [if_pos hc] at h
    exact p_X12_best_8 x1 x2 I J h hC
  · rw [if_neg hc] at h
    exact p_X12_best_9 x1 x2 I J h hC
theorem p_X12_best_6 {L : Nat} {xs : Nat → Int32} {d : Nat} {Q : xO → Prop} (x1 : Int32) (x2 : Int32) (I : xI) (J : xJ) {t : Int32 × xI × xJ} (h : f_X12_best_6 x1 x2 I J = some t) (hC : (c_X12_best Q) t) : Rn L xs (d + 7) 294 24 [some (.ref 61), some (.int x1), some (.int x2)] [] 94 (I, J, xrf) Q := by
  unfold f_X12_best_6 at h
  refine Rn.go 2 (j' := 294) (pc' := 26) (ls' := [some (.ref 61), some (.int x1), some (.int x2)]) (st' := [.int x1, .ref 61]) (n' := 94) (M' := (I, J, xrf)) (fun f => rfl) ?_
  obtain ⟨o, ho, h⟩ := Option.bind_eq_some_iff.mp h
  refine Rn.call (d1 := d + 6) (j1 := 291) (ls1 := [some (.ref 61), some (.int x1), none]) (rest := []) (fun f => rfl) ?_
  refine p_X12_laysBest (d := d + 0) x1 I J (t := o) ho ?_
  exact p_X12_best_7 x1 x2 o.2.1 o.2.2 h hC
theorem p_X12_best_4 {L : Nat} {xs : Nat → Int32} {d : Nat} {Q : xO → Prop} (x1 : Int32) (x2 : Int32) (s0 : Int32) (I : xI) (J : xJ) {t : Int32 × xI × xJ} (h : f_X12_best_4 x1 x2 s0 I J = some t) (hC : (c_X12_best Q) t) : Rn L xs (d + 7) 294 19 [some (.ref 61), some (.int x1), some (.int x2)] [.int s0] 94 (I, J, xrf) Q := by
  unfold f_X12_best_4 at h
  refine Rn.fi 1 (c := s0 = 0) (p1 := 22) (l1 := [some (.ref 61), some (.int x1), some (.int x2)]) (s1 := []) (n1 := 94) (M1 := (I, J, xrf)) (p2 := 24) (l2 := [some (.ref 61), some (.int x1), some (.int x2)]) (s2 := []) (n2 := 94) (M2 := (I, J, xrf)) (fun f => rfl) (fun hc => ?_) (fun hc => ?_)
  · rw [if_pos hc] at h
    exact p_X12_best_5 x1 x2 I J h hC
  · rw [if_neg hc] at h
    exact p_X12_best_6 x1 x2 I J h hC
theorem p_X12_best_3 {L : Nat} {xs : Nat → Int32} {d : Nat} {Q : xO → Prop} (x1 : Int32) (x2 : Int32) (I : xI) (J : xJ) {t : Int32 × xI × xJ} (h : f_X12_best_3 x1 x2 I J = some t) (hC : (c_X12_best Q) t) : Rn L xs (d + 7) 294 14 [some (.ref 61), some (.int x1), some (.int x2)] [] 94 (I, J, xrf) Q := by
  unfold f_X12_best_3 at h
  refine Rn.go 2 (j' := 294) (pc' := 16) (ls' := [some (.ref 61), some (.int x1), some (.int x2)]) (st' := [.int x2, .ref 61]) (n' := 94) (M' := (I, J, xrf)) (fun f => rfl) ?_
  obtain ⟨o, ho, h⟩ := Option.bind_eq_some_iff.mp h
  refine Rn.call (d1 := d + 6) (j1 := 207) (ls1 := [some (.ref 61), some (.int x2)]) (rest := []) (fun f => rfl) ?_
  refine p_X12_isState (d := d + 4) x2 I J (t := o) ho ?_
  exact p_X12_best_4 x1 x2 o.1 o.2.1 o.2.2 h hC
theorem p_X12_best_2 {L : Nat} {xs : Nat → Int32} {d : Nat} {Q : xO → Prop} (x1 : Int32) (x2 : Int32) (I : xI) (J : xJ) {t : Int32 × xI × xJ} (h : f_X12_best_2 x1 x2 I J = some t) (hC : (c_X12_best Q) t) : Rn L xs (d + 7) 294 9 [some (.ref 61), some (.int x1), some (.int x2)] [] 94 (I, J, xrf) Q := by
  unfold f_X12_best_2 at h
  refine Rn.fi 3 (c := x2 = (-1)) (p1 := 24) (l1 := [some (.ref 61), some (.int x1), some (.int x2)]) (s1 := []) (n1 := 94) (M1 := (I, J, xrf)) (p2 := 14) (l2 := [some (.ref 61), some (.int x1), some (.int x2)]) (s2 := []) (n2 := 94) (M2 := (I, J, xrf)) (fun f => rfl) (fun hc => ?_) (fun hc => ?_)
  · rw [if_pos hc] at h
    exact p_X12_best_6 x1 x2 I J h hC
  · rw [if_neg hc] at h
    exact p_X12_best_3 x1 x2 I J h hC
theorem p_X12_best_1 {L : Nat} {xs : Nat → Int32} {d : Nat} {Q : xO → Prop} (x1 : Int32) (x2 : Int32) (s0 : Int32) (I : xI) (J : xJ) {t : Int32 × xI × xJ} (h : f_X12_best_1 x1 x2 s0 I J = some t) (hC : (c_X12_best Q) t) : Rn L xs (d + 7) 294 6 [some (.ref 61), some (.int x1), some (.int x2)] [.int s0] 94 (I, J, xrf) Q := by
  unfold f_X12_best_1 at h
  refine Rn.fi 1 (c := s0 = 0) (p1 := 22) (l1 := [some (.ref 61), some (.int x1), some (.int x2)]) (s1 := []) (n1 := 94) (M1 := (I, J, xrf)) (p2 := 9) (l2 := [some (.ref 61), some (.int x1), some (.int x2)]) (s2 := []) (n2 := 94) (M2 := (I, J, xrf)) (fun f => rfl) (fun hc => ?_) (fun hc => ?_)
  · rw [if_pos hc] at h
    exact p_X12_best_5 x1 x2 I J h hC
  · rw [if_neg hc] at h
    exact p_X12_best_2 x1 x2 I J h hC
theorem p_X12_best_0 {L : Nat} {xs : Nat → Int32} {d : Nat} {Q : xO → Prop} (x1 : Int32) (x2 : Int32) (I : xI) (J : xJ) {t : Int32 × xI × xJ} (h : f_X12_best_0 x1 x2 I J = some t) (hC : (c_X12_best Q) t) : Rn L xs (d + 7) 294 0 [some (.ref 61), some (.int x1), some (.int x2)] [] 94 (I, J, xrf) Q := by
  unfold f_X12_best_0 at h
  refine Rn.go 3 (j' := 294) (pc' := 3) (ls' := [some (.ref 61), some (.int x1), some (.int x2)]) (st' := [.int 1, .int 0, .int x1]) (n' := 94) (M' := (I, J, xrf)) (fun f => rfl) ?_
  obtain ⟨o, ho, h⟩ := Option.bind_eq_some_iff.mp h
  refine Rn.call (d1 := d + 6) (j1 := 206) (ls1 := [some (.int x1), some (.int 0), some (.int 1)]) (rest := []) (fun f => rfl) ?_
  refine p_X12_in (d := d + 5) x1 0 1 I J (t := o) ho ?_
  exact p_X12_best_1 x1 x2 o.1 o.2.1 o.2.2 h hC
theorem p_X12_best {L : Nat} {xs : Nat → Int32} {d : Nat} {Q : xO → Prop} (x1 : Int32) (x2 : Int32) (I : xI) (J : xJ) {t : Int32 × xI × xJ} (h : f_X12_best x1 x2 I J = some t) (hC : Q ((some (.int t.1)), 94, (t.2.1, t.2.2, xrf))) : Rn L xs (d + 7) 294 0 [some (.ref 61), some (.int x1), some (.int x2)] [] 94 (I, J, xrf) Q := p_X12_best_0 x1 x2 I J h hC
/-! X12_unreached -/
def c_X12_unreached (Q : xO → Prop) (t : Int32 × xI × xJ) : Prop := Q ((some (.int t.1)), 94, (t.2.1, t.2.2, xrf))
def c_X12_unreached_1 (L : Nat) (xs : Nat → Int32) (d : Nat) (Q : xO → Prop) (t : (Int32 × Int32 × (Option Value) × xI × xJ) ⊕ (Int32 × xI × xJ)) : Prop := match t with
  | .inl s => Rn L xs (d + 2) 296 11 [some (.ref 61), some (.int s.1), some (.int s.2.1), s.2.2.1] [] 94 (s.2.2.2.1, s.2.2.2.2, xrf) Q
  | .inr t => (c_X12_unreached Q) t
def c_X12_unreached_3 (L : Nat) (xs : Nat → Int32) (d : Nat) (Q : xO → Prop) (t : (Int32 × Int32 × Int32 × xI × xJ) ⊕ ((Int32 × Int32 × (Option Value) × xI × xJ) ⊕ (Int32 × xI × xJ))) : Prop := match t with
  | .inl s => Rn L xs (d + 2) 296 21 [some (.ref 61), some (.int s.1), some (.int s.2.1), some (.int s.2.2.1)] [] 94 (s.2.2.2.1, s.2.2.2.2, xrf) Q
  | .inr t => (c_X12_unreached_1 L xs d Q) t
def f_X12_unreached_12 (x1 : Int32) (x2 : Int32) (z3 : Option Value) (I : xI) (J : xJ) : Option (Int32 × xI × xJ) := some (x1, I, J)
def f_X12_unreached_11 (x1 : Int32) (x2 : Int32) (x3 : Int32) (I : xI) (J : xJ) : Option ((Int32 × Int32 × (Option Value) × xI × xJ) ⊕ (Int32 × xI × xJ)) := some (.inl (x1, ((x2 + 1)), (some (.int x3)), I, J))
def f_X12_unreached_10 (x1 : Int32) (x2 : Int32) (x3 : Int32) (I : xI) (J : xJ) : Option ((Int32 × Int32 × Int32 × xI × xJ) ⊕ ((Int32 × Int32 × (Option Value) × xI × xJ) ⊕ (Int32 × xI × xJ))) := some (.inl (x1, x2, ((x3 + 1)), I, J))
def f_X12_unreached_9 (x1 : Int32) (x2 : Int32) (x3 : Int32) (s0 : Int32) (s1 : Int32) (s2 : Int32) (I : xI) (J : xJ) : Option ((Int32 × Int32 × Int32 × xI × xJ) ⊕ ((Int32 × Int32 × (Option Value) × xI × xJ) ⊕ (Int32 × xI × xJ))) := f_X12_unreached_10 ((s0 &&& ((s1 <<< (s2 &&& 31)) ^^^ (-1)))) x2 x3 I J
def f_X12_unreached_8 (x1 : Int32) (x2 : Int32) (x3 : Int32) (I : xI) (J : xJ) : Option ((Int32 × Int32 × Int32 × xI × xJ) ⊕ ((Int32 × Int32 × (Option Value) × xI × xJ) ⊕ (Int32 × xI × xJ))) := (f_X12_to x2 x3 I J).bind fun o => f_X12_unreached_9 x1 x2 x3 x1 1 o.1 o.2.1 o.2.2
def f_X12_unreached_7 (x1 : Int32) (x2 : Int32) (x3 : Int32) (s0 : Int32) (I : xI) (J : xJ) : Option ((Int32 × Int32 × Int32 × xI × xJ) ⊕ ((Int32 × Int32 × (Option Value) × xI × xJ) ⊕ (Int32 × xI × xJ))) := if s0 = x2 then f_X12_unreached_10 x1 x2 x3 I J else f_X12_unreached_8 x1 x2 x3 I J
def f_X12_unreached_6 (x1 : Int32) (x2 : Int32) (x3 : Int32) (I : xI) (J : xJ) : Option ((Int32 × Int32 × Int32 × xI × xJ) ⊕ ((Int32 × Int32 × (Option Value) × xI × xJ) ⊕ (Int32 × xI × xJ))) := (f_X12_to x2 x3 I J).bind fun o => f_X12_unreached_7 x1 x2 x3 o.1 o.2.1 o.2.2
def f_X12_unreached_5 (x1 : Int32) (x2 : Int32) (x3 : Int32) (s0 : Int32) (I : xI) (J : xJ) : Option ((Int32 × Int32 × Int32 × xI × xJ) ⊕ ((Int32 × Int32 × (Option Value) × xI × xJ) ⊕ (Int32 × xI × xJ))) := if s0 < 0 then f_X12_unreached_10 x1 x2 x3 I J else f_X12_unreached_6 x1 x2 x3 I J
def f_X12_unreached_4 (x1 : Int32) (x2 : Int32) (x3 : Int32) (I : xI) (J : xJ) : Option ((Int32 × Int32 × Int32 × xI × xJ) ⊕ ((Int32 × Int32 × (Option Value) × xI × xJ) ⊕ (Int32 × xI × xJ))) := (f_X12_to x2 x3 I J).bind fun o => f_X12_unreached_5 x1 x2 x3 o.1 o.2.1 o.2.2
def b_X12_unreached_3 (x1 : Int32) (x2 : Int32) (x3 : Int32) (I : xI) (J : xJ) : Option ((Int32 × Int32 × Int32 × xI × xJ) ⊕ ((Int32 × Int32 × (Option Value) × xI × xJ) ⊕ (Int32 × xI × xJ))) := if (I 61 18) ≤ x3 then ((f_X12_unreached_11 x1 x2 x3 I J)).map .inr else f_X12_unreached_4 x1 x2 x3 I J
def f_X12_unreached_3 (x1 : Int32) (x2 : Int32) (x3 : Int32) (I : xI) (J : xJ) : Option ((Int32 × Int32 × (Option Value) × xI × xJ) ⊕ (Int32 × xI × xJ)) := xloop (fun s : Int32 × Int32 × Int32 × xI × xJ => b_X12_unreached_3 s.1 s.2.1 s.2.2.1 s.2.2.2.1 s.2.2.2.2) 5000 (x1, x2, x3, I, J)
def f_X12_unreached_2 (x1 : Int32) (x2 : Int32) (z3 : Option Value) (I : xI) (J : xJ) : Option ((Int32 × Int32 × (Option Value) × xI × xJ) ⊕ (Int32 × xI × xJ)) := f_X12_unreached_3 x1 x2 0 I J
def b_X12_unreached_1 (x1 : Int32) (x2 : Int32) (z3 : Option Value) (I : xI) (J : xJ) : Option ((Int32 × Int32 × (Option Value) × xI × xJ) ⊕ (Int32 × xI × xJ)) := if (I 61 17) ≤ x2 then ((f_X12_unreached_12 x1 x2 z3 I J)).map .inr else f_X12_unreached_2 x1 x2 z3 I J
def f_X12_unreached_1 (x1 : Int32) (x2 : Int32) (z3 : Option Value) (I : xI) (J : xJ) : Option (Int32 × xI × xJ) := xloop (fun s : Int32 × Int32 × (Option Value) × xI × xJ => b_X12_unreached_1 s.1 s.2.1 s.2.2.1 s.2.2.2.1 s.2.2.2.2) 5000 (x1, x2, z3, I, J)
def f_X12_unreached_0 (I : xI) (J : xJ) : Option (Int32 × xI × xJ) := f_X12_unreached_1 (((1 <<< ((I 61 17) &&& 31)) - 1)) 0 none I J
def f_X12_unreached (I : xI) (J : xJ) : Option (Int32 × xI × xJ) := f_X12_unreached_0 I J
theorem p_X12_unreached_12 {L : Nat} {xs : Nat → Int32} {d : Nat} {Q : xO → Prop} (x1 : Int32) (x2 : Int32) (z3 : Option Value) (I : xI) (J : xJ) {t : Int32 × xI × xJ} (h : f_X12_unreached_12 x1 x2 z3 I J = some t) (hC : (c_X12_unreached Q) t) : Rn L xs (d + 2) 296 73 [some (.ref 61), some (.int x1), some (.int x2), z3] [] 94 (I, J, xrf) Q := by
  unfold f_X12_unreached_12 at h
  cases h
  exact Rn.ret 2 (o := ((some (.int x1)), 94, (I, J, xrf))) (fun f => rfl) hC
theorem p_X12_unreached_11 {L : Nat} {xs : Nat → Int32} {d : Nat} {Q : xO → Prop} (x1 : Int32) (x2 : Int32) (x3 : Int32) (I : xI) (J : xJ) {t : (Int32 × Int32 × (Option Value) × xI × xJ) ⊕ (Int32 × xI × xJ)} (h : f_X12_unreached_11 x1 x2 x3 I J = some t) (hC : (c_X12_unreached_1 L xs d Q) t) : Rn L xs (d + 2) 296 67 [some (.ref 61), some (.int x1), some (.int x2), some (.int x3)] [] 94 (I, J, xrf) Q := by
  unfold f_X12_unreached_11 at h
  refine Rn.go 2 (j' := 296) (pc' := 11) (ls' := [some (.ref 61), some (.int x1), some (.int ((x2 + 1))), some (.int x3)]) (st' := []) (n' := 94) (M' := (I, J, xrf)) (fun f => rfl) ?_
  cases h; exact hC
theorem p_X12_unreached_10 {L : Nat} {xs : Nat → Int32} {d : Nat} {Q : xO → Prop} (x1 : Int32) (x2 : Int32) (x3 : Int32) (I : xI) (J : xJ) {t : (Int32 × Int32 × Int32 × xI × xJ) ⊕ ((Int32 × Int32 × (Option Value) × xI × xJ) ⊕ (Int32 × xI × xJ))} (h : f_X12_unreached_10 x1 x2 x3 I J = some t) (hC : (c_X12_unreached_3 L xs d Q) t) : Rn L xs (d + 2) 296 61 [some (.ref 61), some (.int x1), some (.int x2), some (.int x3)] [] 94 (I, J, xrf) Q := by
  unfold f_X12_unreached_10 at h
  refine Rn.go 2 (j' := 296) (pc' := 21) (ls' := [some (.ref 61), some (.int x1), some (.int x2), some (.int ((x3 + 1)))]) (st' := []) (n' := 94) (M' := (I, J, xrf)) (fun f => rfl) ?_
  cases h; exact hC
theorem p_X12_unreached_9 {L : Nat} {xs : Nat → Int32} {d : Nat} {Q : xO → Prop} (x1 : Int32) (x2 : Int32) (x3 : Int32) (s0 : Int32) (s1 : Int32) (s2 : Int32) (I : xI) (J : xJ) {t : (Int32 × Int32 × Int32 × xI × xJ) ⊕ ((Int32 × Int32 × (Option Value) × xI × xJ) ⊕ (Int32 × xI × xJ))} (h : f_X12_unreached_9 x1 x2 x3 s0 s1 s2 I J = some t) (hC : (c_X12_unreached_3 L xs d Q) t) : Rn L xs (d + 2) 296 56 [some (.ref 61), some (.int x1), some (.int x2), some (.int x3)] [.int s2, .int s1, .int s0] 94 (I, J, xrf) Q := by
  unfold f_X12_unreached_9 at h
  refine Rn.go 5 (j' := 296) (pc' := 61) (ls' := [some (.ref 61), some (.int ((s0 &&& ((s1 <<< (s2 &&& 31)) ^^^ (-1))))), some (.int x2), some (.int x3)]) (st' := []) (n' := 94) (M' := (I, J, xrf)) (fun f => rfl) ?_
  exact p_X12_unreached_10 ((s0 &&& ((s1 <<< (s2 &&& 31)) ^^^ (-1)))) x2 x3 I J h hC
theorem p_X12_unreached_8 {L : Nat} {xs : Nat → Int32} {d : Nat} {Q : xO → Prop} (x1 : Int32) (x2 : Int32) (x3 : Int32) (I : xI) (J : xJ) {t : (Int32 × Int32 × Int32 × xI × xJ) ⊕ ((Int32 × Int32 × (Option Value) × xI × xJ) ⊕ (Int32 × xI × xJ))} (h : f_X12_unreached_8 x1 x2 x3 I J = some t) (hC : (c_X12_unreached_3 L xs d Q) t) : Rn L xs (d + 2) 296 48 [some (.ref 61), some (.int x1), some (.int x2), some (.int x3)] [] 94 (I, J, xrf) Q := by
  unfold f_X12_unreached_8 at h
  refine Rn.go 5 (j' := 296) (pc' := 53) (ls' := [some (.ref 61), some (.int x1), some (.int x2), some (.int x3)]) (st' := [.int x3, .int x2, .ref 61, .int 1, .int x1]) (n' := 94) (M' := (I, J, xrf)) (fun f => rfl) ?_
  obtain ⟨o, ho, h⟩ := Option.bind_eq_some_iff.mp h
  refine Rn.call (d1 := d + 1) (j1 := 210) (ls1 := [some (.ref 61), some (.int x2), some (.int x3)]) (rest := [.int 1, .int x1]) (fun f => rfl) ?_
  refine p_X12_to (d := d + 0) x2 x3 I J (t := o) ho ?_
  exact p_X12_unreached_9 x1 x2 x3 x1 1 o.1 o.2.1 o.2.2 h hC
theorem p_X12_unreached_7 {L : Nat} {xs : Nat → Int32} {d : Nat} {Q : xO → Prop} (x1 : Int32) (x2 : Int32) (x3 : Int32) (s0 : Int32) (I : xI) (J : xJ) {t : (Int32 × Int32 × Int32 × xI × xJ) ⊕ ((Int32 × Int32 × (Option Value) × xI × xJ) ⊕ (Int32 × xI × xJ))} (h : f_X12_unreached_7 x1 x2 x3 s0 I J = some t) (hC : (c_X12_unreached_3 L xs d Q) t) : Rn L xs (d + 2) 296 44 [some (.ref 61), some (.int x1), some (.int x2), some (.int x3)] [.int s0] 94 (I, J, xrf) Q := by
  unfold f_X12_unreached_7 at h
  refine Rn.fi 2 (c := s0 = x2) (p1 := 61) (l1 := [some (.ref 61), some (.int x1), some (.int x2), some (.int x3)]) (s1 := []) (n1 := 94) (M1 := (I, J, xrf)) (p2 := 48) (l2 := [some (.ref 61), some (.int x1), some (.int x2), some (.int x3)]) (s2 := []) (n2 := 94) (M2 := (I, J, xrf)) (fun f => rfl) (fun hc => ?_) (fun hc => ?_)
  · rw [if_pos hc] at h
    exact p_X12_unreached_10 x1 x2 x3 I J h hC
  · rw [if_neg hc] at h
    exact p_X12_unreached_8 x1 x2 x3 I J h hC
theorem p_X12_unreached_6 {L : Nat} {xs : Nat → Int32} {d : Nat} {Q : xO → Prop} (x1 : Int32) (x2 : Int32) (x3 : Int32) (I : xI) (J : xJ) {t : (Int32 × Int32 × Int32 × xI × xJ) ⊕ ((Int32 × Int32 × (Option Value) × xI × xJ) ⊕ (Int32 × xI × xJ))} (h : f_X12_unreached_6 x1 x2 x3 I J = some t) (hC : (c_X12_unreached_3 L xs d Q) t) : Rn L xs (d + 2) 296 38 [some (.ref 61), some (.int x1), some (.int x2), some (.int x3)] [] 94 (I, J, xrf) Q := by
  unfold f_X12_unreached_6 at h
  refine Rn.go 3 (j' := 296) (pc' := 41) (ls' := [some (.ref 61), some (.int x1), some (.int x2), some (.int x3)]) (st' := [.int x3, .int x2, .ref 61]) (n' := 94) (M' := (I, J, xrf)) (fun f => rfl) ?_
  obtain ⟨o, ho, h⟩ := Option.bind_eq_some_iff.mp h
  refine Rn.call (d1 := d + 1) (j1 := 210) (ls1 := [some (.ref 61), some (.int x2), some (.int x3)]) (rest := []) (fun f => rfl) ?_
  refine p_X12_to (d := d + 0) x2 x3 I J (t := o) ho ?_
  exact p_X12_unreached_7 x1 x2 x3 o.1 o.2.1 o.2.2 h hC
theorem p_X12_unreached_5 {L : Nat} {xs : Nat → Int32} {d : Nat} {Q : xO → Prop} (x1 : Int32) (x2 : Int32) (x3 : Int32) (s0 : Int32) (I : xI) (J : xJ) {t : (Int32 × Int32 × Int32 × xI × xJ) ⊕ ((Int32 × Int32 × (Option Value) × xI × xJ) ⊕ (Int32 × xI × xJ))} (h : f_X12_unreached_5 x1 x2 x3 s0 I J = some t) (hC : (c_X12_unreached_3 L xs d Q) t) : Rn L xs (d + 2) 296 35 [some (.ref 61), some (.int x1), some (.int x2), some (.int x3)] [.int s0] 94 (I, J, xrf) Q := by
  unfold f_X12_unreached_5 at h
  refine Rn.fi 1 (c := s0 < 0) (p1 := 61) (l1 := [some (.ref 61), some (.int x1), some (.int x2), some (.int x3)]) (s1 := []) (n1 := 94) (M1 := (I, J, xrf)) (p2 := 38) (l2 := [some (.ref 61), some (.int x1), some (.int x2), some (.int x3)]) (s2 := []) (n2 := 94) (M2 := (I, J, xrf)) (fun f => rfl) (fun hc => ?_) (fun hc => ?_)
  · rw [if_pos hc] at h
    exact p_X12_unreached_10 x1 x2 x3 I J h hC
  · rw [if_neg hc] at h
    exact p_X12_unreached_6 x1 x2 x3 I J h hC
theorem p_X12_unreached_4 {L : Nat} {xs : Nat → Int32} {d : Nat} {Q : xO → Prop} (x1 : Int32) (x2 : Int32) (x3 : Int32) (I : xI) (J : xJ) {t : (Int32 × Int32 × Int32 × xI × xJ) ⊕ ((Int32 × Int32 × (Option Value) × xI × xJ) ⊕ (Int32 × xI × xJ))} (h : f_X12_unreached_4 x1 x2 x3 I J = some t) (hC : (c_X12_unreached_3 L xs d Q) t) : Rn L xs (d + 2) 296 29 [some (.ref 61), some (.int x1), some (.int x2), some (.int x3)] [] 94 (I, J, xrf) Q := by
  unfold f_X12_unreached_4 at h
  refine Rn.go 3 (j' := 296) (pc' := 32) (ls' := [some (.ref 61), some (.int x1), some (.int x2), some (.int x3)]) (st' := [.int x3, .int x2, .ref 61]) (n' := 94) (M' := (I, J, xrf)) (fun f => rfl) ?_
  obtain ⟨o, ho, h⟩ := Option.bind_eq_some_iff.mp h
  refine Rn.call (d1 := d + 1) (j1 := 210) (ls1 := [some (.ref 61), some (.int x2), some (.int x3)]) (rest := []) (fun f => rfl) ?_
  refine p_X12_to (d := d + 0) x2 x3 I J (t := o) ho ?_
  exact p_X12_unreached_5 x1 x2 x3 o.1 o.2.1 o.2.2 h hC
theorem q_X12_unreached_3 {L : Nat} {xs : Nat → Int32} {d : Nat} {Q : xO → Prop} (x1 : Int32) (x2 : Int32) (x3 : Int32) (I : xI) (J : xJ) {t : (Int32 × Int32 × Int32 × xI × xJ) ⊕ ((Int32 × Int32 × (Option Value) × xI × xJ) ⊕ (Int32 × xI × xJ))} (h : b_X12_unreached_3 x1 x2 x3 I J = some t) (hC : (c_X12_unreached_3 L xs d Q) t) : Rn L xs (d + 2) 296 21 [some (.ref 61), some (.int x1), some (.int x2), some (.int x3)] [] 94 (I, J, xrf) Q := by
  unfold b_X12_unreached_3 at h
  refine Rn.fi 4 (c := (I 61 18) ≤ x3) (p1 := 67) (l1 := [some (.ref 61), some (.int x1), some (.int x2), some (.int x3)]) (s1 := []) (n1 := 94) (M1 := (I, J, xrf)) (p2 := 29) (l2 := [some (.ref 61), some (.int x1), some (.int x2), some (.int x3)]) (s2 := []) (n2 := 94) (M2 := (I, J, xrf)) (fun f => rfl) (fun hc => ?_) (fun hc => ?_)
  · rw [if_pos hc] at h
    obtain ⟨t0, h0, rfl⟩ := Option.map_eq_some_iff.mp h
    exact p_X12_unreached_11 x1 x2 x3 I J h0 hC
  · rw [if_neg hc] at h
    exact p_X12_unreached_4 x1 x2 x3 I J h hC
theorem p_X12_unreached_3 {L : Nat} {xs : Nat → Int32} {d : Nat} {Q : xO → Prop} (x1 : Int32) (x2 : Int32) (x3 : Int32) (I : xI) (J : xJ) {t : (Int32 × Int32 × (Option Value) × xI × xJ) ⊕ (Int32 × xI × xJ)} (h : f_X12_unreached_3 x1 x2 x3 I J = some t) (hC : (c_X12_unreached_1 L xs d Q) t) : Rn L xs (d + 2) 296 21 [some (.ref 61), some (.int x1), some (.int x2), some (.int x3)] [] 94 (I, J, xrf) Q := by
  unfold f_X12_unreached_3 at h
  exact xloop_some (P := fun s : Int32 × Int32 × Int32 × xI × xJ => Rn L xs (d + 2) 296 21 [some (.ref 61), some (.int s.1), some (.int s.2.1), some (.int s.2.2.1)] [] 94 (s.2.2.2.1, s.2.2.2.2, xrf) Q) t (fun s ⟨s', hb, hp⟩ => q_X12_unreached_3 s.1 s.2.1 s.2.2.1 s.2.2.2.1 s.2.2.2.2 hb hp) (fun s hb => q_X12_unreached_3 s.1 s.2.1 s.2.2.1 s.2.2.2.1 s.2.2.2.2 hb hC) _ _ h
theorem p_X12_unreached_2 {L : Nat} {xs : Nat → Int32} {d : Nat} {Q : xO → Prop} (x1 : Int32) (x2 : Int32) (z3 : Option Value) (I : xI) (J : xJ) {t : (Int32 × Int32 × (Option Value) × xI × xJ) ⊕ (Int32 × xI × xJ)} (h : f_X12_unreached_2 x1 x2 z3 I J = some t) (hC : (c_X12_unreached_1 L xs d Q) t) : Rn L xs (d + 2) 296 19 [some (.ref 61), some (.int x1), some (.int x2), z3] [] 94 (I, J, xrf) Q := by
  unfold f_X12_unreached_2 at h
  refine Rn.go 2 (j' := 296) (pc' := 21) (ls' := [some (.ref 61), some (.int x1), some (.int x2), some (.int 0)]) (st' := []) (n' := 94) (M' := (I, J, xrf)) (fun f => rfl) ?_
  exact p_X12_unreached_3 x1 x2 0 I J h hC
theorem q_X12_unreached_1 {L : Nat} {xs : Nat → Int32} {d : Nat} {Q : xO → Prop} (x1 : Int32) (x2 : Int32) (z3 : Option Value) (I : xI) (J : xJ) {t : (Int32 × Int32 × (Option Value) × xI × xJ) ⊕ (Int32 × xI × xJ)} (h : b_X12_unreached_1 x1 x2 z3 I J = some t) (hC : (c_X12_unreached_1 L xs d Q) t) : Rn L xs (d + 2) 296 11 [some (.ref 61), some (.int x1), some (.int x2), z3] [] 94 (I, J, xrf) Q := by
  unfold b_X12_unreached_1 at h
  refine Rn.fi 4 (c := (I 61 17) ≤ x2) (p1 := 73) (l1 := [some (.ref 61), some (.int x1), some (.int x2), z3]) (s1 := []) (n1 := 94) (M1 := (I, J, xrf)) (p2 := 19) (l2 := [some (.ref 61), some (.int x1), some (.int x2), z3]) (s2 := []) (n2 := 94) (M2 := (I, J, xrf)) (fun f => rfl) (fun hc => ?_) (fun hc => ?_)
  · rw [if_pos hc] at h
    obtain ⟨t0, h0, rfl⟩ := Option.map_eq_some_iff.mp h
    exact p_X12_unreached_12 x1 x2 z3 I J h0 hC
  · rw [if_neg hc] at h
    exact p_X12_unreached_2 x1 x2 z3 I J h hC
theorem p_X12_unreached_1 {L : Nat} {xs : Nat → Int32} {d : Nat} {Q : xO → Prop} (x1 : Int32) (x2 : Int32) (z3 : Option Value) (I : xI) (J : xJ) {t : Int32 × xI × xJ} (h : f_X12_unreached_1 x1 x2 z3 I J = some t) (hC : (c_X12_unreached Q) t) : Rn L xs (d + 2) 296 11 [some (.ref 61), some (.int x1), some (.int x2), z3] [] 94 (I, J, xrf) Q := by
  unfold f_X12_unreached_1 at h
  exact xloop_some (P := fun s : Int32 × Int32 × (Option Value) × xI × xJ => Rn L xs (d + 2) 296 11 [some (.ref 61), some (.int s.1), some (.int s.2.1), s.2.2.1] [] 94 (s.2.2.2.1, s.2.2.2.2, xrf) Q) t (fun s ⟨s', hb, hp⟩ => q_X12_unreached_1 s.1 s.2.1 s.2.2.1 s.2.2.2.1 s.2.2.2.2 hb hp) (fun s hb => q_X12_unreached_1 s.1 s.2.1 s.2.2.1 s.2.2.2.1 s.2.2.2.2 hb hC) _ _ h
theorem p_X12_unreached_0 {L : Nat} {xs : Nat → Int32} {d : Nat} {Q : xO → Prop} (I : xI) (J : xJ) {t : Int32 × xI × xJ} (h : f_X12_unreached_0 I J = some t) (hC : (c_X12_unreached Q) t) : Rn L xs (d + 2) 296 0 [some (.ref 61), none, none, none] [] 94 (I, J, xrf) Q := by
  unfold f_X12_unreached_0 at h
  refine Rn.go 9 (j' := 296) (pc' := 11) (ls' := [some (.ref 61), some (.int (((1 <<< ((I 61 17) &&& 31)) - 1))), some (.int 0), none]) (st' := []) (n' := 94) (M' := (I, J, xrf)) (fun f => rfl) ?_
  exact p_X12_unreached_1 (((1 <<< ((I 61 17) &&& 31)) - 1)) 0 none I J h hC
theorem p_X12_unreached {L : Nat} {xs : Nat → Int32} {d : Nat} {Q : xO → Prop} (I : xI) (J : xJ) {t : Int32 × xI × xJ} (h : f_X12_unreached I J = some t) (hC : Q ((some (.int t.1)), 94, (t.2.1, t.2.2, xrf))) : Rn L xs (d + 2) 296 0 [some (.ref 61), none, none, none] [] 94 (I, J, xrf) Q := p_X12_unreached_0 I J h hC
/-! X12_untold -/
def c_X12_untold (Q : xO → Prop) (t : Int32 × xI × xJ) : Prop := Q ((some (.int t.1)), 94, (t.2.1, t.2.2, xrf))
def c_X12_untold_1 (L : Nat) (xs : Nat → Int32) (d : Nat) (Q : xO → Prop) (t : (Int32 × Int32 × Int32 × (Option Value) × xI × xJ) ⊕ (Int32 × xI × xJ)) : Prop := match t with
  | .inl s => Rn L xs (d + 1) 295 4 [some (.ref 61), some (.int s.1), some (.int s.2.1), some (.int s.2.2.1), s.2.2.2.1] [] 94 (s.2.2.2.2.1, s.2.2.2.2.2, xrf) Q
  | .inr t => (c_X12_untold Q) t
def c_X12_untold_3 (L : Nat) (xs : Nat → Int32) (d : Nat) (Q : xO → Prop) (t : (Int32 × Int32 × Int32 × Int32 × xI × xJ) ⊕ ((Int32 × Int32 × Int32 × (Option Value) × xI × xJ) ⊕ (Int32 × xI × xJ))) : Prop := match t with
  | .inl s => Rn L xs (d + 1) 295 15 [some (.ref 61), some (.int s.1), some (.int s.2.1), some (.int s.2.2.1), some (.int s.2.2.2.1)] [] 94 (s.2.2.2.2.1, s.2.2.2.2.2, xrf) Q
  | .inr t => (c_X12_untold_1 L xs d Q) t
def f_X12_untold_8 (x1 : Int32) (x2 : Int32) (x3 : Int32) (z4 : Option Value) (I : xI) (J : xJ) : Option (Int32 × xI × xJ) := some (x2, I, J)
def f_X12_untold_7 (x1 : Int32) (x2 : Int32) (x3 : Int32) (x4 : Int32) (I : xI) (J : xJ) : Option ((Int32 × Int32 × Int32 × (Option Value) × xI × xJ) ⊕ (Int32 × xI × xJ)) := some (.inl (x1, x2, ((x3 + 1)), (some (.int x4)), I, J))
def f_X12_untold_6 (x1 : Int32) (x2 : Int32) (x3 : Int32) (x4 : Int32) (I : xI) (J : xJ) : Option ((Int32 × Int32 × Int32 × Int32 × xI × xJ) ⊕ ((Int32 × Int32 × Int32 × (Option Value) × xI × xJ) ⊕ (Int32 × xI × xJ))) := some (.inl (x1, x2, x3, ((x4 + 1)), I, J))
def f_X12_untold_5 (x1 : Int32) (x2 : Int32) (x3 : Int32) (x4 : Int32) (I : xI) (J : xJ) : Option ((Int32 × Int32 × Int32 × Int32 × xI × xJ) ⊕ ((Int32 × Int32 × Int32 × (Option Value) × xI × xJ) ⊕ (Int32 × xI × xJ))) := f_X12_untold_6 x1 ((x2 + 1)) x3 x4 I J
def f_X12_untold_4 (x1 : Int32) (x2 : Int32) (x3 : Int32) (x4 : Int32) (I : xI) (J : xJ) : Option ((Int32 × Int32 × Int32 × Int32 × xI × xJ) ⊕ ((Int32 × Int32 × Int32 × (Option Value) × xI × xJ) ⊕ (Int32 × xI × xJ))) := if ((x1 + (4 * x3)) + x4) < 0 ∨ 54 ≤ (((x1 + (4 * x3)) + x4)).toNatClampNeg then none else if 0 ≤ (I 70 (((x1 + (4 * x3)) + x4)).toNatClampNeg) then f_X12_untold_6 x1 x2 x3 x4 I J else f_X12_untold_5 x1 x2 x3 x4 I J
def b_X12_untold_3 (x1 : Int32) (x2 : Int32) (x3 : Int32) (x4 : Int32) (I : xI) (J : xJ) : Option ((Int32 × Int32 × Int32 × Int32 × xI × xJ) ⊕ ((Int32 × Int32 × Int32 × (Option Value) × xI × xJ) ⊕ (Int32 × xI × xJ))) := if (I 61 18) ≤ x4 then ((f_X12_untold_7 x1 x2 x3 x4 I J)).map .inr else f_X12_untold_4 x1 x2 x3 x4 I J
def f_X12_untold_3 (x1 : Int32) (x2 : Int32) (x3 : Int32) (x4 : Int32) (I : xI) (J : xJ) : Option ((Int32 × Int32 × Int32 × (Option Value) × xI × xJ) ⊕ (Int32 × xI × xJ)) := xloop (fun s : Int32 × Int32 × Int32 × Int32 × xI × xJ => b_X12_untold_3 s.1 s.2.1 s.2.2.1 s.2.2.2.1 s.2.2.2.2.1 s.2.2.2.2.2) 5000 (x1, x2, x3, x4, I, J)
def f_X12_untold_2 (x1 : Int32) (x2 : Int32) (x3 : Int32) (z4 : Option Value) (I : xI) (J : xJ) : Option ((Int32 × Int32 × Int32 × (Option Value) × xI × xJ) ⊕ (Int32 × xI × xJ)) := f_X12_untold_3 x1 x2 x3 0 I J
def b_X12_untold_1 (x1 : Int32) (x2 : Int32) (x3 : Int32) (z4 : Option Value) (I : xI) (J : xJ) : Option ((Int32 × Int32 × Int32 × (Option Value) × xI × xJ) ⊕ (Int32 × xI × xJ)) := if (I 61 17) ≤ x3 then ((f_X12_untold_8 x1 x2 x3 z4 I J)).map .inr else f_X12_untold_2 x1 x2 x3 z4 I J
def f_X12_untold_1 (x1 : Int32) (x2 : Int32) (x3 : Int32) (z4 : Option Value) (I : xI) (J : xJ) : Option (Int32 × xI × xJ) := xloop (fun s : Int32 × Int32 × Int32 × (Option Value) × xI × xJ => b_X12_untold_1 s.1 s.2.1 s.2.2.1 s.2.2.2.1 s.2.2.2.2.1 s.2.2.2.2.2) 5000 (x1, x2, x3, z4, I, J)
def f_X12_untold_0 (x1 : Int32) (I : xI) (J : xJ) : Option (Int32 × xI × xJ) := f_X12_untold_1 x1 0 0 none I J
def f_X12_untold (x1 : Int32) (I : xI) (J : xJ) : Option (Int32 × xI × xJ) := f_X12_untold_0 x1 I J
theorem p_X12_untold_8 {L : Nat} {xs : Nat → Int32} {d : Nat} {Q : xO → Prop} (x1 : Int32) (x2 : Int32) (x3 : Int32) (z4 : Option Value) (I : xI) (J : xJ) {t : Int32 × xI × xJ} (h : f_X12_untold_8 x1 x2 x3 z4 I J = some t) (hC : (c_X12_untold Q) t) : Rn L xs (d + 1) 295 55 [some (.ref 61), some (.int x1), some (.int x2), some (.int x3), z4] [] 94 (I, J, xrf) Q := by
  unfold f_X12_untold_8 at h
  cases h
  exact Rn.ret 2 (o := ((some (.int x2)), 94, (I, J, xrf))) (fun f => rfl) hC
theorem p_X12_untold_7 {L : Nat} {xs : Nat → Int32} {d : Nat} {Q : xO → Prop} (x1 : Int32) (x2 : Int32) (x3 : Int32) (x4 : Int32) (I : xI) (J : xJ) {t : (Int32 × Int32 × Int32 × (Option Value) × xI × xJ) ⊕ (Int32 × xI × xJ)} (h : f_X12_untold_7 x1 x2 x3 x4 I J = some t) (hC : (c_X12_untold_1 L xs d Q) t) : Rn L xs (d + 1) 295 49 [some (.ref 61), some (.int x1), some (.int x2), some (.int x3), some (.int x4)] [] 94 (I, J, xrf) Q := by
  unfold f_X12_untold_7 at h
  refine Rn.go 2 (j' := 295) (pc' := 4) (ls' := [some (.ref 61), some (.int x1), some (.int x2), some (.int ((x3 + 1))), some (.int x4)]) (st' := []) (n' := 94) (M' := (I, J, xrf)) (fun f => rfl) ?_
  cases h; exact hC
theorem p_X12_untold_6 {L : Nat} {xs : Nat → Int32} {d : Nat} {Q : xO → Prop} (x1 : Int32) (x2 : Int32) (x3 : Int32) (x4 : Int32) (I : xI) (J : xJ) {t : (Int32 × Int32 × Int32 × Int32 × xI × xJ) ⊕ ((Int32 × Int32 × Int32 × (Option Value) × xI × xJ) ⊕ (Int32 × xI × xJ))} (h : f_X12_untold_6 x1 x2 x3 x4 I J = some t) (hC : (c_X12_untold_3 L xs d Q) t) : Rn L xs (d + 1) 295 43 [some (.ref 61), some (.int x1), some (.int x2), some (.int x3), some (.int x4)] [] 94 (I, J, xrf) Q := by
  unfold f_X12_untold_6 at h
  refine Rn.go 2 (j' := 295) (pc' := 15) (ls' := [some (.ref 61), some (.int x1), some (.int x2), some (.int x3), some (.int ((x4 + 1)))]) (st' := []) (n' := 94) (M' := (I, J, xrf)) (fun f => rfl) ?_
  cases h; exact hC
theorem p_X12_untold_5 {L : Nat} {xs : Nat → Int32} {d : Nat} {Q : xO → Prop} (x1 : Int32) (x2 : Int32) (x3 : Int32) (x4 : Int32) (I : xI) (J : xJ) {t : (Int32 × Int32 × Int32 × Int32 × xI × xJ) ⊕ ((Int32 × Int32 × Int32 × (Option Value) × xI × xJ) ⊕ (Int32 × xI × xJ))} (h : f_X12_untold_5 x1 x2 x3 x4 I J = some t) (hC : (c_X12_untold_3 L xs d Q) t) : Rn L xs (d + 1) 295 40 [some (.ref 61), some (.int x1), some (.int x2), some (.int x3), some (.int x4)] [] 94 (I, J, xrf) Q := by
  unfold f_X12_untold_5 at h
  refine Rn.go 1 (j' := 295) (pc' := 43) (ls' := [some (.ref 61), some (.int x1), some (.int ((x2 + 1))), some (.int x3), some (.int x4)]) (st' := []) (n' := 94) (M' := (I, J, xrf)) (fun f => rfl) ?_
  exact p_X12_untold_6 x1 ((x2 + 1)) x3 x4 I J h hC
theorem p_X12_untold_4 {L : Nat} {xs : Nat → Int32} {d : Nat} {Q : xO → Prop} (x1 : Int32) (x2 : Int32) (x3 : Int32) (x4 : Int32) (I : xI) (J : xJ) {t : (Int32 × Int32 × Int32 × Int32 × xI × xJ) ⊕ ((Int32 × Int32 × Int32 × (Option Value) × xI × xJ) ⊕ (Int32 × xI × xJ))} (h : f_X12_untold_4 x1 x2 x3 x4 I J = some t) (hC : (c_X12_untold_3 L xs d Q) t) : Rn L xs (d + 1) 295 24 [some (.ref 61), some (.int x1), some (.int x2), some (.int x3), some (.int x4)] [] 94 (I, J, xrf) Q := by
  unfold f_X12_untold_4 at h
  obtain ⟨hc, h⟩ := xif h
  refine Rn.ok 10 (c := ((x1 + (4 * x3)) + x4) < 0 ∨ 54 ≤ (((x1 + (4 * x3)) + x4)).toNatClampNeg) (p1 := 37) (l1 := [some (.ref 61), some (.int x1), some (.int x2), some (.int x3), some (.int x4)]) (s1 := [.int ((I 70 (((x1 + (4 * x3)) + x4)).toNatClampNeg))]) (n1 := 94) (M1 := (I, J, xrf)) (fun f => rfl) hc ?_
  refine Rn.fi 1 (c := 0 ≤ (I 70 (((x1 + (4 * x3)) + x4)).toNatClampNeg)) (p1 := 43) (l1 := [some (.ref 61), some (.int x1), some (.int x2), some (.int x3), some (.int x4)]) (s1 := []) (n1 := 94) (M1 := (I, J, xrf)) (p2 := 40) (l2 := [some (.ref 61), some (.int x1), some (.int x2), some (.int x3), some (.int x4)]) (s2 := []) (n2 := 94) (M2 := (I, J, xrf)) (fun f => rfl) (fun hc => ?_) (fun hc => ?_)
  · rw [if_pos hc] at h
    exact p_X12_untold_6 x1 x2 x3 x4 I J h hC
  · rw [if_neg hc] at h
    exact p_X12_untold_5 x1 x2 x3 x4 I J h hC
theorem q_X12_untold_3 {L : Nat} {xs : Nat → Int32} {d : Nat} {Q : xO → Prop} (x1 : Int32) (x2 : Int32) (x3 : Int32) (x4 : Int32) (I : xI) (J : xJ) {t : (Int32 × Int32 × Int32 × Int32 × xI × xJ) ⊕ ((Int32 × Int32 × Int32 × (Option Value) × xI × xJ) ⊕ (Int32 × xI × xJ))} (h : b_X12_untold_3 x1 x2 x3 x4 I J = some t) (hC : (c_X12_untold_3 L xs d Q) t) : Rn L xs (d + 1) 295 15 [some (.ref 61), some (.int x1), some (.int x2), some (.int x3), some (.int x4)] [] 94 (I, J, xrf) Q := by
  unfold b_X12_untold_3 at h
  refine Rn.fi 4 (c := (I 61 18) ≤ x4) (p1 := 49) (l1 := [some (.ref 61), some (.int x1), some (.int x2), some (.int x3), some (.int x4)]) (s1 := []) (n1 := 94) (M1 := (I, J, xrf)) (p2 := 24) (l2 := [some (.ref 61), some (.int x1), some (.int x2), some (.int x3), some (.int x4)]) (s2 := []) (n2 := 94) (M2 := (I, J, xrf)) (fun f => rfl) (fun hc => ?_) (fun hc => ?_)
  · rw [if_pos hc] at h
    obtain ⟨t0, h0, rfl⟩ := Option.map_eq_some_iff.mp h
    exact p_X12_untold_7 x1 x2 x3 x4 I J h0 hC
  · rw [if_neg hc] at h
    exact p_X12_untold_4 x1 x2 x3 x4 I J h hC
theorem p_X12_untold_3 {L : Nat} {xs : Nat → Int32} {d : Nat} {Q : xO → Prop} (x1 : Int32) (x2 : Int32) (x3 : Int32) (x4 : Int32) (I : xI) (J : xJ) {t : (Int32 × Int32 × Int32 × (Option Value) × xI × xJ) ⊕ (Int32 × xI × xJ)} (h : f_X12_untold_3 x1 x2 x3 x4 I J = some t) (hC : (c_X12_untold_1 L xs d Q) t) : Rn L xs (d + 1) 295 15 [some (.ref 61), some (.int x1), some (.int x2), some (.int x3), some (.int x4)] [] 94 (I, J, xrf) Q := by
  unfold f_X12_untold_3 at h
  exact xloop_some (P := fun s : Int32 × Int32 × Int32 × Int32 × xI × xJ => Rn L xs (d + 1) 295 15 [some (.ref 61), some (.int s.1), some (.int s.2.1), some (.int s.2.2.1), some (.int s.2.2.2.1)] [] 94 (s.2.2.2.2.1, s.2.2.2.2.2, xrf) Q) t (fun s ⟨s', hb, hp⟩ => q_X12_untold_3 s.1 s.2.1 s.2.2.1 s.2.2.2.1 s.2.2.2.2.1 s.2.2.2.2.2 hb hp) (fun s hb => q_X12_untold_3 s.1 s.2.1 s.2.2.1 s.2.2.2.1 s.2.2.2.2.1 s.2.2.2.2.2 hb hC) _ _ h
theorem p_X12_untold_2 {L : Nat} {xs : Nat → Int32} {d : Nat} {Q : xO → Prop} (x1 : Int32) (x2 : Int32) (x3 : Int32) (z4 : Option Value) (I : xI) (J : xJ) {t : (Int32 × Int32 × Int32 × (Option Value) × xI × xJ) ⊕ (Int32 × xI × xJ)} (h : f_X12_untold_2 x1 x2 x3 z4 I J = some t) (hC : (c_X12_untold_1 L xs d Q) t) : Rn L xs (d + 1) 295 12 [some (.ref 61), some (.int x1), some (.int x2), some (.int x3), z4] [] 94 (I, J, xrf) Q := by
  unfold f_X12_untold_2 at h
  refine Rn.go 2 (j' := 295) (pc' := 15) (ls' := [some (.ref 61), some (.int x1), some (.int x2), some (.int x3), some (.int 0)]) (st' := []) (n' := 94) (M' := (I, J, xrf)) (fun f => rfl) ?_
  exact p_X12_untold_3 x1 x2 x3 0 I J h hC
theorem q_X12_untold_1 {L : Nat} {xs : Nat → Int32} {d : Nat} {Q : xO → Prop} (x1 : Int32) (x2 : Int32) (x3 : Int32) (z4 : Option Value) (I : xI) (J : xJ) {t : (Int32 × Int32 × Int32 × (Option Value) × xI × xJ) ⊕ (Int32 × xI × xJ)} (h : b_X12_untold_1 x1 x2 x3 z4 I J = some t) (hC : (c_X12_untold_1 L xs d Q) t) : Rn L xs (d + 1) 295 4 [some (.ref 61), some (.int x1), some (.int x2), some (.int x3), z4] [] 94 (I, J, xrf) Q := by
  unfold b_X12_untold_1 at h
  refine Rn.fi 4 (c := (I 61 17) ≤ x3) (p1 := 55) (l1 := [some (.ref 61), some (.int x1), some (.int x2), some (.int x3), z4]) (s1 := []) (n1 := 94) (M1 := (I, J, xrf)) (p2 := 12) (l2 := [some (.ref 61), some (.int x1), some (.int x2), some (.int x3), z4]) (s2 := []) (n2 := 94) (M2 := (I, J, xrf)) (fun f => rfl) (fun hc => ?_) (fun hc => ?_)
  · rw [if_pos hc] at h
    obtain ⟨t0, h0, rfl⟩ := Option.map_eq_some_iff.mp h
    exact p_X12_untold_8 x1 x2 x3 z4 I J h0 hC
  · rw [if_neg hc] at h
    exact p_X12_untold_2 x1 x2 x3 z4 I J h hC
theorem p_X12_untold_1 {L : Nat} {xs : Nat → Int32} {d : Nat} {Q : xO → Prop} (x1 : Int32) (x2 : Int32) (x3 : Int32) (z4 : Option Value) (I : xI) (J : xJ) {t : Int32 × xI × xJ} (h : f_X12_untold_1 x1 x2 x3 z4 I J = some t) (hC : (c_X12_untold Q) t) : Rn L xs (d + 1) 295 4 [some (.ref 61), some (.int x1), some (.int x2), some (.int x3), z4] [] 94 (I, J, xrf) Q := by
  unfold f_X12_untold_1 at h
  exact xloop_some (P := fun s : Int32 × Int32 × Int32 × (Option Value) × xI × xJ => Rn L xs (d + 1) 295 4 [some (.ref 61), some (.int s.1), some (.int s.2.1), some (.int s.2.2.1), s.2.2.2.1] [] 94 (s.2.2.2.2.1, s.2.2.2.2.2, xrf) Q) t (fun s ⟨s', hb, hp⟩ => q_X12_untold_1 s.1 s.2.1 s.2.2.1 s.2.2.2.1 s.2.2.2.2.1 s.2.2.2.2.2 hb hp) (fun s hb => q_X12_untold_1 s.1 s.2.1 s.2.2.1 s.2.2.2.1 s.2.2.2.2.1 s.2.2.2.2.2 hb hC) _ _ h
theorem p_X12_untold_0 {L : Nat} {xs : Nat → Int32} {d : Nat} {Q : xO → Prop} (x1 : Int32) (I : xI) (J : xJ) {t : Int32 × xI × xJ} (h : f_X12_untold_0 x1 I J = some t) (hC : (c_X12_untold Q) t) : Rn L xs (d + 1) 295 0 [some (.ref 61), some (.int x1), none, none, none] [] 94 (I, J, xrf) Q := by
  unfold f_X12_untold_0 at h
  refine Rn.go 4 (j' := 295) (pc' := 4) (ls' := [some (.ref 61), some (.int x1), some (.int 0), some (.int 0), none]) (st' := []) (n' := 94) (M' := (I, J, xrf)) (fun f => rfl) ?_
  exact p_X12_untold_1 x1 0 0 none I J h hC
theorem p_X12_untold {L : Nat} {xs : Nat → Int32} {d : Nat} {Q : xO → Prop} (x1 : Int32) (I : xI) (J : xJ) {t : Int32 × xI × xJ} (h : f_X12_untold x1 I J = some t) (hC : Q ((some (.int t.1)), 94, (t.2.1, t.2.2, xrf))) : Rn L xs (d + 1) 295 0 [some (.ref 61), some (.int x1), none, none, none] [] 94 (I, J, xrf) Q := p_X12_untold_0 x1 I J h hC
/-! X12_count -/
def c_X12_count (Q : xO → Prop) (t : Int32 × xI × xJ) : Prop := Q ((some (.int t.1)), 94, (t.2.1, t.2.2, xrf))
def c_X12_count_53 (L : Nat) (xs : Nat → Int32) (d : Nat) (Q : xO → Prop) (t : (Int32 × Int32 × Int32 × xI × xJ) ⊕ (Int32 × xI × xJ)) : Prop := match t with
  | .inl s => Rn L xs (d + 7) 297 322 [some (.ref 61), some (.int s.1), some (.int s.2.1), some (.int s.2.2.1)] [] 94 (s.2.2.2.1, s.2.2.2.2, xrf) Q
  | .inr t => (c_X12_count Q) t
def c_X12_count_10 (L : Nat) (xs : Nat → Int32) (d : Nat) (Q : xO → Prop) (t : (Int32 × Int32 × Int32 × xI × xJ) ⊕ (Int32 × xI × xJ)) : Prop := match t with
  | .inl s => Rn L xs (d + 7) 297 115 [some (.ref 61), some (.int s.1), some (.int s.2.1), some (.int s.2.2.1)] [] 94 (s.2.2.2.1, s.2.2.2.2, xrf) Q
  | .inr t => (c_X12_count Q) t
def c_X12_count_16 (L : Nat) (xs : Nat → Int32) (d : Nat) (Q : xO → Prop) (t : (Int32 × Int32 × Int32 × xI × xJ) ⊕ (Int32 × xI × xJ)) : Prop := match t with
  | .inl s => Rn L xs (d + 7) 297 148 [some (.ref 61), some (.int s.1), some (.int s.2.1), some (.int s.2.2.1)] [] 94 (s.2.2.2.1, s.2.2.2.2, xrf) Q
  | .inr t => (c_X12_count Q) t
def c_X12_count_24 (L : Nat) (xs : Nat → Int32) (d : Nat) (Q : xO → Prop) (t : (Int32 × Int32 × Int32 × xI × xJ) ⊕ (Int32 × xI × xJ)) : Prop := match t with
  | .inl s => Rn L xs (d + 7) 297 191 [some (.ref 61), some (.int s.1), some (.int s.2.1), some (.int s.2.2.1)] [] 94 (s.2.2.2.1, s.2.2.2.2, xrf) Q
  | .inr t => (c_X12_count Q) t
def c_X12_count_48 (L : Nat) (xs : Nat → Int32) (d : Nat) (Q : xO → Prop) (t : (Int32 × Int32 × Int32 × xI × xJ) ⊕ (Int32 × xI × xJ)) : Prop := match t with
  | .inl s => Rn L xs (d + 7) 297 289 [some (.ref 61), some (.int s.1), some (.int s.2.1), some (.int s.2.2.1)] [] 94 (s.2.2.2.1, s.2.2.2.2, xrf) Q
  | .inr t => (c_X12_count Q) t
def f_X12_count_3 (x1 : Int32) (x2 : Int32) (I : xI) (J : xJ) : Option (Int32 × xI × xJ) := some ((I 61 17), I, J)
def f_X12_count_4 (x1 : Int32) (x2 : Int32) (I : xI) (J : xJ) : Option (Int32 × xI × xJ) := some ((I 61 18), I, J)
def f_X12_count_6 (x1 : Int32) (x2 : Int32) (s0 : Int32) (I : xI) (J : xJ) : Option (Int32 × xI × xJ) := some (s0, I, J)
def f_X12_count_5 (x1 : Int32) (x2 : Int32) (I : xI) (J : xJ) : Option (Int32 × xI × xJ) := (f_X12_untold 0 I J).bind fun o => f_X12_count_6 x1 x2 o.1 o.2.1 o.2.2
def f_X12_count_8 (x1 : Int32) (x2 : Int32) (s0 : Int32) (s1 : Int32) (I : xI) (J : xJ) : Option (Int32 × xI × xJ) := some ((s0 - s1), I, J)
def f_X12_count_7 (x1 : Int32) (x2 : Int32) (I : xI) (J : xJ) : Option (Int32 × xI × xJ) := (f_X12_untold 24 I J).bind fun o => f_X12_count_8 x1 x2 (((I 61 17) * (I 61 18))) o.1 o.2.1 o.2.2
def f_X12_count_14 (x1 : Int32) (x2 : Int32) (x3 : Int32) (I : xI) (J : xJ) : Option (Int32 × xI × xJ) := some ((x2 / 2), I, J)
def f_X12_count_13 (x1 : Int32) (x2 : Int32) (x3 : Int32) (I : xI) (J : xJ) : Option ((Int32 × Int32 × Int32 × xI × xJ) ⊕ (Int32 × xI × xJ)) := some (.inl (x1, x2, ((x3 + 1)), I, J))
def f_X12_count_12 (x1 : Int32) (x2 : Int32) (x3 : Int32) (I : xI) (J : xJ) : Option ((Int32 × Int32 × Int32 × xI × xJ) ⊕ (Int32 × xI × xJ)) := f_X12_count_13 x1 ((x2 + 1)) x3 I J
def f_X12_count_11 (x1 : Int32) (x2 : Int32) (x3 : Int32) (I : xI) (J : xJ) : Option ((Int32 × Int32 × Int32 × xI × xJ) ⊕ (Int32 × xI × xJ)) := if x3 < 0 ∨ 36 ≤ x3.toNatClampNeg then none else if (I 76 x3.toNatClampNeg) < 0 then f_X12_count_13 x1 x2 x3 I J else f_X12_count_12 x1 x2 x3 I J
def b_X12_count_10 (x1 : Int32) (x2 : Int32) (x3 : Int32) (I : xI) (J : xJ) : Option ((Int32 × Int32 × Int32 × xI × xJ) ⊕ (Int32 × xI × xJ)) := if 36 ≤ x3 then ((f_X12_count_14 x1 x2 x3 I J)).map .inr else f_X12_count_11 x1 x2 x3 I J
def f_X12_count_10 (x1 : Int32) (x2 : Int32) (x3 : Int32) (I : xI) (J : xJ) : Option (Int32 × xI × xJ) := xloop (fun s : Int32 × Int32 × Int32 × xI × xJ => b_X12_count_10 s.1 s.2.1 s.2.2.1 s.2.2.2.1 s.2.2.2.2) 5000 (x1, x2, x3, I, J)
def f_X12_count_9 (x1 : Int32) (x2 : Int32) (I : xI) (J : xJ) : Option (Int32 × xI × xJ) := f_X12_count_10 x1 x2 0 I J
def f_X12_count_20 (x1 : Int32) (x2 : Int32) (x3 : Int32) (I : xI) (J : xJ) : Option (Int32 × xI × xJ) := some (x2, I, J)
def f_X12_count_19 (x1 : Int32) (x2 : Int32) (x3 : Int32) (I : xI) (J : xJ) : Option ((Int32 × Int32 × Int32 × xI × xJ) ⊕ (Int32 × xI × xJ)) := some (.inl (x1, x2, ((x3 + 1)), I, J))
def f_X12_count_18 (x1 : Int32) (x2 : Int32) (x3 : Int32) (I : xI) (J : xJ) : Option ((Int32 × Int32 × Int32 × xI × xJ) ⊕ (Int32 × xI × xJ)) := if x3 < 0 ∨ 36 ≤ x3.toNatClampNeg then none else f_X12_count_19 x1 ((I 76 x3.toNatClampNeg)) x3 I J
def f_X12_count_17 (x1 : Int32) (x2 : Int32) (x3 : Int32) (I : xI) (J : xJ) : Option ((Int32 × Int32 × Int32 × xI × xJ) ⊕ (Int32 × xI × xJ)) := if x3 < 0 ∨ 36 ≤ x3.toNatClampNeg then none else if (I 76 x3.toNatClampNeg) ≤ x2 then f_X12_count_19 x1 x2 x3 I J else f_X12_count_18 x1 x2 x3 I J
def b_X12_count_16 (x1 : Int32) (x2 : Int32) (x3 : Int32) (I : xI) (J : xJ) : Option ((Int32 × Int32 × Int32 × xI × xJ) ⊕ (Int32 × xI × xJ)) := if 36 ≤ x3 then ((f_X12_count_20 x1 x2 x3 I J)).map .inr else f_X12_count_17 x1 x2 x3 I J
def f_X12_count_16 (x1 : Int32) (x2 : Int32) (x3 : Int32) (I : xI) (J : xJ) : Option (Int32 × xI × xJ) := xloop (fun s : Int32 × Int32 × Int32 × xI × xJ => b_X12_count_16 s.1 s.2.1 s.2.2.1 s.2.2.2.1 s.2.2.2.2) 5000 (x1, x2, x3, I, J)
def f_X12_count_15 (x1 : Int32) (x2 : Int32) (I : xI) (J : xJ) : Option (Int32 × xI × xJ) := f_X12_count_16 x1 ((-2)) 0 I J
def f_X12_count_22 (x1 : Int32) (x2 : Int32) (s0 : Int32) (I : xI) (J : xJ) : Option (Int32 × xI × xJ) := some (s0, I, J)
def f_X12_count_21 (x1 : Int32) (x2 : Int32) (I : xI) (J : xJ) : Option (Int32 × xI × xJ) := (f_X12_bits I J).bind fun o => f_X12_count_22 x1 x2 o.1 o.2.1 o.2.2
def f_X12_count_27 (x1 : Int32) (x2 : Int32) (x3 : Int32) (I : xI) (J : xJ) : Option (Int32 × xI × xJ) := some (x2, I, J)
def f_X12_count_26 (x1 : Int32) (x2 : Int32) (x3 : Int32) (s0 : Int32) (s1 : Int32) (I : xI) (J : xJ) : Option ((Int32 × Int32 × Int32 × xI × xJ) ⊕ (Int32 × xI × xJ)) := some (.inl (x1, ((s0 + s1)), ((x3 + Int32.ofInt (-1))), I, J))
def f_X12_count_25 (x1 : Int32) (x2 : Int32) (x3 : Int32) (I : xI) (J : xJ) : Option ((Int32 × Int32 × Int32 × xI × xJ) ⊕ (Int32 × xI × xJ)) := (f_X12_codeOf x3 I J).bind fun o => f_X12_count_26 x1 x2 x3 ((8 * x2)) o.1 o.2.1 o.2.2
def b_X12_count_24 (x1 : Int32) (x2 : Int32) (x3 : Int32) (I : xI) (J : xJ) : Option ((Int32 × Int32 × Int32 × xI × xJ) ⊕ (Int32 × xI × xJ)) := if x3 < 0 then ((f_X12_count_27 x1 x2 x3 I J)).map .inr else f_X12_count_25 x1 x2 x3 I J
def f_X12_count_24 (x1 : Int32) (x2 : Int32) (x3 : Int32) (I : xI) (J : xJ) : Option (Int32 × xI × xJ) := xloop (fun s : Int32 × Int32 × Int32 × xI × xJ => b_X12_count_24 s.1 s.2.1 s.2.2.1 s.2.2.2.1 s.2.2.2.2) 5000 (x1, x2, x3, I, J)
def f_X12_count_23 (x1 : Int32) (x2 : Int32) (I : xI) (J : xJ) : Option (Int32 × xI × xJ) := f_X12_count_24 x1 x2 (((I 61 17) - 1)) I J
def f_X12_count_28 (x1 : Int32) (x2 : Int32) (I : xI) (J : xJ) : Option (Int32 × xI × xJ) := some ((I 61 2), I, J)
def f_X12_count_29 (x1 : Int32) (x2 : Int32) (I : xI) (J : xJ) : Option (Int32 × xI × xJ) := some ((I 61 26), I, J)
def f_X12_count_39 (x1 : Int32) (x2 : Int32) (s0 : Int32) (s1 : Int32) (I : xI) (J : xJ) : Option (Int32 × xI × xJ) := some ((s0 + s1), I, J)
def f_X12_count_38 (x1 : Int32) (x2 : Int32) (s0 : Int32) (I : xI) (J : xJ) : Option (Int32 × xI × xJ) := f_X12_count_39 x1 x2 s0 0 I J
def f_X12_count_37 (x1 : Int32) (x2 : Int32) (s0 : Int32) (I : xI) (J : xJ) : Option (Int32 × xI × xJ) := f_X12_count_39 x1 x2 s0 1 I J
def f_X12_count_36 (x1 : Int32) (x2 : Int32) (s0 : Int32) (s1 : Int32) (I : xI) (J : xJ) : Option (Int32 × xI × xJ) := if (I 74 2) = 0 then f_X12_count_38 x1 x2 ((s0 + s1)) I J else f_X12_count_37 x1 x2 ((s0 + s1)) I J
def f_X12_count_35 (x1 : Int32) (x2 : Int32) (s0 : Int32) (I : xI) (J : xJ) : Option (Int32 × xI × xJ) := f_X12_count_36 x1 x2 s0 0 I J
def f_X12_count_34 (x1 : Int32) (x2 : Int32) (s0 : Int32) (I : xI) (J : xJ) : Option (Int32 × xI × xJ) := f_X12_count_36 x1 x2 s0 1 I J
def f_X12_count_33 (x1 : Int32) (x2 : Int32) (s0 : Int32) (I : xI) (J : xJ) : Option (Int32 × xI × xJ) := if (I 74 1) = 0 then f_X12_count_35 x1 x2 s0 I J else f_X12_count_34 x1 x2 s0 I J
def f_X12_count_32 (x1 : Int32) (x2 : Int32) (I : xI) (J : xJ) : Option (Int32 × xI × xJ) := f_X12_count_33 x1 x2 0 I J
def f_X12_count_31 (x1 : Int32) (x2 : Int32) (I : xI) (J : xJ) : Option (Int32 × xI × xJ) := f_X12_count_33 x1 x2 1 I J
def f_X12_count_30 (x1 : Int32) (x2 : Int32) (I : xI) (J : xJ) : Option (Int32 × xI × xJ) := if (I 74 0) = 0 then f_X12_count_32 x1 x2 I J else f_X12_count_31 x1 x2 I J
def f_X12_count_41 (x1 : Int32) (x2 : Int32) (s0 : Int32) (I : xI) (J : xJ) : Option (Int32 × xI × xJ) := some (s0, I, J)
def f_X12_count_40 (x1 : Int32) (x2 : Int32) (I : xI) (J : xJ) : Option (Int32 × xI × xJ) := (f_X12_unreached I J).bind fun o => f_X12_count_41 x1 x2 o.1 o.2.1 o.2.2
def f_X12_count_46 (x1 : Int32) (x2 : Int32) (s0 : Int32) (I : xI) (J : xJ) : Option (Int32 × xI × xJ) := some (s0, I, J)
def f_X12_count_45 (x1 : Int32) (x2 : Int32) (I : xI) (J : xJ) : Option (Int32 × xI × xJ) := f_X12_count_46 x1 x2 0 I J
def f_X12_count_44 (x1 : Int32) (x2 : Int32) (I : xI) (J : xJ) : Option (Int32 × xI × xJ) := f_X12_count_46 x1 x2 1 I J
def f_X12_count_43 (x1 : Int32) (x2 : Int32) (s0 : Int32) (I : xI) (J : xJ) : Option (Int32 × xI × xJ) := if s0 = 0 then f_X12_count_45 x1 x2 I J else f_X12_count_44 x1 x2 I J
def f_X12_count_42 (x1 : Int32) (x2 : Int32) (I : xI) (J : xJ) : Option (Int32 × xI × xJ) := (f_X12_isProper I J).bind fun o => f_X12_count_43 x1 x2 o.1 o.2.1 o.2.2
def f_X12_count_51 (x1 : Int32) (x2 : Int32) (x3 : Int32) (I : xI) (J : xJ) : Option (Int32 × xI × xJ) := some (x2, I, J)
def f_X12_count_50 (x1 : Int32) (x2 : Int32) (x3 : Int32) (s0 : Int32) (s1 : Int32) (I : xI) (J : xJ) : Option ((Int32 × Int32 × Int32 × xI × xJ) ⊕ (Int32 × xI × xJ)) := some (.inl (x1, ((s0 + s1)), ((x3 + 1)), I, J))
def f_X12_count_49 (x1 : Int32) (x2 : Int32) (x3 : Int32) (I : xI) (J : xJ) : Option ((Int32 × Int32 × Int32 × xI × xJ) ⊕ (Int32 × xI × xJ)) := if x3 < 0 ∨ 6 ≤ x3.toNatClampNeg then none else (f_X12_bitsOf ((I 81 x3.toNatClampNeg)) I J).bind fun o => f_X12_count_50 x1 x2 x3 x2 o.1 o.2.1 o.2.2
def b_X12_count_48 (x1 : Int32) (x2 : Int32) (x3 : Int32) (I : xI) (J : xJ) : Option ((Int32 × Int32 × Int32 × xI × xJ) ⊕ (Int32 × xI × xJ)) := if (I 61 17) ≤ x3 then ((f_X12_count_51 x1 x2 x3 I J)).map .inr else f_X12_count_49 x1 x2 x3 I J
def f_X12_count_48 (x1 : Int32) (x2 : Int32) (x3 : Int32) (I : xI) (J : xJ) : Option (Int32 × xI × xJ) := xloop (fun s : Int32 × Int32 × Int32 × xI × xJ => b_X12_count_48 s.1 s.2.1 s.2.2.1 s.2.2.2.1 s.2.2.2.2) 5000 (x1, x2, x3, I, J)
def f_X12_count_47 (x1 : Int32) (x2 : Int32) (I : xI) (J : xJ) : Option (Int32 × xI × xJ) := f_X12_count_48 x1 x2 0 I J
def f_X12_count_60 (x1 : Int32) (x2 : Int32) (x3 : Int32) (I : xI) (J : xJ) : Option (Int32 × xI × xJ) := some (x2, I, J)
def f_X12_count_59 (x1 : Int32) (x2 : Int32) (x3 : Int32) (I : xI) (J : xJ) : Option ((Int32 × Int32 × Int32 × xI × xJ) ⊕ (Int32 × xI × xJ)) := some (.inl (x1, x2, ((x3 + 1)), I, J))
def f_X12_count_58 (x1 : Int32) (x2 : Int32) (x3 : Int32) (I : xI) (J : xJ) : Option ((Int32 × Int32 × Int32 × xI × xJ) ⊕ (Int32 × xI × xJ)) := if x3 < 0 ∨ 203 ≤ x3.toNatClampNeg then none else f_X12_count_59 x1 ((I 83 x3.toNatClampNeg)) x3 I J
def f_X12_count_57 (x1 : Int32) (x2 : Int32) (x3 : Int32) (I : xI) (J : xJ) : Option ((Int32 × Int32 × Int32 × xI × xJ) ⊕ (Int32 × xI × xJ)) := if x3 < 0 ∨ 203 ≤ x3.toNatClampNeg then none else if x2 ≤ (I 83 x3.toNatClampNeg) then f_X12_count_59 x1 x2 x3 I J else f_X12_count_58 x1 x2 x3 I J
def f_X12_count_56 (x1 : Int32) (x2 : Int32) (x3 : Int32) (I : xI) (J : xJ) : Option ((Int32 × Int32 × Int32 × xI × xJ) ⊕ (Int32 × xI × xJ)) := if x2 < 0 then f_X12_count_58 x1 x2 x3 I J else f_X12_count_57 x1 x2 x3 I J
def f_X12_count_55 (x1 : Int32) (x2 : Int32) (x3 : Int32) (I : xI) (J : xJ) : Option ((Int32 × Int32 × Int32 × xI × xJ) ⊕ (Int32 × xI × xJ)) := if x3 < 0 ∨ 203 ≤ x3.toNatClampNeg then none else if (I 83 x3.toNatClampNeg) ≤ 1 then f_X12_count_59 x1 x2 x3 I J else f_X12_count_56 x1 x2 x3 I J
def f_X12_count_54 (x1 : Int32) (x2 : Int32) (x3 : Int32) (I : xI) (J : xJ) : Option ((Int32 × Int32 × Int32 × xI × xJ) ⊕ (Int32 × xI × xJ)) := if x3 < 0 ∨ 203 ≤ x3.toNatClampNeg then none else if (I 84 x3.toNatClampNeg) = 0 then f_X12_count_59 x1 x2 x3 I J else f_X12_count_55 x1 x2 x3 I J
def b_X12_count_53 (x1 : Int32) (x2 : Int32) (x3 : Int32) (I : xI) (J : xJ) : Option ((Int32 × Int32 × Int32 × xI × xJ) ⊕ (Int32 × xI × xJ)) := if (I 61 40) ≤ x3 then ((f_X12_count_60 x1 x2 x3 I J)).map .inr else f_X12_count_54 x1 x2 x3 I J
def f_X12_count_53 (x1 : Int32) (x2 : Int32) (x3 : Int32) (I : xI) (J : xJ) : Option (Int32 × xI × xJ) := xloop (fun s : Int32 × Int32 × Int32 × xI × xJ => b_X12_count_53 s.1 s.2.1 s.2.2.1 s.2.2.2.1 s.2.2.2.2) 5000 (x1, x2, x3, I, J)
def f_X12_count_52 (x1 : Int32) (x2 : Int32) (I : xI) (J : xJ) : Option (Int32 × xI × xJ) := f_X12_count_53 x1 ((-2)) 0 I J
def f_X12_count_61 (x1 : Int32) (x2 : Int32) (I : xI) (J : xJ) : Option (Int32 × xI × xJ) := some ((-1), I, J)
def f_X12_count_2 (x1 : Int32) (x2 : Int32) (s0 : Int32) (I : xI) (J : xJ) : Option (Int32 × xI × xJ) := if s0 = 0 then f_X12_count_3 x1 x2 I J else if s0 = 1 then f_X12_count_4 x1 x2 I J else if s0 = 2 then f_X12_count_5 x1 x2 I J else if s0 = 3 then f_X12_count_7 x1 x2 I J else if s0 = 4 then f_X12_count_9 x1 x2 I J else if s0 = 5 then f_X12_count_15 x1 x2 I J else if s0 = 6 then f_X12_count_21 x1 x2 I J else if s0 = 7 then f_X12_count_23 x1 x2 I J else if s0 = 8 then f_X12_count_28 x1 x2 I J else if s0 = 9 then f_X12_count_29 x1 x2 I J else if s0 = 10 then f_X12_count_30 x1 x2 I J else if s0 = 11 then f_X12_count_40 x1 x2 I J else if s0 = 12 then f_X12_count_42 x1 x2 I J else if s0 = 13 then f_X12_count_47 x1 x2 I J else if s0 = 14 then f_X12_count_52 x1 x2 I J else f_X12_count_61 x1 x2 I J
def f_X12_count_1 (x1 : Int32) (I : xI) (J : xJ) : Option (Int32 × xI × xJ) := f_X12_count_2 x1 0 x1 I J
def f_X12_count_0 (x1 : Int32) (I : xI) (J : xJ) : Option (Int32 × xI × xJ) := (f_X12_knows I J).bind fun o => f_X12_count_1 x1 o.2.1 o.2.2
def f_X12_count (x1 : Int32) (I : xI) (J : xJ) : Option (Int32 × xI × xJ) := f_X12_count_0 x1 I J
theorem p_X12_count_3 {L : Nat} {xs : Nat → Int32} {d : Nat} {Q : xO → Prop} (x1 : Int32) (x2 : Int32) (I : xI) (J : xJ) {t : Int32 × xI × xJ} (h : f_X12_count_3 x1 x2 I J = some t) (hC : (c_X12_count Q) t) : Rn L xs (d + 7) 297 80 [some (.ref 61), some (.int x1), some (.int x2), none] [] 94 (I, J, xrf) Q := by
  unfold f_X12_count_3 at h
  cases h
  exact Rn.ret 3 (o := ((some (.int ((I 61 17)))), 94, (I, J, xrf))) (fun f => rfl) hC
theorem p_X12_count_4 {L : Nat} {xs : Nat → Int32} {d : Nat} {Q : xO → Prop} (x1 : Int32) (x2 : Int32) (I : xI) (J : xJ) {t : Int32 × xI × xJ} (h : f_X12_count_4 x1 x2 I J = some t) (hC : (c_X12_count Q) t) : Rn L xs (d + 7) 297 85 [some (.ref 61), some (.int x1), some (.int x2), none] [] 94 (I, J, xrf) Q := by
  unfold f_X12_count_4 at h
  cases h
  exact Rn.ret 3 (o := ((some (.int ((I 61 18)))), 94, (I, J, xrf))) (fun f => rfl) hC
theorem p_X12_count_6 {L : Nat} {xs : Nat → Int32} {d : Nat} {Q : xO → Prop} (x1 : Int32) (x2 : Int32) (s0 : Int32) (I : xI) (J : xJ) {t : Int32 × xI × xJ} (h : f_X12_count_6 x1 x2 s0 I J = some t) (hC : (c_X12_count Q) t) : Rn L xs (d + 7) 297 95 [some (.ref 61), some (.int x1), some (.int x2), none] [.int s0] 94 (I, J, xrf) Q := by
  unfold f_X12_count_6 at h
  cases h
  exact Rn.ret 1 (o := ((some (.int s0)), 94, (I, J, xrf))) (fun f => rfl) hC
theorem p_X12_count_5 {L : Nat} {xs : Nat → Int32} {d : Nat} {Q : xO → Prop} (x1 : Int32) (x2 : Int32) (I : xI) (J : xJ) {t : Int32 × xI × xJ} (h : f_X12_count_5 x1 x2 I J = some t) (hC : (c_X12_count Q) t) : Rn L xs (d + 7) 297 90 [some (.ref 61), some (.int x1), some (.int x2), none] [] 94 (I, J, xrf) Q := by
  unfold f_X12_count_5 at h
  refine Rn.go 2 (j' := 297) (pc' := 92) (ls' := [some (.ref 61), some (.int x1), some (.int x2), none]) (st' := [.int 0, .ref 61]) (n' := 94) (M' := (I, J, xrf)) (fun f => rfl) ?_
  obtain ⟨o, ho, h⟩ := Option.bind_eq_some_iff.mp h
  refine Rn.call (d1 := d + 6) (j1 := 295) (ls1 := [some (.ref 61), some (.int 0), none, none, none]) (rest := []) (fun f => rfl) ?_
  refine p_X12_untold (d := d + 5) 0 I J (t := o) ho ?_
  exact p_X12_count_6 x1 x2 o.1 o.2.1 o.2.2 h hC
theorem p_X12_count_8 {L : Nat} {xs : Nat → Int32} {d : Nat} {Q : xO → Prop} (x1 : Int32) (x2 : Int32) (s0 : Int32) (s1 : Int32) (I : xI) (J : xJ) {t : Int32 × xI × xJ} (h : f_X12_count_8 x1 x2 s0 s1 I J = some t) (hC : (c_X12_count Q) t) : Rn L xs (d + 7) 297 111 [some (.ref 61), some (.int x1), some (.int x2), none] [.int s1, .int s0] 94 (I, J, xrf) Q := by
  unfold f_X12_count_8 at h
  cases h
  exact Rn.ret 2 (o := ((some (.int ((s0 - s1)))), 94, (I, J, xrf))) (fun f => rfl) hC
theorem p_X12_count_7 {L : Nat} {xs : Nat → Int32} {d : Nat} {Q : xO → Prop} (x1 : Int32) (x2 : Int32) (I : xI) (J : xJ) {t : Int32 × xI × xJ} (h : f_X12_count_7 x1 x2 I J = some t) (hC : (c_X12_count Q) t) : Rn L xs (d + 7) 297 96 [some (.ref 61), some (.int x1), some (.int x2), none] [] 94 (I, J, xrf) Q := by
  unfold f_X12_count_7 at h
  refine Rn.go 7 (j' := 297) (pc' := 108) (ls' := [some (.ref 61), some (.int x1), some (.int x2), none]) (st' := [.int 24, .ref 61, .int (((I 61 17) * (I 61 18)))]) (n' := 94) (M' := (I, J, xrf)) (fun f => rfl) ?_
  obtain ⟨o, ho, h⟩ := Option.bind_eq_some_iff.mp h
  refine Rn.call (d1 := d + 6) (j1 := 295) (ls1 := [some (.ref 61), some (.int 24), none, none, none]) (rest := [.int (((I 61 17) * (I 61 18)))]) (fun f => rfl) ?_
  refine p_X12_untold (d := d + 5) 24 I J (t := o) ho ?_
  exact p_X12_count_8 x1 x2 (((I 61 17) * (I 61 18))) o.1 o.2.1 o.2.2 h hC
theorem p_X12_count_14 {L : Nat} {xs : Nat → Int32} {d : Nat} {Q : xO → Prop} (x1 : Int32) (x2 : Int32) (x3 : Int32) (I : xI) (J : xJ) {t : Int32 × xI × xJ} (h : f_X12_count_14 x1 x2 x3 I J = some t) (hC : (c_X12_count Q) t) : Rn L xs (d + 7) 297 139 [some (.ref 61), some (.int x1), some (.int x2), some (.int x3)] [] 94 (I, J, xrf) Q := by
  unfold f_X12_count_14 at h
  cases h
  exact Rn.ret 4 (o := ((some (.int ((x2 / 2)))), 94, (I, J, xrf))) (fun f => rfl) hC
theorem p_X12_count_13 {L : Nat} {xs : Nat → Int32} {d : Nat} {Q : xO → Prop} (x1 : Int32) (x2 : Int32) (x3 : Int32) (I : xI) (J : xJ) {t : (Int32 × Int32 × Int32 × xI × xJ) ⊕ (Int32 × xI × xJ)} (h : f_X12_count_13 x1 x2 x3 I J = some t) (hC : (c_X12_count_10 L xs d Q) t) : Rn L xs (d + 7) 297 133 [some (.ref 61), some (.int x1), some (.int x2), some (.int x3)] [] 94 (I, J, xrf) Q := by
  unfold f_X12_count_13 at h
  refine Rn.go 2 (j' := 297) (pc' := 115) (ls' := [some (.ref 61), some (.int x1), some (.int x2), some (.int ((x3 + 1)))]) (st' := []) (n' := 94) (M' := (I, J, xrf)) (fun f => rfl) ?_
  cases h; exact hC
theorem p_X12_count_12 {L : Nat} {xs : Nat → Int32} {d : Nat} {Q : xO → Prop} (x1 : Int32) (x2 : Int32) (x3 : Int32) (I : xI) (J : xJ) {t : (Int32 × Int32 × Int32 × xI × xJ) ⊕ (Int32 × xI × xJ)} (h : f_X12_count_12 x1 x2 x3 I J = some t) (hC : (c_X12_count_10 L xs d Q) t) : Rn L xs (d + 7) 297 130 [some (.ref 61), some (.int x1), some (.int x2), some (.int x3)] [] 94 (I, J, xrf) Q := by
  unfold f_X12_count_12 at h
  refine Rn.go 1 (j' := 297) (pc' := 133) (ls' := [some (.ref 61), some (.int x1), some (.int ((x2 + 1))), some (.int x3)]) (st' := []) (n' := 94) (M' := (I, J, xrf)) (fun f => rfl) ?_
  exact p_X12_count_13 x1 ((x2 + 1)) x3 I J h hC
theorem p_X12_count_11 {L : Nat} {xs : Nat → Int32} {d : Nat} {Q : xO → Prop} (x1 : Int32) (x2 : Int32) (x3 : Int32) (I : xI) (J : xJ) {t : (Int32 × Int32 × Int32 × xI × xJ) ⊕ (Int32 × xI × xJ)} (h : f_X12_count_11 x1 x2 x3 I J = some t) (hC : (c_X12_count_10 L xs d Q) t) : Rn L xs (d + 7) 297 121 [some (.ref 61), some (.int x1), some (.int x2), some (.int x3)] [] 94 (I, J, xrf) Q := by
  unfold f_X12_count_11 at h
  obtain ⟨hc, h⟩ := xif h
  refine Rn.ok 4 (c := x3 < 0 ∨ 36 ≤ x3.toNatClampNeg) (p1 := 127) (l1 := [some (.ref 61), some (.int x1), some (.int x2), some (.int x3)]) (s1 := [.int ((I 76 x3.toNatClampNeg))]) (n1 := 94) (M1 := (I, J, xrf)) (fun f => rfl) hc ?_
  refine Rn.fi 1 (c := (I 76 x3.toNatClampNeg) < 0) (p1 := 133) (l1 := [some (.ref 61), some (.int x1), some (.int x2), some (.int x3)]) (s1 := []) (n1 := 94) (M1 := (I, J, xrf)) (p2 := 130) (l2 := [some (.ref 61), some (.int x1), some (.int x2), some (.int x3)]) (s2 := []) (n2 := 94) (M2 := (I, J, xrf)) (fun f => rfl) (fun hc => ?_) (fun hc => ?_)
  · rw [if_pos hc] at h
    exact p_X12_count_13 x1 x2 x3 I J h hC
  · rw [if_neg hc] at h
    exact p_X12_count_12 x1 x2 x3 I J h hC
theorem q_X12_count_10 {L : Nat} {xs : Nat → Int32} {d : Nat} {Q : xO → Prop} (x1 : Int32) (x2 : Int32) (x3 : Int32) (I : xI) (J : xJ) {t : (Int32 × Int32 × Int32 × xI × xJ) ⊕ (Int32 × xI × xJ)} (h : b_X12_count_10 x1 x2 x3 I J = some t) (hC : (c_X12_count_10 L xs d Q) t) : Rn L xs (d + 7) 297 115 [some (.ref 61), some (.int x1), some (.int x2), some (.int x3)] [] 94 (I, J, xrf) Q := by
  unfold b_X12_count_10 at h
  refine Rn.fi 3 (c := 36 ≤ x3) (p1 := 139) (l1 := [some (.ref 61), some (.int x1), some (.int x2), some (.int x3)]) (s1 := []) (n1 := 94) (M1 := (I, J, xrf)) (p2 := 121) (l2 := [some (.ref 61), some (.int x1), some (.int x2), some (.int x3)]) (s2 := []) (n2 := 94) (M2 := (I, J, xrf)) (fun f => rfl) (fun hc => ?_) (fun hc => ?_)
  · rw [if_pos hc] at h
    obtain ⟨t0, h0, rfl⟩ := Option.map_eq_some_iff.mp h
    exact p_X12_count_14 x1 x2 x3 I J h0 hC
  · rw [if_neg hc] at h
    exact p_X12_count_11 x1 x2 x3 I J h hC
theorem p_X12_count_10 {L : Nat} {xs : Nat → Int32} {d : Nat} {Q : xO → Prop} (x1 : Int32) (x2 : Int32) (x3 : Int32) (I : xI) (J : xJ) {t : Int32 × xI × xJ} (h : f_X12_count_10 x1 x2 x3 I J = some t) (hC : (c_X12_count Q) t) : Rn L xs (d + 7) 297 115 [some (.ref 61), some (.int x1), some (.int x2), some (.int x3)] [] 94 (I, J, xrf) Q := by
  unfold f_X12_count_10 at h
  exact xloop_some (P := fun s : Int32 × Int32 × Int32 × xI × xJ => Rn L xs (d + 7) 297 115 [some (.ref 61), some (.int s.1), some (.int s.2.1), some (.int s.2.2.1)] [] 94 (s.2.2.2.1, s.2.2.2.2, xrf) Q) t (fun s ⟨s', hb, hp⟩ => q_X12_count_10 s.1 s.2.1 s.2.2.1 s.2.2.2.1 s.2.2.2.2 hb hp) (fun s hb => q_X12_count_10 s.1 s.2.1 s.2.2.1 s.2.2.2.1 s.2.2.2.2 hb hC) _ _ h
theorem p_X12_count_9 {L : Nat} {xs : Nat → Int32} {d : Nat} {Q : xO → Prop} (x1 : Int32) (x2 : Int32) (I : xI) (J : xJ) {t : Int32 × xI × xJ} (h : f_X12_count_9 x1 x2 I J = some t) (hC : (c_X12_count Q) t) : Rn L xs (d + 7) 297 113 [some (.ref 61), some (.int x1), some (.int x2), none] [] 94 (I, J, xrf) Q := by
  unfold f_X12_count_9 at h
  refine Rn.go 2 (j' := 297) (pc' := 115) (ls' := [some (.ref 61), some (.int x1), some (.int x2), some (.int 0)]) (st' := []) (n' := 94) (M' := (I, J, xrf)) (fun f => rfl) ?_
  exact p_X12_count_10 x1 x2 0 I J h hC
theorem p_X12_count_20 {L : Nat} {xs : Nat → Int32} {d : Nat} {Q : xO → Prop} (x1 : Int32) (x2 : Int32) (x3 : Int32) (I : xI) (J : xJ) {t : Int32 × xI × xJ} (h : f_X12_count_20 x1 x2 x3 I J = some t) (hC : (c_X12_count Q) t) : Rn L xs (d + 7) 297 177 [some (.ref 61), some (.int x1), some (.int x2), some (.int x3)] [] 94 (I, J, xrf) Q := by
  unfold f_X12_count_20 at h
  cases h
  exact Rn.ret 2 (o := ((some (.int x2)), 94, (I, J, xrf))) (fun f => rfl) hC
theorem p_X12_count_19 {L : Nat} {xs : Nat → Int32} {d : Nat} {Q : xO → Prop} (x1 : Int32) (x2 : Int32) (x3 : Int32) (I : xI) (J : xJ) {t : (Int32 × Int32 × Int32 × xI × xJ) ⊕ (Int32 × xI × xJ)} (h : f_X12_count_19 x1 x2 x3 I J = some t) (hC : (c_X12_count_16 L xs d Q) t) : Rn L xs (d + 7) 297 171 [some (.ref 61), some (.int x1), some (.int x2), some (.int x3)] [] 94 (I, J, xrf) Q := by
  unfold f_X12_count_19 at h
  refine Rn.go 2 (j' := 297) (pc' := 148) (ls' := [some (.ref 61), some (.int x1), some (.int x2), some (.int ((x3 + 1)))]) (st' := []) (n' := 94) (M' := (I, J, xrf)) (fun f => rfl) ?_
  cases h; exact hC
theorem p_X12_count_18 {L : Nat} {xs : Nat → Int32} {d : Nat} {Q : xO → Prop} (x1 : Int32) (x2 : Int32) (x3 : Int32) (I : xI) (J : xJ) {t : (Int32 × Int32 × Int32 × xI × xJ) ⊕ (Int32 × xI × xJ)} (h : f_X12_count_18 x1 x2 x3 I J = some t) (hC : (c_X12_count_16 L xs d Q) t) : Rn L xs (d + 7) 297 164 [some (.ref 61), some (.int x1), some (.int x2), some (.int x3)] [] 94 (I, J, xrf) Q := by
  unfold f_X12_count_18 at h
  obtain ⟨hc, h⟩ := xif h
  refine Rn.ok 4 (c := x3 < 0 ∨ 36 ≤ x3.toNatClampNeg) (p1 := 170) (l1 := [some (.ref 61), some (.int x1), some (.int x2), some (.int x3)]) (s1 := [.int ((I 76 x3.toNatClampNeg))]) (n1 := 94) (M1 := (I, J, xrf)) (fun f => rfl) hc ?_
  refine Rn.go 1 (j' := 297) (pc' := 171) (ls' := [some (.ref 61), some (.int x1), some (.int ((I 76 x3.toNatClampNeg))), some (.int x3)]) (st' := []) (n' := 94) (M' := (I, J, xrf)) (fun f => rfl) ?_
  exact p_X12_count_19 x1 ((I 76 x3.toNatClampNeg)) x3 I J h hC
theorem p_X12_count_17 {L : Nat} {xs : Nat → Int32} {d : Nat} {Q : xO → Prop} (x1 : Int32) (x2 : Int32) (x3 : Int32) (I : xI) (J : xJ) {t : (Int32 × Int32 × Int32 × xI × xJ) ⊕ (Int32 × xI × xJ)} (h : f_X12_count_17 x1 x2 x3 I J = some t) (hC : (c_X12_count_16 L xs d Q) t) : Rn L xs (d + 7) 297 154 [some (.ref 61), some (.int x1), some (.int x2), some (.int x3)] [] 94 (I, J, xrf) Q := by
  unfold f_X12_count_17 at h
  obtain ⟨hc, h⟩ := xif h
  refine Rn.ok 4 (c := x3 < 0 ∨ 36 ≤ x3.toNatClampNeg) (p1 := 160) (l1 := [some (.ref 61), some (.int x1), some (.int x2), some (.int x3)]) (s1 := [.int ((I 76 x3.toNatClampNeg))]) (n1 := 94) (M1 := (I, J, xrf)) (fun f => rfl) hc ?_
  refine Rn.fi 2 (c := (I 76 x3.toNatClampNeg) ≤ x2) (p1 := 171) (l1 := [some (.ref 61), some (.int x1), some (.int x2), some (.int x3)]) (s1 := []) (n1 := 94) (M1 := (I, J, xrf)) (p2 := 164) (l2 := [some (.ref 61), some (.int x1), some (.int x2), some (.int x3)]) (s2 := []) (n2 := 94) (M2 := (I, J, xrf)) (fun f => rfl) (fun hc => ?_) (fun hc => ?_)
  · rw [if_pos hc] at h
    exact p_X12_count_19 x1 x2 x3 I J h hC
  · rw [if_neg hc] at h
    exact p_X12_count_18 x1 x2 x3 I J h hC
theorem q_X12_count_16 {L : Nat} {xs : Nat → Int32} {d : Nat} {Q : xO → Prop} (x1 : Int32) (x2 : Int32) (x3 : Int32) (I : xI) (J : xJ) {t : (Int32 × Int32 × Int32 × xI × xJ) ⊕ (Int32 × xI × xJ)} (h : b_X12_count_16 x1 x2 x3 I J = some t) (hC : (c_X12_count_16 L xs d Q) t) : Rn L xs (d + 7) 297 148 [some (.ref 61), some (.int x1), some (.int x2), some (.int x3)] [] 94 (I, J, xrf) Q := by
  unfold b_X12_count_16 at h
  refine Rn.fi 3 (c := 36 ≤ x3) (p1 := 177) (l1 := [some (.ref 61), some (.int x1), some (.int x2), some (.int x3)]) (s1 := []) (n1 := 94) (M1 := (I, J, xrf)) (p2 := 154) (l2 := [some (.ref 61), some (.int x1), some (.int x2), some (.int x3)]) (s2 := []) (n2 := 94) (M2 := (I, J, xrf)) (fun f => rfl) (fun hc => ?_) (fun hc => ?_)
  · rw [if_pos hc] at h
    obtain ⟨t0, h0, rfl⟩ := Option.map_eq_some_iff.mp h
    exact p_X12_count_20 x1 x2 x3 I J h0 hC
  · rw [if_neg hc] at h
    exact p_X12_count_17 x1 x2 x3 I J h hC
theorem p_X12_count_16 {L : Nat} {xs : Nat → Int32} {d : Nat} {Q : xO → Prop} (x1 : Int32) (x2 : Int32) (x3 : Int32) (I : xI) (J : xJ) {t : Int32 × xI × xJ} (h : f_X12_count_16 x1 x2 x3 I J = some t) (hC : (c_X12_count Q) t) : Rn L xs (d + 7) 297 148 [some (.ref 61), some (.int x1), some (.int x2), some (.int x3)] [] 94 (I, J, xrf) Q := by
  unfold f_X12_count_16 at h
  exact xloop_some (P := fun s : Int32 × Int32 × Int32 × xI × xJ => Rn L xs (d + 7) 297 148 [some (.ref 61), some (.int s.1), some (.int s.2.1), some (.int s.2.2.1)] [] 94 (s.2.2.2.1, s.2.2.2.2, xrf) Q) t (fun s ⟨s', hb, hp⟩ => q_X12_count_16 s.1 s.2.1 s.2.2.1 s.2.2.2.1 s.2.2.2.2 hb hp) (fun s hb => q_X12_count_16 s.1 s.2.1 s.2.2.1 s.2.2.2.1 s.2.2.2.2 hb hC) _ _ h
theorem p_X12_count_15 {L : Nat} {xs : Nat → Int32} {d : Nat} {Q : xO → Prop} (x1 : Int32) (x2 : Int32) (I : xI) (J : xJ) {t : Int32 × xI × xJ} (h : f_X12_count_15 x1 x2 I J = some t) (hC : (c_X12_count Q) t) : Rn L xs (d + 7) 297 143 [some (.ref 61), some (.int x1), some (.int x2), none] [] 94 (I, J, xrf) Q := by
  unfold f_X12_count_15 at h
  refine Rn.go 4 (j' := 297) (pc' := 148) (ls' := [some (.ref 61), some (.int x1), some (.int ((-2))), some (.int 0)]) (st' := []) (n' := 94) (M' := (I, J, xrf)) (fun f => rfl) ?_
  exact p_X12_count_16 x1 ((-2)) 0 I J h hC
theorem p_X12_count_22 {L : Nat} {xs : Nat → Int32} {d : Nat} {Q : xO → Prop} (x1 : Int32) (x2 : Int32) (s0 : Int32) (I : xI) (J : xJ) {t : Int32 × xI × xJ} (h : f_X12_count_22 x1 x2 s0 I J = some t) (hC : (c_X12_count Q) t) : Rn L xs (d + 7) 297 183 [some (.ref 61), some (.int x1), some (.int x2), none] [.int s0] 94 (I, J, xrf) Q := by
  unfold f_X12_count_22 at h
  cases h
  exact Rn.ret 1 (o := ((some (.int s0)), 94, (I, J, xrf))) (fun f => rfl) hC
theorem p_X12_count_21 {L : Nat} {xs : Nat → Int32} {d : Nat} {Q : xO → Prop} (x1 : Int32) (x2 : Int32) (I : xI) (J : xJ) {t : Int32 × xI × xJ} (h : f_X12_count_21 x1 x2 I J = some t) (hC : (c_X12_count Q) t) : Rn L xs (d + 7) 297 179 [some (.ref 61), some (.int x1), some (.int x2), none] [] 94 (I, J, xrf) Q := by
  unfold f_X12_count_21 at h
  refine Rn.go 1 (j' := 297) (pc' := 180) (ls' := [some (.ref 61), some (.int x1), some (.int x2), none]) (st' := [.ref 61]) (n' := 94) (M' := (I, J, xrf)) (fun f => rfl) ?_
  obtain ⟨o, ho, h⟩ := Option.bind_eq_some_iff.mp h
  refine Rn.call (d1 := d + 6) (j1 := 272) (ls1 := [some (.ref 61)]) (rest := []) (fun f => rfl) ?_
  refine p_X12_bits (d := d + 5) I J (t := o) ho ?_
  exact p_X12_count_22 x1 x2 o.1 o.2.1 o.2.2 h hC
theorem p_X12_count_27 {L : Nat} {xs : Nat → Int32} {d : Nat} {Q : xO → Prop} (x1 : Int32) (x2 : Int32) (x3 : Int32) (I : xI) (J : xJ) {t : Int32 × xI × xJ} (h : f_X12_count_27 x1 x2 x3 I J = some t) (hC : (c_X12_count Q) t) : Rn L xs (d + 7) 297 212 [some (.ref 61), some (.int x1), some (.int x2), some (.int x3)] [] 94 (I, J, xrf) Q := by
  unfold f_X12_count_27 at h
  cases h
  exact Rn.ret 2 (o := ((some (.int x2)), 94, (I, J, xrf))) (fun f => rfl) hC
theorem p_X12_count_26 {L : Nat} {xs : Nat → Int32} {d : Nat} {Q : xO → Prop} (x1 : Int32) (x2 : Int32) (x3 : Int32) (s0 : Int32) (s1 : Int32) (I : xI) (J : xJ) {t : (Int32 × Int32 × Int32 × xI × xJ) ⊕ (Int32 × xI × xJ)} (h : f_X12_count_26 x1 x2 x3 s0 s1 I J = some t) (hC : (c_X12_count_24 L xs d Q) t) : Rn L xs (d + 7) 297 204 [some (.ref 61), some (.int x1), some (.int x2), some (.int x3)] [.int s1, .int s0] 94 (I, J, xrf) Q := by
  unfold f_X12_count_26 at h
  refine Rn.go 2 (j' := 297) (pc' := 206) (ls' := [some (.ref 61), some (.int x1), some (.int ((s0 + s1))), some (.int x3)]) (st' := []) (n' := 94) (M' := (I, J, xrf)) (fun f => rfl) ?_
  refine Rn.go 1 (d' := (d + 7)) (j' := 297) (pc' := 209) (ls' := [some (.ref 61), some (.int x1), some (.int ((s0 + s1))), some (.int ((x3 + Int32.ofInt (-1))))]) (st' := []) (n' := 94) (M' := (I, J, xrf)) (fun f => xrun_iinc 3 (-1) x3 rfl rfl rfl) ?_
  refine Rn.go 1 (j' := 297) (pc' := 191) (ls' := [some (.ref 61), some (.int x1), some (.int ((s0 + s1))), some (.int ((x3 + Int32.ofInt (-1))))]) (st' := []) (n' := 94) (M' := (I, J, xrf)) (fun f => rfl) ?_
  cases h; exact hC
theorem p_X12_count_25 {L : Nat} {xs : Nat → Int32} {d : Nat} {Q : xO → Prop} (x1 : Int32) (x2 : Int32) (x3 : Int32) (I : xI) (J : xJ) {t : (Int32 × Int32 × Int32 × xI × xJ) ⊕ (Int32 × xI × xJ)} (h : f_X12_count_25 x1 x2 x3 I J = some t) (hC : (c_X12_count_24 L xs d Q) t) : Rn L xs (d + 7) 297 195 [some (.ref 61), some (.int x1), some (.int x2), some (.int x3)] [] 94 (I, J, xrf) Q := by
  unfold f_X12_count_25 at h
  refine Rn.go 5 (j' := 297) (pc' := 201) (ls' := [some (.ref 61), some (.int x1), some (.int x2), some (.int x3)]) (st' := [.int x3, .ref 61, .int ((8 * x2))]) (n' := 94) (M' := (I, J, xrf)) (fun f => rfl) ?_
  obtain ⟨o, ho, h⟩ := Option.bind_eq_some_iff.mp h
  refine Rn.call (d1 := d + 6) (j1 := 212) (ls1 := [some (.ref 61), some (.int x3)]) (rest := [.int ((8 * x2))]) (fun f => rfl) ?_
  refine p_X12_codeOf (d := d + 5) x3 I J (t := o) ho ?_
  exact p_X12_count_26 x1 x2 x3 ((8 * x2)) o.1 o.2.1 o.2.2 h hC
theorem q_X12_count_24 {L : Nat} {xs : Nat → Int32} {d : Nat} {Q : xO → Prop} (x1 : Int32) (x2 : Int32) (x3 : Int32) (I : xI) (J : xJ) {t : (Int32 × Int32 × Int32 × xI × xJ) ⊕ (Int32 × xI × xJ)} (h : b_X12_count_24 x1 x2 x3 I J = some t) (hC : (c_X12_count_24 L xs d Q) t) : Rn L xs (d + 7) 297 191 [some (.ref 61), some (.int x1), some (.int x2), some (.int x3)] [] 94 (I, J, xrf) Q := by
  unfold b_X12_count_24 at h
  refine Rn.fi 2 (c := x3 < 0) (p1 := 212) (l1 := [some (.ref 61), some (.int x1), some (.int x2), some (.int x3)]) (s1 := []) (n1 := 94) (M1 := (I, J, xrf)) (p2 := 195) (l2 := [some (.ref 61), some (.int x1), some (.int x2), some (.int x3)]) (s2 := []) (n2 := 94) (M2 := (I, J, xrf)) (fun f => rfl) (fun hc => ?_) (fun hc => ?_)
  · rw [if_pos hc] at h
    obtain ⟨t0, h0, rfl⟩ := Option.map_eq_some_iff.mp h
    exact p_X12_count_27 x1 x2 x3 I J h0 hC
  · rw [if_neg hc] at h
    exact p_X12_count_25 x1 x2 x3 I J h hC
theorem p_X12_count_24 {L : Nat} {xs : Nat → Int32} {d : Nat} {Q : xO → Prop} (x1 : Int32) (x2 : Int32) (x3 : Int32) (I : xI) (J : xJ) {t : Int32 × xI × xJ} (h : f_X12_count_24 x1 x2 x3 I J = some t) (hC : (c_X12_count Q) t) : Rn L xs (d + 7) 297 191 [some (.ref 61), some (.int x1), some (.int x2), some (.int x3)] [] 94 (I, J, xrf) Q := by
  unfold f_X12_count_24 at h
  exact xloop_some (P := fun s : Int32 × Int32 × Int32 × xI × xJ => Rn L xs (d + 7) 297 191 [some (.ref 61), some (.int s.1), some (.int s.2.1), some (.int s.2.2.1)] [] 94 (s.2.2.2.1, s.2.2.2.2, xrf) Q) t (fun s ⟨s', hb, hp⟩ => q_X12_count_24 s.1 s.2.1 s.2.2.1 s.2.2.2.1 s.2.2.2.2 hb hp) (fun s hb => q_X12_count_24 s.1 s.2.1 s.2.2.1 s.2.2.2.1 s.2.2.2.2 hb hC) _ _ h
theorem p_X12_count_23 {L : Nat} {xs : Nat → Int32} {d : Nat} {Q : xO → Prop} (x1 : Int32) (x2 : Int32) (I : xI) (J : xJ) {t : Int32 × xI × xJ} (h : f_X12_count_23 x1 x2 I J = some t) (hC : (c_X12_count Q) t) : Rn L xs (d + 7) 297 184 [some (.ref 61), some (.int x1), some (.int x2), none] [] 94 (I, J, xrf) Q := by
  unfold f_X12_count_23 at h
  refine Rn.go 5 (j' := 297) (pc' := 191) (ls' := [some (.ref 61), some (.int x1), some (.int x2), some (.int (((I 61 17) - 1)))]) (st' := []) (n' := 94) (M' := (I, J, xrf)) (fun f => rfl) ?_
  exact p_X12_count_24 x1 x2 (((I 61 17) - 1)) I J h hC
theorem p_X12_count_28 {L : Nat} {xs : Nat → Int32} {d : Nat} {Q : xO → Prop} (x1 : Int32) (x2 : Int32) (I : xI) (J : xJ) {t : Int32 × xI × xJ} (h : f_X12_count_28 x1 x2 I J = some t) (hC : (c_X12_count Q) t) : Rn L xs (d + 7) 297 214 [some (.ref 61), some (.int x1), some (.int x2), none] [] 94 (I, J, xrf) Q := by
  unfold f_X12_count_28 at h
  cases h
  exact Rn.ret 3 (o := ((some (.int ((I 61 2)))), 94, (I, J, xrf))) (fun f => rfl) hC
theorem p_X12_count_29 {L : Nat} {xs : Nat → Int32} {d : Nat} {Q : xO → Prop} (x1 : Int32) (x2 : Int32) (I : xI) (J : xJ) {t : Int32 × xI × xJ} (h : f_X12_count_29 x1 x2 I J = some t) (hC : (c_X12_count Q) t) : Rn L xs (d + 7) 297 219 [some (.ref 61), some (.int x1), some (.int x2), none] [] 94 (I, J, xrf) Q := by
  unfold f_X12_count_29 at h
  cases h
  exact Rn.ret 3 (o := ((some (.int ((I 61 26)))), 94, (I, J, xrf))) (fun f => rfl) hC
theorem p_X12_count_39 {L : Nat} {xs : Nat → Int32} {d : Nat} {Q : xO → Prop} (x1 : Int32) (x2 : Int32) (s0 : Int32) (s1 : Int32) (I : xI) (J : xJ) {t : Int32 × xI × xJ} (h : f_X12_count_39 x1 x2 s0 s1 I J = some t) (hC : (c_X12_count Q) t) : Rn L xs (d + 7) 297 267 [some (.ref 61), some (.int x1), some (.int x2), none] [.int s1, .int s0] 94 (I, J, xrf) Q := by
  unfold f_X12_count_39 at h
  cases h
  exact Rn.ret 2 (o := ((some (.int ((s0 + s1)))), 94, (I, J, xrf))) (fun f => rfl) hC
theorem p_X12_count_38 {L : Nat} {xs : Nat → Int32} {d : Nat} {Q : xO → Prop} (x1 : Int32) (x2 : Int32) (s0 : Int32) (I : xI) (J : xJ) {t : Int32 × xI × xJ} (h : f_X12_count_38 x1 x2 s0 I J = some t) (hC : (c_X12_count Q) t) : Rn L xs (d + 7) 297 266 [some (.ref 61), some (.int x1), some (.int x2), none] [.int s0] 94 (I, J, xrf) Q := by
  unfold f_X12_count_38 at h
  refine Rn.go 1 (j' := 297) (pc' := 267) (ls' := [some (.ref 61), some (.int x1), some (.int x2), none]) (st' := [.int 0, .int s0]) (n' := 94) (M' := (I, J, xrf)) (fun f => rfl) ?_
  exact p_X12_count_39 x1 x2 s0 0 I J h hC
theorem p_X12_count_37 {L : Nat} {xs : Nat → Int32} {d : Nat} {Q : xO → Prop} (x1 : Int32) (x2 : Int32) (s0 : Int32) (I : xI) (J : xJ) {t : Int32 × xI × xJ} (h : f_X12_count_37 x1 x2 s0 I J = some t) (hC : (c_X12_count Q) t) : Rn L xs (d + 7) 297 262 [some (.ref 61), some (.int x1), some (.int x2), none] [.int s0] 94 (I, J, xrf) Q := by
  unfold f_X12_count_37 at h
  refine Rn.go 2 (j' := 297) (pc' := 267) (ls' := [some (.ref 61), some (.int x1), some (.int x2), none]) (st' := [.int 1, .int s0]) (n' := 94) (M' := (I, J, xrf)) (fun f => rfl) ?_
  exact p_X12_count_39 x1 x2 s0 1 I J h hC
theorem p_X12_count_36 {L : Nat} {xs : Nat → Int32} {d : Nat} {Q : xO → Prop} (x1 : Int32) (x2 : Int32) (s0 : Int32) (s1 : Int32) (I : xI) (J : xJ) {t : Int32 × xI × xJ} (h : f_X12_count_36 x1 x2 s0 s1 I J = some t) (hC : (c_X12_count Q) t) : Rn L xs (d + 7) 297 252 [some (.ref 61), some (.int x1), some (.int x2), none] [.int s1, .int s0] 94 (I, J, xrf) Q := by
  unfold f_X12_count_36 at h
  refine Rn.fi 6 (c := (I 74 2) = 0) (p1 := 266) (l1 := [some (.ref 61), some (.int x1), some (.int x2), none]) (s1 := [.int ((s0 + s1))]) (n1 := 94) (M1 := (I, J, xrf)) (p2 := 262) (l2 := [some (.ref 61), some (.int x1), some (.int x2), none]) (s2 := [.int ((s0 + s1))]) (n2 := 94) (M2 := (I, J, xrf)) (fun f => rfl) (fun hc => ?_) (fun hc => ?_)
  · rw [if_pos hc] at h
    exact p_X12_count_38 x1 x2 ((s0 + s1)) I J h hC
  · rw [if_neg hc] at h
    exact p_X12_count_37 x1 x2 ((s0 + s1)) I J h hC
theorem p_X12_count_35 {L : Nat} {xs : Nat → Int32} {d : Nat} {Q : xO → Prop} (x1 : Int32) (x2 : Int32) (s0 : Int32) (I : xI) (J : xJ) {t : Int32 × xI × xJ} (h : f_X12_count_35 x1 x2 s0 I J = some t) (hC : (c_X12_count Q) t) : Rn L xs (d + 7) 297 251 [some (.ref 61), some (.int x1), some (.int x2), none] [.int s0] 94 (I, J, xrf) Q := by
  unfold f_X12_count_35 at h
  refine Rn.go 1 (j' := 297) (pc' := 252) (ls' := [some (.ref 61), some (.int x1), some (.int x2), none]) (st' := [.int 0, .int s0]) (n' := 94) (M' := (I, J, xrf)) (fun f => rfl) ?_
  exact p_X12_count_36 x1 x2 s0 0 I J h hC
theorem p_X12_count_34 {L : Nat} {xs : Nat → Int32} {d : Nat} {Q : xO → Prop} (x1 : Int32) (x2 : Int32) (s0 : Int32) (I : xI) (J : xJ) {t : Int32 × xI × xJ} (h : f_X12_count_34 x1 x2 s0 I J = some t) (hC : (c_X12_count Q) t) : Rn L xs (d + 7) 297 247 [some (.ref 61), some (.int x1), some (.int x2), none] [.int s0] 94 (I, J, xrf) Q := by
  unfold f_X12_count_34 at h
  refine Rn.go 2 (j' := 297) (pc' := 252) (ls' := [some (.ref 61), some (.int x1), some (.int x2), none]) (st' := [.int 1, .int s0]) (n' := 94) (M' := (I, J, xrf)) (fun f => rfl) ?_
  exact p_X12_count_36 x1 x2 s0 1 I J h hC
theorem p_X12_count_33 {L : Nat} {xs : Nat → Int32} {d : Nat} {Q : xO → Prop} (x1 : Int32) (x2 : Int32) (s0 : Int32) (I : xI) (J : xJ) {t : Int32 × xI × xJ} (h : f_X12_count_33 x1 x2 s0 I J = some t) (hC : (c_X12_count Q) t) : Rn L xs (d + 7) 297 238 [some (.ref 61), some (.int x1), some (.int x2), none] [.int s0] 94 (I, J, xrf) Q := by
  unfold f_X12_count_33 at h
  refine Rn.fi 5 (c := (I 74 1) = 0) (p1 := 251) (l1 := [some (.ref 61), some (.int x1), some (.int x2), none]) (s1 := [.int s0]) (n1 := 94) (M1 := (I, J, xrf)) (p2 := 247) (l2 := [some (.ref 61), some (.int x1), some (.int x2), none]) (s2 := [.int s0]) (n2 := 94) (M2 := (I, J, xrf)) (fun f => rfl) (fun hc => ?_) (fun hc => ?_)
  · rw [if_pos hc] at h
    exact p_X12_count_35 x1 x2 s0 I J h hC
  · rw [if_neg hc] at h
    exact p_X12_count_34 x1 x2 s0 I J h hC
theorem p_X12_count_32 {L : Nat} {xs : Nat → Int32} {d : Nat} {Q : xO → Prop} (x1 : Int32) (x2 : Int32) (I : xI) (J : xJ) {t : Int32 × xI × xJ} (h : f_X12_count_32 x1 x2 I J = some t) (hC : (c_X12_count Q) t) : Rn L xs (d + 7) 297 237 [some (.ref 61), some (.int x1), some (.int x2), none] [] 94 (I, J, xrf) Q := by
  unfold f_X12_count_32 at h
  refine Rn.go 1 (j' := 297) (pc' := 238) (ls' := [some (.ref 61), some (.int x1), some (.int x2), none]) (st' := [.int 0]) (n' := 94) (M' := (I, J, xrf)) (fun f => rfl) ?_
  exact p_X12_count_33 x1 x2 0 I J h hC
theorem p_X12_count_31 {L : Nat} {xs : Nat → Int32} {d : Nat} {Q : xO → Prop} (x1 : Int32) (x2 : Int32) (I : xI) (J : xJ) {t : Int32 × xI × xJ} (h : f_X12_count_31 x1 x2 I J = some t) (hC : (c_X12_count Q) t) : Rn L xs (d + 7) 297 233 [some (.ref 61), some (.int x1), some (.int x2), none] [] 94 (I, J, xrf) Q := by
  unfold f_X12_count_31 at h
  refine Rn.go 2 (j' := 297) (pc' := 238) (ls' := [some (.ref 61), some (.int x1), some (.int x2), none]) (st' := [.int 1]) (n' := 94) (M' := (I, J, xrf)) (fun f => rfl) ?_
  exact p_X12_count_33 x1 x2 1 I J h hC
theorem p_X12_count_30 {L : Nat} {xs : Nat → Int32} {d : Nat} {Q : xO → Prop} (x1 : Int32) (x2 : Int32) (I : xI) (J : xJ) {t : Int32 × xI × xJ} (h : f_X12_count_30 x1 x2 I J = some t) (hC : (c_X12_count Q) t) : Rn L xs (d + 7) 297 224 [some (.ref 61), some (.int x1), some (.int x2), none] [] 94 (I, J, xrf) Q := by
  unfold f_X12_count_30 at h
  refine Rn.fi 5 (c := (I 74 0) = 0) (p1 := 237) (l1 := [some (.ref 61), some (.int x1), some (.int x2), none]) (s1 := []) (n1 := 94) (M1 := (I, J, xrf)) (p2 := 233) (l2 := [some (.ref 61), some (.int x1), some (.int x2), none]) (s2 := []) (n2 := 94) (M2 := (I, J, xrf)) (fun f => rfl) (fun hc => ?_) (fun hc => ?_)
  · rw [if_pos hc] at h
    exact p_X12_count_32 x1 x2 I J h hC
  · rw [if_neg hc] at h
    exact p_X12_count_31 x1 x2 I J h hC
theorem p_X12_count_41 {L : Nat} {xs : Nat → Int32} {d : Nat} {Q : xO → Prop} (x1 : Int32) (x2 : Int32) (s0 : Int32) (I : xI) (J : xJ) {t : Int32 × xI × xJ} (h : f_X12_count_41 x1 x2 s0 I J = some t) (hC : (c_X12_count Q) t) : Rn L xs (d + 7) 297 273 [some (.ref 61), some (.int x1), some (.int x2), none] [.int s0] 94 (I, J, xrf) Q := by
  unfold f_X12_count_41 at h
  cases h
  exact Rn.ret 1 (o := ((some (.int s0)), 94, (I, J, xrf))) (fun f => rfl) hC
theorem p_X12_count_40 {L : Nat} {xs : Nat → Int32} {d : Nat} {Q : xO → Prop} (x1 : Int32) (x2 : Int32) (I : xI) (J : xJ) {t : Int32 × xI × xJ} (h : f_X12_count_40 x1 x2 I J = some t) (hC : (c_X12_count Q) t) : Rn L xs (d + 7) 297 269 [some (.ref 61), some (.int x1), some (.int x2), none] [] 94 (I, J, xrf) Q := by
  unfold f_X12_count_40 at h
  refine Rn.go 1 (j' := 297) (pc' := 270) (ls' := [some (.ref 61), some (.int x1), some (.int x2), none]) (st' := [.ref 61]) (n' := 94) (M' := (I, J, xrf)) (fun f => rfl) ?_
  obtain ⟨o, ho, h⟩ := Option.bind_eq_some_iff.mp h
  refine Rn.call (d1 := d + 6) (j1 := 296) (ls1 := [some (.ref 61), none, none, none]) (rest := []) (fun f => rfl) ?_
  refine p_X12_unreached (d := d + 4) I J (t := o) ho ?_
  exact p_X12_count_41 x1 x2 o.1 o.2.1 o.2.2 h hC
theorem p_X12_count_46 {L : Nat} {xs : Nat → Int32} {d : Nat} {Q : xO → Prop} (x1 : Int32) (x2 : Int32) (s0 : Int32) (I : xI) (J : xJ) {t : Int32 × xI × xJ} (h : f_X12_count_46 x1 x2 s0 I J = some t) (hC : (c_X12_count Q) t) : Rn L xs (d + 7) 297 286 [some (.ref 61), some (.int x1), some (.int x2), none] [.int s0] 94 (I, J, xrf) Q := by
  unfold f_X12_count_46 at h
  cases h
  exact Rn.ret 1 (o := ((some (.int s0)), 94, (I, J, xrf))) (fun f => rfl) hC
theorem p_X12_count_45 {L : Nat} {xs : Nat → Int32} {d : Nat} {Q : xO → Prop} (x1 : Int32) (x2 : Int32) (I : xI) (J : xJ) {t : Int32 × xI × xJ} (h : f_X12_count_45 x1 x2 I J = some t) (hC : (c_X12_count Q) t) : Rn L xs (d + 7) 297 285 [some (.ref 61), some (.int x1), some (.int x2), none] [] 94 (I, J, xrf) Q := by
  unfold f_X12_count_45 at h
  refine Rn.go 1 (j' := 297) (pc' := 286) (ls' := [some (.ref 61), some (.int x1), some (.int x2), none]) (st' := [.int 0]) (n' := 94) (M' := (I, J, xrf)) (fun f => rfl) ?_
  exact p_X12_count_46 x1 x2 0 I J h hC
theorem p_X12_count_44 {L : Nat} {xs : Nat → Int32} {d : Nat} {Q : xO → Prop} (x1 : Int32) (x2 : Int32) (I : xI) (J : xJ) {t : Int32 × xI × xJ} (h : f_X12_count_44 x1 x2 I J = some t) (hC : (c_X12_count Q) t) : Rn L xs (d + 7) 297 281 [some (.ref 61), some (.int x1), some (.int x2), none] [] 94 (I, J, xrf) Q := by
  unfold f_X12_count_44 at h
  refine Rn.go 2 (j' := 297) (pc' := 286) (ls' := [some (.ref 61), some (.int x1), some (.int x2), none]) (st' := [.int 1]) (n' := 94) (M' := (I, J, xrf)) (fun f => rfl) ?_
  exact p_X12_count_46 x1 x2 1 I J h hC
theorem p_X12_count_43 {L : Nat} {xs : Nat → Int32} {d : Nat} {Q : xO → Prop} (x1 : Int32) (x2 : Int32) (s0 : Int32) (I : xI) (J : xJ) {t : Int32 × xI × xJ} (h : f_X12_count_43 x1 x2 s0 I J = some t) (hC : (c_X12_count Q) t) : Rn L xs (d + 7) 297 278 [some (.ref 61), some (.int x1), some (.int x2), none] [.int s0] 94 (I, J, xrf) Q := by
  unfold f_X12_count_43 at h
  refine Rn.fi 1 (c := s0 = 0) (p1 := 285) (l1 := [some (.ref 61), some (.int x1), some (.int x2), none]) (s1 := []) (n1 := 94) (M1 := (I, J, xrf)) (p2 := 281) (l2 := [some (.ref 61), some (.int x1), some (.int x2), none]) (s2 := []) (n2 := 94) (M2 := (I, J, xrf)) (fun f => rfl) (fun hc => ?_) (fun hc => ?_)
  · rw [if_pos hc] at h
    exact p_X12_count_45 x1 x2 I J h hC
  · rw [if_neg hc] at h
    exact p_X12_count_44 x1 x2 I J h hC
theorem p_X12_count_42 {L : Nat} {xs : Nat → Int32} {d : Nat} {Q : xO → Prop} (x1 : Int32) (x2 : Int32) (I : xI) (J : xJ) {t : Int32 × xI × xJ} (h : f_X12_count_42 x1 x2 I J = some t) (hC : (c_X12_count Q) t) : Rn L xs (d + 7) 297 274 [some (.ref 61), some (.int x1), some (.int x2), none] [] 94 (I, J, xrf) Q := by
  unfold f_X12_count_42 at h
  refine Rn.go 1 (j' := 297) (pc' := 275) (ls' := [some (.ref 61), some (.int x1), some (.int x2), none]) (st' := [.ref 61]) (n' := 94) (M' := (I, J, xrf)) (fun f => rfl) ?_
  obtain ⟨o, ho, h⟩ := Option.bind_eq_some_iff.mp h
  refine Rn.call (d1 := d + 6) (j1 := 274) (ls1 := [some (.ref 61), none, none]) (rest := []) (fun f => rfl) ?_
  refine p_X12_isProper (d := d + 4) I J (t := o) ho ?_
  exact p_X12_count_43 x1 x2 o.1 o.2.1 o.2.2 h hC
theorem p_X12_count_51 {L : Nat} {xs : Nat → Int32} {d : Nat} {Q : xO → Prop} (x1 : Int32) (x2 : Int32) (x3 : Int32) (I : xI) (J : xJ) {t : Int32 × xI × xJ} (h : f_X12_count_51 x1 x2 x3 I J = some t) (hC : (c_X12_count Q) t) : Rn L xs (d + 7) 297 315 [some (.ref 61), some (.int x1), some (.int x2), some (.int x3)] [] 94 (I, J, xrf) Q := by
  unfold f_X12_count_51 at h
  cases h
  exact Rn.ret 2 (o := ((some (.int x2)), 94, (I, J, xrf))) (fun f => rfl) hC
theorem p_X12_count_50 {L : Nat} {xs : Nat → Int32} {d : Nat} {Q : xO → Prop} (x1 : Int32) (x2 : Int32) (x3 : Int32) (s0 : Int32) (s1 : Int32) (I : xI) (J : xJ) {t : (Int32 × Int32 × Int32 × xI × xJ) ⊕ (Int32 × xI × xJ)} (h : f_X12_count_50 x1 x2 x3 s0 s1 I J = some t) (hC : (c_X12_count_48 L xs d Q) t) : Rn L xs (d + 7) 297 307 [some (.ref 61), some (.int x1), some (.int x2), some (.int x3)] [.int s1, .int s0] 94 (I, J, xrf) Q := by
  unfold f_X12_count_50 at h
  refine Rn.go 4 (j' := 297) (pc' := 289) (ls' := [some (.ref 61), some (.int x1), some (.int ((s0 + s1))), some (.int ((x3 + 1)))]) (st' := []) (n' := 94) (M' := (I, J, xrf)) (fun f => rfl) ?_
  cases h; exact hC
theorem p_X12_count_49 {L : Nat} {xs : Nat → Int32} {d : Nat} {Q : xO → Prop} (x1 : Int32) (x2 : Int32) (x3 : Int32) (I : xI) (J : xJ) {t : (Int32 × Int32 × Int32 × xI × xJ) ⊕ (Int32 × xI × xJ)} (h : f_X12_count_49 x1 x2 x3 I J = some t) (hC : (c_X12_count_48 L xs d Q) t) : Rn L xs (d + 7) 297 297 [some (.ref 61), some (.int x1), some (.int x2), some (.int x3)] [] 94 (I, J, xrf) Q := by
  unfold f_X12_count_49 at h
  obtain ⟨hc, h⟩ := xif h
  refine Rn.ok 5 (c := x3 < 0 ∨ 6 ≤ x3.toNatClampNeg) (p1 := 304) (l1 := [some (.ref 61), some (.int x1), some (.int x2), some (.int x3)]) (s1 := [.int ((I 81 x3.toNatClampNeg)), .int x2]) (n1 := 94) (M1 := (I, J, xrf)) (fun f => rfl) hc ?_
  obtain ⟨o, ho, h⟩ := Option.bind_eq_some_iff.mp h
  refine Rn.call (d1 := d + 6) (j1 := 213) (ls1 := [some (.int ((I 81 x3.toNatClampNeg))), none, none]) (rest := [.int x2]) (fun f => rfl) ?_
  refine p_X12_bitsOf (d := d + 5) ((I 81 x3.toNatClampNeg)) I J (t := o) ho ?_
  exact p_X12_count_50 x1 x2 x3 x2 o.1 o.2.1 o.2.2 h hC
theorem q_X12_count_48 {L : Nat} {xs : Nat → Int32} {d : Nat} {Q : xO → Prop} (x1 : Int32) (x2 : Int32) (x3 : Int32) (I : xI) (J : xJ) {t : (Int32 × Int32 × Int32 × xI × xJ) ⊕ (Int32 × xI × xJ)} (h : b_X12_count_48 x1 x2 x3 I J = some t) (hC : (c_X12_count_48 L xs d Q) t) : Rn L xs (d + 7) 297 289 [some (.ref 61), some (.int x1), some (.int x2), some (.int x3)] [] 94 (I, J, xrf) Q := by
  unfold b_X12_count_48 at h
  refine Rn.fi 4 (c := (I 61 17) ≤ x3) (p1 := 315) (l1 := [some (.ref 61), some (.int x1), some (.int x2), some (.int x3)]) (s1 := []) (n1 := 94) (M1 := (I, J, xrf)) (p2 := 297) (l2 := [some (.ref 61), some (.int x1), some (.int x2), some (.int x3)]) (s2 := []) (n2 := 94) (M2 := (I, J, xrf)) (fun f => rfl) (fun hc => ?_) (fun hc => ?_)
  · rw [if_pos hc] at h
    obtain ⟨t0, h0, rfl⟩ := Option.map_eq_some_iff.mp h
    exact p_X12_count_51 x1 x2 x3 I J h0 hC
  · rw [if_neg hc] at h
    exact p_X12_count_49 x1 x2 x3 I J h hC
theorem p_X12_count_48 {L : Nat} {xs : Nat → Int32} {d : Nat} {Q : xO → Prop} (x1 : Int32) (x2 : Int32) (x3 : Int32) (I : xI) (J : xJ) {t : Int32 × xI × xJ} (h : f_X12_count_48 x1 x2 x3 I J = some t) (hC : (c_X12_count Q) t) : Rn L xs (d + 7) 297 289 [some (.ref 61), some (.int x1), some (.int x2), some (.int x3)] [] 94 (I, J, xrf) Q := by
  unfold f_X12_count_48 at h
  exact xloop_some (P := fun s : Int32 × Int32 × Int32 × xI × xJ => Rn L xs (d + 7) 297 289 [some (.ref 61), some (.int s.1), some (.int s.2.1), some (.int s.2.2.1)] [] 94 (s.2.2.2.1, s.2.2.2.2, xrf) Q) t (fun s ⟨s', hb, hp⟩ => q_X12_count_48 s.1 s.2.1 s.2.2.1 s.2.2.2.1 s.2.2.2.2 hb hp) (fun s hb => q_X12_count_48 s.1 s.2.1 s.2.2.1 s.2.2.2.1 s.2.2.2.2 hb hC) _ _ h
theorem p_X12_count_47 {L : Nat} {xs : Nat → Int32} {d : Nat} {Q : xO → Prop} (x1 : Int32) (x2 : Int32) (I : xI) (J : xJ) {t : Int32 × xI × xJ} (h : f_X12_count_47 x1 x2 I J = some t) (hC : (c_X12_count Q) t) : Rn L xs (d + 7) 297 287 [some (.ref 61), some (.int x1), some (.int x2), none] [] 94 (I, J, xrf) Q := by
  unfold f_X12_count_47 at h
  refine Rn.go 2 (j' := 297) (pc' := 289) (ls' := [some (.ref 61), some (.int x1), some (.int x2), some (.int 0)]) (st' := []) (n' := 94) (M' := (I, J, xrf)) (fun f => rfl) ?_
  exact p_X12_count_48 x1 x2 0 I J h hC
theorem p_X12_count_60 {L : Nat} {xs : Nat → Int32} {d : Nat} {Q : xO → Prop} (x1 : Int32) (x2 : Int32) (x3 : Int32) (I : xI) (J : xJ) {t : Int32 × xI × xJ} (h : f_X12_count_60 x1 x2 x3 I J = some t) (hC : (c_X12_count Q) t) : Rn L xs (d + 7) 297 376 [some (.ref 61), some (.int x1), some (.int x2), some (.int x3)] [] 94 (I, J, xrf) Q := by
  unfold f_X12_count_60 at h
  cases h
  exact Rn.ret 2 (o := ((some (.int x2)), 94, (I, J, xrf))) (fun f => rfl) hC
theorem p_X12_count_59 {L : Nat} {xs : Nat → Int32} {d : Nat} {Q : xO → Prop} (x1 : Int32) (x2 : Int32) (x3 : Int32) (I : xI) (J : xJ) {t : (Int32 × Int32 × Int32 × xI × xJ) ⊕ (Int32 × xI × xJ)} (h : f_X12_count_59 x1 x2 x3 I J = some t) (hC : (c_X12_count_53 L xs d Q) t) : Rn L xs (d + 7) 297 370 [some (.ref 61), some (.int x1), some (.int x2), some (.int x3)] [] 94 (I, J, xrf) Q := by
  unfold f_X12_count_59 at h
  refine Rn.go 2 (j' := 297) (pc' := 322) (ls' := [some (.ref 61), some (.int x1), some (.int x2), some (.int ((x3 + 1)))]) (st' := []) (n' := 94) (M' := (I, J, xrf)) (fun f => rfl) ?_
  cases h; exact hC
theorem p_X12_count_58 {L : Nat} {xs : Nat → Int32} {d : Nat} {Q : xO → Prop} (x1 : Int32) (x2 : Int32) (x3 : Int32) (I : xI) (J : xJ) {t : (Int32 × Int32 × Int32 × xI × xJ) ⊕ (Int32 × xI × xJ)} (h : f_X12_count_58 x1 x2 x3 I J = some t) (hC : (c_X12_count_53 L xs d Q) t) : Rn L xs (d + 7) 297 363 [some (.ref 61), some (.int x1), some (.int x2), some (.int x3)] [] 94 (I, J, xrf) Q := by
  unfold f_X12_count_58 at h
  obtain ⟨hc, h⟩ := xif h
  refine Rn.ok 4 (c := x3 < 0 ∨ 203 ≤ x3.toNatClampNeg) (p1 := 369) (l1 := [some (.ref 61), some (.int x1), some (.int x2), some (.int x3)]) (s1 := [.int ((I 83 x3.toNatClampNeg))]) (n1 := 94) (M1 := (I, J, xrf)) (fun f => rfl) hc ?_
  refine Rn.go 1 (j' := 297) (pc' := 370) (ls' := [some (.ref 61), some (.int x1), some (.int ((I 83 x3.toNatClampNeg))), some (.int x3)]) (st' := []) (n' := 94) (M' := (I, J, xrf)) (fun f => rfl) ?_
  exact p_X12_count_59 x1 ((I 83 x3.toNatClampNeg)) x3 I J h hC
theorem p_X12_count_57 {L : Nat} {xs : Nat → Int32} {d : Nat} {Q : xO → Prop} (x1 : Int32) (x2 : Int32) (x3 : Int32) (I : xI) (J : xJ) {t : (Int32 × Int32 × Int32 × xI × xJ) ⊕ (Int32 × xI × xJ)} (h : f_X12_count_57 x1 x2 x3 I J = some t) (hC : (c_X12_count_53 L xs d Q) t) : Rn L xs (d + 7) 297 353 [some (.ref 61), some (.int x1), some (.int x2), some (.int x3)] [] 94 (I, J, xrf) Q := by
  unfold f_X12_count_57 at h
  obtain ⟨hc, h⟩ := xif h
  refine Rn.ok 4 (c := x3 < 0 ∨ 203 ≤ x3.toNatClampNeg) (p1 := 359) (l1 := [some (.ref 61), some (.int x1), some (.int x2), some (.int x3)]) (s1 := [.int ((I 83 x3.toNatClampNeg))]) (n1 := 94) (M1 := (I, J, xrf)) (fun f => rfl) hc ?_
  refine Rn.fi 2 (c := x2 ≤ (I 83 x3.toNatClampNeg)) (p1 := 370) (l1 := [some (.ref 61), some (.int x1), some (.int x2), some (.int x3)]) (s1 := []) (n1 := 94) (M1 := (I, J, xrf)) (p2 := 363) (l2 := [some (.ref 61), some (.int x1), some (.int x2), some (.int x3)]) (s2 := []) (n2 := 94) (M2 := (I, J, xrf)) (fun f => rfl) (fun hc => ?_) (fun hc => ?_)
  · rw [if_pos hc] at h
    exact p_X12_count_59 x1 x2 x3 I J h hC
  · rw [if_neg hc] at h
    exact p_X12_count_58 x1 x2 x3 I J h hC
theorem p_X12_count_56 {L : Nat} {xs : Nat → Int32} {d : Nat} {Q : xO → Prop} (x1 : Int32) (x2 : Int32) (x3 : Int32) (I : xI) (J : xJ) {t : (Int32 × Int32 × Int32 × xI × xJ) ⊕ (Int32 × xI × xJ)} (h : f_X12_count_56 x1 x2 x3 I J = some t) (hC : (c_X12_count_53 L xs d Q) t) : Rn L xs (d + 7) 297 349 [some (.ref 61), some (.int x1), some (.int x2), some (.int x3)] [] 94 (I, J, xrf) Q := by
  unfold f_X12_count_56 at h
  refine Rn.fi 2 (c := x2 < 0) (p1 := 363) (l1 := [some (.ref 61), some (.int x1), some (.int x2), some (.int x3)]) (s1 := []) (n1 := 94) (M1 := (I, J, xrf)) (p2 := 353) (l2 := [some (.ref 61), some (.int x1), some (.int x2), some (.int x3)]) (s2 := []) (n2 := 94) (M2 := (I, J, xrf)) (fun f => rfl) (fun hc => ?_) (fun hc => ?_)
  · rw [if_pos hc] at h
    exact p_X12_count_58 x1 x2 x3 I J h hC
  · rw [if_neg hc] at h
    exact p_X12_count_57 x1 x2 x3 I J h hC
theorem p_X12_count_55 {L : Nat} {xs : Nat → Int32} {d : Nat} {Q : xO → Prop} (x1 : Int32) (x2 : Int32) (x3 : Int32) (I : xI) (J : xJ) {t : (Int32 × Int32 × Int32 × xI × xJ) ⊕ (Int32 × xI × xJ)} (h : f_X12_count_55 x1 x2 x3 I J = some t) (hC : (c_X12_count_53 L xs d Q) t) : Rn L xs (d + 7) 297 339 [some (.ref 61), some (.int x1), some (.int x2), some (.int x3)] [] 94 (I, J, xrf) Q := by
  unfold f_X12_count_55 at h
  obtain ⟨hc, h⟩ := xif h
  refine Rn.ok 4 (c := x3 < 0 ∨ 203 ≤ x3.toNatClampNeg) (p1 := 345) (l1 := [some (.ref 61), some (.int x1), some (.int x2), some (.int x3)]) (s1 := [.int ((I 83 x3.toNatClampNeg))]) (n1 := 94) (M1 := (I, J, xrf)) (fun f => rfl) hc ?_
  refine Rn.fi 2 (c := (I 83 x3.toNatClampNeg) ≤ 1) (p1 := 370) (l1 := [some (.ref 61), some (.int x1), some (.int x2), some (.int x3)]) (s1 := []) (n1 := 94) (M1 := (I, J, xrf)) (p2 := 349) (l2 := [some (.ref 61), some (.int x1), some (.int x2), some (.int x3)]) (s2 := []) (n2 := 94) (M2 := (I, J, xrf)) (fun f => rfl) (fun hc => ?_) (fun hc => ?_)
  · rw [if_pos hc] at h
    exact p_X12_count_59 x1 x2 x3 I J h hC
  · rw [if_neg hc] at h
    exact p_X12_count_56 x1 x2 x3 I J h hC
theorem p_X12_count_54 {L : Nat} {xs : Nat → Int32} {d : Nat} {Q : xO → Prop} (x1 : Int32) (x2 : Int32) (x3 : Int32) (I : xI) (J : xJ) {t : (Int32 × Int32 × Int32 × xI × xJ) ⊕ (Int32 × xI × xJ)} (h : f_X12_count_54 x1 x2 x3 I J = some t) (hC : (c_X12_count_53 L xs d Q) t) : Rn L xs (d + 7) 297 330 [some (.ref 61), some (.int x1), some (.int x2), some (.int x3)] [] 94 (I, J, xrf) Q := by
  unfold f_X12_count_54 at h
  obtain ⟨hc, h⟩ := xif h
  refine Rn.ok 4 (c := x3 < 0 ∨ 203 ≤ x3.toNatClampNeg) (p1 := 336) (l1 := [some (.ref 61), some (.int x1), some (.int x2), some (.int x3)]) (s1 := [.int ((I 84 x3.toNatClampNeg))]) (n1 := 94) (M1 := (I, J, xrf)) (fun f => rfl) hc ?_
  refine Rn.fi 1 (c := (I 84 x3.toNatClampNeg) = 0) (p1 := 370) (l1 := [some (.ref 61), some (.int x1), some (.int x2), some (.int x3)]) (s1 := []) (n1 := 94) (M1 := (I, J, xrf)) (p2 := 339) (l2 := [some (.ref 61), some (.int x1), some (.int x2), some (.int x3)]) (s2 := []) (n2 := 94) (M2 := (I, J, xrf)) (fun f => rfl) (fun hc => ?_) (fun hc => ?_)
  · rw [if_pos hc] at h
    exact p_X12_count_59 x1 x2 x3 I J h hC
  · rw [if_neg hc] at h
    exact p_X12_count_55 x1 x2 x3 I J h hC
theorem q_X12_count_53 {L : Nat} {xs : Nat → Int32} {d : Nat} {Q : xO → Prop} (x1 : Int32) (x2 : Int32) (x3 : Int32) (I : xI) (J : xJ) {t : (Int32 × Int32 × Int32 × xI × xJ) ⊕ (Int32 × xI × xJ)} (h : b_X12_count_53 x1 x2 x3 I J = some t) (hC : (c_X12_count_53 L xs d Q) t) : Rn L xs (d + 7) 297 322 [some (.ref 61), some (.int x1), some (.int x2), some (.int x3)] [] 94 (I, J, xrf) Q := by
  unfold b_X12_count_53 at h
  refine Rn.fi 4 (c := (I 61 40) ≤ x3) (p1 := 376) (l1 := [some (.ref 61), some (.int x1), some (.int x2), some (.int x3)]) (s1 := []) (n1 := 94) (M1 := (I, J, xrf)) (p2 := 330) (l2 := [some (.ref 61), some (.int x1), some (.int x2), some (.int x3)]) (s2 := []) (n2 := 94) (M2 := (I, J, xrf)) (fun f => rfl) (fun hc => ?_) (fun hc => ?_)
  · rw [if_pos hc] at h
    obtain ⟨t0, h0, rfl⟩ := Option.map_eq_some_iff.mp h
    exact p_X12_count_60 x1 x2 x3 I J h0 hC
  · rw [if_neg hc] at h
    exact p_X12_count_54 x1 x2 x3 I J h hC
theorem p_X12_count_53 {L : Nat} {xs : Nat → Int32} {d : Nat} {Q : xO → Prop} (x1 : Int32) (x2 : Int32) (x3 : Int32) (I : xI) (J : xJ) {t : Int32 × xI × xJ} (h : f_X12_count_53 x1 x2 x3 I J = some t) (hC : (c_X12_count Q) t) : Rn L xs (d + 7) 297 322 [some (.ref 61), some (.int x1), some (.int x2), some (.int x3)] [] 94 (I, J, xrf) Q := by
  unfold f_X12_count_53 at h
  exact xloop_some (P := fun s : Int32 × Int32 × Int32 × xI × xJ => Rn L xs (d + 7) 297 322 [some (.ref 61), some (.int s.1), some (.int s.2.1), some (.int s.2.2.1)] [] 94 (s.2.2.2.1, s.2.2.2.2, xrf) Q) t (fun s ⟨s', hb, hp⟩ => q_X12_count_53 s.1 s.2.1 s.2.2.1 s.2.2.2.1 s.2.2.2.2 hb hp) (fun s hb => q_X12_count_53 s.1 s.2.1 s.2.2.1 s.2.2.2.1 s.2.2.2.2 hb hC) _ _ h
theorem p_X12_count_52 {L : Nat} {xs : Nat → Int32} {d : Nat} {Q : xO → Prop} (x1 : Int32) (x2 : Int32) (I : xI) (J : xJ) {t : Int32 × xI × xJ} (h : f_X12_count_52 x1 x2 I J = some t) (hC : (c_X12_count Q) t) : Rn L xs (d + 7) 297 317 [some (.ref 61), some (.int x1), some (.int x2), none] [] 94 (I, J, xrf) Q := by
  unfold f_X12_count_52 at h
  refine Rn.go 4 (j' := 297) (pc' := 322) (ls' := [some (.ref 61), some (.int x1), some (.int ((-2))), some (.int 0)]) (st' := []) (n' := 94) (M' := (I, J, xrf)) (fun f => rfl) ?_
  exact p_X12_count_53 x1 ((-2)) 0 I J h hC
theorem p_X12_count_61 {L : Nat} {xs : Nat → Int32} {d : Nat} {Q : xO → Prop} (x1 : Int32) (x2 : Int32) (I : xI) (J : xJ) {t : Int32 × xI × xJ} (h : f_X12_count_61 x1 x2 I J = some t) (hC : (c_X12_count Q) t) : Rn L xs (d + 7) 297 378 [some (.ref 61), some (.int x1), some (.int x2), none] [] 94 (I, J, xrf) Q := by
  unfold f_X12_count_61 at h
  cases h
  exact Rn.ret 2 (o := ((some (.int ((-1)))), 94, (I, J, xrf))) (fun f => rfl) hC
theorem p_X12_count_2 {L : Nat} {xs : Nat → Int32} {d : Nat} {Q : xO → Prop} (x1 : Int32) (x2 : Int32) (s0 : Int32) (I : xI) (J : xJ) {t : Int32 × xI × xJ} (h : f_X12_count_2 x1 x2 s0 I J = some t) (hC : (c_X12_count Q) t) : Rn L xs (d + 7) 297 7 [some (.ref 61), some (.int x1), some (.int x2), none] [.int s0] 94 (I, J, xrf) Q := by
  unfold f_X12_count_2 at h
  by_cases hc0 : s0 = 0
  · rw [if_pos hc0] at h; subst hc0
    refine Rn.go 1 (j' := 297) (pc' := 80) (ls' := [some (.ref 61), some (.int x1), some (.int x2), none]) (st' := []) (n' := 94) (M' := (I, J, xrf)) (fun f => rfl) ?_
    exact p_X12_count_3 x1 x2 I J h hC
  rw [if_neg hc0] at h
  by_cases hc1 : s0 = 1
  · rw [if_pos hc1] at h; subst hc1
    refine Rn.go 1 (j' := 297) (pc' := 85) (ls' := [some (.ref 61), some (.int x1), some (.int x2), none]) (st' := []) (n' := 94) (M' := (I, J, xrf)) (fun f => rfl) ?_
    exact p_X12_count_4 x1 x2 I J h hC
  rw [if_neg hc1] at h
  by_cases hc2 : s0 = 2
  · rw [if_pos hc2] at h; subst hc2
    refine Rn.go 1 (j' := 297) (pc' := 90) (ls' := [some (.ref 61), some (.int x1), some (.int x2), none]) (st' := []) (n' := 94) (M' := (I, J, xrf)) (fun f => rfl) ?_
    exact p_X12_count_5 x1 x2 I J h hC
  rw [if_neg hc2] at h
  by_cases hc3 : s0 = 3
  · rw [if_pos hc3] at h; subst hc3
    refine Rn.go 1 (j' := 297) (pc' := 96) (ls' := [some (.ref 61), some (.int x1), some (.int x2), none]) (st' := []) (n' := 94) (M' := (I, J, xrf)) (fun f => rfl) ?_
    exact p_X12_count_7 x1 x2 I J h hC
  rw [if_neg hc3] at h
  by_cases hc4 : s0 = 4
  · rw [if_pos hc4] at h; subst hc4
    refine Rn.go 1 (j' := 297) (pc' := 113) (ls' := [some (.ref 61), some (.int x1), some (.int x2), none]) (st' := []) (n' := 94) (M' := (I, J, xrf)) (fun f => rfl) ?_
    exact p_X12_count_9 x1 x2 I J h hC
  rw [if_neg hc4] at h
  by_cases hc5 : s0 = 5
  · rw [if_pos hc5] at h; subst hc5
    refine Rn.go 1 (j' := 297) (pc' := 143) (ls' := [some (.ref 61), some (.int x1), some (.int x2), none]) (st' := []) (n' := 94) (M' := (I, J, xrf)) (fun f => rfl) ?_
    exact p_X12_count_15 x1 x2 I J h hC
  rw [if_neg hc5] at h
  by_cases hc6 : s0 = 6
  · rw [if_pos hc6] at h; subst hc6
    refine Rn.go 1 (j' := 297) (pc' := 179) (ls' := [some (.ref 61), some (.int x1), some (.int x2), none]) (st' := []) (n' := 94) (M' := (I, J, xrf)) (fun f => rfl) ?_
    exact p_X12_count_21 x1 x2 I J h hC
  rw [if_neg hc6] at h
  by_cases hc7 : s0 = 7
  · rw [if_pos hc7] at h; subst hc7
    refine Rn.go 1 (j' := 297) (pc' := 184) (ls' := [some (.ref 61), some (.int x1), some (.int x2), none]) (st' := []) (n' := 94) (M' := (I, J, xrf)) (fun f => rfl) ?_
    exact p_X12_count_23 x1 x2 I J h hC
  rw [if_neg hc7] at h
  by_cases hc8 : s0 = 8
  · rw [if_pos hc8] at h; subst hc8
    refine Rn.go 1 (j' := 297) (pc' := 214) (ls' := [some (.ref 61), some (.int x1), some (.int x2), none]) (st' := []) (n' := 94) (M' := (I, J, xrf)) (fun f => rfl) ?_
    exact p_X12_count_28 x1 x2 I J h hC
  rw [if_neg hc8] at h
  by_cases hc9 : s0 = 9
  · rw [if_pos hc9] at h; subst hc9
    refine Rn.go 1 (j' := 297) (pc' := 219) (ls' := [some (.ref 61), some (.int x1), some (.int x2), none]) (st' := []) (n' := 94) (M' := (I, J, xrf)) (fun f => rfl) ?_
    exact p_X12_count_29 x1 x2 I J h hC
  rw [if_neg hc9] at h
  by_cases hc10 : s0 = 10
  · rw [if_pos hc10] at h; subst hc10
    refine Rn.go 1 (j' := 297) (pc' := 224) (ls' := [some (.ref 61), some (.int x1), some (.int x2), none]) (st' := []) (n' := 94) (M' := (I, J, xrf)) (fun f => rfl) ?_
    exact p_X12_count_30 x1 x2 I J h hC
  rw [if_neg hc10] at h
  by_cases hc11 : s0 = 11
  · rw [if_pos hc11] at h; subst hc11
    refine Rn.go 1 (j' := 297) (pc' := 269) (ls' := [some (.ref 61), some (.int x1), some (.int x2), none]) (st' := []) (n' := 94) (M' := (I, J, xrf)) (fun f => rfl) ?_
    exact p_X12_count_40 x1 x2 I J h hC
  rw [if_neg hc11] at h
  by_cases hc12 : s0 = 12
  · rw [if_pos hc12] at h; subst hc12
    refine Rn.go 1 (j' := 297) (pc' := 274) (ls' := [some (.ref 61), some (.int x1), some (.int x2), none]) (st' := []) (n' := 94) (M' := (I, J, xrf)) (fun f => rfl) ?_
    exact p_X12_count_42 x1 x2 I J h hC
  rw [if_neg hc12] at h
  by_cases hc13 : s0 = 13
  · rw [if_pos hc13] at h; subst hc13
    refine Rn.go 1 (j' := 297) (pc' := 287) (ls' := [some (.ref 61), some (.int x1), some (.int x2), none]) (st' := []) (n' := 94) (M' := (I, J, xrf)) (fun f => rfl) ?_
    exact p_X12_count_47 x1 x2 I J h hC
  rw [if_neg hc13] at h
  by_cases hc14 : s0 = 14
  · rw [if_pos hc14] at h; subst hc14
    refine Rn.go 1 (j' := 297) (pc' := 317) (ls' := [some (.ref 61), some (.int x1), some (.int x2), none]) (st' := []) (n' := 94) (M' := (I, J, xrf)) (fun f => rfl) ?_
    exact p_X12_count_52 x1 x2 I J h hC
  rw [if_neg hc14] at h
  have ho : Int32.toInt s0 < 0 ∨ 14 < Int32.toInt s0 := xsw_out (fun i h1 h2 => by
      have hh : i = 0 ∨ i = 1 ∨ i = 2 ∨ i = 3 ∨ i = 4 ∨ i = 5 ∨ i = 6 ∨ i = 7 ∨ i = 8 ∨ i = 9 ∨ i = 10 ∨ i = 11 ∨ i = 12 ∨ i = 13 ∨ i = 14 := (by omega)
      rcases hh with rfl | rfl | rfl | rfl | rfl | rfl | rfl | rfl | rfl | rfl | rfl | rfl | rfl | rfl | rfl
      · exact hc0
      · exact hc1
      · exact hc2
      · exact hc3
      · exact hc4
      · exact hc5
      · exact hc6
      · exact hc7
      · exact hc8
      · exact hc9
      · exact hc10
      · exact hc11
      · exact hc12
      · exact hc13
      · exact hc14)
  refine Rn.go 1 (d' := (d + 7)) (j' := 297) (pc' := 378) (ls' := [some (.ref 61), some (.int x1), some (.int x2), none]) (st' := []) (n' := 94) (M' := (I, J, xrf)) (fun f => by show (if Int32.toInt s0 < 0 ∨ 14 < Int32.toInt s0 then _ else _) = _; rw [if_pos ho] <;> rfl) ?_
  exact p_X12_count_61 x1 x2 I J h hC
theorem p_X12_count_1 {L : Nat} {xs : Nat → Int32} {d : Nat} {Q : xO → Prop} (x1 : Int32) (I : xI) (J : xJ) {t : Int32 × xI × xJ} (h : f_X12_count_1 x1 I J = some t) (hC : (c_X12_count Q) t) : Rn L xs (d + 7) 297 4 [some (.ref 61), some (.int x1), none, none] [] 94 (I, J, xrf) Q := by
  unfold f_X12_count_1 at h
  refine Rn.go 3 (j' := 297) (pc' := 7) (ls' := [some (.ref 61), some (.int x1), some (.int 0), none]) (st' := [.int x1]) (n' := 94) (M' := (I, J, xrf)) (fun f => rfl) ?_
  exact p_X12_count_2 x1 0 x1 I J h hC
theorem p_X12_count_0 {L : Nat} {xs : Nat → Int32} {d : Nat} {Q : xO → Prop} (x1 : Int32) (I : xI) (J : xJ) {t : Int32 × xI × xJ} (h : f_X12_count_0 x1 I J = some t) (hC : (c_X12_count Q) t) : Rn L xs (d + 7) 297 0 [some (.ref 61), some (.int x1), none, none] [] 94 (I, J, xrf) Q := by
  unfold f_X12_count_0 at h
  refine Rn.go 1 (j' := 297) (pc' := 1) (ls' := [some (.ref 61), some (.int x1), none, none]) (st' := [.ref 61]) (n' := 94) (M' := (I, J, xrf)) (fun f => rfl) ?_
  obtain ⟨o, ho, h⟩ := Option.bind_eq_some_iff.mp h
  refine Rn.call (d1 := d + 6) (j1 := 223) (ls1 := [some (.ref 61)]) (rest := []) (fun f => rfl) ?_
  refine p_X12_knows (d := d + 0) I J (t := o) ho ?_
  exact p_X12_count_1 x1 o.2.1 o.2.2 h hC
theorem p_X12_count {L : Nat} {xs : Nat → Int32} {d : Nat} {Q : xO → Prop} (x1 : Int32) (I : xI) (J : xJ) {t : Int32 × xI × xJ} (h : f_X12_count x1 I J = some t) (hC : Q ((some (.int t.1)), 94, (t.2.1, t.2.2, xrf))) : Rn L xs (d + 7) 297 0 [some (.ref 61), some (.int x1), none, none] [] 94 (I, J, xrf) Q := p_X12_count_0 x1 I J h hC
