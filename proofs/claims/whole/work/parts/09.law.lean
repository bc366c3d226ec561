/-! the law, from its loop on -/
def c_L_law (Q : xO → Prop) (t : Int32 × xI × xJ) : Prop := Q ((some (.int t.1)), 94, (t.2.1, t.2.2, xrf))
def c_L_law_0 (L : Nat) (xs : Nat → Int32) (d : Nat) (Q : xO → Prop) (t : (Int32 × xI × xJ) ⊕ (Int32 × xI × xJ)) : Prop := match t with
  | .inl s => Rn L xs (d + 32) 309 18 [some (.ref 1009), some (.ref 0), some (.ref 61), some (.int s.1)] [] 94 (s.2.1, s.2.2, xrf) Q
  | .inr t => (c_L_law Q) t
def f_L_law_156 (L : Nat) (xs : Nat → Int32) (x3 : Int32) (I : xI) (J : xJ) : Option (Int32 × xI × xJ) := some (1, I, J)
def f_L_law_155 (L : Nat) (xs : Nat → Int32) (x3 : Int32) (I : xI) (J : xJ) : Option ((Int32 × xI × xJ) ⊕ (Int32 × xI × xJ)) := some (.inl (((x3 + 6)), I, J))
def f_L_law_6 (L : Nat) (xs : Nat → Int32) (x3 : Int32) (I : xI) (J : xJ) : Option (Int32 × xI × xJ) := some (0, I, J)
def f_L_law_5 (L : Nat) (xs : Nat → Int32) (x3 : Int32) (s0 : Int32) (s1 : Int32) (I : xI) (J : xJ) : Option ((Int32 × xI × xJ) ⊕ (Int32 × xI × xJ)) := if s0 = s1 then f_L_law_155 L xs x3 I J else ((f_L_law_6 L xs x3 I J)).map .inr
def f_L_law_4 (L : Nat) (xs : Nat → Int32) (x3 : Int32) (s0 : Int32) (I : xI) (J : xJ) : Option ((Int32 × xI × xJ) ⊕ (Int32 × xI × xJ)) := if (x3 + 1) < 0 ∨ L ≤ ((x3 + 1)).toNatClampNeg then none else if (x3 + 2) < 0 ∨ L ≤ ((x3 + 2)).toNatClampNeg then none else if (x3 + 3) < 0 ∨ L ≤ ((x3 + 3)).toNatClampNeg then none else if (x3 + 4) < 0 ∨ L ≤ ((x3 + 4)).toNatClampNeg then none else if (x3 + 5) < 0 ∨ L ≤ ((x3 + 5)).toNatClampNeg then none else (f_X12_feed ((xs ((x3 + 1)).toNatClampNeg)) ((xs ((x3 + 2)).toNatClampNeg)) ((xs ((x3 + 3)).toNatClampNeg)) ((xs ((x3 + 4)).toNatClampNeg)) ((xs ((x3 + 5)).toNatClampNeg)) I J).bind fun o => f_L_law_5 L xs x3 s0 o.1 o.2.1 o.2.2
def f_L_law_3 (L : Nat) (xs : Nat → Int32) (x3 : Int32) (I : xI) (J : xJ) : Option ((Int32 × xI × xJ) ⊕ (Int32 × xI × xJ)) := if (x3 + 1) < 0 ∨ L ≤ ((x3 + 1)).toNatClampNeg then none else if (x3 + 2) < 0 ∨ L ≤ ((x3 + 2)).toNatClampNeg then none else if (x3 + 3) < 0 ∨ L ≤ ((x3 + 3)).toNatClampNeg then none else if (x3 + 4) < 0 ∨ L ≤ ((x3 + 4)).toNatClampNeg then none else if (x3 + 5) < 0 ∨ L ≤ ((x3 + 5)).toNatClampNeg then none else (f_X11_feed ((xs ((x3 + 1)).toNatClampNeg)) ((xs ((x3 + 2)).toNatClampNeg)) ((xs ((x3 + 3)).toNatClampNeg)) ((xs ((x3 + 4)).toNatClampNeg)) ((xs ((x3 + 5)).toNatClampNeg)) I J).bind fun o => f_L_law_4 L xs x3 o.1 o.2.1 o.2.2
def f_L_law_10 (L : Nat) (xs : Nat → Int32) (x3 : Int32) (I : xI) (J : xJ) : Option (Int32 × xI × xJ) := some (0, I, J)
def f_L_law_9 (L : Nat) (xs : Nat → Int32) (x3 : Int32) (s0 : Int32) (s1 : Int32) (I : xI) (J : xJ) : Option ((Int32 × xI × xJ) ⊕ (Int32 × xI × xJ)) := if s0 = s1 then f_L_law_155 L xs x3 I J else ((f_L_law_10 L xs x3 I J)).map .inr
def f_L_law_8 (L : Nat) (xs : Nat → Int32) (x3 : Int32) (s0 : Int32) (I : xI) (J : xJ) : Option ((Int32 × xI × xJ) ⊕ (Int32 × xI × xJ)) := if (x3 + 1) < 0 ∨ L ≤ ((x3 + 1)).toNatClampNeg then none else (f_X12_back ((xs ((x3 + 1)).toNatClampNeg)) I J).bind fun o => f_L_law_9 L xs x3 s0 o.1 o.2.1 o.2.2
def f_L_law_7 (L : Nat) (xs : Nat → Int32) (x3 : Int32) (I : xI) (J : xJ) : Option ((Int32 × xI × xJ) ⊕ (Int32 × xI × xJ)) := if (x3 + 1) < 0 ∨ L ≤ ((x3 + 1)).toNatClampNeg then none else (f_X11_back ((xs ((x3 + 1)).toNatClampNeg)) I J).bind fun o => f_L_law_8 L xs x3 o.1 o.2.1 o.2.2
def f_L_law_14 (L : Nat) (xs : Nat → Int32) (x3 : Int32) (I : xI) (J : xJ) : Option (Int32 × xI × xJ) := some (0, I, J)
def f_L_law_13 (L : Nat) (xs : Nat → Int32) (x3 : Int32) (s0 : Int32) (s1 : Int32) (I : xI) (J : xJ) : Option ((Int32 × xI × xJ) ⊕ (Int32 × xI × xJ)) := if s0 = s1 then f_L_law_155 L xs x3 I J else ((f_L_law_14 L xs x3 I J)).map .inr
def f_L_law_12 (L : Nat) (xs : Nat → Int32) (x3 : Int32) (s0 : Int32) (I : xI) (J : xJ) : Option ((Int32 × xI × xJ) ⊕ (Int32 × xI × xJ)) := (f_X12_read I J).bind fun o => f_L_law_13 L xs x3 s0 o.1 o.2.1 o.2.2
def f_L_law_11 (L : Nat) (xs : Nat → Int32) (x3 : Int32) (I : xI) (J : xJ) : Option ((Int32 × xI × xJ) ⊕ (Int32 × xI × xJ)) := (f_X11_read I J).bind fun o => f_L_law_12 L xs x3 o.1 o.2.1 o.2.2
def f_L_law_18 (L : Nat) (xs : Nat → Int32) (x3 : Int32) (I : xI) (J : xJ) : Option (Int32 × xI × xJ) := some (0, I, J)
def f_L_law_17 (L : Nat) (xs : Nat → Int32) (x3 : Int32) (s0 : Int32) (s1 : Int32) (I : xI) (J : xJ) : Option ((Int32 × xI × xJ) ⊕ (Int32 × xI × xJ)) := if s0 = s1 then f_L_law_155 L xs x3 I J else ((f_L_law_18 L xs x3 I J)).map .inr
def f_L_law_16 (L : Nat) (xs : Nat → Int32) (x3 : Int32) (s0 : Int32) (I : xI) (J : xJ) : Option ((Int32 × xI × xJ) ⊕ (Int32 × xI × xJ)) := (f_X12_place I J).bind fun o => f_L_law_17 L xs x3 s0 o.1 o.2.1 o.2.2
def f_L_law_15 (L : Nat) (xs : Nat → Int32) (x3 : Int32) (I : xI) (J : xJ) : Option ((Int32 × xI × xJ) ⊕ (Int32 × xI × xJ)) := (f_X11_place I J).bind fun o => f_L_law_16 L xs x3 o.1 o.2.1 o.2.2
def f_L_law_22 (L : Nat) (xs : Nat → Int32) (x3 : Int32) (I : xI) (J : xJ) : Option (Int32 × xI × xJ) := some (0, I, J)
def f_L_law_21 (L : Nat) (xs : Nat → Int32) (x3 : Int32) (s0 : Int32) (s1 : Int32) (I : xI) (J : xJ) : Option ((Int32 × xI × xJ) ⊕ (Int32 × xI × xJ)) := if s0 = s1 then f_L_law_155 L xs x3 I J else ((f_L_law_22 L xs x3 I J)).map .inr
def f_L_law_20 (L : Nat) (xs : Nat → Int32) (x3 : Int32) (s0 : Int32) (I : xI) (J : xJ) : Option ((Int32 × xI × xJ) ⊕ (Int32 × xI × xJ)) := if (x3 + 1) < 0 ∨ L ≤ ((x3 + 1)).toNatClampNeg then none else if (x3 + 2) < 0 ∨ L ≤ ((x3 + 2)).toNatClampNeg then none else if (x3 + 3) < 0 ∨ L ≤ ((x3 + 3)).toNatClampNeg then none else if (x3 + 4) < 0 ∨ L ≤ ((x3 + 4)).toNatClampNeg then none else (f_X12_set ((xs ((x3 + 1)).toNatClampNeg)) ((xs ((x3 + 2)).toNatClampNeg)) ((xs ((x3 + 3)).toNatClampNeg)) ((xs ((x3 + 4)).toNatClampNeg)) I J).bind fun o => f_L_law_21 L xs x3 s0 o.1 o.2.1 o.2.2
def f_L_law_19 (L : Nat) (xs : Nat → Int32) (x3 : Int32) (I : xI) (J : xJ) : Option ((Int32 × xI × xJ) ⊕ (Int32 × xI × xJ)) := if (x3 + 1) < 0 ∨ L ≤ ((x3 + 1)).toNatClampNeg then none else if (x3 + 2) < 0 ∨ L ≤ ((x3 + 2)).toNatClampNeg then none else if (x3 + 3) < 0 ∨ L ≤ ((x3 + 3)).toNatClampNeg then none else if (x3 + 4) < 0 ∨ L ≤ ((x3 + 4)).toNatClampNeg then none else (f_X11_set ((xs ((x3 + 1)).toNatClampNeg)) ((xs ((x3 + 2)).toNatClampNeg)) ((xs ((x3 + 3)).toNatClampNeg)) ((xs ((x3 + 4)).toNatClampNeg)) I J).bind fun o => f_L_law_20 L xs x3 o.1 o.2.1 o.2.2
def f_L_law_26 (L : Nat) (xs : Nat → Int32) (x3 : Int32) (I : xI) (J : xJ) : Option (Int32 × xI × xJ) := some (0, I, J)
def f_L_law_25 (L : Nat) (xs : Nat → Int32) (x3 : Int32) (s0 : Int32) (s1 : Int32) (I : xI) (J : xJ) : Option ((Int32 × xI × xJ) ⊕ (Int32 × xI × xJ)) := if s0 = s1 then f_L_law_155 L xs x3 I J else ((f_L_law_26 L xs x3 I J)).map .inr
def f_L_law_24 (L : Nat) (xs : Nat → Int32) (x3 : Int32) (s0 : Int32) (I : xI) (J : xJ) : Option ((Int32 × xI × xJ) ⊕ (Int32 × xI × xJ)) := if (x3 + 1) < 0 ∨ L ≤ ((x3 + 1)).toNatClampNeg then none else if (x3 + 2) < 0 ∨ L ≤ ((x3 + 2)).toNatClampNeg then none else (f_X12_code ((xs ((x3 + 1)).toNatClampNeg)) ((xs ((x3 + 2)).toNatClampNeg)) I J).bind fun o => f_L_law_25 L xs x3 s0 o.1 o.2.1 o.2.2
def f_L_law_23 (L : Nat) (xs : Nat → Int32) (x3 : Int32) (I : xI) (J : xJ) : Option ((Int32 × xI × xJ) ⊕ (Int32 × xI × xJ)) := if (x3 + 1) < 0 ∨ L ≤ ((x3 + 1)).toNatClampNeg then none else if (x3 + 2) < 0 ∨ L ≤ ((x3 + 2)).toNatClampNeg then none else (f_X11_code ((xs ((x3 + 1)).toNatClampNeg)) ((xs ((x3 + 2)).toNatClampNeg)) I J).bind fun o => f_L_law_24 L xs x3 o.1 o.2.1 o.2.2
def f_L_law_30 (L : Nat) (xs : Nat → Int32) (x3 : Int32) (I : xI) (J : xJ) : Option (Int32 × xI × xJ) := some (0, I, J)
def f_L_law_29 (L : Nat) (xs : Nat → Int32) (x3 : Int32) (s0 : Int32) (s1 : Int32) (I : xI) (J : xJ) : Option ((Int32 × xI × xJ) ⊕ (Int32 × xI × xJ)) := if s0 = s1 then f_L_law_155 L xs x3 I J else ((f_L_law_30 L xs x3 I J)).map .inr
def f_L_law_28 (L : Nat) (xs : Nat → Int32) (x3 : Int32) (s0 : Int32) (I : xI) (J : xJ) : Option ((Int32 × xI × xJ) ⊕ (Int32 × xI × xJ)) := (f_X12_undo I J).bind fun o => f_L_law_29 L xs x3 s0 o.1 o.2.1 o.2.2
def f_L_law_27 (L : Nat) (xs : Nat → Int32) (x3 : Int32) (I : xI) (J : xJ) : Option ((Int32 × xI × xJ) ⊕ (Int32 × xI × xJ)) := (f_X11_undo I J).bind fun o => f_L_law_28 L xs x3 o.1 o.2.1 o.2.2
def f_L_law_34 (L : Nat) (xs : Nat → Int32) (x3 : Int32) (I : xI) (J : xJ) : Option (Int32 × xI × xJ) := some (0, I, J)
def f_L_law_33 (L : Nat) (xs : Nat → Int32) (x3 : Int32) (s0 : Int32) (s1 : Int32) (I : xI) (J : xJ) : Option ((Int32 × xI × xJ) ⊕ (Int32 × xI × xJ)) := if s0 = s1 then f_L_law_155 L xs x3 I J else ((f_L_law_34 L xs x3 I J)).map .inr
def f_L_law_32 (L : Nat) (xs : Nat → Int32) (x3 : Int32) (s0 : Int32) (I : xI) (J : xJ) : Option ((Int32 × xI × xJ) ⊕ (Int32 × xI × xJ)) := if (x3 + 1) < 0 ∨ L ≤ ((x3 + 1)).toNatClampNeg then none else if (x3 + 2) < 0 ∨ L ≤ ((x3 + 2)).toNatClampNeg then none else if (x3 + 3) < 0 ∨ L ≤ ((x3 + 3)).toNatClampNeg then none else (f_X12_move ((xs ((x3 + 1)).toNatClampNeg)) ((xs ((x3 + 2)).toNatClampNeg)) ((xs ((x3 + 3)).toNatClampNeg)) I J).bind fun o => f_L_law_33 L xs x3 s0 o.1 o.2.1 o.2.2
def f_L_law_31 (L : Nat) (xs : Nat → Int32) (x3 : Int32) (I : xI) (J : xJ) : Option ((Int32 × xI × xJ) ⊕ (Int32 × xI × xJ)) := if (x3 + 1) < 0 ∨ L ≤ ((x3 + 1)).toNatClampNeg then none else if (x3 + 2) < 0 ∨ L ≤ ((x3 + 2)).toNatClampNeg then none else if (x3 + 3) < 0 ∨ L ≤ ((x3 + 3)).toNatClampNeg then none else (f_X11_move ((xs ((x3 + 1)).toNatClampNeg)) ((xs ((x3 + 2)).toNatClampNeg)) ((xs ((x3 + 3)).toNatClampNeg)) I J).bind fun o => f_L_law_32 L xs x3 o.1 o.2.1 o.2.2
def f_L_law_38 (L : Nat) (xs : Nat → Int32) (x3 : Int32) (I : xI) (J : xJ) : Option (Int32 × xI × xJ) := some (0, I, J)
def f_L_law_37 (L : Nat) (xs : Nat → Int32) (x3 : Int32) (s0 : Int32) (s1 : Int32) (I : xI) (J : xJ) : Option ((Int32 × xI × xJ) ⊕ (Int32 × xI × xJ)) := if s0 = s1 then f_L_law_155 L xs x3 I J else ((f_L_law_38 L xs x3 I J)).map .inr
def f_L_law_36 (L : Nat) (xs : Nat → Int32) (x3 : Int32) (s0 : Int32) (I : xI) (J : xJ) : Option ((Int32 × xI × xJ) ⊕ (Int32 × xI × xJ)) := if (x3 + 1) < 0 ∨ L ≤ ((x3 + 1)).toNatClampNeg then none else if (x3 + 2) < 0 ∨ L ≤ ((x3 + 2)).toNatClampNeg then none else if (x3 + 3) < 0 ∨ L ≤ ((x3 + 3)).toNatClampNeg then none else (f_X12_apart ((xs ((x3 + 1)).toNatClampNeg)) ((xs ((x3 + 2)).toNatClampNeg)) ((xs ((x3 + 3)).toNatClampNeg)) I J).bind fun o => f_L_law_37 L xs x3 s0 o.1 o.2.1 o.2.2
def f_L_law_35 (L : Nat) (xs : Nat → Int32) (x3 : Int32) (I : xI) (J : xJ) : Option ((Int32 × xI × xJ) ⊕ (Int32 × xI × xJ)) := if (x3 + 1) < 0 ∨ L ≤ ((x3 + 1)).toNatClampNeg then none else if (x3 + 2) < 0 ∨ L ≤ ((x3 + 2)).toNatClampNeg then none else if (x3 + 3) < 0 ∨ L ≤ ((x3 + 3)).toNatClampNeg then none else (f_X11_apart ((xs ((x3 + 1)).toNatClampNeg)) ((xs ((x3 + 2)).toNatClampNeg)) ((xs ((x3 + 3)).toNatClampNeg)) I J).bind fun o => f_L_law_36 L xs x3 o.1 o.2.1 o.2.2
def f_L_law_42 (L : Nat) (xs : Nat → Int32) (x3 : Int32) (I : xI) (J : xJ) : Option (Int32 × xI × xJ) := some (0, I, J)
def f_L_law_41 (L : Nat) (xs : Nat → Int32) (x3 : Int32) (s0 : Int32) (s1 : Int32) (I : xI) (J : xJ) : Option ((Int32 × xI × xJ) ⊕ (Int32 × xI × xJ)) := if s0 = s1 then f_L_law_155 L xs x3 I J else ((f_L_law_42 L xs x3 I J)).map .inr
def f_L_law_40 (L : Nat) (xs : Nat → Int32) (x3 : Int32) (s0 : Int32) (I : xI) (J : xJ) : Option ((Int32 × xI × xJ) ⊕ (Int32 × xI × xJ)) := if (x3 + 1) < 0 ∨ L ≤ ((x3 + 1)).toNatClampNeg then none else if (x3 + 2) < 0 ∨ L ≤ ((x3 + 2)).toNatClampNeg then none else if (x3 + 3) < 0 ∨ L ≤ ((x3 + 3)).toNatClampNeg then none else (f_X12_word ((xs ((x3 + 1)).toNatClampNeg)) ((xs ((x3 + 2)).toNatClampNeg)) ((xs ((x3 + 3)).toNatClampNeg)) I J).bind fun o => f_L_law_41 L xs x3 s0 o.1 o.2.1 o.2.2
def f_L_law_39 (L : Nat) (xs : Nat → Int32) (x3 : Int32) (I : xI) (J : xJ) : Option ((Int32 × xI × xJ) ⊕ (Int32 × xI × xJ)) := if (x3 + 1) < 0 ∨ L ≤ ((x3 + 1)).toNatClampNeg then none else if (x3 + 2) < 0 ∨ L ≤ ((x3 + 2)).toNatClampNeg then none else if (x3 + 3) < 0 ∨ L ≤ ((x3 + 3)).toNatClampNeg then none else (f_X11_word ((xs ((x3 + 1)).toNatClampNeg)) ((xs ((x3 + 2)).toNatClampNeg)) ((xs ((x3 + 3)).toNatClampNeg)) I J).bind fun o => f_L_law_40 L xs x3 o.1 o.2.1 o.2.2
def f_L_law_46 (L : Nat) (xs : Nat → Int32) (x3 : Int32) (I : xI) (J : xJ) : Option (Int32 × xI × xJ) := some (0, I, J)
def f_L_law_45 (L : Nat) (xs : Nat → Int32) (x3 : Int32) (s0 : Int32) (s1 : Int32) (I : xI) (J : xJ) : Option ((Int32 × xI × xJ) ⊕ (Int32 × xI × xJ)) := if s0 = s1 then f_L_law_155 L xs x3 I J else ((f_L_law_46 L xs x3 I J)).map .inr
def f_L_law_44 (L : Nat) (xs : Nat → Int32) (x3 : Int32) (s0 : Int32) (I : xI) (J : xJ) : Option ((Int32 × xI × xJ) ⊕ (Int32 × xI × xJ)) := if (x3 + 1) < 0 ∨ L ≤ ((x3 + 1)).toNatClampNeg then none else (f_X12_shown ((xs ((x3 + 1)).toNatClampNeg)) I J).bind fun o => f_L_law_45 L xs x3 s0 o.1 o.2.1 o.2.2
def f_L_law_43 (L : Nat) (xs : Nat → Int32) (x3 : Int32) (I : xI) (J : xJ) : Option ((Int32 × xI × xJ) ⊕ (Int32 × xI × xJ)) := if (x3 + 1) < 0 ∨ L ≤ ((x3 + 1)).toNatClampNeg then none else (f_X11_shown ((xs ((x3 + 1)).toNatClampNeg)) I J).bind fun o => f_L_law_44 L xs x3 o.1 o.2.1 o.2.2
def f_L_law_50 (L : Nat) (xs : Nat → Int32) (x3 : Int32) (I : xI) (J : xJ) : Option (Int32 × xI × xJ) := some (0, I, J)
def f_L_law_49 (L : Nat) (xs : Nat → Int32) (x3 : Int32) (s0 : Int32) (s1 : Int32) (I : xI) (J : xJ) : Option ((Int32 × xI × xJ) ⊕ (Int32 × xI × xJ)) := if s0 = s1 then f_L_law_155 L xs x3 I J else ((f_L_law_50 L xs x3 I J)).map .inr
def f_L_law_48 (L : Nat) (xs : Nat → Int32) (x3 : Int32) (s0 : Int32) (I : xI) (J : xJ) : Option ((Int32 × xI × xJ) ⊕ (Int32 × xI × xJ)) := (f_X12_classes I J).bind fun o => f_L_law_49 L xs x3 s0 o.1 o.2.1 o.2.2
def f_L_law_47 (L : Nat) (xs : Nat → Int32) (x3 : Int32) (I : xI) (J : xJ) : Option ((Int32 × xI × xJ) ⊕ (Int32 × xI × xJ)) := (f_X11_classes I J).bind fun o => f_L_law_48 L xs x3 o.1 o.2.1 o.2.2
def f_L_law_54 (L : Nat) (xs : Nat → Int32) (x3 : Int32) (I : xI) (J : xJ) : Option (Int32 × xI × xJ) := some (0, I, J)
def f_L_law_53 (L : Nat) (xs : Nat → Int32) (x3 : Int32) (s0 : Int32) (s1 : Int32) (I : xI) (J : xJ) : Option ((Int32 × xI × xJ) ⊕ (Int32 × xI × xJ)) := if s0 = s1 then f_L_law_155 L xs x3 I J else ((f_L_law_54 L xs x3 I J)).map .inr
def f_L_law_52 (L : Nat) (xs : Nat → Int32) (x3 : Int32) (s0 : Int32) (I : xI) (J : xJ) : Option ((Int32 × xI × xJ) ⊕ (Int32 × xI × xJ)) := if (x3 + 1) < 0 ∨ L ≤ ((x3 + 1)).toNatClampNeg then none else (f_X12_greatest ((xs ((x3 + 1)).toNatClampNeg)) I J).bind fun o => f_L_law_53 L xs x3 s0 o.1 o.2.1 o.2.2
def f_L_law_51 (L : Nat) (xs : Nat → Int32) (x3 : Int32) (I : xI) (J : xJ) : Option ((Int32 × xI × xJ) ⊕ (Int32 × xI × xJ)) := if (x3 + 1) < 0 ∨ L ≤ ((x3 + 1)).toNatClampNeg then none else (f_X11_greatest ((xs ((x3 + 1)).toNatClampNeg)) I J).bind fun o => f_L_law_52 L xs x3 o.1 o.2.1 o.2.2
def f_L_law_58 (L : Nat) (xs : Nat → Int32) (x3 : Int32) (I : xI) (J : xJ) : Option (Int32 × xI × xJ) := some (0, I, J)
def f_L_law_57 (L : Nat) (xs : Nat → Int32) (x3 : Int32) (s0 : Int32) (s1 : Int32) (I : xI) (J : xJ) : Option ((Int32 × xI × xJ) ⊕ (Int32 × xI × xJ)) := if s0 = s1 then f_L_law_155 L xs x3 I J else ((f_L_law_58 L xs x3 I J)).map .inr
def f_L_law_56 (L : Nat) (xs : Nat → Int32) (x3 : Int32) (s0 : Int32) (I : xI) (J : xJ) : Option ((Int32 × xI × xJ) ⊕ (Int32 × xI × xJ)) := if (x3 + 1) < 0 ∨ L ≤ ((x3 + 1)).toNatClampNeg then none else (f_X12_fewest ((xs ((x3 + 1)).toNatClampNeg)) I J).bind fun o => f_L_law_57 L xs x3 s0 o.1 o.2.1 o.2.2
def f_L_law_55 (L : Nat) (xs : Nat → Int32) (x3 : Int32) (I : xI) (J : xJ) : Option ((Int32 × xI × xJ) ⊕ (Int32 × xI × xJ)) := if (x3 + 1) < 0 ∨ L ≤ ((x3 + 1)).toNatClampNeg then none else (f_X11_fewest ((xs ((x3 + 1)).toNatClampNeg)) I J).bind fun o => f_L_law_56 L xs x3 o.1 o.2.1 o.2.2
def f_L_law_62 (L : Nat) (xs : Nat → Int32) (x3 : Int32) (I : xI) (J : xJ) : Option (Int32 × xI × xJ) := some (0, I, J)
def f_L_law_61 (L : Nat) (xs : Nat → Int32) (x3 : Int32) (s0 : Int32) (s1 : Int32) (I : xI) (J : xJ) : Option ((Int32 × xI × xJ) ⊕ (Int32 × xI × xJ)) := if s0 = s1 then f_L_law_155 L xs x3 I J else ((f_L_law_62 L xs x3 I J)).map .inr
def f_L_law_60 (L : Nat) (xs : Nat → Int32) (x3 : Int32) (s0 : Int32) (I : xI) (J : xJ) : Option ((Int32 × xI × xJ) ⊕ (Int32 × xI × xJ)) := if (x3 + 1) < 0 ∨ L ≤ ((x3 + 1)).toNatClampNeg then none else (f_X12_isClass ((xs ((x3 + 1)).toNatClampNeg)) I J).bind fun o => f_L_law_61 L xs x3 s0 o.1 o.2.1 o.2.2
def f_L_law_59 (L : Nat) (xs : Nat → Int32) (x3 : Int32) (I : xI) (J : xJ) : Option ((Int32 × xI × xJ) ⊕ (Int32 × xI × xJ)) := if (x3 + 1) < 0 ∨ L ≤ ((x3 + 1)).toNatClampNeg then none else (f_X11_isClass ((xs ((x3 + 1)).toNatClampNeg)) I J).bind fun o => f_L_law_60 L xs x3 o.1 o.2.1 o.2.2
def f_L_law_66 (L : Nat) (xs : Nat → Int32) (x3 : Int32) (I : xI) (J : xJ) : Option (Int32 × xI × xJ) := some (0, I, J)
def f_L_law_65 (L : Nat) (xs : Nat → Int32) (x3 : Int32) (s0 : Int32) (s1 : Int32) (I : xI) (J : xJ) : Option ((Int32 × xI × xJ) ⊕ (Int32 × xI × xJ)) := if s0 = s1 then f_L_law_155 L xs x3 I J else ((f_L_law_66 L xs x3 I J)).map .inr
def f_L_law_64 (L : Nat) (xs : Nat → Int32) (x3 : Int32) (s0 : Int32) (I : xI) (J : xJ) : Option ((Int32 × xI × xJ) ⊕ (Int32 × xI × xJ)) := if (x3 + 1) < 0 ∨ L ≤ ((x3 + 1)).toNatClampNeg then none else if (x3 + 2) < 0 ∨ L ≤ ((x3 + 2)).toNatClampNeg then none else (f_X12_leads ((xs ((x3 + 1)).toNatClampNeg)) ((xs ((x3 + 2)).toNatClampNeg)) I J).bind fun o => f_L_law_65 L xs x3 s0 o.1 o.2.1 o.2.2
def f_L_law_63 (L : Nat) (xs : Nat → Int32) (x3 : Int32) (I : xI) (J : xJ) : Option ((Int32 × xI × xJ) ⊕ (Int32 × xI × xJ)) := if (x3 + 1) < 0 ∨ L ≤ ((x3 + 1)).toNatClampNeg then none else if (x3 + 2) < 0 ∨ L ≤ ((x3 + 2)).toNatClampNeg then none else (f_X11_leads ((xs ((x3 + 1)).toNatClampNeg)) ((xs ((x3 + 2)).toNatClampNeg)) I J).bind fun o => f_L_law_64 L xs x3 o.1 o.2.1 o.2.2
def f_L_law_70 (L : Nat) (xs : Nat → Int32) (x3 : Int32) (I : xI) (J : xJ) : Option (Int32 × xI × xJ) := some (0, I, J)
def f_L_law_69 (L : Nat) (xs : Nat → Int32) (x3 : Int32) (s0 : Int32) (s1 : Int32) (I : xI) (J : xJ) : Option ((Int32 × xI × xJ) ⊕ (Int32 × xI × xJ)) := if s0 = s1 then f_L_law_155 L xs x3 I J else ((f_L_law_70 L xs x3 I J)).map .inr
def f_L_law_68 (L : Nat) (xs : Nat → Int32) (x3 : Int32) (s0 : Int32) (I : xI) (J : xJ) : Option ((Int32 × xI × xJ) ⊕ (Int32 × xI × xJ)) := if (x3 + 1) < 0 ∨ L ≤ ((x3 + 1)).toNatClampNeg then none else if (x3 + 2) < 0 ∨ L ≤ ((x3 + 2)).toNatClampNeg then none else if (x3 + 3) < 0 ∨ L ≤ ((x3 + 3)).toNatClampNeg then none else (f_X12_small ((xs ((x3 + 1)).toNatClampNeg)) ((xs ((x3 + 2)).toNatClampNeg)) ((xs ((x3 + 3)).toNatClampNeg)) I J).bind fun o => f_L_law_69 L xs x3 s0 o.1 o.2.1 o.2.2
def f_L_law_67 (L : Nat) (xs : Nat → Int32) (x3 : Int32) (I : xI) (J : xJ) : Option ((Int32 × xI × xJ) ⊕ (Int32 × xI × xJ)) := if (x3 + 1) < 0 ∨ L ≤ ((x3 + 1)).toNatClampNeg then none else if (x3 + 2) < 0 ∨ L ≤ ((x3 + 2)).toNatClampNeg then none else if (x3 + 3) < 0 ∨ L ≤ ((x3 + 3)).toNatClampNeg then none else (f_X11_small ((xs ((x3 + 1)).toNatClampNeg)) ((xs ((x3 + 2)).toNatClampNeg)) ((xs ((x3 + 3)).toNatClampNeg)) I J).bind fun o => f_L_law_68 L xs x3 o.1 o.2.1 o.2.2
def f_L_law_74 (L : Nat) (xs : Nat → Int32) (x3 : Int32) (I : xI) (J : xJ) : Option (Int32 × xI × xJ) := some (0, I, J)
def f_L_law_73 (L : Nat) (xs : Nat → Int32) (x3 : Int32) (s0 : Int32) (s1 : Int32) (I : xI) (J : xJ) : Option ((Int32 × xI × xJ) ⊕ (Int32 × xI × xJ)) := if s0 = s1 then f_L_law_155 L xs x3 I J else ((f_L_law_74 L xs x3 I J)).map .inr
def f_L_law_72 (L : Nat) (xs : Nat → Int32) (x3 : Int32) (s0 : Int32) (I : xI) (J : xJ) : Option ((Int32 × xI × xJ) ⊕ (Int32 × xI × xJ)) := if (x3 + 1) < 0 ∨ L ≤ ((x3 + 1)).toNatClampNeg then none else (f_X12_home ((xs ((x3 + 1)).toNatClampNeg)) I J).bind fun o => f_L_law_73 L xs x3 s0 o.1 o.2.1 o.2.2
def f_L_law_71 (L : Nat) (xs : Nat → Int32) (x3 : Int32) (I : xI) (J : xJ) : Option ((Int32 × xI × xJ) ⊕ (Int32 × xI × xJ)) := if (x3 + 1) < 0 ∨ L ≤ ((x3 + 1)).toNatClampNeg then none else (f_X11_home ((xs ((x3 + 1)).toNatClampNeg)) I J).bind fun o => f_L_law_72 L xs x3 o.1 o.2.1 o.2.2
def f_L_law_78 (L : Nat) (xs : Nat → Int32) (x3 : Int32) (I : xI) (J : xJ) : Option (Int32 × xI × xJ) := some (0, I, J)
def f_L_law_77 (L : Nat) (xs : Nat → Int32) (x3 : Int32) (s0 : Int32) (s1 : Int32) (I : xI) (J : xJ) : Option ((Int32 × xI × xJ) ⊕ (Int32 × xI × xJ)) := if s0 = s1 then f_L_law_155 L xs x3 I J else ((f_L_law_78 L xs x3 I J)).map .inr
def f_L_law_76 (L : Nat) (xs : Nat → Int32) (x3 : Int32) (s0 : Int32) (I : xI) (J : xJ) : Option ((Int32 × xI × xJ) ⊕ (Int32 × xI × xJ)) := if (x3 + 1) < 0 ∨ L ≤ ((x3 + 1)).toNatClampNeg then none else (f_X12_met ((xs ((x3 + 1)).toNatClampNeg)) I J).bind fun o => f_L_law_77 L xs x3 s0 o.1 o.2.1 o.2.2
def f_L_law_75 (L : Nat) (xs : Nat → Int32) (x3 : Int32) (I : xI) (J : xJ) : Option ((Int32 × xI × xJ) ⊕ (Int32 × xI × xJ)) := if (x3 + 1) < 0 ∨ L ≤ ((x3 + 1)).toNatClampNeg then none else (f_X11_met ((xs ((x3 + 1)).toNatClampNeg)) I J).bind fun o => f_L_law_76 L xs x3 o.1 o.2.1 o.2.2
def f_L_law_82 (L : Nat) (xs : Nat → Int32) (x3 : Int32) (I : xI) (J : xJ) : Option (Int32 × xI × xJ) := some (0, I, J)
def f_L_law_81 (L : Nat) (xs : Nat → Int32) (x3 : Int32) (s0 : Int32) (s1 : Int32) (I : xI) (J : xJ) : Option ((Int32 × xI × xJ) ⊕ (Int32 × xI × xJ)) := if s0 = s1 then f_L_law_155 L xs x3 I J else ((f_L_law_82 L xs x3 I J)).map .inr
def f_L_law_80 (L : Nat) (xs : Nat → Int32) (x3 : Int32) (s0 : Int32) (I : xI) (J : xJ) : Option ((Int32 × xI × xJ) ⊕ (Int32 × xI × xJ)) := if (x3 + 1) < 0 ∨ L ≤ ((x3 + 1)).toNatClampNeg then none else if (x3 + 2) < 0 ∨ L ≤ ((x3 + 2)).toNatClampNeg then none else if (x3 + 3) < 0 ∨ L ≤ ((x3 + 3)).toNatClampNeg then none else if (x3 + 4) < 0 ∨ L ≤ ((x3 + 4)).toNatClampNeg then none else (f_X12_run ((xs ((x3 + 1)).toNatClampNeg)) ((xs ((x3 + 2)).toNatClampNeg)) ((xs ((x3 + 3)).toNatClampNeg)) ((xs ((x3 + 4)).toNatClampNeg)) I J).bind fun o => f_L_law_81 L xs x3 s0 o.1 o.2.1 o.2.2
def f_L_law_79 (L : Nat) (xs : Nat → Int32) (x3 : Int32) (I : xI) (J : xJ) : Option ((Int32 × xI × xJ) ⊕ (Int32 × xI × xJ)) := if (x3 + 1) < 0 ∨ L ≤ ((x3 + 1)).toNatClampNeg then none else if (x3 + 2) < 0 ∨ L ≤ ((x3 + 2)).toNatClampNeg then none else if (x3 + 3) < 0 ∨ L ≤ ((x3 + 3)).toNatClampNeg then none else if (x3 + 4) < 0 ∨ L ≤ ((x3 + 4)).toNatClampNeg then none else (f_X11_run ((xs ((x3 + 1)).toNatClampNeg)) ((xs ((x3 + 2)).toNatClampNeg)) ((xs ((x3 + 3)).toNatClampNeg)) ((xs ((x3 + 4)).toNatClampNeg)) I J).bind fun o => f_L_law_80 L xs x3 o.1 o.2.1 o.2.2
def f_L_law_86 (L : Nat) (xs : Nat → Int32) (x3 : Int32) (I : xI) (J : xJ) : Option (Int32 × xI × xJ) := some (0, I, J)
def f_L_law_85 (L : Nat) (xs : Nat → Int32) (x3 : Int32) (s0 : Int32) (s1 : Int32) (I : xI) (J : xJ) : Option ((Int32 × xI × xJ) ⊕ (Int32 × xI × xJ)) := if s0 = s1 then f_L_law_155 L xs x3 I J else ((f_L_law_86 L xs x3 I J)).map .inr
def f_L_law_84 (L : Nat) (xs : Nat → Int32) (x3 : Int32) (s0 : Int32) (I : xI) (J : xJ) : Option ((Int32 × xI × xJ) ⊕ (Int32 × xI × xJ)) := if (x3 + 1) < 0 ∨ L ≤ ((x3 + 1)).toNatClampNeg then none else (f_X12_goesOn ((xs ((x3 + 1)).toNatClampNeg)) I J).bind fun o => f_L_law_85 L xs x3 s0 o.1 o.2.1 o.2.2
def f_L_law_83 (L : Nat) (xs : Nat → Int32) (x3 : Int32) (I : xI) (J : xJ) : Option ((Int32 × xI × xJ) ⊕ (Int32 × xI × xJ)) := if (x3 + 1) < 0 ∨ L ≤ ((x3 + 1)).toNatClampNeg then none else (f_X11_goesOn ((xs ((x3 + 1)).toNatClampNeg)) I J).bind fun o => f_L_law_84 L xs x3 o.1 o.2.1 o.2.2
def f_L_law_90 (L : Nat) (xs : Nat → Int32) (x3 : Int32) (I : xI) (J : xJ) : Option (Int32 × xI × xJ) := some (0, I, J)
def f_L_law_89 (L : Nat) (xs : Nat → Int32) (x3 : Int32) (s0 : Int32) (s1 : Int32) (I : xI) (J : xJ) : Option ((Int32 × xI × xJ) ⊕ (Int32 × xI × xJ)) := if s0 = s1 then f_L_law_155 L xs x3 I J else ((f_L_law_90 L xs x3 I J)).map .inr
def f_L_law_88 (L : Nat) (xs : Nat → Int32) (x3 : Int32) (s0 : Int32) (I : xI) (J : xJ) : Option ((Int32 × xI × xJ) ⊕ (Int32 × xI × xJ)) := if (x3 + 1) < 0 ∨ L ≤ ((x3 + 1)).toNatClampNeg then none else if (x3 + 2) < 0 ∨ L ≤ ((x3 + 2)).toNatClampNeg then none else (f_X12_together ((xs ((x3 + 1)).toNatClampNeg)) ((xs ((x3 + 2)).toNatClampNeg)) I J).bind fun o => f_L_law_89 L xs x3 s0 o.1 o.2.1 o.2.2
def f_L_law_87 (L : Nat) (xs : Nat → Int32) (x3 : Int32) (I : xI) (J : xJ) : Option ((Int32 × xI × xJ) ⊕ (Int32 × xI × xJ)) := if (x3 + 1) < 0 ∨ L ≤ ((x3 + 1)).toNatClampNeg then none else if (x3 + 2) < 0 ∨ L ≤ ((x3 + 2)).toNatClampNeg then none else (f_X11_together ((xs ((x3 + 1)).toNatClampNeg)) ((xs ((x3 + 2)).toNatClampNeg)) I J).bind fun o => f_L_law_88 L xs x3 o.1 o.2.1 o.2.2
def f_L_law_94 (L : Nat) (xs : Nat → Int32) (x3 : Int32) (I : xI) (J : xJ) : Option (Int32 × xI × xJ) := some (0, I, J)
def f_L_law_93 (L : Nat) (xs : Nat → Int32) (x3 : Int32) (s0 : Int32) (s1 : Int32) (I : xI) (J : xJ) : Option ((Int32 × xI × xJ) ⊕ (Int32 × xI × xJ)) := if s0 = s1 then f_L_law_155 L xs x3 I J else ((f_L_law_94 L xs x3 I J)).map .inr
def f_L_law_92 (L : Nat) (xs : Nat → Int32) (x3 : Int32) (s0 : Int32) (I : xI) (J : xJ) : Option ((Int32 × xI × xJ) ⊕ (Int32 × xI × xJ)) := if (x3 + 1) < 0 ∨ L ≤ ((x3 + 1)).toNatClampNeg then none else (f_X12_partition ((xs ((x3 + 1)).toNatClampNeg)) I J).bind fun o => f_L_law_93 L xs x3 s0 o.1 o.2.1 o.2.2
def f_L_law_91 (L : Nat) (xs : Nat → Int32) (x3 : Int32) (I : xI) (J : xJ) : Option ((Int32 × xI × xJ) ⊕ (Int32 × xI × xJ)) := if (x3 + 1) < 0 ∨ L ≤ ((x3 + 1)).toNatClampNeg then none else (f_X11_partition ((xs ((x3 + 1)).toNatClampNeg)) I J).bind fun o => f_L_law_92 L xs x3 o.1 o.2.1 o.2.2
def f_L_law_98 (L : Nat) (xs : Nat → Int32) (x3 : Int32) (I : xI) (J : xJ) : Option (Int32 × xI × xJ) := some (0, I, J)
def f_L_law_97 (L : Nat) (xs : Nat → Int32) (x3 : Int32) (s0 : Int32) (s1 : Int32) (I : xI) (J : xJ) : Option ((Int32 × xI × xJ) ⊕ (Int32 × xI × xJ)) := if s0 = s1 then f_L_law_155 L xs x3 I J else ((f_L_law_98 L xs x3 I J)).map .inr
def f_L_law_96 (L : Nat) (xs : Nat → Int32) (x3 : Int32) (s0 : Int32) (I : xI) (J : xJ) : Option ((Int32 × xI × xJ) ⊕ (Int32 × xI × xJ)) := if (x3 + 1) < 0 ∨ L ≤ ((x3 + 1)).toNatClampNeg then none else (f_X12_into ((xs ((x3 + 1)).toNatClampNeg)) I J).bind fun o => f_L_law_97 L xs x3 s0 o.1 o.2.1 o.2.2
def f_L_law_95 (L : Nat) (xs : Nat → Int32) (x3 : Int32) (I : xI) (J : xJ) : Option ((Int32 × xI × xJ) ⊕ (Int32 × xI × xJ)) := if (x3 + 1) < 0 ∨ L ≤ ((x3 + 1)).toNatClampNeg then none else (f_X11_into ((xs ((x3 + 1)).toNatClampNeg)) I J).bind fun o => f_L_law_96 L xs x3 o.1 o.2.1 o.2.2
def f_L_law_102 (L : Nat) (xs : Nat → Int32) (x3 : Int32) (I : xI) (J : xJ) : Option (Int32 × xI × xJ) := some (0, I, J)
def f_L_law_101 (L : Nat) (xs : Nat → Int32) (x3 : Int32) (s0 : Int32) (s1 : Int32) (I : xI) (J : xJ) : Option ((Int32 × xI × xJ) ⊕ (Int32 × xI × xJ)) := if s0 = s1 then f_L_law_155 L xs x3 I J else ((f_L_law_102 L xs x3 I J)).map .inr
def f_L_law_100 (L : Nat) (xs : Nat → Int32) (x3 : Int32) (s0 : Int32) (I : xI) (J : xJ) : Option ((Int32 × xI × xJ) ⊕ (Int32 × xI × xJ)) := if (x3 + 1) < 0 ∨ L ≤ ((x3 + 1)).toNatClampNeg then none else (f_X12_split ((xs ((x3 + 1)).toNatClampNeg)) I J).bind fun o => f_L_law_101 L xs x3 s0 o.1 o.2.1 o.2.2
def f_L_law_99 (L : Nat) (xs : Nat → Int32) (x3 : Int32) (I : xI) (J : xJ) : Option ((Int32 × xI × xJ) ⊕ (Int32 × xI × xJ)) := if (x3 + 1) < 0 ∨ L ≤ ((x3 + 1)).toNatClampNeg then none else (f_X11_split ((xs ((x3 + 1)).toNatClampNeg)) I J).bind fun o => f_L_law_100 L xs x3 o.1 o.2.1 o.2.2
def f_L_law_106 (L : Nat) (xs : Nat → Int32) (x3 : Int32) (I : xI) (J : xJ) : Option (Int32 × xI × xJ) := some (0, I, J)
def f_L_law_105 (L : Nat) (xs : Nat → Int32) (x3 : Int32) (s0 : Int32) (s1 : Int32) (I : xI) (J : xJ) : Option ((Int32 × xI × xJ) ⊕ (Int32 × xI × xJ)) := if s0 = s1 then f_L_law_155 L xs x3 I J else ((f_L_law_106 L xs x3 I J)).map .inr
def f_L_law_104 (L : Nat) (xs : Nat → Int32) (x3 : Int32) (s0 : Int32) (I : xI) (J : xJ) : Option ((Int32 × xI × xJ) ⊕ (Int32 × xI × xJ)) := if (x3 + 1) < 0 ∨ L ≤ ((x3 + 1)).toNatClampNeg then none else (f_X12_tail ((xs ((x3 + 1)).toNatClampNeg)) I J).bind fun o => f_L_law_105 L xs x3 s0 o.1 o.2.1 o.2.2
def f_L_law_103 (L : Nat) (xs : Nat → Int32) (x3 : Int32) (I : xI) (J : xJ) : Option ((Int32 × xI × xJ) ⊕ (Int32 × xI × xJ)) := if (x3 + 1) < 0 ∨ L ≤ ((x3 + 1)).toNatClampNeg then none else (f_X11_tail ((xs ((x3 + 1)).toNatClampNeg)) I J).bind fun o => f_L_law_104 L xs x3 o.1 o.2.1 o.2.2
def f_L_law_110 (L : Nat) (xs : Nat → Int32) (x3 : Int32) (I : xI) (J : xJ) : Option (Int32 × xI × xJ) := some (0, I, J)
def f_L_law_109 (L : Nat) (xs : Nat → Int32) (x3 : Int32) (s0 : Int32) (s1 : Int32) (I : xI) (J : xJ) : Option ((Int32 × xI × xJ) ⊕ (Int32 × xI × xJ)) := if s0 = s1 then f_L_law_155 L xs x3 I J else ((f_L_law_110 L xs x3 I J)).map .inr
def f_L_law_108 (L : Nat) (xs : Nat → Int32) (x3 : Int32) (s0 : Int32) (I : xI) (J : xJ) : Option ((Int32 × xI × xJ) ⊕ (Int32 × xI × xJ)) := if (x3 + 1) < 0 ∨ L ≤ ((x3 + 1)).toNatClampNeg then none else if (x3 + 2) < 0 ∨ L ≤ ((x3 + 2)).toNatClampNeg then none else if (x3 + 3) < 0 ∨ L ≤ ((x3 + 3)).toNatClampNeg then none else (f_X12_part ((xs ((x3 + 1)).toNatClampNeg)) ((xs ((x3 + 2)).toNatClampNeg)) ((xs ((x3 + 3)).toNatClampNeg)) I J).bind fun o => f_L_law_109 L xs x3 s0 o.1 o.2.1 o.2.2
def f_L_law_107 (L : Nat) (xs : Nat → Int32) (x3 : Int32) (I : xI) (J : xJ) : Option ((Int32 × xI × xJ) ⊕ (Int32 × xI × xJ)) := if (x3 + 1) < 0 ∨ L ≤ ((x3 + 1)).toNatClampNeg then none else if (x3 + 2) < 0 ∨ L ≤ ((x3 + 2)).toNatClampNeg then none else if (x3 + 3) < 0 ∨ L ≤ ((x3 + 3)).toNatClampNeg then none else (f_X11_part ((xs ((x3 + 1)).toNatClampNeg)) ((xs ((x3 + 2)).toNatClampNeg)) ((xs ((x3 + 3)).toNatClampNeg)) I J).bind fun o => f_L_law_108 L xs x3 o.1 o.2.1 o.2.2
def f_L_law_114 (L : Nat) (xs : Nat → Int32) (x3 : Int32) (I : xI) (J : xJ) : Option (Int32 × xI × xJ) := some (0, I, J)
def f_L_law_113 (L : Nat) (xs : Nat → Int32) (x3 : Int32) (s0 : Int32) (s1 : Int32) (I : xI) (J : xJ) : Option ((Int32 × xI × xJ) ⊕ (Int32 × xI × xJ)) := if s0 = s1 then f_L_law_155 L xs x3 I J else ((f_L_law_114 L xs x3 I J)).map .inr
def f_L_law_112 (L : Nat) (xs : Nat → Int32) (x3 : Int32) (s0 : Int32) (I : xI) (J : xJ) : Option ((Int32 × xI × xJ) ⊕ (Int32 × xI × xJ)) := if (x3 + 1) < 0 ∨ L ≤ ((x3 + 1)).toNatClampNeg then none else if (x3 + 2) < 0 ∨ L ≤ ((x3 + 2)).toNatClampNeg then none else if (x3 + 3) < 0 ∨ L ≤ ((x3 + 3)).toNatClampNeg then none else if (x3 + 4) < 0 ∨ L ≤ ((x3 + 4)).toNatClampNeg then none else if (x3 + 5) < 0 ∨ L ≤ ((x3 + 5)).toNatClampNeg then none else (f_X12_series ((xs ((x3 + 1)).toNatClampNeg)) ((xs ((x3 + 2)).toNatClampNeg)) ((xs ((x3 + 3)).toNatClampNeg)) ((xs ((x3 + 4)).toNatClampNeg)) ((xs ((x3 + 5)).toNatClampNeg)) I J).bind fun o => f_L_law_113 L xs x3 s0 o.1 o.2.1 o.2.2
def f_L_law_111 (L : Nat) (xs : Nat → Int32) (x3 : Int32) (I : xI) (J : xJ) : Option ((Int32 × xI × xJ) ⊕ (Int32 × xI × xJ)) := if (x3 + 1) < 0 ∨ L ≤ ((x3 + 1)).toNatClampNeg then none else if (x3 + 2) < 0 ∨ L ≤ ((x3 + 2)).toNatClampNeg then none else if (x3 + 3) < 0 ∨ L ≤ ((x3 + 3)).toNatClampNeg then none else if (x3 + 4) < 0 ∨ L ≤ ((x3 + 4)).toNatClampNeg then none else if (x3 + 5) < 0 ∨ L ≤ ((x3 + 5)).toNatClampNeg then none else (f_X11_series ((xs ((x3 + 1)).toNatClampNeg)) ((xs ((x3 + 2)).toNatClampNeg)) ((xs ((x3 + 3)).toNatClampNeg)) ((xs ((x3 + 4)).toNatClampNeg)) ((xs ((x3 + 5)).toNatClampNeg)) I J).bind fun o => f_L_law_112 L xs x3 o.1 o.2.1 o.2.2
def f_L_law_118 (L : Nat) (xs : Nat → Int32) (x3 : Int32) (I : xI) (J : xJ) : Option (Int32 × xI × xJ) := some (0, I, J)
def f_L_law_117 (L : Nat) (xs : Nat → Int32) (x3 : Int32) (s0 : Int32) (s1 : Int32) (I : xI) (J : xJ) : Option ((Int32 × xI × xJ) ⊕ (Int32 × xI × xJ)) := if s0 = s1 then f_L_law_155 L xs x3 I J else ((f_L_law_118 L xs x3 I J)).map .inr
def f_L_law_116 (L : Nat) (xs : Nat → Int32) (x3 : Int32) (s0 : Int32) (I : xI) (J : xJ) : Option ((Int32 × xI × xJ) ⊕ (Int32 × xI × xJ)) := if (x3 + 1) < 0 ∨ L ≤ ((x3 + 1)).toNatClampNeg then none else if (x3 + 2) < 0 ∨ L ≤ ((x3 + 2)).toNatClampNeg then none else if (x3 + 3) < 0 ∨ L ≤ ((x3 + 3)).toNatClampNeg then none else if (x3 + 4) < 0 ∨ L ≤ ((x3 + 4)).toNatClampNeg then none else if (x3 + 5) < 0 ∨ L ≤ ((x3 + 5)).toNatClampNeg then none else (f_X12_beside ((xs ((x3 + 1)).toNatClampNeg)) ((xs ((x3 + 2)).toNatClampNeg)) ((xs ((x3 + 3)).toNatClampNeg)) ((xs ((x3 + 4)).toNatClampNeg)) ((xs ((x3 + 5)).toNatClampNeg)) I J).bind fun o => f_L_law_117 L xs x3 s0 o.1 o.2.1 o.2.2
def f_L_law_115 (L : Nat) (xs : Nat → Int32) (x3 : Int32) (I : xI) (J : xJ) : Option ((Int32 × xI × xJ) ⊕ (Int32 × xI × xJ)) := if (x3 + 1) < 0 ∨ L ≤ ((x3 + 1)).toNatClampNeg then none else if (x3 + 2) < 0 ∨ L ≤ ((x3 + 2)).toNatClampNeg then none else if (x3 + 3) < 0 ∨ L ≤ ((x3 + 3)).toNatClampNeg then none else if (x3 + 4) < 0 ∨ L ≤ ((x3 + 4)).toNatClampNeg then none else if (x3 + 5) < 0 ∨ L ≤ ((x3 + 5)).toNatClampNeg then none else (f_X11_beside ((xs ((x3 + 1)).toNatClampNeg)) ((xs ((x3 + 2)).toNatClampNeg)) ((xs ((x3 + 3)).toNatClampNeg)) ((xs ((x3 + 4)).toNatClampNeg)) ((xs ((x3 + 5)).toNatClampNeg)) I J).bind fun o => f_L_law_116 L xs x3 o.1 o.2.1 o.2.2
def f_L_law_122 (L : Nat) (xs : Nat → Int32) (x3 : Int32) (I : xI) (J : xJ) : Option (Int32 × xI × xJ) := some (0, I, J)
def f_L_law_121 (L : Nat) (xs : Nat → Int32) (x3 : Int32) (s0 : Int32) (s1 : Int32) (I : xI) (J : xJ) : Option ((Int32 × xI × xJ) ⊕ (Int32 × xI × xJ)) := if s0 = s1 then f_L_law_155 L xs x3 I J else ((f_L_law_122 L xs x3 I J)).map .inr
def f_L_law_120 (L : Nat) (xs : Nat → Int32) (x3 : Int32) (s0 : Int32) (I : xI) (J : xJ) : Option ((Int32 × xI × xJ) ⊕ (Int32 × xI × xJ)) := if (x3 + 1) < 0 ∨ L ≤ ((x3 + 1)).toNatClampNeg then none else if (x3 + 2) < 0 ∨ L ≤ ((x3 + 2)).toNatClampNeg then none else (f_X12_hangs ((xs ((x3 + 1)).toNatClampNeg)) ((xs ((x3 + 2)).toNatClampNeg)) I J).bind fun o => f_L_law_121 L xs x3 s0 o.1 o.2.1 o.2.2
def f_L_law_119 (L : Nat) (xs : Nat → Int32) (x3 : Int32) (I : xI) (J : xJ) : Option ((Int32 × xI × xJ) ⊕ (Int32 × xI × xJ)) := if (x3 + 1) < 0 ∨ L ≤ ((x3 + 1)).toNatClampNeg then none else if (x3 + 2) < 0 ∨ L ≤ ((x3 + 2)).toNatClampNeg then none else (f_X11_hangs ((xs ((x3 + 1)).toNatClampNeg)) ((xs ((x3 + 2)).toNatClampNeg)) I J).bind fun o => f_L_law_120 L xs x3 o.1 o.2.1 o.2.2
def f_L_law_126 (L : Nat) (xs : Nat → Int32) (x3 : Int32) (I : xI) (J : xJ) : Option (Int32 × xI × xJ) := some (0, I, J)
def f_L_law_125 (L : Nat) (xs : Nat → Int32) (x3 : Int32) (s0 : Int32) (s1 : Int32) (I : xI) (J : xJ) : Option ((Int32 × xI × xJ) ⊕ (Int32 × xI × xJ)) := if s0 = s1 then f_L_law_155 L xs x3 I J else ((f_L_law_126 L xs x3 I J)).map .inr
def f_L_law_124 (L : Nat) (xs : Nat → Int32) (x3 : Int32) (s0 : Int32) (I : xI) (J : xJ) : Option ((Int32 × xI × xJ) ⊕ (Int32 × xI × xJ)) := (f_X12_cost I J).bind fun o => f_L_law_125 L xs x3 s0 o.1 o.2.1 o.2.2
def f_L_law_123 (L : Nat) (xs : Nat → Int32) (x3 : Int32) (I : xI) (J : xJ) : Option ((Int32 × xI × xJ) ⊕ (Int32 × xI × xJ)) := (f_X11_cost I J).bind fun o => f_L_law_124 L xs x3 o.1 o.2.1 o.2.2
def f_L_law_130 (L : Nat) (xs : Nat → Int32) (x3 : Int32) (I : xI) (J : xJ) : Option (Int32 × xI × xJ) := some (0, I, J)
def f_L_law_129 (L : Nat) (xs : Nat → Int32) (x3 : Int32) (s0 : Int32) (s1 : Int32) (I : xI) (J : xJ) : Option ((Int32 × xI × xJ) ⊕ (Int32 × xI × xJ)) := if s0 = s1 then f_L_law_155 L xs x3 I J else ((f_L_law_130 L xs x3 I J)).map .inr
def f_L_law_128 (L : Nat) (xs : Nat → Int32) (x3 : Int32) (s0 : Int32) (I : xI) (J : xJ) : Option ((Int32 × xI × xJ) ⊕ (Int32 × xI × xJ)) := if (x3 + 1) < 0 ∨ L ≤ ((x3 + 1)).toNatClampNeg then none else if (x3 + 2) < 0 ∨ L ≤ ((x3 + 2)).toNatClampNeg then none else if (x3 + 3) < 0 ∨ L ≤ ((x3 + 3)).toNatClampNeg then none else (f_X12_cube ((xs ((x3 + 1)).toNatClampNeg)) ((xs ((x3 + 2)).toNatClampNeg)) ((xs ((x3 + 3)).toNatClampNeg)) I J).bind fun o => f_L_law_129 L xs x3 s0 o.1 o.2.1 o.2.2
def f_L_law_127 (L : Nat) (xs : Nat → Int32) (x3 : Int32) (I : xI) (J : xJ) : Option ((Int32 × xI × xJ) ⊕ (Int32 × xI × xJ)) := if (x3 + 1) < 0 ∨ L ≤ ((x3 + 1)).toNatClampNeg then none else if (x3 + 2) < 0 ∨ L ≤ ((x3 + 2)).toNatClampNeg then none else if (x3 + 3) < 0 ∨ L ≤ ((x3 + 3)).toNatClampNeg then none else (f_X11_cube ((xs ((x3 + 1)).toNatClampNeg)) ((xs ((x3 + 2)).toNatClampNeg)) ((xs ((x3 + 3)).toNatClampNeg)) I J).bind fun o => f_L_law_128 L xs x3 o.1 o.2.1 o.2.2
def f_L_law_134 (L : Nat) (xs : Nat → Int32) (x3 : Int32) (I : xI) (J : xJ) : Option (Int32 × xI × xJ) := some (0, I, J)
def f_L_law_133 (L : Nat) (xs : Nat → Int32) (x3 : Int32) (s0 : Int32) (s1 : Int32) (I : xI) (J : xJ) : Option ((Int32 × xI × xJ) ⊕ (Int32 × xI × xJ)) := if s0 = s1 then f_L_law_155 L xs x3 I J else ((f_L_law_134 L xs x3 I J)).map .inr
def f_L_law_132 (L : Nat) (xs : Nat → Int32) (x3 : Int32) (s0 : Int32) (I : xI) (J : xJ) : Option ((Int32 × xI × xJ) ⊕ (Int32 × xI × xJ)) := (f_X12_sum I J).bind fun o => f_L_law_133 L xs x3 s0 o.1 o.2.1 o.2.2
def f_L_law_131 (L : Nat) (xs : Nat → Int32) (x3 : Int32) (I : xI) (J : xJ) : Option ((Int32 × xI × xJ) ⊕ (Int32 × xI × xJ)) := (f_X11_sum I J).bind fun o => f_L_law_132 L xs x3 o.1 o.2.1 o.2.2
def f_L_law_138 (L : Nat) (xs : Nat → Int32) (x3 : Int32) (I : xI) (J : xJ) : Option (Int32 × xI × xJ) := some (0, I, J)
def f_L_law_137 (L : Nat) (xs : Nat → Int32) (x3 : Int32) (s0 : Int32) (s1 : Int32) (I : xI) (J : xJ) : Option ((Int32 × xI × xJ) ⊕ (Int32 × xI × xJ)) := if s0 = s1 then f_L_law_155 L xs x3 I J else ((f_L_law_138 L xs x3 I J)).map .inr
def f_L_law_136 (L : Nat) (xs : Nat → Int32) (x3 : Int32) (s0 : Int32) (I : xI) (J : xJ) : Option ((Int32 × xI × xJ) ⊕ (Int32 × xI × xJ)) := if (x3 + 1) < 0 ∨ L ≤ ((x3 + 1)).toNatClampNeg then none else if (x3 + 2) < 0 ∨ L ≤ ((x3 + 2)).toNatClampNeg then none else (f_X12_coded ((xs ((x3 + 1)).toNatClampNeg)) ((xs ((x3 + 2)).toNatClampNeg)) I J).bind fun o => f_L_law_137 L xs x3 s0 o.1 o.2.1 o.2.2
def f_L_law_135 (L : Nat) (xs : Nat → Int32) (x3 : Int32) (I : xI) (J : xJ) : Option ((Int32 × xI × xJ) ⊕ (Int32 × xI × xJ)) := if (x3 + 1) < 0 ∨ L ≤ ((x3 + 1)).toNatClampNeg then none else if (x3 + 2) < 0 ∨ L ≤ ((x3 + 2)).toNatClampNeg then none else (f_X11_coded ((xs ((x3 + 1)).toNatClampNeg)) ((xs ((x3 + 2)).toNatClampNeg)) I J).bind fun o => f_L_law_136 L xs x3 o.1 o.2.1 o.2.2
def f_L_law_142 (L : Nat) (xs : Nat → Int32) (x3 : Int32) (I : xI) (J : xJ) : Option (Int32 × xI × xJ) := some (0, I, J)
def f_L_law_141 (L : Nat) (xs : Nat → Int32) (x3 : Int32) (s0 : Int32) (s1 : Int32) (I : xI) (J : xJ) : Option ((Int32 × xI × xJ) ⊕ (Int32 × xI × xJ)) := if s0 = s1 then f_L_law_155 L xs x3 I J else ((f_L_law_142 L xs x3 I J)).map .inr
def f_L_law_140 (L : Nat) (xs : Nat → Int32) (x3 : Int32) (s0 : Int32) (I : xI) (J : xJ) : Option ((Int32 × xI × xJ) ⊕ (Int32 × xI × xJ)) := if (x3 + 1) < 0 ∨ L ≤ ((x3 + 1)).toNatClampNeg then none else if (x3 + 2) < 0 ∨ L ≤ ((x3 + 2)).toNatClampNeg then none else (f_X12_best ((xs ((x3 + 1)).toNatClampNeg)) ((xs ((x3 + 2)).toNatClampNeg)) I J).bind fun o => f_L_law_141 L xs x3 s0 o.1 o.2.1 o.2.2
def f_L_law_139 (L : Nat) (xs : Nat → Int32) (x3 : Int32) (I : xI) (J : xJ) : Option ((Int32 × xI × xJ) ⊕ (Int32 × xI × xJ)) := if (x3 + 1) < 0 ∨ L ≤ ((x3 + 1)).toNatClampNeg then none else if (x3 + 2) < 0 ∨ L ≤ ((x3 + 2)).toNatClampNeg then none else (f_X11_best ((xs ((x3 + 1)).toNatClampNeg)) ((xs ((x3 + 2)).toNatClampNeg)) I J).bind fun o => f_L_law_140 L xs x3 o.1 o.2.1 o.2.2
def f_L_law_146 (L : Nat) (xs : Nat → Int32) (x3 : Int32) (I : xI) (J : xJ) : Option (Int32 × xI × xJ) := some (0, I, J)
def f_L_law_145 (L : Nat) (xs : Nat → Int32) (x3 : Int32) (s0 : Int32) (s1 : Int32) (I : xI) (J : xJ) : Option ((Int32 × xI × xJ) ⊕ (Int32 × xI × xJ)) := if s0 = s1 then f_L_law_155 L xs x3 I J else ((f_L_law_146 L xs x3 I J)).map .inr
def f_L_law_144 (L : Nat) (xs : Nat → Int32) (x3 : Int32) (s0 : Int32) (I : xI) (J : xJ) : Option ((Int32 × xI × xJ) ⊕ (Int32 × xI × xJ)) := if (x3 + 1) < 0 ∨ L ≤ ((x3 + 1)).toNatClampNeg then none else (f_X12_hold ((xs ((x3 + 1)).toNatClampNeg)) I J).bind fun o => f_L_law_145 L xs x3 s0 o.1 o.2.1 o.2.2
def f_L_law_143 (L : Nat) (xs : Nat → Int32) (x3 : Int32) (I : xI) (J : xJ) : Option ((Int32 × xI × xJ) ⊕ (Int32 × xI × xJ)) := if (x3 + 1) < 0 ∨ L ≤ ((x3 + 1)).toNatClampNeg then none else (f_X11_hold ((xs ((x3 + 1)).toNatClampNeg)) I J).bind fun o => f_L_law_144 L xs x3 o.1 o.2.1 o.2.2
def f_L_law_150 (L : Nat) (xs : Nat → Int32) (x3 : Int32) (I : xI) (J : xJ) : Option (Int32 × xI × xJ) := some (0, I, J)
def f_L_law_149 (L : Nat) (xs : Nat → Int32) (x3 : Int32) (s0 : Int32) (s1 : Int32) (I : xI) (J : xJ) : Option ((Int32 × xI × xJ) ⊕ (Int32 × xI × xJ)) := if s0 = s1 then f_L_law_155 L xs x3 I J else ((f_L_law_150 L xs x3 I J)).map .inr
def f_L_law_148 (L : Nat) (xs : Nat → Int32) (x3 : Int32) (s0 : Int32) (I : xI) (J : xJ) : Option ((Int32 × xI × xJ) ⊕ (Int32 × xI × xJ)) := if (x3 + 1) < 0 ∨ L ≤ ((x3 + 1)).toNatClampNeg then none else (f_X12_restore ((xs ((x3 + 1)).toNatClampNeg)) I J).bind fun o => f_L_law_149 L xs x3 s0 o.1 o.2.1 o.2.2
def f_L_law_147 (L : Nat) (xs : Nat → Int32) (x3 : Int32) (I : xI) (J : xJ) : Option ((Int32 × xI × xJ) ⊕ (Int32 × xI × xJ)) := if (x3 + 1) < 0 ∨ L ≤ ((x3 + 1)).toNatClampNeg then none else (f_X11_restore ((xs ((x3 + 1)).toNatClampNeg)) I J).bind fun o => f_L_law_148 L xs x3 o.1 o.2.1 o.2.2
def f_L_law_154 (L : Nat) (xs : Nat → Int32) (x3 : Int32) (I : xI) (J : xJ) : Option (Int32 × xI × xJ) := some (0, I, J)
def f_L_law_153 (L : Nat) (xs : Nat → Int32) (x3 : Int32) (s0 : Int32) (s1 : Int32) (I : xI) (J : xJ) : Option ((Int32 × xI × xJ) ⊕ (Int32 × xI × xJ)) := if s0 = s1 then f_L_law_155 L xs x3 I J else ((f_L_law_154 L xs x3 I J)).map .inr
def f_L_law_152 (L : Nat) (xs : Nat → Int32) (x3 : Int32) (s0 : Int32) (I : xI) (J : xJ) : Option ((Int32 × xI × xJ) ⊕ (Int32 × xI × xJ)) := if (x3 + 1) < 0 ∨ L ≤ ((x3 + 1)).toNatClampNeg then none else (f_X12_count ((xs ((x3 + 1)).toNatClampNeg)) I J).bind fun o => f_L_law_153 L xs x3 s0 o.1 o.2.1 o.2.2
def f_L_law_151 (L : Nat) (xs : Nat → Int32) (x3 : Int32) (I : xI) (J : xJ) : Option ((Int32 × xI × xJ) ⊕ (Int32 × xI × xJ)) := if (x3 + 1) < 0 ∨ L ≤ ((x3 + 1)).toNatClampNeg then none else (f_X11_count ((xs ((x3 + 1)).toNatClampNeg)) I J).bind fun o => f_L_law_152 L xs x3 o.1 o.2.1 o.2.2
def f_L_law_2 (L : Nat) (xs : Nat → Int32) (x3 : Int32) (s0 : Int32) (I : xI) (J : xJ) : Option ((Int32 × xI × xJ) ⊕ (Int32 × xI × xJ)) := if s0 = 0 then f_L_law_3 L xs x3 I J else if s0 = 1 then f_L_law_7 L xs x3 I J else if s0 = 2 then f_L_law_11 L xs x3 I J else if s0 = 3 then f_L_law_15 L xs x3 I J else if s0 = 4 then f_L_law_19 L xs x3 I J else if s0 = 5 then f_L_law_23 L xs x3 I J else if s0 = 6 then f_L_law_27 L xs x3 I J else if s0 = 7 then f_L_law_31 L xs x3 I J else if s0 = 8 then f_L_law_35 L xs x3 I J else if s0 = 9 then f_L_law_39 L xs x3 I J else if s0 = 10 then f_L_law_43 L xs x3 I J else if s0 = 11 then f_L_law_47 L xs x3 I J else if s0 = 12 then f_L_law_51 L xs x3 I J else if s0 = 13 then f_L_law_55 L xs x3 I J else if s0 = 14 then f_L_law_59 L xs x3 I J else if s0 = 15 then f_L_law_63 L xs x3 I J else if s0 = 16 then f_L_law_67 L xs x3 I J else if s0 = 17 then f_L_law_71 L xs x3 I J else if s0 = 18 then f_L_law_75 L xs x3 I J else if s0 = 19 then f_L_law_79 L xs x3 I J else if s0 = 20 then f_L_law_83 L xs x3 I J else if s0 = 21 then f_L_law_87 L xs x3 I J else if s0 = 22 then f_L_law_91 L xs x3 I J else if s0 = 23 then f_L_law_95 L xs x3 I J else if s0 = 24 then f_L_law_99 L xs x3 I J else if s0 = 25 then f_L_law_103 L xs x3 I J else if s0 = 26 then f_L_law_107 L xs x3 I J else if s0 = 27 then f_L_law_111 L xs x3 I J else if s0 = 28 then f_L_law_115 L xs x3 I J else if s0 = 29 then f_L_law_119 L xs x3 I J else if s0 = 30 then f_L_law_123 L xs x3 I J else if s0 = 31 then f_L_law_127 L xs x3 I J else if s0 = 32 then f_L_law_131 L xs x3 I J else if s0 = 33 then f_L_law_135 L xs x3 I J else if s0 = 34 then f_L_law_139 L xs x3 I J else if s0 = 35 then f_L_law_143 L xs x3 I J else if s0 = 36 then f_L_law_147 L xs x3 I J else if s0 = 37 then f_L_law_151 L xs x3 I J else f_L_law_155 L xs x3 I J
def f_L_law_1 (L : Nat) (xs : Nat → Int32) (x3 : Int32) (I : xI) (J : xJ) : Option ((Int32 × xI × xJ) ⊕ (Int32 × xI × xJ)) := if x3 < 0 ∨ L ≤ x3.toNatClampNeg then none else f_L_law_2 L xs x3 (((xs x3.toNatClampNeg) &&& 63)) I J
def b_L_law_0 (L : Nat) (xs : Nat → Int32) (x3 : Int32) (I : xI) (J : xJ) : Option ((Int32 × xI × xJ) ⊕ (Int32 × xI × xJ)) := if ((Int32.ofNat L) - 6) < x3 then ((f_L_law_156 L xs x3 I J)).map .inr else f_L_law_1 L xs x3 I J
def f_L_law_0 (L : Nat) (xs : Nat → Int32) (x3 : Int32) (I : xI) (J : xJ) : Option (Int32 × xI × xJ) := xloop (fun s : Int32 × xI × xJ => b_L_law_0 L xs s.1 s.2.1 s.2.2) 5000 (x3, I, J)
def f_L_law (L : Nat) (xs : Nat → Int32) (x3 : Int32) (I : xI) (J : xJ) : Option (Int32 × xI × xJ) := f_L_law_0 L xs x3 I J
set_option maxRecDepth 100000 in
theorem p_L_law_156 {L : Nat} {xs : Nat → Int32} {d : Nat} {Q : xO → Prop} (x3 : Int32) (I : xI) (J : xJ) {t : Int32 × xI × xJ} (h : f_L_law_156 L xs x3 I J = some t) (hC : (c_L_law Q) t) : Rn L xs (d + 32) 309 1380 [some (.ref 1009), some (.ref 0), some (.ref 61), some (.int x3)] [] 94 (I, J, xrf) Q := by
  unfold f_L_law_156 at h
  cases h
  exact Rn.ret 2 (o := ((some (.int 1)), 94, (I, J, xrf))) (fun f => rfl) hC
set_option maxRecDepth 100000 in
theorem p_L_law_155 {L : Nat} {xs : Nat → Int32} {d : Nat} {Q : xO → Prop} (x3 : Int32) (I : xI) (J : xJ) {t : (Int32 × xI × xJ) ⊕ (Int32 × xI × xJ)} (h : f_L_law_155 L xs x3 I J = some t) (hC : (c_L_law_0 L xs d Q) t) : Rn L xs (d + 32) 309 1374 [some (.ref 1009), some (.ref 0), some (.ref 61), some (.int x3)] [] 94 (I, J, xrf) Q := by
  unfold f_L_law_155 at h
  refine Rn.go 2 (j' := 309) (pc' := 18) (ls' := [some (.ref 1009), some (.ref 0), some (.ref 61), some (.int ((x3 + 6)))]) (st' := []) (n' := 94) (M' := (I, J, xrf)) (fun f => rfl) ?_
  cases h; exact hC
set_option maxRecDepth 100000 in
theorem p_L_law_6 {L : Nat} {xs : Nat → Int32} {d : Nat} {Q : xO → Prop} (x3 : Int32) (I : xI) (J : xJ) {t : Int32 × xI × xJ} (h : f_L_law_6 L xs x3 I J = some t) (hC : (c_L_law Q) t) : Rn L xs (d + 32) 309 261 [some (.ref 1009), some (.ref 0), some (.ref 61), some (.int x3)] [] 94 (I, J, xrf) Q := by
  unfold f_L_law_6 at h
  cases h
  exact Rn.ret 2 (o := ((some (.int 0)), 94, (I, J, xrf))) (fun f => rfl) hC
set_option maxRecDepth 100000 in
theorem p_L_law_5 {L : Nat} {xs : Nat → Int32} {d : Nat} {Q : xO → Prop} (x3 : Int32) (s0 : Int32) (s1 : Int32) (I : xI) (J : xJ) {t : (Int32 × xI × xJ) ⊕ (Int32 × xI × xJ)} (h : f_L_law_5 L xs x3 s0 s1 I J = some t) (hC : (c_L_law_0 L xs d Q) t) : Rn L xs (d + 32) 309 258 [some (.ref 1009), some (.ref 0), some (.ref 61), some (.int x3)] [.int s1, .int s0] 94 (I, J, xrf) Q := by
  unfold f_L_law_5 at h
  refine Rn.fi 1 (c := s0 = s1) (p1 := 1374) (l1 := [some (.ref 1009), some (.ref 0), some (.ref 61), some (.int x3)]) (s1 := []) (n1 := 94) (M1 := (I, J, xrf)) (p2 := 261) (l2 := [some (.ref 1009), some (.ref 0), some (.ref 61), some (.int x3)]) (s2 := []) (n2 := 94) (M2 := (I, J, xrf)) (fun f => rfl) (fun hc => ?_) (fun hc => ?_)
  · rw [if_pos hc] at h
    exact p_L_law_155 x3 I J h hC
  · rw [if_neg hc] at h
    obtain ⟨t0, h0, rfl⟩ := Option.map_eq_some_iff.mp h
    exact p_L_law_6 x3 I J h0 hC
set_option maxRecDepth 100000 in
theorem p_L_law_4 {L : Nat} {xs : Nat → Int32} {d : Nat} {Q : xO → Prop} (x3 : Int32) (s0 : Int32) (I : xI) (J : xJ) {t : (Int32 × xI × xJ) ⊕ (Int32 × xI × xJ)} (h : f_L_law_4 L xs x3 s0 I J = some t) (hC : (c_L_law_0 L xs d Q) t) : Rn L xs (d + 32) 309 229 [some (.ref 1009), some (.ref 0), some (.ref 61), some (.int x3)] [.int s0] 94 (I, J, xrf) Q := by
  unfold f_L_law_4 at h
  obtain ⟨hc, h⟩ := xif h
  refine Rn.ok 6 (c := (x3 + 1) < 0 ∨ L ≤ ((x3 + 1)).toNatClampNeg) (p1 := 235) (l1 := [some (.ref 1009), some (.ref 0), some (.ref 61), some (.int x3)]) (s1 := [.int ((xs ((x3 + 1)).toNatClampNeg)), .ref 61, .int s0]) (n1 := 94) (M1 := (I, J, xrf)) (fun f => rfl) hc ?_
  obtain ⟨hc, h⟩ := xif h
  refine Rn.ok 5 (c := (x3 + 2) < 0 ∨ L ≤ ((x3 + 2)).toNatClampNeg) (p1 := 240) (l1 := [some (.ref 1009), some (.ref 0), some (.ref 61), some (.int x3)]) (s1 := [.int ((xs ((x3 + 2)).toNatClampNeg)), .int ((xs ((x3 + 1)).toNatClampNeg)), .ref 61, .int s0]) (n1 := 94) (M1 := (I, J, xrf)) (fun f => rfl) hc ?_
  obtain ⟨hc, h⟩ := xif h
  refine Rn.ok 5 (c := (x3 + 3) < 0 ∨ L ≤ ((x3 + 3)).toNatClampNeg) (p1 := 245) (l1 := [some (.ref 1009), some (.ref 0), some (.ref 61), some (.int x3)]) (s1 := [.int ((xs ((x3 + 3)).toNatClampNeg)), .int ((xs ((x3 + 2)).toNatClampNeg)), .int ((xs ((x3 + 1)).toNatClampNeg)), .ref 61, .int s0]) (n1 := 94) (M1 := (I, J, xrf)) (fun f => rfl) hc ?_
  obtain ⟨hc, h⟩ := xif h
  refine Rn.ok 5 (c := (x3 + 4) < 0 ∨ L ≤ ((x3 + 4)).toNatClampNeg) (p1 := 250) (l1 := [some (.ref 1009), some (.ref 0), some (.ref 61), some (.int x3)]) (s1 := [.int ((xs ((x3 + 4)).toNatClampNeg)), .int ((xs ((x3 + 3)).toNatClampNeg)), .int ((xs ((x3 + 2)).toNatClampNeg)), .int ((xs ((x3 + 1)).toNatClampNeg)), .ref 61, .int s0]) (n1 := 94) (M1 := (I, J, xrf)) (fun f => rfl) hc ?_
  obtain ⟨hc, h⟩ := xif h
  refine Rn.ok 5 (c := (x3 + 5) < 0 ∨ L ≤ ((x3 + 5)).toNatClampNeg) (p1 := 255) (l1 := [some (.ref 1009), some (.ref 0), some (.ref 61), some (.int x3)]) (s1 := [.int ((xs ((x3 + 5)).toNatClampNeg)), .int ((xs ((x3 + 4)).toNatClampNeg)), .int ((xs ((x3 + 3)).toNatClampNeg)), .int ((xs ((x3 + 2)).toNatClampNeg)), .int ((xs ((x3 + 1)).toNatClampNeg)), .ref 61, .int s0]) (n1 := 94) (M1 := (I, J, xrf)) (fun f => rfl) hc ?_
  obtain ⟨o, ho, h⟩ := Option.bind_eq_some_iff.mp h
  refine Rn.call (d1 := d + 31) (j1 := 183) (ls1 := [some (.ref 61), some (.int ((xs ((x3 + 1)).toNatClampNeg))), some (.int ((xs ((x3 + 2)).toNatClampNeg))), some (.int ((xs ((x3 + 3)).toNatClampNeg))), some (.int ((xs ((x3 + 4)).toNatClampNeg))), some (.int ((xs ((x3 + 5)).toNatClampNeg)))]) (rest := [.int s0]) (fun f => rfl) ?_
  refine p_X12_feed (d := d + 29) ((xs ((x3 + 1)).toNatClampNeg)) ((xs ((x3 + 2)).toNatClampNeg)) ((xs ((x3 + 3)).toNatClampNeg)) ((xs ((x3 + 4)).toNatClampNeg)) ((xs ((x3 + 5)).toNatClampNeg)) I J (t := o) ho ?_
  exact p_L_law_5 x3 s0 o.1 o.2.1 o.2.2 h hC
set_option maxRecDepth 100000 in
theorem p_L_law_3 {L : Nat} {xs : Nat → Int32} {d : Nat} {Q : xO → Prop} (x3 : Int32) (I : xI) (J : xJ) {t : (Int32 × xI × xJ) ⊕ (Int32 × xI × xJ)} (h : f_L_law_3 L xs x3 I J = some t) (hC : (c_L_law_0 L xs d Q) t) : Rn L xs (d + 32) 309 200 [some (.ref 1009), some (.ref 0), some (.ref 61), some (.int x3)] [] 94 (I, J, xrf) Q := by
  unfold f_L_law_3 at h
  obtain ⟨hc, h⟩ := xif h
  refine Rn.ok 6 (c := (x3 + 1) < 0 ∨ L ≤ ((x3 + 1)).toNatClampNeg) (p1 := 206) (l1 := [some (.ref 1009), some (.ref 0), some (.ref 61), some (.int x3)]) (s1 := [.int ((xs ((x3 + 1)).toNatClampNeg)), .ref 0]) (n1 := 94) (M1 := (I, J, xrf)) (fun f => rfl) hc ?_
  obtain ⟨hc, h⟩ := xif h
  refine Rn.ok 5 (c := (x3 + 2) < 0 ∨ L ≤ ((x3 + 2)).toNatClampNeg) (p1 := 211) (l1 := [some (.ref 1009), some (.ref 0), some (.ref 61), some (.int x3)]) (s1 := [.int ((xs ((x3 + 2)).toNatClampNeg)), .int ((xs ((x3 + 1)).toNatClampNeg)), .ref 0]) (n1 := 94) (M1 := (I, J, xrf)) (fun f => rfl) hc ?_
  obtain ⟨hc, h⟩ := xif h
  refine Rn.ok 5 (c := (x3 + 3) < 0 ∨ L ≤ ((x3 + 3)).toNatClampNeg) (p1 := 216) (l1 := [some (.ref 1009), some (.ref 0), some (.ref 61), some (.int x3)]) (s1 := [.int ((xs ((x3 + 3)).toNatClampNeg)), .int ((xs ((x3 + 2)).toNatClampNeg)), .int ((xs ((x3 + 1)).toNatClampNeg)), .ref 0]) (n1 := 94) (M1 := (I, J, xrf)) (fun f => rfl) hc ?_
  obtain ⟨hc, h⟩ := xif h
  refine Rn.ok 5 (c := (x3 + 4) < 0 ∨ L ≤ ((x3 + 4)).toNatClampNeg) (p1 := 221) (l1 := [some (.ref 1009), some (.ref 0), some (.ref 61), some (.int x3)]) (s1 := [.int ((xs ((x3 + 4)).toNatClampNeg)), .int ((xs ((x3 + 3)).toNatClampNeg)), .int ((xs ((x3 + 2)).toNatClampNeg)), .int ((xs ((x3 + 1)).toNatClampNeg)), .ref 0]) (n1 := 94) (M1 := (I, J, xrf)) (fun f => rfl) hc ?_
  obtain ⟨hc, h⟩ := xif h
  refine Rn.ok 5 (c := (x3 + 5) < 0 ∨ L ≤ ((x3 + 5)).toNatClampNeg) (p1 := 226) (l1 := [some (.ref 1009), some (.ref 0), some (.ref 61), some (.int x3)]) (s1 := [.int ((xs ((x3 + 5)).toNatClampNeg)), .int ((xs ((x3 + 4)).toNatClampNeg)), .int ((xs ((x3 + 3)).toNatClampNeg)), .int ((xs ((x3 + 2)).toNatClampNeg)), .int ((xs ((x3 + 1)).toNatClampNeg)), .ref 0]) (n1 := 94) (M1 := (I, J, xrf)) (fun f => rfl) hc ?_
  obtain ⟨o, ho, h⟩ := Option.bind_eq_some_iff.mp h
  refine Rn.call (d1 := d + 31) (j1 := 138) (ls1 := [some (.ref 0), some (.int ((xs ((x3 + 1)).toNatClampNeg))), some (.int ((xs ((x3 + 2)).toNatClampNeg))), some (.int ((xs ((x3 + 3)).toNatClampNeg))), some (.int ((xs ((x3 + 4)).toNatClampNeg))), some (.int ((xs ((x3 + 5)).toNatClampNeg)))]) (rest := []) (fun f => rfl) ?_
  refine p_X11_feed (d := d + 29) ((xs ((x3 + 1)).toNatClampNeg)) ((xs ((x3 + 2)).toNatClampNeg)) ((xs ((x3 + 3)).toNatClampNeg)) ((xs ((x3 + 4)).toNatClampNeg)) ((xs ((x3 + 5)).toNatClampNeg)) I J (t := o) ho ?_
  exact p_L_law_4 x3 o.1 o.2.1 o.2.2 h hC
set_option maxRecDepth 100000 in
theorem p_L_law_10 {L : Nat} {xs : Nat → Int32} {d : Nat} {Q : xO → Prop} (x3 : Int32) (I : xI) (J : xJ) {t : Int32 × xI × xJ} (h : f_L_law_10 L xs x3 I J = some t) (hC : (c_L_law Q) t) : Rn L xs (d + 32) 309 284 [some (.ref 1009), some (.ref 0), some (.ref 61), some (.int x3)] [] 94 (I, J, xrf) Q := by
  unfold f_L_law_10 at h
  cases h
  exact Rn.ret 2 (o := ((some (.int 0)), 94, (I, J, xrf))) (fun f => rfl) hC
set_option maxRecDepth 100000 in
theorem p_L_law_9 {L : Nat} {xs : Nat → Int32} {d : Nat} {Q : xO → Prop} (x3 : Int32) (s0 : Int32) (s1 : Int32) (I : xI) (J : xJ) {t : (Int32 × xI × xJ) ⊕ (Int32 × xI × xJ)} (h : f_L_law_9 L xs x3 s0 s1 I J = some t) (hC : (c_L_law_0 L xs d Q) t) : Rn L xs (d + 32) 309 281 [some (.ref 1009), some (.ref 0), some (.ref 61), some (.int x3)] [.int s1, .int s0] 94 (I, J, xrf) Q := by
  unfold f_L_law_9 at h
  refine Rn.fi 1 (c := s0 = s1) (p1 := 1374) (l1 := [some (.ref 1009), some (.ref 0), some (.ref 61), some (.int x3)]) (s1 := []) (n1 := 94) (M1 := (I, J, xrf)) (p2 := 284) (l2 := [some (.ref 1009), some (.ref 0), some (.ref 61), some (.int x3)]) (s2 := []) (n2 := 94) (M2 := (I, J, xrf)) (fun f => rfl) (fun hc => ?_) (fun hc => ?_)
  · rw [if_pos hc] at h
    exact p_L_law_155 x3 I J h hC
  · rw [if_neg hc] at h
    obtain ⟨t0, h0, rfl⟩ := Option.map_eq_some_iff.mp h
    exact p_L_law_10 x3 I J h0 hC
set_option maxRecDepth 100000 in
theorem p_L_law_8 {L : Nat} {xs : Nat → Int32} {d : Nat} {Q : xO → Prop} (x3 : Int32) (s0 : Int32) (I : xI) (J : xJ) {t : (Int32 × xI × xJ) ⊕ (Int32 × xI × xJ)} (h : f_L_law_8 L xs x3 s0 I J = some t) (hC : (c_L_law_0 L xs d Q) t) : Rn L xs (d + 32) 309 272 [some (.ref 1009), some (.ref 0), some (.ref 61), some (.int x3)] [.int s0] 94 (I, J, xrf) Q := by
  unfold f_L_law_8 at h
  obtain ⟨hc, h⟩ := xif h
  refine Rn.ok 6 (c := (x3 + 1) < 0 ∨ L ≤ ((x3 + 1)).toNatClampNeg) (p1 := 278) (l1 := [some (.ref 1009), some (.ref 0), some (.ref 61), some (.int x3)]) (s1 := [.int ((xs ((x3 + 1)).toNatClampNeg)), .ref 61, .int s0]) (n1 := 94) (M1 := (I, J, xrf)) (fun f => rfl) hc ?_
  obtain ⟨o, ho, h⟩ := Option.bind_eq_some_iff.mp h
  refine Rn.call (d1 := d + 31) (j1 := 185) (ls1 := [some (.ref 61), some (.int ((xs ((x3 + 1)).toNatClampNeg)))]) (rest := [.int s0]) (fun f => rfl) ?_
  refine p_X12_back (d := d + 30) ((xs ((x3 + 1)).toNatClampNeg)) I J (t := o) ho ?_
  exact p_L_law_9 x3 s0 o.1 o.2.1 o.2.2 h hC
set_option maxRecDepth 100000 in
theorem p_L_law_7 {L : Nat} {xs : Nat → Int32} {d : Nat} {Q : xO → Prop} (x3 : Int32) (I : xI) (J : xJ) {t : (Int32 × xI × xJ) ⊕ (Int32 × xI × xJ)} (h : f_L_law_7 L xs x3 I J = some t) (hC : (c_L_law_0 L xs d Q) t) : Rn L xs (d + 32) 309 263 [some (.ref 1009), some (.ref 0), some (.ref 61), some (.int x3)] [] 94 (I, J, xrf) Q := by
  unfold f_L_law_7 at h
  obtain ⟨hc, h⟩ := xif h
  refine Rn.ok 6 (c := (x3 + 1) < 0 ∨ L ≤ ((x3 + 1)).toNatClampNeg) (p1 := 269) (l1 := [some (.ref 1009), some (.ref 0), some (.ref 61), some (.int x3)]) (s1 := [.int ((xs ((x3 + 1)).toNatClampNeg)), .ref 0]) (n1 := 94) (M1 := (I, J, xrf)) (fun f => rfl) hc ?_
  obtain ⟨o, ho, h⟩ := Option.bind_eq_some_iff.mp h
  refine Rn.call (d1 := d + 31) (j1 := 139) (ls1 := [some (.ref 0), some (.int ((xs ((x3 + 1)).toNatClampNeg)))]) (rest := []) (fun f => rfl) ?_
  refine p_X11_back (d := d + 30) ((xs ((x3 + 1)).toNatClampNeg)) I J (t := o) ho ?_
  exact p_L_law_8 x3 o.1 o.2.1 o.2.2 h hC
set_option maxRecDepth 100000 in
theorem p_L_law_14 {L : Nat} {xs : Nat → Int32} {d : Nat} {Q : xO → Prop} (x3 : Int32) (I : xI) (J : xJ) {t : Int32 × xI × xJ} (h : f_L_law_14 L xs x3 I J = some t) (hC : (c_L_law Q) t) : Rn L xs (d + 32) 309 297 [some (.ref 1009), some (.ref 0), some (.ref 61), some (.int x3)] [] 94 (I, J, xrf) Q := by
  unfold f_L_law_14 at h
  cases h
  exact Rn.ret 2 (o := ((some (.int 0)), 94, (I, J, xrf))) (fun f => rfl) hC
set_option maxRecDepth 100000 in
theorem p_L_law_13 {L : Nat} {xs : Nat → Int32} {d : Nat} {Q : xO → Prop} (x3 : Int32) (s0 : Int32) (s1 : Int32) (I : xI) (J : xJ) {t : (Int32 × xI × xJ) ⊕ (Int32 × xI × xJ)} (h : f_L_law_13 L xs x3 s0 s1 I J = some t) (hC : (c_L_law_0 L xs d Q) t) : Rn L xs (d + 32) 309 294 [some (.ref 1009), some (.ref 0), some (.ref 61), some (.int x3)] [.int s1, .int s0] 94 (I, J, xrf) Q := by
  unfold f_L_law_13 at h
  refine Rn.fi 1 (c := s0 = s1) (p1 := 1374) (l1 := [some (.ref 1009), some (.ref 0), some (.ref 61), some (.int x3)]) (s1 := []) (n1 := 94) (M1 := (I, J, xrf)) (p2 := 297) (l2 := [some (.ref 1009), some (.ref 0), some (.ref 61), some (.int x3)]) (s2 := []) (n2 := 94) (M2 := (I, J, xrf)) (fun f => rfl) (fun hc => ?_) (fun hc => ?_)
  · rw [if_pos hc] at h
    exact p_L_law_155 x3 I J h hC
  · rw [if_neg hc] at h
    obtain ⟨t0, h0, rfl⟩ := Option.map_eq_some_iff.mp h
    exact p_L_law_14 x3 I J h0 hC
set_option maxRecDepth 100000 in
theorem p_L_law_12 {L : Nat} {xs : Nat → Int32} {d : Nat} {Q : xO → Prop} (x3 : Int32) (s0 : Int32) (I : xI) (J : xJ) {t : (Int32 × xI × xJ) ⊕ (Int32 × xI × xJ)} (h : f_L_law_12 L xs x3 s0 I J = some t) (hC : (c_L_law_0 L xs d Q) t) : Rn L xs (d + 32) 309 290 [some (.ref 1009), some (.ref 0), some (.ref 61), some (.int x3)] [.int s0] 94 (I, J, xrf) Q := by
  unfold f_L_law_12 at h
  refine Rn.go 1 (j' := 309) (pc' := 291) (ls' := [some (.ref 1009), some (.ref 0), some (.ref 61), some (.int x3)]) (st' := [.ref 61, .int s0]) (n' := 94) (M' := (I, J, xrf)) (fun f => rfl) ?_
  obtain ⟨o, ho, h⟩ := Option.bind_eq_some_iff.mp h
  refine Rn.call (d1 := d + 31) (j1 := 199) (ls1 := [some (.ref 61), none]) (rest := [.int s0]) (fun f => rfl) ?_
  refine p_X12_read (d := d + 26) I J (t := o) ho ?_
  exact p_L_law_13 x3 s0 o.1 o.2.1 o.2.2 h hC
set_option maxRecDepth 100000 in
theorem p_L_law_11 {L : Nat} {xs : Nat → Int32} {d : Nat} {Q : xO → Prop} (x3 : Int32) (I : xI) (J : xJ) {t : (Int32 × xI × xJ) ⊕ (Int32 × xI × xJ)} (h : f_L_law_11 L xs x3 I J = some t) (hC : (c_L_law_0 L xs d Q) t) : Rn L xs (d + 32) 309 286 [some (.ref 1009), some (.ref 0), some (.ref 61), some (.int x3)] [] 94 (I, J, xrf) Q := by
  unfold f_L_law_11 at h
  refine Rn.go 1 (j' := 309) (pc' := 287) (ls' := [some (.ref 1009), some (.ref 0), some (.ref 61), some (.int x3)]) (st' := [.ref 0]) (n' := 94) (M' := (I, J, xrf)) (fun f => rfl) ?_
  obtain ⟨o, ho, h⟩ := Option.bind_eq_some_iff.mp h
  refine Rn.call (d1 := d + 31) (j1 := 140) (ls1 := [some (.ref 0), none]) (rest := []) (fun f => rfl) ?_
  refine p_X11_read (d := d + 23) I J (t := o) ho ?_
  exact p_L_law_12 x3 o.1 o.2.1 o.2.2 h hC
set_option maxRecDepth 100000 in
theorem p_L_law_18 {L : Nat} {xs : Nat → Int32} {d : Nat} {Q : xO → Prop} (x3 : Int32) (I : xI) (J : xJ) {t : Int32 × xI × xJ} (h : f_L_law_18 L xs x3 I J = some t) (hC : (c_L_law Q) t) : Rn L xs (d + 32) 309 310 [some (.ref 1009), some (.ref 0), some (.ref 61), some (.int x3)] [] 94 (I, J, xrf) Q := by
  unfold f_L_law_18 at h
  cases h
  exact Rn.ret 2 (o := ((some (.int 0)), 94, (I, J, xrf))) (fun f => rfl) hC
set_option maxRecDepth 100000 in
theorem p_L_law_17 {L : Nat} {xs : Nat → Int32} {d : Nat} {Q : xO → Prop} (x3 : Int32) (s0 : Int32) (s1 : Int32) (I : xI) (J : xJ) {t : (Int32 × xI × xJ) ⊕ (Int32 × xI × xJ)} (h : f_L_law_17 L xs x3 s0 s1 I J = some t) (hC : (c_L_law_0 L xs d Q) t) : Rn L xs (d + 32) 309 307 [some (.ref 1009), some (.ref 0), some (.ref 61), some (.int x3)] [.int s1, .int s0] 94 (I, J, xrf) Q := by
  unfold f_L_law_17 at h
  refine Rn.fi 1 (c := s0 = s1) (p1 := 1374) (l1 := [some (.ref 1009), some (.ref 0), some (.ref 61), some (.int x3)]) (s1 := []) (n1 := 94) (M1 := (I, J, xrf)) (p2 := 310) (l2 := [some (.ref 1009), some (.ref 0), some (.ref 61), some (.int x3)]) (s2 := []) (n2 := 94) (M2 := (I, J, xrf)) (fun f => rfl) (fun hc => ?_) (fun hc => ?_)
  · rw [if_pos hc] at h
    exact p_L_law_155 x3 I J h hC
  · rw [if_neg hc] at h
    obtain ⟨t0, h0, rfl⟩ := Option.map_eq_some_iff.mp h
    exact p_L_law_18 x3 I J h0 hC
set_option maxRecDepth 100000 in
theorem p_L_law_16 {L : Nat} {xs : Nat → Int32} {d : Nat} {Q : xO → Prop} (x3 : Int32) (s0 : Int32) (I : xI) (J : xJ) {t : (Int32 × xI × xJ) ⊕ (Int32 × xI × xJ)} (h : f_L_law_16 L xs x3 s0 I J = some t) (hC : (c_L_law_0 L xs d Q) t) : Rn L xs (d + 32) 309 303 [some (.ref 1009), some (.ref 0), some (.ref 61), some (.int x3)] [.int s0] 94 (I, J, xrf) Q := by
  unfold f_L_law_16 at h
  refine Rn.go 1 (j' := 309) (pc' := 304) (ls' := [some (.ref 1009), some (.ref 0), some (.ref 61), some (.int x3)]) (st' := [.ref 61, .int s0]) (n' := 94) (M' := (I, J, xrf)) (fun f => rfl) ?_
  obtain ⟨o, ho, h⟩ := Option.bind_eq_some_iff.mp h
  refine Rn.call (d1 := d + 31) (j1 := 200) (ls1 := [some (.ref 61)]) (rest := [.int s0]) (fun f => rfl) ?_
  refine p_X12_place (d := d + 30) I J (t := o) ho ?_
  exact p_L_law_17 x3 s0 o.1 o.2.1 o.2.2 h hC
set_option maxRecDepth 100000 in
theorem p_L_law_15 {L : Nat} {xs : Nat → Int32} {d : Nat} {Q : xO → Prop} (x3 : Int32) (I : xI) (J : xJ) {t : (Int32 × xI × xJ) ⊕ (Int32 × xI × xJ)} (h : f_L_law_15 L xs x3 I J = some t) (hC : (c_L_law_0 L xs d Q) t) : Rn L xs (d + 32) 309 299 [some (.ref 1009), some (.ref 0), some (.ref 61), some (.int x3)] [] 94 (I, J, xrf) Q := by
  unfold f_L_law_15 at h
  refine Rn.go 1 (j' := 309) (pc' := 300) (ls' := [some (.ref 1009), some (.ref 0), some (.ref 61), some (.int x3)]) (st' := [.ref 0]) (n' := 94) (M' := (I, J, xrf)) (fun f => rfl) ?_
  obtain ⟨o, ho, h⟩ := Option.bind_eq_some_iff.mp h
  refine Rn.call (d1 := d + 31) (j1 := 141) (ls1 := [some (.ref 0)]) (rest := []) (fun f => rfl) ?_
  refine p_X11_place (d := d + 30) I J (t := o) ho ?_
  exact p_L_law_16 x3 o.1 o.2.1 o.2.2 h hC
set_option maxRecDepth 100000 in
theorem p_L_law_22 {L : Nat} {xs : Nat → Int32} {d : Nat} {Q : xO → Prop} (x3 : Int32) (I : xI) (J : xJ) {t : Int32 × xI × xJ} (h : f_L_law_22 L xs x3 I J = some t) (hC : (c_L_law Q) t) : Rn L xs (d + 32) 309 363 [some (.ref 1009), some (.ref 0), some (.ref 61), some (.int x3)] [] 94 (I, J, xrf) Q := by
  unfold f_L_law_22 at h
  cases h
  exact Rn.ret 2 (o := ((some (.int 0)), 94, (I, J, xrf))) (fun f => rfl) hC
set_option maxRecDepth 100000 in
theorem p_L_law_21 {L : Nat} {xs : Nat → Int32} {d : Nat} {Q : xO → Prop} (x3 : Int32) (s0 : Int32) (s1 : Int32) (I : xI) (J : xJ) {t : (Int32 × xI × xJ) ⊕ (Int32 × xI × xJ)} (h : f_L_law_21 L xs x3 s0 s1 I J = some t) (hC : (c_L_law_0 L xs d Q) t) : Rn L xs (d + 32) 309 360 [some (.ref 1009), some (.ref 0), some (.ref 61), some (.int x3)] [.int s1, .int s0] 94 (I, J, xrf) Q := by
  unfold f_L_law_21 at h
  refine Rn.fi 1 (c := s0 = s1) (p1 := 1374) (l1 := [some (.ref 1009), some (.ref 0), some (.ref 61), some (.int x3)]) (s1 := []) (n1 := 94) (M1 := (I, J, xrf)) (p2 := 363) (l2 := [some (.ref 1009), some (.ref 0), some (.ref 61), some (.int x3)]) (s2 := []) (n2 := 94) (M2 := (I, J, xrf)) (fun f => rfl) (fun hc => ?_) (fun hc => ?_)
  · rw [if_pos hc] at h
    exact p_L_law_155 x3 I J h hC
  · rw [if_neg hc] at h
    obtain ⟨t0, h0, rfl⟩ := Option.map_eq_some_iff.mp h
    exact p_L_law_22 x3 I J h0 hC
set_option maxRecDepth 100000 in
theorem p_L_law_20 {L : Nat} {xs : Nat → Int32} {d : Nat} {Q : xO → Prop} (x3 : Int32) (s0 : Int32) (I : xI) (J : xJ) {t : (Int32 × xI × xJ) ⊕ (Int32 × xI × xJ)} (h : f_L_law_20 L xs x3 s0 I J = some t) (hC : (c_L_law_0 L xs d Q) t) : Rn L xs (d + 32) 309 336 [some (.ref 1009), some (.ref 0), some (.ref 61), some (.int x3)] [.int s0] 94 (I, J, xrf) Q := by
  unfold f_L_law_20 at h
  obtain ⟨hc, h⟩ := xif h
  refine Rn.ok 6 (c := (x3 + 1) < 0 ∨ L ≤ ((x3 + 1)).toNatClampNeg) (p1 := 342) (l1 := [some (.ref 1009), some (.ref 0), some (.ref 61), some (.int x3)]) (s1 := [.int ((xs ((x3 + 1)).toNatClampNeg)), .ref 61, .int s0]) (n1 := 94) (M1 := (I, J, xrf)) (fun f => rfl) hc ?_
  obtain ⟨hc, h⟩ := xif h
  refine Rn.ok 5 (c := (x3 + 2) < 0 ∨ L ≤ ((x3 + 2)).toNatClampNeg) (p1 := 347) (l1 := [some (.ref 1009), some (.ref 0), some (.ref 61), some (.int x3)]) (s1 := [.int ((xs ((x3 + 2)).toNatClampNeg)), .int ((xs ((x3 + 1)).toNatClampNeg)), .ref 61, .int s0]) (n1 := 94) (M1 := (I, J, xrf)) (fun f => rfl) hc ?_
  obtain ⟨hc, h⟩ := xif h
  refine Rn.ok 5 (c := (x3 + 3) < 0 ∨ L ≤ ((x3 + 3)).toNatClampNeg) (p1 := 352) (l1 := [some (.ref 1009), some (.ref 0), some (.ref 61), some (.int x3)]) (s1 := [.int ((xs ((x3 + 3)).toNatClampNeg)), .int ((xs ((x3 + 2)).toNatClampNeg)), .int ((xs ((x3 + 1)).toNatClampNeg)), .ref 61, .int s0]) (n1 := 94) (M1 := (I, J, xrf)) (fun f => rfl) hc ?_
  obtain ⟨hc, h⟩ := xif h
  refine Rn.ok 5 (c := (x3 + 4) < 0 ∨ L ≤ ((x3 + 4)).toNatClampNeg) (p1 := 357) (l1 := [some (.ref 1009), some (.ref 0), some (.ref 61), some (.int x3)]) (s1 := [.int ((xs ((x3 + 4)).toNatClampNeg)), .int ((xs ((x3 + 3)).toNatClampNeg)), .int ((xs ((x3 + 2)).toNatClampNeg)), .int ((xs ((x3 + 1)).toNatClampNeg)), .ref 61, .int s0]) (n1 := 94) (M1 := (I, J, xrf)) (fun f => rfl) hc ?_
  obtain ⟨o, ho, h⟩ := Option.bind_eq_some_iff.mp h
  refine Rn.call (d1 := d + 31) (j1 := 216) (ls1 := [some (.ref 61), some (.int ((xs ((x3 + 1)).toNatClampNeg))), some (.int ((xs ((x3 + 2)).toNatClampNeg))), some (.int ((xs ((x3 + 3)).toNatClampNeg))), some (.int ((xs ((x3 + 4)).toNatClampNeg)))]) (rest := [.int s0]) (fun f => rfl) ?_
  refine p_X12_set (d := d + 27) ((xs ((x3 + 1)).toNatClampNeg)) ((xs ((x3 + 2)).toNatClampNeg)) ((xs ((x3 + 3)).toNatClampNeg)) ((xs ((x3 + 4)).toNatClampNeg)) I J (t := o) ho ?_
  exact p_L_law_21 x3 s0 o.1 o.2.1 o.2.2 h hC
set_option maxRecDepth 100000 in
theorem p_L_law_19 {L : Nat} {xs : Nat → Int32} {d : Nat} {Q : xO → Prop} (x3 : Int32) (I : xI) (J : xJ) {t : (Int32 × xI × xJ) ⊕ (Int32 × xI × xJ)} (h : f_L_law_19 L xs x3 I J = some t) (hC : (c_L_law_0 L xs d Q) t) : Rn L xs (d + 32) 309 312 [some (.ref 1009), some (.ref 0), some (.ref 61), some (.int x3)] [] 94 (I, J, xrf) Q := by
  unfold f_L_law_19 at h
  obtain ⟨hc, h⟩ := xif h
  refine Rn.ok 6 (c := (x3 + 1) < 0 ∨ L ≤ ((x3 + 1)).toNatClampNeg) (p1 := 318) (l1 := [some (.ref 1009), some (.ref 0), some (.ref 61), some (.int x3)]) (s1 := [.int ((xs ((x3 + 1)).toNatClampNeg)), .ref 0]) (n1 := 94) (M1 := (I, J, xrf)) (fun f => rfl) hc ?_
  obtain ⟨hc, h⟩ := xif h
  refine Rn.ok 5 (c := (x3 + 2) < 0 ∨ L ≤ ((x3 + 2)).toNatClampNeg) (p1 := 323) (l1 := [some (.ref 1009), some (.ref 0), some (.ref 61), some (.int x3)]) (s1 := [.int ((xs ((x3 + 2)).toNatClampNeg)), .int ((xs ((x3 + 1)).toNatClampNeg)), .ref 0]) (n1 := 94) (M1 := (I, J, xrf)) (fun f => rfl) hc ?_
  obtain ⟨hc, h⟩ := xif h
  refine Rn.ok 5 (c := (x3 + 3) < 0 ∨ L ≤ ((x3 + 3)).toNatClampNeg) (p1 := 328) (l1 := [some (.ref 1009), some (.ref 0), some (.ref 61), some (.int x3)]) (s1 := [.int ((xs ((x3 + 3)).toNatClampNeg)), .int ((xs ((x3 + 2)).toNatClampNeg)), .int ((xs ((x3 + 1)).toNatClampNeg)), .ref 0]) (n1 := 94) (M1 := (I, J, xrf)) (fun f => rfl) hc ?_
  obtain ⟨hc, h⟩ := xif h
  refine Rn.ok 5 (c := (x3 + 4) < 0 ∨ L ≤ ((x3 + 4)).toNatClampNeg) (p1 := 333) (l1 := [some (.ref 1009), some (.ref 0), some (.ref 61), some (.int x3)]) (s1 := [.int ((xs ((x3 + 4)).toNatClampNeg)), .int ((xs ((x3 + 3)).toNatClampNeg)), .int ((xs ((x3 + 2)).toNatClampNeg)), .int ((xs ((x3 + 1)).toNatClampNeg)), .ref 0]) (n1 := 94) (M1 := (I, J, xrf)) (fun f => rfl) hc ?_
  obtain ⟨o, ho, h⟩ := Option.bind_eq_some_iff.mp h
  refine Rn.call (d1 := d + 31) (j1 := 142) (ls1 := [some (.ref 0), some (.int ((xs ((x3 + 1)).toNatClampNeg))), some (.int ((xs ((x3 + 2)).toNatClampNeg))), some (.int ((xs ((x3 + 3)).toNatClampNeg))), some (.int ((xs ((x3 + 4)).toNatClampNeg))), none]) (rest := []) (fun f => rfl) ?_
  refine p_X11_set (d := d + 28) ((xs ((x3 + 1)).toNatClampNeg)) ((xs ((x3 + 2)).toNatClampNeg)) ((xs ((x3 + 3)).toNatClampNeg)) ((xs ((x3 + 4)).toNatClampNeg)) I J (t := o) ho ?_
  exact p_L_law_20 x3 o.1 o.2.1 o.2.2 h hC
set_option maxRecDepth 100000 in
theorem p_L_law_26 {L : Nat} {xs : Nat → Int32} {d : Nat} {Q : xO → Prop} (x3 : Int32) (I : xI) (J : xJ) {t : Int32 × xI × xJ} (h : f_L_law_26 L xs x3 I J = some t) (hC : (c_L_law Q) t) : Rn L xs (d + 32) 309 396 [some (.ref 1009), some (.ref 0), some (.ref 61), some (.int x3)] [] 94 (I, J, xrf) Q := by
  unfold f_L_law_26 at h
  cases h
  exact Rn.ret 2 (o := ((some (.int 0)), 94, (I, J, xrf))) (fun f => rfl) hC
set_option maxRecDepth 100000 in
theorem p_L_law_25 {L : Nat} {xs : Nat → Int32} {d : Nat} {Q : xO → Prop} (x3 : Int32) (s0 : Int32) (s1 : Int32) (I : xI) (J : xJ) {t : (Int32 × xI × xJ) ⊕ (Int32 × xI × xJ)} (h : f_L_law_25 L xs x3 s0 s1 I J = some t) (hC : (c_L_law_0 L xs d Q) t) : Rn L xs (d + 32) 309 393 [some (.ref 1009), some (.ref 0), some (.ref 61), some (.int x3)] [.int s1, .int s0] 94 (I, J, xrf) Q := by
  unfold f_L_law_25 at h
  refine Rn.fi 1 (c := s0 = s1) (p1 := 1374) (l1 := [some (.ref 1009), some (.ref 0), some (.ref 61), some (.int x3)]) (s1 := []) (n1 := 94) (M1 := (I, J, xrf)) (p2 := 396) (l2 := [some (.ref 1009), some (.ref 0), some (.ref 61), some (.int x3)]) (s2 := []) (n2 := 94) (M2 := (I, J, xrf)) (fun f => rfl) (fun hc => ?_) (fun hc => ?_)
  · rw [if_pos hc] at h
    exact p_L_law_155 x3 I J h hC
  · rw [if_neg hc] at h
    obtain ⟨t0, h0, rfl⟩ := Option.map_eq_some_iff.mp h
    exact p_L_law_26 x3 I J h0 hC
set_option maxRecDepth 100000 in
theorem p_L_law_24 {L : Nat} {xs : Nat → Int32} {d : Nat} {Q : xO → Prop} (x3 : Int32) (s0 : Int32) (I : xI) (J : xJ) {t : (Int32 × xI × xJ) ⊕ (Int32 × xI × xJ)} (h : f_L_law_24 L xs x3 s0 I J = some t) (hC : (c_L_law_0 L xs d Q) t) : Rn L xs (d + 32) 309 379 [some (.ref 1009), some (.ref 0), some (.ref 61), some (.int x3)] [.int s0] 94 (I, J, xrf) Q := by
  unfold f_L_law_24 at h
  obtain ⟨hc, h⟩ := xif h
  refine Rn.ok 6 (c := (x3 + 1) < 0 ∨ L ≤ ((x3 + 1)).toNatClampNeg) (p1 := 385) (l1 := [some (.ref 1009), some (.ref 0), some (.ref 61), some (.int x3)]) (s1 := [.int ((xs ((x3 + 1)).toNatClampNeg)), .ref 61, .int s0]) (n1 := 94) (M1 := (I, J, xrf)) (fun f => rfl) hc ?_
  obtain ⟨hc, h⟩ := xif h
  refine Rn.ok 5 (c := (x3 + 2) < 0 ∨ L ≤ ((x3 + 2)).toNatClampNeg) (p1 := 390) (l1 := [some (.ref 1009), some (.ref 0), some (.ref 61), some (.int x3)]) (s1 := [.int ((xs ((x3 + 2)).toNatClampNeg)), .int ((xs ((x3 + 1)).toNatClampNeg)), .ref 61, .int s0]) (n1 := 94) (M1 := (I, J, xrf)) (fun f => rfl) hc ?_
  obtain ⟨o, ho, h⟩ := Option.bind_eq_some_iff.mp h
  refine Rn.call (d1 := d + 31) (j1 := 217) (ls1 := [some (.ref 61), some (.int ((xs ((x3 + 1)).toNatClampNeg))), some (.int ((xs ((x3 + 2)).toNatClampNeg)))]) (rest := [.int s0]) (fun f => rfl) ?_
  refine p_X12_code (d := d + 28) ((xs ((x3 + 1)).toNatClampNeg)) ((xs ((x3 + 2)).toNatClampNeg)) I J (t := o) ho ?_
  exact p_L_law_25 x3 s0 o.1 o.2.1 o.2.2 h hC
set_option maxRecDepth 100000 in
theorem p_L_law_23 {L : Nat} {xs : Nat → Int32} {d : Nat} {Q : xO → Prop} (x3 : Int32) (I : xI) (J : xJ) {t : (Int32 × xI × xJ) ⊕ (Int32 × xI × xJ)} (h : f_L_law_23 L xs x3 I J = some t) (hC : (c_L_law_0 L xs d Q) t) : Rn L xs (d + 32) 309 365 [some (.ref 1009), some (.ref 0), some (.ref 61), some (.int x3)] [] 94 (I, J, xrf) Q := by
  unfold f_L_law_23 at h
  obtain ⟨hc, h⟩ := xif h
  refine Rn.ok 6 (c := (x3 + 1) < 0 ∨ L ≤ ((x3 + 1)).toNatClampNeg) (p1 := 371) (l1 := [some (.ref 1009), some (.ref 0), some (.ref 61), some (.int x3)]) (s1 := [.int ((xs ((x3 + 1)).toNatClampNeg)), .ref 0]) (n1 := 94) (M1 := (I, J, xrf)) (fun f => rfl) hc ?_
  obtain ⟨hc, h⟩ := xif h
  refine Rn.ok 5 (c := (x3 + 2) < 0 ∨ L ≤ ((x3 + 2)).toNatClampNeg) (p1 := 376) (l1 := [some (.ref 1009), some (.ref 0), some (.ref 61), some (.int x3)]) (s1 := [.int ((xs ((x3 + 2)).toNatClampNeg)), .int ((xs ((x3 + 1)).toNatClampNeg)), .ref 0]) (n1 := 94) (M1 := (I, J, xrf)) (fun f => rfl) hc ?_
  obtain ⟨o, ho, h⟩ := Option.bind_eq_some_iff.mp h
  refine Rn.call (d1 := d + 31) (j1 := 143) (ls1 := [some (.ref 0), some (.int ((xs ((x3 + 1)).toNatClampNeg))), some (.int ((xs ((x3 + 2)).toNatClampNeg)))]) (rest := []) (fun f => rfl) ?_
  refine p_X11_code (d := d + 28) ((xs ((x3 + 1)).toNatClampNeg)) ((xs ((x3 + 2)).toNatClampNeg)) I J (t := o) ho ?_
  exact p_L_law_24 x3 o.1 o.2.1 o.2.2 h hC
set_option maxRecDepth 100000 in
theorem p_L_law_30 {L : Nat} {xs : Nat → Int32} {d : Nat} {Q : xO → Prop} (x3 : Int32) (I : xI) (J : xJ) {t : Int32 × xI × xJ} (h : f_L_law_30 L xs x3 I J = some t) (hC : (c_L_law Q) t) : Rn L xs (d + 32) 309 409 [some (.ref 1009), some (.ref 0), some (.ref 61), some (.int x3)] [] 94 (I, J, xrf) Q := by
  unfold f_L_law_30 at h
  cases h
  exact Rn.ret 2 (o := ((some (.int 0)), 94, (I, J, xrf))) (fun f => rfl) hC
set_option maxRecDepth 100000 in
theorem p_L_law_29 {L : Nat} {xs : Nat → Int32} {d : Nat} {Q : xO → Prop} (x3 : Int32) (s0 : Int32) (s1 : Int32) (I : xI) (J : xJ) {t : (Int32 × xI × xJ) ⊕ (Int32 × xI × xJ)} (h : f_L_law_29 L xs x3 s0 s1 I J = some t) (hC : (c_L_law_0 L xs d Q) t) : Rn L xs (d + 32) 309 406 [some (.ref 1009), some (.ref 0), some (.ref 61), some (.int x3)] [.int s1, .int s0] 94 (I, J, xrf) Q := by
  unfold f_L_law_29 at h
  refine Rn.fi 1 (c := s0 = s1) (p1 := 1374) (l1 := [some (.ref 1009), some (.ref 0), some (.ref 61), some (.int x3)]) (s1 := []) (n1 := 94) (M1 := (I, J, xrf)) (p2 := 409) (l2 := [some (.ref 1009), some (.ref 0), some (.ref 61), some (.int x3)]) (s2 := []) (n2 := 94) (M2 := (I, J, xrf)) (fun f => rfl) (fun hc => ?_) (fun hc => ?_)
  · rw [if_pos hc] at h
    exact p_L_law_155 x3 I J h hC
  · rw [if_neg hc] at h
    obtain ⟨t0, h0, rfl⟩ := Option.map_eq_some_iff.mp h
    exact p_L_law_30 x3 I J h0 hC
set_option maxRecDepth 100000 in
theorem p_L_law_28 {L : Nat} {xs : Nat → Int32} {d : Nat} {Q : xO → Prop} (x3 : Int32) (s0 : Int32) (I : xI) (J : xJ) {t : (Int32 × xI × xJ) ⊕ (Int32 × xI × xJ)} (h : f_L_law_28 L xs x3 s0 I J = some t) (hC : (c_L_law_0 L xs d Q) t) : Rn L xs (d + 32) 309 402 [some (.ref 1009), some (.ref 0), some (.ref 61), some (.int x3)] [.int s0] 94 (I, J, xrf) Q := by
  unfold f_L_law_28 at h
  refine Rn.go 1 (j' := 309) (pc' := 403) (ls' := [some (.ref 1009), some (.ref 0), some (.ref 61), some (.int x3)]) (st' := [.ref 61, .int s0]) (n' := 94) (M' := (I, J, xrf)) (fun f => rfl) ?_
  obtain ⟨o, ho, h⟩ := Option.bind_eq_some_iff.mp h
  refine Rn.call (d1 := d + 31) (j1 := 218) (ls1 := [some (.ref 61), none, none]) (rest := [.int s0]) (fun f => rfl) ?_
  refine p_X12_undo (d := d + 29) I J (t := o) ho ?_
  exact p_L_law_29 x3 s0 o.1 o.2.1 o.2.2 h hC
set_option maxRecDepth 100000 in
theorem p_L_law_27 {L : Nat} {xs : Nat → Int32} {d : Nat} {Q : xO → Prop} (x3 : Int32) (I : xI) (J : xJ) {t : (Int32 × xI × xJ) ⊕ (Int32 × xI × xJ)} (h : f_L_law_27 L xs x3 I J = some t) (hC : (c_L_law_0 L xs d Q) t) : Rn L xs (d + 32) 309 398 [some (.ref 1009), some (.ref 0), some (.ref 61), some (.int x3)] [] 94 (I, J, xrf) Q := by
  unfold f_L_law_27 at h
  refine Rn.go 1 (j' := 309) (pc' := 399) (ls' := [some (.ref 1009), some (.ref 0), some (.ref 61), some (.int x3)]) (st' := [.ref 0]) (n' := 94) (M' := (I, J, xrf)) (fun f => rfl) ?_
  obtain ⟨o, ho, h⟩ := Option.bind_eq_some_iff.mp h
  refine Rn.call (d1 := d + 31) (j1 := 144) (ls1 := [some (.ref 0)]) (rest := []) (fun f => rfl) ?_
  refine p_X11_undo (d := d + 27) I J (t := o) ho ?_
  exact p_L_law_28 x3 o.1 o.2.1 o.2.2 h hC
set_option maxRecDepth 100000 in
theorem p_L_law_34 {L : Nat} {xs : Nat → Int32} {d : Nat} {Q : xO → Prop} (x3 : Int32) (I : xI) (J : xJ) {t : Int32 × xI × xJ} (h : f_L_law_34 L xs x3 I J = some t) (hC : (c_L_law Q) t) : Rn L xs (d + 32) 309 452 [some (.ref 1009), some (.ref 0), some (.ref 61), some (.int x3)] [] 94 (I, J, xrf) Q := by
  unfold f_L_law_34 at h
  cases h
  exact Rn.ret 2 (o := ((some (.int 0)), 94, (I, J, xrf))) (fun f => rfl) hC
set_option maxRecDepth 100000 in
theorem p_L_law_33 {L : Nat} {xs : Nat → Int32} {d : Nat} {Q : xO → Prop} (x3 : Int32) (s0 : Int32) (s1 : Int32) (I : xI) (J : xJ) {t : (Int32 × xI × xJ) ⊕ (Int32 × xI × xJ)} (h : f_L_law_33 L xs x3 s0 s1 I J = some t) (hC : (c_L_law_0 L xs d Q) t) : Rn L xs (d + 32) 309 449 [some (.ref 1009), some (.ref 0), some (.ref 61), some (.int x3)] [.int s1, .int s0] 94 (I, J, xrf) Q := by
  unfold f_L_law_33 at h
  refine Rn.fi 1 (c := s0 = s1) (p1 := 1374) (l1 := [some (.ref 1009), some (.ref 0), some (.ref 61), some (.int x3)]) (s1 := []) (n1 := 94) (M1 := (I, J, xrf)) (p2 := 452) (l2 := [some (.ref 1009), some (.ref 0), some (.ref 61), some (.int x3)]) (s2 := []) (n2 := 94) (M2 := (I, J, xrf)) (fun f => rfl) (fun hc => ?_) (fun hc => ?_)
  · rw [if_pos hc] at h
    exact p_L_law_155 x3 I J h hC
  · rw [if_neg hc] at h
    obtain ⟨t0, h0, rfl⟩ := Option.map_eq_some_iff.mp h
    exact p_L_law_34 x3 I J h0 hC
set_option maxRecDepth 100000 in
theorem p_L_law_32 {L : Nat} {xs : Nat → Int32} {d : Nat} {Q : xO → Prop} (x3 : Int32) (s0 : Int32) (I : xI) (J : xJ) {t : (Int32 × xI × xJ) ⊕ (Int32 × xI × xJ)} (h : f_L_law_32 L xs x3 s0 I J = some t) (hC : (c_L_law_0 L xs d Q) t) : Rn L xs (d + 32) 309 430 [some (.ref 1009), some (.ref 0), some (.ref 61), some (.int x3)] [.int s0] 94 (I, J, xrf) Q := by
  unfold f_L_law_32 at h
  obtain ⟨hc, h⟩ := xif h
  refine Rn.ok 6 (c := (x3 + 1) < 0 ∨ L ≤ ((x3 + 1)).toNatClampNeg) (p1 := 436) (l1 := [some (.ref 1009), some (.ref 0), some (.ref 61), some (.int x3)]) (s1 := [.int ((xs ((x3 + 1)).toNatClampNeg)), .ref 61, .int s0]) (n1 := 94) (M1 := (I, J, xrf)) (fun f => rfl) hc ?_
  obtain ⟨hc, h⟩ := xif h
  refine Rn.ok 5 (c := (x3 + 2) < 0 ∨ L ≤ ((x3 + 2)).toNatClampNeg) (p1 := 441) (l1 := [some (.ref 1009), some (.ref 0), some (.ref 61), some (.int x3)]) (s1 := [.int ((xs ((x3 + 2)).toNatClampNeg)), .int ((xs ((x3 + 1)).toNatClampNeg)), .ref 61, .int s0]) (n1 := 94) (M1 := (I, J, xrf)) (fun f => rfl) hc ?_
  obtain ⟨hc, h⟩ := xif h
  refine Rn.ok 5 (c := (x3 + 3) < 0 ∨ L ≤ ((x3 + 3)).toNatClampNeg) (p1 := 446) (l1 := [some (.ref 1009), some (.ref 0), some (.ref 61), some (.int x3)]) (s1 := [.int ((xs ((x3 + 3)).toNatClampNeg)), .int ((xs ((x3 + 2)).toNatClampNeg)), .int ((xs ((x3 + 1)).toNatClampNeg)), .ref 61, .int s0]) (n1 := 94) (M1 := (I, J, xrf)) (fun f => rfl) hc ?_
  obtain ⟨o, ho, h⟩ := Option.bind_eq_some_iff.mp h
  refine Rn.call (d1 := d + 31) (j1 := 221) (ls1 := [some (.ref 61), some (.int ((xs ((x3 + 1)).toNatClampNeg))), some (.int ((xs ((x3 + 2)).toNatClampNeg))), some (.int ((xs ((x3 + 3)).toNatClampNeg)))]) (rest := [.int s0]) (fun f => rfl) ?_
  refine p_X12_move (d := d + 27) ((xs ((x3 + 1)).toNatClampNeg)) ((xs ((x3 + 2)).toNatClampNeg)) ((xs ((x3 + 3)).toNatClampNeg)) I J (t := o) ho ?_
  exact p_L_law_33 x3 s0 o.1 o.2.1 o.2.2 h hC
set_option maxRecDepth 100000 in
theorem p_L_law_31 {L : Nat} {xs : Nat → Int32} {d : Nat} {Q : xO → Prop} (x3 : Int32) (I : xI) (J : xJ) {t : (Int32 × xI × xJ) ⊕ (Int32 × xI × xJ)} (h : f_L_law_31 L xs x3 I J = some t) (hC : (c_L_law_0 L xs d Q) t) : Rn L xs (d + 32) 309 411 [some (.ref 1009), some (.ref 0), some (.ref 61), some (.int x3)] [] 94 (I, J, xrf) Q := by
  unfold f_L_law_31 at h
  obtain ⟨hc, h⟩ := xif h
  refine Rn.ok 6 (c := (x3 + 1) < 0 ∨ L ≤ ((x3 + 1)).toNatClampNeg) (p1 := 417) (l1 := [some (.ref 1009), some (.ref 0), some (.ref 61), some (.int x3)]) (s1 := [.int ((xs ((x3 + 1)).toNatClampNeg)), .ref 0]) (n1 := 94) (M1 := (I, J, xrf)) (fun f => rfl) hc ?_
  obtain ⟨hc, h⟩ := xif h
  refine Rn.ok 5 (c := (x3 + 2) < 0 ∨ L ≤ ((x3 + 2)).toNatClampNeg) (p1 := 422) (l1 := [some (.ref 1009), some (.ref 0), some (.ref 61), some (.int x3)]) (s1 := [.int ((xs ((x3 + 2)).toNatClampNeg)), .int ((xs ((x3 + 1)).toNatClampNeg)), .ref 0]) (n1 := 94) (M1 := (I, J, xrf)) (fun f => rfl) hc ?_
  obtain ⟨hc, h⟩ := xif h
  refine Rn.ok 5 (c := (x3 + 3) < 0 ∨ L ≤ ((x3 + 3)).toNatClampNeg) (p1 := 427) (l1 := [some (.ref 1009), some (.ref 0), some (.ref 61), some (.int x3)]) (s1 := [.int ((xs ((x3 + 3)).toNatClampNeg)), .int ((xs ((x3 + 2)).toNatClampNeg)), .int ((xs ((x3 + 1)).toNatClampNeg)), .ref 0]) (n1 := 94) (M1 := (I, J, xrf)) (fun f => rfl) hc ?_
  obtain ⟨o, ho, h⟩ := Option.bind_eq_some_iff.mp h
  refine Rn.call (d1 := d + 31) (j1 := 145) (ls1 := [some (.ref 0), some (.int ((xs ((x3 + 1)).toNatClampNeg))), some (.int ((xs ((x3 + 2)).toNatClampNeg))), some (.int ((xs ((x3 + 3)).toNatClampNeg)))]) (rest := []) (fun f => rfl) ?_
  refine p_X11_move (d := d + 29) ((xs ((x3 + 1)).toNatClampNeg)) ((xs ((x3 + 2)).toNatClampNeg)) ((xs ((x3 + 3)).toNatClampNeg)) I J (t := o) ho ?_
  exact p_L_law_32 x3 o.1 o.2.1 o.2.2 h hC
set_option maxRecDepth 100000 in
theorem p_L_law_38 {L : Nat} {xs : Nat → Int32} {d : Nat} {Q : xO → Prop} (x3 : Int32) (I : xI) (J : xJ) {t : Int32 × xI × xJ} (h : f_L_law_38 L xs x3 I J = some t) (hC : (c_L_law Q) t) : Rn L xs (d + 32) 309 495 [some (.ref 1009), some (.ref 0), some (.ref 61), some (.int x3)] [] 94 (I, J, xrf) Q := by
  unfold f_L_law_38 at h
  cases h
  exact Rn.ret 2 (o := ((some (.int 0)), 94, (I, J, xrf))) (fun f => rfl) hC
set_option maxRecDepth 100000 in
theorem p_L_law_37 {L : Nat} {xs : Nat → Int32} {d : Nat} {Q : xO → Prop} (x3 : Int32) (s0 : Int32) (s1 : Int32) (I : xI) (J : xJ) {t : (Int32 × xI × xJ) ⊕ (Int32 × xI × xJ)} (h : f_L_law_37 L xs x3 s0 s1 I J = some t) (hC : (c_L_law_0 L xs d Q) t) : Rn L xs (d + 32) 309 492 [some (.ref 1009), some (.ref 0), some (.ref 61), some (.int x3)] [.int s1, .int s0] 94 (I, J, xrf) Q := by
  unfold f_L_law_37 at h
  refine Rn.fi 1 (c := s0 = s1) (p1 := 1374) (l1 := [some (.ref 1009), some (.ref 0), some (.ref 61), some (.int x3)]) (s1 := []) (n1 := 94) (M1 := (I, J, xrf)) (p2 := 495) (l2 := [some (.ref 1009), some (.ref 0), some (.ref 61), some (.int x3)]) (s2 := []) (n2 := 94) (M2 := (I, J, xrf)) (fun f => rfl) (fun hc => ?_) (fun hc => ?_)
  · rw [if_pos hc] at h
    exact p_L_law_155 x3 I J h hC
  · rw [if_neg hc] at h
    obtain ⟨t0, h0, rfl⟩ := Option.map_eq_some_iff.mp h
    exact p_L_law_38 x3 I J h0 hC
set_option maxRecDepth 100000 in
theorem p_L_law_36 {L : Nat} {xs : Nat → Int32} {d : Nat} {Q : xO → Prop} (x3 : Int32) (s0 : Int32) (I : xI) (J : xJ) {t : (Int32 × xI × xJ) ⊕ (Int32 × xI × xJ)} (h : f_L_law_36 L xs x3 s0 I J = some t) (hC : (c_L_law_0 L xs d Q) t) : Rn L xs (d + 32) 309 473 [some (.ref 1009), some (.ref 0), some (.ref 61), some (.int x3)] [.int s0] 94 (I, J, xrf) Q := by
  unfold f_L_law_36 at h
  obtain ⟨hc, h⟩ := xif h
  refine Rn.ok 6 (c := (x3 + 1) < 0 ∨ L ≤ ((x3 + 1)).toNatClampNeg) (p1 := 479) (l1 := [some (.ref 1009), some (.ref 0), some (.ref 61), some (.int x3)]) (s1 := [.int ((xs ((x3 + 1)).toNatClampNeg)), .ref 61, .int s0]) (n1 := 94) (M1 := (I, J, xrf)) (fun f => rfl) hc ?_
  obtain ⟨hc, h⟩ := xif h
  refine Rn.ok 5 (c := (x3 + 2) < 0 ∨ L ≤ ((x3 + 2)).toNatClampNeg) (p1 := 484) (l1 := [some (.ref 1009), some (.ref 0), some (.ref 61), some (.int x3)]) (s1 := [.int ((xs ((x3 + 2)).toNatClampNeg)), .int ((xs ((x3 + 1)).toNatClampNeg)), .ref 61, .int s0]) (n1 := 94) (M1 := (I, J, xrf)) (fun f => rfl) hc ?_
  obtain ⟨hc, h⟩ := xif h
  refine Rn.ok 5 (c := (x3 + 3) < 0 ∨ L ≤ ((x3 + 3)).toNatClampNeg) (p1 := 489) (l1 := [some (.ref 1009), some (.ref 0), some (.ref 61), some (.int x3)]) (s1 := [.int ((xs ((x3 + 3)).toNatClampNeg)), .int ((xs ((x3 + 2)).toNatClampNeg)), .int ((xs ((x3 + 1)).toNatClampNeg)), .ref 61, .int s0]) (n1 := 94) (M1 := (I, J, xrf)) (fun f => rfl) hc ?_
  obtain ⟨o, ho, h⟩ := Option.bind_eq_some_iff.mp h
  refine Rn.call (d1 := d + 31) (j1 := 226) (ls1 := [some (.ref 61), some (.int ((xs ((x3 + 1)).toNatClampNeg))), some (.int ((xs ((x3 + 2)).toNatClampNeg))), some (.int ((xs ((x3 + 3)).toNatClampNeg))), none]) (rest := [.int s0]) (fun f => rfl) ?_
  refine p_X12_apart (d := d + 24) ((xs ((x3 + 1)).toNatClampNeg)) ((xs ((x3 + 2)).toNatClampNeg)) ((xs ((x3 + 3)).toNatClampNeg)) I J (t := o) ho ?_
  exact p_L_law_37 x3 s0 o.1 o.2.1 o.2.2 h hC
set_option maxRecDepth 100000 in
theorem p_L_law_35 {L : Nat} {xs : Nat → Int32} {d : Nat} {Q : xO → Prop} (x3 : Int32) (I : xI) (J : xJ) {t : (Int32 × xI × xJ) ⊕ (Int32 × xI × xJ)} (h : f_L_law_35 L xs x3 I J = some t) (hC : (c_L_law_0 L xs d Q) t) : Rn L xs (d + 32) 309 454 [some (.ref 1009), some (.ref 0), some (.ref 61), some (.int x3)] [] 94 (I, J, xrf) Q := by
  unfold f_L_law_35 at h
  obtain ⟨hc, h⟩ := xif h
  refine Rn.ok 6 (c := (x3 + 1) < 0 ∨ L ≤ ((x3 + 1)).toNatClampNeg) (p1 := 460) (l1 := [some (.ref 1009), some (.ref 0), some (.ref 61), some (.int x3)]) (s1 := [.int ((xs ((x3 + 1)).toNatClampNeg)), .ref 0]) (n1 := 94) (M1 := (I, J, xrf)) (fun f => rfl) hc ?_
  obtain ⟨hc, h⟩ := xif h
  refine Rn.ok 5 (c := (x3 + 2) < 0 ∨ L ≤ ((x3 + 2)).toNatClampNeg) (p1 := 465) (l1 := [some (.ref 1009), some (.ref 0), some (.ref 61), some (.int x3)]) (s1 := [.int ((xs ((x3 + 2)).toNatClampNeg)), .int ((xs ((x3 + 1)).toNatClampNeg)), .ref 0]) (n1 := 94) (M1 := (I, J, xrf)) (fun f => rfl) hc ?_
  obtain ⟨hc, h⟩ := xif h
  refine Rn.ok 5 (c := (x3 + 3) < 0 ∨ L ≤ ((x3 + 3)).toNatClampNeg) (p1 := 470) (l1 := [some (.ref 1009), some (.ref 0), some (.ref 61), some (.int x3)]) (s1 := [.int ((xs ((x3 + 3)).toNatClampNeg)), .int ((xs ((x3 + 2)).toNatClampNeg)), .int ((xs ((x3 + 1)).toNatClampNeg)), .ref 0]) (n1 := 94) (M1 := (I, J, xrf)) (fun f => rfl) hc ?_
  obtain ⟨o, ho, h⟩ := Option.bind_eq_some_iff.mp h
  refine Rn.call (d1 := d + 31) (j1 := 146) (ls1 := [some (.ref 0), some (.int ((xs ((x3 + 1)).toNatClampNeg))), some (.int ((xs ((x3 + 2)).toNatClampNeg))), some (.int ((xs ((x3 + 3)).toNatClampNeg))), none]) (rest := []) (fun f => rfl) ?_
  refine p_X11_apart (d := d + 25) ((xs ((x3 + 1)).toNatClampNeg)) ((xs ((x3 + 2)).toNatClampNeg)) ((xs ((x3 + 3)).toNatClampNeg)) I J (t := o) ho ?_
  exact p_L_law_36 x3 o.1 o.2.1 o.2.2 h hC
set_option maxRecDepth 100000 in
theorem p_L_law_42 {L : Nat} {xs : Nat → Int32} {d : Nat} {Q : xO → Prop} (x3 : Int32) (I : xI) (J : xJ) {t : Int32 × xI × xJ} (h : f_L_law_42 L xs x3 I J = some t) (hC : (c_L_law Q) t) : Rn L xs (d + 32) 309 538 [some (.ref 1009), some (.ref 0), some (.ref 61), some (.int x3)] [] 94 (I, J, xrf) Q := by
  unfold f_L_law_42 at h
  cases h
  exact Rn.ret 2 (o := ((some (.int 0)), 94, (I, J, xrf))) (fun f => rfl) hC
set_option maxRecDepth 100000 in
theorem p_L_law_41 {L : Nat} {xs : Nat → Int32} {d : Nat} {Q : xO → Prop} (x3 : Int32) (s0 : Int32) (s1 : Int32) (I : xI) (J : xJ) {t : (Int32 × xI × xJ) ⊕ (Int32 × xI × xJ)} (h : f_L_law_41 L xs x3 s0 s1 I J = some t) (hC : (c_L_law_0 L xs d Q) t) : Rn L xs (d + 32) 309 535 [some (.ref 1009), some (.ref 0), some (.ref 61), some (.int x3)] [.int s1, .int s0] 94 (I, J, xrf) Q := by
  unfold f_L_law_41 at h
  refine Rn.fi 1 (c := s0 = s1) (p1 := 1374) (l1 := [some (.ref 1009), some (.ref 0), some (.ref 61), some (.int x3)]) (s1 := []) (n1 := 94) (M1 := (I, J, xrf)) (p2 := 538) (l2 := [some (.ref 1009), some (.ref 0), some (.ref 61), some (.int x3)]) (s2 := []) (n2 := 94) (M2 := (I, J, xrf)) (fun f => rfl) (fun hc => ?_) (fun hc => ?_)
  · rw [if_pos hc] at h
    exact p_L_law_155 x3 I J h hC
  · rw [if_neg hc] at h
    obtain ⟨t0, h0, rfl⟩ := Option.map_eq_some_iff.mp h
    exact p_L_law_42 x3 I J h0 hC
set_option maxRecDepth 100000 in
theorem p_L_law_40 {L : Nat} {xs : Nat → Int32} {d : Nat} {Q : xO → Prop} (x3 : Int32) (s0 : Int32) (I : xI) (J : xJ) {t : (Int32 × xI × xJ) ⊕ (Int32 × xI × xJ)} (h : f_L_law_40 L xs x3 s0 I J = some t) (hC : (c_L_law_0 L xs d Q) t) : Rn L xs (d + 32) 309 516 [some (.ref 1009), some (.ref 0), some (.ref 61), some (.int x3)] [.int s0] 94 (I, J, xrf) Q := by
  unfold f_L_law_40 at h
  obtain ⟨hc, h⟩ := xif h
  refine Rn.ok 6 (c := (x3 + 1) < 0 ∨ L ≤ ((x3 + 1)).toNatClampNeg) (p1 := 522) (l1 := [some (.ref 1009), some (.ref 0), some (.ref 61), some (.int x3)]) (s1 := [.int ((xs ((x3 + 1)).toNatClampNeg)), .ref 61, .int s0]) (n1 := 94) (M1 := (I, J, xrf)) (fun f => rfl) hc ?_
  obtain ⟨hc, h⟩ := xif h
  refine Rn.ok 5 (c := (x3 + 2) < 0 ∨ L ≤ ((x3 + 2)).toNatClampNeg) (p1 := 527) (l1 := [some (.ref 1009), some (.ref 0), some (.ref 61), some (.int x3)]) (s1 := [.int ((xs ((x3 + 2)).toNatClampNeg)), .int ((xs ((x3 + 1)).toNatClampNeg)), .ref 61, .int s0]) (n1 := 94) (M1 := (I, J, xrf)) (fun f => rfl) hc ?_
  obtain ⟨hc, h⟩ := xif h
  refine Rn.ok 5 (c := (x3 + 3) < 0 ∨ L ≤ ((x3 + 3)).toNatClampNeg) (p1 := 532) (l1 := [some (.ref 1009), some (.ref 0), some (.ref 61), some (.int x3)]) (s1 := [.int ((xs ((x3 + 3)).toNatClampNeg)), .int ((xs ((x3 + 2)).toNatClampNeg)), .int ((xs ((x3 + 1)).toNatClampNeg)), .ref 61, .int s0]) (n1 := 94) (M1 := (I, J, xrf)) (fun f => rfl) hc ?_
  obtain ⟨o, ho, h⟩ := Option.bind_eq_some_iff.mp h
  refine Rn.call (d1 := d + 31) (j1 := 227) (ls1 := [some (.ref 61), some (.int ((xs ((x3 + 1)).toNatClampNeg))), some (.int ((xs ((x3 + 2)).toNatClampNeg))), some (.int ((xs ((x3 + 3)).toNatClampNeg))), none, none, none, none, none, none]) (rest := [.int s0]) (fun f => rfl) ?_
  refine p_X12_word (d := d + 24) ((xs ((x3 + 1)).toNatClampNeg)) ((xs ((x3 + 2)).toNatClampNeg)) ((xs ((x3 + 3)).toNatClampNeg)) I J (t := o) ho ?_
  exact p_L_law_41 x3 s0 o.1 o.2.1 o.2.2 h hC
set_option maxRecDepth 100000 in
theorem p_L_law_39 {L : Nat} {xs : Nat → Int32} {d : Nat} {Q : xO → Prop} (x3 : Int32) (I : xI) (J : xJ) {t : (Int32 × xI × xJ) ⊕ (Int32 × xI × xJ)} (h : f_L_law_39 L xs x3 I J = some t) (hC : (c_L_law_0 L xs d Q) t) : Rn L xs (d + 32) 309 497 [some (.ref 1009), some (.ref 0), some (.ref 61), some (.int x3)] [] 94 (I, J, xrf) Q := by
  unfold f_L_law_39 at h
  obtain ⟨hc, h⟩ := xif h
  refine Rn.ok 6 (c := (x3 + 1) < 0 ∨ L ≤ ((x3 + 1)).toNatClampNeg) (p1 := 503) (l1 := [some (.ref 1009), some (.ref 0), some (.ref 61), some (.int x3)]) (s1 := [.int ((xs ((x3 + 1)).toNatClampNeg)), .ref 0]) (n1 := 94) (M1 := (I, J, xrf)) (fun f => rfl) hc ?_
  obtain ⟨hc, h⟩ := xif h
  refine Rn.ok 5 (c := (x3 + 2) < 0 ∨ L ≤ ((x3 + 2)).toNatClampNeg) (p1 := 508) (l1 := [some (.ref 1009), some (.ref 0), some (.ref 61), some (.int x3)]) (s1 := [.int ((xs ((x3 + 2)).toNatClampNeg)), .int ((xs ((x3 + 1)).toNatClampNeg)), .ref 0]) (n1 := 94) (M1 := (I, J, xrf)) (fun f => rfl) hc ?_
  obtain ⟨hc, h⟩ := xif h
  refine Rn.ok 5 (c := (x3 + 3) < 0 ∨ L ≤ ((x3 + 3)).toNatClampNeg) (p1 := 513) (l1 := [some (.ref 1009), some (.ref 0), some (.ref 61), some (.int x3)]) (s1 := [.int ((xs ((x3 + 3)).toNatClampNeg)), .int ((xs ((x3 + 2)).toNatClampNeg)), .int ((xs ((x3 + 1)).toNatClampNeg)), .ref 0]) (n1 := 94) (M1 := (I, J, xrf)) (fun f => rfl) hc ?_
  obtain ⟨o, ho, h⟩ := Option.bind_eq_some_iff.mp h
  refine Rn.call (d1 := d + 31) (j1 := 147) (ls1 := [some (.ref 0), some (.int ((xs ((x3 + 1)).toNatClampNeg))), some (.int ((xs ((x3 + 2)).toNatClampNeg))), some (.int ((xs ((x3 + 3)).toNatClampNeg))), none, none]) (rest := []) (fun f => rfl) ?_
  refine p_X11_word (d := d + 25) ((xs ((x3 + 1)).toNatClampNeg)) ((xs ((x3 + 2)).toNatClampNeg)) ((xs ((x3 + 3)).toNatClampNeg)) I J (t := o) ho ?_
  exact p_L_law_40 x3 o.1 o.2.1 o.2.2 h hC
set_option maxRecDepth 100000 in
theorem p_L_law_46 {L : Nat} {xs : Nat → Int32} {d : Nat} {Q : xO → Prop} (x3 : Int32) (I : xI) (J : xJ) {t : Int32 × xI × xJ} (h : f_L_law_46 L xs x3 I J = some t) (hC : (c_L_law Q) t) : Rn L xs (d + 32) 309 561 [some (.ref 1009), some (.ref 0), some (.ref 61), some (.int x3)] [] 94 (I, J, xrf) Q := by
  unfold f_L_law_46 at h
  cases h
  exact Rn.ret 2 (o := ((some (.int 0)), 94, (I, J, xrf))) (fun f => rfl) hC
set_option maxRecDepth 100000 in
theorem p_L_law_45 {L : Nat} {xs : Nat → Int32} {d : Nat} {Q : xO → Prop} (x3 : Int32) (s0 : Int32) (s1 : Int32) (I : xI) (J : xJ) {t : (Int32 × xI × xJ) ⊕ (Int32 × xI × xJ)} (h : f_L_law_45 L xs x3 s0 s1 I J = some t) (hC : (c_L_law_0 L xs d Q) t) : Rn L xs (d + 32) 309 558 [some (.ref 1009), some (.ref 0), some (.ref 61), some (.int x3)] [.int s1, .int s0] 94 (I, J, xrf) Q := by
  unfold f_L_law_45 at h
  refine Rn.fi 1 (c := s0 = s1) (p1 := 1374) (l1 := [some (.ref 1009), some (.ref 0), some (.ref 61), some (.int x3)]) (s1 := []) (n1 := 94) (M1 := (I, J, xrf)) (p2 := 561) (l2 := [some (.ref 1009), some (.ref 0), some (.ref 61), some (.int x3)]) (s2 := []) (n2 := 94) (M2 := (I, J, xrf)) (fun f => rfl) (fun hc => ?_) (fun hc => ?_)
  · rw [if_pos hc] at h
    exact p_L_law_155 x3 I J h hC
  · rw [if_neg hc] at h
    obtain ⟨t0, h0, rfl⟩ := Option.map_eq_some_iff.mp h
    exact p_L_law_46 x3 I J h0 hC
set_option maxRecDepth 100000 in
theorem p_L_law_44 {L : Nat} {xs : Nat → Int32} {d : Nat} {Q : xO → Prop} (x3 : Int32) (s0 : Int32) (I : xI) (J : xJ) {t : (Int32 × xI × xJ) ⊕ (Int32 × xI × xJ)} (h : f_L_law_44 L xs x3 s0 I J = some t) (hC : (c_L_law_0 L xs d Q) t) : Rn L xs (d + 32) 309 549 [some (.ref 1009), some (.ref 0), some (.ref 61), some (.int x3)] [.int s0] 94 (I, J, xrf) Q := by
  unfold f_L_law_44 at h
  obtain ⟨hc, h⟩ := xif h
  refine Rn.ok 6 (c := (x3 + 1) < 0 ∨ L ≤ ((x3 + 1)).toNatClampNeg) (p1 := 555) (l1 := [some (.ref 1009), some (.ref 0), some (.ref 61), some (.int x3)]) (s1 := [.int ((xs ((x3 + 1)).toNatClampNeg)), .ref 61, .int s0]) (n1 := 94) (M1 := (I, J, xrf)) (fun f => rfl) hc ?_
  obtain ⟨o, ho, h⟩ := Option.bind_eq_some_iff.mp h
  refine Rn.call (d1 := d + 31) (j1 := 232) (ls1 := [some (.ref 61), some (.int ((xs ((x3 + 1)).toNatClampNeg))), none, none]) (rest := [.int s0]) (fun f => rfl) ?_
  refine p_X12_shown (d := d + 24) ((xs ((x3 + 1)).toNatClampNeg)) I J (t := o) ho ?_
  exact p_L_law_45 x3 s0 o.1 o.2.1 o.2.2 h hC
set_option maxRecDepth 100000 in
theorem p_L_law_43 {L : Nat} {xs : Nat → Int32} {d : Nat} {Q : xO → Prop} (x3 : Int32) (I : xI) (J : xJ) {t : (Int32 × xI × xJ) ⊕ (Int32 × xI × xJ)} (h : f_L_law_43 L xs x3 I J = some t) (hC : (c_L_law_0 L xs d Q) t) : Rn L xs (d + 32) 309 540 [some (.ref 1009), some (.ref 0), some (.ref 61), some (.int x3)] [] 94 (I, J, xrf) Q := by
  unfold f_L_law_43 at h
  obtain ⟨hc, h⟩ := xif h
  refine Rn.ok 6 (c := (x3 + 1) < 0 ∨ L ≤ ((x3 + 1)).toNatClampNeg) (p1 := 546) (l1 := [some (.ref 1009), some (.ref 0), some (.ref 61), some (.int x3)]) (s1 := [.int ((xs ((x3 + 1)).toNatClampNeg)), .ref 0]) (n1 := 94) (M1 := (I, J, xrf)) (fun f => rfl) hc ?_
  obtain ⟨o, ho, h⟩ := Option.bind_eq_some_iff.mp h
  refine Rn.call (d1 := d + 31) (j1 := 148) (ls1 := [some (.ref 0), some (.int ((xs ((x3 + 1)).toNatClampNeg))), none]) (rest := []) (fun f => rfl) ?_
  refine p_X11_shown (d := d + 12) ((xs ((x3 + 1)).toNatClampNeg)) I J (t := o) ho ?_
  exact p_L_law_44 x3 o.1 o.2.1 o.2.2 h hC
set_option maxRecDepth 100000 in
theorem p_L_law_50 {L : Nat} {xs : Nat → Int32} {d : Nat} {Q : xO → Prop} (x3 : Int32) (I : xI) (J : xJ) {t : Int32 × xI × xJ} (h : f_L_law_50 L xs x3 I J = some t) (hC : (c_L_law Q) t) : Rn L xs (d + 32) 309 574 [some (.ref 1009), some (.ref 0), some (.ref 61), some (.int x3)] [] 94 (I, J, xrf) Q := by
  unfold f_L_law_50 at h
  cases h
  exact Rn.ret 2 (o := ((some (.int 0)), 94, (I, J, xrf))) (fun f => rfl) hC
set_option maxRecDepth 100000 in
theorem p_L_law_49 {L : Nat} {xs : Nat → Int32} {d : Nat} {Q : xO → Prop} (x3 : Int32) (s0 : Int32) (s1 : Int32) (I : xI) (J : xJ) {t : (Int32 × xI × xJ) ⊕ (Int32 × xI × xJ)} (h : f_L_law_49 L xs x3 s0 s1 I J = some t) (hC : (c_L_law_0 L xs d Q) t) : Rn L xs (d + 32) 309 571 [some (.ref 1009), some (.ref 0), some (.ref 61), some (.int x3)] [.int s1, .int s0] 94 (I, J, xrf) Q := by
  unfold f_L_law_49 at h
  refine Rn.fi 1 (c := s0 = s1) (p1 := 1374) (l1 := [some (.ref 1009), some (.ref 0), some (.ref 61), some (.int x3)]) (s1 := []) (n1 := 94) (M1 := (I, J, xrf)) (p2 := 574) (l2 := [some (.ref 1009), some (.ref 0), some (.ref 61), some (.int x3)]) (s2 := []) (n2 := 94) (M2 := (I, J, xrf)) (fun f => rfl) (fun hc => ?_) (fun hc => ?_)
  · rw [if_pos hc] at h
    exact p_L_law_155 x3 I J h hC
  · rw [if_neg hc] at h
    obtain ⟨t0, h0, rfl⟩ := Option.map_eq_some_iff.mp h
    exact p_L_law_50 x3 I J h0 hC
set_option maxRecDepth 100000 in
theorem p_L_law_48 {L : Nat} {xs : Nat → Int32} {d : Nat} {Q : xO → Prop} (x3 : Int32) (s0 : Int32) (I : xI) (J : xJ) {t : (Int32 × xI × xJ) ⊕ (Int32 × xI × xJ)} (h : f_L_law_48 L xs x3 s0 I J = some t) (hC : (c_L_law_0 L xs d Q) t) : Rn L xs (d + 32) 309 567 [some (.ref 1009), some (.ref 0), some (.ref 61), some (.int x3)] [.int s0] 94 (I, J, xrf) Q := by
  unfold f_L_law_48 at h
  refine Rn.go 1 (j' := 309) (pc' := 568) (ls' := [some (.ref 1009), some (.ref 0), some (.ref 61), some (.int x3)]) (st' := [.ref 61, .int s0]) (n' := 94) (M' := (I, J, xrf)) (fun f => rfl) ?_
  obtain ⟨o, ho, h⟩ := Option.bind_eq_some_iff.mp h
  refine Rn.call (d1 := d + 31) (j1 := 235) (ls1 := [some (.ref 61)]) (rest := [.int s0]) (fun f => rfl) ?_
  refine p_X12_classes (d := d + 24) I J (t := o) ho ?_
  exact p_L_law_49 x3 s0 o.1 o.2.1 o.2.2 h hC
set_option maxRecDepth 100000 in
theorem p_L_law_47 {L : Nat} {xs : Nat → Int32} {d : Nat} {Q : xO → Prop} (x3 : Int32) (I : xI) (J : xJ) {t : (Int32 × xI × xJ) ⊕ (Int32 × xI × xJ)} (h : f_L_law_47 L xs x3 I J = some t) (hC : (c_L_law_0 L xs d Q) t) : Rn L xs (d + 32) 309 563 [some (.ref 1009), some (.ref 0), some (.ref 61), some (.int x3)] [] 94 (I, J, xrf) Q := by
  unfold f_L_law_47 at h
  refine Rn.go 1 (j' := 309) (pc' := 564) (ls' := [some (.ref 1009), some (.ref 0), some (.ref 61), some (.int x3)]) (st' := [.ref 0]) (n' := 94) (M' := (I, J, xrf)) (fun f => rfl) ?_
  obtain ⟨o, ho, h⟩ := Option.bind_eq_some_iff.mp h
  refine Rn.call (d1 := d + 31) (j1 := 149) (ls1 := [some (.ref 0)]) (rest := []) (fun f => rfl) ?_
  refine p_X11_classes (d := d + 25) I J (t := o) ho ?_
  exact p_L_law_48 x3 o.1 o.2.1 o.2.2 h hC
set_option maxRecDepth 100000 in
theorem p_L_law_54 {L : Nat} {xs : Nat → Int32} {d : Nat} {Q : xO → Prop} (x3 : Int32) (I : xI) (J : xJ) {t : Int32 × xI × xJ} (h : f_L_law_54 L xs x3 I J = some t) (hC : (c_L_law Q) t) : Rn L xs (d + 32) 309 597 [some (.ref 1009), some (.ref 0), some (.ref 61), some (.int x3)] [] 94 (I, J, xrf) Q := by
  unfold f_L_law_54 at h
  cases h
  exact Rn.ret 2 (o := ((some (.int 0)), 94, (I, J, xrf))) (fun f => rfl) hC
set_option maxRecDepth 100000 in
theorem p_L_law_53 {L : Nat} {xs : Nat → Int32} {d : Nat} {Q : xO → Prop} (x3 : Int32) (s0 : Int32) (s1 : Int32) (I : xI) (J : xJ) {t : (Int32 × xI × xJ) ⊕ (Int32 × xI × xJ)} (h : f_L_law_53 L xs x3 s0 s1 I J = some t) (hC : (c_L_law_0 L xs d Q) t) : Rn L xs (d + 32) 309 594 [some (.ref 1009), some (.ref 0), some (.ref 61), some (.int x3)] [.int s1, .int s0] 94 (I, J, xrf) Q := by
  unfold f_L_law_53 at h
  refine Rn.fi 1 (c := s0 = s1) (p1 := 1374) (l1 := [some (.ref 1009), some (.ref 0), some (.ref 61), some (.int x3)]) (s1 := []) (n1 := 94) (M1 := (I, J, xrf)) (p2 := 597) (l2 := [some (.ref 1009), some (.ref 0), some (.ref 61), some (.int x3)]) (s2 := []) (n2 := 94) (M2 := (I, J, xrf)) (fun f => rfl) (fun hc => ?_) (fun hc => ?_)
  · rw [if_pos hc] at h
    exact p_L_law_155 x3 I J h hC
  · rw [if_neg hc] at h
    obtain ⟨t0, h0, rfl⟩ := Option.map_eq_some_iff.mp h
    exact p_L_law_54 x3 I J h0 hC
set_option maxRecDepth 100000 in
theorem p_L_law_52 {L : Nat} {xs : Nat → Int32} {d : Nat} {Q : xO → Prop} (x3 : Int32) (s0 : Int32) (I : xI) (J : xJ) {t : (Int32 × xI × xJ) ⊕ (Int32 × xI × xJ)} (h : f_L_law_52 L xs x3 s0 I J = some t) (hC : (c_L_law_0 L xs d Q) t) : Rn L xs (d + 32) 309 585 [some (.ref 1009), some (.ref 0), some (.ref 61), some (.int x3)] [.int s0] 94 (I, J, xrf) Q := by
  unfold f_L_law_52 at h
  obtain ⟨hc, h⟩ := xif h
  refine Rn.ok 6 (c := (x3 + 1) < 0 ∨ L ≤ ((x3 + 1)).toNatClampNeg) (p1 := 591) (l1 := [some (.ref 1009), some (.ref 0), some (.ref 61), some (.int x3)]) (s1 := [.int ((xs ((x3 + 1)).toNatClampNeg)), .ref 61, .int s0]) (n1 := 94) (M1 := (I, J, xrf)) (fun f => rfl) hc ?_
  obtain ⟨o, ho, h⟩ := Option.bind_eq_some_iff.mp h
  refine Rn.call (d1 := d + 31) (j1 := 237) (ls1 := [some (.ref 61), some (.int ((xs ((x3 + 1)).toNatClampNeg)))]) (rest := [.int s0]) (fun f => rfl) ?_
  refine p_X12_greatest (d := d + 24) ((xs ((x3 + 1)).toNatClampNeg)) I J (t := o) ho ?_
  exact p_L_law_53 x3 s0 o.1 o.2.1 o.2.2 h hC
set_option maxRecDepth 100000 in
theorem p_L_law_51 {L : Nat} {xs : Nat → Int32} {d : Nat} {Q : xO → Prop} (x3 : Int32) (I : xI) (J : xJ) {t : (Int32 × xI × xJ) ⊕ (Int32 × xI × xJ)} (h : f_L_law_51 L xs x3 I J = some t) (hC : (c_L_law_0 L xs d Q) t) : Rn L xs (d + 32) 309 576 [some (.ref 1009), some (.ref 0), some (.ref 61), some (.int x3)] [] 94 (I, J, xrf) Q := by
  unfold f_L_law_51 at h
  obtain ⟨hc, h⟩ := xif h
  refine Rn.ok 6 (c := (x3 + 1) < 0 ∨ L ≤ ((x3 + 1)).toNatClampNeg) (p1 := 582) (l1 := [some (.ref 1009), some (.ref 0), some (.ref 61), some (.int x3)]) (s1 := [.int ((xs ((x3 + 1)).toNatClampNeg)), .ref 0]) (n1 := 94) (M1 := (I, J, xrf)) (fun f => rfl) hc ?_
  obtain ⟨o, ho, h⟩ := Option.bind_eq_some_iff.mp h
  refine Rn.call (d1 := d + 31) (j1 := 150) (ls1 := [some (.ref 0), some (.int ((xs ((x3 + 1)).toNatClampNeg))), none]) (rest := []) (fun f => rfl) ?_
  refine p_X11_greatest (d := d + 25) ((xs ((x3 + 1)).toNatClampNeg)) I J (t := o) ho ?_
  exact p_L_law_52 x3 o.1 o.2.1 o.2.2 h hC
set_option maxRecDepth 100000 in
theorem p_L_law_58 {L : Nat} {xs : Nat → Int32} {d : Nat} {Q : xO → Prop} (x3 : Int32) (I : xI) (J : xJ) {t : Int32 × xI × xJ} (h : f_L_law_58 L xs x3 I J = some t) (hC : (c_L_law Q) t) : Rn L xs (d + 32) 309 620 [some (.ref 1009), some (.ref 0), some (.ref 61), some (.int x3)] [] 94 (I, J, xrf) Q := by
  unfold f_L_law_58 at h
  cases h
  exact Rn.ret 2 (o := ((some (.int 0)), 94, (I, J, xrf))) (fun f => rfl) hC
set_option maxRecDepth 100000 in
theorem p_L_law_57 {L : Nat} {xs : Nat → Int32} {d : Nat} {Q : xO → Prop} (x3 : Int32) (s0 : Int32) (s1 : Int32) (I : xI) (J : xJ) {t : (Int32 × xI × xJ) ⊕ (Int32 × xI × xJ)} (h : f_L_law_57 L xs x3 s0 s1 I J = some t) (hC : (c_L_law_0 L xs d Q) t) : Rn L xs (d + 32) 309 617 [some (.ref 1009), some (.ref 0), some (.ref 61), some (.int x3)] [.int s1, .int s0] 94 (I, J, xrf) Q := by
  unfold f_L_law_57 at h
  refine Rn.fi 1 (c := s0 = s1) (p1 := 1374) (l1 := [some (.ref 1009), some (.ref 0), some (.ref 61), some (.int x3)]) (s1 := []) (n1 := 94) (M1 := (I, J, xrf)) (p2 := 620) (l2 := [some (.ref 1009), some (.ref 0), some (.ref 61), some (.int x3)]) (s2 := []) (n2 := 94) (M2 := (I, J, xrf)) (fun f => rfl) (fun hc => ?_) (fun hc => ?_)
  · rw [if_pos hc] at h
    exact p_L_law_155 x3 I J h hC
  · rw [if_neg hc] at h
    obtain ⟨t0, h0, rfl⟩ := Option.map_eq_some_iff.mp h
    exact p_L_law_58 x3 I J h0 hC
set_option maxRecDepth 100000 in
theorem p_L_law_56 {L : Nat} {xs : Nat → Int32} {d : Nat} {Q : xO → Prop} (x3 : Int32) (s0 : Int32) (I : xI) (J : xJ) {t : (Int32 × xI × xJ) ⊕ (Int32 × xI × xJ)} (h : f_L_law_56 L xs x3 s0 I J = some t) (hC : (c_L_law_0 L xs d Q) t) : Rn L xs (d + 32) 309 608 [some (.ref 1009), some (.ref 0), some (.ref 61), some (.int x3)] [.int s0] 94 (I, J, xrf) Q := by
  unfold f_L_law_56 at h
  obtain ⟨hc, h⟩ := xif h
  refine Rn.ok 6 (c := (x3 + 1) < 0 ∨ L ≤ ((x3 + 1)).toNatClampNeg) (p1 := 614) (l1 := [some (.ref 1009), some (.ref 0), some (.ref 61), some (.int x3)]) (s1 := [.int ((xs ((x3 + 1)).toNatClampNeg)), .ref 61, .int s0]) (n1 := 94) (M1 := (I, J, xrf)) (fun f => rfl) hc ?_
  obtain ⟨o, ho, h⟩ := Option.bind_eq_some_iff.mp h
  refine Rn.call (d1 := d + 31) (j1 := 248) (ls1 := [some (.ref 61), some (.int ((xs ((x3 + 1)).toNatClampNeg)))]) (rest := [.int s0]) (fun f => rfl) ?_
  refine p_X12_fewest (d := d + 24) ((xs ((x3 + 1)).toNatClampNeg)) I J (t := o) ho ?_
  exact p_L_law_57 x3 s0 o.1 o.2.1 o.2.2 h hC
set_option maxRecDepth 100000 in
theorem p_L_law_55 {L : Nat} {xs : Nat → Int32} {d : Nat} {Q : xO → Prop} (x3 : Int32) (I : xI) (J : xJ) {t : (Int32 × xI × xJ) ⊕ (Int32 × xI × xJ)} (h : f_L_law_55 L xs x3 I J = some t) (hC : (c_L_law_0 L xs d Q) t) : Rn L xs (d + 32) 309 599 [some (.ref 1009), some (.ref 0), some (.ref 61), some (.int x3)] [] 94 (I, J, xrf) Q := by
  unfold f_L_law_55 at h
  obtain ⟨hc, h⟩ := xif h
  refine Rn.ok 6 (c := (x3 + 1) < 0 ∨ L ≤ ((x3 + 1)).toNatClampNeg) (p1 := 605) (l1 := [some (.ref 1009), some (.ref 0), some (.ref 61), some (.int x3)]) (s1 := [.int ((xs ((x3 + 1)).toNatClampNeg)), .ref 0]) (n1 := 94) (M1 := (I, J, xrf)) (fun f => rfl) hc ?_
  obtain ⟨o, ho, h⟩ := Option.bind_eq_some_iff.mp h
  refine Rn.call (d1 := d + 31) (j1 := 151) (ls1 := [some (.ref 0), some (.int ((xs ((x3 + 1)).toNatClampNeg))), none]) (rest := []) (fun f => rfl) ?_
  refine p_X11_fewest (d := d + 13) ((xs ((x3 + 1)).toNatClampNeg)) I J (t := o) ho ?_
  exact p_L_law_56 x3 o.1 o.2.1 o.2.2 h hC
set_option maxRecDepth 100000 in
theorem p_L_law_62 {L : Nat} {xs : Nat → Int32} {d : Nat} {Q : xO → Prop} (x3 : Int32) (I : xI) (J : xJ) {t : Int32 × xI × xJ} (h : f_L_law_62 L xs x3 I J = some t) (hC : (c_L_law Q) t) : Rn L xs (d + 32) 309 643 [some (.ref 1009), some (.ref 0), some (.ref 61), some (.int x3)] [] 94 (I, J, xrf) Q := by
  unfold f_L_law_62 at h
  cases h
  exact Rn.ret 2 (o := ((some (.int 0)), 94, (I, J, xrf))) (fun f => rfl) hC
set_option maxRecDepth 100000 in
theorem p_L_law_61 {L : Nat} {xs : Nat → Int32} {d : Nat} {Q : xO → Prop} (x3 : Int32) (s0 : Int32) (s1 : Int32) (I : xI) (J : xJ) {t : (Int32 × xI × xJ) ⊕ (Int32 × xI × xJ)} (h : f_L_law_61 L xs x3 s0 s1 I J = some t) (hC : (c_L_law_0 L xs d Q) t) : Rn L xs (d + 32) 309 640 [some (.ref 1009), some (.ref 0), some (.ref 61), some (.int x3)] [.int s1, .int s0] 94 (I, J, xrf) Q := by
  unfold f_L_law_61 at h
  refine Rn.fi 1 (c := s0 = s1) (p1 := 1374) (l1 := [some (.ref 1009), some (.ref 0), some (.ref 61), some (.int x3)]) (s1 := []) (n1 := 94) (M1 := (I, J, xrf)) (p2 := 643) (l2 := [some (.ref 1009), some (.ref 0), some (.ref 61), some (.int x3)]) (s2 := []) (n2 := 94) (M2 := (I, J, xrf)) (fun f => rfl) (fun hc => ?_) (fun hc => ?_)
  · rw [if_pos hc] at h
    exact p_L_law_155 x3 I J h hC
  · rw [if_neg hc] at h
    obtain ⟨t0, h0, rfl⟩ := Option.map_eq_some_iff.mp h
    exact p_L_law_62 x3 I J h0 hC
set_option maxRecDepth 100000 in
theorem p_L_law_60 {L : Nat} {xs : Nat → Int32} {d : Nat} {Q : xO → Prop} (x3 : Int32) (s0 : Int32) (I : xI) (J : xJ) {t : (Int32 × xI × xJ) ⊕ (Int32 × xI × xJ)} (h : f_L_law_60 L xs x3 s0 I J = some t) (hC : (c_L_law_0 L xs d Q) t) : Rn L xs (d + 32) 309 631 [some (.ref 1009), some (.ref 0), some (.ref 61), some (.int x3)] [.int s0] 94 (I, J, xrf) Q := by
  unfold f_L_law_60 at h
  obtain ⟨hc, h⟩ := xif h
  refine Rn.ok 6 (c := (x3 + 1) < 0 ∨ L ≤ ((x3 + 1)).toNatClampNeg) (p1 := 637) (l1 := [some (.ref 1009), some (.ref 0), some (.ref 61), some (.int x3)]) (s1 := [.int ((xs ((x3 + 1)).toNatClampNeg)), .ref 61, .int s0]) (n1 := 94) (M1 := (I, J, xrf)) (fun f => rfl) hc ?_
  obtain ⟨o, ho, h⟩ := Option.bind_eq_some_iff.mp h
  refine Rn.call (d1 := d + 31) (j1 := 239) (ls1 := [some (.ref 61), some (.int ((xs ((x3 + 1)).toNatClampNeg)))]) (rest := [.int s0]) (fun f => rfl) ?_
  refine p_X12_isClass (d := d + 24) ((xs ((x3 + 1)).toNatClampNeg)) I J (t := o) ho ?_
  exact p_L_law_61 x3 s0 o.1 o.2.1 o.2.2 h hC
set_option maxRecDepth 100000 in
theorem p_L_law_59 {L : Nat} {xs : Nat → Int32} {d : Nat} {Q : xO → Prop} (x3 : Int32) (I : xI) (J : xJ) {t : (Int32 × xI × xJ) ⊕ (Int32 × xI × xJ)} (h : f_L_law_59 L xs x3 I J = some t) (hC : (c_L_law_0 L xs d Q) t) : Rn L xs (d + 32) 309 622 [some (.ref 1009), some (.ref 0), some (.ref 61), some (.int x3)] [] 94 (I, J, xrf) Q := by
  unfold f_L_law_59 at h
  obtain ⟨hc, h⟩ := xif h
  refine Rn.ok 6 (c := (x3 + 1) < 0 ∨ L ≤ ((x3 + 1)).toNatClampNeg) (p1 := 628) (l1 := [some (.ref 1009), some (.ref 0), some (.ref 61), some (.int x3)]) (s1 := [.int ((xs ((x3 + 1)).toNatClampNeg)), .ref 0]) (n1 := 94) (M1 := (I, J, xrf)) (fun f => rfl) hc ?_
  obtain ⟨o, ho, h⟩ := Option.bind_eq_some_iff.mp h
  refine Rn.call (d1 := d + 31) (j1 := 152) (ls1 := [some (.ref 0), some (.int ((xs ((x3 + 1)).toNatClampNeg)))]) (rest := []) (fun f => rfl) ?_
  refine p_X11_isClass (d := d + 25) ((xs ((x3 + 1)).toNatClampNeg)) I J (t := o) ho ?_
  exact p_L_law_60 x3 o.1 o.2.1 o.2.2 h hC
set_option maxRecDepth 100000 in
theorem p_L_law_66 {L : Nat} {xs : Nat → Int32} {d : Nat} {Q : xO → Prop} (x3 : Int32) (I : xI) (J : xJ) {t : Int32 × xI × xJ} (h : f_L_law_66 L xs x3 I J = some t) (hC : (c_L_law Q) t) : Rn L xs (d + 32) 309 676 [some (.ref 1009), some (.ref 0), some (.ref 61), some (.int x3)] [] 94 (I, J, xrf) Q := by
  unfold f_L_law_66 at h
  cases h
  exact Rn.ret 2 (o := ((some (.int 0)), 94, (I, J, xrf))) (fun f => rfl) hC
set_option maxRecDepth 100000 in
theorem p_L_law_65 {L : Nat} {xs : Nat → Int32} {d : Nat} {Q : xO → Prop} (x3 : Int32) (s0 : Int32) (s1 : Int32) (I : xI) (J : xJ) {t : (Int32 × xI × xJ) ⊕ (Int32 × xI × xJ)} (h : f_L_law_65 L xs x3 s0 s1 I J = some t) (hC : (c_L_law_0 L xs d Q) t) : Rn L xs (d + 32) 309 673 [some (.ref 1009), some (.ref 0), some (.ref 61), some (.int x3)] [.int s1, .int s0] 94 (I, J, xrf) Q := by
  unfold f_L_law_65 at h
  refine Rn.fi 1 (c := s0 = s1) (p1 := 1374) (l1 := [some (.ref 1009), some (.ref 0), some (.ref 61), some (.int x3)]) (s1 := []) (n1 := 94) (M1 := (I, J, xrf)) (p2 := 676) (l2 := [some (.ref 1009), some (.ref 0), some (.ref 61), some (.int x3)]) (s2 := []) (n2 := 94) (M2 := (I, J, xrf)) (fun f => rfl) (fun hc => ?_) (fun hc => ?_)
  · rw [if_pos hc] at h
    exact p_L_law_155 x3 I J h hC
  · rw [if_neg hc] at h
    obtain ⟨t0, h0, rfl⟩ := Option.map_eq_some_iff.mp h
    exact p_L_law_66 x3 I J h0 hC
set_option maxRecDepth 100000 in
theorem p_L_law_64 {L : Nat} {xs : Nat → Int32} {d : Nat} {Q : xO → Prop} (x3 : Int32) (s0 : Int32) (I : xI) (J : xJ) {t : (Int32 × xI × xJ) ⊕ (Int32 × xI × xJ)} (h : f_L_law_64 L xs x3 s0 I J = some t) (hC : (c_L_law_0 L xs d Q) t) : Rn L xs (d + 32) 309 659 [some (.ref 1009), some (.ref 0), some (.ref 61), some (.int x3)] [.int s0] 94 (I, J, xrf) Q := by
  unfold f_L_law_64 at h
  obtain ⟨hc, h⟩ := xif h
  refine Rn.ok 6 (c := (x3 + 1) < 0 ∨ L ≤ ((x3 + 1)).toNatClampNeg) (p1 := 665) (l1 := [some (.ref 1009), some (.ref 0), some (.ref 61), some (.int x3)]) (s1 := [.int ((xs ((x3 + 1)).toNatClampNeg)), .ref 61, .int s0]) (n1 := 94) (M1 := (I, J, xrf)) (fun f => rfl) hc ?_
  obtain ⟨hc, h⟩ := xif h
  refine Rn.ok 5 (c := (x3 + 2) < 0 ∨ L ≤ ((x3 + 2)).toNatClampNeg) (p1 := 670) (l1 := [some (.ref 1009), some (.ref 0), some (.ref 61), some (.int x3)]) (s1 := [.int ((xs ((x3 + 2)).toNatClampNeg)), .int ((xs ((x3 + 1)).toNatClampNeg)), .ref 61, .int s0]) (n1 := 94) (M1 := (I, J, xrf)) (fun f => rfl) hc ?_
  obtain ⟨o, ho, h⟩ := Option.bind_eq_some_iff.mp h
  refine Rn.call (d1 := d + 31) (j1 := 241) (ls1 := [some (.ref 61), some (.int ((xs ((x3 + 1)).toNatClampNeg))), some (.int ((xs ((x3 + 2)).toNatClampNeg)))]) (rest := [.int s0]) (fun f => rfl) ?_
  refine p_X12_leads (d := d + 28) ((xs ((x3 + 1)).toNatClampNeg)) ((xs ((x3 + 2)).toNatClampNeg)) I J (t := o) ho ?_
  exact p_L_law_65 x3 s0 o.1 o.2.1 o.2.2 h hC
set_option maxRecDepth 100000 in
theorem p_L_law_63 {L : Nat} {xs : Nat → Int32} {d : Nat} {Q : xO → Prop} (x3 : Int32) (I : xI) (J : xJ) {t : (Int32 × xI × xJ) ⊕ (Int32 × xI × xJ)} (h : f_L_law_63 L xs x3 I J = some t) (hC : (c_L_law_0 L xs d Q) t) : Rn L xs (d + 32) 309 645 [some (.ref 1009), some (.ref 0), some (.ref 61), some (.int x3)] [] 94 (I, J, xrf) Q := by
  unfold f_L_law_63 at h
  obtain ⟨hc, h⟩ := xif h
  refine Rn.ok 6 (c := (x3 + 1) < 0 ∨ L ≤ ((x3 + 1)).toNatClampNeg) (p1 := 651) (l1 := [some (.ref 1009), some (.ref 0), some (.ref 61), some (.int x3)]) (s1 := [.int ((xs ((x3 + 1)).toNatClampNeg)), .ref 0]) (n1 := 94) (M1 := (I, J, xrf)) (fun f => rfl) hc ?_
  obtain ⟨hc, h⟩ := xif h
  refine Rn.ok 5 (c := (x3 + 2) < 0 ∨ L ≤ ((x3 + 2)).toNatClampNeg) (p1 := 656) (l1 := [some (.ref 1009), some (.ref 0), some (.ref 61), some (.int x3)]) (s1 := [.int ((xs ((x3 + 2)).toNatClampNeg)), .int ((xs ((x3 + 1)).toNatClampNeg)), .ref 0]) (n1 := 94) (M1 := (I, J, xrf)) (fun f => rfl) hc ?_
  obtain ⟨o, ho, h⟩ := Option.bind_eq_some_iff.mp h
  refine Rn.call (d1 := d + 31) (j1 := 153) (ls1 := [some (.ref 0), some (.int ((xs ((x3 + 1)).toNatClampNeg))), some (.int ((xs ((x3 + 2)).toNatClampNeg)))]) (rest := []) (fun f => rfl) ?_
  refine p_X11_leads (d := d + 28) ((xs ((x3 + 1)).toNatClampNeg)) ((xs ((x3 + 2)).toNatClampNeg)) I J (t := o) ho ?_
  exact p_L_law_64 x3 o.1 o.2.1 o.2.2 h hC
set_option maxRecDepth 100000 in
theorem p_L_law_70 {L : Nat} {xs : Nat → Int32} {d : Nat} {Q : xO → Prop} (x3 : Int32) (I : xI) (J : xJ) {t : Int32 × xI × xJ} (h : f_L_law_70 L xs x3 I J = some t) (hC : (c_L_law Q) t) : Rn L xs (d + 32) 309 719 [some (.ref 1009), some (.ref 0), some (.ref 61), some (.int x3)] [] 94 (I, J, xrf) Q := by
  unfold f_L_law_70 at h
  cases h
  exact Rn.ret 2 (o := ((some (.int 0)), 94, (I, J, xrf))) (fun f => rfl) hC
set_option maxRecDepth 100000 in
theorem p_L_law_69 {L : Nat} {xs : Nat → Int32} {d : Nat} {Q : xO → Prop} (x3 : Int32) (s0 : Int32) (s1 : Int32) (I : xI) (J : xJ) {t : (Int32 × xI × xJ) ⊕ (Int32 × xI × xJ)} (h : f_L_law_69 L xs x3 s0 s1 I J = some t) (hC : (c_L_law_0 L xs d Q) t) : Rn L xs (d + 32) 309 716 [some (.ref 1009), some (.ref 0), some (.ref 61), some (.int x3)] [.int s1, .int s0] 94 (I, J, xrf) Q := by
  unfold f_L_law_69 at h
  refine Rn.fi 1 (c := s0 = s1) (p1 := 1374) (l1 := [some (.ref 1009), some (.ref 0), some (.ref 61), some (.int x3)]) (s1 := []) (n1 := 94) (M1 := (I, J, xrf)) (p2 := 719) (l2 := [some (.ref 1009), some (.ref 0), some (.ref 61), some (.int x3)]) (s2 := []) (n2 := 94) (M2 := (I, J, xrf)) (fun f => rfl) (fun hc => ?_) (fun hc => ?_)
  · rw [if_pos hc] at h
    exact p_L_law_155 x3 I J h hC
  · rw [if_neg hc] at h
    obtain ⟨t0, h0, rfl⟩ := Option.map_eq_some_iff.mp h
    exact p_L_law_70 x3 I J h0 hC
set_option maxRecDepth 100000 in
theorem p_L_law_68 {L : Nat} {xs : Nat → Int32} {d : Nat} {Q : xO → Prop} (x3 : Int32) (s0 : Int32) (I : xI) (J : xJ) {t : (Int32 × xI × xJ) ⊕ (Int32 × xI × xJ)} (h : f_L_law_68 L xs x3 s0 I J = some t) (hC : (c_L_law_0 L xs d Q) t) : Rn L xs (d + 32) 309 697 [some (.ref 1009), some (.ref 0), some (.ref 61), some (.int x3)] [.int s0] 94 (I, J, xrf) Q := by
  unfold f_L_law_68 at h
  obtain ⟨hc, h⟩ := xif h
  refine Rn.ok 6 (c := (x3 + 1) < 0 ∨ L ≤ ((x3 + 1)).toNatClampNeg) (p1 := 703) (l1 := [some (.ref 1009), some (.ref 0), some (.ref 61), some (.int x3)]) (s1 := [.int ((xs ((x3 + 1)).toNatClampNeg)), .ref 61, .int s0]) (n1 := 94) (M1 := (I, J, xrf)) (fun f => rfl) hc ?_
  obtain ⟨hc, h⟩ := xif h
  refine Rn.ok 5 (c := (x3 + 2) < 0 ∨ L ≤ ((x3 + 2)).toNatClampNeg) (p1 := 708) (l1 := [some (.ref 1009), some (.ref 0), some (.ref 61), some (.int x3)]) (s1 := [.int ((xs ((x3 + 2)).toNatClampNeg)), .int ((xs ((x3 + 1)).toNatClampNeg)), .ref 61, .int s0]) (n1 := 94) (M1 := (I, J, xrf)) (fun f => rfl) hc ?_
  obtain ⟨hc, h⟩ := xif h
  refine Rn.ok 5 (c := (x3 + 3) < 0 ∨ L ≤ ((x3 + 3)).toNatClampNeg) (p1 := 713) (l1 := [some (.ref 1009), some (.ref 0), some (.ref 61), some (.int x3)]) (s1 := [.int ((xs ((x3 + 3)).toNatClampNeg)), .int ((xs ((x3 + 2)).toNatClampNeg)), .int ((xs ((x3 + 1)).toNatClampNeg)), .ref 61, .int s0]) (n1 := 94) (M1 := (I, J, xrf)) (fun f => rfl) hc ?_
  obtain ⟨o, ho, h⟩ := Option.bind_eq_some_iff.mp h
  refine Rn.call (d1 := d + 31) (j1 := 251) (ls1 := [some (.ref 61), some (.int ((xs ((x3 + 1)).toNatClampNeg))), some (.int ((xs ((x3 + 2)).toNatClampNeg))), some (.int ((xs ((x3 + 3)).toNatClampNeg)))]) (rest := [.int s0]) (fun f => rfl) ?_
  refine p_X12_small (d := d + 24) ((xs ((x3 + 1)).toNatClampNeg)) ((xs ((x3 + 2)).toNatClampNeg)) ((xs ((x3 + 3)).toNatClampNeg)) I J (t := o) ho ?_
  exact p_L_law_69 x3 s0 o.1 o.2.1 o.2.2 h hC
set_option maxRecDepth 100000 in
theorem p_L_law_67 {L : Nat} {xs : Nat → Int32} {d : Nat} {Q : xO → Prop} (x3 : Int32) (I : xI) (J : xJ) {t : (Int32 × xI × xJ) ⊕ (Int32 × xI × xJ)} (h : f_L_law_67 L xs x3 I J = some t) (hC : (c_L_law_0 L xs d Q) t) : Rn L xs (d + 32) 309 678 [some (.ref 1009), some (.ref 0), some (.ref 61), some (.int x3)] [] 94 (I, J, xrf) Q := by
  unfold f_L_law_67 at h
  obtain ⟨hc, h⟩ := xif h
  refine Rn.ok 6 (c := (x3 + 1) < 0 ∨ L ≤ ((x3 + 1)).toNatClampNeg) (p1 := 684) (l1 := [some (.ref 1009), some (.ref 0), some (.ref 61), some (.int x3)]) (s1 := [.int ((xs ((x3 + 1)).toNatClampNeg)), .ref 0]) (n1 := 94) (M1 := (I, J, xrf)) (fun f => rfl) hc ?_
  obtain ⟨hc, h⟩ := xif h
  refine Rn.ok 5 (c := (x3 + 2) < 0 ∨ L ≤ ((x3 + 2)).toNatClampNeg) (p1 := 689) (l1 := [some (.ref 1009), some (.ref 0), some (.ref 61), some (.int x3)]) (s1 := [.int ((xs ((x3 + 2)).toNatClampNeg)), .int ((xs ((x3 + 1)).toNatClampNeg)), .ref 0]) (n1 := 94) (M1 := (I, J, xrf)) (fun f => rfl) hc ?_
  obtain ⟨hc, h⟩ := xif h
  refine Rn.ok 5 (c := (x3 + 3) < 0 ∨ L ≤ ((x3 + 3)).toNatClampNeg) (p1 := 694) (l1 := [some (.ref 1009), some (.ref 0), some (.ref 61), some (.int x3)]) (s1 := [.int ((xs ((x3 + 3)).toNatClampNeg)), .int ((xs ((x3 + 2)).toNatClampNeg)), .int ((xs ((x3 + 1)).toNatClampNeg)), .ref 0]) (n1 := 94) (M1 := (I, J, xrf)) (fun f => rfl) hc ?_
  obtain ⟨o, ho, h⟩ := Option.bind_eq_some_iff.mp h
  refine Rn.call (d1 := d + 31) (j1 := 154) (ls1 := [some (.ref 0), some (.int ((xs ((x3 + 1)).toNatClampNeg))), some (.int ((xs ((x3 + 2)).toNatClampNeg))), some (.int ((xs ((x3 + 3)).toNatClampNeg)))]) (rest := []) (fun f => rfl) ?_
  refine p_X11_small (d := d + 13) ((xs ((x3 + 1)).toNatClampNeg)) ((xs ((x3 + 2)).toNatClampNeg)) ((xs ((x3 + 3)).toNatClampNeg)) I J (t := o) ho ?_
  exact p_L_law_68 x3 o.1 o.2.1 o.2.2 h hC
set_option maxRecDepth 100000 in
theorem p_L_law_74 {L : Nat} {xs : Nat → Int32} {d : Nat} {Q : xO → Prop} (x3 : Int32) (I : xI) (J : xJ) {t : Int32 × xI × xJ} (h : f_L_law_74 L xs x3 I J = some t) (hC : (c_L_law Q) t) : Rn L xs (d + 32) 309 742 [some (.ref 1009), some (.ref 0), some (.ref 61), some (.int x3)] [] 94 (I, J, xrf) Q := by
  unfold f_L_law_74 at h
  cases h
  exact Rn.ret 2 (o := ((some (.int 0)), 94, (I, J, xrf))) (fun f => rfl) hC
set_option maxRecDepth 100000 in
theorem p_L_law_73 {L : Nat} {xs : Nat → Int32} {d : Nat} {Q : xO → Prop} (x3 : Int32) (s0 : Int32) (s1 : Int32) (I : xI) (J : xJ) {t : (Int32 × xI × xJ) ⊕ (Int32 × xI × xJ)} (h : f_L_law_73 L xs x3 s0 s1 I J = some t) (hC : (c_L_law_0 L xs d Q) t) : Rn L xs (d + 32) 309 739 [some (.ref 1009), some (.ref 0), some (.ref 61), some (.int x3)] [.int s1, .int s0] 94 (I, J, xrf) Q := by
  unfold f_L_law_73 at h
  refine Rn.fi 1 (c := s0 = s1) (p1 := 1374) (l1 := [some (.ref 1009), some (.ref 0), some (.ref 61), some (.int x3)]) (s1 := []) (n1 := 94) (M1 := (I, J, xrf)) (p2 := 742) (l2 := [some (.ref 1009), some (.ref 0), some (.ref 61), some (.int x3)]) (s2 := []) (n2 := 94) (M2 := (I, J, xrf)) (fun f => rfl) (fun hc => ?_) (fun hc => ?_)
  · rw [if_pos hc] at h
    exact p_L_law_155 x3 I J h hC
  · rw [if_neg hc] at h
    obtain ⟨t0, h0, rfl⟩ := Option.map_eq_some_iff.mp h
    exact p_L_law_74 x3 I J h0 hC
set_option maxRecDepth 100000 in
theorem p_L_law_72 {L : Nat} {xs : Nat → Int32} {d : Nat} {Q : xO → Prop} (x3 : Int32) (s0 : Int32) (I : xI) (J : xJ) {t : (Int32 × xI × xJ) ⊕ (Int32 × xI × xJ)} (h : f_L_law_72 L xs x3 s0 I J = some t) (hC : (c_L_law_0 L xs d Q) t) : Rn L xs (d + 32) 309 730 [some (.ref 1009), some (.ref 0), some (.ref 61), some (.int x3)] [.int s0] 94 (I, J, xrf) Q := by
  unfold f_L_law_72 at h
  obtain ⟨hc, h⟩ := xif h
  refine Rn.ok 6 (c := (x3 + 1) < 0 ∨ L ≤ ((x3 + 1)).toNatClampNeg) (p1 := 736) (l1 := [some (.ref 1009), some (.ref 0), some (.ref 61), some (.int x3)]) (s1 := [.int ((xs ((x3 + 1)).toNatClampNeg)), .ref 61, .int s0]) (n1 := 94) (M1 := (I, J, xrf)) (fun f => rfl) hc ?_
  obtain ⟨o, ho, h⟩ := Option.bind_eq_some_iff.mp h
  refine Rn.call (d1 := d + 31) (j1 := 252) (ls1 := [some (.ref 61), some (.int ((xs ((x3 + 1)).toNatClampNeg)))]) (rest := [.int s0]) (fun f => rfl) ?_
  refine p_X12_home (d := d + 24) ((xs ((x3 + 1)).toNatClampNeg)) I J (t := o) ho ?_
  exact p_L_law_73 x3 s0 o.1 o.2.1 o.2.2 h hC
set_option maxRecDepth 100000 in
theorem p_L_law_71 {L : Nat} {xs : Nat → Int32} {d : Nat} {Q : xO → Prop} (x3 : Int32) (I : xI) (J : xJ) {t : (Int32 × xI × xJ) ⊕ (Int32 × xI × xJ)} (h : f_L_law_71 L xs x3 I J = some t) (hC : (c_L_law_0 L xs d Q) t) : Rn L xs (d + 32) 309 721 [some (.ref 1009), some (.ref 0), some (.ref 61), some (.int x3)] [] 94 (I, J, xrf) Q := by
  unfold f_L_law_71 at h
  obtain ⟨hc, h⟩ := xif h
  refine Rn.ok 6 (c := (x3 + 1) < 0 ∨ L ≤ ((x3 + 1)).toNatClampNeg) (p1 := 727) (l1 := [some (.ref 1009), some (.ref 0), some (.ref 61), some (.int x3)]) (s1 := [.int ((xs ((x3 + 1)).toNatClampNeg)), .ref 0]) (n1 := 94) (M1 := (I, J, xrf)) (fun f => rfl) hc ?_
  obtain ⟨o, ho, h⟩ := Option.bind_eq_some_iff.mp h
  refine Rn.call (d1 := d + 31) (j1 := 155) (ls1 := [some (.ref 0), some (.int ((xs ((x3 + 1)).toNatClampNeg)))]) (rest := []) (fun f => rfl) ?_
  refine p_X11_home (d := d + 13) ((xs ((x3 + 1)).toNatClampNeg)) I J (t := o) ho ?_
  exact p_L_law_72 x3 o.1 o.2.1 o.2.2 h hC
set_option maxRecDepth 100000 in
theorem p_L_law_78 {L : Nat} {xs : Nat → Int32} {d : Nat} {Q : xO → Prop} (x3 : Int32) (I : xI) (J : xJ) {t : Int32 × xI × xJ} (h : f_L_law_78 L xs x3 I J = some t) (hC : (c_L_law Q) t) : Rn L xs (d + 32) 309 765 [some (.ref 1009), some (.ref 0), some (.ref 61), some (.int x3)] [] 94 (I, J, xrf) Q := by
  unfold f_L_law_78 at h
  cases h
  exact Rn.ret 2 (o := ((some (.int 0)), 94, (I, J, xrf))) (fun f => rfl) hC
set_option maxRecDepth 100000 in
theorem p_L_law_77 {L : Nat} {xs : Nat → Int32} {d : Nat} {Q : xO → Prop} (x3 : Int32) (s0 : Int32) (s1 : Int32) (I : xI) (J : xJ) {t : (Int32 × xI × xJ) ⊕ (Int32 × xI × xJ)} (h : f_L_law_77 L xs x3 s0 s1 I J = some t) (hC : (c_L_law_0 L xs d Q) t) : Rn L xs (d + 32) 309 762 [some (.ref 1009), some (.ref 0), some (.ref 61), some (.int x3)] [.int s1, .int s0] 94 (I, J, xrf) Q := by
  unfold f_L_law_77 at h
  refine Rn.fi 1 (c := s0 = s1) (p1 := 1374) (l1 := [some (.ref 1009), some (.ref 0), some (.ref 61), some (.int x3)]) (s1 := []) (n1 := 94) (M1 := (I, J, xrf)) (p2 := 765) (l2 := [some (.ref 1009), some (.ref 0), some (.ref 61), some (.int x3)]) (s2 := []) (n2 := 94) (M2 := (I, J, xrf)) (fun f => rfl) (fun hc => ?_) (fun hc => ?_)
  · rw [if_pos hc] at h
    exact p_L_law_155 x3 I J h hC
  · rw [if_neg hc] at h
    obtain ⟨t0, h0, rfl⟩ := Option.map_eq_some_iff.mp h
    exact p_L_law_78 x3 I J h0 hC
set_option maxRecDepth 100000 in
theorem p_L_law_76 {L : Nat} {xs : Nat → Int32} {d : Nat} {Q : xO → Prop} (x3 : Int32) (s0 : Int32) (I : xI) (J : xJ) {t : (Int32 × xI × xJ) ⊕ (Int32 × xI × xJ)} (h : f_L_law_76 L xs x3 s0 I J = some t) (hC : (c_L_law_0 L xs d Q) t) : Rn L xs (d + 32) 309 753 [some (.ref 1009), some (.ref 0), some (.ref 61), some (.int x3)] [.int s0] 94 (I, J, xrf) Q := by
  unfold f_L_law_76 at h
  obtain ⟨hc, h⟩ := xif h
  refine Rn.ok 6 (c := (x3 + 1) < 0 ∨ L ≤ ((x3 + 1)).toNatClampNeg) (p1 := 759) (l1 := [some (.ref 1009), some (.ref 0), some (.ref 61), some (.int x3)]) (s1 := [.int ((xs ((x3 + 1)).toNatClampNeg)), .ref 61, .int s0]) (n1 := 94) (M1 := (I, J, xrf)) (fun f => rfl) hc ?_
  obtain ⟨o, ho, h⟩ := Option.bind_eq_some_iff.mp h
  refine Rn.call (d1 := d + 31) (j1 := 254) (ls1 := [some (.ref 61), some (.int ((xs ((x3 + 1)).toNatClampNeg)))]) (rest := [.int s0]) (fun f => rfl) ?_
  refine p_X12_met (d := d + 24) ((xs ((x3 + 1)).toNatClampNeg)) I J (t := o) ho ?_
  exact p_L_law_77 x3 s0 o.1 o.2.1 o.2.2 h hC
set_option maxRecDepth 100000 in
theorem p_L_law_75 {L : Nat} {xs : Nat → Int32} {d : Nat} {Q : xO → Prop} (x3 : Int32) (I : xI) (J : xJ) {t : (Int32 × xI × xJ) ⊕ (Int32 × xI × xJ)} (h : f_L_law_75 L xs x3 I J = some t) (hC : (c_L_law_0 L xs d Q) t) : Rn L xs (d + 32) 309 744 [some (.ref 1009), some (.ref 0), some (.ref 61), some (.int x3)] [] 94 (I, J, xrf) Q := by
  unfold f_L_law_75 at h
  obtain ⟨hc, h⟩ := xif h
  refine Rn.ok 6 (c := (x3 + 1) < 0 ∨ L ≤ ((x3 + 1)).toNatClampNeg) (p1 := 750) (l1 := [some (.ref 1009), some (.ref 0), some (.ref 61), some (.int x3)]) (s1 := [.int ((xs ((x3 + 1)).toNatClampNeg)), .ref 0]) (n1 := 94) (M1 := (I, J, xrf)) (fun f => rfl) hc ?_
  obtain ⟨o, ho, h⟩ := Option.bind_eq_some_iff.mp h
  refine Rn.call (d1 := d + 31) (j1 := 156) (ls1 := [some (.ref 0), some (.int ((xs ((x3 + 1)).toNatClampNeg)))]) (rest := []) (fun f => rfl) ?_
  refine p_X11_met (d := d + 13) ((xs ((x3 + 1)).toNatClampNeg)) I J (t := o) ho ?_
  exact p_L_law_76 x3 o.1 o.2.1 o.2.2 h hC
set_option maxRecDepth 100000 in
theorem p_L_law_82 {L : Nat} {xs : Nat → Int32} {d : Nat} {Q : xO → Prop} (x3 : Int32) (I : xI) (J : xJ) {t : Int32 × xI × xJ} (h : f_L_law_82 L xs x3 I J = some t) (hC : (c_L_law Q) t) : Rn L xs (d + 32) 309 818 [some (.ref 1009), some (.ref 0), some (.ref 61), some (.int x3)] [] 94 (I, J, xrf) Q := by
  unfold f_L_law_82 at h
  cases h
  exact Rn.ret 2 (o := ((some (.int 0)), 94, (I, J, xrf))) (fun f => rfl) hC
set_option maxRecDepth 100000 in
theorem p_L_law_81 {L : Nat} {xs : Nat → Int32} {d : Nat} {Q : xO → Prop} (x3 : Int32) (s0 : Int32) (s1 : Int32) (I : xI) (J : xJ) {t : (Int32 × xI × xJ) ⊕ (Int32 × xI × xJ)} (h : f_L_law_81 L xs x3 s0 s1 I J = some t) (hC : (c_L_law_0 L xs d Q) t) : Rn L xs (d + 32) 309 815 [some (.ref 1009), some (.ref 0), some (.ref 61), some (.int x3)] [.int s1, .int s0] 94 (I, J, xrf) Q := by
  unfold f_L_law_81 at h
  refine Rn.fi 1 (c := s0 = s1) (p1 := 1374) (l1 := [some (.ref 1009), some (.ref 0), some (.ref 61), some (.int x3)]) (s1 := []) (n1 := 94) (M1 := (I, J, xrf)) (p2 := 818) (l2 := [some (.ref 1009), some (.ref 0), some (.ref 61), some (.int x3)]) (s2 := []) (n2 := 94) (M2 := (I, J, xrf)) (fun f => rfl) (fun hc => ?_) (fun hc => ?_)
  · rw [if_pos hc] at h
    exact p_L_law_155 x3 I J h hC
  · rw [if_neg hc] at h
    obtain ⟨t0, h0, rfl⟩ := Option.map_eq_some_iff.mp h
    exact p_L_law_82 x3 I J h0 hC
set_option maxRecDepth 100000 in
theorem p_L_law_80 {L : Nat} {xs : Nat → Int32} {d : Nat} {Q : xO → Prop} (x3 : Int32) (s0 : Int32) (I : xI) (J : xJ) {t : (Int32 × xI × xJ) ⊕ (Int32 × xI × xJ)} (h : f_L_law_80 L xs x3 s0 I J = some t) (hC : (c_L_law_0 L xs d Q) t) : Rn L xs (d + 32) 309 791 [some (.ref 1009), some (.ref 0), some (.ref 61), some (.int x3)] [.int s0] 94 (I, J, xrf) Q := by
  unfold f_L_law_80 at h
  obtain ⟨hc, h⟩ := xif h
  refine Rn.ok 6 (c := (x3 + 1) < 0 ∨ L ≤ ((x3 + 1)).toNatClampNeg) (p1 := 797) (l1 := [some (.ref 1009), some (.ref 0), some (.ref 61), some (.int x3)]) (s1 := [.int ((xs ((x3 + 1)).toNatClampNeg)), .ref 61, .int s0]) (n1 := 94) (M1 := (I, J, xrf)) (fun f => rfl) hc ?_
  obtain ⟨hc, h⟩ := xif h
  refine Rn.ok 5 (c := (x3 + 2) < 0 ∨ L ≤ ((x3 + 2)).toNatClampNeg) (p1 := 802) (l1 := [some (.ref 1009), some (.ref 0), some (.ref 61), some (.int x3)]) (s1 := [.int ((xs ((x3 + 2)).toNatClampNeg)), .int ((xs ((x3 + 1)).toNatClampNeg)), .ref 61, .int s0]) (n1 := 94) (M1 := (I, J, xrf)) (fun f => rfl) hc ?_
  obtain ⟨hc, h⟩ := xif h
  refine Rn.ok 5 (c := (x3 + 3) < 0 ∨ L ≤ ((x3 + 3)).toNatClampNeg) (p1 := 807) (l1 := [some (.ref 1009), some (.ref 0), some (.ref 61), some (.int x3)]) (s1 := [.int ((xs ((x3 + 3)).toNatClampNeg)), .int ((xs ((x3 + 2)).toNatClampNeg)), .int ((xs ((x3 + 1)).toNatClampNeg)), .ref 61, .int s0]) (n1 := 94) (M1 := (I, J, xrf)) (fun f => rfl) hc ?_
  obtain ⟨hc, h⟩ := xif h
  refine Rn.ok 5 (c := (x3 + 4) < 0 ∨ L ≤ ((x3 + 4)).toNatClampNeg) (p1 := 812) (l1 := [some (.ref 1009), some (.ref 0), some (.ref 61), some (.int x3)]) (s1 := [.int ((xs ((x3 + 4)).toNatClampNeg)), .int ((xs ((x3 + 3)).toNatClampNeg)), .int ((xs ((x3 + 2)).toNatClampNeg)), .int ((xs ((x3 + 1)).toNatClampNeg)), .ref 61, .int s0]) (n1 := 94) (M1 := (I, J, xrf)) (fun f => rfl) hc ?_
  obtain ⟨o, ho, h⟩ := Option.bind_eq_some_iff.mp h
  refine Rn.call (d1 := d + 31) (j1 := 255) (ls1 := [some (.ref 61), some (.int ((xs ((x3 + 1)).toNatClampNeg))), some (.int ((xs ((x3 + 2)).toNatClampNeg))), some (.int ((xs ((x3 + 3)).toNatClampNeg))), some (.int ((xs ((x3 + 4)).toNatClampNeg))), none, none, none, none, none, none, none]) (rest := [.int s0]) (fun f => rfl) ?_
  refine p_X12_run (d := d + 24) ((xs ((x3 + 1)).toNatClampNeg)) ((xs ((x3 + 2)).toNatClampNeg)) ((xs ((x3 + 3)).toNatClampNeg)) ((xs ((x3 + 4)).toNatClampNeg)) I J (t := o) ho ?_
  exact p_L_law_81 x3 s0 o.1 o.2.1 o.2.2 h hC
set_option maxRecDepth 100000 in
theorem p_L_law_79 {L : Nat} {xs : Nat → Int32} {d : Nat} {Q : xO → Prop} (x3 : Int32) (I : xI) (J : xJ) {t : (Int32 × xI × xJ) ⊕ (Int32 × xI × xJ)} (h : f_L_law_79 L xs x3 I J = some t) (hC : (c_L_law_0 L xs d Q) t) : Rn L xs (d + 32) 309 767 [some (.ref 1009), some (.ref 0), some (.ref 61), some (.int x3)] [] 94 (I, J, xrf) Q := by
  unfold f_L_law_79 at h
  obtain ⟨hc, h⟩ := xif h
  refine Rn.ok 6 (c := (x3 + 1) < 0 ∨ L ≤ ((x3 + 1)).toNatClampNeg) (p1 := 773) (l1 := [some (.ref 1009), some (.ref 0), some (.ref 61), some (.int x3)]) (s1 := [.int ((xs ((x3 + 1)).toNatClampNeg)), .ref 0]) (n1 := 94) (M1 := (I, J, xrf)) (fun f => rfl) hc ?_
  obtain ⟨hc, h⟩ := xif h
  refine Rn.ok 5 (c := (x3 + 2) < 0 ∨ L ≤ ((x3 + 2)).toNatClampNeg) (p1 := 778) (l1 := [some (.ref 1009), some (.ref 0), some (.ref 61), some (.int x3)]) (s1 := [.int ((xs ((x3 + 2)).toNatClampNeg)), .int ((xs ((x3 + 1)).toNatClampNeg)), .ref 0]) (n1 := 94) (M1 := (I, J, xrf)) (fun f => rfl) hc ?_
  obtain ⟨hc, h⟩ := xif h
  refine Rn.ok 5 (c := (x3 + 3) < 0 ∨ L ≤ ((x3 + 3)).toNatClampNeg) (p1 := 783) (l1 := [some (.ref 1009), some (.ref 0), some (.ref 61), some (.int x3)]) (s1 := [.int ((xs ((x3 + 3)).toNatClampNeg)), .int ((xs ((x3 + 2)).toNatClampNeg)), .int ((xs ((x3 + 1)).toNatClampNeg)), .ref 0]) (n1 := 94) (M1 := (I, J, xrf)) (fun f => rfl) hc ?_
  obtain ⟨hc, h⟩ := xif h
  refine Rn.ok 5 (c := (x3 + 4) < 0 ∨ L ≤ ((x3 + 4)).toNatClampNeg) (p1 := 788) (l1 := [some (.ref 1009), some (.ref 0), some (.ref 61), some (.int x3)]) (s1 := [.int ((xs ((x3 + 4)).toNatClampNeg)), .int ((xs ((x3 + 3)).toNatClampNeg)), .int ((xs ((x3 + 2)).toNatClampNeg)), .int ((xs ((x3 + 1)).toNatClampNeg)), .ref 0]) (n1 := 94) (M1 := (I, J, xrf)) (fun f => rfl) hc ?_
  obtain ⟨o, ho, h⟩ := Option.bind_eq_some_iff.mp h
  refine Rn.call (d1 := d + 31) (j1 := 157) (ls1 := [some (.ref 0), some (.int ((xs ((x3 + 1)).toNatClampNeg))), some (.int ((xs ((x3 + 2)).toNatClampNeg))), some (.int ((xs ((x3 + 3)).toNatClampNeg))), some (.int ((xs ((x3 + 4)).toNatClampNeg))), none, none, none, none, none, none, none, none, none]) (rest := []) (fun f => rfl) ?_
  refine p_X11_run (d := d + 13) ((xs ((x3 + 1)).toNatClampNeg)) ((xs ((x3 + 2)).toNatClampNeg)) ((xs ((x3 + 3)).toNatClampNeg)) ((xs ((x3 + 4)).toNatClampNeg)) I J (t := o) ho ?_
  exact p_L_law_80 x3 o.1 o.2.1 o.2.2 h hC
set_option maxRecDepth 100000 in
theorem p_L_law_86 {L : Nat} {xs : Nat → Int32} {d : Nat} {Q : xO → Prop} (x3 : Int32) (I : xI) (J : xJ) {t : Int32 × xI × xJ} (h : f_L_law_86 L xs x3 I J = some t) (hC : (c_L_law Q) t) : Rn L xs (d + 32) 309 841 [some (.ref 1009), some (.ref 0), some (.ref 61), some (.int x3)] [] 94 (I, J, xrf) Q := by
  unfold f_L_law_86 at h
  cases h
  exact Rn.ret 2 (o := ((some (.int 0)), 94, (I, J, xrf))) (fun f => rfl) hC
set_option maxRecDepth 100000 in
theorem p_L_law_85 {L : Nat} {xs : Nat → Int32} {d : Nat} {Q : xO → Prop} (x3 : Int32) (s0 : Int32) (s1 : Int32) (I : xI) (J : xJ) {t : (Int32 × xI × xJ) ⊕ (Int32 × xI × xJ)} (h : f_L_law_85 L xs x3 s0 s1 I J = some t) (hC : (c_L_law_0 L xs d Q) t) : Rn L xs (d + 32) 309 838 [some (.ref 1009), some (.ref 0), some (.ref 61), some (.int x3)] [.int s1, .int s0] 94 (I, J, xrf) Q := by
  unfold f_L_law_85 at h
  refine Rn.fi 1 (c := s0 = s1) (p1 := 1374) (l1 := [some (.ref 1009), some (.ref 0), some (.ref 61), some (.int x3)]) (s1 := []) (n1 := 94) (M1 := (I, J, xrf)) (p2 := 841) (l2 := [some (.ref 1009), some (.ref 0), some (.ref 61), some (.int x3)]) (s2 := []) (n2 := 94) (M2 := (I, J, xrf)) (fun f => rfl) (fun hc => ?_) (fun hc => ?_)
  · rw [if_pos hc] at h
    exact p_L_law_155 x3 I J h hC
  · rw [if_neg hc] at h
    obtain ⟨t0, h0, rfl⟩ := Option.map_eq_some_iff.mp h
    exact p_L_law_86 x3 I J h0 hC
set_option maxRecDepth 100000 in
theorem p_L_law_84 {L : Nat} {xs : Nat → Int32} {d : Nat} {Q : xO → Prop} (x3 : Int32) (s0 : Int32) (I : xI) (J : xJ) {t : (Int32 × xI × xJ) ⊕ (Int32 × xI × xJ)} (h : f_L_law_84 L xs x3 s0 I J = some t) (hC : (c_L_law_0 L xs d Q) t) : Rn L xs (d + 32) 309 829 [some (.ref 1009), some (.ref 0), some (.ref 61), some (.int x3)] [.int s0] 94 (I, J, xrf) Q := by
  unfold f_L_law_84 at h
  obtain ⟨hc, h⟩ := xif h
  refine Rn.ok 6 (c := (x3 + 1) < 0 ∨ L ≤ ((x3 + 1)).toNatClampNeg) (p1 := 835) (l1 := [some (.ref 1009), some (.ref 0), some (.ref 61), some (.int x3)]) (s1 := [.int ((xs ((x3 + 1)).toNatClampNeg)), .ref 61, .int s0]) (n1 := 94) (M1 := (I, J, xrf)) (fun f => rfl) hc ?_
  obtain ⟨o, ho, h⟩ := Option.bind_eq_some_iff.mp h
  refine Rn.call (d1 := d + 31) (j1 := 260) (ls1 := [some (.ref 61), some (.int ((xs ((x3 + 1)).toNatClampNeg))), none]) (rest := [.int s0]) (fun f => rfl) ?_
  refine p_X12_goesOn (d := d + 23) ((xs ((x3 + 1)).toNatClampNeg)) I J (t := o) ho ?_
  exact p_L_law_85 x3 s0 o.1 o.2.1 o.2.2 h hC
set_option maxRecDepth 100000 in
theorem p_L_law_83 {L : Nat} {xs : Nat → Int32} {d : Nat} {Q : xO → Prop} (x3 : Int32) (I : xI) (J : xJ) {t : (Int32 × xI × xJ) ⊕ (Int32 × xI × xJ)} (h : f_L_law_83 L xs x3 I J = some t) (hC : (c_L_law_0 L xs d Q) t) : Rn L xs (d + 32) 309 820 [some (.ref 1009), some (.ref 0), some (.ref 61), some (.int x3)] [] 94 (I, J, xrf) Q := by
  unfold f_L_law_83 at h
  obtain ⟨hc, h⟩ := xif h
  refine Rn.ok 6 (c := (x3 + 1) < 0 ∨ L ≤ ((x3 + 1)).toNatClampNeg) (p1 := 826) (l1 := [some (.ref 1009), some (.ref 0), some (.ref 61), some (.int x3)]) (s1 := [.int ((xs ((x3 + 1)).toNatClampNeg)), .ref 0]) (n1 := 94) (M1 := (I, J, xrf)) (fun f => rfl) hc ?_
  obtain ⟨o, ho, h⟩ := Option.bind_eq_some_iff.mp h
  refine Rn.call (d1 := d + 31) (j1 := 158) (ls1 := [some (.ref 0), some (.int ((xs ((x3 + 1)).toNatClampNeg))), none]) (rest := []) (fun f => rfl) ?_
  refine p_X11_goesOn (d := d + 13) ((xs ((x3 + 1)).toNatClampNeg)) I J (t := o) ho ?_
  exact p_L_law_84 x3 o.1 o.2.1 o.2.2 h hC
set_option maxRecDepth 100000 in
theorem p_L_law_90 {L : Nat} {xs : Nat → Int32} {d : Nat} {Q : xO → Prop} (x3 : Int32) (I : xI) (J : xJ) {t : Int32 × xI × xJ} (h : f_L_law_90 L xs x3 I J = some t) (hC : (c_L_law Q) t) : Rn L xs (d + 32) 309 874 [some (.ref 1009), some (.ref 0), some (.ref 61), some (.int x3)] [] 94 (I, J, xrf) Q := by
  unfold f_L_law_90 at h
  cases h
  exact Rn.ret 2 (o := ((some (.int 0)), 94, (I, J, xrf))) (fun f => rfl) hC
set_option maxRecDepth 100000 in
theorem p_L_law_89 {L : Nat} {xs : Nat → Int32} {d : Nat} {Q : xO → Prop} (x3 : Int32) (s0 : Int32) (s1 : Int32) (I : xI) (J : xJ) {t : (Int32 × xI × xJ) ⊕ (Int32 × xI × xJ)} (h : f_L_law_89 L xs x3 s0 s1 I J = some t) (hC : (c_L_law_0 L xs d Q) t) : Rn L xs (d + 32) 309 871 [some (.ref 1009), some (.ref 0), some (.ref 61), some (.int x3)] [.int s1, .int s0] 94 (I, J, xrf) Q := by
  unfold f_L_law_89 at h
  refine Rn.fi 1 (c := s0 = s1) (p1 := 1374) (l1 := [some (.ref 1009), some (.ref 0), some (.ref 61), some (.int x3)]) (s1 := []) (n1 := 94) (M1 := (I, J, xrf)) (p2 := 874) (l2 := [some (.ref 1009), some (.ref 0), some (.ref 61), some (.int x3)]) (s2 := []) (n2 := 94) (M2 := (I, J, xrf)) (fun f => rfl) (fun hc => ?_) (fun hc => ?_)
  · rw [if_pos hc] at h
    exact p_L_law_155 x3 I J h hC
  · rw [if_neg hc] at h
    obtain ⟨t0, h0, rfl⟩ := Option.map_eq_some_iff.mp h
    exact p_L_law_90 x3 I J h0 hC
set_option maxRecDepth 100000 in
theorem p_L_law_88 {L : Nat} {xs : Nat → Int32} {d : Nat} {Q : xO → Prop} (x3 : Int32) (s0 : Int32) (I : xI) (J : xJ) {t : (Int32 × xI × xJ) ⊕ (Int32 × xI × xJ)} (h : f_L_law_88 L xs x3 s0 I J = some t) (hC : (c_L_law_0 L xs d Q) t) : Rn L xs (d + 32) 309 857 [some (.ref 1009), some (.ref 0), some (.ref 61), some (.int x3)] [.int s0] 94 (I, J, xrf) Q := by
  unfold f_L_law_88 at h
  obtain ⟨hc, h⟩ := xif h
  refine Rn.ok 6 (c := (x3 + 1) < 0 ∨ L ≤ ((x3 + 1)).toNatClampNeg) (p1 := 863) (l1 := [some (.ref 1009), some (.ref 0), some (.ref 61), some (.int x3)]) (s1 := [.int ((xs ((x3 + 1)).toNatClampNeg)), .ref 61, .int s0]) (n1 := 94) (M1 := (I, J, xrf)) (fun f => rfl) hc ?_
  obtain ⟨hc, h⟩ := xif h
  refine Rn.ok 5 (c := (x3 + 2) < 0 ∨ L ≤ ((x3 + 2)).toNatClampNeg) (p1 := 868) (l1 := [some (.ref 1009), some (.ref 0), some (.ref 61), some (.int x3)]) (s1 := [.int ((xs ((x3 + 2)).toNatClampNeg)), .int ((xs ((x3 + 1)).toNatClampNeg)), .ref 61, .int s0]) (n1 := 94) (M1 := (I, J, xrf)) (fun f => rfl) hc ?_
  obtain ⟨o, ho, h⟩ := Option.bind_eq_some_iff.mp h
  refine Rn.call (d1 := d + 31) (j1 := 261) (ls1 := [some (.ref 61), some (.int ((xs ((x3 + 1)).toNatClampNeg))), some (.int ((xs ((x3 + 2)).toNatClampNeg))), none, none]) (rest := [.int s0]) (fun f => rfl) ?_
  refine p_X12_together (d := d + 24) ((xs ((x3 + 1)).toNatClampNeg)) ((xs ((x3 + 2)).toNatClampNeg)) I J (t := o) ho ?_
  exact p_L_law_89 x3 s0 o.1 o.2.1 o.2.2 h hC
set_option maxRecDepth 100000 in
theorem p_L_law_87 {L : Nat} {xs : Nat → Int32} {d : Nat} {Q : xO → Prop} (x3 : Int32) (I : xI) (J : xJ) {t : (Int32 × xI × xJ) ⊕ (Int32 × xI × xJ)} (h : f_L_law_87 L xs x3 I J = some t) (hC : (c_L_law_0 L xs d Q) t) : Rn L xs (d + 32) 309 843 [some (.ref 1009), some (.ref 0), some (.ref 61), some (.int x3)] [] 94 (I, J, xrf) Q := by
  unfold f_L_law_87 at h
  obtain ⟨hc, h⟩ := xif h
  refine Rn.ok 6 (c := (x3 + 1) < 0 ∨ L ≤ ((x3 + 1)).toNatClampNeg) (p1 := 849) (l1 := [some (.ref 1009), some (.ref 0), some (.ref 61), some (.int x3)]) (s1 := [.int ((xs ((x3 + 1)).toNatClampNeg)), .ref 0]) (n1 := 94) (M1 := (I, J, xrf)) (fun f => rfl) hc ?_
  obtain ⟨hc, h⟩ := xif h
  refine Rn.ok 5 (c := (x3 + 2) < 0 ∨ L ≤ ((x3 + 2)).toNatClampNeg) (p1 := 854) (l1 := [some (.ref 1009), some (.ref 0), some (.ref 61), some (.int x3)]) (s1 := [.int ((xs ((x3 + 2)).toNatClampNeg)), .int ((xs ((x3 + 1)).toNatClampNeg)), .ref 0]) (n1 := 94) (M1 := (I, J, xrf)) (fun f => rfl) hc ?_
  obtain ⟨o, ho, h⟩ := Option.bind_eq_some_iff.mp h
  refine Rn.call (d1 := d + 31) (j1 := 159) (ls1 := [some (.ref 0), some (.int ((xs ((x3 + 1)).toNatClampNeg))), some (.int ((xs ((x3 + 2)).toNatClampNeg)))]) (rest := []) (fun f => rfl) ?_
  refine p_X11_together (d := d + 13) ((xs ((x3 + 1)).toNatClampNeg)) ((xs ((x3 + 2)).toNatClampNeg)) I J (t := o) ho ?_
  exact p_L_law_88 x3 o.1 o.2.1 o.2.2 h hC
set_option maxRecDepth 100000 in
theorem p_L_law_94 {L : Nat} {xs : Nat → Int32} {d : Nat} {Q : xO → Prop} (x3 : Int32) (I : xI) (J : xJ) {t : Int32 × xI × xJ} (h : f_L_law_94 L xs x3 I J = some t) (hC : (c_L_law Q) t) : Rn L xs (d + 32) 309 897 [some (.ref 1009), some (.ref 0), some (.ref 61), some (.int x3)] [] 94 (I, J, xrf) Q := by
  unfold f_L_law_94 at h
  cases h
  exact Rn.ret 2 (o := ((some (.int 0)), 94, (I, J, xrf))) (fun f => rfl) hC
set_option maxRecDepth 100000 in
theorem p_L_law_93 {L : Nat} {xs : Nat → Int32} {d : Nat} {Q : xO → Prop} (x3 : Int32) (s0 : Int32) (s1 : Int32) (I : xI) (J : xJ) {t : (Int32 × xI × xJ) ⊕ (Int32 × xI × xJ)} (h : f_L_law_93 L xs x3 s0 s1 I J = some t) (hC : (c_L_law_0 L xs d Q) t) : Rn L xs (d + 32) 309 894 [some (.ref 1009), some (.ref 0), some (.ref 61), some (.int x3)] [.int s1, .int s0] 94 (I, J, xrf) Q := by
  unfold f_L_law_93 at h
  refine Rn.fi 1 (c := s0 = s1) (p1 := 1374) (l1 := [some (.ref 1009), some (.ref 0), some (.ref 61), some (.int x3)]) (s1 := []) (n1 := 94) (M1 := (I, J, xrf)) (p2 := 897) (l2 := [some (.ref 1009), some (.ref 0), some (.ref 61), some (.int x3)]) (s2 := []) (n2 := 94) (M2 := (I, J, xrf)) (fun f => rfl) (fun hc => ?_) (fun hc => ?_)
  · rw [if_pos hc] at h
    exact p_L_law_155 x3 I J h hC
  · rw [if_neg hc] at h
    obtain ⟨t0, h0, rfl⟩ := Option.map_eq_some_iff.mp h
    exact p_L_law_94 x3 I J h0 hC
set_option maxRecDepth 100000 in
theorem p_L_law_92 {L : Nat} {xs : Nat → Int32} {d : Nat} {Q : xO → Prop} (x3 : Int32) (s0 : Int32) (I : xI) (J : xJ) {t : (Int32 × xI × xJ) ⊕ (Int32 × xI × xJ)} (h : f_L_law_92 L xs x3 s0 I J = some t) (hC : (c_L_law_0 L xs d Q) t) : Rn L xs (d + 32) 309 885 [some (.ref 1009), some (.ref 0), some (.ref 61), some (.int x3)] [.int s0] 94 (I, J, xrf) Q := by
  unfold f_L_law_92 at h
  obtain ⟨hc, h⟩ := xif h
  refine Rn.ok 6 (c := (x3 + 1) < 0 ∨ L ≤ ((x3 + 1)).toNatClampNeg) (p1 := 891) (l1 := [some (.ref 1009), some (.ref 0), some (.ref 61), some (.int x3)]) (s1 := [.int ((xs ((x3 + 1)).toNatClampNeg)), .ref 61, .int s0]) (n1 := 94) (M1 := (I, J, xrf)) (fun f => rfl) hc ?_
  obtain ⟨o, ho, h⟩ := Option.bind_eq_some_iff.mp h
  refine Rn.call (d1 := d + 31) (j1 := 262) (ls1 := [some (.ref 61), some (.int ((xs ((x3 + 1)).toNatClampNeg))), none, none]) (rest := [.int s0]) (fun f => rfl) ?_
  refine p_X12_partition (d := d + 24) ((xs ((x3 + 1)).toNatClampNeg)) I J (t := o) ho ?_
  exact p_L_law_93 x3 s0 o.1 o.2.1 o.2.2 h hC
set_option maxRecDepth 100000 in
theorem p_L_law_91 {L : Nat} {xs : Nat → Int32} {d : Nat} {Q : xO → Prop} (x3 : Int32) (I : xI) (J : xJ) {t : (Int32 × xI × xJ) ⊕ (Int32 × xI × xJ)} (h : f_L_law_91 L xs x3 I J = some t) (hC : (c_L_law_0 L xs d Q) t) : Rn L xs (d + 32) 309 876 [some (.ref 1009), some (.ref 0), some (.ref 61), some (.int x3)] [] 94 (I, J, xrf) Q := by
  unfold f_L_law_91 at h
  obtain ⟨hc, h⟩ := xif h
  refine Rn.ok 6 (c := (x3 + 1) < 0 ∨ L ≤ ((x3 + 1)).toNatClampNeg) (p1 := 882) (l1 := [some (.ref 1009), some (.ref 0), some (.ref 61), some (.int x3)]) (s1 := [.int ((xs ((x3 + 1)).toNatClampNeg)), .ref 0]) (n1 := 94) (M1 := (I, J, xrf)) (fun f => rfl) hc ?_
  obtain ⟨o, ho, h⟩ := Option.bind_eq_some_iff.mp h
  refine Rn.call (d1 := d + 31) (j1 := 160) (ls1 := [some (.ref 0), some (.int ((xs ((x3 + 1)).toNatClampNeg))), none]) (rest := []) (fun f => rfl) ?_
  refine p_X11_partition (d := d + 13) ((xs ((x3 + 1)).toNatClampNeg)) I J (t := o) ho ?_
  exact p_L_law_92 x3 o.1 o.2.1 o.2.2 h hC
set_option maxRecDepth 100000 in
theorem p_L_law_98 {L : Nat} {xs : Nat → Int32} {d : Nat} {Q : xO → Prop} (x3 : Int32) (I : xI) (J : xJ) {t : Int32 × xI × xJ} (h : f_L_law_98 L xs x3 I J = some t) (hC : (c_L_law Q) t) : Rn L xs (d + 32) 309 920 [some (.ref 1009), some (.ref 0), some (.ref 61), some (.int x3)] [] 94 (I, J, xrf) Q := by
  unfold f_L_law_98 at h
  cases h
  exact Rn.ret 2 (o := ((some (.int 0)), 94, (I, J, xrf))) (fun f => rfl) hC
set_option maxRecDepth 100000 in
theorem p_L_law_97 {L : Nat} {xs : Nat → Int32} {d : Nat} {Q : xO → Prop} (x3 : Int32) (s0 : Int32) (s1 : Int32) (I : xI) (J : xJ) {t : (Int32 × xI × xJ) ⊕ (Int32 × xI × xJ)} (h : f_L_law_97 L xs x3 s0 s1 I J = some t) (hC : (c_L_law_0 L xs d Q) t) : Rn L xs (d + 32) 309 917 [some (.ref 1009), some (.ref 0), some (.ref 61), some (.int x3)] [.int s1, .int s0] 94 (I, J, xrf) Q := by
  unfold f_L_law_97 at h
  refine Rn.fi 1 (c := s0 = s1) (p1 := 1374) (l1 := [some (.ref 1009), some (.ref 0), some (.ref 61), some (.int x3)]) (s1 := []) (n1 := 94) (M1 := (I, J, xrf)) (p2 := 920) (l2 := [some (.ref 1009), some (.ref 0), some (.ref 61), some (.int x3)]) (s2 := []) (n2 := 94) (M2 := (I, J, xrf)) (fun f => rfl) (fun hc => ?_) (fun hc => ?_)
  · rw [if_pos hc] at h
    exact p_L_law_155 x3 I J h hC
  · rw [if_neg hc] at h
    obtain ⟨t0, h0, rfl⟩ := Option.map_eq_some_iff.mp h
    exact p_L_law_98 x3 I J h0 hC
set_option maxRecDepth 100000 in
theorem p_L_law_96 {L : Nat} {xs : Nat → Int32} {d : Nat} {Q : xO → Prop} (x3 : Int32) (s0 : Int32) (I : xI) (J : xJ) {t : (Int32 × xI × xJ) ⊕ (Int32 × xI × xJ)} (h : f_L_law_96 L xs x3 s0 I J = some t) (hC : (c_L_law_0 L xs d Q) t) : Rn L xs (d + 32) 309 908 [some (.ref 1009), some (.ref 0), some (.ref 61), some (.int x3)] [.int s0] 94 (I, J, xrf) Q := by
  unfold f_L_law_96 at h
  obtain ⟨hc, h⟩ := xif h
  refine Rn.ok 6 (c := (x3 + 1) < 0 ∨ L ≤ ((x3 + 1)).toNatClampNeg) (p1 := 914) (l1 := [some (.ref 1009), some (.ref 0), some (.ref 61), some (.int x3)]) (s1 := [.int ((xs ((x3 + 1)).toNatClampNeg)), .ref 61, .int s0]) (n1 := 94) (M1 := (I, J, xrf)) (fun f => rfl) hc ?_
  obtain ⟨o, ho, h⟩ := Option.bind_eq_some_iff.mp h
  refine Rn.call (d1 := d + 31) (j1 := 263) (ls1 := [some (.ref 61), some (.int ((xs ((x3 + 1)).toNatClampNeg))), none, none, none]) (rest := [.int s0]) (fun f => rfl) ?_
  refine p_X12_into (d := d + 23) ((xs ((x3 + 1)).toNatClampNeg)) I J (t := o) ho ?_
  exact p_L_law_97 x3 s0 o.1 o.2.1 o.2.2 h hC
set_option maxRecDepth 100000 in
theorem p_L_law_95 {L : Nat} {xs : Nat → Int32} {d : Nat} {Q : xO → Prop} (x3 : Int32) (I : xI) (J : xJ) {t : (Int32 × xI × xJ) ⊕ (Int32 × xI × xJ)} (h : f_L_law_95 L xs x3 I J = some t) (hC : (c_L_law_0 L xs d Q) t) : Rn L xs (d + 32) 309 899 [some (.ref 1009), some (.ref 0), some (.ref 61), some (.int x3)] [] 94 (I, J, xrf) Q := by
  unfold f_L_law_95 at h
  obtain ⟨hc, h⟩ := xif h
  refine Rn.ok 6 (c := (x3 + 1) < 0 ∨ L ≤ ((x3 + 1)).toNatClampNeg) (p1 := 905) (l1 := [some (.ref 1009), some (.ref 0), some (.ref 61), some (.int x3)]) (s1 := [.int ((xs ((x3 + 1)).toNatClampNeg)), .ref 0]) (n1 := 94) (M1 := (I, J, xrf)) (fun f => rfl) hc ?_
  obtain ⟨o, ho, h⟩ := Option.bind_eq_some_iff.mp h
  refine Rn.call (d1 := d + 31) (j1 := 161) (ls1 := [some (.ref 0), some (.int ((xs ((x3 + 1)).toNatClampNeg))), none]) (rest := []) (fun f => rfl) ?_
  refine p_X11_into (d := d + 13) ((xs ((x3 + 1)).toNatClampNeg)) I J (t := o) ho ?_
  exact p_L_law_96 x3 o.1 o.2.1 o.2.2 h hC
set_option maxRecDepth 100000 in
theorem p_L_law_102 {L : Nat} {xs : Nat → Int32} {d : Nat} {Q : xO → Prop} (x3 : Int32) (I : xI) (J : xJ) {t : Int32 × xI × xJ} (h : f_L_law_102 L xs x3 I J = some t) (hC : (c_L_law Q) t) : Rn L xs (d + 32) 309 943 [some (.ref 1009), some (.ref 0), some (.ref 61), some (.int x3)] [] 94 (I, J, xrf) Q := by
  unfold f_L_law_102 at h
  cases h
  exact Rn.ret 2 (o := ((some (.int 0)), 94, (I, J, xrf))) (fun f => rfl) hC
set_option maxRecDepth 100000 in
theorem p_L_law_101 {L : Nat} {xs : Nat → Int32} {d : Nat} {Q : xO → Prop} (x3 : Int32) (s0 : Int32) (s1 : Int32) (I : xI) (J : xJ) {t : (Int32 × xI × xJ) ⊕ (Int32 × xI × xJ)} (h : f_L_law_101 L xs x3 s0 s1 I J = some t) (hC : (c_L_law_0 L xs d Q) t) : Rn L xs (d + 32) 309 940 [some (.ref 1009), some (.ref 0), some (.ref 61), some (.int x3)] [.int s1, .int s0] 94 (I, J, xrf) Q := by
  unfold f_L_law_101 at h
  refine Rn.fi 1 (c := s0 = s1) (p1 := 1374) (l1 := [some (.ref 1009), some (.ref 0), some (.ref 61), some (.int x3)]) (s1 := []) (n1 := 94) (M1 := (I, J, xrf)) (p2 := 943) (l2 := [some (.ref 1009), some (.ref 0), some (.ref 61), some (.int x3)]) (s2 := []) (n2 := 94) (M2 := (I, J, xrf)) (fun f => rfl) (fun hc => ?_) (fun hc => ?_)
  · rw [if_pos hc] at h
    exact p_L_law_155 x3 I J h hC
  · rw [if_neg hc] at h
    obtain ⟨t0, h0, rfl⟩ := Option.map_eq_some_iff.mp h
    exact p_L_law_102 x3 I J h0 hC
set_option maxRecDepth 100000 in
theorem p_L_law_100 {L : Nat} {xs : Nat → Int32} {d : Nat} {Q : xO → Prop} (x3 : Int32) (s0 : Int32) (I : xI) (J : xJ) {t : (Int32 × xI × xJ) ⊕ (Int32 × xI × xJ)} (h : f_L_law_100 L xs x3 s0 I J = some t) (hC : (c_L_law_0 L xs d Q) t) : Rn L xs (d + 32) 309 931 [some (.ref 1009), some (.ref 0), some (.ref 61), some (.int x3)] [.int s0] 94 (I, J, xrf) Q := by
  unfold f_L_law_100 at h
  obtain ⟨hc, h⟩ := xif h
  refine Rn.ok 6 (c := (x3 + 1) < 0 ∨ L ≤ ((x3 + 1)).toNatClampNeg) (p1 := 937) (l1 := [some (.ref 1009), some (.ref 0), some (.ref 61), some (.int x3)]) (s1 := [.int ((xs ((x3 + 1)).toNatClampNeg)), .ref 61, .int s0]) (n1 := 94) (M1 := (I, J, xrf)) (fun f => rfl) hc ?_
  obtain ⟨o, ho, h⟩ := Option.bind_eq_some_iff.mp h
  refine Rn.call (d1 := d + 31) (j1 := 265) (ls1 := [some (.ref 61), some (.int ((xs ((x3 + 1)).toNatClampNeg))), none, none, none, none, none]) (rest := [.int s0]) (fun f => rfl) ?_
  refine p_X12_split (d := d + 24) ((xs ((x3 + 1)).toNatClampNeg)) I J (t := o) ho ?_
  exact p_L_law_101 x3 s0 o.1 o.2.1 o.2.2 h hC
set_option maxRecDepth 100000 in
theorem p_L_law_99 {L : Nat} {xs : Nat → Int32} {d : Nat} {Q : xO → Prop} (x3 : Int32) (I : xI) (J : xJ) {t : (Int32 × xI × xJ) ⊕ (Int32 × xI × xJ)} (h : f_L_law_99 L xs x3 I J = some t) (hC : (c_L_law_0 L xs d Q) t) : Rn L xs (d + 32) 309 922 [some (.ref 1009), some (.ref 0), some (.ref 61), some (.int x3)] [] 94 (I, J, xrf) Q := by
  unfold f_L_law_99 at h
  obtain ⟨hc, h⟩ := xif h
  refine Rn.ok 6 (c := (x3 + 1) < 0 ∨ L ≤ ((x3 + 1)).toNatClampNeg) (p1 := 928) (l1 := [some (.ref 1009), some (.ref 0), some (.ref 61), some (.int x3)]) (s1 := [.int ((xs ((x3 + 1)).toNatClampNeg)), .ref 0]) (n1 := 94) (M1 := (I, J, xrf)) (fun f => rfl) hc ?_
  obtain ⟨o, ho, h⟩ := Option.bind_eq_some_iff.mp h
  refine Rn.call (d1 := d + 31) (j1 := 162) (ls1 := [some (.ref 0), some (.int ((xs ((x3 + 1)).toNatClampNeg)))]) (rest := []) (fun f => rfl) ?_
  refine p_X11_split (d := d + 13) ((xs ((x3 + 1)).toNatClampNeg)) I J (t := o) ho ?_
  exact p_L_law_100 x3 o.1 o.2.1 o.2.2 h hC
set_option maxRecDepth 100000 in
theorem p_L_law_106 {L : Nat} {xs : Nat → Int32} {d : Nat} {Q : xO → Prop} (x3 : Int32) (I : xI) (J : xJ) {t : Int32 × xI × xJ} (h : f_L_law_106 L xs x3 I J = some t) (hC : (c_L_law Q) t) : Rn L xs (d + 32) 309 966 [some (.ref 1009), some (.ref 0), some (.ref 61), some (.int x3)] [] 94 (I, J, xrf) Q := by
  unfold f_L_law_106 at h
  cases h
  exact Rn.ret 2 (o := ((some (.int 0)), 94, (I, J, xrf))) (fun f => rfl) hC
set_option maxRecDepth 100000 in
theorem p_L_law_105 {L : Nat} {xs : Nat → Int32} {d : Nat} {Q : xO → Prop} (x3 : Int32) (s0 : Int32) (s1 : Int32) (I : xI) (J : xJ) {t : (Int32 × xI × xJ) ⊕ (Int32 × xI × xJ)} (h : f_L_law_105 L xs x3 s0 s1 I J = some t) (hC : (c_L_law_0 L xs d Q) t) : Rn L xs (d + 32) 309 963 [some (.ref 1009), some (.ref 0), some (.ref 61), some (.int x3)] [.int s1, .int s0] 94 (I, J, xrf) Q := by
  unfold f_L_law_105 at h
  refine Rn.fi 1 (c := s0 = s1) (p1 := 1374) (l1 := [some (.ref 1009), some (.ref 0), some (.ref 61), some (.int x3)]) (s1 := []) (n1 := 94) (M1 := (I, J, xrf)) (p2 := 966) (l2 := [some (.ref 1009), some (.ref 0), some (.ref 61), some (.int x3)]) (s2 := []) (n2 := 94) (M2 := (I, J, xrf)) (fun f => rfl) (fun hc => ?_) (fun hc => ?_)
  · rw [if_pos hc] at h
    exact p_L_law_155 x3 I J h hC
  · rw [if_neg hc] at h
    obtain ⟨t0, h0, rfl⟩ := Option.map_eq_some_iff.mp h
    exact p_L_law_106 x3 I J h0 hC
set_option maxRecDepth 100000 in
theorem p_L_law_104 {L : Nat} {xs : Nat → Int32} {d : Nat} {Q : xO → Prop} (x3 : Int32) (s0 : Int32) (I : xI) (J : xJ) {t : (Int32 × xI × xJ) ⊕ (Int32 × xI × xJ)} (h : f_L_law_104 L xs x3 s0 I J = some t) (hC : (c_L_law_0 L xs d Q) t) : Rn L xs (d + 32) 309 954 [some (.ref 1009), some (.ref 0), some (.ref 61), some (.int x3)] [.int s0] 94 (I, J, xrf) Q := by
  unfold f_L_law_104 at h
  obtain ⟨hc, h⟩ := xif h
  refine Rn.ok 6 (c := (x3 + 1) < 0 ∨ L ≤ ((x3 + 1)).toNatClampNeg) (p1 := 960) (l1 := [some (.ref 1009), some (.ref 0), some (.ref 61), some (.int x3)]) (s1 := [.int ((xs ((x3 + 1)).toNatClampNeg)), .ref 61, .int s0]) (n1 := 94) (M1 := (I, J, xrf)) (fun f => rfl) hc ?_
  obtain ⟨o, ho, h⟩ := Option.bind_eq_some_iff.mp h
  refine Rn.call (d1 := d + 31) (j1 := 267) (ls1 := [some (.ref 61), some (.int ((xs ((x3 + 1)).toNatClampNeg))), none]) (rest := [.int s0]) (fun f => rfl) ?_
  refine p_X12_tail (d := d + 23) ((xs ((x3 + 1)).toNatClampNeg)) I J (t := o) ho ?_
  exact p_L_law_105 x3 s0 o.1 o.2.1 o.2.2 h hC
set_option maxRecDepth 100000 in
theorem p_L_law_103 {L : Nat} {xs : Nat → Int32} {d : Nat} {Q : xO → Prop} (x3 : Int32) (I : xI) (J : xJ) {t : (Int32 × xI × xJ) ⊕ (Int32 × xI × xJ)} (h : f_L_law_103 L xs x3 I J = some t) (hC : (c_L_law_0 L xs d Q) t) : Rn L xs (d + 32) 309 945 [some (.ref 1009), some (.ref 0), some (.ref 61), some (.int x3)] [] 94 (I, J, xrf) Q := by
  unfold f_L_law_103 at h
  obtain ⟨hc, h⟩ := xif h
  refine Rn.ok 6 (c := (x3 + 1) < 0 ∨ L ≤ ((x3 + 1)).toNatClampNeg) (p1 := 951) (l1 := [some (.ref 1009), some (.ref 0), some (.ref 61), some (.int x3)]) (s1 := [.int ((xs ((x3 + 1)).toNatClampNeg)), .ref 0]) (n1 := 94) (M1 := (I, J, xrf)) (fun f => rfl) hc ?_
  obtain ⟨o, ho, h⟩ := Option.bind_eq_some_iff.mp h
  refine Rn.call (d1 := d + 31) (j1 := 163) (ls1 := [some (.ref 0), some (.int ((xs ((x3 + 1)).toNatClampNeg))), none]) (rest := []) (fun f => rfl) ?_
  refine p_X11_tail (d := d + 13) ((xs ((x3 + 1)).toNatClampNeg)) I J (t := o) ho ?_
  exact p_L_law_104 x3 o.1 o.2.1 o.2.2 h hC
set_option maxRecDepth 100000 in
theorem p_L_law_110 {L : Nat} {xs : Nat → Int32} {d : Nat} {Q : xO → Prop} (x3 : Int32) (I : xI) (J : xJ) {t : Int32 × xI × xJ} (h : f_L_law_110 L xs x3 I J = some t) (hC : (c_L_law Q) t) : Rn L xs (d + 32) 309 1009 [some (.ref 1009), some (.ref 0), some (.ref 61), some (.int x3)] [] 94 (I, J, xrf) Q := by
  unfold f_L_law_110 at h
  cases h
  exact Rn.ret 2 (o := ((some (.int 0)), 94, (I, J, xrf))) (fun f => rfl) hC
set_option maxRecDepth 100000 in
theorem p_L_law_109 {L : Nat} {xs : Nat → Int32} {d : Nat} {Q : xO → Prop} (x3 : Int32) (s0 : Int32) (s1 : Int32) (I : xI) (J : xJ) {t : (Int32 × xI × xJ) ⊕ (Int32 × xI × xJ)} (h : f_L_law_109 L xs x3 s0 s1 I J = some t) (hC : (c_L_law_0 L xs d Q) t) : Rn L xs (d + 32) 309 1006 [some (.ref 1009), some (.ref 0), some (.ref 61), some (.int x3)] [.int s1, .int s0] 94 (I, J, xrf) Q := by
  unfold f_L_law_109 at h
  refine Rn.fi 1 (c := s0 = s1) (p1 := 1374) (l1 := [some (.ref 1009), some (.ref 0), some (.ref 61), some (.int x3)]) (s1 := []) (n1 := 94) (M1 := (I, J, xrf)) (p2 := 1009) (l2 := [some (.ref 1009), some (.ref 0), some (.ref 61), some (.int x3)]) (s2 := []) (n2 := 94) (M2 := (I, J, xrf)) (fun f => rfl) (fun hc => ?_) (fun hc => ?_)
  · rw [if_pos hc] at h
    exact p_L_law_155 x3 I J h hC
  · rw [if_neg hc] at h
    obtain ⟨t0, h0, rfl⟩ := Option.map_eq_some_iff.mp h
    exact p_L_law_110 x3 I J h0 hC
set_option maxRecDepth 100000 in
theorem p_L_law_108 {L : Nat} {xs : Nat → Int32} {d : Nat} {Q : xO → Prop} (x3 : Int32) (s0 : Int32) (I : xI) (J : xJ) {t : (Int32 × xI × xJ) ⊕ (Int32 × xI × xJ)} (h : f_L_law_108 L xs x3 s0 I J = some t) (hC : (c_L_law_0 L xs d Q) t) : Rn L xs (d + 32) 309 987 [some (.ref 1009), some (.ref 0), some (.ref 61), some (.int x3)] [.int s0] 94 (I, J, xrf) Q := by
  unfold f_L_law_108 at h
  obtain ⟨hc, h⟩ := xif h
  refine Rn.ok 6 (c := (x3 + 1) < 0 ∨ L ≤ ((x3 + 1)).toNatClampNeg) (p1 := 993) (l1 := [some (.ref 1009), some (.ref 0), some (.ref 61), some (.int x3)]) (s1 := [.int ((xs ((x3 + 1)).toNatClampNeg)), .ref 61, .int s0]) (n1 := 94) (M1 := (I, J, xrf)) (fun f => rfl) hc ?_
  obtain ⟨hc, h⟩ := xif h
  refine Rn.ok 5 (c := (x3 + 2) < 0 ∨ L ≤ ((x3 + 2)).toNatClampNeg) (p1 := 998) (l1 := [some (.ref 1009), some (.ref 0), some (.ref 61), some (.int x3)]) (s1 := [.int ((xs ((x3 + 2)).toNatClampNeg)), .int ((xs ((x3 + 1)).toNatClampNeg)), .ref 61, .int s0]) (n1 := 94) (M1 := (I, J, xrf)) (fun f => rfl) hc ?_
  obtain ⟨hc, h⟩ := xif h
  refine Rn.ok 5 (c := (x3 + 3) < 0 ∨ L ≤ ((x3 + 3)).toNatClampNeg) (p1 := 1003) (l1 := [some (.ref 1009), some (.ref 0), some (.ref 61), some (.int x3)]) (s1 := [.int ((xs ((x3 + 3)).toNatClampNeg)), .int ((xs ((x3 + 2)).toNatClampNeg)), .int ((xs ((x3 + 1)).toNatClampNeg)), .ref 61, .int s0]) (n1 := 94) (M1 := (I, J, xrf)) (fun f => rfl) hc ?_
  obtain ⟨o, ho, h⟩ := Option.bind_eq_some_iff.mp h
  refine Rn.call (d1 := d + 31) (j1 := 269) (ls1 := [some (.ref 61), some (.int ((xs ((x3 + 1)).toNatClampNeg))), some (.int ((xs ((x3 + 2)).toNatClampNeg))), some (.int ((xs ((x3 + 3)).toNatClampNeg))), none]) (rest := [.int s0]) (fun f => rfl) ?_
  refine p_X12_part (d := d + 23) ((xs ((x3 + 1)).toNatClampNeg)) ((xs ((x3 + 2)).toNatClampNeg)) ((xs ((x3 + 3)).toNatClampNeg)) I J (t := o) ho ?_
  exact p_L_law_109 x3 s0 o.1 o.2.1 o.2.2 h hC
set_option maxRecDepth 100000 in
theorem p_L_law_107 {L : Nat} {xs : Nat → Int32} {d : Nat} {Q : xO → Prop} (x3 : Int32) (I : xI) (J : xJ) {t : (Int32 × xI × xJ) ⊕ (Int32 × xI × xJ)} (h : f_L_law_107 L xs x3 I J = some t) (hC : (c_L_law_0 L xs d Q) t) : Rn L xs (d + 32) 309 968 [some (.ref 1009), some (.ref 0), some (.ref 61), some (.int x3)] [] 94 (I, J, xrf) Q := by
  unfold f_L_law_107 at h
  obtain ⟨hc, h⟩ := xif h
  refine Rn.ok 6 (c := (x3 + 1) < 0 ∨ L ≤ ((x3 + 1)).toNatClampNeg) (p1 := 974) (l1 := [some (.ref 1009), some (.ref 0), some (.ref 61), some (.int x3)]) (s1 := [.int ((xs ((x3 + 1)).toNatClampNeg)), .ref 0]) (n1 := 94) (M1 := (I, J, xrf)) (fun f => rfl) hc ?_
  obtain ⟨hc, h⟩ := xif h
  refine Rn.ok 5 (c := (x3 + 2) < 0 ∨ L ≤ ((x3 + 2)).toNatClampNeg) (p1 := 979) (l1 := [some (.ref 1009), some (.ref 0), some (.ref 61), some (.int x3)]) (s1 := [.int ((xs ((x3 + 2)).toNatClampNeg)), .int ((xs ((x3 + 1)).toNatClampNeg)), .ref 0]) (n1 := 94) (M1 := (I, J, xrf)) (fun f => rfl) hc ?_
  obtain ⟨hc, h⟩ := xif h
  refine Rn.ok 5 (c := (x3 + 3) < 0 ∨ L ≤ ((x3 + 3)).toNatClampNeg) (p1 := 984) (l1 := [some (.ref 1009), some (.ref 0), some (.ref 61), some (.int x3)]) (s1 := [.int ((xs ((x3 + 3)).toNatClampNeg)), .int ((xs ((x3 + 2)).toNatClampNeg)), .int ((xs ((x3 + 1)).toNatClampNeg)), .ref 0]) (n1 := 94) (M1 := (I, J, xrf)) (fun f => rfl) hc ?_
  obtain ⟨o, ho, h⟩ := Option.bind_eq_some_iff.mp h
  refine Rn.call (d1 := d + 31) (j1 := 164) (ls1 := [some (.ref 0), some (.int ((xs ((x3 + 1)).toNatClampNeg))), some (.int ((xs ((x3 + 2)).toNatClampNeg))), some (.int ((xs ((x3 + 3)).toNatClampNeg))), none]) (rest := []) (fun f => rfl) ?_
  refine p_X11_part (d := d + 13) ((xs ((x3 + 1)).toNatClampNeg)) ((xs ((x3 + 2)).toNatClampNeg)) ((xs ((x3 + 3)).toNatClampNeg)) I J (t := o) ho ?_
  exact p_L_law_108 x3 o.1 o.2.1 o.2.2 h hC
set_option maxRecDepth 100000 in
theorem p_L_law_114 {L : Nat} {xs : Nat → Int32} {d : Nat} {Q : xO → Prop} (x3 : Int32) (I : xI) (J : xJ) {t : Int32 × xI × xJ} (h : f_L_law_114 L xs x3 I J = some t) (hC : (c_L_law Q) t) : Rn L xs (d + 32) 309 1072 [some (.ref 1009), some (.ref 0), some (.ref 61), some (.int x3)] [] 94 (I, J, xrf) Q := by
  unfold f_L_law_114 at h
  cases h
  exact Rn.ret 2 (o := ((some (.int 0)), 94, (I, J, xrf))) (fun f => rfl) hC
set_option maxRecDepth 100000 in
theorem p_L_law_113 {L : Nat} {xs : Nat → Int32} {d : Nat} {Q : xO → Prop} (x3 : Int32) (s0 : Int32) (s1 : Int32) (I : xI) (J : xJ) {t : (Int32 × xI × xJ) ⊕ (Int32 × xI × xJ)} (h : f_L_law_113 L xs x3 s0 s1 I J = some t) (hC : (c_L_law_0 L xs d Q) t) : Rn L xs (d + 32) 309 1069 [some (.ref 1009), some (.ref 0), some (.ref 61), some (.int x3)] [.int s1, .int s0] 94 (I, J, xrf) Q := by
  unfold f_L_law_113 at h
  refine Rn.fi 1 (c := s0 = s1) (p1 := 1374) (l1 := [some (.ref 1009), some (.ref 0), some (.ref 61), some (.int x3)]) (s1 := []) (n1 := 94) (M1 := (I, J, xrf)) (p2 := 1072) (l2 := [some (.ref 1009), some (.ref 0), some (.ref 61), some (.int x3)]) (s2 := []) (n2 := 94) (M2 := (I, J, xrf)) (fun f => rfl) (fun hc => ?_) (fun hc => ?_)
  · rw [if_pos hc] at h
    exact p_L_law_155 x3 I J h hC
  · rw [if_neg hc] at h
    obtain ⟨t0, h0, rfl⟩ := Option.map_eq_some_iff.mp h
    exact p_L_law_114 x3 I J h0 hC
set_option maxRecDepth 100000 in
theorem p_L_law_112 {L : Nat} {xs : Nat → Int32} {d : Nat} {Q : xO → Prop} (x3 : Int32) (s0 : Int32) (I : xI) (J : xJ) {t : (Int32 × xI × xJ) ⊕ (Int32 × xI × xJ)} (h : f_L_law_112 L xs x3 s0 I J = some t) (hC : (c_L_law_0 L xs d Q) t) : Rn L xs (d + 32) 309 1040 [some (.ref 1009), some (.ref 0), some (.ref 61), some (.int x3)] [.int s0] 94 (I, J, xrf) Q := by
  unfold f_L_law_112 at h
  obtain ⟨hc, h⟩ := xif h
  refine Rn.ok 6 (c := (x3 + 1) < 0 ∨ L ≤ ((x3 + 1)).toNatClampNeg) (p1 := 1046) (l1 := [some (.ref 1009), some (.ref 0), some (.ref 61), some (.int x3)]) (s1 := [.int ((xs ((x3 + 1)).toNatClampNeg)), .ref 61, .int s0]) (n1 := 94) (M1 := (I, J, xrf)) (fun f => rfl) hc ?_
  obtain ⟨hc, h⟩ := xif h
  refine Rn.ok 5 (c := (x3 + 2) < 0 ∨ L ≤ ((x3 + 2)).toNatClampNeg) (p1 := 1051) (l1 := [some (.ref 1009), some (.ref 0), some (.ref 61), some (.int x3)]) (s1 := [.int ((xs ((x3 + 2)).toNatClampNeg)), .int ((xs ((x3 + 1)).toNatClampNeg)), .ref 61, .int s0]) (n1 := 94) (M1 := (I, J, xrf)) (fun f => rfl) hc ?_
  obtain ⟨hc, h⟩ := xif h
  refine Rn.ok 5 (c := (x3 + 3) < 0 ∨ L ≤ ((x3 + 3)).toNatClampNeg) (p1 := 1056) (l1 := [some (.ref 1009), some (.ref 0), some (.ref 61), some (.int x3)]) (s1 := [.int ((xs ((x3 + 3)).toNatClampNeg)), .int ((xs ((x3 + 2)).toNatClampNeg)), .int ((xs ((x3 + 1)).toNatClampNeg)), .ref 61, .int s0]) (n1 := 94) (M1 := (I, J, xrf)) (fun f => rfl) hc ?_
  obtain ⟨hc, h⟩ := xif h
  refine Rn.ok 5 (c := (x3 + 4) < 0 ∨ L ≤ ((x3 + 4)).toNatClampNeg) (p1 := 1061) (l1 := [some (.ref 1009), some (.ref 0), some (.ref 61), some (.int x3)]) (s1 := [.int ((xs ((x3 + 4)).toNatClampNeg)), .int ((xs ((x3 + 3)).toNatClampNeg)), .int ((xs ((x3 + 2)).toNatClampNeg)), .int ((xs ((x3 + 1)).toNatClampNeg)), .ref 61, .int s0]) (n1 := 94) (M1 := (I, J, xrf)) (fun f => rfl) hc ?_
  obtain ⟨hc, h⟩ := xif h
  refine Rn.ok 5 (c := (x3 + 5) < 0 ∨ L ≤ ((x3 + 5)).toNatClampNeg) (p1 := 1066) (l1 := [some (.ref 1009), some (.ref 0), some (.ref 61), some (.int x3)]) (s1 := [.int ((xs ((x3 + 5)).toNatClampNeg)), .int ((xs ((x3 + 4)).toNatClampNeg)), .int ((xs ((x3 + 3)).toNatClampNeg)), .int ((xs ((x3 + 2)).toNatClampNeg)), .int ((xs ((x3 + 1)).toNatClampNeg)), .ref 61, .int s0]) (n1 := 94) (M1 := (I, J, xrf)) (fun f => rfl) hc ?_
  obtain ⟨o, ho, h⟩ := Option.bind_eq_some_iff.mp h
  refine Rn.call (d1 := d + 31) (j1 := 270) (ls1 := [some (.ref 61), some (.int ((xs ((x3 + 1)).toNatClampNeg))), some (.int ((xs ((x3 + 2)).toNatClampNeg))), some (.int ((xs ((x3 + 3)).toNatClampNeg))), some (.int ((xs ((x3 + 4)).toNatClampNeg))), some (.int ((xs ((x3 + 5)).toNatClampNeg))), none, none, none]) (rest := [.int s0]) (fun f => rfl) ?_
  refine p_X12_series (d := d + 23) ((xs ((x3 + 1)).toNatClampNeg)) ((xs ((x3 + 2)).toNatClampNeg)) ((xs ((x3 + 3)).toNatClampNeg)) ((xs ((x3 + 4)).toNatClampNeg)) ((xs ((x3 + 5)).toNatClampNeg)) I J (t := o) ho ?_
  exact p_L_law_113 x3 s0 o.1 o.2.1 o.2.2 h hC
set_option maxRecDepth 100000 in
theorem p_L_law_111 {L : Nat} {xs : Nat → Int32} {d : Nat} {Q : xO → Prop} (x3 : Int32) (I : xI) (J : xJ) {t : (Int32 × xI × xJ) ⊕ (Int32 × xI × xJ)} (h : f_L_law_111 L xs x3 I J = some t) (hC : (c_L_law_0 L xs d Q) t) : Rn L xs (d + 32) 309 1011 [some (.ref 1009), some (.ref 0), some (.ref 61), some (.int x3)] [] 94 (I, J, xrf) Q := by
  unfold f_L_law_111 at h
  obtain ⟨hc, h⟩ := xif h
  refine Rn.ok 6 (c := (x3 + 1) < 0 ∨ L ≤ ((x3 + 1)).toNatClampNeg) (p1 := 1017) (l1 := [some (.ref 1009), some (.ref 0), some (.ref 61), some (.int x3)]) (s1 := [.int ((xs ((x3 + 1)).toNatClampNeg)), .ref 0]) (n1 := 94) (M1 := (I, J, xrf)) (fun f => rfl) hc ?_
  obtain ⟨hc, h⟩ := xif h
  refine Rn.ok 5 (c := (x3 + 2) < 0 ∨ L ≤ ((x3 + 2)).toNatClampNeg) (p1 := 1022) (l1 := [some (.ref 1009), some (.ref 0), some (.ref 61), some (.int x3)]) (s1 := [.int ((xs ((x3 + 2)).toNatClampNeg)), .int ((xs ((x3 + 1)).toNatClampNeg)), .ref 0]) (n1 := 94) (M1 := (I, J, xrf)) (fun f => rfl) hc ?_
  obtain ⟨hc, h⟩ := xif h
  refine Rn.ok 5 (c := (x3 + 3) < 0 ∨ L ≤ ((x3 + 3)).toNatClampNeg) (p1 := 1027) (l1 := [some (.ref 1009), some (.ref 0), some (.ref 61), some (.int x3)]) (s1 := [.int ((xs ((x3 + 3)).toNatClampNeg)), .int ((xs ((x3 + 2)).toNatClampNeg)), .int ((xs ((x3 + 1)).toNatClampNeg)), .ref 0]) (n1 := 94) (M1 := (I, J, xrf)) (fun f => rfl) hc ?_
  obtain ⟨hc, h⟩ := xif h
  refine Rn.ok 5 (c := (x3 + 4) < 0 ∨ L ≤ ((x3 + 4)).toNatClampNeg) (p1 := 1032) (l1 := [some (.ref 1009), some (.ref 0), some (.ref 61), some (.int x3)]) (s1 := [.int ((xs ((x3 + 4)).toNatClampNeg)), .int ((xs ((x3 + 3)).toNatClampNeg)), .int ((xs ((x3 + 2)).toNatClampNeg)), .int ((xs ((x3 + 1)).toNatClampNeg)), .ref 0]) (n1 := 94) (M1 := (I, J, xrf)) (fun f => rfl) hc ?_
  obtain ⟨hc, h⟩ := xif h
  refine Rn.ok 5 (c := (x3 + 5) < 0 ∨ L ≤ ((x3 + 5)).toNatClampNeg) (p1 := 1037) (l1 := [some (.ref 1009), some (.ref 0), some (.ref 61), some (.int x3)]) (s1 := [.int ((xs ((x3 + 5)).toNatClampNeg)), .int ((xs ((x3 + 4)).toNatClampNeg)), .int ((xs ((x3 + 3)).toNatClampNeg)), .int ((xs ((x3 + 2)).toNatClampNeg)), .int ((xs ((x3 + 1)).toNatClampNeg)), .ref 0]) (n1 := 94) (M1 := (I, J, xrf)) (fun f => rfl) hc ?_
  obtain ⟨o, ho, h⟩ := Option.bind_eq_some_iff.mp h
  refine Rn.call (d1 := d + 31) (j1 := 165) (ls1 := [some (.ref 0), some (.int ((xs ((x3 + 1)).toNatClampNeg))), some (.int ((xs ((x3 + 2)).toNatClampNeg))), some (.int ((xs ((x3 + 3)).toNatClampNeg))), some (.int ((xs ((x3 + 4)).toNatClampNeg))), some (.int ((xs ((x3 + 5)).toNatClampNeg))), none, none, none, none]) (rest := []) (fun f => rfl) ?_
  refine p_X11_series (d := d + 13) ((xs ((x3 + 1)).toNatClampNeg)) ((xs ((x3 + 2)).toNatClampNeg)) ((xs ((x3 + 3)).toNatClampNeg)) ((xs ((x3 + 4)).toNatClampNeg)) ((xs ((x3 + 5)).toNatClampNeg)) I J (t := o) ho ?_
  exact p_L_law_112 x3 o.1 o.2.1 o.2.2 h hC
set_option maxRecDepth 100000 in
theorem p_L_law_118 {L : Nat} {xs : Nat → Int32} {d : Nat} {Q : xO → Prop} (x3 : Int32) (I : xI) (J : xJ) {t : Int32 × xI × xJ} (h : f_L_law_118 L xs x3 I J = some t) (hC : (c_L_law Q) t) : Rn L xs (d + 32) 309 1135 [some (.ref 1009), some (.ref 0), some (.ref 61), some (.int x3)] [] 94 (I, J, xrf) Q := by
  unfold f_L_law_118 at h
  cases h
  exact Rn.ret 2 (o := ((some (.int 0)), 94, (I, J, xrf))) (fun f => rfl) hC
set_option maxRecDepth 100000 in
theorem p_L_law_117 {L : Nat} {xs : Nat → Int32} {d : Nat} {Q : xO → Prop} (x3 : Int32) (s0 : Int32) (s1 : Int32) (I : xI) (J : xJ) {t : (Int32 × xI × xJ) ⊕ (Int32 × xI × xJ)} (h : f_L_law_117 L xs x3 s0 s1 I J = some t) (hC : (c_L_law_0 L xs d Q) t) : Rn L xs (d + 32) 309 1132 [some (.ref 1009), some (.ref 0), some (.ref 61), some (.int x3)] [.int s1, .int s0] 94 (I, J, xrf) Q := by
  unfold f_L_law_117 at h
  refine Rn.fi 1 (c := s0 = s1) (p1 := 1374) (l1 := [some (.ref 1009), some (.ref 0), some (.ref 61), some (.int x3)]) (s1 := []) (n1 := 94) (M1 := (I, J, xrf)) (p2 := 1135) (l2 := [some (.ref 1009), some (.ref 0), some (.ref 61), some (.int x3)]) (s2 := []) (n2 := 94) (M2 := (I, J, xrf)) (fun f => rfl) (fun hc => ?_) (fun hc => ?_)
  · rw [if_pos hc] at h
    exact p_L_law_155 x3 I J h hC
  · rw [if_neg hc] at h
    obtain ⟨t0, h0, rfl⟩ := Option.map_eq_some_iff.mp h
    exact p_L_law_118 x3 I J h0 hC
set_option maxRecDepth 100000 in
theorem p_L_law_116 {L : Nat} {xs : Nat → Int32} {d : Nat} {Q : xO → Prop} (x3 : Int32) (s0 : Int32) (I : xI) (J : xJ) {t : (Int32 × xI × xJ) ⊕ (Int32 × xI × xJ)} (h : f_L_law_116 L xs x3 s0 I J = some t) (hC : (c_L_law_0 L xs d Q) t) : Rn L xs (d + 32) 309 1103 [some (.ref 1009), some (.ref 0), some (.ref 61), some (.int x3)] [.int s0] 94 (I, J, xrf) Q := by
  unfold f_L_law_116 at h
  obtain ⟨hc, h⟩ := xif h
  refine Rn.ok 6 (c := (x3 + 1) < 0 ∨ L ≤ ((x3 + 1)).toNatClampNeg) (p1 := 1109) (l1 := [some (.ref 1009), some (.ref 0), some (.ref 61), some (.int x3)]) (s1 := [.int ((xs ((x3 + 1)).toNatClampNeg)), .ref 61, .int s0]) (n1 := 94) (M1 := (I, J, xrf)) (fun f => rfl) hc ?_
  obtain ⟨hc, h⟩ := xif h
  refine Rn.ok 5 (c := (x3 + 2) < 0 ∨ L ≤ ((x3 + 2)).toNatClampNeg) (p1 := 1114) (l1 := [some (.ref 1009), some (.ref 0), some (.ref 61), some (.int x3)]) (s1 := [.int ((xs ((x3 + 2)).toNatClampNeg)), .int ((xs ((x3 + 1)).toNatClampNeg)), .ref 61, .int s0]) (n1 := 94) (M1 := (I, J, xrf)) (fun f => rfl) hc ?_
  obtain ⟨hc, h⟩ := xif h
  refine Rn.ok 5 (c := (x3 + 3) < 0 ∨ L ≤ ((x3 + 3)).toNatClampNeg) (p1 := 1119) (l1 := [some (.ref 1009), some (.ref 0), some (.ref 61), some (.int x3)]) (s1 := [.int ((xs ((x3 + 3)).toNatClampNeg)), .int ((xs ((x3 + 2)).toNatClampNeg)), .int ((xs ((x3 + 1)).toNatClampNeg)), .ref 61, .int s0]) (n1 := 94) (M1 := (I, J, xrf)) (fun f => rfl) hc ?_
  obtain ⟨hc, h⟩ := xif h
  refine Rn.ok 5 (c := (x3 + 4) < 0 ∨ L ≤ ((x3 + 4)).toNatClampNeg) (p1 := 1124) (l1 := [some (.ref 1009), some (.ref 0), some (.ref 61), some (.int x3)]) (s1 := [.int ((xs ((x3 + 4)).toNatClampNeg)), .int ((xs ((x3 + 3)).toNatClampNeg)), .int ((xs ((x3 + 2)).toNatClampNeg)), .int ((xs ((x3 + 1)).toNatClampNeg)), .ref 61, .int s0]) (n1 := 94) (M1 := (I, J, xrf)) (fun f => rfl) hc ?_
  obtain ⟨hc, h⟩ := xif h
  refine Rn.ok 5 (c := (x3 + 5) < 0 ∨ L ≤ ((x3 + 5)).toNatClampNeg) (p1 := 1129) (l1 := [some (.ref 1009), some (.ref 0), some (.ref 61), some (.int x3)]) (s1 := [.int ((xs ((x3 + 5)).toNatClampNeg)), .int ((xs ((x3 + 4)).toNatClampNeg)), .int ((xs ((x3 + 3)).toNatClampNeg)), .int ((xs ((x3 + 2)).toNatClampNeg)), .int ((xs ((x3 + 1)).toNatClampNeg)), .ref 61, .int s0]) (n1 := 94) (M1 := (I, J, xrf)) (fun f => rfl) hc ?_
  obtain ⟨o, ho, h⟩ := Option.bind_eq_some_iff.mp h
  refine Rn.call (d1 := d + 31) (j1 := 271) (ls1 := [some (.ref 61), some (.int ((xs ((x3 + 1)).toNatClampNeg))), some (.int ((xs ((x3 + 2)).toNatClampNeg))), some (.int ((xs ((x3 + 3)).toNatClampNeg))), some (.int ((xs ((x3 + 4)).toNatClampNeg))), some (.int ((xs ((x3 + 5)).toNatClampNeg))), none, none, none, none, none, none, none, none]) (rest := [.int s0]) (fun f => rfl) ?_
  refine p_X12_beside (d := d + 23) ((xs ((x3 + 1)).toNatClampNeg)) ((xs ((x3 + 2)).toNatClampNeg)) ((xs ((x3 + 3)).toNatClampNeg)) ((xs ((x3 + 4)).toNatClampNeg)) ((xs ((x3 + 5)).toNatClampNeg)) I J (t := o) ho ?_
  exact p_L_law_117 x3 s0 o.1 o.2.1 o.2.2 h hC
set_option maxRecDepth 100000 in
theorem p_L_law_115 {L : Nat} {xs : Nat → Int32} {d : Nat} {Q : xO → Prop} (x3 : Int32) (I : xI) (J : xJ) {t : (Int32 × xI × xJ) ⊕ (Int32 × xI × xJ)} (h : f_L_law_115 L xs x3 I J = some t) (hC : (c_L_law_0 L xs d Q) t) : Rn L xs (d + 32) 309 1074 [some (.ref 1009), some (.ref 0), some (.ref 61), some (.int x3)] [] 94 (I, J, xrf) Q := by
  unfold f_L_law_115 at h
  obtain ⟨hc, h⟩ := xif h
  refine Rn.ok 6 (c := (x3 + 1) < 0 ∨ L ≤ ((x3 + 1)).toNatClampNeg) (p1 := 1080) (l1 := [some (.ref 1009), some (.ref 0), some (.ref 61), some (.int x3)]) (s1 := [.int ((xs ((x3 + 1)).toNatClampNeg)), .ref 0]) (n1 := 94) (M1 := (I, J, xrf)) (fun f => rfl) hc ?_
  obtain ⟨hc, h⟩ := xif h
  refine Rn.ok 5 (c := (x3 + 2) < 0 ∨ L ≤ ((x3 + 2)).toNatClampNeg) (p1 := 1085) (l1 := [some (.ref 1009), some (.ref 0), some (.ref 61), some (.int x3)]) (s1 := [.int ((xs ((x3 + 2)).toNatClampNeg)), .int ((xs ((x3 + 1)).toNatClampNeg)), .ref 0]) (n1 := 94) (M1 := (I, J, xrf)) (fun f => rfl) hc ?_
  obtain ⟨hc, h⟩ := xif h
  refine Rn.ok 5 (c := (x3 + 3) < 0 ∨ L ≤ ((x3 + 3)).toNatClampNeg) (p1 := 1090) (l1 := [some (.ref 1009), some (.ref 0), some (.ref 61), some (.int x3)]) (s1 := [.int ((xs ((x3 + 3)).toNatClampNeg)), .int ((xs ((x3 + 2)).toNatClampNeg)), .int ((xs ((x3 + 1)).toNatClampNeg)), .ref 0]) (n1 := 94) (M1 := (I, J, xrf)) (fun f => rfl) hc ?_
  obtain ⟨hc, h⟩ := xif h
  refine Rn.ok 5 (c := (x3 + 4) < 0 ∨ L ≤ ((x3 + 4)).toNatClampNeg) (p1 := 1095) (l1 := [some (.ref 1009), some (.ref 0), some (.ref 61), some (.int x3)]) (s1 := [.int ((xs ((x3 + 4)).toNatClampNeg)), .int ((xs ((x3 + 3)).toNatClampNeg)), .int ((xs ((x3 + 2)).toNatClampNeg)), .int ((xs ((x3 + 1)).toNatClampNeg)), .ref 0]) (n1 := 94) (M1 := (I, J, xrf)) (fun f => rfl) hc ?_
  obtain ⟨hc, h⟩ := xif h
  refine Rn.ok 5 (c := (x3 + 5) < 0 ∨ L ≤ ((x3 + 5)).toNatClampNeg) (p1 := 1100) (l1 := [some (.ref 1009), some (.ref 0), some (.ref 61), some (.int x3)]) (s1 := [.int ((xs ((x3 + 5)).toNatClampNeg)), .int ((xs ((x3 + 4)).toNatClampNeg)), .int ((xs ((x3 + 3)).toNatClampNeg)), .int ((xs ((x3 + 2)).toNatClampNeg)), .int ((xs ((x3 + 1)).toNatClampNeg)), .ref 0]) (n1 := 94) (M1 := (I, J, xrf)) (fun f => rfl) hc ?_
  obtain ⟨o, ho, h⟩ := Option.bind_eq_some_iff.mp h
  refine Rn.call (d1 := d + 31) (j1 := 166) (ls1 := [some (.ref 0), some (.int ((xs ((x3 + 1)).toNatClampNeg))), some (.int ((xs ((x3 + 2)).toNatClampNeg))), some (.int ((xs ((x3 + 3)).toNatClampNeg))), some (.int ((xs ((x3 + 4)).toNatClampNeg))), some (.int ((xs ((x3 + 5)).toNatClampNeg))), none, none, none, none, none, none, none, none]) (rest := []) (fun f => rfl) ?_
  refine p_X11_beside (d := d + 13) ((xs ((x3 + 1)).toNatClampNeg)) ((xs ((x3 + 2)).toNatClampNeg)) ((xs ((x3 + 3)).toNatClampNeg)) ((xs ((x3 + 4)).toNatClampNeg)) ((xs ((x3 + 5)).toNatClampNeg)) I J (t := o) ho ?_
  exact p_L_law_116 x3 o.1 o.2.1 o.2.2 h hC
set_option maxRecDepth 100000 in
theorem p_L_law_122 {L : Nat} {xs : Nat → Int32} {d : Nat} {Q : xO → Prop} (x3 : Int32) (I : xI) (J : xJ) {t : Int32 × xI × xJ} (h : f_L_law_122 L xs x3 I J = some t) (hC : (c_L_law Q) t) : Rn L xs (d + 32) 309 1168 [some (.ref 1009), some (.ref 0), some (.ref 61), some (.int x3)] [] 94 (I, J, xrf) Q := by
  unfold f_L_law_122 at h
  cases h
  exact Rn.ret 2 (o := ((some (.int 0)), 94, (I, J, xrf))) (fun f => rfl) hC
set_option maxRecDepth 100000 in
theorem p_L_law_121 {L : Nat} {xs : Nat → Int32} {d : Nat} {Q : xO → Prop} (x3 : Int32) (s0 : Int32) (s1 : Int32) (I : xI) (J : xJ) {t : (Int32 × xI × xJ) ⊕ (Int32 × xI × xJ)} (h : f_L_law_121 L xs x3 s0 s1 I J = some t) (hC : (c_L_law_0 L xs d Q) t) : Rn L xs (d + 32) 309 1165 [some (.ref 1009), some (.ref 0), some (.ref 61), some (.int x3)] [.int s1, .int s0] 94 (I, J, xrf) Q := by
  unfold f_L_law_121 at h
  refine Rn.fi 1 (c := s0 = s1) (p1 := 1374) (l1 := [some (.ref 1009), some (.ref 0), some (.ref 61), some (.int x3)]) (s1 := []) (n1 := 94) (M1 := (I, J, xrf)) (p2 := 1168) (l2 := [some (.ref 1009), some (.ref 0), some (.ref 61), some (.int x3)]) (s2 := []) (n2 := 94) (M2 := (I, J, xrf)) (fun f => rfl) (fun hc => ?_) (fun hc => ?_)
  · rw [if_pos hc] at h
    exact p_L_law_155 x3 I J h hC
  · rw [if_neg hc] at h
    obtain ⟨t0, h0, rfl⟩ := Option.map_eq_some_iff.mp h
    exact p_L_law_122 x3 I J h0 hC
set_option maxRecDepth 100000 in
theorem p_L_law_120 {L : Nat} {xs : Nat → Int32} {d : Nat} {Q : xO → Prop} (x3 : Int32) (s0 : Int32) (I : xI) (J : xJ) {t : (Int32 × xI × xJ) ⊕ (Int32 × xI × xJ)} (h : f_L_law_120 L xs x3 s0 I J = some t) (hC : (c_L_law_0 L xs d Q) t) : Rn L xs (d + 32) 309 1151 [some (.ref 1009), some (.ref 0), some (.ref 61), some (.int x3)] [.int s0] 94 (I, J, xrf) Q := by
  unfold f_L_law_120 at h
  obtain ⟨hc, h⟩ := xif h
  refine Rn.ok 6 (c := (x3 + 1) < 0 ∨ L ≤ ((x3 + 1)).toNatClampNeg) (p1 := 1157) (l1 := [some (.ref 1009), some (.ref 0), some (.ref 61), some (.int x3)]) (s1 := [.int ((xs ((x3 + 1)).toNatClampNeg)), .ref 61, .int s0]) (n1 := 94) (M1 := (I, J, xrf)) (fun f => rfl) hc ?_
  obtain ⟨hc, h⟩ := xif h
  refine Rn.ok 5 (c := (x3 + 2) < 0 ∨ L ≤ ((x3 + 2)).toNatClampNeg) (p1 := 1162) (l1 := [some (.ref 1009), some (.ref 0), some (.ref 61), some (.int x3)]) (s1 := [.int ((xs ((x3 + 2)).toNatClampNeg)), .int ((xs ((x3 + 1)).toNatClampNeg)), .ref 61, .int s0]) (n1 := 94) (M1 := (I, J, xrf)) (fun f => rfl) hc ?_
  obtain ⟨o, ho, h⟩ := Option.bind_eq_some_iff.mp h
  refine Rn.call (d1 := d + 31) (j1 := 277) (ls1 := [some (.ref 61), some (.int ((xs ((x3 + 1)).toNatClampNeg))), some (.int ((xs ((x3 + 2)).toNatClampNeg))), none]) (rest := [.int s0]) (fun f => rfl) ?_
  refine p_X12_hangs (d := d + 27) ((xs ((x3 + 1)).toNatClampNeg)) ((xs ((x3 + 2)).toNatClampNeg)) I J (t := o) ho ?_
  exact p_L_law_121 x3 s0 o.1 o.2.1 o.2.2 h hC
set_option maxRecDepth 100000 in
theorem p_L_law_119 {L : Nat} {xs : Nat → Int32} {d : Nat} {Q : xO → Prop} (x3 : Int32) (I : xI) (J : xJ) {t : (Int32 × xI × xJ) ⊕ (Int32 × xI × xJ)} (h : f_L_law_119 L xs x3 I J = some t) (hC : (c_L_law_0 L xs d Q) t) : Rn L xs (d + 32) 309 1137 [some (.ref 1009), some (.ref 0), some (.ref 61), some (.int x3)] [] 94 (I, J, xrf) Q := by
  unfold f_L_law_119 at h
  obtain ⟨hc, h⟩ := xif h
  refine Rn.ok 6 (c := (x3 + 1) < 0 ∨ L ≤ ((x3 + 1)).toNatClampNeg) (p1 := 1143) (l1 := [some (.ref 1009), some (.ref 0), some (.ref 61), some (.int x3)]) (s1 := [.int ((xs ((x3 + 1)).toNatClampNeg)), .ref 0]) (n1 := 94) (M1 := (I, J, xrf)) (fun f => rfl) hc ?_
  obtain ⟨hc, h⟩ := xif h
  refine Rn.ok 5 (c := (x3 + 2) < 0 ∨ L ≤ ((x3 + 2)).toNatClampNeg) (p1 := 1148) (l1 := [some (.ref 1009), some (.ref 0), some (.ref 61), some (.int x3)]) (s1 := [.int ((xs ((x3 + 2)).toNatClampNeg)), .int ((xs ((x3 + 1)).toNatClampNeg)), .ref 0]) (n1 := 94) (M1 := (I, J, xrf)) (fun f => rfl) hc ?_
  obtain ⟨o, ho, h⟩ := Option.bind_eq_some_iff.mp h
  refine Rn.call (d1 := d + 31) (j1 := 167) (ls1 := [some (.ref 0), some (.int ((xs ((x3 + 1)).toNatClampNeg))), some (.int ((xs ((x3 + 2)).toNatClampNeg))), none]) (rest := []) (fun f => rfl) ?_
  refine p_X11_hangs (d := d + 25) ((xs ((x3 + 1)).toNatClampNeg)) ((xs ((x3 + 2)).toNatClampNeg)) I J (t := o) ho ?_
  exact p_L_law_120 x3 o.1 o.2.1 o.2.2 h hC
set_option maxRecDepth 100000 in
theorem p_L_law_126 {L : Nat} {xs : Nat → Int32} {d : Nat} {Q : xO → Prop} (x3 : Int32) (I : xI) (J : xJ) {t : Int32 × xI × xJ} (h : f_L_law_126 L xs x3 I J = some t) (hC : (c_L_law Q) t) : Rn L xs (d + 32) 309 1181 [some (.ref 1009), some (.ref 0), some (.ref 61), some (.int x3)] [] 94 (I, J, xrf) Q := by
  unfold f_L_law_126 at h
  cases h
  exact Rn.ret 2 (o := ((some (.int 0)), 94, (I, J, xrf))) (fun f => rfl) hC
set_option maxRecDepth 100000 in
theorem p_L_law_125 {L : Nat} {xs : Nat → Int32} {d : Nat} {Q : xO → Prop} (x3 : Int32) (s0 : Int32) (s1 : Int32) (I : xI) (J : xJ) {t : (Int32 × xI × xJ) ⊕ (Int32 × xI × xJ)} (h : f_L_law_125 L xs x3 s0 s1 I J = some t) (hC : (c_L_law_0 L xs d Q) t) : Rn L xs (d + 32) 309 1178 [some (.ref 1009), some (.ref 0), some (.ref 61), some (.int x3)] [.int s1, .int s0] 94 (I, J, xrf) Q := by
  unfold f_L_law_125 at h
  refine Rn.fi 1 (c := s0 = s1) (p1 := 1374) (l1 := [some (.ref 1009), some (.ref 0), some (.ref 61), some (.int x3)]) (s1 := []) (n1 := 94) (M1 := (I, J, xrf)) (p2 := 1181) (l2 := [some (.ref 1009), some (.ref 0), some (.ref 61), some (.int x3)]) (s2 := []) (n2 := 94) (M2 := (I, J, xrf)) (fun f => rfl) (fun hc => ?_) (fun hc => ?_)
  · rw [if_pos hc] at h
    exact p_L_law_155 x3 I J h hC
  · rw [if_neg hc] at h
    obtain ⟨t0, h0, rfl⟩ := Option.map_eq_some_iff.mp h
    exact p_L_law_126 x3 I J h0 hC
set_option maxRecDepth 100000 in
theorem p_L_law_124 {L : Nat} {xs : Nat → Int32} {d : Nat} {Q : xO → Prop} (x3 : Int32) (s0 : Int32) (I : xI) (J : xJ) {t : (Int32 × xI × xJ) ⊕ (Int32 × xI × xJ)} (h : f_L_law_124 L xs x3 s0 I J = some t) (hC : (c_L_law_0 L xs d Q) t) : Rn L xs (d + 32) 309 1174 [some (.ref 1009), some (.ref 0), some (.ref 61), some (.int x3)] [.int s0] 94 (I, J, xrf) Q := by
  unfold f_L_law_124 at h
  refine Rn.go 1 (j' := 309) (pc' := 1175) (ls' := [some (.ref 1009), some (.ref 0), some (.ref 61), some (.int x3)]) (st' := [.ref 61, .int s0]) (n' := 94) (M' := (I, J, xrf)) (fun f => rfl) ?_
  obtain ⟨o, ho, h⟩ := Option.bind_eq_some_iff.mp h
  refine Rn.call (d1 := d + 31) (j1 := 279) (ls1 := [some (.ref 61)]) (rest := [.int s0]) (fun f => rfl) ?_
  refine p_X12_cost (d := d + 26) I J (t := o) ho ?_
  exact p_L_law_125 x3 s0 o.1 o.2.1 o.2.2 h hC
set_option maxRecDepth 100000 in
theorem p_L_law_123 {L : Nat} {xs : Nat → Int32} {d : Nat} {Q : xO → Prop} (x3 : Int32) (I : xI) (J : xJ) {t : (Int32 × xI × xJ) ⊕ (Int32 × xI × xJ)} (h : f_L_law_123 L xs x3 I J = some t) (hC : (c_L_law_0 L xs d Q) t) : Rn L xs (d + 32) 309 1170 [some (.ref 1009), some (.ref 0), some (.ref 61), some (.int x3)] [] 94 (I, J, xrf) Q := by
  unfold f_L_law_123 at h
  refine Rn.go 1 (j' := 309) (pc' := 1171) (ls' := [some (.ref 1009), some (.ref 0), some (.ref 61), some (.int x3)]) (st' := [.ref 0]) (n' := 94) (M' := (I, J, xrf)) (fun f => rfl) ?_
  obtain ⟨o, ho, h⟩ := Option.bind_eq_some_iff.mp h
  refine Rn.call (d1 := d + 31) (j1 := 168) (ls1 := [some (.ref 0)]) (rest := []) (fun f => rfl) ?_
  refine p_X11_cost (d := d + 25) I J (t := o) ho ?_
  exact p_L_law_124 x3 o.1 o.2.1 o.2.2 h hC
set_option maxRecDepth 100000 in
theorem p_L_law_130 {L : Nat} {xs : Nat → Int32} {d : Nat} {Q : xO → Prop} (x3 : Int32) (I : xI) (J : xJ) {t : Int32 × xI × xJ} (h : f_L_law_130 L xs x3 I J = some t) (hC : (c_L_law Q) t) : Rn L xs (d + 32) 309 1224 [some (.ref 1009), some (.ref 0), some (.ref 61), some (.int x3)] [] 94 (I, J, xrf) Q := by
  unfold f_L_law_130 at h
  cases h
  exact Rn.ret 2 (o := ((some (.int 0)), 94, (I, J, xrf))) (fun f => rfl) hC
set_option maxRecDepth 100000 in
theorem p_L_law_129 {L : Nat} {xs : Nat → Int32} {d : Nat} {Q : xO → Prop} (x3 : Int32) (s0 : Int32) (s1 : Int32) (I : xI) (J : xJ) {t : (Int32 × xI × xJ) ⊕ (Int32 × xI × xJ)} (h : f_L_law_129 L xs x3 s0 s1 I J = some t) (hC : (c_L_law_0 L xs d Q) t) : Rn L xs (d + 32) 309 1221 [some (.ref 1009), some (.ref 0), some (.ref 61), some (.int x3)] [.int s1, .int s0] 94 (I, J, xrf) Q := by
  unfold f_L_law_129 at h
  refine Rn.fi 1 (c := s0 = s1) (p1 := 1374) (l1 := [some (.ref 1009), some (.ref 0), some (.ref 61), some (.int x3)]) (s1 := []) (n1 := 94) (M1 := (I, J, xrf)) (p2 := 1224) (l2 := [some (.ref 1009), some (.ref 0), some (.ref 61), some (.int x3)]) (s2 := []) (n2 := 94) (M2 := (I, J, xrf)) (fun f => rfl) (fun hc => ?_) (fun hc => ?_)
  · rw [if_pos hc] at h
    exact p_L_law_155 x3 I J h hC
  · rw [if_neg hc] at h
    obtain ⟨t0, h0, rfl⟩ := Option.map_eq_some_iff.mp h
    exact p_L_law_130 x3 I J h0 hC
set_option maxRecDepth 100000 in
theorem p_L_law_128 {L : Nat} {xs : Nat → Int32} {d : Nat} {Q : xO → Prop} (x3 : Int32) (s0 : Int32) (I : xI) (J : xJ) {t : (Int32 × xI × xJ) ⊕ (Int32 × xI × xJ)} (h : f_L_law_128 L xs x3 s0 I J = some t) (hC : (c_L_law_0 L xs d Q) t) : Rn L xs (d + 32) 309 1202 [some (.ref 1009), some (.ref 0), some (.ref 61), some (.int x3)] [.int s0] 94 (I, J, xrf) Q := by
  unfold f_L_law_128 at h
  obtain ⟨hc, h⟩ := xif h
  refine Rn.ok 6 (c := (x3 + 1) < 0 ∨ L ≤ ((x3 + 1)).toNatClampNeg) (p1 := 1208) (l1 := [some (.ref 1009), some (.ref 0), some (.ref 61), some (.int x3)]) (s1 := [.int ((xs ((x3 + 1)).toNatClampNeg)), .ref 61, .int s0]) (n1 := 94) (M1 := (I, J, xrf)) (fun f => rfl) hc ?_
  obtain ⟨hc, h⟩ := xif h
  refine Rn.ok 5 (c := (x3 + 2) < 0 ∨ L ≤ ((x3 + 2)).toNatClampNeg) (p1 := 1213) (l1 := [some (.ref 1009), some (.ref 0), some (.ref 61), some (.int x3)]) (s1 := [.int ((xs ((x3 + 2)).toNatClampNeg)), .int ((xs ((x3 + 1)).toNatClampNeg)), .ref 61, .int s0]) (n1 := 94) (M1 := (I, J, xrf)) (fun f => rfl) hc ?_
  obtain ⟨hc, h⟩ := xif h
  refine Rn.ok 5 (c := (x3 + 3) < 0 ∨ L ≤ ((x3 + 3)).toNatClampNeg) (p1 := 1218) (l1 := [some (.ref 1009), some (.ref 0), some (.ref 61), some (.int x3)]) (s1 := [.int ((xs ((x3 + 3)).toNatClampNeg)), .int ((xs ((x3 + 2)).toNatClampNeg)), .int ((xs ((x3 + 1)).toNatClampNeg)), .ref 61, .int s0]) (n1 := 94) (M1 := (I, J, xrf)) (fun f => rfl) hc ?_
  obtain ⟨o, ho, h⟩ := Option.bind_eq_some_iff.mp h
  refine Rn.call (d1 := d + 31) (j1 := 288) (ls1 := [some (.ref 61), some (.int ((xs ((x3 + 1)).toNatClampNeg))), some (.int ((xs ((x3 + 2)).toNatClampNeg))), some (.int ((xs ((x3 + 3)).toNatClampNeg)))]) (rest := [.int s0]) (fun f => rfl) ?_
  refine p_X12_cube (d := d + 27) ((xs ((x3 + 1)).toNatClampNeg)) ((xs ((x3 + 2)).toNatClampNeg)) ((xs ((x3 + 3)).toNatClampNeg)) I J (t := o) ho ?_
  exact p_L_law_129 x3 s0 o.1 o.2.1 o.2.2 h hC
set_option maxRecDepth 100000 in
theorem p_L_law_127 {L : Nat} {xs : Nat → Int32} {d : Nat} {Q : xO → Prop} (x3 : Int32) (I : xI) (J : xJ) {t : (Int32 × xI × xJ) ⊕ (Int32 × xI × xJ)} (h : f_L_law_127 L xs x3 I J = some t) (hC : (c_L_law_0 L xs d Q) t) : Rn L xs (d + 32) 309 1183 [some (.ref 1009), some (.ref 0), some (.ref 61), some (.int x3)] [] 94 (I, J, xrf) Q := by
  unfold f_L_law_127 at h
  obtain ⟨hc, h⟩ := xif h
  refine Rn.ok 6 (c := (x3 + 1) < 0 ∨ L ≤ ((x3 + 1)).toNatClampNeg) (p1 := 1189) (l1 := [some (.ref 1009), some (.ref 0), some (.ref 61), some (.int x3)]) (s1 := [.int ((xs ((x3 + 1)).toNatClampNeg)), .ref 0]) (n1 := 94) (M1 := (I, J, xrf)) (fun f => rfl) hc ?_
  obtain ⟨hc, h⟩ := xif h
  refine Rn.ok 5 (c := (x3 + 2) < 0 ∨ L ≤ ((x3 + 2)).toNatClampNeg) (p1 := 1194) (l1 := [some (.ref 1009), some (.ref 0), some (.ref 61), some (.int x3)]) (s1 := [.int ((xs ((x3 + 2)).toNatClampNeg)), .int ((xs ((x3 + 1)).toNatClampNeg)), .ref 0]) (n1 := 94) (M1 := (I, J, xrf)) (fun f => rfl) hc ?_
  obtain ⟨hc, h⟩ := xif h
  refine Rn.ok 5 (c := (x3 + 3) < 0 ∨ L ≤ ((x3 + 3)).toNatClampNeg) (p1 := 1199) (l1 := [some (.ref 1009), some (.ref 0), some (.ref 61), some (.int x3)]) (s1 := [.int ((xs ((x3 + 3)).toNatClampNeg)), .int ((xs ((x3 + 2)).toNatClampNeg)), .int ((xs ((x3 + 1)).toNatClampNeg)), .ref 0]) (n1 := 94) (M1 := (I, J, xrf)) (fun f => rfl) hc ?_
  obtain ⟨o, ho, h⟩ := Option.bind_eq_some_iff.mp h
  refine Rn.call (d1 := d + 31) (j1 := 169) (ls1 := [some (.ref 0), some (.int ((xs ((x3 + 1)).toNatClampNeg))), some (.int ((xs ((x3 + 2)).toNatClampNeg))), some (.int ((xs ((x3 + 3)).toNatClampNeg))), none]) (rest := []) (fun f => rfl) ?_
  refine p_X11_cube (d := d + 2) ((xs ((x3 + 1)).toNatClampNeg)) ((xs ((x3 + 2)).toNatClampNeg)) ((xs ((x3 + 3)).toNatClampNeg)) I J (t := o) ho ?_
  exact p_L_law_128 x3 o.1 o.2.1 o.2.2 h hC
set_option maxRecDepth 100000 in
theorem p_L_law_134 {L : Nat} {xs : Nat → Int32} {d : Nat} {Q : xO → Prop} (x3 : Int32) (I : xI) (J : xJ) {t : Int32 × xI × xJ} (h : f_L_law_134 L xs x3 I J = some t) (hC : (c_L_law Q) t) : Rn L xs (d + 32) 309 1237 [some (.ref 1009), some (.ref 0), some (.ref 61), some (.int x3)] [] 94 (I, J, xrf) Q := by
  unfold f_L_law_134 at h
  cases h
  exact Rn.ret 2 (o := ((some (.int 0)), 94, (I, J, xrf))) (fun f => rfl) hC
set_option maxRecDepth 100000 in
theorem p_L_law_133 {L : Nat} {xs : Nat → Int32} {d : Nat} {Q : xO → Prop} (x3 : Int32) (s0 : Int32) (s1 : Int32) (I : xI) (J : xJ) {t : (Int32 × xI × xJ) ⊕ (Int32 × xI × xJ)} (h : f_L_law_133 L xs x3 s0 s1 I J = some t) (hC : (c_L_law_0 L xs d Q) t) : Rn L xs (d + 32) 309 1234 [some (.ref 1009), some (.ref 0), some (.ref 61), some (.int x3)] [.int s1, .int s0] 94 (I, J, xrf) Q := by
  unfold f_L_law_133 at h
  refine Rn.fi 1 (c := s0 = s1) (p1 := 1374) (l1 := [some (.ref 1009), some (.ref 0), some (.ref 61), some (.int x3)]) (s1 := []) (n1 := 94) (M1 := (I, J, xrf)) (p2 := 1237) (l2 := [some (.ref 1009), some (.ref 0), some (.ref 61), some (.int x3)]) (s2 := []) (n2 := 94) (M2 := (I, J, xrf)) (fun f => rfl) (fun hc => ?_) (fun hc => ?_)
  · rw [if_pos hc] at h
    exact p_L_law_155 x3 I J h hC
  · rw [if_neg hc] at h
    obtain ⟨t0, h0, rfl⟩ := Option.map_eq_some_iff.mp h
    exact p_L_law_134 x3 I J h0 hC
set_option maxRecDepth 100000 in
theorem p_L_law_132 {L : Nat} {xs : Nat → Int32} {d : Nat} {Q : xO → Prop} (x3 : Int32) (s0 : Int32) (I : xI) (J : xJ) {t : (Int32 × xI × xJ) ⊕ (Int32 × xI × xJ)} (h : f_L_law_132 L xs x3 s0 I J = some t) (hC : (c_L_law_0 L xs d Q) t) : Rn L xs (d + 32) 309 1230 [some (.ref 1009), some (.ref 0), some (.ref 61), some (.int x3)] [.int s0] 94 (I, J, xrf) Q := by
  unfold f_L_law_132 at h
  refine Rn.go 1 (j' := 309) (pc' := 1231) (ls' := [some (.ref 1009), some (.ref 0), some (.ref 61), some (.int x3)]) (st' := [.ref 61, .int s0]) (n' := 94) (M' := (I, J, xrf)) (fun f => rfl) ?_
  obtain ⟨o, ho, h⟩ := Option.bind_eq_some_iff.mp h
  refine Rn.call (d1 := d + 31) (j1 := 289) (ls1 := [some (.ref 61)]) (rest := [.int s0]) (fun f => rfl) ?_
  refine p_X12_sum (d := d + 27) I J (t := o) ho ?_
  exact p_L_law_133 x3 s0 o.1 o.2.1 o.2.2 h hC
set_option maxRecDepth 100000 in
theorem p_L_law_131 {L : Nat} {xs : Nat → Int32} {d : Nat} {Q : xO → Prop} (x3 : Int32) (I : xI) (J : xJ) {t : (Int32 × xI × xJ) ⊕ (Int32 × xI × xJ)} (h : f_L_law_131 L xs x3 I J = some t) (hC : (c_L_law_0 L xs d Q) t) : Rn L xs (d + 32) 309 1226 [some (.ref 1009), some (.ref 0), some (.ref 61), some (.int x3)] [] 94 (I, J, xrf) Q := by
  unfold f_L_law_131 at h
  refine Rn.go 1 (j' := 309) (pc' := 1227) (ls' := [some (.ref 1009), some (.ref 0), some (.ref 61), some (.int x3)]) (st' := [.ref 0]) (n' := 94) (M' := (I, J, xrf)) (fun f => rfl) ?_
  obtain ⟨o, ho, h⟩ := Option.bind_eq_some_iff.mp h
  refine Rn.call (d1 := d + 31) (j1 := 170) (ls1 := [some (.ref 0)]) (rest := []) (fun f => rfl) ?_
  refine p_X11_sum (d := d + 15) I J (t := o) ho ?_
  exact p_L_law_132 x3 o.1 o.2.1 o.2.2 h hC
set_option maxRecDepth 100000 in
theorem p_L_law_138 {L : Nat} {xs : Nat → Int32} {d : Nat} {Q : xO → Prop} (x3 : Int32) (I : xI) (J : xJ) {t : Int32 × xI × xJ} (h : f_L_law_138 L xs x3 I J = some t) (hC : (c_L_law Q) t) : Rn L xs (d + 32) 309 1270 [some (.ref 1009), some (.ref 0), some (.ref 61), some (.int x3)] [] 94 (I, J, xrf) Q := by
  unfold f_L_law_138 at h
  cases h
  exact Rn.ret 2 (o := ((some (.int 0)), 94, (I, J, xrf))) (fun f => rfl) hC
set_option maxRecDepth 100000 in
theorem p_L_law_137 {L : Nat} {xs : Nat → Int32} {d : Nat} {Q : xO → Prop} (x3 : Int32) (s0 : Int32) (s1 : Int32) (I : xI) (J : xJ) {t : (Int32 × xI × xJ) ⊕ (Int32 × xI × xJ)} (h : f_L_law_137 L xs x3 s0 s1 I J = some t) (hC : (c_L_law_0 L xs d Q) t) : Rn L xs (d + 32) 309 1267 [some (.ref 1009), some (.ref 0), some (.ref 61), some (.int x3)] [.int s1, .int s0] 94 (I, J, xrf) Q := by
  unfold f_L_law_137 at h
  refine Rn.fi 1 (c := s0 = s1) (p1 := 1374) (l1 := [some (.ref 1009), some (.ref 0), some (.ref 61), some (.int x3)]) (s1 := []) (n1 := 94) (M1 := (I, J, xrf)) (p2 := 1270) (l2 := [some (.ref 1009), some (.ref 0), some (.ref 61), some (.int x3)]) (s2 := []) (n2 := 94) (M2 := (I, J, xrf)) (fun f => rfl) (fun hc => ?_) (fun hc => ?_)
  · rw [if_pos hc] at h
    exact p_L_law_155 x3 I J h hC
  · rw [if_neg hc] at h
    obtain ⟨t0, h0, rfl⟩ := Option.map_eq_some_iff.mp h
    exact p_L_law_138 x3 I J h0 hC
set_option maxRecDepth 100000 in
theorem p_L_law_136 {L : Nat} {xs : Nat → Int32} {d : Nat} {Q : xO → Prop} (x3 : Int32) (s0 : Int32) (I : xI) (J : xJ) {t : (Int32 × xI × xJ) ⊕ (Int32 × xI × xJ)} (h : f_L_law_136 L xs x3 s0 I J = some t) (hC : (c_L_law_0 L xs d Q) t) : Rn L xs (d + 32) 309 1253 [some (.ref 1009), some (.ref 0), some (.ref 61), some (.int x3)] [.int s0] 94 (I, J, xrf) Q := by
  unfold f_L_law_136 at h
  obtain ⟨hc, h⟩ := xif h
  refine Rn.ok 6 (c := (x3 + 1) < 0 ∨ L ≤ ((x3 + 1)).toNatClampNeg) (p1 := 1259) (l1 := [some (.ref 1009), some (.ref 0), some (.ref 61), some (.int x3)]) (s1 := [.int ((xs ((x3 + 1)).toNatClampNeg)), .ref 61, .int s0]) (n1 := 94) (M1 := (I, J, xrf)) (fun f => rfl) hc ?_
  obtain ⟨hc, h⟩ := xif h
  refine Rn.ok 5 (c := (x3 + 2) < 0 ∨ L ≤ ((x3 + 2)).toNatClampNeg) (p1 := 1264) (l1 := [some (.ref 1009), some (.ref 0), some (.ref 61), some (.int x3)]) (s1 := [.int ((xs ((x3 + 2)).toNatClampNeg)), .int ((xs ((x3 + 1)).toNatClampNeg)), .ref 61, .int s0]) (n1 := 94) (M1 := (I, J, xrf)) (fun f => rfl) hc ?_
  obtain ⟨o, ho, h⟩ := Option.bind_eq_some_iff.mp h
  refine Rn.call (d1 := d + 31) (j1 := 290) (ls1 := [some (.ref 61), some (.int ((xs ((x3 + 1)).toNatClampNeg))), some (.int ((xs ((x3 + 2)).toNatClampNeg))), none, none, none]) (rest := [.int s0]) (fun f => rfl) ?_
  refine p_X12_coded (d := d + 27) ((xs ((x3 + 1)).toNatClampNeg)) ((xs ((x3 + 2)).toNatClampNeg)) I J (t := o) ho ?_
  exact p_L_law_137 x3 s0 o.1 o.2.1 o.2.2 h hC
set_option maxRecDepth 100000 in
theorem p_L_law_135 {L : Nat} {xs : Nat → Int32} {d : Nat} {Q : xO → Prop} (x3 : Int32) (I : xI) (J : xJ) {t : (Int32 × xI × xJ) ⊕ (Int32 × xI × xJ)} (h : f_L_law_135 L xs x3 I J = some t) (hC : (c_L_law_0 L xs d Q) t) : Rn L xs (d + 32) 309 1239 [some (.ref 1009), some (.ref 0), some (.ref 61), some (.int x3)] [] 94 (I, J, xrf) Q := by
  unfold f_L_law_135 at h
  obtain ⟨hc, h⟩ := xif h
  refine Rn.ok 6 (c := (x3 + 1) < 0 ∨ L ≤ ((x3 + 1)).toNatClampNeg) (p1 := 1245) (l1 := [some (.ref 1009), some (.ref 0), some (.ref 61), some (.int x3)]) (s1 := [.int ((xs ((x3 + 1)).toNatClampNeg)), .ref 0]) (n1 := 94) (M1 := (I, J, xrf)) (fun f => rfl) hc ?_
  obtain ⟨hc, h⟩ := xif h
  refine Rn.ok 5 (c := (x3 + 2) < 0 ∨ L ≤ ((x3 + 2)).toNatClampNeg) (p1 := 1250) (l1 := [some (.ref 1009), some (.ref 0), some (.ref 61), some (.int x3)]) (s1 := [.int ((xs ((x3 + 2)).toNatClampNeg)), .int ((xs ((x3 + 1)).toNatClampNeg)), .ref 0]) (n1 := 94) (M1 := (I, J, xrf)) (fun f => rfl) hc ?_
  obtain ⟨o, ho, h⟩ := Option.bind_eq_some_iff.mp h
  refine Rn.call (d1 := d + 31) (j1 := 171) (ls1 := [some (.ref 0), some (.int ((xs ((x3 + 1)).toNatClampNeg))), some (.int ((xs ((x3 + 2)).toNatClampNeg)))]) (rest := []) (fun f => rfl) ?_
  refine p_X11_coded (d := d + 1) ((xs ((x3 + 1)).toNatClampNeg)) ((xs ((x3 + 2)).toNatClampNeg)) I J (t := o) ho ?_
  exact p_L_law_136 x3 o.1 o.2.1 o.2.2 h hC
set_option maxRecDepth 100000 in
theorem p_L_law_142 {L : Nat} {xs : Nat → Int32} {d : Nat} {Q : xO → Prop} (x3 : Int32) (I : xI) (J : xJ) {t : Int32 × xI × xJ} (h : f_L_law_142 L xs x3 I J = some t) (hC : (c_L_law Q) t) : Rn L xs (d + 32) 309 1303 [some (.ref 1009), some (.ref 0), some (.ref 61), some (.int x3)] [] 94 (I, J, xrf) Q := by
  unfold f_L_law_142 at h
  cases h
  exact Rn.ret 2 (o := ((some (.int 0)), 94, (I, J, xrf))) (fun f => rfl) hC
set_option maxRecDepth 100000 in
theorem p_L_law_141 {L : Nat} {xs : Nat → Int32} {d : Nat} {Q : xO → Prop} (x3 : Int32) (s0 : Int32) (s1 : Int32) (I : xI) (J : xJ) {t : (Int32 × xI × xJ) ⊕ (Int32 × xI × xJ)} (h : f_L_law_141 L xs x3 s0 s1 I J = some t) (hC : (c_L_law_0 L xs d Q) t) : Rn L xs (d + 32) 309 1300 [some (.ref 1009), some (.ref 0), some (.ref 61), some (.int x3)] [.int s1, .int s0] 94 (I, J, xrf) Q := by
  unfold f_L_law_141 at h
  refine Rn.fi 1 (c := s0 = s1) (p1 := 1374) (l1 := [some (.ref 1009), some (.ref 0), some (.ref 61), some (.int x3)]) (s1 := []) (n1 := 94) (M1 := (I, J, xrf)) (p2 := 1303) (l2 := [some (.ref 1009), some (.ref 0), some (.ref 61), some (.int x3)]) (s2 := []) (n2 := 94) (M2 := (I, J, xrf)) (fun f => rfl) (fun hc => ?_) (fun hc => ?_)
  · rw [if_pos hc] at h
    exact p_L_law_155 x3 I J h hC
  · rw [if_neg hc] at h
    obtain ⟨t0, h0, rfl⟩ := Option.map_eq_some_iff.mp h
    exact p_L_law_142 x3 I J h0 hC
set_option maxRecDepth 100000 in
theorem p_L_law_140 {L : Nat} {xs : Nat → Int32} {d : Nat} {Q : xO → Prop} (x3 : Int32) (s0 : Int32) (I : xI) (J : xJ) {t : (Int32 × xI × xJ) ⊕ (Int32 × xI × xJ)} (h : f_L_law_140 L xs x3 s0 I J = some t) (hC : (c_L_law_0 L xs d Q) t) : Rn L xs (d + 32) 309 1286 [some (.ref 1009), some (.ref 0), some (.ref 61), some (.int x3)] [.int s0] 94 (I, J, xrf) Q := by
  unfold f_L_law_140 at h
  obtain ⟨hc, h⟩ := xif h
  refine Rn.ok 6 (c := (x3 + 1) < 0 ∨ L ≤ ((x3 + 1)).toNatClampNeg) (p1 := 1292) (l1 := [some (.ref 1009), some (.ref 0), some (.ref 61), some (.int x3)]) (s1 := [.int ((xs ((x3 + 1)).toNatClampNeg)), .ref 61, .int s0]) (n1 := 94) (M1 := (I, J, xrf)) (fun f => rfl) hc ?_
  obtain ⟨hc, h⟩ := xif h
  refine Rn.ok 5 (c := (x3 + 2) < 0 ∨ L ≤ ((x3 + 2)).toNatClampNeg) (p1 := 1297) (l1 := [some (.ref 1009), some (.ref 0), some (.ref 61), some (.int x3)]) (s1 := [.int ((xs ((x3 + 2)).toNatClampNeg)), .int ((xs ((x3 + 1)).toNatClampNeg)), .ref 61, .int s0]) (n1 := 94) (M1 := (I, J, xrf)) (fun f => rfl) hc ?_
  obtain ⟨o, ho, h⟩ := Option.bind_eq_some_iff.mp h
  refine Rn.call (d1 := d + 31) (j1 := 294) (ls1 := [some (.ref 61), some (.int ((xs ((x3 + 1)).toNatClampNeg))), some (.int ((xs ((x3 + 2)).toNatClampNeg)))]) (rest := [.int s0]) (fun f => rfl) ?_
  refine p_X12_best (d := d + 24) ((xs ((x3 + 1)).toNatClampNeg)) ((xs ((x3 + 2)).toNatClampNeg)) I J (t := o) ho ?_
  exact p_L_law_141 x3 s0 o.1 o.2.1 o.2.2 h hC
set_option maxRecDepth 100000 in
theorem p_L_law_139 {L : Nat} {xs : Nat → Int32} {d : Nat} {Q : xO → Prop} (x3 : Int32) (I : xI) (J : xJ) {t : (Int32 × xI × xJ) ⊕ (Int32 × xI × xJ)} (h : f_L_law_139 L xs x3 I J = some t) (hC : (c_L_law_0 L xs d Q) t) : Rn L xs (d + 32) 309 1272 [some (.ref 1009), some (.ref 0), some (.ref 61), some (.int x3)] [] 94 (I, J, xrf) Q := by
  unfold f_L_law_139 at h
  obtain ⟨hc, h⟩ := xif h
  refine Rn.ok 6 (c := (x3 + 1) < 0 ∨ L ≤ ((x3 + 1)).toNatClampNeg) (p1 := 1278) (l1 := [some (.ref 1009), some (.ref 0), some (.ref 61), some (.int x3)]) (s1 := [.int ((xs ((x3 + 1)).toNatClampNeg)), .ref 0]) (n1 := 94) (M1 := (I, J, xrf)) (fun f => rfl) hc ?_
  obtain ⟨hc, h⟩ := xif h
  refine Rn.ok 5 (c := (x3 + 2) < 0 ∨ L ≤ ((x3 + 2)).toNatClampNeg) (p1 := 1283) (l1 := [some (.ref 1009), some (.ref 0), some (.ref 61), some (.int x3)]) (s1 := [.int ((xs ((x3 + 2)).toNatClampNeg)), .int ((xs ((x3 + 1)).toNatClampNeg)), .ref 0]) (n1 := 94) (M1 := (I, J, xrf)) (fun f => rfl) hc ?_
  obtain ⟨o, ho, h⟩ := Option.bind_eq_some_iff.mp h
  refine Rn.call (d1 := d + 31) (j1 := 172) (ls1 := [some (.ref 0), some (.int ((xs ((x3 + 1)).toNatClampNeg))), some (.int ((xs ((x3 + 2)).toNatClampNeg)))]) (rest := []) (fun f => rfl) ?_
  refine p_X11_best (d := d + 0) ((xs ((x3 + 1)).toNatClampNeg)) ((xs ((x3 + 2)).toNatClampNeg)) I J (t := o) ho ?_
  exact p_L_law_140 x3 o.1 o.2.1 o.2.2 h hC
set_option maxRecDepth 100000 in
theorem p_L_law_146 {L : Nat} {xs : Nat → Int32} {d : Nat} {Q : xO → Prop} (x3 : Int32) (I : xI) (J : xJ) {t : Int32 × xI × xJ} (h : f_L_law_146 L xs x3 I J = some t) (hC : (c_L_law Q) t) : Rn L xs (d + 32) 309 1326 [some (.ref 1009), some (.ref 0), some (.ref 61), some (.int x3)] [] 94 (I, J, xrf) Q := by
  unfold f_L_law_146 at h
  cases h
  exact Rn.ret 2 (o := ((some (.int 0)), 94, (I, J, xrf))) (fun f => rfl) hC
set_option maxRecDepth 100000 in
theorem p_L_law_145 {L : Nat} {xs : Nat → Int32} {d : Nat} {Q : xO → Prop} (x3 : Int32) (s0 : Int32) (s1 : Int32) (I : xI) (J : xJ) {t : (Int32 × xI × xJ) ⊕ (Int32 × xI × xJ)} (h : f_L_law_145 L xs x3 s0 s1 I J = some t) (hC : (c_L_law_0 L xs d Q) t) : Rn L xs (d + 32) 309 1323 [some (.ref 1009), some (.ref 0), some (.ref 61), some (.int x3)] [.int s1, .int s0] 94 (I, J, xrf) Q := by
  unfold f_L_law_145 at h
  refine Rn.fi 1 (c := s0 = s1) (p1 := 1374) (l1 := [some (.ref 1009), some (.ref 0), some (.ref 61), some (.int x3)]) (s1 := []) (n1 := 94) (M1 := (I, J, xrf)) (p2 := 1326) (l2 := [some (.ref 1009), some (.ref 0), some (.ref 61), some (.int x3)]) (s2 := []) (n2 := 94) (M2 := (I, J, xrf)) (fun f => rfl) (fun hc => ?_) (fun hc => ?_)
  · rw [if_pos hc] at h
    exact p_L_law_155 x3 I J h hC
  · rw [if_neg hc] at h
    obtain ⟨t0, h0, rfl⟩ := Option.map_eq_some_iff.mp h
    exact p_L_law_146 x3 I J h0 hC
set_option maxRecDepth 100000 in
theorem p_L_law_144 {L : Nat} {xs : Nat → Int32} {d : Nat} {Q : xO → Prop} (x3 : Int32) (s0 : Int32) (I : xI) (J : xJ) {t : (Int32 × xI × xJ) ⊕ (Int32 × xI × xJ)} (h : f_L_law_144 L xs x3 s0 I J = some t) (hC : (c_L_law_0 L xs d Q) t) : Rn L xs (d + 32) 309 1314 [some (.ref 1009), some (.ref 0), some (.ref 61), some (.int x3)] [.int s0] 94 (I, J, xrf) Q := by
  unfold f_L_law_144 at h
  obtain ⟨hc, h⟩ := xif h
  refine Rn.ok 6 (c := (x3 + 1) < 0 ∨ L ≤ ((x3 + 1)).toNatClampNeg) (p1 := 1320) (l1 := [some (.ref 1009), some (.ref 0), some (.ref 61), some (.int x3)]) (s1 := [.int ((xs ((x3 + 1)).toNatClampNeg)), .ref 61, .int s0]) (n1 := 94) (M1 := (I, J, xrf)) (fun f => rfl) hc ?_
  obtain ⟨o, ho, h⟩ := Option.bind_eq_some_iff.mp h
  refine Rn.call (d1 := d + 31) (j1 := 219) (ls1 := [some (.ref 61), some (.int ((xs ((x3 + 1)).toNatClampNeg))), none]) (rest := [.int s0]) (fun f => rfl) ?_
  refine p_X12_hold (d := d + 29) ((xs ((x3 + 1)).toNatClampNeg)) I J (t := o) ho ?_
  exact p_L_law_145 x3 s0 o.1 o.2.1 o.2.2 h hC
set_option maxRecDepth 100000 in
theorem p_L_law_143 {L : Nat} {xs : Nat → Int32} {d : Nat} {Q : xO → Prop} (x3 : Int32) (I : xI) (J : xJ) {t : (Int32 × xI × xJ) ⊕ (Int32 × xI × xJ)} (h : f_L_law_143 L xs x3 I J = some t) (hC : (c_L_law_0 L xs d Q) t) : Rn L xs (d + 32) 309 1305 [some (.ref 1009), some (.ref 0), some (.ref 61), some (.int x3)] [] 94 (I, J, xrf) Q := by
  unfold f_L_law_143 at h
  obtain ⟨hc, h⟩ := xif h
  refine Rn.ok 6 (c := (x3 + 1) < 0 ∨ L ≤ ((x3 + 1)).toNatClampNeg) (p1 := 1311) (l1 := [some (.ref 1009), some (.ref 0), some (.ref 61), some (.int x3)]) (s1 := [.int ((xs ((x3 + 1)).toNatClampNeg)), .ref 0]) (n1 := 94) (M1 := (I, J, xrf)) (fun f => rfl) hc ?_
  obtain ⟨o, ho, h⟩ := Option.bind_eq_some_iff.mp h
  refine Rn.call (d1 := d + 31) (j1 := 173) (ls1 := [some (.ref 0), some (.int ((xs ((x3 + 1)).toNatClampNeg)))]) (rest := []) (fun f => rfl) ?_
  refine p_X11_hold (d := d + 28) ((xs ((x3 + 1)).toNatClampNeg)) I J (t := o) ho ?_
  exact p_L_law_144 x3 o.1 o.2.1 o.2.2 h hC
set_option maxRecDepth 100000 in
theorem p_L_law_150 {L : Nat} {xs : Nat → Int32} {d : Nat} {Q : xO → Prop} (x3 : Int32) (I : xI) (J : xJ) {t : Int32 × xI × xJ} (h : f_L_law_150 L xs x3 I J = some t) (hC : (c_L_law Q) t) : Rn L xs (d + 32) 309 1349 [some (.ref 1009), some (.ref 0), some (.ref 61), some (.int x3)] [] 94 (I, J, xrf) Q := by
  unfold f_L_law_150 at h
  cases h
  exact Rn.ret 2 (o := ((some (.int 0)), 94, (I, J, xrf))) (fun f => rfl) hC
set_option maxRecDepth 100000 in
theorem p_L_law_149 {L : Nat} {xs : Nat → Int32} {d : Nat} {Q : xO → Prop} (x3 : Int32) (s0 : Int32) (s1 : Int32) (I : xI) (J : xJ) {t : (Int32 × xI × xJ) ⊕ (Int32 × xI × xJ)} (h : f_L_law_149 L xs x3 s0 s1 I J = some t) (hC : (c_L_law_0 L xs d Q) t) : Rn L xs (d + 32) 309 1346 [some (.ref 1009), some (.ref 0), some (.ref 61), some (.int x3)] [.int s1, .int s0] 94 (I, J, xrf) Q := by
  unfold f_L_law_149 at h
  refine Rn.fi 1 (c := s0 = s1) (p1 := 1374) (l1 := [some (.ref 1009), some (.ref 0), some (.ref 61), some (.int x3)]) (s1 := []) (n1 := 94) (M1 := (I, J, xrf)) (p2 := 1349) (l2 := [some (.ref 1009), some (.ref 0), some (.ref 61), some (.int x3)]) (s2 := []) (n2 := 94) (M2 := (I, J, xrf)) (fun f => rfl) (fun hc => ?_) (fun hc => ?_)
  · rw [if_pos hc] at h
    exact p_L_law_155 x3 I J h hC
  · rw [if_neg hc] at h
    obtain ⟨t0, h0, rfl⟩ := Option.map_eq_some_iff.mp h
    exact p_L_law_150 x3 I J h0 hC
set_option maxRecDepth 100000 in
theorem p_L_law_148 {L : Nat} {xs : Nat → Int32} {d : Nat} {Q : xO → Prop} (x3 : Int32) (s0 : Int32) (I : xI) (J : xJ) {t : (Int32 × xI × xJ) ⊕ (Int32 × xI × xJ)} (h : f_L_law_148 L xs x3 s0 I J = some t) (hC : (c_L_law_0 L xs d Q) t) : Rn L xs (d + 32) 309 1337 [some (.ref 1009), some (.ref 0), some (.ref 61), some (.int x3)] [.int s0] 94 (I, J, xrf) Q := by
  unfold f_L_law_148 at h
  obtain ⟨hc, h⟩ := xif h
  refine Rn.ok 6 (c := (x3 + 1) < 0 ∨ L ≤ ((x3 + 1)).toNatClampNeg) (p1 := 1343) (l1 := [some (.ref 1009), some (.ref 0), some (.ref 61), some (.int x3)]) (s1 := [.int ((xs ((x3 + 1)).toNatClampNeg)), .ref 61, .int s0]) (n1 := 94) (M1 := (I, J, xrf)) (fun f => rfl) hc ?_
  obtain ⟨o, ho, h⟩ := Option.bind_eq_some_iff.mp h
  refine Rn.call (d1 := d + 31) (j1 := 220) (ls1 := [some (.ref 61), some (.int ((xs ((x3 + 1)).toNatClampNeg))), none]) (rest := [.int s0]) (fun f => rfl) ?_
  refine p_X12_restore (d := d + 29) ((xs ((x3 + 1)).toNatClampNeg)) I J (t := o) ho ?_
  exact p_L_law_149 x3 s0 o.1 o.2.1 o.2.2 h hC
set_option maxRecDepth 100000 in
theorem p_L_law_147 {L : Nat} {xs : Nat → Int32} {d : Nat} {Q : xO → Prop} (x3 : Int32) (I : xI) (J : xJ) {t : (Int32 × xI × xJ) ⊕ (Int32 × xI × xJ)} (h : f_L_law_147 L xs x3 I J = some t) (hC : (c_L_law_0 L xs d Q) t) : Rn L xs (d + 32) 309 1328 [some (.ref 1009), some (.ref 0), some (.ref 61), some (.int x3)] [] 94 (I, J, xrf) Q := by
  unfold f_L_law_147 at h
  obtain ⟨hc, h⟩ := xif h
  refine Rn.ok 6 (c := (x3 + 1) < 0 ∨ L ≤ ((x3 + 1)).toNatClampNeg) (p1 := 1334) (l1 := [some (.ref 1009), some (.ref 0), some (.ref 61), some (.int x3)]) (s1 := [.int ((xs ((x3 + 1)).toNatClampNeg)), .ref 0]) (n1 := 94) (M1 := (I, J, xrf)) (fun f => rfl) hc ?_
  obtain ⟨o, ho, h⟩ := Option.bind_eq_some_iff.mp h
  refine Rn.call (d1 := d + 31) (j1 := 174) (ls1 := [some (.ref 0), some (.int ((xs ((x3 + 1)).toNatClampNeg)))]) (rest := []) (fun f => rfl) ?_
  refine p_X11_restore (d := d + 28) ((xs ((x3 + 1)).toNatClampNeg)) I J (t := o) ho ?_
  exact p_L_law_148 x3 o.1 o.2.1 o.2.2 h hC
set_option maxRecDepth 100000 in
theorem p_L_law_154 {L : Nat} {xs : Nat → Int32} {d : Nat} {Q : xO → Prop} (x3 : Int32) (I : xI) (J : xJ) {t : Int32 × xI × xJ} (h : f_L_law_154 L xs x3 I J = some t) (hC : (c_L_law Q) t) : Rn L xs (d + 32) 309 1372 [some (.ref 1009), some (.ref 0), some (.ref 61), some (.int x3)] [] 94 (I, J, xrf) Q := by
  unfold f_L_law_154 at h
  cases h
  exact Rn.ret 2 (o := ((some (.int 0)), 94, (I, J, xrf))) (fun f => rfl) hC
set_option maxRecDepth 100000 in
theorem p_L_law_153 {L : Nat} {xs : Nat → Int32} {d : Nat} {Q : xO → Prop} (x3 : Int32) (s0 : Int32) (s1 : Int32) (I : xI) (J : xJ) {t : (Int32 × xI × xJ) ⊕ (Int32 × xI × xJ)} (h : f_L_law_153 L xs x3 s0 s1 I J = some t) (hC : (c_L_law_0 L xs d Q) t) : Rn L xs (d + 32) 309 1369 [some (.ref 1009), some (.ref 0), some (.ref 61), some (.int x3)] [.int s1, .int s0] 94 (I, J, xrf) Q := by
  unfold f_L_law_153 at h
  refine Rn.fi 1 (c := s0 = s1) (p1 := 1374) (l1 := [some (.ref 1009), some (.ref 0), some (.ref 61), some (.int x3)]) (s1 := []) (n1 := 94) (M1 := (I, J, xrf)) (p2 := 1372) (l2 := [some (.ref 1009), some (.ref 0), some (.ref 61), some (.int x3)]) (s2 := []) (n2 := 94) (M2 := (I, J, xrf)) (fun f => rfl) (fun hc => ?_) (fun hc => ?_)
  · rw [if_pos hc] at h
    exact p_L_law_155 x3 I J h hC
  · rw [if_neg hc] at h
    obtain ⟨t0, h0, rfl⟩ := Option.map_eq_some_iff.mp h
    exact p_L_law_154 x3 I J h0 hC
set_option maxRecDepth 100000 in
theorem p_L_law_152 {L : Nat} {xs : Nat → Int32} {d : Nat} {Q : xO → Prop} (x3 : Int32) (s0 : Int32) (I : xI) (J : xJ) {t : (Int32 × xI × xJ) ⊕ (Int32 × xI × xJ)} (h : f_L_law_152 L xs x3 s0 I J = some t) (hC : (c_L_law_0 L xs d Q) t) : Rn L xs (d + 32) 309 1360 [some (.ref 1009), some (.ref 0), some (.ref 61), some (.int x3)] [.int s0] 94 (I, J, xrf) Q := by
  unfold f_L_law_152 at h
  obtain ⟨hc, h⟩ := xif h
  refine Rn.ok 6 (c := (x3 + 1) < 0 ∨ L ≤ ((x3 + 1)).toNatClampNeg) (p1 := 1366) (l1 := [some (.ref 1009), some (.ref 0), some (.ref 61), some (.int x3)]) (s1 := [.int ((xs ((x3 + 1)).toNatClampNeg)), .ref 61, .int s0]) (n1 := 94) (M1 := (I, J, xrf)) (fun f => rfl) hc ?_
  obtain ⟨o, ho, h⟩ := Option.bind_eq_some_iff.mp h
  refine Rn.call (d1 := d + 31) (j1 := 297) (ls1 := [some (.ref 61), some (.int ((xs ((x3 + 1)).toNatClampNeg))), none, none]) (rest := [.int s0]) (fun f => rfl) ?_
  refine p_X12_count (d := d + 24) ((xs ((x3 + 1)).toNatClampNeg)) I J (t := o) ho ?_
  exact p_L_law_153 x3 s0 o.1 o.2.1 o.2.2 h hC
set_option maxRecDepth 100000 in
theorem p_L_law_151 {L : Nat} {xs : Nat → Int32} {d : Nat} {Q : xO → Prop} (x3 : Int32) (I : xI) (J : xJ) {t : (Int32 × xI × xJ) ⊕ (Int32 × xI × xJ)} (h : f_L_law_151 L xs x3 I J = some t) (hC : (c_L_law_0 L xs d Q) t) : Rn L xs (d + 32) 309 1351 [some (.ref 1009), some (.ref 0), some (.ref 61), some (.int x3)] [] 94 (I, J, xrf) Q := by
  unfold f_L_law_151 at h
  obtain ⟨hc, h⟩ := xif h
  refine Rn.ok 6 (c := (x3 + 1) < 0 ∨ L ≤ ((x3 + 1)).toNatClampNeg) (p1 := 1357) (l1 := [some (.ref 1009), some (.ref 0), some (.ref 61), some (.int x3)]) (s1 := [.int ((xs ((x3 + 1)).toNatClampNeg)), .ref 0]) (n1 := 94) (M1 := (I, J, xrf)) (fun f => rfl) hc ?_
  obtain ⟨o, ho, h⟩ := Option.bind_eq_some_iff.mp h
  refine Rn.call (d1 := d + 31) (j1 := 175) (ls1 := [some (.ref 0), some (.int ((xs ((x3 + 1)).toNatClampNeg)))]) (rest := []) (fun f => rfl) ?_
  refine p_X11_count (d := d + 13) ((xs ((x3 + 1)).toNatClampNeg)) I J (t := o) ho ?_
  exact p_L_law_152 x3 o.1 o.2.1 o.2.2 h hC
set_option maxRecDepth 100000 in
theorem p_L_law_2 {L : Nat} {xs : Nat → Int32} {d : Nat} {Q : xO → Prop} (x3 : Int32) (s0 : Int32) (I : xI) (J : xJ) {t : (Int32 × xI × xJ) ⊕ (Int32 × xI × xJ)} (h : f_L_law_2 L xs x3 s0 I J = some t) (hC : (c_L_law_0 L xs d Q) t) : Rn L xs (d + 32) 309 33 [some (.ref 1009), some (.ref 0), some (.ref 61), some (.int x3)] [.int s0] 94 (I, J, xrf) Q := by
  unfold f_L_law_2 at h
  by_cases hc0 : s0 = 0
  · rw [if_pos hc0] at h; subst hc0
    refine Rn.go 1 (j' := 309) (pc' := 200) (ls' := [some (.ref 1009), some (.ref 0), some (.ref 61), some (.int x3)]) (st' := []) (n' := 94) (M' := (I, J, xrf)) (fun f => rfl) ?_
    exact p_L_law_3 x3 I J h hC
  rw [if_neg hc0] at h
  by_cases hc1 : s0 = 1
  · rw [if_pos hc1] at h; subst hc1
    refine Rn.go 1 (j' := 309) (pc' := 263) (ls' := [some (.ref 1009), some (.ref 0), some (.ref 61), some (.int x3)]) (st' := []) (n' := 94) (M' := (I, J, xrf)) (fun f => rfl) ?_
    exact p_L_law_7 x3 I J h hC
  rw [if_neg hc1] at h
  by_cases hc2 : s0 = 2
  · rw [if_pos hc2] at h; subst hc2
    refine Rn.go 1 (j' := 309) (pc' := 286) (ls' := [some (.ref 1009), some (.ref 0), some (.ref 61), some (.int x3)]) (st' := []) (n' := 94) (M' := (I, J, xrf)) (fun f => rfl) ?_
    exact p_L_law_11 x3 I J h hC
  rw [if_neg hc2] at h
  by_cases hc3 : s0 = 3
  · rw [if_pos hc3] at h; subst hc3
    refine Rn.go 1 (j' := 309) (pc' := 299) (ls' := [some (.ref 1009), some (.ref 0), some (.ref 61), some (.int x3)]) (st' := []) (n' := 94) (M' := (I, J, xrf)) (fun f => rfl) ?_
    exact p_L_law_15 x3 I J h hC
  rw [if_neg hc3] at h
  by_cases hc4 : s0 = 4
  · rw [if_pos hc4] at h; subst hc4
    refine Rn.go 1 (j' := 309) (pc' := 312) (ls' := [some (.ref 1009), some (.ref 0), some (.ref 61), some (.int x3)]) (st' := []) (n' := 94) (M' := (I, J, xrf)) (fun f => rfl) ?_
    exact p_L_law_19 x3 I J h hC
  rw [if_neg hc4] at h
  by_cases hc5 : s0 = 5
  · rw [if_pos hc5] at h; subst hc5
    refine Rn.go 1 (j' := 309) (pc' := 365) (ls' := [some (.ref 1009), some (.ref 0), some (.ref 61), some (.int x3)]) (st' := []) (n' := 94) (M' := (I, J, xrf)) (fun f => rfl) ?_
    exact p_L_law_23 x3 I J h hC
  rw [if_neg hc5] at h
  by_cases hc6 : s0 = 6
  · rw [if_pos hc6] at h; subst hc6
    refine Rn.go 1 (j' := 309) (pc' := 398) (ls' := [some (.ref 1009), some (.ref 0), some (.ref 61), some (.int x3)]) (st' := []) (n' := 94) (M' := (I, J, xrf)) (fun f => rfl) ?_
    exact p_L_law_27 x3 I J h hC
  rw [if_neg hc6] at h
  by_cases hc7 : s0 = 7
  · rw [if_pos hc7] at h; subst hc7
    refine Rn.go 1 (j' := 309) (pc' := 411) (ls' := [some (.ref 1009), some (.ref 0), some (.ref 61), some (.int x3)]) (st' := []) (n' := 94) (M' := (I, J, xrf)) (fun f => rfl) ?_
    exact p_L_law_31 x3 I J h hC
  rw [if_neg hc7] at h
  by_cases hc8 : s0 = 8
  · rw [if_pos hc8] at h; subst hc8
    refine Rn.go 1 (j' := 309) (pc' := 454) (ls' := [some (.ref 1009), some (.ref 0), some (.ref 61), some (.int x3)]) (st' := []) (n' := 94) (M' := (I, J, xrf)) (fun f => rfl) ?_
    exact p_L_law_35 x3 I J h hC
  rw [if_neg hc8] at h
  by_cases hc9 : s0 = 9
  · rw [if_pos hc9] at h; subst hc9
    refine Rn.go 1 (j' := 309) (pc' := 497) (ls' := [some (.ref 1009), some (.ref 0), some (.ref 61), some (.int x3)]) (st' := []) (n' := 94) (M' := (I, J, xrf)) (fun f => rfl) ?_
    exact p_L_law_39 x3 I J h hC
  rw [if_neg hc9] at h
  by_cases hc10 : s0 = 10
  · rw [if_pos hc10] at h; subst hc10
    refine Rn.go 1 (j' := 309) (pc' := 540) (ls' := [some (.ref 1009), some (.ref 0), some (.ref 61), some (.int x3)]) (st' := []) (n' := 94) (M' := (I, J, xrf)) (fun f => rfl) ?_
    exact p_L_law_43 x3 I J h hC
  rw [if_neg hc10] at h
  by_cases hc11 : s0 = 11
  · rw [if_pos hc11] at h; subst hc11
    refine Rn.go 1 (j' := 309) (pc' := 563) (ls' := [some (.ref 1009), some (.ref 0), some (.ref 61), some (.int x3)]) (st' := []) (n' := 94) (M' := (I, J, xrf)) (fun f => rfl) ?_
    exact p_L_law_47 x3 I J h hC
  rw [if_neg hc11] at h
  by_cases hc12 : s0 = 12
  · rw [if_pos hc12] at h; subst hc12
    refine Rn.go 1 (j' := 309) (pc' := 576) (ls' := [some (.ref 1009), some (.ref 0), some (.ref 61), some (.int x3)]) (st' := []) (n' := 94) (M' := (I, J, xrf)) (fun f => rfl) ?_
    exact p_L_law_51 x3 I J h hC
  rw [if_neg hc12] at h
  by_cases hc13 : s0 = 13
  · rw [if_pos hc13] at h; subst hc13
    refine Rn.go 1 (j' := 309) (pc' := 599) (ls' := [some (.ref 1009), some (.ref 0), some (.ref 61), some (.int x3)]) (st' := []) (n' := 94) (M' := (I, J, xrf)) (fun f => rfl) ?_
    exact p_L_law_55 x3 I J h hC
  rw [if_neg hc13] at h
  by_cases hc14 : s0 = 14
  · rw [if_pos hc14] at h; subst hc14
    refine Rn.go 1 (j' := 309) (pc' := 622) (ls' := [some (.ref 1009), some (.ref 0), some (.ref 61), some (.int x3)]) (st' := []) (n' := 94) (M' := (I, J, xrf)) (fun f => rfl) ?_
    exact p_L_law_59 x3 I J h hC
  rw [if_neg hc14] at h
  by_cases hc15 : s0 = 15
  · rw [if_pos hc15] at h; subst hc15
    refine Rn.go 1 (j' := 309) (pc' := 645) (ls' := [some (.ref 1009), some (.ref 0), some (.ref 61), some (.int x3)]) (st' := []) (n' := 94) (M' := (I, J, xrf)) (fun f => rfl) ?_
    exact p_L_law_63 x3 I J h hC
  rw [if_neg hc15] at h
  by_cases hc16 : s0 = 16
  · rw [if_pos hc16] at h; subst hc16
    refine Rn.go 1 (j' := 309) (pc' := 678) (ls' := [some (.ref 1009), some (.ref 0), some (.ref 61), some (.int x3)]) (st' := []) (n' := 94) (M' := (I, J, xrf)) (fun f => rfl) ?_
    exact p_L_law_67 x3 I J h hC
  rw [if_neg hc16] at h
  by_cases hc17 : s0 = 17
  · rw [if_pos hc17] at h; subst hc17
    refine Rn.go 1 (j' := 309) (pc' := 721) (ls' := [some (.ref 1009), some (.ref 0), some (.ref 61), some (.int x3)]) (st' := []) (n' := 94) (M' := (I, J, xrf)) (fun f => rfl) ?_
    exact p_L_law_71 x3 I J h hC
  rw [if_neg hc17] at h
  by_cases hc18 : s0 = 18
  · rw [if_pos hc18] at h; subst hc18
    refine Rn.go 1 (j' := 309) (pc' := 744) (ls' := [some (.ref 1009), some (.ref 0), some (.ref 61), some (.int x3)]) (st' := []) (n' := 94) (M' := (I, J, xrf)) (fun f => rfl) ?_
    exact p_L_law_75 x3 I J h hC
  rw [if_neg hc18] at h
  by_cases hc19 : s0 = 19
  · rw [if_pos hc19] at h; subst hc19
    refine Rn.go 1 (j' := 309) (pc' := 767) (ls' := [some (.ref 1009), some (.ref 0), some (.ref 61), some (.int x3)]) (st' := []) (n' := 94) (M' := (I, J, xrf)) (fun f => rfl) ?_
    exact p_L_law_79 x3 I J h hC
  rw [if_neg hc19] at h
  by_cases hc20 : s0 = 20
  · rw [if_pos hc20] at h; subst hc20
    refine Rn.go 1 (j' := 309) (pc' := 820) (ls' := [some (.ref 1009), some (.ref 0), some (.ref 61), some (.int x3)]) (st' := []) (n' := 94) (M' := (I, J, xrf)) (fun f => rfl) ?_
    exact p_L_law_83 x3 I J h hC
  rw [if_neg hc20] at h
  by_cases hc21 : s0 = 21
  · rw [if_pos hc21] at h; subst hc21
    refine Rn.go 1 (j' := 309) (pc' := 843) (ls' := [some (.ref 1009), some (.ref 0), some (.ref 61), some (.int x3)]) (st' := []) (n' := 94) (M' := (I, J, xrf)) (fun f => rfl) ?_
    exact p_L_law_87 x3 I J h hC
  rw [if_neg hc21] at h
  by_cases hc22 : s0 = 22
  · rw [if_pos hc22] at h; subst hc22
    refine Rn.go 1 (j' := 309) (pc' := 876) (ls' := [some (.ref 1009), some (.ref 0), some (.ref 61), some (.int x3)]) (st' := []) (n' := 94) (M' := (I, J, xrf)) (fun f => rfl) ?_
    exact p_L_law_91 x3 I J h hC
  rw [if_neg hc22] at h
  by_cases hc23 : s0 = 23
  · rw [if_pos hc23] at h; subst hc23
    refine Rn.go 1 (j' := 309) (pc' := 899) (ls' := [some (.ref 1009), some (.ref 0), some (.ref 61), some (.int x3)]) (st' := []) (n' := 94) (M' := (I, J, xrf)) (fun f => rfl) ?_
    exact p_L_law_95 x3 I J h hC
  rw [if_neg hc23] at h
  by_cases hc24 : s0 = 24
  · rw [if_pos hc24] at h; subst hc24
    refine Rn.go 1 (j' := 309) (pc' := 922) (ls' := [some (.ref 1009), some (.ref 0), some (.ref 61), some (.int x3)]) (st' := []) (n' := 94) (M' := (I, J, xrf)) (fun f => rfl) ?_
    exact p_L_law_99 x3 I J h hC
  rw [if_neg hc24] at h
  by_cases hc25 : s0 = 25
  · rw [if_pos hc25] at h; subst hc25
    refine Rn.go 1 (j' := 309) (pc' := 945) (ls' := [some (.ref 1009), some (.ref 0), some (.ref 61), some (.int x3)]) (st' := []) (n' := 94) (M' := (I, J, xrf)) (fun f => rfl) ?_
    exact p_L_law_103 x3 I J h hC
  rw [if_neg hc25] at h
  by_cases hc26 : s0 = 26
  · rw [if_pos hc26] at h; subst hc26
    refine Rn.go 1 (j' := 309) (pc' := 968) (ls' := [some (.ref 1009), some (.ref 0), some (.ref 61), some (.int x3)]) (st' := []) (n' := 94) (M' := (I, J, xrf)) (fun f => rfl) ?_
    exact p_L_law_107 x3 I J h hC
  rw [if_neg hc26] at h
  by_cases hc27 : s0 = 27
  · rw [if_pos hc27] at h; subst hc27
    refine Rn.go 1 (j' := 309) (pc' := 1011) (ls' := [some (.ref 1009), some (.ref 0), some (.ref 61), some (.int x3)]) (st' := []) (n' := 94) (M' := (I, J, xrf)) (fun f => rfl) ?_
    exact p_L_law_111 x3 I J h hC
  rw [if_neg hc27] at h
  by_cases hc28 : s0 = 28
  · rw [if_pos hc28] at h; subst hc28
    refine Rn.go 1 (j' := 309) (pc' := 1074) (ls' := [some (.ref 1009), some (.ref 0), some (.ref 61), some (.int x3)]) (st' := []) (n' := 94) (M' := (I, J, xrf)) (fun f => rfl) ?_
    exact p_L_law_115 x3 I J h hC
  rw [if_neg hc28] at h
  by_cases hc29 : s0 = 29
  · rw [if_pos hc29] at h; subst hc29
    refine Rn.go 1 (j' := 309) (pc' := 1137) (ls' := [some (.ref 1009), some (.ref 0), some (.ref 61), some (.int x3)]) (st' := []) (n' := 94) (M' := (I, J, xrf)) (fun f => rfl) ?_
    exact p_L_law_119 x3 I J h hC
  rw [if_neg hc29] at h
  by_cases hc30 : s0 = 30
  · rw [if_pos hc30] at h; subst hc30
    refine Rn.go 1 (j' := 309) (pc' := 1170) (ls' := [some (.ref 1009), some (.ref 0), some (.ref 61), some (.int x3)]) (st' := []) (n' := 94) (M' := (I, J, xrf)) (fun f => rfl) ?_
    exact p_L_law_123 x3 I J h hC
  rw [if_neg hc30] at h
  by_cases hc31 : s0 = 31
  · rw [if_pos hc31] at h; subst hc31
    refine Rn.go 1 (j' := 309) (pc' := 1183) (ls' := [some (.ref 1009), some (.ref 0), some (.ref 61), some (.int x3)]) (st' := []) (n' := 94) (M' := (I, J, xrf)) (fun f => rfl) ?_
    exact p_L_law_127 x3 I J h hC
  rw [if_neg hc31] at h
  by_cases hc32 : s0 = 32
  · rw [if_pos hc32] at h; subst hc32
    refine Rn.go 1 (j' := 309) (pc' := 1226) (ls' := [some (.ref 1009), some (.ref 0), some (.ref 61), some (.int x3)]) (st' := []) (n' := 94) (M' := (I, J, xrf)) (fun f => rfl) ?_
    exact p_L_law_131 x3 I J h hC
  rw [if_neg hc32] at h
  by_cases hc33 : s0 = 33
  · rw [if_pos hc33] at h; subst hc33
    refine Rn.go 1 (j' := 309) (pc' := 1239) (ls' := [some (.ref 1009), some (.ref 0), some (.ref 61), some (.int x3)]) (st' := []) (n' := 94) (M' := (I, J, xrf)) (fun f => rfl) ?_
    exact p_L_law_135 x3 I J h hC
  rw [if_neg hc33] at h
  by_cases hc34 : s0 = 34
  · rw [if_pos hc34] at h; subst hc34
    refine Rn.go 1 (j' := 309) (pc' := 1272) (ls' := [some (.ref 1009), some (.ref 0), some (.ref 61), some (.int x3)]) (st' := []) (n' := 94) (M' := (I, J, xrf)) (fun f => rfl) ?_
    exact p_L_law_139 x3 I J h hC
  rw [if_neg hc34] at h
  by_cases hc35 : s0 = 35
  · rw [if_pos hc35] at h; subst hc35
    refine Rn.go 1 (j' := 309) (pc' := 1305) (ls' := [some (.ref 1009), some (.ref 0), some (.ref 61), some (.int x3)]) (st' := []) (n' := 94) (M' := (I, J, xrf)) (fun f => rfl) ?_
    exact p_L_law_143 x3 I J h hC
  rw [if_neg hc35] at h
  by_cases hc36 : s0 = 36
  · rw [if_pos hc36] at h; subst hc36
    refine Rn.go 1 (j' := 309) (pc' := 1328) (ls' := [some (.ref 1009), some (.ref 0), some (.ref 61), some (.int x3)]) (st' := []) (n' := 94) (M' := (I, J, xrf)) (fun f => rfl) ?_
    exact p_L_law_147 x3 I J h hC
  rw [if_neg hc36] at h
  by_cases hc37 : s0 = 37
  · rw [if_pos hc37] at h; subst hc37
    refine Rn.go 1 (j' := 309) (pc' := 1351) (ls' := [some (.ref 1009), some (.ref 0), some (.ref 61), some (.int x3)]) (st' := []) (n' := 94) (M' := (I, J, xrf)) (fun f => rfl) ?_
    exact p_L_law_151 x3 I J h hC
  rw [if_neg hc37] at h
  have ho : Int32.toInt s0 < 0 ∨ 37 < Int32.toInt s0 := xsw_out (fun i h1 h2 => by
      have hh : i = 0 ∨ i = 1 ∨ i = 2 ∨ i = 3 ∨ i = 4 ∨ i = 5 ∨ i = 6 ∨ i = 7 ∨ i = 8 ∨ i = 9 ∨ i = 10 ∨ i = 11 ∨ i = 12 ∨ i = 13 ∨ i = 14 ∨ i = 15 ∨ i = 16 ∨ i = 17 ∨ i = 18 ∨ i = 19 ∨ i = 20 ∨ i = 21 ∨ i = 22 ∨ i = 23 ∨ i = 24 ∨ i = 25 ∨ i = 26 ∨ i = 27 ∨ i = 28 ∨ i = 29 ∨ i = 30 ∨ i = 31 ∨ i = 32 ∨ i = 33 ∨ i = 34 ∨ i = 35 ∨ i = 36 ∨ i = 37 := (by omega)
      rcases hh with rfl | rfl | rfl | rfl | rfl | rfl | rfl | rfl | rfl | rfl | rfl | rfl | rfl | rfl | rfl | rfl | rfl | rfl | rfl | rfl | rfl | rfl | rfl | rfl | rfl | rfl | rfl | rfl | rfl | rfl | rfl | rfl | rfl | rfl | rfl | rfl | rfl | rfl
      · exact hc0
      · exact hc1
      · exact hc2
      · exact hc3
      · exact hc4
      · exact hc5
      · exact hc6
      · exact hc7
      · exact hc8
      · exact hc9
      · exact hc10
      · exact hc11
      · exact hc12
      · exact hc13
      · exact hc14
      · exact hc15
      · exact hc16
      · exact hc17
      · exact hc18
      · exact hc19
      · exact hc20
      · exact hc21
      · exact hc22
      · exact hc23
      · exact hc24
      · exact hc25
      · exact hc26
      · exact hc27
      · exact hc28
      · exact hc29
      · exact hc30
      · exact hc31
      · exact hc32
      · exact hc33
      · exact hc34
      · exact hc35
      · exact hc36
      · exact hc37)
  refine Rn.go 1 (d' := (d + 32)) (j' := 309) (pc' := 1374) (ls' := [some (.ref 1009), some (.ref 0), some (.ref 61), some (.int x3)]) (st' := []) (n' := 94) (M' := (I, J, xrf)) (fun f => by show (if Int32.toInt s0 < 0 ∨ 37 < Int32.toInt s0 then _ else _) = _; rw [if_pos ho] <;> rfl) ?_
  exact p_L_law_155 x3 I J h hC
set_option maxRecDepth 100000 in
theorem p_L_law_1 {L : Nat} {xs : Nat → Int32} {d : Nat} {Q : xO → Prop} (x3 : Int32) (I : xI) (J : xJ) {t : (Int32 × xI × xJ) ⊕ (Int32 × xI × xJ)} (h : f_L_law_1 L xs x3 I J = some t) (hC : (c_L_law_0 L xs d Q) t) : Rn L xs (d + 32) 309 27 [some (.ref 1009), some (.ref 0), some (.ref 61), some (.int x3)] [] 94 (I, J, xrf) Q := by
  unfold f_L_law_1 at h
  obtain ⟨hc, h⟩ := xif h
  refine Rn.ok 3 (c := x3 < 0 ∨ L ≤ x3.toNatClampNeg) (p1 := 30) (l1 := [some (.ref 1009), some (.ref 0), some (.ref 61), some (.int x3)]) (s1 := [.int ((xs x3.toNatClampNeg))]) (n1 := 94) (M1 := (I, J, xrf)) (fun f => rfl) hc ?_
  refine Rn.go 2 (j' := 309) (pc' := 33) (ls' := [some (.ref 1009), some (.ref 0), some (.ref 61), some (.int x3)]) (st' := [.int (((xs x3.toNatClampNeg) &&& 63))]) (n' := 94) (M' := (I, J, xrf)) (fun f => rfl) ?_
  exact p_L_law_2 x3 (((xs x3.toNatClampNeg) &&& 63)) I J h hC
set_option maxRecDepth 100000 in
theorem q_L_law_0 {L : Nat} {xs : Nat → Int32} {d : Nat} {Q : xO → Prop} (x3 : Int32) (I : xI) (J : xJ) {t : (Int32 × xI × xJ) ⊕ (Int32 × xI × xJ)} (h : b_L_law_0 L xs x3 I J = some t) (hC : (c_L_law_0 L xs d Q) t) : Rn L xs (d + 32) 309 18 [some (.ref 1009), some (.ref 0), some (.ref 61), some (.int x3)] [] 94 (I, J, xrf) Q := by
  unfold b_L_law_0 at h
  refine Rn.fi 6 (c := ((Int32.ofNat L) - 6) < x3) (p1 := 1380) (l1 := [some (.ref 1009), some (.ref 0), some (.ref 61), some (.int x3)]) (s1 := []) (n1 := 94) (M1 := (I, J, xrf)) (p2 := 27) (l2 := [some (.ref 1009), some (.ref 0), some (.ref 61), some (.int x3)]) (s2 := []) (n2 := 94) (M2 := (I, J, xrf)) (fun f => rfl) (fun hc => ?_) (fun hc => ?_)
  · rw [if_pos hc] at h
    obtain ⟨t0, h0, rfl⟩ := Option.map_eq_some_iff.mp h
    exact p_L_law_156 x3 I J h0 hC
  · rw [if_neg hc] at h
    exact p_L_law_1 x3 I J h hC
set_option maxRecDepth 100000 in
theorem p_L_law_0 {L : Nat} {xs : Nat → Int32} {d : Nat} {Q : xO → Prop} (x3 : Int32) (I : xI) (J : xJ) {t : Int32 × xI × xJ} (h : f_L_law_0 L xs x3 I J = some t) (hC : (c_L_law Q) t) : Rn L xs (d + 32) 309 18 [some (.ref 1009), some (.ref 0), some (.ref 61), some (.int x3)] [] 94 (I, J, xrf) Q := by
  unfold f_L_law_0 at h
  exact xloop_some (P := fun s : Int32 × xI × xJ => Rn L xs (d + 32) 309 18 [some (.ref 1009), some (.ref 0), some (.ref 61), some (.int s.1)] [] 94 (s.2.1, s.2.2, xrf) Q) t (fun s ⟨s', hb, hp⟩ => q_L_law_0 s.1 s.2.1 s.2.2 hb hp) (fun s hb => q_L_law_0 s.1 s.2.1 s.2.2 hb hC) _ _ h
set_option maxRecDepth 100000 in
theorem p_L_law {L : Nat} {xs : Nat → Int32} {d : Nat} {Q : xO → Prop} (x3 : Int32) (I : xI) (J : xJ) {t : Int32 × xI × xJ} (h : f_L_law L xs x3 I J = some t) (hC : Q ((some (.int t.1)), 94, (t.2.1, t.2.2, xrf))) : Rn L xs (d + 32) 309 18 [some (.ref 1009), some (.ref 0), some (.ref 61), some (.int x3)] [] 94 (I, J, xrf) Q := p_L_law_0 x3 I J h hC
