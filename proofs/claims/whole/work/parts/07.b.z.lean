/-! names for the pure functions: memory, tables outside, texts -/
abbrev xI : Type := Nat → Nat → Int32
abbrev xJ : Type := Nat → Nat → Int64
def zst1000 (k : Nat) : Int32 := ([0, 1, 2, 4, 8, 16, 1, 0, 32, 64, 128, 256, 2, 32, 0, 512, 1024, 2048, 4, 64, 512, 0, 4096, 8192, 8, 128, 1024, 4096, 0, 16384, 16, 256, 2048, 8192, 16384, 0] : List Int32).getD k 0
def zst1001 (k : Nat) : Int32 := ([1, 10, 100, 1000, 10000, 100000] : List Int32).getD k 0
def zst1002 (k : Nat) : Int32 := ([0, 1, 2, 4, 3, 5, 6, 7] : List Int32).getD k 0
def zst1003 (k : Nat) : Int32 := ([1, 3, 9, 27] : List Int32).getD k 0
def zst1004 (k : Nat) : Int32 := ([0, 1, 256, 257, 65536, 65537, 65792, 65793] : List Int32).getD k 0
abbrev zok (w : Nat) : Prop := 2000 ≤ w ∧ w < 2010
def zlen (w : Nat) : Nat := xslen.getD (w - 2000) 0
def zchr (w k : Nat) : Int32 := (xsbyt.getD (w - 2000) []).getD k 0
theorem zok_of {w : Nat} (h : ¬ ¬ zok w) : w = 2000 ∨ w = 2001 ∨ w = 2002 ∨ w = 2003 ∨ w = 2004 ∨ w = 2005 ∨ w = 2006 ∨ w = 2007 ∨ w = 2008 ∨ w = 2009 := by
  have h : zok w := Decidable.of_not_not h
  omega
theorem z_len {L : Nat} {xs : Nat → Int32} {d : Nat} {Q : xO → Prop} {M : xM} {w : Nat} (hc : ¬ ¬ zok w) (hq : Q (some (.int (Int32.ofNat (zlen w))), 94, M)) : Rn L xs (d + 3) 300 0 [some (.ref w)] [] 94 M Q := by
  rcases zok_of hc with rfl | rfl | rfl | rfl | rfl | rfl | rfl | rfl | rfl | rfl
  · exact Rn.ret 60 (fun f => rfl) hq
  · exact Rn.ret 60 (fun f => rfl) hq
  · exact Rn.ret 60 (fun f => rfl) hq
  · exact Rn.ret 60 (fun f => rfl) hq
  · exact Rn.ret 60 (fun f => rfl) hq
  · exact Rn.ret 60 (fun f => rfl) hq
  · exact Rn.ret 60 (fun f => rfl) hq
  · exact Rn.ret 60 (fun f => rfl) hq
  · exact Rn.ret 60 (fun f => rfl) hq
  · exact Rn.ret 60 (fun f => rfl) hq
theorem z_emp {L : Nat} {xs : Nat → Int32} {d : Nat} {Q : xO → Prop} {M : xM} {w : Nat} (hc : ¬ ¬ zok w) (hq : Q (some (.int (if zlen w = 0 then 1 else 0)), 94, M)) : Rn L xs (d + 3) 301 0 [some (.ref w)] [] 94 M Q := by
  rcases zok_of hc with rfl | rfl | rfl | rfl | rfl | rfl | rfl | rfl | rfl | rfl
  · exact Rn.ret 60 (fun f => rfl) hq
  · exact Rn.ret 60 (fun f => rfl) hq
  · exact Rn.ret 60 (fun f => rfl) hq
  · exact Rn.ret 60 (fun f => rfl) hq
  · exact Rn.ret 60 (fun f => rfl) hq
  · exact Rn.ret 60 (fun f => rfl) hq
  · exact Rn.ret 60 (fun f => rfl) hq
  · exact Rn.ret 60 (fun f => rfl) hq
  · exact Rn.ret 60 (fun f => rfl) hq
  · exact Rn.ret 60 (fun f => rfl) hq
theorem z_ci3 {L : Nat} {xs : Nat → Int32} {d : Nat} {Q : xO → Prop} {M : xM} {x n : Int32} (h0 : ¬ x < 0) (h1 : x < n) (hq : Q (some (.int x), 94, M)) : Rn L xs d 308 0 [some (.int x), some (.int n), some (.ref 2999)] [] 94 M Q := by
  refine Rn.fi 2 (c := x < 0) (p1 := 9) (l1 := [some (.int x), some (.int n), some (.ref 2999)]) (s1 := []) (n1 := 94) (M1 := M) (p2 := 4) (l2 := [some (.int x), some (.int n), some (.ref 2999)]) (s2 := []) (n2 := 94) (M2 := M) (fun f => rfl) (fun hc => absurd hc h0) (fun _ => ?_)
  refine Rn.fi 3 (c := x < n) (p1 := 16) (l1 := [some (.int x), some (.int n), some (.ref 2999)]) (s1 := []) (n1 := 94) (M1 := M) (p2 := 9) (l2 := [some (.int x), some (.int n), some (.ref 2999)]) (s2 := []) (n2 := 94) (M2 := M) (fun f => rfl) (fun _ => ?_) (fun hc => absurd h1 hc)
  exact Rn.ret 2 (fun f => rfl) hq
theorem z_ci {L : Nat} {xs : Nat → Int32} {d : Nat} {Q : xO → Prop} {M : xM} {x n : Int32} (h0 : ¬ x < 0) (h1 : x < n) (hq : Q (none, 94, M)) : Rn L xs (d + 1) 305 0 [some (.int x), some (.int n)] [] 94 M Q := by
  refine Rn.go 3 (j' := 305) (pc' := 5) (ls' := [some (.int x), some (.int n)]) (st' := [.ref 2999, .int n, .int x]) (n' := 94) (M' := M) (fun f => rfl) ?_
  refine Rn.call (d1 := d) (j1 := 308) (ls1 := [some (.int x), some (.int n), some (.ref 2999)]) (rest := []) (fun f => rfl) ?_
  refine z_ci3 h0 h1 ?_
  exact Rn.ret 2 (fun f => rfl) hq
theorem z_lat {L : Nat} {xs : Nat → Int32} {d : Nat} {Q : xO → Prop} {M : xM} {w : Nat} (hc : ¬ ¬ zok w) (hq : Q (some (.int 1), 94, M)) : Rn L xs d 304 0 [some (.ref w)] [] 94 M Q := by
  rcases zok_of hc with rfl | rfl | rfl | rfl | rfl | rfl | rfl | rfl | rfl | rfl
  · exact Rn.ret 20 (fun f => rfl) hq
  · exact Rn.ret 20 (fun f => rfl) hq
  · exact Rn.ret 20 (fun f => rfl) hq
  · exact Rn.ret 20 (fun f => rfl) hq
  · exact Rn.ret 20 (fun f => rfl) hq
  · exact Rn.ret 20 (fun f => rfl) hq
  · exact Rn.ret 20 (fun f => rfl) hq
  · exact Rn.ret 20 (fun f => rfl) hq
  · exact Rn.ret 20 (fun f => rfl) hq
  · exact Rn.ret 20 (fun f => rfl) hq
theorem z_c1_2001 {L : Nat} {xs : Nat → Int32} {d : Nat} {Q : xO → Prop} {M : xM} {k : Int32} (hv : vp_in k 5) (hq : Q (some (.int (zchr 2001 k.toNatClampNeg)), 94, M)) : Rn L xs (d + 2) 306 0 [some (.ref 2101), some (.int k)] [] 94 M Q := by
  refine Rn.go 3 (j' := 306) (pc' := 3) (ls' := [some (.ref 2101), some (.int k)]) (st' := [.int (Int32.ofNat 5), .int k]) (n' := 94) (M' := M) (fun f => rfl) ?_
  refine Rn.call (d1 := d + 1) (j1 := 305) (ls1 := [some (.int k), some (.int (Int32.ofNat 5))]) (rest := []) (fun f => rfl) ?_
  obtain ⟨j, hj, hk⟩ := vp_in_of hv (by decide)
  refine z_ci (fun q => hv (Or.inl q)) (by rw [hk]; exact nI_lt hj (by decide)) ?_
  refine Rn.ok 3 (c := k < 0 ∨ 5 ≤ k.toNatClampNeg) (p1 := 9) (l1 := [some (.ref 2101), some (.int k)]) (s1 := [.int (zchr 2001 k.toNatClampNeg)]) (n1 := 94) (M1 := M) (fun f => rfl) hv ?_
  refine Rn.go 3 (j' := 306) (pc' := 14) (ls' := [some (.ref 2101), some (.int k)]) (st' := [.int (UInt32.toInt32 (Int32.toUInt32 (zchr 2001 k.toNatClampNeg &&& 255) % 65536))]) (n' := 94) (M' := M) (fun f => rfl) ?_
  refine Rn.retT 1 (c := narrow .char (.int (UInt32.toInt32 (Int32.toUInt32 (zchr 2001 k.toNatClampNeg &&& 255) % 65536))) = .int (UInt32.toInt32 (Int32.toUInt32 (zchr 2001 k.toNatClampNeg &&& 255) % 65536))) (o := (some (.int (UInt32.toInt32 (Int32.toUInt32 (zchr 2001 k.toNatClampNeg &&& 255) % 65536))), 94, M)) (fun f => rfl) (pk_nc _) ?_
  have e : UInt32.toInt32 (Int32.toUInt32 (zchr 2001 k.toNatClampNeg &&& 255) % 65536) = zchr 2001 k.toNatClampNeg := by
    rw [hk, nI_clamp (by omega)]
    match j, hj with
    | 0, _ => decide +kernel
    | 1, _ => decide +kernel
    | 2, _ => decide +kernel
    | 3, _ => decide +kernel
    | 4, _ => decide +kernel
  rw [e]
  exact hq
theorem z_c1_2002 {L : Nat} {xs : Nat → Int32} {d : Nat} {Q : xO → Prop} {M : xM} {k : Int32} (hv : vp_in k 6) (hq : Q (some (.int (zchr 2002 k.toNatClampNeg)), 94, M)) : Rn L xs (d + 2) 306 0 [some (.ref 2102), some (.int k)] [] 94 M Q := by
  refine Rn.go 3 (j' := 306) (pc' := 3) (ls' := [some (.ref 2102), some (.int k)]) (st' := [.int (Int32.ofNat 6), .int k]) (n' := 94) (M' := M) (fun f => rfl) ?_
  refine Rn.call (d1 := d + 1) (j1 := 305) (ls1 := [some (.int k), some (.int (Int32.ofNat 6))]) (rest := []) (fun f => rfl) ?_
  obtain ⟨j, hj, hk⟩ := vp_in_of hv (by decide)
  refine z_ci (fun q => hv (Or.inl q)) (by rw [hk]; exact nI_lt hj (by decide)) ?_
  refine Rn.ok 3 (c := k < 0 ∨ 6 ≤ k.toNatClampNeg) (p1 := 9) (l1 := [some (.ref 2102), some (.int k)]) (s1 := [.int (zchr 2002 k.toNatClampNeg)]) (n1 := 94) (M1 := M) (fun f => rfl) hv ?_
  refine Rn.go 3 (j' := 306) (pc' := 14) (ls' := [some (.ref 2102), some (.int k)]) (st' := [.int (UInt32.toInt32 (Int32.toUInt32 (zchr 2002 k.toNatClampNeg &&& 255) % 65536))]) (n' := 94) (M' := M) (fun f => rfl) ?_
  refine Rn.retT 1 (c := narrow .char (.int (UInt32.toInt32 (Int32.toUInt32 (zchr 2002 k.toNatClampNeg &&& 255) % 65536))) = .int (UInt32.toInt32 (Int32.toUInt32 (zchr 2002 k.toNatClampNeg &&& 255) % 65536))) (o := (some (.int (UInt32.toInt32 (Int32.toUInt32 (zchr 2002 k.toNatClampNeg &&& 255) % 65536))), 94, M)) (fun f => rfl) (pk_nc _) ?_
  have e : UInt32.toInt32 (Int32.toUInt32 (zchr 2002 k.toNatClampNeg &&& 255) % 65536) = zchr 2002 k.toNatClampNeg := by
    rw [hk, nI_clamp (by omega)]
    match j, hj with
    | 0, _ => decide +kernel
    | 1, _ => decide +kernel
    | 2, _ => decide +kernel
    | 3, _ => decide +kernel
    | 4, _ => decide +kernel
    | 5, _ => decide +kernel
  rw [e]
  exact hq
theorem z_c1_2003 {L : Nat} {xs : Nat → Int32} {d : Nat} {Q : xO → Prop} {M : xM} {k : Int32} (hv : vp_in k 4) (hq : Q (some (.int (zchr 2003 k.toNatClampNeg)), 94, M)) : Rn L xs (d + 2) 306 0 [some (.ref 2103), some (.int k)] [] 94 M Q := by
  refine Rn.go 3 (j' := 306) (pc' := 3) (ls' := [some (.ref 2103), some (.int k)]) (st' := [.int (Int32.ofNat 4), .int k]) (n' := 94) (M' := M) (fun f => rfl) ?_
  refine Rn.call (d1 := d + 1) (j1 := 305) (ls1 := [some (.int k), some (.int (Int32.ofNat 4))]) (rest := []) (fun f => rfl) ?_
  obtain ⟨j, hj, hk⟩ := vp_in_of hv (by decide)
  refine z_ci (fun q => hv (Or.inl q)) (by rw [hk]; exact nI_lt hj (by decide)) ?_
  refine Rn.ok 3 (c := k < 0 ∨ 4 ≤ k.toNatClampNeg) (p1 := 9) (l1 := [some (.ref 2103), some (.int k)]) (s1 := [.int (zchr 2003 k.toNatClampNeg)]) (n1 := 94) (M1 := M) (fun f => rfl) hv ?_
  refine Rn.go 3 (j' := 306) (pc' := 14) (ls' := [some (.ref 2103), some (.int k)]) (st' := [.int (UInt32.toInt32 (Int32.toUInt32 (zchr 2003 k.toNatClampNeg &&& 255) % 65536))]) (n' := 94) (M' := M) (fun f => rfl) ?_
  refine Rn.retT 1 (c := narrow .char (.int (UInt32.toInt32 (Int32.toUInt32 (zchr 2003 k.toNatClampNeg &&& 255) % 65536))) = .int (UInt32.toInt32 (Int32.toUInt32 (zchr 2003 k.toNatClampNeg &&& 255) % 65536))) (o := (some (.int (UInt32.toInt32 (Int32.toUInt32 (zchr 2003 k.toNatClampNeg &&& 255) % 65536))), 94, M)) (fun f => rfl) (pk_nc _) ?_
  have e : UInt32.toInt32 (Int32.toUInt32 (zchr 2003 k.toNatClampNeg &&& 255) % 65536) = zchr 2003 k.toNatClampNeg := by
    rw [hk, nI_clamp (by omega)]
    match j, hj with
    | 0, _ => decide +kernel
    | 1, _ => decide +kernel
    | 2, _ => decide +kernel
    | 3, _ => decide +kernel
  rw [e]
  exact hq
theorem z_c1_2004 {L : Nat} {xs : Nat → Int32} {d : Nat} {Q : xO → Prop} {M : xM} {k : Int32} (hv : vp_in k 4) (hq : Q (some (.int (zchr 2004 k.toNatClampNeg)), 94, M)) : Rn L xs (d + 2) 306 0 [some (.ref 2104), some (.int k)] [] 94 M Q := by
  refine Rn.go 3 (j' := 306) (pc' := 3) (ls' := [some (.ref 2104), some (.int k)]) (st' := [.int (Int32.ofNat 4), .int k]) (n' := 94) (M' := M) (fun f => rfl) ?_
  refine Rn.call (d1 := d + 1) (j1 := 305) (ls1 := [some (.int k), some (.int (Int32.ofNat 4))]) (rest := []) (fun f => rfl) ?_
  obtain ⟨j, hj, hk⟩ := vp_in_of hv (by decide)
  refine z_ci (fun q => hv (Or.inl q)) (by rw [hk]; exact nI_lt hj (by decide)) ?_
  refine Rn.ok 3 (c := k < 0 ∨ 4 ≤ k.toNatClampNeg) (p1 := 9) (l1 := [some (.ref 2104), some (.int k)]) (s1 := [.int (zchr 2004 k.toNatClampNeg)]) (n1 := 94) (M1 := M) (fun f => rfl) hv ?_
  refine Rn.go 3 (j' := 306) (pc' := 14) (ls' := [some (.ref 2104), some (.int k)]) (st' := [.int (UInt32.toInt32 (Int32.toUInt32 (zchr 2004 k.toNatClampNeg &&& 255) % 65536))]) (n' := 94) (M' := M) (fun f => rfl) ?_
  refine Rn.retT 1 (c := narrow .char (.int (UInt32.toInt32 (Int32.toUInt32 (zchr 2004 k.toNatClampNeg &&& 255) % 65536))) = .int (UInt32.toInt32 (Int32.toUInt32 (zchr 2004 k.toNatClampNeg &&& 255) % 65536))) (o := (some (.int (UInt32.toInt32 (Int32.toUInt32 (zchr 2004 k.toNatClampNeg &&& 255) % 65536))), 94, M)) (fun f => rfl) (pk_nc _) ?_
  have e : UInt32.toInt32 (Int32.toUInt32 (zchr 2004 k.toNatClampNeg &&& 255) % 65536) = zchr 2004 k.toNatClampNeg := by
    rw [hk, nI_clamp (by omega)]
    match j, hj with
    | 0, _ => decide +kernel
    | 1, _ => decide +kernel
    | 2, _ => decide +kernel
    | 3, _ => decide +kernel
  rw [e]
  exact hq
theorem z_c1_2005 {L : Nat} {xs : Nat → Int32} {d : Nat} {Q : xO → Prop} {M : xM} {k : Int32} (hv : vp_in k 4) (hq : Q (some (.int (zchr 2005 k.toNatClampNeg)), 94, M)) : Rn L xs (d + 2) 306 0 [some (.ref 2105), some (.int k)] [] 94 M Q := by
  refine Rn.go 3 (j' := 306) (pc' := 3) (ls' := [some (.ref 2105), some (.int k)]) (st' := [.int (Int32.ofNat 4), .int k]) (n' := 94) (M' := M) (fun f => rfl) ?_
  refine Rn.call (d1 := d + 1) (j1 := 305) (ls1 := [some (.int k), some (.int (Int32.ofNat 4))]) (rest := []) (fun f => rfl) ?_
  obtain ⟨j, hj, hk⟩ := vp_in_of hv (by decide)
  refine z_ci (fun q => hv (Or.inl q)) (by rw [hk]; exact nI_lt hj (by decide)) ?_
  refine Rn.ok 3 (c := k < 0 ∨ 4 ≤ k.toNatClampNeg) (p1 := 9) (l1 := [some (.ref 2105), some (.int k)]) (s1 := [.int (zchr 2005 k.toNatClampNeg)]) (n1 := 94) (M1 := M) (fun f => rfl) hv ?_
  refine Rn.go 3 (j' := 306) (pc' := 14) (ls' := [some (.ref 2105), some (.int k)]) (st' := [.int (UInt32.toInt32 (Int32.toUInt32 (zchr 2005 k.toNatClampNeg &&& 255) % 65536))]) (n' := 94) (M' := M) (fun f => rfl) ?_
  refine Rn.retT 1 (c := narrow .char (.int (UInt32.toInt32 (Int32.toUInt32 (zchr 2005 k.toNatClampNeg &&& 255) % 65536))) = .int (UInt32.toInt32 (Int32.toUInt32 (zchr 2005 k.toNatClampNeg &&& 255) % 65536))) (o := (some (.int (UInt32.toInt32 (Int32.toUInt32 (zchr 2005 k.toNatClampNeg &&& 255) % 65536))), 94, M)) (fun f => rfl) (pk_nc _) ?_
  have e : UInt32.toInt32 (Int32.toUInt32 (zchr 2005 k.toNatClampNeg &&& 255) % 65536) = zchr 2005 k.toNatClampNeg := by
    rw [hk, nI_clamp (by omega)]
    match j, hj with
    | 0, _ => decide +kernel
    | 1, _ => decide +kernel
    | 2, _ => decide +kernel
    | 3, _ => decide +kernel
  rw [e]
  exact hq
theorem z_c1_2006 {L : Nat} {xs : Nat → Int32} {d : Nat} {Q : xO → Prop} {M : xM} {k : Int32} (hv : vp_in k 2) (hq : Q (some (.int (zchr 2006 k.toNatClampNeg)), 94, M)) : Rn L xs (d + 2) 306 0 [some (.ref 2106), some (.int k)] [] 94 M Q := by
  refine Rn.go 3 (j' := 306) (pc' := 3) (ls' := [some (.ref 2106), some (.int k)]) (st' := [.int (Int32.ofNat 2), .int k]) (n' := 94) (M' := M) (fun f => rfl) ?_
  refine Rn.call (d1 := d + 1) (j1 := 305) (ls1 := [some (.int k), some (.int (Int32.ofNat 2))]) (rest := []) (fun f => rfl) ?_
  obtain ⟨j, hj, hk⟩ := vp_in_of hv (by decide)
  refine z_ci (fun q => hv (Or.inl q)) (by rw [hk]; exact nI_lt hj (by decide)) ?_
  refine Rn.ok 3 (c := k < 0 ∨ 2 ≤ k.toNatClampNeg) (p1 := 9) (l1 := [some (.ref 2106), some (.int k)]) (s1 := [.int (zchr 2006 k.toNatClampNeg)]) (n1 := 94) (M1 := M) (fun f => rfl) hv ?_
  refine Rn.go 3 (j' := 306) (pc' := 14) (ls' := [some (.ref 2106), some (.int k)]) (st' := [.int (UInt32.toInt32 (Int32.toUInt32 (zchr 2006 k.toNatClampNeg &&& 255) % 65536))]) (n' := 94) (M' := M) (fun f => rfl) ?_
  refine Rn.retT 1 (c := narrow .char (.int (UInt32.toInt32 (Int32.toUInt32 (zchr 2006 k.toNatClampNeg &&& 255) % 65536))) = .int (UInt32.toInt32 (Int32.toUInt32 (zchr 2006 k.toNatClampNeg &&& 255) % 65536))) (o := (some (.int (UInt32.toInt32 (Int32.toUInt32 (zchr 2006 k.toNatClampNeg &&& 255) % 65536))), 94, M)) (fun f => rfl) (pk_nc _) ?_
  have e : UInt32.toInt32 (Int32.toUInt32 (zchr 2006 k.toNatClampNeg &&& 255) % 65536) = zchr 2006 k.toNatClampNeg := by
    rw [hk, nI_clamp (by omega)]
    match j, hj with
    | 0, _ => decide +kernel
    | 1, _ => decide +kernel
  rw [e]
  exact hq
theorem z_c1_2007 {L : Nat} {xs : Nat → Int32} {d : Nat} {Q : xO → Prop} {M : xM} {k : Int32} (hv : vp_in k 2) (hq : Q (some (.int (zchr 2007 k.toNatClampNeg)), 94, M)) : Rn L xs (d + 2) 306 0 [some (.ref 2107), some (.int k)] [] 94 M Q := by
  refine Rn.go 3 (j' := 306) (pc' := 3) (ls' := [some (.ref 2107), some (.int k)]) (st' := [.int (Int32.ofNat 2), .int k]) (n' := 94) (M' := M) (fun f => rfl) ?_
  refine Rn.call (d1 := d + 1) (j1 := 305) (ls1 := [some (.int k), some (.int (Int32.ofNat 2))]) (rest := []) (fun f => rfl) ?_
  obtain ⟨j, hj, hk⟩ := vp_in_of hv (by decide)
  refine z_ci (fun q => hv (Or.inl q)) (by rw [hk]; exact nI_lt hj (by decide)) ?_
  refine Rn.ok 3 (c := k < 0 ∨ 2 ≤ k.toNatClampNeg) (p1 := 9) (l1 := [some (.ref 2107), some (.int k)]) (s1 := [.int (zchr 2007 k.toNatClampNeg)]) (n1 := 94) (M1 := M) (fun f => rfl) hv ?_
  refine Rn.go 3 (j' := 306) (pc' := 14) (ls' := [some (.ref 2107), some (.int k)]) (st' := [.int (UInt32.toInt32 (Int32.toUInt32 (zchr 2007 k.toNatClampNeg &&& 255) % 65536))]) (n' := 94) (M' := M) (fun f => rfl) ?_
  refine Rn.retT 1 (c := narrow .char (.int (UInt32.toInt32 (Int32.toUInt32 (zchr 2007 k.toNatClampNeg &&& 255) % 65536))) = .int (UInt32.toInt32 (Int32.toUInt32 (zchr 2007 k.toNatClampNeg &&& 255) % 65536))) (o := (some (.int (UInt32.toInt32 (Int32.toUInt32 (zchr 2007 k.toNatClampNeg &&& 255) % 65536))), 94, M)) (fun f => rfl) (pk_nc _) ?_
  have e : UInt32.toInt32 (Int32.toUInt32 (zchr 2007 k.toNatClampNeg &&& 255) % 65536) = zchr 2007 k.toNatClampNeg := by
    rw [hk, nI_clamp (by omega)]
    match j, hj with
    | 0, _ => decide +kernel
    | 1, _ => decide +kernel
  rw [e]
  exact hq
theorem z_c1_2008 {L : Nat} {xs : Nat → Int32} {d : Nat} {Q : xO → Prop} {M : xM} {k : Int32} (hv : vp_in k 5) (hq : Q (some (.int (zchr 2008 k.toNatClampNeg)), 94, M)) : Rn L xs (d + 2) 306 0 [some (.ref 2108), some (.int k)] [] 94 M Q := by
  refine Rn.go 3 (j' := 306) (pc' := 3) (ls' := [some (.ref 2108), some (.int k)]) (st' := [.int (Int32.ofNat 5), .int k]) (n' := 94) (M' := M) (fun f => rfl) ?_
  refine Rn.call (d1 := d + 1) (j1 := 305) (ls1 := [some (.int k), some (.int (Int32.ofNat 5))]) (rest := []) (fun f => rfl) ?_
  obtain ⟨j, hj, hk⟩ := vp_in_of hv (by decide)
  refine z_ci (fun q => hv (Or.inl q)) (by rw [hk]; exact nI_lt hj (by decide)) ?_
  refine Rn.ok 3 (c := k < 0 ∨ 5 ≤ k.toNatClampNeg) (p1 := 9) (l1 := [some (.ref 2108), some (.int k)]) (s1 := [.int (zchr 2008 k.toNatClampNeg)]) (n1 := 94) (M1 := M) (fun f => rfl) hv ?_
  refine Rn.go 3 (j' := 306) (pc' := 14) (ls' := [some (.ref 2108), some (.int k)]) (st' := [.int (UInt32.toInt32 (Int32.toUInt32 (zchr 2008 k.toNatClampNeg &&& 255) % 65536))]) (n' := 94) (M' := M) (fun f => rfl) ?_
  refine Rn.retT 1 (c := narrow .char (.int (UInt32.toInt32 (Int32.toUInt32 (zchr 2008 k.toNatClampNeg &&& 255) % 65536))) = .int (UInt32.toInt32 (Int32.toUInt32 (zchr 2008 k.toNatClampNeg &&& 255) % 65536))) (o := (some (.int (UInt32.toInt32 (Int32.toUInt32 (zchr 2008 k.toNatClampNeg &&& 255) % 65536))), 94, M)) (fun f => rfl) (pk_nc _) ?_
  have e : UInt32.toInt32 (Int32.toUInt32 (zchr 2008 k.toNatClampNeg &&& 255) % 65536) = zchr 2008 k.toNatClampNeg := by
    rw [hk, nI_clamp (by omega)]
    match j, hj with
    | 0, _ => decide +kernel
    | 1, _ => decide +kernel
    | 2, _ => decide +kernel
    | 3, _ => decide +kernel
    | 4, _ => decide +kernel
  rw [e]
  exact hq
theorem z_c1_2009 {L : Nat} {xs : Nat → Int32} {d : Nat} {Q : xO → Prop} {M : xM} {k : Int32} (hv : vp_in k 3) (hq : Q (some (.int (zchr 2009 k.toNatClampNeg)), 94, M)) : Rn L xs (d + 2) 306 0 [some (.ref 2109), some (.int k)] [] 94 M Q := by
  refine Rn.go 3 (j' := 306) (pc' := 3) (ls' := [some (.ref 2109), some (.int k)]) (st' := [.int (Int32.ofNat 3), .int k]) (n' := 94) (M' := M) (fun f => rfl) ?_
  refine Rn.call (d1 := d + 1) (j1 := 305) (ls1 := [some (.int k), some (.int (Int32.ofNat 3))]) (rest := []) (fun f => rfl) ?_
  obtain ⟨j, hj, hk⟩ := vp_in_of hv (by decide)
  refine z_ci (fun q => hv (Or.inl q)) (by rw [hk]; exact nI_lt hj (by decide)) ?_
  refine Rn.ok 3 (c := k < 0 ∨ 3 ≤ k.toNatClampNeg) (p1 := 9) (l1 := [some (.ref 2109), some (.int k)]) (s1 := [.int (zchr 2009 k.toNatClampNeg)]) (n1 := 94) (M1 := M) (fun f => rfl) hv ?_
  refine Rn.go 3 (j' := 306) (pc' := 14) (ls' := [some (.ref 2109), some (.int k)]) (st' := [.int (UInt32.toInt32 (Int32.toUInt32 (zchr 2009 k.toNatClampNeg &&& 255) % 65536))]) (n' := 94) (M' := M) (fun f => rfl) ?_
  refine Rn.retT 1 (c := narrow .char (.int (UInt32.toInt32 (Int32.toUInt32 (zchr 2009 k.toNatClampNeg &&& 255) % 65536))) = .int (UInt32.toInt32 (Int32.toUInt32 (zchr 2009 k.toNatClampNeg &&& 255) % 65536))) (o := (some (.int (UInt32.toInt32 (Int32.toUInt32 (zchr 2009 k.toNatClampNeg &&& 255) % 65536))), 94, M)) (fun f => rfl) (pk_nc _) ?_
  have e : UInt32.toInt32 (Int32.toUInt32 (zchr 2009 k.toNatClampNeg &&& 255) % 65536) = zchr 2009 k.toNatClampNeg := by
    rw [hk, nI_clamp (by omega)]
    match j, hj with
    | 0, _ => decide +kernel
    | 1, _ => decide +kernel
    | 2, _ => decide +kernel
  rw [e]
  exact hq
theorem z_chr {L : Nat} {xs : Nat → Int32} {d : Nat} {Q : xO → Prop} {M : xM} {w : Nat} {k : Int32} (hc : ¬ (¬ zok w ∨ k < 0 ∨ zlen w ≤ k.toNatClampNeg)) (hq : Q (some (.int (zchr w k.toNatClampNeg)), 94, M)) : Rn L xs (d + 3) 302 0 [some (.ref w), some (.int k)] [] 94 M Q := by
  simp only [not_or] at hc
  have hv : vp_in k (zlen w) := fun q => q.elim hc.2.1 hc.2.2
  have hlat := hc.1
  rcases zok_of hc.1 with rfl | rfl | rfl | rfl | rfl | rfl | rfl | rfl | rfl | rfl
  · exact absurd (Or.inr (Nat.zero_le _)) hv
  · refine Rn.go 1 (j' := 302) (pc' := 1) (ls' := [some (.ref 2001), some (.int k)]) (st' := [.ref 2001]) (n' := 94) (M' := M) (fun f => rfl) ?_
    refine Rn.call (d1 := d + 2) (j1 := 304) (ls1 := [some (.ref 2001)]) (rest := []) (fun f => rfl) ?_
    refine z_lat hlat ?_
    refine Rn.go 4 (j' := 302) (pc' := 12) (ls' := [some (.ref 2001), some (.int k)]) (st' := [.int k, .ref 2101]) (n' := 94) (M' := M) (fun f => rfl) ?_
    refine Rn.call (d1 := d + 2) (j1 := 306) (ls1 := [some (.ref 2101), some (.int k)]) (rest := []) (fun f => rfl) ?_
    refine z_c1_2001 hv ?_
    have hn : narrow .char (.int (zchr 2001 k.toNatClampNeg)) = .int (zchr 2001 k.toNatClampNeg) := by
      obtain ⟨j, hj, hk⟩ := vp_in_of (n := 5) hv (by decide)
      rw [hk, nI_clamp (by omega)]
      match j, hj with
      | 0, _ => decide +kernel
      | 1, _ => decide +kernel
      | 2, _ => decide +kernel
      | 3, _ => decide +kernel
      | 4, _ => decide +kernel
    exact Rn.retT 1 (c := narrow .char (.int (zchr 2001 k.toNatClampNeg)) = .int (zchr 2001 k.toNatClampNeg)) (o := (some (.int (zchr 2001 k.toNatClampNeg)), 94, M)) (fun f => rfl) hn hq
  · refine Rn.go 1 (j' := 302) (pc' := 1) (ls' := [some (.ref 2002), some (.int k)]) (st' := [.ref 2002]) (n' := 94) (M' := M) (fun f => rfl) ?_
    refine Rn.call (d1 := d + 2) (j1 := 304) (ls1 := [some (.ref 2002)]) (rest := []) (fun f => rfl) ?_
    refine z_lat hlat ?_
    refine Rn.go 4 (j' := 302) (pc' := 12) (ls' := [some (.ref 2002), some (.int k)]) (st' := [.int k, .ref 2102]) (n' := 94) (M' := M) (fun f => rfl) ?_
    refine Rn.call (d1 := d + 2) (j1 := 306) (ls1 := [some (.ref 2102), some (.int k)]) (rest := []) (fun f => rfl) ?_
    refine z_c1_2002 hv ?_
    have hn : narrow .char (.int (zchr 2002 k.toNatClampNeg)) = .int (zchr 2002 k.toNatClampNeg) := by
      obtain ⟨j, hj, hk⟩ := vp_in_of (n := 6) hv (by decide)
      rw [hk, nI_clamp (by omega)]
      match j, hj with
      | 0, _ => decide +kernel
      | 1, _ => decide +kernel
      | 2, _ => decide +kernel
      | 3, _ => decide +kernel
      | 4, _ => decide +kernel
      | 5, _ => decide +kernel
    exact Rn.retT 1 (c := narrow .char (.int (zchr 2002 k.toNatClampNeg)) = .int (zchr 2002 k.toNatClampNeg)) (o := (some (.int (zchr 2002 k.toNatClampNeg)), 94, M)) (fun f => rfl) hn hq
  · refine Rn.go 1 (j' := 302) (pc' := 1) (ls' := [some (.ref 2003), some (.int k)]) (st' := [.ref 2003]) (n' := 94) (M' := M) (fun f => rfl) ?_
    refine Rn.call (d1 := d + 2) (j1 := 304) (ls1 := [some (.ref 2003)]) (rest := []) (fun f => rfl) ?_
    refine z_lat hlat ?_
    refine Rn.go 4 (j' := 302) (pc' := 12) (ls' := [some (.ref 2003), some (.int k)]) (st' := [.int k, .ref 2103]) (n' := 94) (M' := M) (fun f => rfl) ?_
    refine Rn.call (d1 := d + 2) (j1 := 306) (ls1 := [some (.ref 2103), some (.int k)]) (rest := []) (fun f => rfl) ?_
    refine z_c1_2003 hv ?_
    have hn : narrow .char (.int (zchr 2003 k.toNatClampNeg)) = .int (zchr 2003 k.toNatClampNeg) := by
      obtain ⟨j, hj, hk⟩ := vp_in_of (n := 4) hv (by decide)
      rw [hk, nI_clamp (by omega)]
      match j, hj with
      | 0, _ => decide +kernel
      | 1, _ => decide +kernel
      | 2, _ => decide +kernel
      | 3, _ => decide +kernel
    exact Rn.retT 1 (c := narrow .char (.int (zchr 2003 k.toNatClampNeg)) = .int (zchr 2003 k.toNatClampNeg)) (o := (some (.int (zchr 2003 k.toNatClampNeg)), 94, M)) (fun f => rfl) hn hq
  · refine Rn.go 1 (j' := 302) (pc' := 1) (ls' := [some (.ref 2004), some (.int k)]) (st' := [.ref 2004]) (n' := 94) (M' := M) (fun f => rfl) ?_
    refine Rn.call (d1 := d + 2) (j1 := 304) (ls1 := [some (.ref 2004)]) (rest := []) (fun f => rfl) ?_
    refine z_lat hlat ?_
    refine Rn.go 4 (j' := 302) (pc' := 12) (ls' := [some (.ref 2004), some (.int k)]) (st' := [.int k, .ref 2104]) (n' := 94) (M' := M) (fun f => rfl) ?_
    refine Rn.call (d1 := d + 2) (j1 := 306) (ls1 := [some (.ref 2104), some (.int k)]) (rest := []) (fun f => rfl) ?_
    refine z_c1_2004 hv ?_
    have hn : narrow .char (.int (zchr 2004 k.toNatClampNeg)) = .int (zchr 2004 k.toNatClampNeg) := by
      obtain ⟨j, hj, hk⟩ := vp_in_of (n := 4) hv (by decide)
      rw [hk, nI_clamp (by omega)]
      match j, hj with
      | 0, _ => decide +kernel
      | 1, _ => decide +kernel
      | 2, _ => decide +kernel
      | 3, _ => decide +kernel
    exact Rn.retT 1 (c := narrow .char (.int (zchr 2004 k.toNatClampNeg)) = .int (zchr 2004 k.toNatClampNeg)) (o := (some (.int (zchr 2004 k.toNatClampNeg)), 94, M)) (fun f => rfl) hn hq
  · refine Rn.go 1 (j' := 302) (pc' := 1) (ls' := [some (.ref 2005), some (.int k)]) (st' := [.ref 2005]) (n' := 94) (M' := M) (fun f => rfl) ?_
    refine Rn.call (d1 := d + 2) (j1 := 304) (ls1 := [some (.ref 2005)]) (rest := []) (fun f => rfl) ?_
    refine z_lat hlat ?_
    refine Rn.go 4 (j' := 302) (pc' := 12) (ls' := [some (.ref 2005), some (.int k)]) (st' := [.int k, .ref 2105]) (n' := 94) (M' := M) (fun f => rfl) ?_
    refine Rn.call (d1 := d + 2) (j1 := 306) (ls1 := [some (.ref 2105), some (.int k)]) (rest := []) (fun f => rfl) ?_
    refine z_c1_2005 hv ?_
    have hn : narrow .char (.int (zchr 2005 k.toNatClampNeg)) = .int (zchr 2005 k.toNatClampNeg) := by
      obtain ⟨j, hj, hk⟩ := vp_in_of (n := 4) hv (by decide)
      rw [hk, nI_clamp (by omega)]
      match j, hj with
      | 0, _ => decide +kernel
      | 1, _ => decide +kernel
      | 2, _ => decide +kernel
      | 3, _ => decide +kernel
    exact Rn.retT 1 (c := narrow .char (.int (zchr 2005 k.toNatClampNeg)) = .int (zchr 2005 k.toNatClampNeg)) (o := (some (.int (zchr 2005 k.toNatClampNeg)), 94, M)) (fun f => rfl) hn hq
  · refine Rn.go 1 (j' := 302) (pc' := 1) (ls' := [some (.ref 2006), some (.int k)]) (st' := [.ref 2006]) (n' := 94) (M' := M) (fun f => rfl) ?_
    refine Rn.call (d1 := d + 2) (j1 := 304) (ls1 := [some (.ref 2006)]) (rest := []) (fun f => rfl) ?_
    refine z_lat hlat ?_
    refine Rn.go 4 (j' := 302) (pc' := 12) (ls' := [some (.ref 2006), some (.int k)]) (st' := [.int k, .ref 2106]) (n' := 94) (M' := M) (fun f => rfl) ?_
    refine Rn.call (d1 := d + 2) (j1 := 306) (ls1 := [some (.ref 2106), some (.int k)]) (rest := []) (fun f => rfl) ?_
    refine z_c1_2006 hv ?_
    have hn : narrow .char (.int (zchr 2006 k.toNatClampNeg)) = .int (zchr 2006 k.toNatClampNeg) := by
      obtain ⟨j, hj, hk⟩ := vp_in_of (n := 2) hv (by decide)
      rw [hk, nI_clamp (by omega)]
      match j, hj with
      | 0, _ => decide +kernel
      | 1, _ => decide +kernel
    exact Rn.retT 1 (c := narrow .char (.int (zchr 2006 k.toNatClampNeg)) = .int (zchr 2006 k.toNatClampNeg)) (o := (some (.int (zchr 2006 k.toNatClampNeg)), 94, M)) (fun f => rfl) hn hq
  · refine Rn.go 1 (j' := 302) (pc' := 1) (ls' := [some (.ref 2007), some (.int k)]) (st' := [.ref 2007]) (n' := 94) (M' := M) (fun f => rfl) ?_
    refine Rn.call (d1 := d + 2) (j1 := 304) (ls1 := [some (.ref 2007)]) (rest := []) (fun f => rfl) ?_
    refine z_lat hlat ?_
    refine Rn.go 4 (j' := 302) (pc' := 12) (ls' := [some (.ref 2007), some (.int k)]) (st' := [.int k, .ref 2107]) (n' := 94) (M' := M) (fun f => rfl) ?_
    refine Rn.call (d1 := d + 2) (j1 := 306) (ls1 := [some (.ref 2107), some (.int k)]) (rest := []) (fun f => rfl) ?_
    refine z_c1_2007 hv ?_
    have hn : narrow .char (.int (zchr 2007 k.toNatClampNeg)) = .int (zchr 2007 k.toNatClampNeg) := by
      obtain ⟨j, hj, hk⟩ := vp_in_of (n := 2) hv (by decide)
      rw [hk, nI_clamp (by omega)]
      match j, hj with
      | 0, _ => decide +kernel
      | 1, _ => decide +kernel
    exact Rn.retT 1 (c := narrow .char (.int (zchr 2007 k.toNatClampNeg)) = .int (zchr 2007 k.toNatClampNeg)) (o := (some (.int (zchr 2007 k.toNatClampNeg)), 94, M)) (fun f => rfl) hn hq
  · refine Rn.go 1 (j' := 302) (pc' := 1) (ls' := [some (.ref 2008), some (.int k)]) (st' := [.ref 2008]) (n' := 94) (M' := M) (fun f => rfl) ?_
    refine Rn.call (d1 := d + 2) (j1 := 304) (ls1 := [some (.ref 2008)]) (rest := []) (fun f => rfl) ?_
    refine z_lat hlat ?_
    refine Rn.go 4 (j' := 302) (pc' := 12) (ls' := [some (.ref 2008), some (.int k)]) (st' := [.int k, .ref 2108]) (n' := 94) (M' := M) (fun f => rfl) ?_
    refine Rn.call (d1 := d + 2) (j1 := 306) (ls1 := [some (.ref 2108), some (.int k)]) (rest := []) (fun f => rfl) ?_
    refine z_c1_2008 hv ?_
    have hn : narrow .char (.int (zchr 2008 k.toNatClampNeg)) = .int (zchr 2008 k.toNatClampNeg) := by
      obtain ⟨j, hj, hk⟩ := vp_in_of (n := 5) hv (by decide)
      rw [hk, nI_clamp (by omega)]
      match j, hj with
      | 0, _ => decide +kernel
      | 1, _ => decide +kernel
      | 2, _ => decide +kernel
      | 3, _ => decide +kernel
      | 4, _ => decide +kernel
    exact Rn.retT 1 (c := narrow .char (.int (zchr 2008 k.toNatClampNeg)) = .int (zchr 2008 k.toNatClampNeg)) (o := (some (.int (zchr 2008 k.toNatClampNeg)), 94, M)) (fun f => rfl) hn hq
  · refine Rn.go 1 (j' := 302) (pc' := 1) (ls' := [some (.ref 2009), some (.int k)]) (st' := [.ref 2009]) (n' := 94) (M' := M) (fun f => rfl) ?_
    refine Rn.call (d1 := d + 2) (j1 := 304) (ls1 := [some (.ref 2009)]) (rest := []) (fun f => rfl) ?_
    refine z_lat hlat ?_
    refine Rn.go 4 (j' := 302) (pc' := 12) (ls' := [some (.ref 2009), some (.int k)]) (st' := [.int k, .ref 2109]) (n' := 94) (M' := M) (fun f => rfl) ?_
    refine Rn.call (d1 := d + 2) (j1 := 306) (ls1 := [some (.ref 2109), some (.int k)]) (rest := []) (fun f => rfl) ?_
    refine z_c1_2009 hv ?_
    have hn : narrow .char (.int (zchr 2009 k.toNatClampNeg)) = .int (zchr 2009 k.toNatClampNeg) := by
      obtain ⟨j, hj, hk⟩ := vp_in_of (n := 3) hv (by decide)
      rw [hk, nI_clamp (by omega)]
      match j, hj with
      | 0, _ => decide +kernel
      | 1, _ => decide +kernel
      | 2, _ => decide +kernel
    exact Rn.retT 1 (c := narrow .char (.int (zchr 2009 k.toNatClampNeg)) = .int (zchr 2009 k.toNatClampNeg)) (o := (some (.int (zchr 2009 k.toNatClampNeg)), 94, M)) (fun f => rfl) hn hq
theorem xsw_out {x : Int32} {lo hi : Int} (h : ∀ i : Int, lo ≤ i → i ≤ hi → ¬ x = Int32.ofInt i) : x.toInt < lo ∨ hi < x.toInt := by
  rcases Int.lt_or_le x.toInt lo with q | q
  · exact Or.inl q
  · rcases Int.lt_or_le hi x.toInt with w | w
    · exact Or.inr w
    · exact absurd (Int32.ofInt_toInt x).symm (h _ q w)
theorem zok_lt {w : Nat} (h : ¬ ¬ zok w) : Nat.blt w 2999 = true := by
  have h : zok w := Decidable.of_not_not h
  exact Nat.blt_eq.mpr (by omega)
theorem zok_cl {w : Nat} (h : ¬ ¬ zok w) : (Nat.blt w 2999 && (Nat.beq 0 2 || Nat.beq (xcl 94 w) 20)) = true := by
  rw [zok_lt h]
  rcases zok_of h with rfl | rfl | rfl | rfl | rfl | rfl | rfl | rfl | rfl | rfl <;> rfl
section RB
variable {L : Nat} {xs : Nat → Int32} {d j pc n : Nat} {ls : List (Option Value)} {st : List Value} {M : xM} {Q : xO → Prop}
theorem Rn.goB (k : Nat) {c : Bool} {p1 n1 : Nat} {l1 : List (Option Value)} {s1 : List Value} {M1 : xM} (h : ∀ f, xrun L xs (f + k) d j pc ls st n M = bif c then xrun L xs f d j p1 l1 s1 n1 M1 else none) (hc : c = true) (he : Rn L xs d j p1 l1 s1 n1 M1 Q) : Rn L xs d j pc ls st n M Q := by
  obtain ⟨f, o, e, q⟩ := he
  exact ⟨f + k, o, by rw [h f, hc]; exact e, q⟩
theorem Rn.retB (k : Nat) {c : Bool} {o : xO} (h : ∀ f, xrun L xs (f + k) d j pc ls st n M = match (bif c then some o.1 else none) with
    | some r => some (r, o.2.1, o.2.2)
    | none => none) (hc : c = true) (hq : Q o) : Rn L xs d j pc ls st n M Q := ⟨0 + k, o, by rw [h 0, hc]; rfl, hq⟩
theorem Rn.callB {c : Bool} {d1 j1 : Nat} {ls1 : List (Option Value)} {rest : List Value} (h : ∀ f, xrun L xs (f + 1) (d1 + 1) j pc ls st n M = bif c then (match xrun L xs f d1 j1 0 ls1 [] n M with
    | some o => xrun L xs f (d1 + 1) j (pc + 3) ls (o.1.toList ++ rest) o.2.1 o.2.2
    | none => none) else none) (hc : c = true) (hr : Rn L xs d1 j1 0 ls1 [] n M (fun o => Rn L xs (d1 + 1) j (pc + 3) ls (o.1.toList ++ rest) o.2.1 o.2.2 Q)) : Rn L xs (d1 + 1) j pc ls st n M Q := by
  refine Rn.call (fun f => ?_) hr
  rw [h f, hc]
  rfl
end RB
