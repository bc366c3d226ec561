/-! the law's first steps: both objects are made -/
theorem law_a {L : Nat} {xs : Nat → Int32} {Q : xO → Prop} (h : Rn L xs 99 137 0 [some (.ref 0)] [] 1 (wD ([(0, none, 0)], [(0, none, 0)], [(0, none, none)])) (fun o => Rn L xs (99 + 1) 309 (4 + 3) [some (.ref 1009), none, none, none] (o.1.toList ++ [.ref 0]) o.2.1 o.2.2 Q)) : Rn L xs 100 309 0 [some (.ref 1009), none, none, none] [] 0 xM0 Q := by
  refine Rn.go 2 (d' := 100) (j' := 309) (pc' := 4) (ls' := [some (.ref 1009), none, none, none]) (st' := [.ref 0, .ref 0]) (n' := 1) (M' := wD ([(0, none, 0)], [(0, none, 0)], [(0, none, none)])) (fun f => rfl) ?_
  exact Rn.call (d1 := 99) (j1 := 137) (ls1 := [some (.ref 0)]) (rest := [.ref 0]) (fun f => rfl) h
theorem law_b {L : Nat} {xs : Nat → Int32} {Q : xO → Prop} {M : xM} (h : Rn L xs 99 182 0 [some (.ref 61)] [] 62 (xz M.1 61 0, xz M.2.1 61 0, xz M.2.2 61 none) (fun o => Rn L xs (99 + 1) 309 (12 + 3) [some (.ref 1009), some (.ref 0), none, none] (o.1.toList ++ [.ref 61]) o.2.1 o.2.2 Q)) : Rn L xs 100 309 7 [some (.ref 1009), none, none, none] [.ref 0] 61 M Q := by
  refine Rn.go 3 (d' := 100) (j' := 309) (pc' := 12) (ls' := [some (.ref 1009), some (.ref 0), none, none]) (st' := [.ref 61, .ref 61]) (n' := 62) (M' := (xz M.1 61 0, xz M.2.1 61 0, xz M.2.2 61 none)) (fun f => rfl) ?_
  exact Rn.call (d1 := 99) (j1 := 182) (ls1 := [some (.ref 61)]) (rest := [.ref 61]) (fun f => rfl) h
theorem law_c {L : Nat} {xs : Nat → Int32} {Q : xO → Prop} {M : xM} (h : Rn L xs 100 309 18 [some (.ref 1009), some (.ref 0), some (.ref 61), some (.int 0)] [] 94 M Q) : Rn L xs 100 309 15 [some (.ref 1009), some (.ref 0), none, none] [.ref 61] 94 M Q :=
  Rn.go 3 (d' := 100) (j' := 309) (pc' := 18) (ls' := [some (.ref 1009), some (.ref 0), some (.ref 61), some (.int 0)]) (st' := []) (n' := 94) (M' := M) (fun f => rfl) h
theorem xpure_of (h : ∀ (L : Nat) (xs : Nat → Int32), L ≤ 3072 → ∃ t, f_L_law L xs 0 (wden 0 w2I) (wden 0 w2J) = some t ∧ t.1 = 1) : xPure := by
  intro L xs hL
  obtain ⟨t, ht, h1⟩ := h L xs hL
  have key : Rn L xs 100 309 0 [some (.ref 1009), none, none, none] [] 0 xM0 (fun o => ∃ M, o = (some (.int 1), 94, M)) := by
    refine law_a ⟨60000, _, wc1, ?_⟩
    refine law_b (M := wD (w1I, w1J, w1R)) ?_
    rw [← wD_n (w1I, w1J, w1R) 61]
    refine ⟨60000, _, wc2, ?_⟩
    refine law_c (M := wD (w2I, w2J, w2R)) ?_
    have e : wD (w2I, w2J, w2R) = (wden 0 w2I, wden 0 w2J, xrf) := by
      rw [← wR_xrf]; rfl
    rw [e]
    exact p_L_law (d := 68) 0 _ _ ht ⟨_, by rw [h1]⟩
  obtain ⟨f, o, e, M, rfl⟩ := key
  exact ⟨f, M, e⟩
