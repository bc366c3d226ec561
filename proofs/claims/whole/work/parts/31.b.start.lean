/-! the start -/
theorem i0 {a : Nat} (ha : a < 94) (j : Nat) : wden 0 w2I a j = (wI0.getD a []).getD j 0 := wI0_eq ha j
theorem t2 : ∀ j, j < 24 → (wI0.getD 2 []).getD j 0 = -2 := by decide +kernel
theorem t3 : ∀ j, j < 24 → (wI0.getD 3 []).getD j 0 = -2 := by decide +kernel
theorem t4 : ∀ j, j < 6 → (wI0.getD 4 []).getD j 0 = nt j := by decide +kernel
theorem t52 : ∀ c, c < 27 → (wI0.getD 52 []).getD c 0 = nt (hh c) := by decide +kernel
theorem t53 : ∀ S, S < 256 → (wI0.getD 53 []).getD S 0 = nt (th 8 S) := by decide +kernel
theorem t87 : ∀ c, c < 27 → (wI0.getD 87 []).getD c 0 = nt (hh c) := by decide +kernel
theorem t68 : ∀ q, q < 5 → (wJ0.getD 68 []).getD q 0 = jl (keyv q) := by decide +kernel
theorem sNk_cases {c j : Nat} (h : sNk c j = true) : (c = 32 ∧ (j = 4 ∨ j = 7)) ∨ (c = 36 ∧ (j = 8 ∨ j = 13)) ∨ (c = 43 ∧ (j = 9 ∨ j = 13)) ∨ c = 60 := by
  unfold sNk at h
  rw [Bool.or_eq_true, Bool.or_eq_true, Bool.or_eq_true, Bool.and_eq_true, Bool.and_eq_true, Bool.and_eq_true, Bool.or_eq_true, Bool.or_eq_true, Bool.or_eq_true] at h
  simp only [decide_eq_true_eq] at h
  omega
theorem c0_seen {c j : Nat} (h : sNk c j = true) : sOld 1 (wden 0 w2I c j) ∧ (¬ c = 60 ∨ j < 2 → wden 0 w2I c j = -1) := by
  rcases sNk_cases h with ⟨rfl, rfl | rfl⟩ | ⟨rfl, rfl | rfl⟩ | ⟨rfl, rfl | rfl⟩ | rfl
  · rw [i0 (by omega)]; exact ⟨Or.inl (by decide +kernel), fun _ => by decide +kernel⟩
  · rw [i0 (by omega)]; exact ⟨Or.inl (by decide +kernel), fun _ => by decide +kernel⟩
  · rw [i0 (by omega)]; exact ⟨Or.inl (by decide +kernel), fun _ => by decide +kernel⟩
  · rw [i0 (by omega)]; exact ⟨Or.inl (by decide +kernel), fun _ => by decide +kernel⟩
  · rw [i0 (by omega)]; exact ⟨Or.inl (by decide +kernel), fun _ => by decide +kernel⟩
  · rw [i0 (by omega)]; exact ⟨Or.inl (by decide +kernel), fun _ => by decide +kernel⟩
  · rw [i0 (by omega)]
    have e : wI0.getD 60 [] = [-1, -1] := by decide +kernel
    rw [e]
    by_cases c2 : j < 2
    · have : ∀ j, j < 2 → ([-1, -1] : List Int32).getD j 0 = -1 := by decide
      exact ⟨Or.inl (this j c2), fun _ => this j c2⟩
    · refine ⟨Or.inr ⟨0, by omega, ?_⟩, fun h => by omega⟩
      rw [List.getD_eq_getElem?_getD, List.getElem?_eq_none (by show 2 ≤ j; omega)]; rfl
theorem LI_0 : LI 10 (wden 0 w2I) (wden 0 w2J) := by
  have e12 : wden 0 w2I 1 2 = nt 1 := by rw [i0 (by omega)]; decide +kernel
  have ne : ∀ c j, sNk c j = true → (¬ c = 60 ∨ j < 2) → ¬ wden 0 w2I c j = wden 0 w2I 1 2 := by
    intro c j h h2
    rw [(c0_seen h).2 h2, e12]; decide
  have z54 : ∀ j, wden 0 w2I 54 j = 0 := fun j => by
    rw [i0 (by omega), show wI0.getD 54 [] = [] from by decide +kernel]; rfl
  have z88 : ∀ j, wden 0 w2I 88 j = 0 := fun j => by
    rw [i0 (by omega), show wI0.getD 88 [] = [] from by decide +kernel]; rfl
  have z11 : ∀ j, wden 0 w2I 11 j = 0 := fun j => by
    rw [i0 (by omega), show wI0.getD 11 [] = [] from by decide +kernel]; rfl
  have z74 : ∀ j, wden 0 w2I 74 j = 0 := fun j => by
    rw [i0 (by omega), show wI0.getD 74 [] = [] from by decide +kernel]; rfl
  have T0 : Tb 0 (fun _ => 0) := ⟨by omega, fun _ => (show 0 < 256 from by omega), fun _ _ => rfl⟩
  have V0 : Vd 0 2 A0 := by
    refine ⟨fun s x t h => (by cases h), fun s x t h => (by cases h), fun s => ?_⟩
    show (if s < 6 then s else 0) < 8
    split <;> omega
  refine ⟨1, 0, 2, 0, fun _ => A0, fun _ => none, 0, fun _ => 0, -1, by omega, ⟨by omega, by omega, fun _ _ => V0, fun q w h => (by cases h), T0⟩, ?_, ?_⟩
  · refine ⟨⟨⟨?_, ?_, ?_, ?_, ?_⟩, ⟨?_, by omega, 0, by omega, ?_, fun i hi => absurd hi (by omega)⟩, fun q hq => ⟨z11 q, fun w h => (by cases h)⟩⟩, ⟨?_, fun j hj => absurd hj (by omega), ?_⟩, ⟨by omega, e12, fun c j h => (c0_seen h).1⟩, ⟨fun e => absurd e (ne 32 4 rfl (by omega)), fun e => absurd e (ne 36 8 rfl (by omega)), fun e => absurd e (ne 36 13 rfl (by omega)), ⟨0, by omega, ⟨?_, ?_, fun i q h => (by cases h)⟩, fun e => absurd e (ne 43 9 rfl (by omega))⟩, fun e => absurd e (ne 43 13 rfl (by omega)), fun y hy e => absurd e (ne 60 y (by unfold sNk; simp) (by omega)), fun e => absurd e (ne 32 7 rfl (by omega))⟩, ⟨fun c hc => ?_, fun S hS => ?_⟩, fun R O _ _ _ _ => Or.inl (z54 _)⟩
    · rw [i0 (by omega)]; decide +kernel
    · rw [i0 (by omega)]; decide +kernel
    · intro s x hs hx
      rw [i0 (by omega)]; exact t2 _ (by omega)
    · intro s x hs hx
      rw [i0 (by omega)]; exact t3 _ (by omega)
    · intro s hs
      rw [i0 (by omega), t4 s hs]
      show nt s = nt (if s < 6 then s else 0)
      rw [if_pos hs]
    · rw [i0 (by omega)]; decide +kernel
    · rw [i0 (by omega)]; decide +kernel
    · rw [i0 (by omega)]; decide +kernel
    · rw [i0 (by omega)]; decide +kernel
    · rw [i0 (by omega)]; decide +kernel
    · rw [i0 (by omega)]; decide +kernel
    · rw [i0 (by omega)]; exact t52 c hc
    · rw [i0 (by omega)]; exact t53 S hS
  · refine ⟨⟨?_, ?_, ⟨fun s x hs => absurd hs (by omega), fun s x hs => absurd hs (by omega), fun s hs => absurd hs (by omega)⟩, ⟨?_, by omega, 0, by omega, ?_, fun i hi => absurd hi (by omega)⟩, fun q hq => ⟨z74 q, fun w h => (by cases h)⟩⟩, ⟨?_, fun j hj => absurd hj (by omega), ?_⟩, ⟨fun h => absurd ?_ h, fun y hy h => absurd ?_ h⟩, fun c hc => ?_, fun R O _ _ _ => Or.inl (z88 _), fun q hq => ?_⟩
    · rw [i0 (by omega)]; decide +kernel
    · rw [i0 (by omega)]; decide +kernel
    · rw [i0 (by omega)]; decide +kernel
    · rw [i0 (by omega)]; decide +kernel
    · rw [i0 (by omega)]; decide +kernel
    · rw [i0 (by omega)]; decide +kernel
    · rw [i0 (by omega)]; decide +kernel
    · rw [i0 (by omega)]
      have : ∀ y, y < 2 → (wI0.getD 75 []).getD y 0 = 0 := by decide +kernel
      exact this y hy
    · rw [i0 (by omega)]; exact t87 c hc
    · rw [wJ0_eq (by omega)]; exact t68 q hq
theorem xpure : xPure := xpure_of (fun L xs hL => law_ok hL LI_0)
