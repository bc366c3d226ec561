/-! one instruction that neither calls nor returns -/
def xsl (n : Nat) : Nat := ((xlay.take n).map (fun r => r.2)).sum
theorem xsl_succ {n : Nat} (h : n < 94) : xsl (n + 1) = xsl n + (xk n).2 := by
  unfold xsl
  rw [List.take_succ, List.map_append, List.sum_append]
  congr 1
  unfold xk
  rw [List.getD_eq_getElem?_getD]
  cases hx : xlay[n]? with
  | none => exact absurd (List.getElem?_eq_none_iff.mp hx) (by show ¬ 94 ≤ n; omega)
  | some r => simp
theorem xsl_mono {a b : Nat} (h : a ≤ b) : xsl a ≤ xsl b := by
  unfold xsl
  obtain ⟨c, rfl⟩ : ∃ c, b = a + c := ⟨b - a, by omega⟩
  rw [List.take_add, List.map_append, List.sum_append]
  exact Nat.le_add_right _ _
/-- what is known in a method's body -/
def xCx (G : xG) (L : Nat) (xs : Nat → Int32) (p : Program) (R : Room) (s : State) (m : MethodId) (args : Array Value) (meth : Method) (c : Code) (j d : Nat) : Prop :=
  p.tables.exec = Jvm.exec ∧ c.code = (xin j).2.1 ∧ c.maxLocals = (xme j).2.2.1 ∧ s.vm.findClass (xin j).2.2.2.1 = some m.cls ∧ (∀ w ∈ xW, w.before args s = true) ∧ xE G L xs s s.heap ∧ d ≤ R.frames ∧ 100 * d ≤ R.locals ∧ ((xme j).2.2.2.2.2 = true → meth.name = "<init>")
theorem xal_some {α : Type} {o : α} {L : Nat} {xs : Nat → Int32} {n : Nat} {w : Nat → Bool} {i : Int32} {a : Nat} {k : Option α} (h : xal L xs n w i a k = some o) : w (xar L xs n a).1 = true ∧ vp_in i (xar L xs n a).2 ∧ k = some o := by
  unfold xal at h
  obtain ⟨h1, h⟩ := xbif h
  obtain ⟨h2, h⟩ := xif h
  exact ⟨h1, h2, h⟩
theorem xaw_some {α : Type} {o : α} {n : Nat} {w : Nat → Bool} {i : Int32} {a : Nat} {k : Option α} (h : xaw n w i a k = some o) : a < n ∧ a < 1000 ∧ w (xk a).1 = true ∧ vp_in i (xk a).2 ∧ k = some o := by
  unfold xaw at h
  obtain ⟨h1, h⟩ := xbif h
  obtain ⟨h2, h⟩ := xif h
  simp only [Bool.and_eq_true, Nat.blt_eq] at h1
  exact ⟨h1.1.1, h1.1.2, h1.2, h2, h⟩
theorem xsc_str {L : Nat} {xs : Nat → Int32} {i : Nat} (h : i < 10) : xsc L xs (2100 + i) = (xslen.getD i 0, fun j => (xsbyt.getD i []).getD j 0) := by
  match i, h with
  | 0, _ => rfl
  | 1, _ => rfl
  | 2, _ => rfl
  | 3, _ => rfl
  | 4, _ => rfl
  | 5, _ => rfl
  | 6, _ => rfl
  | 7, _ => rfl
  | 8, _ => rfl
  | 9, _ => rfl
theorem xar_own {L : Nat} {xs : Nat → Int32} {n a : Nat} (h : a < 1000) (hk : (xar L xs n a).1 < 18) : a < n ∧ xar L xs n a = xk a := by
  unfold xar at hk ⊢
  rw [Nat.blt_eq.mpr h] at hk ⊢
  cases hb : Nat.blt a n with
  | true => exact ⟨Nat.blt_eq.mp hb, rfl⟩
  | false => rw [hb] at hk; exact absurd hk (by simp)
theorem xar_mem {a : Nat} (h : ((Nat.ble 1000 a && Nat.blt a 1005) || Nat.beq a 1009) = true) : a ∈ [1000, 1001, 1002, 1003, 1004, 1009] := by
  simp only [Bool.or_eq_true, Bool.and_eq_true, Nat.blt_eq, Nat.ble_eq] at h
  simp only [List.mem_cons, List.not_mem_nil, or_false]
  rcases h with h | h
  · omega
  · have := Nat.eq_of_beq_eq_true h
    omega
theorem xar_int {L : Nat} {xs : Nat → Int32} {n a : Nat} (h : ¬ a < 1000) (hk : (xar L xs n a).1 = 14) : a ∈ [1000, 1001, 1002, 1003, 1004, 1009] ∧ (xar L xs n a).2 = (xsc L xs a).1 := by
  unfold xar at hk ⊢
  rw [show Nat.blt a 1000 = false from Bool.eq_false_iff.mpr (fun q => h (Nat.blt_eq.mp q))] at hk ⊢
  cases hb : Nat.ble 2100 a with
  | true => rw [hb] at hk; cases hc : Nat.blt a 2110 <;> rw [hc] at hk <;> exact absurd hk (by simp)
  | false =>
    rw [hb] at hk
    cases hc : ((Nat.ble 1000 a && Nat.blt a 1005) || Nat.beq a 1009) with
    | false => rw [hc] at hk; exact absurd hk (by simp)
    | true => exact ⟨xar_mem hc, rfl⟩
theorem xar_byte {L : Nat} {xs : Nat → Int32} {n a : Nat} (h : ¬ a < 1000) (hk : (xar L xs n a).1 = 13 ∨ (xar L xs n a).1 = 16) : ∃ i, i < 10 ∧ a = 2100 + i ∧ (xar L xs n a).2 = (xsc L xs a).1 := by
  unfold xar at hk ⊢
  rw [show Nat.blt a 1000 = false from Bool.eq_false_iff.mpr (fun q => h (Nat.blt_eq.mp q))] at hk ⊢
  cases hb : Nat.ble 2100 a with
  | true =>
    rw [hb] at hk
    cases hc : Nat.blt a 2110 with
    | false => rw [hc] at hk; exact absurd hk (by simp)
    | true =>
      simp only [Nat.blt_eq] at hc
      have hb' := Nat.le_of_ble_eq_true hb
      exact ⟨a - 2100, by omega, by omega, rfl⟩
  | false =>
    rw [hb] at hk
    cases hc : ((Nat.ble 1000 a && Nat.blt a 1005) || Nat.beq a 1009) <;> rw [hc] at hk <;> exact absurd hk (by simp)
theorem xar_out {L : Nat} {xs : Nat → Int32} {n a : Nat} (h : ¬ a < 1000) (hk : (xar L xs n a).1 < 18) : (a ∈ [1000, 1001, 1002, 1003, 1004, 1009] ∧ (xar L xs n a).2 = (xsc L xs a).1) ∨ ∃ i, i < 10 ∧ a = 2100 + i ∧ (xar L xs n a).2 = (xsc L xs a).1 := by
  by_cases h13 : (xar L xs n a).1 = 13 ∨ (xar L xs n a).1 = 16
  · exact Or.inr (xar_byte h h13)
  · left
    refine xar_int h ?_
    unfold xar at hk h13 ⊢
    rw [show Nat.blt a 1000 = false from Bool.eq_false_iff.mpr (fun q => h (Nat.blt_eq.mp q))] at hk h13 ⊢
    cases hb : Nat.ble 2100 a with
    | true =>
      rw [hb] at hk h13
      cases hc : Nat.blt a 2110 with
      | true => rw [hc] at h13; exact absurd (Or.inl rfl) h13
      | false => rw [hc] at hk; exact absurd hk (by simp)
    | false =>
      rw [hb] at hk
      cases hc : ((Nat.ble 1000 a && Nat.blt a 1005) || Nat.beq a 1009) with
      | false => rw [hc] at hk; exact absurd hk (by simp)
      | true => rfl
theorem xfs_put {G : xG} {ci a k : Nat} {M M' : xM} {v : Value} (h : ∀ i, i < (xk a).2 → xfa (xtc ci i) M' a i = if i = k then v else xfa (xtc ci i) M a i) : xfs G ci a M' = (xfs G ci a M).set k (xcv G v) := by
  unfold xfs
  refine List.ext_getElem? fun j => ?_
  by_cases hj : j < (xk a).2
  · rw [List.getElem?_map, List.getElem?_range hj]
    show some (xcv G (xfa (xtc ci j) M' a j)) = _
    rw [h j hj]
    by_cases hjk : j = k
    · subst hjk
      rw [if_pos rfl, List.getElem?_set_self (by rw [List.length_map, List.length_range]; exact hj)]
    · rw [if_neg hjk, List.getElem?_set_ne (fun q => hjk q.symm), List.getElem?_map, List.getElem?_range hj]
      rfl
  · rw [List.getElem?_eq_none (by rw [List.length_map, List.length_range]; omega), List.getElem?_eq_none (by rw [List.length_set, List.length_map, List.length_range]; omega)]
theorem xlink {own : String} {cn idx : Nat} {w : Cond} {args : Array Value} {s : State} (hts : ∀ w ∈ xW, w.before args s = true) (h : xhas (xlk cn idx) w = true) : w.before args s = true := hts _ (xhas_in h)
theorem xlay_small : xlay.all (fun r => Nat.ble r.2 7000) = true := by decide +kernel
theorem xk_small (a : Nat) : (xk a).2 ≤ 7000 := by
  unfold xk
  rw [List.getD_eq_getElem?_getD]
  cases h : xlay[a]? with
  | none => exact Nat.zero_le _
  | some r => exact Nat.le_of_ble_eq_true (List.all_eq_true.mp xlay_small r (List.mem_of_getElem? h))
