/-! the combinators taken apart; locals -/
section XC
variable {α : Type} {o : α}
theorem xbif {c : Bool} {k : Option α} (h : (bif c then k else none) = some o) : c = true ∧ k = some o := by
  cases c with
  | true => exact ⟨rfl, h⟩
  | false => exact absurd h (by simp)
theorem xif {c : Prop} [Decidable c] {k : Option α} (h : (if c then none else k) = some o) : ¬ c ∧ k = some o := by
  by_cases hc : c
  · rw [if_pos hc] at h; exact absurd h (by simp)
  · rw [if_neg hc] at h; exact ⟨hc, h⟩
theorem xifT {c : Prop} [Decidable c] {k : Option α} (h : (if c then k else none) = some o) : c ∧ k = some o := by
  by_cases hc : c
  · rw [if_pos hc] at h; exact ⟨hc, h⟩
  · rw [if_neg hc] at h; exact absurd h (by simp)
theorem x1_some {st : List Value} {k : Int32 → List Value → Option α} (h : x1 st k = some o) : ∃ x r, st = .int x :: r ∧ k x r = some o := by
  unfold x1 at h
  split at h
  · exact ⟨_, _, rfl, h⟩
  · exact absurd h (by simp)
theorem x2_some {st : List Value} {k : Int32 → Int32 → List Value → Option α} (h : x2 st k = some o) : ∃ x y r, st = .int y :: .int x :: r ∧ k x y r = some o := by
  unfold x2 at h
  split at h
  · exact ⟨_, _, _, rfl, h⟩
  · exact absurd h (by simp)
theorem x2l_some {st : List Value} {k : Int64 → Int64 → List Value → Option α} (h : x2l st k = some o) : ∃ x y r, st = .long y :: .long x :: r ∧ k x y r = some o := by
  unfold x2l at h
  split at h
  · exact ⟨_, _, _, rfl, h⟩
  · exact absurd h (by simp)
theorem xr_some {st : List Value} {k : Nat → List Value → Option α} (h : xr st k = some o) : ∃ (a : Nat) (r : List Value), st = .ref a :: r ∧ a < 2999 ∧ k a r = some o := by
  unfold xr at h
  split at h
  · obtain ⟨h1, h2⟩ := xbif h
    exact ⟨_, _, rfl, Nat.blt_eq.mp h1, h2⟩
  · exact absurd h (by simp)
theorem xia_some {st : List Value} {k : Int32 → Nat → List Value → Option α} (h : xia st k = some o) : ∃ (i : Int32) (a : Nat) (r : List Value), st = .int i :: .ref a :: r ∧ k i a r = some o := by
  unfold xia at h
  split at h
  · exact ⟨_, _, _, rfl, h⟩
  · exact absurd h (by simp)
theorem xva_some {st : List Value} {k : Value → Int32 → Nat → List Value → Option α} (h : xva st k = some o) : ∃ (v : Value) (i : Int32) (a : Nat) (r : List Value), st = v :: .int i :: .ref a :: r ∧ k v i a r = some o := by
  unfold xva at h
  split at h
  · exact ⟨_, _, _, _, rfl, h⟩
  · exact absurd h (by simp)
theorem xvr_some {st : List Value} {k : Value → Nat → List Value → Option α} (h : xvr st k = some o) : ∃ (v : Value) (a : Nat) (r : List Value), st = v :: .ref a :: r ∧ k v a r = some o := by
  unfold xvr at h
  split at h
  · exact ⟨_, _, _, rfl, h⟩
  · exact absurd h (by simp)
theorem xcopy_some {st : List Value} {k : Nat → Int32 → Nat → Int32 → Int32 → List Value → Option α} (h : xcopy st k = some o) : ∃ (a : Nat) (sp : Int32) (b : Nat) (dp n : Int32) (r : List Value), st = .int n :: .int dp :: .ref b :: .int sp :: .ref a :: r ∧ k a sp b dp n r = some o := by
  unfold xcopy at h
  split at h
  · exact ⟨_, _, _, _, _, _, rfl, h⟩
  · exact absurd h (by simp)
theorem xld_some {ls : List (Option Value)} {i : Nat} {k : Value → Option α} (h : xld ls i k = some o) : ∃ v, xget ls i = some v ∧ k v = some o := by
  unfold xld at h
  split at h
  · exact ⟨_, by assumption, h⟩
  · exact absurd h (by simp)
theorem xii_some {v : Value} {k : Int32 → Option α} (h : xii v k = some o) : ∃ x, v = .int x ∧ k x = some o := by
  unfold xii at h
  split at h
  · exact ⟨_, rfl, h⟩
  · exact absurd h (by simp)
theorem xll_some {v : Value} {k : Int64 → Option α} (h : xll v k = some o) : ∃ x, v = .long x ∧ k x = some o := by
  unfold xll at h
  split at h
  · exact ⟨_, rfl, h⟩
  · exact absurd h (by simp)
theorem xrr_some {v : Value} {k : Nat → Option α} (h : xrr v k = some o) : ∃ (x : Nat), v = .ref x ∧ x < 2999 ∧ k x = some o := by
  unfold xrr at h
  split at h
  · obtain ⟨h1, h2⟩ := xbif h
    exact ⟨_, rfl, Nat.blt_eq.mp h1, h2⟩
  · exact absurd h (by simp)
theorem xtop_some {st : List Value} {k : Value → List Value → Option α} (h : xtop st k = some o) : ∃ v r, st = v :: r ∧ k v r = some o := by
  unfold xtop at h
  split at h
  · exact ⟨_, _, rfl, h⟩
  · exact absurd h (by simp)
end XC
theorem xfind_in {l : List (Nat × xQ)} {pc : Nat} {q : xQ} (h : xfind l pc = some q) : (pc, q) ∈ l := by
  induction l with
  | nil => exact absurd h (by simp [xfind])
  | cons r l ih =>
    obtain ⟨p, q'⟩ := r
    unfold xfind at h
    by_cases hp : p = pc
    · rw [if_pos hp] at h
      cases h
      subst hp
      exact List.mem_cons_self
    · rw [if_neg hp] at h
      exact List.mem_cons_of_mem _ (ih h)
/-- locals -/
def xLs (G : xG) (ls : List (Option Value)) (arr : Array Slot) (nL : Nat) : Prop := ls.length = nL ∧ arr.size = nL ∧ lv_wf arr ∧ ∀ i v, xget ls i = some v → arr[i]? = some (.val (xcv G v))
def xas (G : xG) (ls : List (Option Value)) : List (Nat × Value) := (List.range ls.length).filterMap (fun i => (xget ls i).map (fun v => (i, xcv G v)))
theorem xget_lt {ls : List (Option Value)} {i : Nat} {v : Value} (h : xget ls i = some v) : i < ls.length := by
  unfold xget at h
  rcases Nat.lt_or_ge i ls.length with q | q
  · exact q
  · rw [List.getElem?_eq_none q] at h
    exact absurd h (by simp)
theorem xget_iff {ls : List (Option Value)} {i : Nat} {v : Value} : xget ls i = some v ↔ ls[i]? = some (some v) := by
  unfold xget
  constructor
  · intro h
    split at h
    · rename_i w hw
      cases h
      exact hw
    · exact absurd h (by simp)
  · intro h
    rw [h]
theorem xas_mem {G : xG} {ls : List (Option Value)} {i : Nat} {v : Value} (h : xget ls i = some v) : (i, xcv G v) ∈ xas G ls := by
  unfold xas
  exact List.mem_filterMap.mpr ⟨i, List.mem_range.mpr (xget_lt h), by rw [h]; rfl⟩
theorem xLs.has {G : xG} {ls : List (Option Value)} {arr : Array Slot} {nL : Nat} (h : xLs G ls arr nL) : lv_has arr nL (xas G ls) := by
  obtain ⟨h0, h1, h2, h3⟩ := h
  refine ⟨h1, h2, fun q hq => ?_⟩
  obtain ⟨i, -, hi⟩ := List.mem_filterMap.mp hq
  cases hg : xget ls i with
  | none => rw [hg] at hi; exact absurd hi (by simp)
  | some v =>
    rw [hg] at hi
    cases hi
    exact h3 i v hg
theorem xset_len {ls : List (Option Value)} {i : Nat} {v : Value} : (xset ls i v).length = ls.length := by
  unfold xset
  rw [List.length_set]
  split
  · rfl
  · split
    · rename_i w _
      cases Nat.beq w.category 2
      · rfl
      · exact List.length_set
    · rfl
theorem xset_get {ls : List (Option Value)} {i j : Nat} {v w : Value} (hj : j ≠ i) (h : xget (xset ls i v) j = some w) : xget ls j = some w ∧ ¬ (j + 1 = i ∧ w.category = 2) := by
  rw [xget_iff] at h ⊢
  unfold xset at h
  rw [List.getElem?_set_ne (fun q => hj q.symm)] at h
  split at h
  · exact ⟨h, fun q => by omega⟩
  · rename_i k
    split at h
    · rename_i x hx
      by_cases hk : j = k
      · subst hk
        have hlt : j < ls.length := (List.getElem?_eq_some_iff.mp hx).1
        cases hc : Nat.beq x.category 2 with
        | true =>
          rw [hc] at h
          have h' : (ls.set j none)[j]? = some (some w) := h
          rw [List.getElem?_set_self hlt] at h'
          exact absurd h' (by simp)
        | false =>
          rw [hc] at h
          have h' : ls[j]? = some (some w) := h
          refine ⟨h', fun q => ?_⟩
          rw [hx] at h'
          cases h'
          rw [q.2] at hc
          exact absurd hc (by decide)
      · refine ⟨?_, fun q => hk (by omega)⟩
        cases hc : Nat.beq x.category 2 with
        | true =>
          rw [hc] at h
          have h' : (ls.set k none)[j]? = some (some w) := h
          rwa [List.getElem?_set_ne (fun q => hk q.symm)] at h'
        | false =>
          rw [hc] at h
          exact h
    · rename_i hx
      refine ⟨h, fun q => ?_⟩
      have hk : j = k := by omega
      subst hk
      exact hx _ h
theorem xget_self {ls : List (Option Value)} {i : Nat} {v w : Value} (hi : i < ls.length) (h : xget (xset ls i v) i = some w) : w = v := by
  rw [xget_iff] at h
  have hl : i < (xset ls i v).length := by rw [xset_len]; exact hi
  unfold xset at h hl
  rw [List.getElem?_set_self (by rwa [List.length_set] at hl)] at h
  cases h
  rfl
theorem xLs.of1 {G : xG} {ls : List (Option Value)} {arr' : Array Slot} {nL i : Nat} {v : Value} (hob : G.2.2.2.2 = .null ∨ ∃ t, G.2.2.2.2 = .ref t) (hlen : ls.length = nL) (hi : i < nL) (h : lv_has arr' nL ((i, xcv G v) :: (xas G ls).filter (fun q => !(q.1 == i) && !(q.1 + 1 == i && q.2.category == 2)))) : xLs G (xset ls i v) arr' nL := by
  refine ⟨by rw [xset_len]; exact hlen, h.1, h.2.1, fun j w hw => ?_⟩
  by_cases hj : j = i
  · subst hj
    rw [xget_self (by omega) hw]
    exact h.2.2 _ List.mem_cons_self
  · obtain ⟨h1, h2⟩ := xset_get hj hw
    refine h.2.2 (j, xcv G w) (List.mem_cons_of_mem _ (List.mem_filter.mpr ⟨xas_mem h1, ?_⟩))
    simp only [Bool.and_eq_true, Bool.not_eq_true', beq_eq_false_iff_ne, Bool.and_eq_false_iff, ne_eq, xcv_cat hob]
    refine ⟨hj, ?_⟩
    by_cases hq : j + 1 = i
    · exact Or.inr (fun e => h2 ⟨hq, e⟩)
    · exact Or.inl hq
theorem xLs.of2 {G : xG} {ls : List (Option Value)} {arr' : Array Slot} {nL i : Nat} {v : Value} (hob : G.2.2.2.2 = .null ∨ ∃ t, G.2.2.2.2 = .ref t) (hlen : ls.length = nL) (hi : i + 1 < nL) (h : lv_has arr' nL ((i, xcv G v) :: (xas G ls).filter (fun q => !(q.1 == i) && (!(q.1 == i + 1) && !(q.1 + 1 == i && q.2.category == 2))))) : xLs G ((xset ls i v).set (i + 1) none) arr' nL := by
  refine ⟨by rw [List.length_set, xset_len]; exact hlen, h.1, h.2.1, fun j w hw => ?_⟩
  have hne : j ≠ i + 1 := by
    intro e
    subst e
    rw [xget_iff, List.getElem?_set_self (by rw [xset_len]; omega)] at hw
    exact absurd hw (by simp)
  have hw' : xget (xset ls i v) j = some w := by
    rw [xget_iff] at hw ⊢
    rwa [List.getElem?_set_ne (fun q => hne q.symm)] at hw
  by_cases hj : j = i
  · subst hj
    rw [xget_self (by omega) hw']
    exact h.2.2 _ List.mem_cons_self
  · obtain ⟨h1, h2⟩ := xset_get hj hw'
    refine h.2.2 (j, xcv G w) (List.mem_cons_of_mem _ (List.mem_filter.mpr ⟨xas_mem h1, ?_⟩))
    simp only [Bool.and_eq_true, Bool.not_eq_true', beq_eq_false_iff_ne, Bool.and_eq_false_iff, ne_eq, xcv_cat hob]
    refine ⟨hj, hne, ?_⟩
    by_cases hq : j + 1 = i
    · exact Or.inr (fun e => h2 ⟨hq, e⟩)
    · exact Or.inl hq
/-- the locals at a method's entry -/
theorem xent_2 {w : Value} {r : List Value} (h : w.category = 2) : xent (w :: r) = some w :: none :: xent r := by
  show (bif Nat.beq w.category 2 then _ else _) = _
  rw [h]; rfl
theorem xent_1 {w : Value} {r : List Value} (h : ¬ w.category = 2) : xent (w :: r) = some w :: xent r := by
  show (bif Nat.beq w.category 2 then _ else _) = _
  rw [show Nat.beq w.category 2 = false from Bool.eq_false_iff.mpr (fun q => h (Nat.eq_of_beq_eq_true q))]; rfl
theorem xent_args {G : xG} (hob : G.2.2.2.2 = .null ∨ ∃ t, G.2.2.2.2 = .ref t) : ∀ (vs : List Value) (k i : Nat) (v : Value), xget (xent vs) i = some v → (k + i, xcv G v) ∈ lv_args k (vs.map (xcv G)) := by
  intro vs
  induction vs with
  | nil => intro k i v h; exact absurd (xget_lt h) (by simp [xent])
  | cons w r ih =>
    intro k i v h
    show (k + i, xcv G v) ∈ (k, xcv G w) :: lv_args (if (xcv G w).category = 2 then k + 2 else k + 1) (r.map (xcv G))
    rw [xcv_cat hob]
    by_cases hc : w.category = 2
    · rw [xent_2 hc, xget_iff] at h
      rw [if_pos hc]
      match i, h with
      | 0, h => cases h; exact List.mem_cons_self
      | 1, h => exact absurd h (by simp)
      | i + 2, h =>
        have h' : xget (xent r) i = some v := xget_iff.mpr h
        have := ih (k + 2) i v h'
        rw [show k + (i + 2) = k + 2 + i by omega]
        exact List.mem_cons_of_mem _ this
    · rw [xent_1 hc, xget_iff] at h
      rw [if_neg hc]
      match i, h with
      | 0, h => cases h; exact List.mem_cons_self
      | i + 1, h =>
        have h' : xget (xent r) i = some v := xget_iff.mpr h
        have := ih (k + 1) i v h'
        rw [show k + (i + 1) = k + 1 + i by omega]
        exact List.mem_cons_of_mem _ this
theorem xent_len {G : xG} (hob : G.2.2.2.2 = .null ∨ ∃ t, G.2.2.2.2 = .ref t) : ∀ (vs : List Value), (lg_sl (vs.map (xcv G))).length = (xent vs).length := by
  intro vs
  induction vs with
  | nil => rfl
  | cons w r ih =>
    unfold lg_sl at ih ⊢
    rw [List.map_cons, List.flatMap_cons, List.length_append, ih, xcv_cat hob]
    by_cases hc : w.category = 2
    · rw [if_pos hc, xent_2 hc]
      simp
      omega
    · rw [if_neg hc, xent_1 hc]
      simp
      omega
theorem xLs_entry {G : xG} (hob : G.2.2.2.2 = .null ∨ ∃ t, G.2.2.2.2 = .ref t) {vs : List Value} {n : Nat} (h : (xent vs).length ≤ n) : xLs G (xpad (xent vs) n) ((lg_sl (vs.map (xcv G)) ++ List.replicate (n - (lg_sl (vs.map (xcv G))).length) Slot.unset).toArray) n := by
  have hh := lv_entry (vs.map (xcv G)) (n := n) (by rw [xent_len hob vs]; exact h)
  refine ⟨by unfold xpad; rw [List.length_append, List.length_replicate]; omega, hh.1, hh.2.1, fun i v hv => ?_⟩
  have hv' : xget (xent vs) i = some v := by
    rw [xget_iff] at hv ⊢
    unfold xpad at hv
    rcases Nat.lt_or_ge i (xent vs).length with q | q
    · rwa [List.getElem?_append_left q] at hv
    · rw [List.getElem?_append_right q] at hv
      have := List.mem_of_getElem? hv
      rw [List.mem_replicate] at this
      exact absurd this.2 (by simp)
  have := xent_args hob vs 0 i v hv'
  rw [Nat.zero_add] at this
  exact hh.2.2 _ this
