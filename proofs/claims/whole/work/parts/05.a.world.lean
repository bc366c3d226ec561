/-! the world: what the abstract memory says of the real heap -/
/-- where things are: the first cell's address, the classes, the array classes, the addresses of what lies outside, a reference that nobody looks at -/
abbrev xG : Type := Nat × va_G × (Nat → ClassId) × (Nat → Nat) × Value
def xad (G : xG) (a : Nat) : Nat := if a < 1000 then G.1 + a else G.2.2.2.1 a
def xcv (G : xG) : Value → Value
  | .ref a => if a = 2999 then G.2.2.2.2 else .ref (xad G a)
  | v => v
def xA (G : xG) : Nat → Prop := fun q => G.1 ≤ q
def xtys (G : xG) : List (ClassId × FieldType) := [(G.2.2.1 13, .byte), (G.2.2.1 14, .int), (G.2.2.1 15, .long), (G.2.2.1 16, .boolean), (G.2.2.1 17, .object "StateMill$Machine")]
def xfs (G : xG) (ci k : Nat) (M : xM) : List Value := (List.range (xk k).2).map (fun i => xcv G (xfa (xtc ci i) M k i))
def xce (G : xG) (k : Nat) (M : xM) : va_E := match (xk k).1 with
  | 13 => .inl (G.2.2.1 13, (xk k).2, .inl (M.1 k))
  | 14 => .inl (G.2.2.1 14, (xk k).2, .inl (M.1 k))
  | 15 => .inl (G.2.2.1 15, (xk k).2, .inr (.inl (M.2.1 k)))
  | 16 => .inl (G.2.2.1 16, (xk k).2, .inl (M.1 k))
  | 17 => .inl (G.2.2.1 17, (xk k).2, .inr (.inr (.inr (.inr (fun i => (M.2.2 k i).map (xad G))))))
  | ci => .inr (ci, xfs G ci k M)
def xws (G : xG) (n : Nat) (M : xM) : va_W := (List.range n).map (fun k => (G.1 + k, xce G k M))
def xP (G : xG) (n : Nat) (M : xM) (H : Heap) : Prop := va_P G.2.1 vwCl (xws G n M) H ∧ (n < 94 → H.size = G.1 + n)
def xslen : List Nat := [0, 5, 6, 4, 4, 4, 2, 2, 5, 3]
def xsbyt : List (List Int32) := [[], [115, 116, 97, 116, 101], [105, 110, 112, 117, 116, 115], [109, 111, 118, 101], [99, 111, 100, 101], [111, 112, 101, 110], [110, 59], [105, 59], [110, 105, 116, 97, 59], [110, 105, 59]]
/-- what holds of the tables and of what lies outside, at all times -/
def xE (G : xG) (L : Nat) (xs : Nat → Int32) (U : State) (H : Heap) : Prop :=
  va_K G.2.1 vwCl (xtys G) U ∧ (∀ a, a ∈ [1000, 1001, 1002, 1003, 1004, 1009] → va_T .int (xad G a) (xsc L xs a).1 (fun j => .int ((xsc L xs a).2 j)) (xA G) U H)
  ∧ (∀ k, k < 5 → va_Z (xsn.getD k ("", "")).1 (xsn.getD k ("", "")).2 "[I" (.ref (xad G (1000 + k))) (xA G) U H)
  ∧ va_Z "java/lang/String" "COMPACT_STRINGS" "Z" (.int 1) (xA G) U H
  ∧ va_Z "jdk/internal/util/Preconditions" "SIOOBE_FORMATTER" "Ljava/util/function/BiFunction;" G.2.2.2.2 (xA G) U H
  ∧ vk_S 10 xslen xsbyt (fun i => xad G (2000 + i)) (fun i => xad G (2100 + i)) (xA G) U H
  ∧ (∀ i, i < 10 → vk_R "StateMill$Tokens" (xsk.getD i 0) (xst.getD i "") (xad G (2000 + i)) U)
  ∧ (∀ w ∈ xnest, va_Nw w U) ∧ va_AO "StateMill$Machine" U ∧ G.1 ≤ H.size ∧ (G.2.2.2.2 = .null ∨ ∃ t, G.2.2.2.2 = .ref t)
theorem xnest_kind : ∀ w ∈ xnest, ∃ a i x h, w = Cond.methodLinkNest a i x h := by
  intro w hw
  simp only [xnest, List.mem_cons, List.not_mem_nil, or_false] at hw
  rcases hw with rfl | rfl | rfl | rfl | rfl <;> exact ⟨_, _, _, _, rfl⟩
theorem xE.go {G : xG} {L : Nat} {xs : Nat → Int32} {s U : State} {H : Heap} {locs : List Loc} (h : xE G L xs s s.heap) (hU : U.heap = H) (hW : s.WarmedH U.vm) (hS : va_S (xA G) s.heap H locs) : xE G L xs U U.heap := by
  obtain ⟨h1, h2, h3, h4, h5, h6, h7, h8, h9, h10, h11⟩ := h
  have hq : ∀ a : Nat, a < s.heap.size → ¬ xA G a → U.heap[a]? = s.heap[a]? := by rw [hU]; exact hS.2.1
  refine ⟨va_K.moved hW.alike h1, fun a ha => (va_T.moved hW.alike (h2 a ha)).kept hq, fun k hk => (va_Z.moved hW.alike (h3 k hk)).kept hq, (va_Z.moved hW.alike h4).kept hq, (va_Z.moved hW.alike h5).kept hq, (vk_S.moved hW.alike h6).kept hq, fun i hi => vk_R.warm hW (h7 i hi), fun w hw => ?_, va_AO.moved hW.alike h9, by rw [hU]; exact Nat.le_trans h10 hS.1, h11⟩
  obtain ⟨a, i, x, hh, rfl⟩ := xnest_kind w hw
  exact va_Nw.warmM hW (h8 _ hw)
theorem xE.same {G : xG} {L : Nat} {xs : Nat → Int32} {u U : State} (h : xE G L xs u u.heap) (hU : U.heap = u.heap) (hv : U.vm = u.vm) : xE G L xs U U.heap := by
  obtain ⟨h1, h2, h3, h4, h5, h6, h7, h8, h9, h10, h11⟩ := h
  have hA : u.vm.Alike U.vm := by rw [hv]; exact Vm.Alike.refl _
  have hq : ∀ a : Nat, a < u.heap.size → ¬ xA G a → U.heap[a]? = u.heap[a]? := fun a _ _ => by rw [hU]
  refine ⟨va_K.moved hA h1, fun a ha => (va_T.moved hA (h2 a ha)).kept hq, fun k hk => (va_Z.moved hA (h3 k hk)).kept hq, (va_Z.moved hA h4).kept hq, (va_Z.moved hA h5).kept hq, (vk_S.moved hA h6).kept hq, fun i hi => vk_R.same hv (h7 i hi), fun w hw => ?_, va_AO.moved hA h9, by rw [hU]; exact h10, h11⟩
  obtain ⟨a, i, x, hh, rfl⟩ := xnest_kind w hw
  exact va_Nw.same rfl hv.symm (h8 _ hw)
theorem xcv_cat {G : xG} (h : G.2.2.2.2 = .null ∨ ∃ t, G.2.2.2.2 = .ref t) (v : Value) : (xcv G v).category = v.category := by
  cases v <;> try rfl
  rename_i a
  show (if a = 2999 then _ else _ : Value).category = _
  by_cases ha : a = 2999
  · rw [if_pos ha]
    rcases h with h | ⟨t, h⟩ <;> rw [h] <;> rfl
  · rw [if_neg ha]; rfl
theorem xcv_ref {G : xG} {a : Nat} (h : a < 2999) : xcv G (.ref a) = .ref (xad G a) := by
  show (if a = 2999 then _ else _) = _
  rw [if_neg (by omega)]
theorem xad_own {G : xG} {a : Nat} (h : a < 1000) : xad G a = G.1 + a := by unfold xad; rw [if_pos h]
-- the list of cells
theorem xws_at {G : xG} {n k : Nat} {M : xM} (h : k < n) : (xws G n M)[k]? = some (G.1 + k, xce G k M) := by
  unfold xws
  rw [List.getElem?_map, List.getElem?_range h]
  rfl
theorem xws_len {G : xG} {n : Nat} {M : xM} : (xws G n M).length = n := by unfold xws; rw [List.length_map, List.length_range]
theorem xws_D {G : xG} {n : Nat} {M : xM} : va_D (xA G) (xws G n M) := by
  have key : ∀ (k : Nat) (q : Nat × va_E), (xws G n M)[k]? = some q → q.1 = G.1 + k := by
    intro k q h
    have hk : k < n := by
      have := (List.getElem?_eq_some_iff.mp h).1
      rwa [xws_len] at this
    rw [xws_at hk] at h
    cases h
    rfl
  refine ⟨fun i j p q hp hq e => ?_, fun k q h => ?_⟩
  · have h1 := key i p hp
    have h2 := key j q hq
    omega
  · rw [key k q h]
    exact Nat.le_add_right _ _
theorem xws_set {G : xG} {n k : Nat} {M M' : xM} {e : va_E} (hk : k < n) (ho : ∀ j, j ≠ k → xce G j M' = xce G j M) (he : xce G k M' = e) : (xws G n M).set k (G.1 + k, e) = xws G n M' := by
  refine List.ext_getElem? fun j => ?_
  by_cases hj : j < n
  · rw [xws_at hj]
    by_cases hjk : j = k
    · subst hjk
      rw [List.getElem?_set_self (by rw [xws_len]; exact hj), he]
    · rw [List.getElem?_set_ne (fun h => hjk h.symm), xws_at hj, ho j hjk]
  · rw [List.getElem?_eq_none (by rw [List.length_set, xws_len]; omega), List.getElem?_eq_none (by rw [xws_len]; omega)]
theorem xws_push {G : xG} {n : Nat} {M M' : xM} (ho : ∀ j, j ≠ n → xce G j M' = xce G j M) : xws G (n + 1) M' = xws G n M ++ [(G.1 + n, xce G n M')] := by
  unfold xws
  rw [List.range_succ, List.map_append]
  congr 1
  exact List.map_congr_left fun j hj => by rw [ho j (Nat.ne_of_lt (List.mem_range.mp hj))]
theorem xfa_other {t j : Nat} {M M' : xM} (h1 : M'.1 j = M.1 j) (h2 : M'.2.1 j = M.2.1 j) (h3 : M'.2.2 j = M.2.2 j) (i : Nat) : xfa t M' j i = xfa t M j i := by
  unfold xfa
  rw [h1, h2, h3]
theorem xce_other {G : xG} {j : Nat} {M M' : xM} (h1 : M'.1 j = M.1 j) (h2 : M'.2.1 j = M.2.1 j) (h3 : M'.2.2 j = M.2.2 j) : xce G j M' = xce G j M := by
  have hf : ∀ ci, xfs G ci j M' = xfs G ci j M := fun ci => by
    unfold xfs
    exact List.map_congr_left fun i _ => by rw [xfa_other h1 h2 h3]
  unfold xce
  rw [h1, h2, h3]
  split <;> simp_all
theorem xce_obj {G : xG} {k ci : Nat} {M : xM} (h : (xk k).1 = ci) (hc : ci < 13) : xce G k M = .inr (ci, xfs G ci k M) := by
  unfold xce
  rw [h]
  split <;> first | rfl | omega
theorem xce_13 {G : xG} {k : Nat} {M : xM} (h : (xk k).1 = 13) : xce G k M = .inl (G.2.2.1 13, (xk k).2, .inl (M.1 k)) := by unfold xce; simp only [h]
theorem xce_14 {G : xG} {k : Nat} {M : xM} (h : (xk k).1 = 14) : xce G k M = .inl (G.2.2.1 14, (xk k).2, .inl (M.1 k)) := by unfold xce; simp only [h]
theorem xce_15 {G : xG} {k : Nat} {M : xM} (h : (xk k).1 = 15) : xce G k M = .inl (G.2.2.1 15, (xk k).2, .inr (.inl (M.2.1 k))) := by unfold xce; simp only [h]
theorem xce_16 {G : xG} {k : Nat} {M : xM} (h : (xk k).1 = 16) : xce G k M = .inl (G.2.2.1 16, (xk k).2, .inl (M.1 k)) := by unfold xce; simp only [h]
theorem xce_17 {G : xG} {k : Nat} {M : xM} (h : (xk k).1 = 17) : xce G k M = .inl (G.2.2.1 17, (xk k).2, .inr (.inr (.inr (.inr (fun i => (M.2.2 k i).map (xad G)))))) := by unfold xce; simp only [h]
-- memory
theorem xup_ne {α : Type} {f : Nat → Nat → α} {a i j : Nat} {v : α} (h : j ≠ a) : xup f a i v j = f j := by unfold xup; rw [if_neg h]
theorem xup_eq {α : Type} {f : Nat → Nat → α} {a i : Nat} {v : α} : xup f a i v a = fun j => if j = i then v else f a j := by unfold xup; rw [if_pos rfl]
theorem xz_ne {α : Type} {f : Nat → Nat → α} {a j : Nat} {v : α} (h : j ≠ a) : xz f a v j = f j := by unfold xz; rw [if_neg h]
theorem xz_eq {α : Type} {f : Nat → Nat → α} {a : Nat} {v : α} : xz f a v a = fun _ => v := by unfold xz; rw [if_pos rfl]
theorem xcp_ne {α : Type} {f : Nat → Nat → α} {a b sp dp n j : Nat} (h : j ≠ b) : xcp f a b sp dp n j = f j := by unfold xcp; rw [if_neg h]
theorem xcp_eq {α : Type} {f : Nat → Nat → α} {a b sp dp n : Nat} : xcp f a b sp dp n b = va_cpy (f a) (f b) sp dp n := by unfold xcp; rw [if_pos rfl]
-- the layout
theorem xk_lt {a : Nat} (h : (xk a).1 < 18) : a < 94 := by
  rcases Nat.lt_or_ge a 94 with q | q
  · exact q
  · unfold xk at h
    rw [List.getD_eq_getElem?_getD, List.getElem?_eq_none (by show 94 ≤ a; exact q)] at h
    exact absurd h (by decide)
def xlayok (r : Nat × Nat) : Bool := Nat.blt r.1 18 && (!(Nat.blt r.1 13) || Nat.beq r.2 (xcls r.1).2.2)
theorem xlay_ok : xlay.all xlayok = true := by decide +kernel
theorem xk_ok (a : Nat) : xk a = (99, 0) ∨ (xlayok (xk a) = true) := by
  unfold xk
  rw [List.getD_eq_getElem?_getD]
  cases h : xlay[a]? with
  | none => exact Or.inl rfl
  | some r => exact Or.inr (List.all_eq_true.mp xlay_ok r (List.mem_of_getElem? h))
theorem xk_size {a : Nat} (h : (xk a).1 < 13) : (xk a).2 = (xcls (xk a).1).2.2 := by
  rcases xk_ok a with q | q
  · rw [q] at h; exact absurd h (by decide)
  · unfold xlayok at q
    rw [Bool.and_eq_true, Bool.or_eq_true] at q
    rcases q.2 with q | q
    · rw [Bool.not_eq_true'] at q
      exact absurd (Nat.blt_eq.mpr h) (by rw [q]; decide)
    · exact Nat.eq_of_beq_eq_true q
theorem xk_kind (a : Nat) : (xk a).1 < 18 ∨ (xk a).1 = 99 := by
  rcases xk_ok a with q | q
  · exact Or.inr (by rw [q])
  · unfold xlayok at q
    rw [Bool.and_eq_true] at q
    exact Or.inl (Nat.blt_eq.mp q.1)
theorem xcls_at {ci : Nat} (h : ci < 13) : vwCl[ci]? = some (xcls ci) := by
  match ci, h with
  | 0, _ => rfl
  | 1, _ => rfl
  | 2, _ => rfl
  | 3, _ => rfl
  | 4, _ => rfl
  | 5, _ => rfl
  | 6, _ => rfl
  | 7, _ => rfl
  | 8, _ => rfl
  | 9, _ => rfl
  | 10, _ => rfl
  | 11, _ => rfl
  | 12, _ => rfl
def xtyf (ci : Nat) : Nat → FieldType := match ci with
  | 0 => tyX0
  | 1 => tyX1
  | 2 => tyX2
  | 3 => tyX3
  | 4 => tyX4
  | 5 => tyX5
  | 6 => tyX6
  | 7 => tyX7
  | 8 => tyX8
  | 9 => tyX9
  | 10 => tyX10
  | 11 => tyX11
  | _ => tyX12
theorem xtyf_ok {ci : Nat} (h : ci < 13) : ∀ k, k < (xcls ci).2.2 → parseFieldDescriptor ((xcls ci).2.1 k).2.2.1 = some (xtyf ci k) := by
  match ci, h with
  | 0, _ => exact tyX0_ok
  | 1, _ => exact tyX1_ok
  | 2, _ => exact tyX2_ok
  | 3, _ => exact tyX3_ok
  | 4, _ => exact tyX4_ok
  | 5, _ => exact tyX5_ok
  | 6, _ => exact tyX6_ok
  | 7, _ => exact tyX7_ok
  | 8, _ => exact tyX8_ok
  | 9, _ => exact tyX9_ok
  | 10, _ => exact tyX10_ok
  | 11, _ => exact tyX11_ok
  | 12, _ => exact tyX12_ok
theorem xnm_ok {ci : Nat} (h : ci < 13) : ∀ a, a < (xcls ci).2.2 → ∀ b, b < (xcls ci).2.2 → a ≠ b → ((xcls ci).2.1 a).2.1 ≠ ((xcls ci).2.1 b).2.1 := by
  match ci, h with
  | 0, _ => exact nmX0
  | 1, _ => exact nmX1
  | 2, _ => exact nmX2
  | 3, _ => exact nmX3
  | 4, _ => exact nmX4
  | 5, _ => exact nmX5
  | 6, _ => exact nmX6
  | 7, _ => exact nmX7
  | 8, _ => exact nmX8
  | 9, _ => exact nmX9
  | 10, _ => exact nmX10
  | 11, _ => exact nmX11
  | 12, _ => exact nmX12
/-- a field's sort and its type -/
def xtrel (t : Nat) (ty : FieldType) : Bool := match t, ty with
  | 0, .int => true
  | 1, .boolean => true
  | 2, .long => true
  | 3, .object _ => true
  | 3, .array _ => true
  | _, _ => false
theorem xtrel_all : ((List.range 13).all fun ci => (List.range (xcls ci).2.2).all fun k => xtrel (xtc ci k) (xtyf ci k)) = true := by decide +kernel
theorem xtrel_ok {ci k : Nat} (h : ci < 13) (hk : k < (xcls ci).2.2) : xtrel (xtc ci k) (xtyf ci k) = true := List.all_eq_true.mp (List.all_eq_true.mp xtrel_all ci (List.mem_range.mpr h)) k (List.mem_range.mpr hk)
theorem xlw_all : ((List.range 13).all fun ci => (List.range (xcls ci).2.2).all fun k => xhas ((xlwp.getD ci []).getD k (9, 0)) (u_lay (xcls ci).1 (xcls ci).2.1 k)) = true := by decide +kernel
theorem xcls_in {ci : Nat} (h : ci < 13) : ∀ w ∈ u_ws (xcls ci).1 (xcls ci).2.1 (xcls ci).2.2, w ∈ xW := by
  intro w hw
  obtain ⟨k, hk, rfl⟩ := List.mem_map.mp hw
  exact xhas_in (List.all_eq_true.mp (List.all_eq_true.mp xlw_all ci (List.mem_range.mpr h)) k hk)
