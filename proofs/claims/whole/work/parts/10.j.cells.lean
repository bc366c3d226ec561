/-! what lies in the cells behind both constructors -/
def wrow {α : Type} (a : Nat) : wL α → List (Option Nat × α)
  | [] => []
  | (b, o, v) :: l => bif Nat.beq a b then (o, v) :: wrow a l else wrow a l
def wrr {α : Type} (v0 : α) : List (Option Nat × α) → Nat → α
  | [], _ => v0
  | (none, v) :: _, _ => v
  | (some i, v) :: r, j => bif Nat.beq j i then v else wrr v0 r j
theorem wrr_eq {α : Type} (v0 : α) (l : wL α) (a j : Nat) : wrd v0 l a j = wrr v0 (wrow a l) j := by
  induction l with
  | nil => rfl
  | cons e l ih =>
    obtain ⟨b, o, v⟩ := e
    cases o with
    | none =>
      show (bif Nat.beq a b then v else wrd v0 l a j) = wrr v0 (bif Nat.beq a b then (none, v) :: wrow a l else wrow a l) j
      cases Nat.beq a b with
      | true => rfl
      | false => exact ih
    | some i =>
      show (bif Nat.beq a b then (bif Nat.beq j i then v else wrd v0 l a j) else wrd v0 l a j) = wrr v0 (bif Nat.beq a b then (some i, v) :: wrow a l else wrow a l) j
      cases Nat.beq a b with
      | true =>
        show (bif Nat.beq j i then v else wrd v0 l a j) = (bif Nat.beq j i then v else wrr v0 (wrow a l) j)
        rw [ih]
      | false => exact ih
/-- beyond n nothing but v0 -/
def wrc {α : Type} [DecidableEq α] (v0 : α) (n : Nat) : List (Option Nat × α) → Bool
  | [] => true
  | (none, v) :: _ => decide (v = v0)
  | (some i, _) :: r => Nat.ble (i + 1) n && wrc v0 n r
theorem wrc_hi {α : Type} [DecidableEq α] {v0 : α} {n j : Nat} (hj : n ≤ j) : ∀ (r : List (Option Nat × α)), wrc v0 n r = true → wrr v0 r j = v0 := by
  intro r
  induction r with
  | nil => intro _; rfl
  | cons e r ih =>
    obtain ⟨o, v⟩ := e
    cases o with
    | none => intro h; exact of_decide_eq_true h
    | some i =>
      intro h
      have h : (Nat.ble (i + 1) n && wrc v0 n r) = true := h
      rw [Bool.and_eq_true] at h
      have h1 := Nat.le_of_ble_eq_true h.1
      show (bif Nat.beq j i then v else wrr v0 r j) = v0
      cases hb : Nat.beq j i with
      | true => have := Nat.eq_of_beq_eq_true hb; omega
      | false => exact ih h.2
def wrk {α : Type} [DecidableEq α] (v0 : α) (r : List (Option Nat × α)) (vs : List α) : Bool := wrc v0 vs.length r && (List.range vs.length).all fun i => decide (wrr v0 r i = vs.getD i v0)
theorem wrk_eq {α : Type} [DecidableEq α] {v0 : α} {l : wL α} {a : Nat} {vs : List α} (h : wrk v0 (wrow a l) vs = true) (j : Nat) : wden v0 l a j = vs.getD j v0 := by
  rw [← wrd_eq, wrr_eq]
  unfold wrk at h
  rw [Bool.and_eq_true, List.all_eq_true] at h
  by_cases hj : j < vs.length
  · exact of_decide_eq_true (h.2 j (List.mem_range.mpr hj))
  · rw [wrc_hi (by omega) _ h.1, List.getD_eq_getElem?_getD, List.getElem?_eq_none (by omega)]; rfl
def wtab {α : Type} [DecidableEq α] (v0 : α) (l : wL α) (t : List (List α)) : Bool := (List.range 94).all fun a => wrk v0 (wrow a l) (t.getD a [])
theorem wtab_eq {α : Type} [DecidableEq α] {v0 : α} {l : wL α} {t : List (List α)} (h : wtab v0 l t = true) {a : Nat} (ha : a < 94) (j : Nat) : wden v0 l a j = (t.getD a []).getD j v0 := by
  unfold wtab at h
  rw [List.all_eq_true] at h
  exact wrk_eq (h a (List.mem_range.mpr ha)) j
theorem wrow_no {α : Type} {a : Nat} : ∀ (l : wL α), (l.all fun e => !(Nat.beq a e.1)) = true → wrow a l = [] := by
  intro l
  induction l with
  | nil => intro _; rfl
  | cons e l ih =>
    obtain ⟨b, o, v⟩ := e
    intro h
    rw [List.all_cons, Bool.and_eq_true] at h
    show (bif Nat.beq a b then (o, v) :: wrow a l else wrow a l) = []
    have h1 : (!(Nat.beq a b)) = true := h.1
    cases hb : Nat.beq a b with
    | true => rw [hb] at h1; exact absurd h1 (by decide)
    | false => exact ih h.2
theorem whi {α : Type} {v0 : α} {l : wL α} (h : (l.all fun e => Nat.ble (e.1 + 1) 94) = true) {a : Nat} (ha : 94 ≤ a) (j : Nat) : wden v0 l a j = v0 := by
  rw [← wrd_eq, wrr_eq, wrow_no]
  · rfl
  · rw [List.all_eq_true] at h ⊢
    intro e he
    have h1 := Nat.le_of_ble_eq_true (h e he)
    cases hb : Nat.beq a e.1 with
    | true => have := Nat.eq_of_beq_eq_true hb; omega
    | false => rfl
def wI0 : List (List Int32) := [[0, 0, 0, 0, 0, 0, 0, 0, 0, 0, 0, -1], [0, 2, 1], [-2, -2, -2, -2, -2, -2, -2, -2, -2, -2, -2, -2, -2, -2, -2, -2, -2, -2, -2, -2, -2, -2, -2, -2], [-2, -2, -2, -2, -2, -2, -2, -2, -2, -2, -2, -2, -2, -2, -2, -2, -2, -2, -2, -2, -2, -2, -2, -2], [0, 1, 2, 3, 4, 5], [], [], [], [], [], [], [], [0, 2, 1], [-2, -2, -2, -2, -2, -2, -2, -2, -2, -2, -2, -2, -2, -2, -2, -2, -2, -2, -2, -2, -2, -2, -2, -2], [-2, -2, -2, -2, -2, -2, -2, -2, -2, -2, -2, -2, -2, -2, -2, -2, -2, -2, -2, -2, -2, -2, -2, -2], [0, 1, 2, 3, 4, 5], [0, 2, 1], [-2, -2, -2, -2, -2, -2, -2, -2, -2, -2, -2, -2, -2, -2, -2, -2, -2, -2, -2, -2, -2, -2, -2, -2], [-2, -2, -2, -2, -2, -2, -2, -2, -2, -2, -2, -2, -2, -2, -2, -2, -2, -2, -2, -2, -2, -2, -2, -2], [0, 1, 2, 3, 4, 5], [0, 2, 1], [-2, -2, -2, -2, -2, -2, -2, -2, -2, -2, -2, -2, -2, -2, -2, -2, -2, -2, -2, -2, -2, -2, -2, -2], [-2, -2, -2, -2, -2, -2, -2, -2, -2, -2, -2, -2, -2, -2, -2, -2, -2, -2, -2, -2, -2, -2, -2, -2], [0, 1, 2, 3, 4, 5], [], [], [], [], [], [], [], [], [0, 0, 0, 0, -1, 0, 0, -1], [], [], [], [0, 0, 0, 0, 0, 0, 0, 0, -1, 0, 0, 0, 0, -1], [], [], [], [], [], [], [0, 0, 0, 0, 0, 0, 0, 0, 0, -1, 0, 0, 0, -1], [], [], [], [], [], [], [], [], [1, 2, 3, 4, 8, 12, 5, 10, 15, 16, 32, 48, 64, 128, 192, 80, 160, 240, 17, 34, 51, 68, 136, 204, 85, 170, 255], [0, 1, 3, 4, 9, 10, 12, 13, 27, 28, 30, 31, 36, 37, 39, 40, 81, 82, 84, 85, 90, 91, 93, 94, 108, 109, 111, 112, 117, 118, 120, 121, 243, 244, 246, 247, 252, 253, 255, 256, 270, 271, 273, 274, 279, 280, 282, 283, 324, 325, 327, 328, 333, 334, 336, 337, 351, 352, 354, 355, 360, 361, 363, 364, 729, 730, 732, 733, 738, 739, 741, 742, 756, 757, 759, 760, 765, 766, 768, 769, 810, 811, 813, 814, 819, 820, 822, 823, 837, 838, 840, 841, 846, 847, 849, 850, 972, 973, 975, 976, 981, 982, 984, 985, 999, 1000, 1002, 1003, 1008, 1009, 1011, 1012, 1053, 1054, 1056, 1057, 1062, 1063, 1065, 1066, 1080, 1081, 1083, 1084, 1089, 1090, 1092, 1093, 2187, 2188, 2190, 2191, 2196, 2197, 2199, 2200, 2214, 2215, 2217, 2218, 2223, 2224, 2226, 2227, 2268, 2269, 2271, 2272, 2277, 2278, 2280, 2281, 2295, 2296, 2298, 2299, 2304, 2305, 2307, 2308, 2430, 2431, 2433, 2434, 2439, 2440, 2442, 2443, 2457, 2458, 2460, 2461, 2466, 2467, 2469, 2470, 2511, 2512, 2514, 2515, 2520, 2521, 2523, 2524, 2538, 2539, 2541, 2542, 2547, 2548, 2550, 2551, 2916, 2917, 2919, 2920, 2925, 2926, 2928, 2929, 2943, 2944, 2946, 2947, 2952, 2953, 2955, 2956, 2997, 2998, 3000, 3001, 3006, 3007, 3009, 3010, 3024, 3025, 3027, 3028, 3033, 3034, 3036, 3037, 3159, 3160, 3162, 3163, 3168, 3169, 3171, 3172, 3186, 3187, 3189, 3190, 3195, 3196, 3198, 3199, 3240, 3241, 3243, 3244, 3249, 3250, 3252, 3253, 3267, 3268, 3270, 3271, 3276, 3277, 3279, 3280], [], [], [], [], [], [], [-1, -1], [0, 0, 0, 0, 0, 0, 0, 0, 0, 0, 0, 0, 0, 0, 0, 0, -1, 0, 2, 0, 0, 0, 0, 0, 0, 0, 0, 0, 0, 0], [], [], [], [], [], [], [], [], [], [], [], [], [], [0, 0], [], [], [], [], [], [], [], [], [], [], [], [1, 2, 3, 4, 8, 12, 5, 10, 15, 16, 32, 48, 64, 128, 192, 80, 160, 240, 17, 34, 51, 68, 136, 204, 85, 170, 255], [], [], [], [], [], []]
def wJ0 : List (List Int64) := [[], [], [], [], [], [], [], [], [], [], [], [], [], [], [], [], [], [], [], [], [], [], [], [], [], [], [], [], [], [], [], [], [], [], [], [], [], [], [], [], [], [], [], [], [], [], [], [], [], [], [], [], [], [], [], [], [], [], [], [], [], [], [], [], [], [], [], [], [10492313, 136911133, 267413, 307058, 70097], [], [], [], [], [], [], [], [], [], [], [], [], [], [], [], [], [], [], [], [], [], [], [], [], []]
theorem wI0_ok : wtab 0 w2I wI0 = true := by decide +kernel
theorem wJ0_ok : wtab 0 w2J wJ0 = true := by decide +kernel
theorem wR0_ok : wtab none w2R xrfL = true := by decide +kernel
theorem wR1_ok : (w2R.all fun e => Nat.ble (e.1 + 1) 94) = true := by decide +kernel
theorem wR_xrf : wden none w2R = xrf := by
  funext a j
  by_cases ha : a < 94
  · exact wtab_eq wR0_ok ha j
  · rw [whi wR1_ok (by omega) j]
    unfold xrf
    rw [List.getD_eq_getElem?_getD (l := xrfL), List.getElem?_eq_none (by show xrfL.length ≤ a; have : xrfL.length = 94 := rfl; omega)]
    rfl
theorem wI0_eq {a : Nat} (ha : a < 94) (j : Nat) : wden 0 w2I a j = (wI0.getD a []).getD j 0 := wtab_eq wI0_ok ha j
theorem wJ0_eq {a : Nat} (ha : a < 94) (j : Nat) : wden 0 w2J a j = (wJ0.getD a []).getD j 0 := wtab_eq wJ0_ok ha j
