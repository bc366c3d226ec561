/-! pairs: the rounds in which they are told apart -/
def ex (n : Nat) (p : Nat → Bool) : Bool := match n with
  | 0 => false
  | n + 1 => ex n p || p n
theorem ex_iff {n : Nat} {p : Nat → Bool} : ex n p = true ↔ ∃ k, k < n ∧ p k = true := by
  induction n with
  | zero => simp [ex]
  | succ n ih =>
    rw [ex, Bool.or_eq_true, ih]
    constructor
    · rintro (⟨k, hk, h⟩ | h)
      · exact ⟨k, by omega, h⟩
      · exact ⟨n, by omega, h⟩
    · rintro ⟨k, hk, h⟩
      by_cases e : k = n
      · right; rw [← e]; exact h
      · left; exact ⟨k, by omega, h⟩
theorem ex_false {n : Nat} {p : Nat → Bool} : ex n p = false ↔ ∀ k, k < n → p k = false := by
  constructor
  · intro h k hk
    cases hp : p k with
    | false => rfl
    | true => rw [ex_iff.mpr ⟨k, hk, hp⟩] at h; exact absurd h (by decide)
  · intro h
    cases e : ex n p with
    | false => rfl
    | true =>
      obtain ⟨k, hk, hp⟩ := ex_iff.mp e
      rw [h k hk] at hp; exact absurd hp (by decide)
theorem ex_congr {n : Nat} {p q : Nat → Bool} (h : ∀ k, k < n → p k = q k) : ex n p = ex n q := by
  induction n with
  | zero => rfl
  | succ n ih => rw [ex, ex, ih (fun k hk => h k (by omega)), h n (by omega)]
def unl (w : aT) (a b x : Nat) : Bool := match w.2.1 a x, w.2.1 b x with
  | some p, some q => !decide (p = q)
  | _, _ => false
theorem unl_comm (w : aT) (a b x : Nat) : unl w a b x = unl w b a x := by
  unfold unl
  cases w.2.1 a x with
  | none => cases w.2.1 b x <;> rfl
  | some p =>
    cases w.2.1 b x with
    | none => rfl
    | some q =>
      dsimp only
      by_cases h : p = q
      · rw [h]
      · rw [decide_eq_false h, decide_eq_false (fun e => h e.symm)]
theorem unl_self (w : aT) (a x : Nat) : unl w a a x = false := by
  unfold unl
  cases w.2.1 a x with
  | none => rfl
  | some p => simp
def hit (R : Nat → Nat → Option Nat) (w : aT) (a b x K : Nat) : Bool := match w.1 a x, w.1 b x with
  | some p, some q => decide (R p q = some K)
  | _, _ => false
theorem hit_iff {R : Nat → Nat → Option Nat} {w : aT} {a b x K : Nat} : hit R w a b x K = true ↔ ∃ p q, w.1 a x = some p ∧ w.1 b x = some q ∧ R p q = some K := by
  unfold hit
  cases h1 : w.1 a x with
  | none => simp
  | some p =>
    cases h2 : w.1 b x with
    | none => simp
    | some q => simp
/-- found by round K -/
def rdk (m : Nat) (w : aT) : Nat → Nat → Nat → Option Nat
  | 0, a, b => if ex m (fun x => unl w a b x) = true then some 0 else none
  | K + 1, a, b => match rdk m w K a b with
    | some r => some r
    | none => if ex m (fun x => hit (rdk m w K) w a b x K) = true then some (K + 1) else none
theorem rdk_comm (m : Nat) (w : aT) (K : Nat) : ∀ a b, rdk m w K a b = rdk m w K b a := by
  induction K with
  | zero =>
    intro a b
    unfold rdk
    rw [ex_congr (fun x _ => unl_comm w a b x)]
  | succ K ih =>
    intro a b
    unfold rdk
    rw [ih a b]
    have : ex m (fun x => hit (rdk m w K) w a b x K) = ex m (fun x => hit (rdk m w K) w b a x K) := by
      apply ex_congr
      intro x _
      unfold hit
      cases w.1 a x with
      | none => cases w.1 b x <;> rfl
      | some p =>
        cases w.1 b x with
        | none => rfl
        | some q => dsimp only; rw [ih p q]
    rw [this]
theorem rdk_self (m : Nat) (w : aT) (K : Nat) : ∀ a, rdk m w K a a = none := by
  induction K with
  | zero =>
    intro a
    unfold rdk
    rw [ex_false.mpr (fun x _ => unl_self w a x)]
    rfl
  | succ K ih =>
    intro a
    unfold rdk
    rw [ih a]
    have : ex m (fun x => hit (rdk m w K) w a a x K) = false := by
      apply ex_false.mpr
      intro x _
      unfold hit
      cases w.1 a x with
      | none => rfl
      | some p => dsimp only; rw [ih p]; rfl
    rw [this]
    rfl
theorem rdk_le (m : Nat) (w : aT) {K : Nat} : ∀ {a b r : Nat}, rdk m w K a b = some r → r ≤ K := by
  induction K with
  | zero =>
    intro a b r h
    unfold rdk at h
    split at h
    · cases h; omega
    · cases h
  | succ K ih =>
    intro a b r h
    unfold rdk at h
    cases e : rdk m w K a b with
    | some r' => rw [e] at h; cases h; have := ih e; omega
    | none =>
      rw [e] at h
      dsimp only at h
      split at h
      · cases h; omega
      · cases h
theorem rdk_up (m : Nat) (w : aT) {K a b r : Nat} (h : rdk m w K a b = some r) (d : Nat) : rdk m w (K + d) a b = some r := by
  induction d with
  | zero => exact h
  | succ d ih =>
    show rdk m w (K + d + 1) a b = some r
    unfold rdk
    rw [ih]
theorem rdk_down (m : Nat) (w : aT) {K a b r : Nat} (h : rdk m w K a b = some r) : rdk m w r a b = some r := by
  induction K with
  | zero =>
    have := rdk_le m w h
    have e : r = 0 := by omega
    rw [e] at h ⊢; exact h
  | succ K ih =>
    have h' := h
    unfold rdk at h
    cases e : rdk m w K a b with
    | some r' => rw [e] at h; cases h; exact ih e
    | none =>
      rw [e] at h
      dsimp only at h
      split at h
      · cases h; exact h'
      · cases h
/-- what leads to a pair that is found is found one round later at most -/
theorem rdk_next (m : Nat) (w : aT) {K a b x p q j : Nat} (hx : x < m) (hp : w.1 a x = some p) (hq : w.1 b x = some q) (h : rdk m w K p q = some j) (hn : rdk m w K a b = none) : j = K := by
  have hj := rdk_le m w h
  by_cases e : j = K
  · exact e
  · exfalso
    have h1 := rdk_down m w h
    have h2 : ∃ r, rdk m w (j + 1) a b = some r := by
      unfold rdk
      cases rdk m w j a b with
      | some r => exact ⟨r, rfl⟩
      | none =>
        dsimp only
        have hh : ex m (fun x => hit (rdk m w j) w a b x j) = true := ex_iff.mpr ⟨x, hx, hit_iff.mpr ⟨p, q, hp, hq, h1⟩⟩
        rw [if_pos hh]
        exact ⟨j + 1, rfl⟩
    obtain ⟨r, h2⟩ := h2
    have h3 := rdk_up m w h2 (K - (j + 1))
    rw [show j + 1 + (K - (j + 1)) = K from by omega, hn] at h3
    cases h3
theorem rdk_new {m : Nat} {w : aT} {K a b : Nat} (h : rdk m w (K + 1) a b = some (K + 1)) : rdk m w K a b = none ∧ ∃ x, x < m ∧ ∃ p q, w.1 a x = some p ∧ w.1 b x = some q ∧ rdk m w K p q = some K := by
  unfold rdk at h
  cases e : rdk m w K a b with
  | some r' => rw [e] at h; cases h; have := rdk_le m w e; omega
  | none =>
    rw [e] at h
    dsimp only at h
    refine ⟨rfl, ?_⟩
    split at h
    · rename_i hx
      obtain ⟨x, hx, hh⟩ := ex_iff.mp hx
      exact ⟨x, hx, hit_iff.mp hh⟩
    · cases h
theorem rdk_stable {m : Nat} {w : aT} {K : Nat} (h : ∀ a b, ¬ rdk m w (K + 1) a b = some (K + 1)) (d : Nat) : ∀ a b, rdk m w (K + d) a b = rdk m w K a b := by
  have hno : ∀ d a b, ¬ rdk m w (K + d + 1) a b = some (K + d + 1) := by
    intro d
    induction d with
    | zero => exact h
    | succ d ih =>
      intro a b hc
      obtain ⟨_, x, hx, p, q, _, _, h3⟩ := rdk_new hc
      exact ih p q h3
  induction d with
  | zero => intro a b; rfl
  | succ d ih =>
    intro a b
    rw [← ih a b]
    have h1 := hno d a b
    show rdk m w (K + d + 1) a b = _
    cases e : rdk m w (K + d + 1) a b with
    | none =>
      cases e2 : rdk m w (K + d) a b with
      | none => rfl
      | some r => rw [rdk_up m w e2 1] at e; cases e
    | some r =>
      have hr := rdk_le m w e
      have hr2 : r ≤ K + d := by
        by_cases c : r = K + d + 1
        · rw [c] at e; exact absurd e h1
        · omega
      have h3 := rdk_down m w e
      have h4 := rdk_up m w h3 (K + d - r)
      rw [show r + (K + d - r) = K + d from by omega] at h4
      rw [h4]
theorem rdk_rng {n m : Nat} {w : aT} (V : Vd n m w) {K a b r : Nat} (h : rdk m w K a b = some r) : a < n ∧ b < n := by
  have h1 := rdk_down m w h
  clear h
  rcases r with _ | r
  · unfold rdk at h1
    split at h1
    · rename_i hx
      obtain ⟨x, _, hu⟩ := ex_iff.mp hx
      unfold unl at hu
      cases ea : w.2.1 a x with
      | none => rw [ea] at hu; cases hu
      | some p =>
        cases eb : w.2.1 b x with
        | none => rw [ea, eb] at hu; cases hu
        | some q => exact ⟨(V.2.1 a x p ea).1, (V.2.1 b x q eb).1⟩
    · cases h1
  · obtain ⟨_, x, hx, p, q, h2, h3, _⟩ := rdk_new h1
    exact ⟨(V.1 a x p h2).1, (V.1 b x q h3).1⟩
/-! the 15 pairs -/
def pL (p : Nat) : Nat := ([0, 0, 0, 0, 0, 1, 1, 1, 1, 2, 2, 2, 3, 3, 4] : List Nat).getD p 0
def pH (p : Nat) : Nat := ([1, 2, 3, 4, 5, 2, 3, 4, 5, 3, 4, 5, 4, 5, 5] : List Nat).getD p 0
def pX (a b : Nat) : Nat := ([0, 0, 1, 2, 3, 4, 0, 0, 5, 6, 7, 8, 1, 5, 0, 9, 10, 11, 2, 6, 9, 0, 12, 13, 3, 7, 10, 12, 0, 14, 4, 8, 11, 13, 14, 0] : List Nat).getD (6 * a + b) 0
theorem pX_lt : ∀ a, a < 6 → ∀ b, b < 6 → pX a b < 15 := by decide
theorem pX_comm : ∀ a, a < 6 → ∀ b, b < 6 → pX a b = pX b a := by decide
theorem pX_lh : ∀ p, p < 15 → pX (pL p) (pH p) = p ∧ pL p < pH p ∧ pH p < 6 := by decide
theorem pX_inv : ∀ a, a < 6 → ∀ b, b < 6 → a < b → pL (pX a b) = a ∧ pH (pX a b) = b := by decide
def cn (n : Nat) (p : Nat → Bool) : Nat := match n with
  | 0 => 0
  | n + 1 => cn n p + (if p n = true then 1 else 0)
theorem cn_le {n : Nat} {p : Nat → Bool} : cn n p ≤ n := by
  induction n with
  | zero => exact Nat.le_refl 0
  | succ n ih => unfold cn; split <;> omega
theorem cn_mono {n : Nat} {p q : Nat → Bool} (h : ∀ k, k < n → p k = true → q k = true) : cn n p ≤ cn n q := by
  induction n with
  | zero => exact Nat.le_refl 0
  | succ n ih =>
    unfold cn
    have := ih (fun k hk => h k (by omega))
    have h2 := h n (by omega)
    by_cases c : p n = true
    · rw [if_pos c, if_pos (h2 c)]; omega
    · rw [if_neg c]; omega
theorem cn_lt {n : Nat} {p q : Nat → Bool} (h : ∀ k, k < n → p k = true → q k = true) {i : Nat} (hi : i < n) (h1 : ¬ p i = true) (h2 : q i = true) : cn n p < cn n q := by
  induction n with
  | zero => omega
  | succ n ih =>
    unfold cn
    by_cases e : i = n
    · subst e
      have := cn_mono (n := i) (fun k hk => h k (by omega))
      rw [if_neg h1, if_pos h2]; omega
    · have := ih (fun k hk => h k (by omega)) (by omega)
      have h3 := h n (by omega)
      by_cases c : p n = true
      · rw [if_pos c, if_pos (h3 c)]; omega
      · rw [if_neg c]; omega
theorem cn_pos {n : Nat} {p : Nat → Bool} {i : Nat} (hi : i < n) (h : p i = true) : 0 < cn n p := by
  induction n with
  | zero => omega
  | succ n ih =>
    unfold cn
    by_cases e : i = n
    · rw [e] at h; rw [if_pos h]; omega
    · have := ih (by omega); omega
def rdc (m : Nat) (w : aT) (K : Nat) : Nat := cn 15 (fun p => (rdk m w K (pL p) (pH p)).isSome)
theorem rd_pair {n m : Nat} {w : aT} (V : Vd n m w) (hn : n ≤ 6) {K a b r : Nat} (h : rdk m w K a b = some r) : ∃ p, p < 15 ∧ ∀ J, rdk m w J (pL p) (pH p) = rdk m w J a b := by
  obtain ⟨ha, hb⟩ := rdk_rng V h
  have hne : ¬ a = b := by intro e; rw [e, rdk_self] at h; cases h
  rcases Nat.lt_or_gt_of_ne hne with hl | hl
  · refine ⟨pX a b, pX_lt a (by omega) b (by omega), fun J => ?_⟩
    rw [(pX_inv a (by omega) b (by omega) hl).1, (pX_inv a (by omega) b (by omega) hl).2]
  · refine ⟨pX b a, pX_lt b (by omega) a (by omega), fun J => ?_⟩
    rw [(pX_inv b (by omega) a (by omega) hl).1, (pX_inv b (by omega) a (by omega) hl).2, rdk_comm]
theorem rdc_grow {n m : Nat} {w : aT} (V : Vd n m w) (hn : n ≤ 6) {K a b : Nat} (h : rdk m w K a b = some K) : K + 1 ≤ rdc m w K := by
  induction K generalizing a b with
  | zero =>
    obtain ⟨p, hp, e⟩ := rd_pair V hn h
    have : 0 < rdc m w 0 := cn_pos hp (by rw [e 0, h]; rfl)
    omega
  | succ K ih =>
    obtain ⟨h0, x, hx, p, q, h1, h2, h3⟩ := rdk_new h
    have i1 := ih h3
    obtain ⟨i, hi, e⟩ := rd_pair V hn h
    have : rdc m w K < rdc m w (K + 1) := by
      refine cn_lt ?_ hi ?_ ?_
      · intro k _ hk
        cases e3 : rdk m w K (pL k) (pH k) with
        | none => rw [e3] at hk; cases hk
        | some r => rw [rdk_up m w e3 1]; rfl
      · rw [e K, h0]; decide
      · rw [e (K + 1), h]; rfl
    omega
/-- no round beyond the 14th -/
theorem rdk_14 {n m : Nat} {w : aT} (V : Vd n m w) (hn : n ≤ 6) {K a b r : Nat} (h : rdk m w K a b = some r) : r ≤ 14 := by
  have h1 := rdc_grow V hn (rdk_down m w h)
  have h2 : rdc m w r ≤ 15 := cn_le
  omega
/-- the rounds -/
def rd (m : Nat) (w : aT) (a b : Nat) : Option Nat := rdk m w 15 a b
theorem rd_of {n m : Nat} {w : aT} (V : Vd n m w) (hn : n ≤ 6) {K : Nat} (hK : 14 ≤ K) (a b : Nat) : rdk m w K a b = rd m w a b := by
  have h : ∀ a b, ¬ rdk m w (14 + 1) a b = some (14 + 1) := fun a b e => by have := rdk_14 V hn e; omega
  have h1 := rdk_stable h 1 a b
  have h2 := rdk_stable h (K - 14) a b
  rw [show 14 + (K - 14) = K from by omega] at h2
  unfold rd
  rw [h2, ← h1]
