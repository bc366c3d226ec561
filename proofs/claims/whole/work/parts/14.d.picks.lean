/-! rising rows, the least of them first -/
def Pk (N k : Nat) (p : Nat → Nat) : Prop := (∀ i, i < k → p i < N) ∧ ∀ i j, i < j → j < k → p i < p j
def lx (k : Nat) (p q : Nat → Nat) : Prop := ∃ i, i < k ∧ p i < q i ∧ ∀ j, j < i → p j = q j
theorem lx_tri (k : Nat) (p q : Nat → Nat) : lx k p q ∨ lx k q p ∨ ∀ i, i < k → p i = q i := by
  induction k with
  | zero => right; right; intro i hi; omega
  | succ k ih =>
    rcases ih with ⟨i, h1, h2, h3⟩ | ⟨i, h1, h2, h3⟩ | h
    · left; exact ⟨i, by omega, h2, h3⟩
    · right; left; exact ⟨i, by omega, h2, h3⟩
    · rcases Nat.lt_trichotomy (p k) (q k) with c | c | c
      · left; exact ⟨k, by omega, c, h⟩
      · right; right; intro i hi
        by_cases e : i = k
        · rw [e]; exact c
        · exact h i (by omega)
      · right; left; exact ⟨k, by omega, c, fun j hj => (h j hj).symm⟩
theorem Pk_ge {N k : Nat} {p : Nat → Nat} (h : Pk N k p) {i : Nat} : ∀ d, i + d < k → p i + d ≤ p (i + d) := by
  intro d
  induction d with
  | zero => intro _; exact Nat.le_refl _
  | succ d ih =>
    intro hd
    have h1 := ih (by omega)
    have h2 := h.2 (i + d) (i + (d + 1)) (by omega) hd
    omega
theorem Pk_max {N k : Nat} {p : Nat → Nat} (h : Pk N k p) {i : Nat} (hi : i < k) : p i + (k - i) ≤ N := by
  have h1 := Pk_ge h (i := i) (k - 1 - i) (by omega)
  have h2 := h.1 (i + (k - 1 - i)) (by omega)
  omega
def nxp (p : Nat → Nat) (i j : Nat) : Nat := if j < i then p j else p i + 1 + (j - i)
theorem nx_pk {N k : Nat} {p : Nat → Nat} (h : Pk N k p) {i : Nat} (hi : i < k) (hl : p i + (k - i) < N) : Pk N k (nxp p i) := by
  unfold nxp
  refine ⟨?_, ?_⟩
  · intro j hj
    dsimp only
    by_cases c : j < i
    · rw [if_pos c]; exact h.1 j hj
    · rw [if_neg c]; omega
  · intro a b hab hb
    dsimp only
    by_cases ca : a < i
    · rw [if_pos ca]
      by_cases cb : b < i
      · rw [if_pos cb]; exact h.2 a b hab hb
      · rw [if_neg cb]
        have := h.2 a i ca hi
        omega
    · rw [if_neg ca, if_neg (by omega)]; omega
theorem nx_lx {k : Nat} {p : Nat → Nat} {i : Nat} (hi : i < k) : lx k p (nxp p i) := by
  refine ⟨i, hi, ?_, ?_⟩
  · unfold nxp; rw [if_neg (by omega)]; omega
  · intro j hj; unfold nxp; rw [if_pos hj]
theorem nx_least {N k : Nat} {p r : Nat → Nat} (hr : Pk N k r) {i : Nat} (hm : ∀ j, i < j → j < k → p j + (k - j) = N) (h : lx k p r) : ¬ lx k r (nxp p i) := by
  obtain ⟨d, hd, h1, h2⟩ := h
  rintro ⟨e, he, h3, h4⟩
  have hdi : d ≤ i := by
    by_cases c : d ≤ i
    · exact c
    · have := hm d (by omega) hd
      have := Pk_max hr hd
      omega
  rcases Nat.lt_trichotomy d i with c | c | c
  · rcases Nat.lt_trichotomy e d with c2 | c2 | c2
    · have : nxp p i e = p e := by unfold nxp; rw [if_pos (by omega)]
      rw [this, h2 e c2] at h3; omega
    · have : nxp p i e = p e := by unfold nxp; rw [if_pos (by omega)]
      rw [this, c2] at h3; omega
    · have := h4 d c2
      have h5 : nxp p i d = p d := by unfold nxp; rw [if_pos (by omega)]
      rw [h5] at this; omega
  · subst c
    have hge : r d ≥ p d + 1 := by omega
    by_cases c2 : e < d
    · have : nxp p d e = p e := by unfold nxp; rw [if_pos (by omega)]
      rw [this, h2 e c2] at h3; omega
    · have h5 : nxp p d e = p d + 1 + (e - d) := by unfold nxp; rw [if_neg (by omega)]
      have h6 := Pk_ge hr (i := d) (e - d) (by omega)
      rw [show d + (e - d) = e from by omega] at h6
      omega
  · omega
theorem no_next {N k : Nat} {p r : Nat → Nat} (hr : Pk N k r) (hm : ∀ j, j < k → p j + (k - j) = N) : ¬ lx k p r := by
  rintro ⟨d, hd, h1, _⟩
  have := hm d hd
  have := Pk_max hr hd
  omega
theorem fp_least {N k : Nat} {r : Nat → Nat} (hr : Pk N k r) : ¬ lx k r (fun i => i) := by
  rintro ⟨d, hd, h1, _⟩
  have h2 := Pk_ge hr (i := 0) d (by omega)
  rw [Nat.zero_add] at h2
  dsimp only at h1
  omega
theorem fp_pk {N k : Nat} (h : k ≤ N) : Pk N k (fun i => i) := ⟨fun i hi => by dsimp only; omega, fun i j hij _ => hij⟩
/-- the least row with G -/
def LL (N k : Nat) (G : (Nat → Nat) → Prop) (p : Nat → Nat) : Prop := Pk N k p ∧ G p ∧ ∀ r, Pk N k r → G r → ¬ lx k r p
theorem LL_uniq {N k : Nat} {G : (Nat → Nat) → Prop} {p q : Nat → Nat} (hp : LL N k G p) (hq : LL N k G q) : ∀ i, i < k → p i = q i := by
  rcases lx_tri k p q with h | h | h
  · exact absurd h (hq.2.2 p hp.1 hp.2.1)
  · exact absurd h (hp.2.2 q hq.1 hq.2.1)
  · exact h
/-- in it -/
def sub (x y : Int32) : Bool := decide (x &&& (y ^^^ -1) = 0)
theorem m1_bt {k : Nat} (hk : k < 32) : bt (-1) k = true := by
  rw [show (-1 : Int32) = ~~~(0 : Int32) from rfl, bt_not hk, bt_zero]; rfl
theorem sub_iff {x y : Int32} : sub x y = true ↔ ∀ k, k < 32 → bt x k = true → bt y k = true := by
  unfold sub
  rw [decide_eq_true_eq, bt_0]
  constructor
  · intro h k hk hx
    have := h k hk
    rw [bt_and, bt_xor, m1_bt hk, hx] at this
    cases e : bt y k with
    | true => rfl
    | false => rw [e] at this; cases this
  · intro h k hk
    rw [bt_and, bt_xor, m1_bt hk]
    cases e : bt x k with
    | false => rfl
    | true => rw [h k hk e]; rfl
theorem sub_refl (x : Int32) : sub x x = true := sub_iff.mpr fun _ _ h => h
theorem sub_0 (y : Int32) : sub 0 y = true := sub_iff.mpr fun k _ h => by rw [bt_zero] at h; cases h
/-- a row of sets that holds all and leads into itself -/
def cvb (n m : Nat) (w : aT) (k : Nat) (f : Nat → Int32) : Bool := al k (fun i => al m (fun x => ex k (fun j => sub (ld n w (f i) x) (f j))))
theorem cvb_congr {n m k : Nat} {w : aT} {f g : Nat → Int32} (h : ∀ i, i < k → f i = g i) : cvb n m w k f = cvb n m w k g := by
  have e : ∀ i, i < k → ∀ x, ex k (fun j => sub (ld n w (f i) x) (f j)) = ex k (fun j => sub (ld n w (g i) x) (g j)) := by
    intro i hi x
    rw [h i hi]
    exact ex_congr fun j hj => by rw [h j hj]
  cases e1 : cvb n m w k f with
  | true =>
    symm
    unfold cvb at e1 ⊢
    rw [al_iff] at e1 ⊢
    intro i hi
    have := e1 i hi
    rw [al_iff] at this ⊢
    intro x hx
    rw [← e i hi x]; exact this x hx
  | false =>
    cases e2 : cvb n m w k g with
    | false => rfl
    | true =>
      exfalso
      unfold cvb at e1 e2
      have : al k (fun i => al m (fun x => ex k (fun j => sub (ld n w (f i) x) (f j)))) = true := by
        rw [al_iff] at e2 ⊢
        intro i hi
        have := e2 i hi
        rw [al_iff] at this ⊢
        intro x hx
        rw [e i hi x]; exact this x hx
      rw [this] at e1; cases e1
def cst (C : List Nat) (p : Nat → Nat) (i : Nat) : Int32 := nt (C.getD (p i) 0)
def cvr (n m : Nat) (w : aT) (C : List Nat) (k : Nat) (p : Nat → Nat) : Prop := orf k (cst C p) = nt (2 ^ n - 1) ∧ cvb n m w k (cst C p) = true
theorem cvr_congr {n m k : Nat} {w : aT} {C : List Nat} {p q : Nat → Nat} (h : ∀ i, i < k → p i = q i) (hp : cvr n m w C k p) : cvr n m w C k q := by
  have e : ∀ i, i < k → cst C q i = cst C p i := fun i hi => by unfold cst; rw [h i hi]
  exact ⟨by rw [orf_congr e]; exact hp.1, by rw [cvb_congr e]; exact hp.2⟩
/-- the fewest, the least row of them -/
def Fw (n m : Nat) (w : aT) (k : Nat) (p : Nat → Nat) : Prop := LL (cls n m w).length k (cvr n m w (cls n m w) k) p ∧ ∀ k', k' < k → ∀ r, Pk (cls n m w).length k' r → ¬ cvr n m w (cls n m w) k' r
theorem Fw_uniq {n m k k' : Nat} {w : aT} {p p' : Nat → Nat} (h : Fw n m w k p) (h' : Fw n m w k' p') : k = k' ∧ ∀ i, i < k → p i = p' i := by
  have : k = k' := by
    rcases Nat.lt_trichotomy k k' with c | c | c
    · exact absurd h.1.2.1 (h'.2 k c p h.1.1)
    · exact c
    · exact absurd h'.1.2.1 (h.2 k' c p' h'.1.1)
  subst this
  exact ⟨rfl, LL_uniq h.1 h'.1⟩
/-! sets of one state are a cover -/
theorem fl_at {p : Nat → Bool} {S K : Nat} (hp : p S = true) (hS : S < K) : (fl p K)[(fl p S).length]? = some S := by
  induction K with
  | zero => omega
  | succ K ih =>
    by_cases e : S = K
    · subst e
      rw [fl_t hp, List.getElem?_append_right (Nat.le_refl _)]
      simp
    · have h1 := ih (by omega)
      cases e2 : p K with
      | false => rw [fl_f e2]; exact h1
      | true =>
        rw [fl_t e2, List.getElem?_append_left]
        · exact h1
        · rw [List.getElem?_eq_some_iff] at h1
          exact h1.1
theorem fl_mono {p : Nat → Bool} {S T : Nat} (hp : p S = true) (h : S < T) : (fl p S).length < (fl p T).length := by
  have := fl_at hp h
  rw [List.getElem?_eq_some_iff] at this
  exact this.1
theorem nt2_bt {s k : Nat} (hs : s < 32) (hk : k < 32) : bt (nt (2 ^ s)) k = decide (k = s) := by
  rw [bt_nt, decide_eq_true hk, Bool.true_and, Nat.testBit_two_pow]
  by_cases e : s = k
  · rw [decide_eq_true e, decide_eq_true e.symm]
  · rw [decide_eq_false e, decide_eq_false (fun h => e h.symm)]
theorem pc_one {n s : Nat} {R : Nat → Nat → Option Nat} (hn : n ≤ 6) (hs : s < n) : pc n R (2 ^ s) = true := by
  unfold pc
  rw [decide_eq_true (pow_pos2 s), Bool.true_and]
  unfold alk
  rw [al_iff]
  intro a ha
  rw [al_iff]
  intro b hb
  rw [nt2_bt (by omega) (by omega), nt2_bt (by omega) (by omega)]
  by_cases c : a = s
  · rw [decide_eq_false (show ¬ b = s from by omega), Bool.and_false]; rfl
  · rw [decide_eq_false c]; rfl
theorem ones_all : ∀ n, n < 7 → orf n (fun i => nt (2 ^ i)) = nt (2 ^ n - 1) := by decide
theorem ld_one {n m : Nat} {w : aT} (hn : n ≤ 6) (V : Vd n m w) {s : Nat} (hs : s < n) (x : Nat) : ld n w (nt (2 ^ s)) x = lm (w.1 s x) := by
  apply bt_ext
  intro k hk
  unfold ld
  rw [orf_bt]
  cases e : bt (lm (w.1 s x)) k with
  | true =>
    refine ex_iff.mpr ⟨s, hs, ?_⟩
    rw [nt2_bt (by omega) (by omega), decide_eq_true rfl, if_pos rfl, e]
  | false =>
    refine ex_false.mpr ?_
    intro i hi
    rw [nt2_bt (by omega) (by omega)]
    by_cases c : i = s
    · rw [decide_eq_true c, if_pos rfl, c, e]
    · rw [decide_eq_false c, if_neg (by decide), bt_zero]
def sgl (n m : Nat) (w : aT) (s : Nat) : Nat := (fl (pc n (rd m w)) (2 ^ s)).length
theorem sgl_at {n m : Nat} {w : aT} (hn : n ≤ 6) {s : Nat} (hs : s < n) : (cls n m w)[sgl n m w s]? = some (2 ^ s) := fl_at (pc_one hn hs) (Nat.pow_lt_pow_right (by omega) hs)
theorem sgl_cst {n m : Nat} {w : aT} (hn : n ≤ 6) {s : Nat} (hs : s < n) : cst (cls n m w) (sgl n m w) s = nt (2 ^ s) := by
  unfold cst
  rw [List.getD_eq_getElem?_getD, sgl_at hn hs]; rfl
theorem sgl_pk {n m : Nat} {w : aT} (hn : n ≤ 6) : Pk (cls n m w).length n (sgl n m w) := by
  refine ⟨?_, ?_⟩
  · intro i hi
    have := sgl_at (m := m) (w := w) hn hi
    rw [List.getElem?_eq_some_iff] at this
    exact this.1
  · intro i j hij hj
    exact fl_mono (pc_one hn (by omega)) (Nat.pow_lt_pow_right (by omega) hij)
theorem sgl_cvr {n m : Nat} {w : aT} (hn : n ≤ 6) (V : Vd n m w) : cvr n m w (cls n m w) n (sgl n m w) := by
  have e : ∀ i, i < n → cst (cls n m w) (sgl n m w) i = nt (2 ^ i) := fun i hi => sgl_cst hn hi
  refine ⟨?_, ?_⟩
  · rw [orf_congr e]; exact ones_all n (by omega)
  · rw [cvb_congr e]
    unfold cvb
    rw [al_iff]
    intro i hi
    rw [al_iff]
    intro x hx
    rw [ld_one hn V hi]
    cases et : w.1 i x with
    | none => exact ex_iff.mpr ⟨i, hi, sub_0 _⟩
    | some t =>
      have ht := (V.1 i x t et).2.2
      refine ex_iff.mpr ⟨t, ht, ?_⟩
      show sub (1 <<< nt t) (nt (2 ^ t)) = true
      rw [shl_nt t (by omega)]
      exact sub_refl _
