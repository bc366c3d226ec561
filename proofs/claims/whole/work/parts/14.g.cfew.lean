/-! the class's fewest -/
theorem isInChosen_ok {k : Nat} {I : xI} {J : xJ} {C : List Nat} {p : Nat → Nat} (hk : k ≤ 6) (hC : C.length ≤ 63) (hL : Ls C (I 38)) (hp : ∀ j, j < k → p j < C.length) (h41 : ∀ j, j < k → I 41 j = nt (p j)) (x : Int32) : f_X1_isInChosen x (nt k) I J = some (bi (ex k (fun j => sub x (cst C p j))), I, J) := by
  apply Ok.eq
  unfold f_X1_isInChosen f_X1_isInChosen_0 f_X1_isInChosen_1
  refine ok_loop (fun i s => s = (x, nt k, nt i, I, J) ∧ ex i (fun j => sub x (cst C p j)) = false) k ?_ ?_ 5000 0 _ (by omega) (by omega) ⟨rfl, rfl⟩
  · rintro i hi s ⟨rfl, hg⟩
    have hb := hp i hi
    have e : I 38 (p i) = cst C p i := getD_Ls hL hb
    simp (disch := omega) only [b_X1_isInChosen_1, f_X1_isInChosen_2, f_X1_isInChosen_4, nt_clamp, nt_le, nt_lt, nt_eq, lit_le, lit_lt, le_lit, lt_lit, eq_lit, lit_eq, nt_neg, nt_ge, nt_add, nt_mul, nt_addl, lit_add, nt_mull, lit_mul, nt_sub, nt_subl, lit_sub, nt_divl, nt_m1, nt_m2, nt_m1', nt_m2', false_or, if_neg, h41 i hi, e, sub_def]
    cases es : sub x (cst C p i) with
    | true =>
      simp only [if_true, f_X1_isInChosen_3, Option.map_some]
      refine ok_some ?_
      rw [ex_iff.mpr ⟨i, hi, es⟩]; rfl
    | false =>
      simp only [Bool.false_eq_true, if_false]
      refine ok_some ⟨rfl, ?_⟩
      rw [ex, hg, es]; rfl
  · rintro s ⟨rfl, hg⟩
    simp (disch := omega) only [b_X1_isInChosen_1, f_X1_isInChosen_5, nt_clamp, nt_le, nt_lt, nt_eq, lit_le, lit_lt, le_lit, lt_lit, eq_lit, lit_eq, nt_neg, nt_ge, nt_add, nt_mul, nt_addl, lit_add, nt_mull, lit_mul, nt_sub, nt_subl, lit_sub, nt_divl, nt_m1, nt_m2, nt_m1', nt_m2', if_true, if_false, if_pos, if_neg, e01, e10, em12, em21, e0m1, e0m2, e1m1, e1m2, em10, em20, Int32.reduceLT, Int32.reduceLE, eq_self, Option.bind_some, Option.map_some, false_or, or_false, or_self, true_or, or_true, not_true_eq_false, not_false_eq_true, false_and, and_false, true_and, and_true]
    refine ok_some ?_
    rw [hg]; rfl
theorem isClosed_ok {n m k : Nat} {w : aT} {I : xI} {J : xJ} {C : List Nat} {p : Nat → Nat} (hk : k ≤ 6) (hm : m ≤ 4) (h1 : I 1 1 = nt m) (hC : C.length ≤ 63) (hL : Ls C (I 38)) (h40 : ∀ i S x, C[i]? = some S → x < m → I 40 (i * 4 + x) = ld n w (nt S) x) (hp : ∀ j, j < k → p j < C.length) (h41 : ∀ j, j < k → I 41 j = nt (p j)) : f_X1_isClosed (nt k) I J = some (bi (cvb n m w k (cst C p)), I, J) := by
  apply Ok.eq
  unfold f_X1_isClosed f_X1_isClosed_0 f_X1_isClosed_1
  refine ok_loop (fun i s => (∃ z3 z4, s = (nt k, nt i, z3, z4, I, J)) ∧ al i (fun i => al m (fun x => ex k (fun j => sub (ld n w (cst C p i) x) (cst C p j)))) = true) k ?_ ?_ 5000 0 _ (by omega) (by omega) ⟨⟨none, none, rfl⟩, rfl⟩
  · rintro i hi s ⟨⟨z3, z4, rfl⟩, hg⟩
    have hb := hp i hi
    simp (disch := omega) only [b_X1_isClosed_1, f_X1_isClosed_2, nt_clamp, nt_le, nt_lt, nt_eq, lit_le, lit_lt, le_lit, lt_lit, eq_lit, lit_eq, nt_neg, nt_ge, nt_add, nt_mul, nt_addl, lit_add, nt_mull, lit_mul, nt_sub, nt_subl, lit_sub, nt_divl, nt_m1, nt_m2, nt_m1', nt_m2', if_true, if_false, if_pos, if_neg, e01, e10, em12, em21, e0m1, e0m2, e1m1, e1m2, em10, em20, Int32.reduceLT, Int32.reduceLE, eq_self, Option.bind_some, Option.map_some, false_or, or_false, or_self, true_or, or_true, not_true_eq_false, not_false_eq_true, false_and, and_false, true_and, and_true]
    unfold f_X1_isClosed_3
    refine ok_loop (fun x s => (∃ z4, s = (nt k, nt i, nt x, z4, I, J)) ∧ al x (fun x => ex k (fun j => sub (ld n w (cst C p i) x) (cst C p j))) = true) m ?_ ?_ 5000 0 _ (by omega) (by omega) ⟨⟨z4, rfl⟩, rfl⟩
    · rintro x hx s ⟨⟨z4, rfl⟩, hg2⟩
      have eC : C[p i]? = some (C.getD (p i) 0) := by
        rw [List.getElem?_eq_getElem hb, getD_of (List.getElem?_eq_getElem hb)]
      have e40 : I 40 (p i * 4 + x) = ld n w (cst C p i) x := h40 (p i) _ x eC hx
      simp (disch := omega) only [b_X1_isClosed_3, f_X1_isClosed_4, f_X1_isClosed_5, f_X1_isClosed_6, f_X1_isClosed_8, h1, h41 i hi, nt_clamp, nt_le, nt_lt, nt_eq, lit_le, lit_lt, le_lit, lt_lit, eq_lit, lit_eq, nt_neg, nt_ge, nt_add, nt_mul, nt_addl, lit_add, nt_mull, lit_mul, nt_sub, nt_subl, lit_sub, nt_divl, nt_m1, nt_m2, nt_m1', nt_m2', false_or, if_neg, e40, isInChosen_ok hk hC hL hp h41, Option.bind_some, bi_0]
      by_cases c0 : ld n w (cst C p i) x = 0
      · rw [if_pos c0]
        refine ok_some ⟨⟨_, rfl⟩, ?_⟩
        rw [al, hg2, c0, ex_iff.mpr ⟨i, hi, sub_0 _⟩]; rfl
      · rw [if_neg c0]
        cases e : ex k (fun j => sub (ld n w (cst C p i) x) (cst C p j)) with
        | true =>
          rw [if_neg (by decide)]
          refine ok_some ⟨⟨_, rfl⟩, ?_⟩
          rw [al, hg2, e]; rfl
        | false =>
          rw [if_pos rfl]
          simp only [f_X1_isClosed_7, Option.map_some]
          refine ok_some ?_
          have : cvb n m w k (cst C p) = false := al_false hi (al_false hx e)
          rw [this]; rfl
    · rintro s ⟨⟨z4, rfl⟩, hg2⟩
      simp (disch := omega) only [b_X1_isClosed_3, f_X1_isClosed_9, h1, nt_clamp, nt_le, nt_lt, nt_eq, lit_le, lit_lt, le_lit, lt_lit, eq_lit, lit_eq, nt_neg, nt_ge, nt_add, nt_mul, nt_addl, lit_add, nt_mull, lit_mul, nt_sub, nt_subl, lit_sub, nt_divl, nt_m1, nt_m2, nt_m1', nt_m2', if_true, if_false, if_pos, if_neg, e01, e10, em12, em21, e0m1, e0m2, e1m1, e1m2, em10, em20, Int32.reduceLT, Int32.reduceLE, eq_self, Option.bind_some, Option.map_some, false_or, or_false, or_self, true_or, or_true, not_true_eq_false, not_false_eq_true, false_and, and_false, true_and, and_true]
      refine ok_some ⟨⟨_, _, rfl⟩, ?_⟩
      rw [al, hg, hg2]; rfl
  · rintro s ⟨⟨z3, z4, rfl⟩, hg⟩
    simp (disch := omega) only [b_X1_isClosed_1, f_X1_isClosed_10, nt_clamp, nt_le, nt_lt, nt_eq, lit_le, lit_lt, le_lit, lt_lit, eq_lit, lit_eq, nt_neg, nt_ge, nt_add, nt_mul, nt_addl, lit_add, nt_mull, lit_mul, nt_sub, nt_subl, lit_sub, nt_divl, nt_m1, nt_m2, nt_m1', nt_m2', if_true, if_false, if_pos, if_neg, e01, e10, em12, em21, e0m1, e0m2, e1m1, e1m2, em10, em20, Int32.reduceLT, Int32.reduceLE, eq_self, Option.bind_some, Option.map_some, false_or, or_false, or_self, true_or, or_true, not_true_eq_false, not_false_eq_true, false_and, and_false, true_and, and_true]
    refine ok_some ?_
    rw [show cvb n m w k (cst C p) = true from hg]; rfl
theorem sub_eq {x y : Int32} (h1 : sub x y = true) (h2 : sub y x = true) : x = y := by
  apply bt_ext
  intro k hk
  have a := sub_iff.mp h1 k hk
  have b := sub_iff.mp h2 k hk
  cases e1 : bt x k with
  | true => exact (a e1).symm
  | false =>
    cases e2 : bt y k with
    | false => rfl
    | true => rw [b e2] at e1; cases e1
theorem all_bt {n k : Nat} (hn : n ≤ 6) (hk : k < 32) : bt (nt (2 ^ n - 1)) k = decide (k < n) := by
  rw [bt_nt, decide_eq_true hk, Bool.true_and, Nat.testBit_two_pow_sub_one]
theorem set_bt {S n k : Nat} (hS : S < 2 ^ n) (h : bt (nt S) k = true) : k < n := by
  rw [bt_nt, Bool.and_eq_true] at h
  rcases Nat.lt_or_ge k n with c | c
  · exact c
  · have : S < 2 ^ k := Nat.lt_of_lt_of_le hS (Nat.pow_le_pow_right (by omega) c)
    rw [Nat.testBit_lt_two_pow this] at h
    exact absurd h.2 (by decide)
theorem low_nt {x : Int32} (h : ∀ k, k < 32 → 6 ≤ k → bt x k = false) : bcf x = nt (cn 6 (fun i => bt x i)) := by
  have e : x = nt x.toBitVec.toNat := by
    show x = Int32.ofNat x.toBitVec.toNat
    rw [Int32.ofNat_bitVecToNat]; rfl
  have tb : ∀ k, (x.toBitVec.toNat).testBit k = bt x k := fun k => rfl
  have hlt : x.toBitVec.toNat < 2 ^ 6 := by
    apply Nat.lt_pow_two_of_testBit
    intro k hk
    rw [tb]
    rcases Nat.lt_or_ge k 32 with c | c
    · exact h k c hk
    · exact bt_hi c
  have := bcf_64 x.toBitVec.toNat hlt
  rw [← e] at this
  rw [this]
  rfl
theorem cn_or {n : Nat} {p q : Nat → Bool} : cn n (fun i => p i || q i) ≤ cn n p + cn n q := by
  induction n with
  | zero => exact Nat.le_refl _
  | succ n ih =>
    unfold cn
    cases e1 : p n <;> cases e2 : q n <;> simp <;> omega
theorem cn_ex {n l W : Nat} {f : Nat → Nat → Bool} (h : ∀ j, j < l → cn n (f j) ≤ W) : cn n (fun b => ex l (fun j => f j b)) ≤ l * W := by
  induction l with
  | zero =>
    have : ∀ n, cn n (fun b => ex 0 (fun j => f j b)) = 0 := by
      intro n
      induction n with
      | zero => rfl
      | succ n ih => unfold cn; rw [ih]; rfl
    rw [this]; omega
  | succ l ih =>
    have h1 := ih (fun j hj => h j (by omega))
    have h2 := h l (by omega)
    have h3 : cn n (fun b => ex (l + 1) (fun j => f j b)) ≤ cn n (fun b => ex l (fun j => f j b)) + cn n (f l) := cn_or
    have h4 : (l + 1) * W = l * W + W := Nat.succ_mul l W
    omega
theorem pcn_bt (S : Nat) : cn 6 (fun i => bt (nt S) i) = pcn S := by
  unfold pcn
  have : ∀ n, n ≤ 32 → cn n (fun i => bt (nt S) i) = cn n (fun i => S.testBit i) := by
    intro n
    induction n with
    | zero => intro _; rfl
    | succ n ih =>
      intro hn
      unfold cn
      rw [ih (by omega), bt_nt, decide_eq_true (show n < 32 from by omega), Bool.true_and]
  exact this 6 (by omega)
theorem neg_lt {x : Int32} {i : Nat} (h : x < 0) (hi : i < 2147483648) : x < nt i := by
  rw [Int32.lt_iff_toInt_lt] at h ⊢
  rw [nt_int hi]
  have : (0 : Int32).toInt = 0 := rfl
  omega
theorem small_neg : ∀ a, a < 7 → ∀ b, b < 7 → a < b → nt a - nt b < 0 := by decide
/-- rows behind the ones that are chosen -/
def Ext (N k d fr : Nat) (p q : Nat → Nat) : Prop := Pk N k q ∧ (∀ j, j < d → q j = p j) ∧ (d < k → fr ≤ q d)
theorem miss_bt {n : Nat} (hn : n ≤ 6) (H : Int32) {k : Nat} (hk : k < 32) : bt (nt (2 ^ n - 1) &&& (H ^^^ -1)) k = (decide (k < n) && !bt H k) := by
  rw [bt_and, bt_xor, m1_bt hk, all_bt hn hk]
  cases bt H k <;> rfl
theorem prune_ok {n m k d W : Nat} {w : aT} {p q : Nat → Nat} (hn : n ≤ 6) (hW : ∀ S, S ∈ cls n m w → pcn S ≤ W) (hd : d ≤ k) (hq : Pk (cls n m w).length k q) (hpq : ∀ j, j < d → q j = p j) (hc : cvr n m w (cls n m w) k q) : cn 6 (fun i => bt (nt (2 ^ n - 1) &&& (orf d (cst (cls n m w) p) ^^^ -1)) i) ≤ (k - d) * W := by
  have h1 : cn 6 (fun i => bt (nt (2 ^ n - 1) &&& (orf d (cst (cls n m w) p) ^^^ -1)) i) ≤ cn 6 (fun b => ex (k - d) (fun j => bt (cst (cls n m w) q (d + j)) b)) := by
    apply cn_mono
    intro b hb hbt
    rw [miss_bt hn _ (by omega), Bool.and_eq_true, orf_bt] at hbt
    have hbn := of_decide_eq_true hbt.1
    have hcov := hc.1
    have hb2 : bt (orf k (cst (cls n m w) q)) b = true := by rw [hcov, all_bt hn (by omega), decide_eq_true hbn]
    rw [orf_bt] at hb2
    obtain ⟨j, hj, hjb⟩ := ex_iff.mp hb2
    rcases Nat.lt_or_ge j d with c | c
    · exfalso
      have : ex d (fun i => bt (cst (cls n m w) p i) b) = true := by
        refine ex_iff.mpr ⟨j, c, ?_⟩
        have : cst (cls n m w) p j = cst (cls n m w) q j := by unfold cst; rw [hpq j c]
        rw [this]; exact hjb
      rw [this] at hbt
      exact absurd hbt.2 (by decide)
    · refine ex_iff.mpr ⟨j - d, by omega, ?_⟩
      rw [show d + (j - d) = j from by omega]; exact hjb
  refine Nat.le_trans h1 (cn_ex ?_)
  intro j hj
  have hlt := hq.1 (d + j) (by omega)
  show cn 6 (fun b => bt (nt ((cls n m w).getD (q (d + j)) 0)) b) ≤ W
  rw [pcn_bt]
  apply hW
  rw [getD_of (List.getElem?_eq_getElem hlt)]
  exact List.getElem_mem hlt
