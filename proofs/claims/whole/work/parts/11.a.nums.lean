/-! small numbers, bits -/
def nt (k : Nat) : Int32 := Int32.ofNat k
theorem nt_clamp {k : Nat} (h : k < 2147483648) : (nt k).toNatClampNeg = k := Int32.toNatClampNeg_ofNat_of_lt h
theorem nt_int {k : Nat} (h : k < 2147483648) : (nt k).toInt = (k : Int) := Int32.toInt_ofNat_of_lt h
theorem nt_le {a b : Nat} (ha : a < 2147483648) (hb : b < 2147483648) : (nt a ≤ nt b) = (a ≤ b) := propext (Int32.ofNat_le_iff_le ha hb)
theorem nt_lt {a b : Nat} (ha : a < 2147483648) (hb : b < 2147483648) : (nt a < nt b) = (a < b) := propext (Int32.ofNat_lt_iff_lt ha hb)
theorem nt_inj {a b : Nat} (ha : a < 2147483648) (hb : b < 2147483648) (h : nt a = nt b) : a = b := by
  have := congrArg Int32.toNatClampNeg h
  rwa [nt_clamp ha, nt_clamp hb] at this
theorem nt_eq {a b : Nat} (ha : a < 2147483648) (hb : b < 2147483648) : (nt a = nt b) = (a = b) := propext ⟨nt_inj ha hb, fun h => by rw [h]⟩
theorem nt_lit (c : Nat) : (OfNat.ofNat c : Int32) = nt c := rfl
theorem lit_le {c k : Nat} (hc : (OfNat.ofNat c : Nat) < 2147483648) (hk : k < 2147483648) : ((no_index (OfNat.ofNat c) : Int32) ≤ nt k) = ((OfNat.ofNat c : Nat) ≤ k) := nt_le hc hk
theorem lit_lt {c k : Nat} (hc : (OfNat.ofNat c : Nat) < 2147483648) (hk : k < 2147483648) : ((no_index (OfNat.ofNat c) : Int32) < nt k) = ((OfNat.ofNat c : Nat) < k) := nt_lt hc hk
theorem le_lit {c k : Nat} (hc : (OfNat.ofNat c : Nat) < 2147483648) (hk : k < 2147483648) : (nt k ≤ (no_index (OfNat.ofNat c) : Int32)) = (k ≤ (OfNat.ofNat c : Nat)) := nt_le hk hc
theorem lt_lit {c k : Nat} (hc : (OfNat.ofNat c : Nat) < 2147483648) (hk : k < 2147483648) : (nt k < (no_index (OfNat.ofNat c) : Int32)) = (k < (OfNat.ofNat c : Nat)) := nt_lt hk hc
theorem eq_lit {c k : Nat} (hc : (OfNat.ofNat c : Nat) < 2147483648) (hk : k < 2147483648) : (nt k = (no_index (OfNat.ofNat c) : Int32)) = (k = (OfNat.ofNat c : Nat)) := nt_eq hk hc
theorem lit_eq {c k : Nat} (hc : (OfNat.ofNat c : Nat) < 2147483648) (hk : k < 2147483648) : ((no_index (OfNat.ofNat c) : Int32) = nt k) = ((OfNat.ofNat c : Nat) = k) := nt_eq hc hk
theorem nt_neg {k : Nat} (hk : k < 2147483648) : (nt k < 0) = False := by
  rw [show (0 : Int32) = nt 0 from rfl, nt_lt hk (by omega)]
  exact eq_false (Nat.not_lt_zero k)
theorem nt_ge {k : Nat} (hk : k < 2147483648) : (0 ≤ nt k) = True := by
  rw [show (0 : Int32) = nt 0 from rfl, nt_le (by omega) hk]
  exact eq_true (Nat.zero_le k)
theorem nt_add (a b : Nat) : nt a + nt b = nt (a + b) := (Int32.ofNat_add a b).symm
theorem nt_mul (a b : Nat) : nt a * nt b = nt (a * b) := (Int32.ofNat_mul a b).symm
theorem nt_sub {a b : Nat} (h : b ≤ a) : nt a - nt b = nt (a - b) := (Int32.ofNat_sub a b h).symm
theorem nt_addl (a c : Nat) : nt a + (no_index (OfNat.ofNat c) : Int32) = nt (a + (OfNat.ofNat c : Nat)) := nt_add a c
theorem lit_add (a c : Nat) : (no_index (OfNat.ofNat c) : Int32) + nt a = nt ((OfNat.ofNat c : Nat) + a) := nt_add c a
theorem nt_mull (a c : Nat) : nt a * (no_index (OfNat.ofNat c) : Int32) = nt (a * (OfNat.ofNat c : Nat)) := nt_mul a c
theorem lit_mul (a c : Nat) : (no_index (OfNat.ofNat c) : Int32) * nt a = nt ((OfNat.ofNat c : Nat) * a) := nt_mul c a
theorem nt_subl {a c : Nat} (h : (OfNat.ofNat c : Nat) ≤ a) : nt a - (no_index (OfNat.ofNat c) : Int32) = nt (a - (OfNat.ofNat c : Nat)) := nt_sub h
theorem lit_sub {a c : Nat} (h : a ≤ (OfNat.ofNat c : Nat)) : (no_index (OfNat.ofNat c) : Int32) - nt a = nt ((OfNat.ofNat c : Nat) - a) := nt_sub h
theorem nt_mod {a b : Nat} (ha : a < 2147483648) (hb : b < 2147483648) : nt a % nt b = nt (a % b) := (Int32.ofNat_mod ha hb).symm
theorem nt_div {a b : Nat} (ha : a < 2147483648) (hb : b < 2147483648) : nt a / nt b = nt (a / b) := (Int32.ofNat_div ha hb).symm
theorem nt_modl {a c : Nat} (ha : a < 2147483648) (hc : (OfNat.ofNat c : Nat) < 2147483648) : nt a % (no_index (OfNat.ofNat c) : Int32) = nt (a % (OfNat.ofNat c : Nat)) := nt_mod ha hc
theorem nt_divl {a c : Nat} (ha : a < 2147483648) (hc : (OfNat.ofNat c : Nat) < 2147483648) : nt a / (no_index (OfNat.ofNat c) : Int32) = nt (a / (OfNat.ofNat c : Nat)) := nt_div ha hc
theorem nt_m1 {k : Nat} (hk : k < 2147483648) : (nt k = -1) = False := by
  apply eq_false
  intro h
  have h2 : ¬ (nt k < 0) := by rw [nt_neg hk]; exact id
  rw [h] at h2
  exact h2 (by decide)
theorem nt_m2 {k : Nat} (hk : k < 2147483648) : (nt k = -2) = False := by
  apply eq_false
  intro h
  have h2 : ¬ (nt k < 0) := by rw [nt_neg hk]; exact id
  rw [h] at h2
  exact h2 (by decide)
theorem nt_m1' {k : Nat} (hk : k < 2147483648) : (-1 = nt k) = False := by
  rw [eq_comm (a := (-1 : Int32)), nt_m1 hk]
theorem nt_m2' {k : Nat} (hk : k < 2147483648) : (-2 = nt k) = False := by
  rw [eq_comm (a := (-2 : Int32)), nt_m2 hk]
/-- a number is below nothing, or small -/
theorem nt_all (x : Int32) : x < 0 ∨ ∃ k, k < 2147483648 ∧ x = nt k := by
  by_cases h : x < 0
  · exact Or.inl h
  · right
    have h0 : (0 : Int32) ≤ x := by
      rw [Int32.le_iff_toInt_le]
      rw [Int32.lt_iff_toInt_lt] at h
      omega
    exact ⟨x.toNatClampNeg, Int32.toNatClampNeg_lt x, (Int32.ofNat_toNatClampNeg x h0).symm⟩
/-- an answer that may be left open -/
def ov (o : Option Nat) : Int32 := match o with
  | none => -2
  | some k => nt k
def bi (b : Bool) : Int32 := bif b then 1 else 0
theorem bi_1 (b : Bool) : (bi b = 1) = (b = true) := by cases b <;> simp [bi]
theorem bi_0 (b : Bool) : (bi b = 0) = (b = false) := by cases b <;> simp [bi]
theorem bi_ok (b : Bool) : (bi b = 0 ∨ bi b = 1) = True := by cases b <;> simp [bi]
def bt (x : Int32) (k : Nat) : Bool := x.toBitVec.getLsbD k
theorem bt_hi {x : Int32} {k : Nat} (h : 32 ≤ k) : bt x k = false := BitVec.getLsbD_of_ge _ _ h
theorem bt_ext {x y : Int32} (h : ∀ k, k < 32 → bt x k = bt y k) : x = y := Int32.toBitVec_inj.1 (BitVec.eq_of_getLsbD_eq h)
theorem bt_or (x y : Int32) (k : Nat) : bt (x ||| y) k = (bt x k || bt y k) := by
  unfold bt; rw [Int32.toBitVec_or, BitVec.getLsbD_or]
theorem bt_and (x y : Int32) (k : Nat) : bt (x &&& y) k = (bt x k && bt y k) := by
  unfold bt; rw [Int32.toBitVec_and, BitVec.getLsbD_and]
theorem bt_xor (x y : Int32) (k : Nat) : bt (x ^^^ y) k = (bt x k ^^ bt y k) := by
  unfold bt; rw [Int32.toBitVec_xor, BitVec.getLsbD_xor]
theorem bt_not {x : Int32} {k : Nat} (h : k < 32) : bt (~~~x) k = !bt x k := by
  unfold bt; rw [Int32.toBitVec_not, BitVec.getLsbD_not]; simp [h]
theorem bt_zero (k : Nat) : bt 0 k = false := by
  unfold bt; rw [show (0 : Int32).toBitVec = 0#32 from rfl, BitVec.getLsbD_zero]
theorem bt_nt {a k : Nat} : bt (nt a) k = (decide (k < 32) && a.testBit k) := by
  unfold bt nt
  rw [show (Int32.ofNat a).toBitVec = BitVec.ofNat 32 a from rfl, BitVec.getLsbD_ofNat]
theorem bt_one (k : Nat) : bt 1 k = decide (k = 0) := by
  rw [show (1 : Int32) = nt 1 from rfl, bt_nt]
  rcases k with _ | k
  · rfl
  · simp [Nat.testBit_succ]
theorem nt_31 : ∀ j, j < 32 → nt j &&& 31 = nt j := by decide
theorem nt_smod : ∀ j, j < 32 → ((nt j).toBitVec.smod 32).toNat = j := by decide
theorem shl_bv {x : Int32} {j : Nat} (hj : j < 32) : (x <<< nt j).toBitVec = x.toBitVec <<< j := by
  rw [Int32.toBitVec_shiftLeft]
  show x.toBitVec <<< ((nt j).toBitVec.smod 32).toNat = _
  rw [nt_smod j hj]
theorem shr_bv {x : Int32} {j : Nat} (hj : j < 32) : (x >>> nt j).toBitVec = x.toBitVec.sshiftRight j := by
  rw [Int32.toBitVec_shiftRight]
  show x.toBitVec.sshiftRight ((nt j).toBitVec.smod 32).toNat = _
  rw [nt_smod j hj]
theorem bt_shl {x : Int32} {j k : Nat} (hj : j < 32) (hk : k < 32) : bt (x <<< nt j) k = (decide (j ≤ k) && bt x (k - j)) := by
  unfold bt
  rw [shl_bv hj, BitVec.getLsbD_shiftLeft]
  by_cases h : k < j
  · simp [hk, h, Nat.not_le.mpr h]
  · simp [hk, h, Nat.not_lt.mp h]
theorem bt_shr {x : Int32} {j k : Nat} (hj : j < 32) (hk : k + j < 32) : bt (x >>> nt j) k = bt x (j + k) := by
  unfold bt
  rw [shr_bv hj, BitVec.getLsbD_sshiftRight]
  have h1 : ¬ (32 ≤ k) := by omega
  have h2 : j + k < 32 := by omega
  simp [h1, h2]
theorem has_bi {x : Int32} {j : Nat} (hj : j < 32) : (x >>> nt j) &&& 1 = bi (bt x j) := by
  apply bt_ext
  intro k hk
  rw [bt_and, bt_one]
  rcases k with _ | k
  · rw [bt_shr hj (by omega)]
    cases h : bt x (j + 0) with
    | true => rfl
    | false => rfl
  · have : bt (bi (bt x j)) (k + 1) = false := by
      cases bt x j with
      | true => show bt 1 (k + 1) = false; rw [bt_one]; simp
      | false => exact bt_zero _
    rw [this]; simp
theorem one_shl {j k : Nat} (hj : j < 32) (hk : k < 32) : bt (1 <<< nt j) k = decide (k = j) := by
  rw [bt_shl hj hk, bt_one]
  by_cases h : k = j
  · simp [h]
  · by_cases h2 : j ≤ k
    · have : ¬ (k - j = 0) := by omega
      simp [h, this]
    · simp [h, h2]
