/-! count: pairs, rounds, codes, slots, unreached -/
def b1 (b : Bool) : Nat := bif b then 1 else 0
theorem cn_s (p : Nat → Bool) (k : Nat) : cn (k + 1) p = cn k p + b1 (p k) := by
  show cn k p + (if p k = true then 1 else 0) = _
  cases p k <;> rfl
theorem cn_0 (p : Nat → Bool) : cn 0 p = 0 := rfl
theorem cn_half {g : Nat → Nat → Bool} (hc : ∀ a b, g a b = g b a) (hs : ∀ a, g a a = false) : cn 36 (fun i => g (i / 6) (i % 6)) / 2 = cn 15 (fun p => g (pL p) (pH p)) := by
  have e15 : cn 15 (fun p => g (pL p) (pH p)) = b1 (g 0 1) + b1 (g 0 2) + b1 (g 0 3) + b1 (g 0 4) + b1 (g 0 5) + b1 (g 1 2) + b1 (g 1 3) + b1 (g 1 4) + b1 (g 1 5) + b1 (g 2 3) + b1 (g 2 4) + b1 (g 2 5) + b1 (g 3 4) + b1 (g 3 5) + b1 (g 4 5) := by
    simp only [cn_s, cn_0, Nat.zero_add]
    first | done | rfl
  have e36 : cn 36 (fun i => g (i / 6) (i % 6)) = b1 (g 0 0) + b1 (g 0 1) + b1 (g 0 2) + b1 (g 0 3) + b1 (g 0 4) + b1 (g 0 5) + b1 (g 1 0) + b1 (g 1 1) + b1 (g 1 2) + b1 (g 1 3) + b1 (g 1 4) + b1 (g 1 5) + b1 (g 2 0) + b1 (g 2 1) + b1 (g 2 2) + b1 (g 2 3) + b1 (g 2 4) + b1 (g 2 5) + b1 (g 3 0) + b1 (g 3 1) + b1 (g 3 2) + b1 (g 3 3) + b1 (g 3 4) + b1 (g 3 5) + b1 (g 4 0) + b1 (g 4 1) + b1 (g 4 2) + b1 (g 4 3) + b1 (g 4 4) + b1 (g 4 5) + b1 (g 5 0) + b1 (g 5 1) + b1 (g 5 2) + b1 (g 5 3) + b1 (g 5 4) + b1 (g 5 5) := by
    simp only [cn_s, cn_0, Nat.zero_add]
    done
  rw [e15, e36]
  rw [hs 0, hs 1, hs 2, hs 3, hs 4, hs 5, hc 1 0, hc 2 0, hc 3 0, hc 4 0, hc 5 0, hc 2 1, hc 3 1, hc 4 1, hc 5 1, hc 3 2, hc 4 2, hc 5 2, hc 4 3, hc 5 3, hc 5 4]
  have : b1 false = 0 := rfl
  rw [this]
  generalize b1 (g 0 1) = a0
  generalize b1 (g 0 2) = a1
  generalize b1 (g 0 3) = a2
  generalize b1 (g 0 4) = a3
  generalize b1 (g 0 5) = a4
  generalize b1 (g 1 2) = a5
  generalize b1 (g 1 3) = a6
  generalize b1 (g 1 4) = a7
  generalize b1 (g 1 5) = a8
  generalize b1 (g 2 3) = a9
  generalize b1 (g 2 4) = a10
  generalize b1 (g 2 5) = a11
  generalize b1 (g 3 4) = a12
  generalize b1 (g 3 5) = a13
  generalize b1 (g 4 5) = a14
  omega
def u1 (x : Int32) : Int32 := x - ((Int32.toUInt32 x >>> (Int32.toUInt32 1 &&& Int32.toUInt32 31)).toInt32 &&& 1431655765)
def u2 (x : Int32) : Int32 := (x &&& 858993459) + ((Int32.toUInt32 x >>> (Int32.toUInt32 2 &&& Int32.toUInt32 31)).toInt32 &&& 858993459)
def u3 (x : Int32) : Int32 := (x + (Int32.toUInt32 x >>> (Int32.toUInt32 4 &&& Int32.toUInt32 31)).toInt32) &&& 252645135
def u4 (x : Int32) : Int32 := x + (Int32.toUInt32 x >>> (Int32.toUInt32 8 &&& Int32.toUInt32 31)).toInt32
def u5 (x : Int32) : Int32 := x + (Int32.toUInt32 x >>> (Int32.toUInt32 16 &&& Int32.toUInt32 31)).toInt32
theorem bcf_u (x : Int32) : bcf x = u5 (u4 (u3 (u2 (u1 x)))) &&& 63 := rfl
theorem ush31 : ∀ j, j < 32 → Int32.toUInt32 (nt j) &&& Int32.toUInt32 31 = UInt32.ofNat j := by decide
theorem ush {k j : Nat} (hk : k < 4294967296) (hj : j < 32) : (Int32.toUInt32 (nt k) >>> (Int32.toUInt32 (nt j) &&& Int32.toUInt32 31)).toInt32 = nt (k / 2 ^ j) := by
  rw [ush31 j hj]
  have e : (Int32.toUInt32 (nt k) >>> UInt32.ofNat j) = UInt32.ofNat (k / 2 ^ j) := by
    apply UInt32.toNat_inj.mp
    rw [UInt32.toNat_shiftRight]
    have e1 : (Int32.toUInt32 (nt k)).toNat = k := by
      show (BitVec.ofNat 32 k).toNat = k
      rw [BitVec.toNat_ofNat]; omega
    have e2 : (UInt32.ofNat j).toNat = j := by
      show (BitVec.ofNat 32 j).toNat = j
      rw [BitVec.toNat_ofNat]; omega
    have e3 : (UInt32.ofNat (k / 2 ^ j)).toNat = k / 2 ^ j := by
      show (BitVec.ofNat 32 (k / 2 ^ j)).toNat = k / 2 ^ j
      rw [BitVec.toNat_ofNat]
      exact Nat.mod_eq_of_lt (Nat.lt_of_le_of_lt (Nat.div_le_self _ _) hk)
    rw [e1, e2, e3, Nat.shiftRight_eq_div_pow, show j % 32 = j from by omega]
  rw [e]; rfl
def v1 (k : Nat) : Nat := k - (k / 2 ^ 1 &&& 1431655765)
def v2 (k : Nat) : Nat := (k &&& 858993459) + (k / 2 ^ 2 &&& 858993459)
def v3 (k : Nat) : Nat := (k + k / 2 ^ 4) &&& 252645135
def v4 (k : Nat) : Nat := k + k / 2 ^ 8
def v5 (k : Nat) : Nat := k + k / 2 ^ 16
theorem v1_le (k : Nat) : v1 k ≤ k := Nat.sub_le _ _
theorem v2_le (k : Nat) : v2 k ≤ 2 * k := by
  unfold v2
  have h1 : k &&& 858993459 ≤ k := Nat.and_le_left
  have h2 : k / 2 ^ 2 &&& 858993459 ≤ k / 2 ^ 2 := Nat.and_le_left
  have h3 : k / 2 ^ 2 ≤ k := Nat.div_le_self _ _
  omega
theorem v3_le (k : Nat) : v3 k ≤ 2 * k := by
  unfold v3
  have h1 : (k + k / 2 ^ 4) &&& 252645135 ≤ k + k / 2 ^ 4 := Nat.and_le_left
  have h3 : k / 2 ^ 4 ≤ k := Nat.div_le_self _ _
  omega
theorem v4_le (k : Nat) : v4 k ≤ 2 * k := by
  unfold v4
  have h3 : k / 2 ^ 8 ≤ k := Nat.div_le_self _ _
  omega
theorem u1_nt {k : Nat} (hk : k < 1000000) : u1 (nt k) = nt (v1 k) := by
  have h2 : k / 2 ^ 1 &&& 1431655765 ≤ k / 2 ^ 1 := Nat.and_le_left
  have h3 : k / 2 ^ 1 ≤ k := Nat.div_le_self _ _
  unfold u1
  rw [show (1 : Int32) = nt 1 from rfl, ush (by omega) (by omega), show (1431655765 : Int32) = nt 1431655765 from rfl, nt_and, nt_sub (by omega)]
  rfl
theorem u2_nt {k : Nat} (hk : k < 1000000) : u2 (nt k) = nt (v2 k) := by
  unfold u2
  rw [show (2 : Int32) = nt 2 from rfl, ush (by omega) (by omega), show (858993459 : Int32) = nt 858993459 from rfl, nt_and, nt_and, nt_add]
  rfl
theorem u3_nt {k : Nat} (hk : k < 1000000) : u3 (nt k) = nt (v3 k) := by
  unfold u3
  rw [show (4 : Int32) = nt 4 from rfl, ush (by omega) (by omega), show (252645135 : Int32) = nt 252645135 from rfl, nt_add, nt_and]
  rfl
theorem u4_nt {k : Nat} (hk : k < 1000000) : u4 (nt k) = nt (v4 k) := by
  unfold u4
  rw [show (8 : Int32) = nt 8 from rfl, ush (by omega) (by omega), nt_add]
  rfl
theorem u5_nt {k : Nat} (hk : k < 1000000) : u5 (nt k) = nt (v5 k) := by
  unfold u5
  rw [show (16 : Int32) = nt 16 from rfl, ush (by omega) (by omega), nt_add]
  rfl
def bcN (k : Nat) : Nat := v5 (v4 (v3 (v2 (v1 k)))) &&& 63
theorem bcf_N {k : Nat} (hk : k < 32768) : bcf (nt k) = nt (bcN k) := by
  have h1 := v1_le k
  have h2 := v2_le (v1 k)
  have h3 := v3_le (v2 (v1 k))
  have h4 := v4_le (v3 (v2 (v1 k)))
  rw [bcf_u, u1_nt (by omega), u2_nt (by omega), u3_nt (by omega), u4_nt (by omega), u5_nt (by omega), show (63 : Int32) = nt 63 from rfl, nt_and]
  rfl
def pc15 (k : Nat) : Nat := k / 1 % 2 + k / 2 % 2 + k / 4 % 2 + k / 8 % 2 + k / 16 % 2 + k / 32 % 2 + k / 64 % 2 + k / 128 % 2 + k / 256 % 2 + k / 512 % 2 + k / 1024 % 2 + k / 2048 % 2 + k / 4096 % 2 + k / 8192 % 2 + k / 16384 % 2
theorem bcN_0 : ∀ a, a < 32 → ∀ b, b < 256 → bcN (256 * a + b) = pc15 (256 * a + b) := by decide +kernel
theorem bcN_1 : ∀ a, a < 32 → ∀ b, b < 256 → bcN (256 * (32 + a) + b) = pc15 (256 * (32 + a) + b) := by decide +kernel
theorem bcN_2 : ∀ a, a < 32 → ∀ b, b < 256 → bcN (256 * (64 + a) + b) = pc15 (256 * (64 + a) + b) := by decide +kernel
theorem bcN_3 : ∀ a, a < 32 → ∀ b, b < 256 → bcN (256 * (96 + a) + b) = pc15 (256 * (96 + a) + b) := by decide +kernel
theorem bcN_ok {k : Nat} (hk : k < 32768) : bcN k = pc15 k := by
  have e : k = 256 * (k / 256) + k % 256 := by omega
  rw [e]
  have hb : k % 256 < 256 := by omega
  generalize k % 256 = b at hb
  have ha : k / 256 < 128 := by omega
  generalize k / 256 = a at ha
  by_cases c1 : a < 32
  · exact bcN_0 a c1 b hb
  by_cases c2 : a < 64
  · have := bcN_1 (a - 32) (by omega) b hb
    rwa [show 32 + (a - 32) = a from by omega] at this
  by_cases c3 : a < 96
  · have := bcN_2 (a - 64) (by omega) b hb
    rwa [show 64 + (a - 64) = a from by omega] at this
  · have := bcN_3 (a - 96) (by omega) b hb
    rwa [show 96 + (a - 96) = a from by omega] at this
theorem pc15_cn (k : Nat) : pc15 k = cn 15 (fun i => k.testBit i) := by
  have h : ∀ i, b1 (k.testBit i) = k / 2 ^ i % 2 := fun i => Nat.toNat_testBit k i
  simp only [cn_s, cn_0, h, Nat.zero_add]
  rfl
theorem low15_nt {x : Int32} (h : ∀ k, k < 32 → 15 ≤ k → bt x k = false) : bcf x = nt (cn 15 (fun i => bt x i)) := by
  have hx : x = nt x.toBitVec.toNat := by
    show x = Int32.ofNat x.toBitVec.toNat
    rw [Int32.ofNat_bitVecToNat]; rfl
  have hlt : x.toBitVec.toNat < 2 ^ 15 := by
    refine Nat.lt_pow_two_of_testBit _ ?_
    intro i hi
    by_cases c : i < 32
    · exact h i c hi
    · exact bt_hi (x := x) (by omega)
  have e := bcf_N (k := x.toBitVec.toNat) (by omega)
  rw [← hx, bcN_ok (by omega), pc15_cn] at e
  exact e
theorem capc_ok {m : Nat} {w : aT} {I : xI} {J : xJ} (hp : cPa m w (I 32 3) (I 33) (I 34)) : f_X6_apartCount I J = some (nt (cn 15 (fun p => (rd m w (pL p) (pH p)).isSome)), I, J) := by
  have hb : bcf (I 32 3) = nt (cn 15 (fun i => bt (I 32 3) i)) := low15_nt (fun k hk h15 => by rw [hp.2.2 k hk, decide_eq_false (by omega)]; rfl)
  have he : cn 15 (fun i => bt (I 32 3) i) = cn 15 (fun p => (rd m w (pL p) (pH p)).isSome) := by
    apply Nat.le_antisymm
    · apply cn_mono
      intro k hk hb
      rw [hp.2.2 k (by omega), decide_eq_true hk, Bool.true_and] at hb
      exact hb
    · apply cn_mono
      intro k hk hb
      rw [hp.2.2 k (by omega), decide_eq_true hk, Bool.true_and]
      exact hb
  simp only [f_X6_apartCount, f_X6_apartCount_0, f_X6_apartCount_1, bitCount_ok, Option.bind_some, hb, he]
theorem cR_at {R : Nat → Nat → Option Nat} {c : Nat → Int32} (h : cR R c) {i : Nat} (hi : i < 36) : c i = ov (R (i / 6) (i % 6)) := by
  have := h (i / 6) (i % 6) (by omega) (by omega)
  rwa [show 6 * (i / 6) + i % 6 = i from by omega] at this
theorem ov_lt0 {o : Option Nat} (h : ∀ r, o = some r → r < 2147483648) : (ov o < 0) = (o.isSome = false) := by
  cases o with
  | none => rw [ov_n]; exact propext ⟨fun _ => rfl, fun _ => by decide⟩
  | some r => rw [ov_s, nt_neg (h r rfl)]; exact propext ⟨fun h => h.elim, fun h => by cases h⟩
theorem rapc_ok {n m : Nat} {w : aT} {I : xI} {J : xJ} (hn : n ≤ 6) (V : Vd n m w) (hR : cR (rd m w) (I 76)) (x1 : Int32) : f_X12_count_9 x1 0 I J = some (nt (cn 15 (fun p => (rd m w (pL p) (pH p)).isSome)), I, J) := by
  apply Ok.eq
  unfold f_X12_count_9 f_X12_count_10
  refine ok_loop (fun i t => t = (x1, nt (cn i (fun i => (rd m w (i / 6) (i % 6)).isSome)), nt i, I, J)) 36 ?_ ?_ 5000 0 _ (by omega) (by omega) rfl
  · rintro i hi t rfl
    have hr : ∀ r, rd m w (i / 6) (i % 6) = some r → r < 2147483648 := fun r h => by have := rdk_14 V hn h; omega
    rw [cn_s (fun i => (rd m w (i / 6) (i % 6)).isSome) i]
    generalize cn 15 (fun p => (rd m w (pL p) (pH p)).isSome) = N
    simp (disch := omega) only [b_X12_count_10, f_X12_count_11, nt_clamp, nt_le, nt_lt, nt_eq, lit_le, lit_lt, le_lit, lt_lit, eq_lit, lit_eq, nt_neg, nt_ge, nt_add, nt_mul, nt_addl, lit_add, nt_mull, lit_mul, nt_sub, nt_subl, lit_sub, nt_divl, nt_m1, nt_m2, nt_m1', nt_m2', false_or, if_neg, cR_at hR hi, ov_lt0 hr]
    cases e : (rd m w (i / 6) (i % 6)).isSome with
    | false =>
      rw [if_pos rfl]
      simp only [f_X12_count_13, nt_addl]
      exact ok_some rfl
    | true =>
      rw [if_neg (by decide)]
      simp only [f_X12_count_12, f_X12_count_13, nt_addl]
      exact ok_some rfl
  · rintro t rfl
    have hle : cn 36 (fun i => (rd m w (i / 6) (i % 6)).isSome) ≤ 36 := cn_le
    have hh := cn_half (g := fun a b => (rd m w a b).isSome) (fun a b => by show (rdk m w 15 a b).isSome = (rdk m w 15 b a).isSome; rw [rdk_comm]) (fun a => by show (rdk m w 15 a a).isSome = false; rw [rdk_self]; rfl)
    simp (disch := omega) only [b_X12_count_10, f_X12_count_14, nt_clamp, nt_le, nt_lt, nt_eq, lit_le, lit_lt, le_lit, lt_lit, eq_lit, lit_eq, nt_neg, nt_ge, nt_add, nt_mul, nt_addl, lit_add, nt_mull, lit_mul, nt_sub, nt_subl, lit_sub, nt_divl, nt_m1, nt_m2, nt_m1', nt_m2', if_pos, Option.map_some]
    refine ok_some ?_
    show (_, _, _) = (_, _, _)
    rw [hh]
/-- the greatest round -/
def top (f : Nat → Option Nat) : Nat → Option Nat
  | 0 => none
  | k + 1 => if ov (top f k) < ov (f k) then f k else top f k
theorem top_s (f : Nat → Option Nat) (k : Nat) : top f (k + 1) = if ov (top f k) < ov (f k) then f k else top f k := rfl
def oll (a b : Option Nat) : Prop := match b with
  | none => False
  | some b => match a with
    | none => True
    | some a => a < b
theorem ov_ltt {a b : Option Nat} (ha : ∀ r, a = some r → r < 1000) (hb : ∀ r, b = some r → r < 1000) : (ov a < ov b) = oll a b := by
  cases b with
  | none =>
    cases a with
    | none => rw [ov_n]; exact propext ⟨fun h => absurd h (by decide), fun h => h.elim⟩
    | some a =>
      have := ha a rfl
      refine propext ⟨fun h => ?_, fun h => h.elim⟩
      rw [ov_n, ov_s] at h
      have h1 : (0 : Int32) ≤ nt a := by rw [nt_ge (by omega)]; trivial
      exact absurd (Int32.lt_of_lt_of_le h (by decide : (-2 : Int32) ≤ 0)) (fun h2 => by rw [nt_neg (by omega)] at h2; exact h2)
  | some b =>
    have h2 := hb b rfl
    cases a with
    | none =>
      refine propext ⟨fun _ => trivial, fun _ => ?_⟩
      rw [ov_n, ov_s]
      have h1 : (0 : Int32) ≤ nt b := by rw [nt_ge (by omega)]; trivial
      exact Int32.lt_of_lt_of_le (by decide : (-2 : Int32) < 0) h1
    | some a =>
      have h1 := ha a rfl
      rw [ov_s, ov_s, nt_lt (by omega) (by omega)]
      rfl
theorem top_in {f : Nat → Option Nat} : ∀ {k r : Nat}, top f k = some r → ∃ i, i < k ∧ f i = some r := by
  intro k
  induction k with
  | zero => intro r h; cases h
  | succ k ih =>
    intro r h
    rw [top_s] at h
    split at h
    · exact ⟨k, by omega, h⟩
    · obtain ⟨i, hi, e⟩ := ih h
      exact ⟨i, by omega, e⟩
theorem top_ge {f : Nat → Option Nat} (hf : ∀ i r, f i = some r → r < 1000) : ∀ {k i r : Nat}, i < k → f i = some r → ∃ q, top f k = some q ∧ r ≤ q := by
  intro k
  induction k with
  | zero => intro i r h; omega
  | succ k ih =>
    intro i r hi e
    have ht : ∀ r, top f k = some r → r < 1000 := fun r h => by obtain ⟨j, _, e⟩ := top_in h; exact hf j r e
    have hlt : ∀ b, f k = b → ∀ a, top f k = a → (ov (top f k) < ov (f k)) = oll a b := fun b hb a ha => by rw [ov_ltt ht (hf k), hb, ha]
    rw [top_s]
    by_cases c : i = k
    · rw [c] at e
      cases et : top f k with
      | none =>
        have h1 := hlt _ e _ et
        rw [et] at h1
        rw [if_pos (by rw [h1]; trivial)]; exact ⟨r, e, Nat.le_refl _⟩
      | some q =>
        have h1 := hlt _ e _ et
        rw [et] at h1
        by_cases c2 : q < r
        · rw [if_pos (by rw [h1]; exact c2)]; exact ⟨r, e, Nat.le_refl _⟩
        · rw [if_neg (by rw [h1]; exact c2)]; exact ⟨q, rfl, by omega⟩
    · obtain ⟨q, eq, hq⟩ := ih (by omega) e
      cases ek : f k with
      | none =>
        have h1 := hlt _ ek _ eq
        rw [ek] at h1
        rw [if_neg (by rw [h1]; exact fun h => h)]; exact ⟨q, eq, hq⟩
      | some r' =>
        have h1 := hlt _ ek _ eq
        rw [ek] at h1
        by_cases c2 : q < r'
        · rw [if_pos (by rw [h1]; exact c2)]; exact ⟨r', rfl, by omega⟩
        · rw [if_neg (by rw [h1]; exact c2)]; exact ⟨q, eq, hq⟩
theorem top_eq {f g : Nat → Option Nat} {a b : Nat} (hf : ∀ i r, f i = some r → r < 1000) (hg : ∀ i r, g i = some r → r < 1000) (h1 : ∀ i r, i < a → f i = some r → ∃ j, j < b ∧ g j = some r) (h2 : ∀ i r, i < b → g i = some r → ∃ j, j < a ∧ f j = some r) : top f a = top g b := by
  cases e : top f a with
  | some r =>
    obtain ⟨i, hi, ei⟩ := top_in e
    obtain ⟨j, hj, ej⟩ := h1 i r hi ei
    obtain ⟨q, eq, hq⟩ := top_ge hg hj ej
    obtain ⟨i2, hi2, ei2⟩ := top_in eq
    obtain ⟨j2, hj2, ej2⟩ := h2 i2 q hi2 ei2
    obtain ⟨q2, eq2, hq2⟩ := top_ge hf hj2 ej2
    rw [e] at eq2
    cases eq2
    rw [eq, Nat.le_antisymm hq hq2]
  | none =>
    cases e2 : top g b with
    | none => rfl
    | some r =>
      obtain ⟨i, hi, ei⟩ := top_in e2
      obtain ⟨j, hj, ej⟩ := h2 i r hi ei
      obtain ⟨q, eq, _⟩ := top_ge hf hj ej
      rw [e] at eq; cases eq
theorem ov_if {p : Prop} [Decidable p] (a b : Option Nat) : (if p then ov a else ov b) = ov (if p then a else b) := by split <;> rfl
def grd (m : Nat) (w : aT) : Option Nat := top (fun p => rd m w (pL p) (pH p)) 15
theorem cgrd_ok {m : Nat} {w : aT} {I : xI} {J : xJ} (hp : cPa m w (I 32 3) (I 33) (I 34)) : f_X6_greatestRound I J = some (ov (grd m w), I, J) := by
  apply Ok.eq
  unfold f_X6_greatestRound f_X6_greatestRound_0 f_X6_greatestRound_1
  refine ok_loop (fun p t => t = (ov (top (fun p => rd m w (pL p) (pH p)) p), nt p, I, J)) 15 ?_ ?_ 5000 0 _ (by omega) (by omega) rfl
  · rintro p hp' t rfl
    have e34 : I 34 p = ov (rd m w (pL p) (pH p)) := hp.2.1 p hp'
    simp (disch := omega) only [b_X6_greatestRound_1, f_X6_greatestRound_2, nt_clamp, nt_le, nt_lt, nt_eq, lit_le, lit_lt, le_lit, lt_lit, eq_lit, lit_eq, nt_neg, nt_ge, nt_add, nt_mul, nt_addl, lit_add, nt_mull, lit_mul, nt_sub, nt_subl, lit_sub, nt_divl, nt_m1, nt_m2, nt_m1', nt_m2', false_or, if_neg, e34, ov_if, top_s]
    exact ok_some rfl
  · rintro t rfl
    simp (disch := omega) only [b_X6_greatestRound_1, f_X6_greatestRound_3, nt_clamp, nt_le, nt_lt, nt_eq, lit_le, lit_lt, le_lit, lt_lit, eq_lit, lit_eq, nt_neg, nt_ge, nt_add, nt_mul, nt_addl, lit_add, nt_mull, lit_mul, nt_sub, nt_subl, lit_sub, nt_divl, nt_m1, nt_m2, nt_m1', nt_m2', if_pos, Option.map_some]
    exact ok_some rfl
theorem le_nlt {a b : Int32} : (a ≤ b) = ¬ (b < a) := by
  rw [Int32.not_lt]
theorem rgrd_ok {n m : Nat} {w : aT} {I : xI} {J : xJ} (hn : n ≤ 6) (V : Vd n m w) (hR : cR (rd m w) (I 76)) (x1 : Int32) : f_X12_count_15 x1 0 I J = some (ov (grd m w), I, J) := by
  apply Ok.eq
  unfold f_X12_count_15 f_X12_count_16
  refine ok_loop (fun i t => t = (x1, ov (top (fun i => rd m w (i / 6) (i % 6)) i), nt i, I, J)) 36 ?_ ?_ 5000 0 _ (by omega) (by omega) rfl
  · rintro i hi t rfl
    simp (disch := omega) only [b_X12_count_16, f_X12_count_17, nt_clamp, nt_le, nt_lt, nt_eq, lit_le, lit_lt, le_lit, lt_lit, eq_lit, lit_eq, nt_neg, nt_ge, nt_add, nt_mul, nt_addl, lit_add, nt_mull, lit_mul, nt_sub, nt_subl, lit_sub, nt_divl, nt_m1, nt_m2, nt_m1', nt_m2', false_or, if_neg, cR_at hR hi, top_s]
    by_cases c : ov (top (fun i => rd m w (i / 6) (i % 6)) i) < ov (rd m w (i / 6) (i % 6))
    · rw [if_pos c, if_neg (by rw [le_nlt]; exact fun h => h c)]
      simp (disch := omega) only [f_X12_count_18, f_X12_count_19, nt_clamp, nt_le, nt_lt, nt_eq, lit_le, lit_lt, le_lit, lt_lit, eq_lit, lit_eq, nt_neg, nt_ge, nt_add, nt_mul, nt_addl, lit_add, nt_mull, lit_mul, nt_sub, nt_subl, lit_sub, nt_divl, nt_m1, nt_m2, nt_m1', nt_m2', false_or, if_neg, cR_at hR hi]
      exact ok_some rfl
    · rw [if_neg c, if_pos (by rw [le_nlt]; exact c)]
      simp only [f_X12_count_19, nt_addl]
      exact ok_some rfl
  · rintro t rfl
    have e : top (fun i => rd m w (i / 6) (i % 6)) 36 = grd m w := by
      have hb : ∀ a b r, rd m w a b = some r → r < 1000 := fun a b r h => by have := rdk_14 V hn h; omega
      refine top_eq (fun i r h => hb _ _ r h) (fun i r h => hb _ _ r h) ?_ ?_
      · intro i r hi h
        obtain ⟨p, hp, e⟩ := rd_pair V hn h
        exact ⟨p, hp, by show rdk m w 15 _ _ = _; rw [e]; exact h⟩
      · intro p r hp h
        have hh := (pX_lh p hp).2
        refine ⟨6 * pL p + pH p, by omega, ?_⟩
        show rd m w ((6 * pL p + pH p) / 6) ((6 * pL p + pH p) % 6) = _
        rw [show (6 * pL p + pH p) / 6 = pL p from by omega, show (6 * pL p + pH p) % 6 = pH p from by omega]
        exact h
    simp (disch := omega) only [b_X12_count_16, f_X12_count_20, nt_clamp, nt_le, nt_lt, nt_eq, lit_le, lit_lt, le_lit, lt_lit, eq_lit, lit_eq, nt_neg, nt_ge, nt_add, nt_mul, nt_addl, lit_add, nt_mull, lit_mul, nt_sub, nt_subl, lit_sub, nt_divl, nt_m1, nt_m2, nt_m1', nt_m2', if_pos, Option.map_some]
    refine ok_some ?_
    show (_, _, _) = (_, _, _)
    rw [e]
/-- codes as one number, of the reference -/
theorem rcodeN_ok {n m : Nat} {w : aT} {I : xI} {J : xJ} (hn : n ≤ 6) (h0 : I 61 17 = nt n) (h : rMa n m w (I 70) 0) (x1 : Int32) : f_X12_count_23 x1 0 I J = some (nt (cdn w.2.2 n), I, J) := by
  apply Ok.eq
  unfold f_X12_count_23 f_X12_count_24
  refine ok_loop (fun j t => t = (x1, nt (cdh n w.2.2 j), nt (n - j) - 1, I, J)) n ?_ ?_ 5000 0 _ (by omega) (by omega) (by rw [h0]; rfl)
  · rintro j hj t rfl
    have e70 : I 70 (48 + (n - j - 1)) = nt (w.2.2 (n - j - 1)) := by have := h.2.2 (n - j - 1) (by omega); rwa [Nat.zero_add] at this
    simp (disch := omega) only [b_X12_count_24, f_X12_count_25, f_X12_codeOf, f_X12_codeOf_0, f_X12_count_26, nt_m1s, nt_clamp, nt_le, nt_lt, nt_eq, lit_le, lit_lt, le_lit, lt_lit, eq_lit, lit_eq, nt_neg, nt_ge, nt_add, nt_mul, nt_addl, lit_add, nt_mull, lit_mul, nt_sub, nt_subl, lit_sub, nt_divl, nt_m1, nt_m2, nt_m1', nt_m2', false_or, if_neg, if_false, e70, Option.bind_some, add_m1]
    refine ok_some ?_
    show (_, _, _) = (_, _, _)
    rw [show n - (j + 1) = n - j - 1 from by omega]
    show _ = (_, nt (8 * cdh n w.2.2 j + w.2.2 (n - 1 - j)), _)
    rw [show n - 1 - j = n - j - 1 from by omega]
  · rintro t rfl
    have e := cdh_eq (n := n) (c := w.2.2) n (Nat.le_refl _)
    rw [Nat.sub_self] at e
    have e2 : cdn w.2.2 n = cdh n w.2.2 n := by
      rw [e]; show 0 + 1 * _ = _; omega
    rw [Nat.sub_self, e2]
    exact ok_some rfl
/-- slots -/
def slc (sl : Nat → Option aT) : Nat := cn 3 (fun q => (sl q).isSome)
theorem cslc_ok {n m : Nat} {sl : Nat → Option aT} {I : xI} {J : xJ} (h : cSl n m sl I) : f_X4_slotCount I J = some (nt (slc sl), I, J) := by
  apply Ok.eq
  unfold f_X4_slotCount f_X4_slotCount_0 f_X4_slotCount_1
  refine ok_loop (fun q t => t = (nt (cn q (fun q => (sl q).isSome)), nt q, I, J)) 3 ?_ ?_ 5000 0 _ (by omega) (by omega) rfl
  · rintro q hq t rfl
    simp (disch := omega) only [b_X4_slotCount_1, f_X4_slotCount_2, nt_clamp, nt_le, nt_lt, nt_eq, lit_le, lit_lt, le_lit, lt_lit, eq_lit, lit_eq, nt_neg, nt_ge, nt_add, nt_mul, nt_addl, lit_add, nt_mull, lit_mul, nt_sub, nt_subl, lit_sub, nt_divl, nt_m1, nt_m2, nt_m1', nt_m2', false_or, if_neg, (h q hq).1, bi_0, cn_s]
    cases e : (sl q).isSome with
    | false =>
      rw [if_pos rfl]
      simp only [f_X4_slotCount_4, f_X4_slotCount_5, nt_addl]
      exact ok_some rfl
    | true =>
      rw [if_neg (by decide)]
      simp only [f_X4_slotCount_3, f_X4_slotCount_5, nt_addl]
      exact ok_some rfl
  · rintro t rfl
    simp (disch := omega) only [b_X4_slotCount_1, f_X4_slotCount_6, nt_clamp, nt_le, nt_lt, nt_eq, lit_le, lit_lt, le_lit, lt_lit, eq_lit, lit_eq, nt_neg, nt_ge, nt_add, nt_mul, nt_addl, lit_add, nt_mull, lit_mul, nt_sub, nt_subl, lit_sub, nt_divl, nt_m1, nt_m2, nt_m1', nt_m2', if_pos, Option.map_some]
    exact ok_some rfl
theorem rslc_ok {n m : Nat} {sl : Nat → Option aT} {I : xI} {J : xJ} (h : rSl n m sl (I 73) (I 74)) (x1 : Int32) : f_X12_count_30 x1 0 I J = some (nt (slc sl), I, J) := by
  simp only [f_X12_count_30, f_X12_count_31, f_X12_count_32, f_X12_count_33, f_X12_count_34, f_X12_count_35, f_X12_count_36, f_X12_count_37, f_X12_count_38, f_X12_count_39, (h 0 (by omega)).1, (h 1 (by omega)).1, (h 2 (by omega)).1, bi_0, slc, cn_s, cn_0]
  cases (sl 0).isSome <;> cases (sl 1).isSome <;> cases (sl 2).isSome <;> rfl
