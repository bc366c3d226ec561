/-! cubes: sets of codes as numbers -/
def mkn : Nat → (Nat → Bool) → Nat
  | 0, _ => 0
  | k + 1, P => mkn k P ||| (if P k = true then 2 ^ k else 0)
theorem mkn_tb {n : Nat} {P : Nat → Bool} {k : Nat} : (mkn n P).testBit k = (decide (k < n) && P k) := by
  induction n with
  | zero => unfold mkn; simp
  | succ n ih =>
    unfold mkn
    rw [Nat.testBit_or, ih]
    by_cases c : k = n
    · subst c
      rw [decide_eq_false (by omega), decide_eq_true (by omega), Bool.false_and, Bool.false_or, Bool.true_and]
      cases P k with
      | false => simp
      | true => rw [if_pos rfl, Nat.testBit_two_pow_self]
    · have h0 : (if P n = true then 2 ^ n else 0).testBit k = false := by
        split
        · rw [Nat.testBit_two_pow]; exact decide_eq_false (by omega)
        · simp
      rw [h0, Bool.or_false]
      by_cases c1 : k < n
      · rw [decide_eq_true c1, decide_eq_true (by omega)]
      · rw [decide_eq_false c1, decide_eq_false (by omega)]
theorem mkn_lt (n : Nat) (P : Nat → Bool) : mkn n P < 2 ^ n := by
  apply Nat.lt_pow_two_of_testBit
  intro i hi
  rw [mkn_tb, decide_eq_false (by omega)]; rfl
theorem tb_ext8 {a b : Nat} (ha : a < 256) (hb : b < 256) (h : ∀ k, k < 8 → a.testBit k = b.testBit k) : a = b := by
  apply Nat.eq_of_testBit_eq
  intro k
  by_cases c : k < 8
  · exact h k c
  · rw [Nat.testBit_lt_two_pow (Nat.lt_of_lt_of_le ha (Nat.pow_le_pow_right (n := 2) (by omega) (show 8 ≤ k from by omega))), Nat.testBit_lt_two_pow (Nat.lt_of_lt_of_le hb (Nat.pow_le_pow_right (n := 2) (by omega) (show 8 ≤ k from by omega)))]
theorem tb_hi {a k : Nat} (ha : a < 256) (h : 8 ≤ k) : a.testBit k = false := Nat.testBit_lt_two_pow (Nat.lt_of_lt_of_le ha (Nat.pow_le_pow_right (n := 2) (by omega) h))
def dif (R H : Nat) : Nat := mkn 8 (fun k => R.testBit k && !H.testBit k)
theorem dif_tb {R H k : Nat} (hR : R < 256) : (dif R H).testBit k = (R.testBit k && !H.testBit k) := by
  unfold dif
  rw [mkn_tb]
  by_cases c : k < 8
  · rw [decide_eq_true c]; rfl
  · rw [decide_eq_false c, tb_hi hR (by omega)]; rfl
theorem dif_lt (R H : Nat) : dif R H < 256 := mkn_lt 8 _
theorem nt_and (a b : Nat) : nt a &&& nt b = nt (a &&& b) := by
  apply bt_ext
  intro k hk
  rw [bt_and, bt_nt, bt_nt, bt_nt, Nat.testBit_and]
  cases decide (k < 32) <;> rfl
theorem nt_dif {R : Nat} (hR : R < 256) (H : Nat) : nt R &&& (nt H ^^^ -1) = nt (dif R H) := by
  apply bt_ext
  intro k hk
  rw [bt_and, bt_xor, bt_nt, bt_nt, bt_nt, m1_bt hk, dif_tb hR, decide_eq_true hk]
  cases R.testBit k <;> cases H.testBit k <;> rfl
/-- the cubes -/
def hh (c : Nat) : Nat := ([1, 2, 3, 4, 8, 12, 5, 10, 15, 16, 32, 48, 64, 128, 192, 80, 160, 240, 17, 34, 51, 68, 136, 204, 85, 170, 255] : List Nat).getD c 0
theorem hh_lt : ∀ c, c < 27 → hh c < 256 := by decide
def okc (off c : Nat) : Bool := decide (hh c &&& off = 0)
def lo (R : Nat) : Nat := (ff 8 (fun k => R.testBit k)).getD 0
theorem lo_ok {R : Nat} (hR : R < 256) (h0 : ¬ R = 0) : lo R < 8 ∧ R.testBit (lo R) = true := by
  unfold lo
  cases e : ff 8 (fun k => R.testBit k) with
  | none =>
    exfalso
    apply h0
    apply tb_ext8 hR (by omega)
    intro k hk
    rw [Nat.zero_testBit]
    exact ff_none.mp e k hk
  | some i =>
    have := ff_some.mp e
    exact ⟨this.1, this.2.1⟩
/-- the least of some -/
def mnf (P : Nat → Bool) (f : Nat → Nat) (i : Nat) : Nat → Nat
  | 0 => i
  | k + 1 => if P k = true then (if f k < mnf P f i k then f k else mnf P f i k) else mnf P f i k
theorem mnf_i (P : Nat → Bool) (f : Nat → Nat) (i : Nat) : ∀ k, mnf P f i k ≤ i := by
  intro k
  induction k with
  | zero => exact Nat.le_refl _
  | succ k ih =>
    unfold mnf
    split
    · split
      · omega
      · exact ih
    · exact ih
theorem mnf_le {P : Nat → Bool} {f : Nat → Nat} {i c : Nat} (hp : P c = true) : ∀ k, c < k → mnf P f i k ≤ f c := by
  intro k
  induction k with
  | zero => intro h; omega
  | succ k ih =>
    intro h
    by_cases e : c = k
    · subst e
      unfold mnf
      rw [if_pos hp]
      split
      · exact Nat.le_refl _
      · omega
    · have := ih (by omega)
      unfold mnf
      split
      · split
        · omega
        · exact this
      · exact this
theorem mnf_at {P : Nat → Bool} {f : Nat → Nat} {i : Nat} : ∀ k, mnf P f i k = i ∨ ∃ c, c < k ∧ P c = true ∧ mnf P f i k = f c := by
  intro k
  induction k with
  | zero => exact Or.inl rfl
  | succ k ih =>
    have up : mnf P f i k = i ∨ ∃ c, c < k + 1 ∧ P c = true ∧ mnf P f i k = f c := by
      rcases ih with h | ⟨c, h1, h2, h3⟩
      · exact Or.inl h
      · exact Or.inr ⟨c, by omega, h2, h3⟩
    unfold mnf
    by_cases hp : P k = true
    · rw [if_pos hp]
      by_cases hl : f k < mnf P f i k
      · rw [if_pos hl]; exact Or.inr ⟨k, by omega, hp, rfl⟩
      · rw [if_neg hl]; exact up
    · rw [if_neg hp]; exact up
theorem mnf_congr {P : Nat → Bool} {f g : Nat → Nat} {i : Nat} : ∀ k, (∀ c, c < k → P c = true → f c = g c) → mnf P f i k = mnf P g i k := by
  intro k
  induction k with
  | zero => intro _; rfl
  | succ k ih =>
    intro h
    unfold mnf
    rw [ih (fun c hc => h c (by omega))]
    by_cases hp : P k = true
    · rw [if_pos hp, if_pos hp, h k (by omega) hp]
    · rw [if_neg hp, if_neg hp]
def plo (off R c : Nat) : Bool := (hh c).testBit (lo R) && okc off c
def lk (off : Nat) : Nat → Nat → Nat
  | 0, _ => 0
  | k + 1, R => if R = 0 then 0 else mnf (plo off R) (fun c => 1 + lk off k (dif R (hh c))) 8 27
def pp8 (R : Nat) : Nat := cn 8 (fun k => R.testBit k)
theorem pp8_dif {R c : Nat} (hR : R < 256) (h0 : ¬ R = 0) (h : (hh c).testBit (lo R) = true) : pp8 (dif R (hh c)) < pp8 R := by
  have hl := lo_ok hR h0
  refine cn_lt ?_ hl.1 ?_ hl.2
  · intro k hk
    rw [dif_tb hR]
    intro e
    exact (Bool.and_eq_true _ _ ▸ e).1
  · rw [dif_tb hR, h, hl.2]; decide
theorem pp8_0 {R : Nat} (hR : R < 256) (h : pp8 R = 0) : R = 0 := by
  by_cases c : R = 0
  · exact c
  · have hl := lo_ok hR c
    have := cn_pos (p := fun k => R.testBit k) hl.1 hl.2
    unfold pp8 at h
    omega
theorem lk_stab {off : Nat} : ∀ k k' R, R < 256 → pp8 R ≤ k → pp8 R ≤ k' → lk off k R = lk off k' R := by
  intro k
  induction k with
  | zero =>
    intro k' R hR h1 h2
    have : R = 0 := pp8_0 hR (by omega)
    subst this
    cases k' with
    | zero => rfl
    | succ k' => unfold lk; rw [if_pos rfl]
  | succ k ih =>
    intro k' R hR h1 h2
    by_cases c : R = 0
    · subst c
      cases k' with
      | zero => unfold lk; rw [if_pos rfl]
      | succ k' => unfold lk; rw [if_pos rfl, if_pos rfl]
    · cases k' with
      | zero => exact absurd (pp8_0 hR (by omega)) c
      | succ k' =>
        unfold lk
        rw [if_neg c, if_neg c]
        apply mnf_congr
        intro q _ hq
        unfold plo at hq
        rw [Bool.and_eq_true] at hq
        have := pp8_dif hR c hq.1
        rw [ih k' _ (dif_lt _ _) (by omega) (by omega)]
/-- how few cubes hold R and nothing of off -/
def mu (off R : Nat) : Nat := lk off 8 R
theorem mu_0 (off : Nat) : mu off 0 = 0 := by unfold mu lk; rw [if_pos rfl]
theorem pp8_le (R : Nat) : pp8 R ≤ 8 := cn_le
theorem mu_s {off R : Nat} (hR : R < 256) (h0 : ¬ R = 0) : mu off R = mnf (plo off R) (fun c => 1 + mu off (dif R (hh c))) 8 27 := by
  show (if R = 0 then 0 else mnf (plo off R) (fun c => 1 + lk off 7 (dif R (hh c))) 8 27) = _
  rw [if_neg h0]
  apply mnf_congr
  intro c _ hq
  unfold plo at hq
  rw [Bool.and_eq_true] at hq
  have h1 := pp8_dif hR h0 hq.1
  have h2 := pp8_le R
  rw [show mu off (dif R (hh c)) = lk off 8 (dif R (hh c)) from rfl, lk_stab 7 8 _ (dif_lt _ _) (by omega) (by omega)]
theorem mu_8 {off R : Nat} (hR : R < 256) : mu off R ≤ 8 := by
  by_cases c : R = 0
  · rw [c, mu_0]; omega
  · rw [mu_s hR c]; exact mnf_i _ _ _ _
/-- cubes that hold -/
def cvl (off R : Nat) (l : List Nat) : Prop := (∀ c, c ∈ l → c < 27 ∧ okc off c = true) ∧ ∀ b, R.testBit b = true → ∃ c, c ∈ l ∧ (hh c).testBit b = true
theorem mu_le {off : Nat} : ∀ (k : Nat) (l : List Nat) (R : Nat), l.length = k → R < 256 → cvl off R l → mu off R ≤ l.length := by
  intro k
  induction k with
  | zero =>
    intro l R hk hR h
    by_cases c : R = 0
    · rw [c, mu_0]; omega
    · obtain ⟨c, hc, _⟩ := h.2 _ (lo_ok hR c).2
      have := List.length_pos_of_mem hc
      omega
  | succ k ih =>
    intro l R hk hR h
    by_cases c0 : R = 0
    · rw [c0, mu_0]; omega
    · obtain ⟨c, hc, hb⟩ := h.2 _ (lo_ok hR c0).2
      have hl : (l.erase c).length = k := by rw [List.length_erase_of_mem hc]; omega
      have hcv : cvl off (dif R (hh c)) (l.erase c) := by
        refine ⟨fun d hd => h.1 d (List.mem_of_mem_erase hd), ?_⟩
        intro b hbit
        rw [dif_tb hR, Bool.and_eq_true] at hbit
        obtain ⟨d, hd, hdb⟩ := h.2 b hbit.1
        refine ⟨d, ?_, hdb⟩
        refine (List.mem_erase_of_ne ?_).mpr hd
        intro e
        rw [e] at hdb
        rw [hdb] at hbit
        exact absurd hbit.2 (by decide)
      have h1 := ih _ _ hl (dif_lt R (hh c)) hcv
      have h2 : mu off R ≤ 1 + mu off (dif R (hh c)) := by
        rw [mu_s hR c0]
        exact mnf_le (P := plo off R) (f := fun c => 1 + mu off (dif R (hh c))) (by unfold plo; rw [hb, (h.1 c hc).2]; rfl) 27 (h.1 c hc).1
      omega
/-- one code alone -/
def sgc (b : Nat) : Nat := ([0, 1, 3, 4, 9, 10, 12, 13] : List Nat).getD b 0
theorem sgc_ok : ∀ b, b < 8 → hh (sgc b) = 2 ^ b ∧ sgc b < 27 := by decide
theorem fl_cn {p : Nat → Bool} : ∀ k, (fl p k).length = cn k p := by
  intro k
  induction k with
  | zero => rfl
  | succ k ih =>
    cases e : p k with
    | true => rw [fl_t e, List.length_append, ih]; conv => rhs; unfold cn
              rw [e]; rfl
    | false => rw [fl_f e, ih]; conv => rhs; unfold cn
               rw [e]; rfl
theorem sg_cvl {off R : Nat} (hR : R < 256) (hd : R &&& off = 0) : cvl off R ((fl (fun k => R.testBit k) 8).map sgc) := by
  refine ⟨?_, ?_⟩
  · intro c hc
    obtain ⟨b, hb, rfl⟩ := List.mem_map.mp hc
    have hb2 := fl_mem.mp hb
    have hs := sgc_ok b hb2.1
    refine ⟨hs.2, ?_⟩
    unfold okc
    apply decide_eq_true
    rw [hs.1]
    apply Nat.eq_of_testBit_eq
    intro k
    rw [Nat.testBit_and, Nat.testBit_two_pow, Nat.zero_testBit]
    by_cases e : b = k
    · have h1 : (R &&& off).testBit k = false := by rw [hd, Nat.zero_testBit]
      rw [Nat.testBit_and, ← e, hb2.2] at h1
      rw [← e]
      rw [Bool.true_and] at h1
      rw [h1, Bool.and_false]
    · rw [decide_eq_false e]; rfl
  · intro b hb
    have h8 : b < 8 := by
      rcases Nat.lt_or_ge b 8 with c | c
      · exact c
      · rw [tb_hi hR c] at hb; cases hb
    refine ⟨sgc b, List.mem_map.mpr ⟨b, fl_mem.mpr ⟨h8, hb⟩, rfl⟩, ?_⟩
    rw [(sgc_ok b h8).1, Nat.testBit_two_pow_self]
theorem mu_pp {off R : Nat} (hR : R < 256) (hd : R &&& off = 0) : mu off R ≤ pp8 R := by
  have := mu_le _ _ R rfl hR (sg_cvl hR hd)
  rw [List.length_map, fl_cn] at this
  exact this
theorem dif_dj {off R H : Nat} (hR : R < 256) (hd : R &&& off = 0) : dif R H &&& off = 0 := by
  apply Nat.eq_of_testBit_eq
  intro k
  have : (R &&& off).testBit k = false := by rw [hd, Nat.zero_testBit]
  rw [Nat.testBit_and] at this
  rw [Nat.testBit_and, dif_tb hR, Nat.zero_testBit]
  cases h1 : R.testBit k <;> cases h2 : off.testBit k <;> cases H.testBit k <;> simp_all
theorem mu_ex {off : Nat} : ∀ (n R : Nat), pp8 R ≤ n → R < 256 → R &&& off = 0 → ∃ l : List Nat, cvl off R l ∧ l.length = mu off R ∧ ∀ c, c ∈ l → ∃ b, R.testBit b = true ∧ (hh c).testBit b = true := by
  intro n
  induction n with
  | zero =>
    intro R hp hR hd
    have : R = 0 := pp8_0 hR (by omega)
    subst this
    exact ⟨[], ⟨fun c hc => absurd hc List.not_mem_nil, fun b hb => by rw [Nat.zero_testBit] at hb; cases hb⟩, by rw [mu_0]; rfl, fun c hc => absurd hc List.not_mem_nil⟩
  | succ n ih =>
    intro R hp hR hd
    by_cases c0 : R = 0
    · subst c0
      exact ⟨[], ⟨fun c hc => absurd hc List.not_mem_nil, fun b hb => by rw [Nat.zero_testBit] at hb; cases hb⟩, by rw [mu_0]; rfl, fun c hc => absurd hc List.not_mem_nil⟩
    · rcases mnf_at (P := plo off R) (f := fun c => 1 + mu off (dif R (hh c))) (i := 8) 27 with h | ⟨c, h1, h2, h3⟩
      · rw [← mu_s hR c0] at h
        have h1 := mu_pp hR hd
        have h2 := pp8_le R
        refine ⟨_, sg_cvl hR hd, ?_, ?_⟩
        · rw [List.length_map, fl_cn]
          show pp8 R = _
          omega
        · intro c hc
          obtain ⟨b, hb, rfl⟩ := List.mem_map.mp hc
          have hb2 := fl_mem.mp hb
          refine ⟨b, hb2.2, ?_⟩
          rw [(sgc_ok b hb2.1).1, Nat.testBit_two_pow_self]
      · rw [← mu_s hR c0] at h3
        have h2' := h2
        unfold plo at h2'
        rw [Bool.and_eq_true] at h2'
        have hpd := pp8_dif hR c0 h2'.1
        obtain ⟨l, l1, l2, l3⟩ := ih (dif R (hh c)) (by omega) (dif_lt _ _) (dif_dj hR hd)
        refine ⟨c :: l, ⟨?_, ?_⟩, ?_, ?_⟩
        · intro d hd
          rcases List.mem_cons.mp hd with rfl | hd
          · exact ⟨h1, h2'.2⟩
          · exact l1.1 d hd
        · intro b hb
          cases e : (hh c).testBit b with
          | true => exact ⟨c, List.mem_cons_self, e⟩
          | false =>
            obtain ⟨d, d1, d2⟩ := l1.2 b (by rw [dif_tb hR, hb, e]; rfl)
            exact ⟨d, List.mem_cons_of_mem _ d1, d2⟩
        · rw [List.length_cons, l2, h3]; omega
        · intro d hd
          rcases List.mem_cons.mp hd with rfl | hd
          · exact ⟨lo R, (lo_ok hR c0).2, h2'.1⟩
          · obtain ⟨b, b1, b2⟩ := l3 d hd
            rw [dif_tb hR, Bool.and_eq_true] at b1
            exact ⟨b, b1.1, b2⟩
