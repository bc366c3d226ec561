/-! the best codes: what does not change -/
def tr (b k : Nat) : Nat := if k = b then b - 1 else if k + 1 = b then b else k
def sw (b x : Nat) : Nat := mkn 3 (fun k => x.testBit (tr b k))
theorem sw_lt : ∀ v, v < 4 → ∀ b, b < v → 0 < b → ∀ x, x < 2 ^ v → sw b x < 2 ^ v := by decide +kernel
theorem sw_8 (b x : Nat) : sw b x < 8 := mkn_lt 3 _
theorem sw_sw : ∀ b, b < 3 → 0 < b → ∀ x, x < 8 → sw b (sw b x) = x := by decide +kernel
theorem sw_tb : ∀ b, b < 3 → 0 < b → ∀ x, x < 8 → ∀ k, k < 3 → (sw b x).testBit k = x.testBit (tr b k) := by decide +kernel
theorem tr_lt : ∀ b, b < 3 → 0 < b → ∀ k, k < 3 → tr b k < 3 := by decide
theorem tr_tr : ∀ b, b < 3 → 0 < b → ∀ k, k < 3 → tr b (tr b k) = k := by decide
theorem sw_pcn : ∀ b, b < 3 → 0 < b → ∀ x, x < 8 → pcn (sw b x) = pcn x := by decide +kernel
theorem sw_eqb : ∀ b, b < 3 → 0 < b → ∀ x, x < 8 → ∀ y, y < 8 → ∀ S, S < 8 → decide ((sw b x ^^^ sw b y) &&& S = 0) = decide ((x ^^^ y) &&& sw b S = 0) := by decide +kernel
theorem sw_pow : ∀ b, b < 3 → 0 < b → ∀ k, k < 3 → sw b (2 ^ k) = 2 ^ tr b k := by decide +kernel
theorem sw_same : ∀ b, b < 3 → 0 < b → ∀ x, x < 8 → x.testBit b = x.testBit (b - 1) → sw b x = x := by decide +kernel
theorem sw_less : ∀ b, b < 3 → 0 < b → ∀ x, x < 8 → x.testBit b = true → x.testBit (b - 1) = false → sw b x < x := by decide +kernel
theorem full_eq : ∀ v, v < 4 → ∀ x, x < 2 ^ v → ∀ y, y < 2 ^ v → (x ^^^ y) &&& (2 ^ v - 1) = 0 → x = y := by decide +kernel
theorem p28 {b : Nat} (hb : b < 3) : 2 ^ b < 8 := by rcases (show b = 0 ∨ b = 1 ∨ b = 2 from by omega) with rfl | rfl | rfl <;> decide
theorem prp_8 {n : Nat} {c : Nat → Nat} (hn : n ≤ 6) (h : prp n c) {s : Nat} (hs : s < n) : c s < 8 := by
  have := nb_pow n (by omega)
  have := h.2 s hs
  omega
theorem ff_ext {k : Nat} {p q : Nat → Bool} (h : ∀ i, i < k → p i = q i) : ff k p = ff k q := by
  cases e : ff k q with
  | none => exact ff_none.mpr fun i hi => (h i hi).trans (ff_none.mp e i hi)
  | some i =>
    have := ff_some.mp e
    exact ff_some.mpr ⟨this.1, (h i this.1).trans this.2.1, fun j hj => (h j (by omega)).trans (this.2.2 j hj)⟩
theorem al_ext {k : Nat} {p q : Nat → Bool} (h : ∀ i, i < k → p i = q i) : al k p = al k q := by
  induction k with
  | zero => rfl
  | succ k ih => rw [al, al, ih (fun i hi => h i (by omega)), h k (by omega)]
/-- hanging, if codes change alike -/
theorem hng_tr {n m b b' S S' : Nat} {w : aT} {c c' : Nat → Nat} (V : Vd n m w) (h1 : ∀ a d, a < n → d < n → eqb c' S' a d = eqb c S a d) (h2 : ∀ a d, a < n → d < n → eqb c' (2 ^ b') a d = eqb c (2 ^ b) a d) : hng n m w c' b' S' = hng n m w c b S := by
  unfold hng
  apply al_ext
  intro a ha
  apply al_ext
  intro d hd
  rw [h1 a d ha (by omega)]
  congr 1
  apply al_ext
  intro x hx
  unfold hnx
  cases e1 : w.1 a x with
  | none => rfl
  | some p =>
    cases e2 : w.1 d x with
    | none => rfl
    | some q => exact h2 p q (V.1 a x p e1).2.2 (V.1 d x q e2).2.2
theorem hso_spec {n m b S : Nat} {w : aT} {c : Nat → Nat} (h : hso n m w c b = some S) : S < 2 ^ nb n ∧ hng n m w c b S = true ∧ ∀ T, T < 2 ^ nb n → T < 8 → hng n m w c b T = true → pcn S ≤ pcn T := by
  unfold hso at h
  cases e : ff 8 (fun i => decide (bzs i < 2 ^ nb n) && hng n m w c b (bzs i)) with
  | none => rw [e] at h; cases h
  | some i =>
    rw [e] at h
    cases h
    have := ff_some.mp e
    have h2 := this.2.1
    rw [Bool.and_eq_true] at h2
    refine ⟨of_decide_eq_true h2.1, h2.2, ?_⟩
    intro T hT h8 hh
    obtain ⟨j, hj, rfl⟩ := bzs_sur T h8
    rcases Nat.lt_trichotomy j i with c1 | c1 | c1
    · have := this.2.2 j c1
      rw [decide_eq_true hT, hh] at this
      cases this
    · rw [c1]; exact Nat.le_refl _
    · rcases bzs_ord j hj i c1 with o | o <;> omega
theorem hso_some {n m b : Nat} {w : aT} {c : Nat → Nat} (hn : n ≤ 6) (hp : prp n c) : ∃ S, hso n m w c b = some S := by
  cases e : hso n m w c b with
  | some S => exact ⟨S, rfl⟩
  | none =>
    exfalso
    have hb3 := nb_le n
    have hw := nb_pow n (by omega)
    have hpos : 0 < 2 ^ nb n := Nat.pow_pos (by omega)
    unfold hso at e
    cases e2 : ff 8 (fun i => decide (bzs i < 2 ^ nb n) && hng n m w c b (bzs i)) with
    | some i => rw [e2] at e; cases e
    | none =>
      obtain ⟨j, hj, ej⟩ := bzs_sur (2 ^ nb n - 1) (by omega)
      have := ff_none.mp e2 j hj
      rw [ej, decide_eq_true (by omega), Bool.true_and] at this
      have h3 : hng n m w c b (2 ^ nb n - 1) = true := by
        unfold hng
        rw [al_iff]
        intro a ha
        rw [al_iff]
        intro d hd
        have : eqb c (2 ^ nb n - 1) a d = false := by
          unfold eqb
          apply decide_eq_false
          intro h0
          have := full_eq (nb n) (by omega) _ (hp.2 a ha) _ (hp.2 d (by omega)) h0
          have := hp.1 a d ha (by omega) this
          omega
        rw [this]; rfl
      rw [h3] at this; cases this
def hgs (n m : Nat) (w : aT) (c : Nat → Nat) (b : Nat) : Nat := pcn ((hso n m w c b).getD 0)
theorem cosk_sum {n m : Nat} {w : aT} {c : Nat → Nat} (hn : n ≤ 6) (hp : prp n c) : ∀ k, cosk n m w c k = some (ssum k (hgs n m w c)) := by
  intro k
  induction k with
  | zero => rfl
  | succ k ih =>
    obtain ⟨S, hS⟩ := hso_some (b := k) (m := m) (w := w) hn hp
    show (match cosk n m w c k, hso n m w c k with
      | some s, some S => some (s + pcn S)
      | _, _ => none) = some (ssum k (hgs n m w c) + hgs n m w c k)
    rw [ih, hS]
    unfold hgs
    rw [hS]; rfl
theorem hgs_tr {n m b b' : Nat} {w : aT} {c c' : Nat → Nat} (hn : n ≤ 6) (hp : prp n c) (hp' : prp n c') (f : Nat → Nat) (hf : ∀ S, S < 2 ^ nb n → S < 8 → f S < 2 ^ nb n ∧ f S < 8 ∧ pcn (f S) = pcn S) (h : ∀ S, S < 8 → hng n m w c' b' S = hng n m w c b (f S)) (h' : ∀ S, S < 8 → hng n m w c b S = hng n m w c' b' (f S)) : hgs n m w c' b' = hgs n m w c b := by
  obtain ⟨S, hS⟩ := hso_some (b := b) (m := m) (w := w) hn hp
  obtain ⟨S', hS'⟩ := hso_some (b := b') (m := m) (w := w) hn hp'
  have a := hso_spec hS
  have a' := hso_spec hS'
  have l := hso_lt hS
  have l' := hso_lt hS'
  unfold hgs
  rw [hS, hS']
  show pcn S' = pcn S
  have f1 := hf S a.1 l
  have f2 := hf S' a'.1 l'
  have r1 := a'.2.2 (f S) f1.1 f1.2.1 (by rw [← h' S l]; exact a.2.1)
  have r2 := a.2.2 (f S') f2.1 f2.2.1 (by rw [← h S' l']; exact a'.2.1)
  omega
theorem sw_prp {n b : Nat} {c : Nat → Nat} (hn : n ≤ 6) (hp : prp n c) (hb : b < nb n) (hb0 : 0 < b) : prp n (fun s => sw b (c s)) := by
  have hb3 := nb_le n
  refine ⟨?_, fun s hs => sw_lt (nb n) (by omega) b hb hb0 _ (hp.2 s hs)⟩
  intro s s' hs hs' e
  dsimp only at e
  apply hp.1 s s' hs hs'
  rw [← sw_sw b (by omega) hb0 (c s) (prp_8 hn hp hs), e, sw_sw b (by omega) hb0 (c s') (prp_8 hn hp hs')]
theorem ssum_tr {v b : Nat} (hv : v ≤ 3) (hb : b < v) (hb0 : 0 < b) (g : Nat → Nat) : ssum v (fun k => g (tr b k)) = ssum v g := by
  rcases (show (v = 2 ∧ b = 1) ∨ (v = 3 ∧ b = 1) ∨ (v = 3 ∧ b = 2) from by omega) with ⟨rfl, rfl⟩ | ⟨rfl, rfl⟩ | ⟨rfl, rfl⟩
  · show 0 + g 1 + g 0 = 0 + g 0 + g 1; omega
  · show 0 + g 1 + g 0 + g 2 = 0 + g 0 + g 1 + g 2; omega
  · show 0 + g 0 + g 2 + g 1 = 0 + g 0 + g 1 + g 2; omega
theorem ssum_ext {f g : Nat → Nat} : ∀ n, (∀ i, i < n → f i = g i) → ssum n f = ssum n g := by
  intro n
  induction n with
  | zero => intro _; rfl
  | succ n ih => intro h; show ssum n f + f n = ssum n g + g n; rw [ih (fun i hi => h i (by omega)), h n (by omega)]
theorem cost_sw {n m b : Nat} {w : aT} {c : Nat → Nat} (hn : n ≤ 6) (V : Vd n m w) (hp : prp n c) (hb : b < nb n) (hb0 : 0 < b) : cosk n m w (fun s => sw b (c s)) (nb n) = cosk n m w c (nb n) := by
  have hb3 := nb_le n
  have hp' := sw_prp hn hp hb hb0
  have e8 : ∀ s, s < n → c s < 8 := fun s hs => prp_8 hn hp hs
  have q1 : ∀ S, S < 8 → ∀ a d, a < n → d < n → eqb (fun s => sw b (c s)) S a d = eqb c (sw b S) a d := fun S hS a d ha hd => sw_eqb b (by omega) hb0 _ (e8 a ha) _ (e8 d hd) S hS
  have hg : ∀ k, k < nb n → hgs n m w (fun s => sw b (c s)) k = hgs n m w c (tr b k) := by
    intro k hk
    have q2 : ∀ a d, a < n → d < n → eqb (fun s => sw b (c s)) (2 ^ k) a d = eqb c (2 ^ tr b k) a d := by
      intro a d ha hd
      rw [q1 (2 ^ k) (p28 (by omega)) a d ha hd, sw_pow b (by omega) hb0 k (by omega)]
    refine hgs_tr hn hp hp' (sw b) (fun S h1 h2 => ⟨sw_lt (nb n) (by omega) b hb hb0 S h1, sw_8 b S, sw_pcn b (by omega) hb0 S h2⟩) ?_ ?_
    · intro S hS
      exact hng_tr V (q1 S hS) q2
    · intro S hS
      refine (hng_tr V ?_ q2).symm
      intro a d ha hd
      rw [q1 (sw b S) (sw_8 b S) a d ha hd, sw_sw b (by omega) hb0 S hS]
  rw [cosk_sum hn hp', cosk_sum hn hp, ssum_ext (nb n) hg, ssum_tr hb3 hb hb0 (hgs n m w c)]
theorem xor_xor_4 (x y z : Nat) : (x ^^^ z) ^^^ (y ^^^ z) = x ^^^ y := by
  apply Nat.eq_of_testBit_eq
  intro k
  rw [Nat.testBit_xor, Nat.testBit_xor, Nat.testBit_xor, Nat.testBit_xor]
  cases x.testBit k <;> cases y.testBit k <;> cases z.testBit k <;> rfl
theorem xor_0 {x y : Nat} (h : x ^^^ y = 0) : x = y := by
  apply Nat.eq_of_testBit_eq
  intro k
  have h2 : (x ^^^ y).testBit k = false := by rw [h, Nat.zero_testBit]
  rw [Nat.testBit_xor] at h2
  cases e1 : x.testBit k <;> cases e2 : y.testBit k <;> rw [e1, e2] at h2 <;> first | rfl | cases h2
theorem xr_prp {n z : Nat} {c : Nat → Nat} (hp : prp n c) (hz : z < 2 ^ nb n) : prp n (fun s => c s ^^^ z) := by
  refine ⟨?_, fun s hs => Nat.xor_lt_two_pow (hp.2 s hs) hz⟩
  intro s s' hs hs' e
  apply hp.1 s s' hs hs'
  dsimp only at e
  have h0 : (c s ^^^ z) ^^^ (c s' ^^^ z) = 0 := by rw [e, Nat.xor_self]
  rw [xor_xor_4] at h0
  exact xor_0 h0
theorem cosk_ext {n m : Nat} {w : aT} {c c' : Nat → Nat} (V : Vd n m w) (h : ∀ S a d, a < n → d < n → eqb c' S a d = eqb c S a d) : ∀ k, cosk n m w c' k = cosk n m w c k := by
  intro k
  induction k with
  | zero => rfl
  | succ k ih =>
    have : hso n m w c' k = hso n m w c k := by
      unfold hso
      rw [ff_ext (q := fun i => decide (bzs i < 2 ^ nb n) && hng n m w c k (bzs i))]
      intro i _
      rw [hng_tr V (h (bzs i)) (h (2 ^ k))]
    unfold cosk
    rw [ih, this]
theorem cost_xr {n m z : Nat} {w : aT} {c : Nat → Nat} (V : Vd n m w) : cosk n m w (fun s => c s ^^^ z) (nb n) = cosk n m w c (nb n) := by
  apply cosk_ext V
  intro S a d _ _
  unfold eqb
  dsimp only
  rw [xor_xor_4]
/-- sums -/
theorem mu_mono {off off' R R' : Nat} (hR : R < 256) (hR' : R' < 256) (hd : R' &&& off' = 0) (h1 : ∀ k, R.testBit k = true → R'.testBit k = true) (h2 : ∀ k, off.testBit k = true → off'.testBit k = true) : mu off R ≤ mu off' R' := by
  obtain ⟨l, l1, l2, _⟩ := mu_ex 8 R' (pp8_le R') hR' hd
  rw [← l2]
  refine mu_le _ l R rfl hR ⟨?_, fun b hb => l1.2 b (h1 b hb)⟩
  intro c hc
  refine ⟨(l1.1 c hc).1, ?_⟩
  have h3 := of_decide_eq_true (l1.1 c hc).2
  apply decide_eq_true
  apply Nat.eq_of_testBit_eq
  intro k
  have h4 : (hh c &&& off').testBit k = false := by rw [h3, Nat.zero_testBit]
  rw [Nat.testBit_and] at h4
  rw [Nat.testBit_and, Nat.zero_testBit]
  cases e : off.testBit k with
  | false => rw [Bool.and_false]
  | true => rw [h2 k e, Bool.and_true] at h4; rw [h4]; rfl
theorem cmu_mono {w : aT} {c : Nat → Nat} {ns ns' x b : Nat} (h : ns ≤ ns') (hi : inj6 c ns') : cmu w c ns x b ≤ cmu w c ns' x b := by
  refine mu_mono (onS_lt _ _ _ _ _) (onS_lt _ _ _ _ _) (onof hi) ?_ ?_
  · intro k hk
    unfold onS at hk ⊢
    rw [mkn_tb, Bool.and_eq_true] at hk
    rw [mkn_tb, hk.1, Bool.true_and]
    obtain ⟨s, hs, h1⟩ := ex_iff.mp hk.2
    obtain ⟨t, a1, a2, a3, a4⟩ := onb_iff.mp h1
    exact ex_iff.mpr ⟨s, by omega, onb_iff.mpr ⟨t, a1, by omega, a3, a4⟩⟩
  · intro k hk
    unfold ofS at hk ⊢
    rw [mkn_tb, Bool.and_eq_true] at hk
    rw [mkn_tb, hk.1, Bool.true_and]
    obtain ⟨s, hs, h1⟩ := ex_iff.mp hk.2
    obtain ⟨t, a1, a2, a3, a4⟩ := ofb_iff.mp h1
    exact ex_iff.mpr ⟨s, by omega, ofb_iff.mpr ⟨t, a1, by omega, a3, a4⟩⟩
theorem smT_mono {w : aT} {c : Nat → Nat} {ns ns' m v : Nat} (h : ns ≤ ns') (hi : inj6 c ns') : smT w c ns m v ≤ smT w c ns' m v := ssum_ge m (fun x _ => ssum_ge v (fun b _ => cmu_mono h hi))
theorem cmu_ext {w : aT} {c c' : Nat → Nat} {ns x b : Nat} (h : ∀ s, s < ns → c s = c' s) : cmu w c ns x b = cmu w c' ns x b := by
  have h1 : onS w c ns x b = onS w c' ns x b := by
    apply tb_ext8 (onS_lt _ _ _ _ _) (onS_lt _ _ _ _ _)
    intro k hk
    unfold onS
    rw [mkn_tb, mkn_tb]
    congr 1
    apply ex_congr
    intro s hs
    unfold onb
    cases e : w.1 s x with
    | none => rfl
    | some t =>
      dsimp only
      by_cases ct : t < ns
      · rw [h s hs, h t ct]
      · rw [decide_eq_false ct]; rfl
  have h2 : ofS w c ns x b = ofS w c' ns x b := by
    apply tb_ext8 (ofS_lt _ _ _ _ _) (ofS_lt _ _ _ _ _)
    intro k hk
    unfold ofS
    rw [mkn_tb, mkn_tb]
    congr 1
    apply ex_congr
    intro s hs
    unfold ofb
    cases e : w.1 s x with
    | none => rfl
    | some t =>
      dsimp only
      by_cases ct : t < ns
      · rw [h s hs, h t ct]
      · rw [decide_eq_false ct]; rfl
  unfold cmu
  rw [h1, h2]
theorem smT_ext {w : aT} {c c' : Nat → Nat} {ns m v : Nat} (h : ∀ s, s < ns → c s = c' s) : smT w c ns m v = smT w c' ns m v := ssum_ext m (fun x _ => ssum_ext v (fun b _ => cmu_ext h))
/-- cubes under changed places -/
def swS (b R : Nat) : Nat := mkn 8 (fun j => R.testBit (sw b j))
def swC (b c : Nat) : Nat := if b = 1 then c / 3 % 3 + 3 * (c % 3) + 9 * (c / 9) else c % 3 + 3 * (c / 9) + 9 * (c / 3 % 3)
theorem swC_lt : ∀ b, b < 3 → ∀ c, c < 27 → swC b c < 27 := by decide +kernel
theorem swC_ok : ∀ b, b < 3 → 0 < b → ∀ c, c < 27 → ∀ j, j < 8 → (hh (swC b c)).testBit j = (hh c).testBit (sw b j) := by decide +kernel
theorem swS_lt (b R : Nat) : swS b R < 256 := mkn_lt 8 _
theorem swS_tb {b R j : Nat} (hj : j < 8) : (swS b R).testBit j = R.testBit (sw b j) := by
  unfold swS
  rw [mkn_tb, decide_eq_true hj, Bool.true_and]
theorem swS_swS {b R : Nat} (hb : b < 3) (hb0 : 0 < b) (hR : R < 256) : swS b (swS b R) = R := by
  apply tb_ext8 (swS_lt _ _) hR
  intro j hj
  rw [swS_tb hj, swS_tb (sw_8 b j), sw_sw b hb hb0 j hj]
theorem mu_sw_le {b off R : Nat} (hb : b < 3) (hb0 : 0 < b) (hR : R < 256) (hd : R &&& off = 0) : mu (swS b off) (swS b R) ≤ mu off R := by
  obtain ⟨l, l1, l2, _⟩ := mu_ex 8 R (pp8_le R) hR hd
  rw [← l2, ← List.length_map (swC b)]
  refine mu_le _ _ _ rfl (swS_lt _ _) ⟨?_, ?_⟩
  · intro c hc
    obtain ⟨d, hd, rfl⟩ := List.mem_map.mp hc
    have h1 := l1.1 d hd
    refine ⟨swC_lt b hb d h1.1, ?_⟩
    have h3 := of_decide_eq_true h1.2
    apply decide_eq_true
    apply Nat.eq_of_testBit_eq
    intro k
    rw [Nat.testBit_and, Nat.zero_testBit]
    by_cases c8 : k < 8
    · rw [swC_ok b hb hb0 d h1.1 k c8, swS_tb c8, ← Nat.testBit_and, h3, Nat.zero_testBit]
    · rw [tb_hi (hh_lt _ (swC_lt b hb d h1.1)) (by omega)]; rfl
  · intro k hk
    have c8 : k < 8 := by
      rcases Nat.lt_or_ge k 8 with c | c
      · exact c
      · rw [tb_hi (swS_lt _ _) c] at hk; cases hk
    rw [swS_tb c8] at hk
    obtain ⟨d, d1, d2⟩ := l1.2 _ hk
    refine ⟨swC b d, List.mem_map.mpr ⟨d, d1, rfl⟩, ?_⟩
    rw [swC_ok b hb hb0 d (l1.1 d d1).1 k c8]; exact d2
theorem swS_dj {b off R : Nat} (hd : R &&& off = 0) : swS b R &&& swS b off = 0 := by
  apply Nat.eq_of_testBit_eq
  intro k
  rw [Nat.testBit_and, Nat.zero_testBit]
  by_cases c8 : k < 8
  · rw [swS_tb c8, swS_tb c8, ← Nat.testBit_and, hd, Nat.zero_testBit]
  · rw [tb_hi (swS_lt _ _) (by omega)]; rfl
theorem mu_sw {b off R : Nat} (hb : b < 3) (hb0 : 0 < b) (hR : R < 256) (hoff : off < 256) (hd : R &&& off = 0) : mu (swS b off) (swS b R) = mu off R := by
  apply Nat.le_antisymm (mu_sw_le hb hb0 hR hd)
  have := mu_sw_le (b := b) (off := swS b off) (R := swS b R) hb hb0 (swS_lt _ _) (swS_dj hd)
  rw [swS_swS hb hb0 hR, swS_swS hb hb0 hoff] at this
  exact this
theorem onS_sw {b ns x k : Nat} {w : aT} {c : Nat → Nat} (hb : b < 3) (hb0 : 0 < b) (hk : k < 3) (h8 : ∀ s, s < ns → c s < 8) : onS w (fun s => sw b (c s)) ns x k = swS b (onS w c ns x (tr b k)) ∧ ofS w (fun s => sw b (c s)) ns x k = swS b (ofS w c ns x (tr b k)) := by
  have key : ∀ s, s < ns → ∀ j, j < 8 → (sw b (c s) = j ↔ c s = sw b j) := by
    intro s hs j hj
    constructor
    · intro e; rw [← e, sw_sw b hb hb0 _ (h8 s hs)]
    · intro e; rw [e, sw_sw b hb hb0 _ hj]
  constructor
  · apply tb_ext8 (onS_lt _ _ _ _ _) (swS_lt _ _)
    intro j hj
    rw [swS_tb hj]
    unfold onS
    rw [mkn_tb, mkn_tb, decide_eq_true hj, decide_eq_true (sw_8 b j), Bool.true_and, Bool.true_and]
    apply ex_congr
    intro s hs
    unfold onb
    cases e : w.1 s x with
    | none => rfl
    | some t =>
      dsimp only
      by_cases ct : t < ns
      · rw [sw_tb b hb hb0 _ (h8 t ct) k hk]
        by_cases e1 : sw b (c s) = j
        · rw [decide_eq_true e1, decide_eq_true ((key s hs j hj).mp e1)]
        · rw [decide_eq_false e1, decide_eq_false (fun h => e1 ((key s hs j hj).mpr h))]
      · rw [decide_eq_false ct]; rfl
  · apply tb_ext8 (ofS_lt _ _ _ _ _) (swS_lt _ _)
    intro j hj
    rw [swS_tb hj]
    unfold ofS
    rw [mkn_tb, mkn_tb, decide_eq_true hj, decide_eq_true (sw_8 b j), Bool.true_and, Bool.true_and]
    apply ex_congr
    intro s hs
    unfold ofb
    cases e : w.1 s x with
    | none => rfl
    | some t =>
      dsimp only
      by_cases ct : t < ns
      · rw [sw_tb b hb hb0 _ (h8 t ct) k hk]
        by_cases e1 : sw b (c s) = j
        · rw [decide_eq_true e1, decide_eq_true ((key s hs j hj).mp e1)]
        · rw [decide_eq_false e1, decide_eq_false (fun h => e1 ((key s hs j hj).mpr h))]
      · rw [decide_eq_false ct]; rfl
theorem sum_sw {n m b : Nat} {w : aT} {c : Nat → Nat} (hn : n ≤ 6) (hp : prp n c) (hb : b < nb n) (hb0 : 0 < b) : smT w (fun s => sw b (c s)) n m (nb n) = smT w c n m (nb n) := by
  have hb3 := nb_le n
  have h8 : ∀ s, s < n → c s < 8 := fun s hs => prp_8 hn hp hs
  unfold smT
  apply ssum_ext
  intro x _
  rw [← ssum_tr hb3 hb hb0 (fun k => cmu w c n x k)]
  apply ssum_ext
  intro k hk
  have := onS_sw (w := w) (x := x) (show b < 3 from by omega) hb0 (show k < 3 from by omega) h8
  unfold cmu
  rw [this.1, this.2]
  exact mu_sw (by omega) hb0 (onS_lt _ _ _ _ _) (ofS_lt _ _ _ _ _) (onof hp.1)
