/-! the best codes: what is looked for -/
def wor (n m : Nat) (w : aT) (y : Nat) (c : Nat → Nat) : Nat := if y = 0 then (cosk n m w c (nb n)).getD 0 else smT w c n m (nb n)
def BB (n m : Nat) (w : aT) (y v : Nat) (c : Nat → Nat) : Prop := prp n c ∧ wor n m w y c = v ∧ ∀ d, prp n d → v ≤ wor n m w y d ∧ (wor n m w y d = v → ¬ lx n d c)
theorem BB_uniq {n m y v v' : Nat} {w : aT} {c c' : Nat → Nat} (h : BB n m w y v c) (h' : BB n m w y v' c') : v = v' ∧ ∀ i, i < n → c i = c' i := by
  have a := h.2.2 c' h'.1
  have b := h'.2.2 c h.1
  have e1 := h.2.1
  have e2 := h'.2.1
  have ev : v = v' := by omega
  refine ⟨ev, ?_⟩
  rcases lx_tri n c c' with l | l | l
  · exact absurd l (b.2 (by omega))
  · exact absurd l (a.2 (by omega))
  · exact l
/-- the best by name -/
noncomputable def bsp (n m : Nat) (w : aT) (y : Nat) : Nat × (Nat → Nat) := Classical.epsilon (fun p : Nat × (Nat → Nat) => BB n m w y p.1 p.2)
theorem bsp_of {n m y v : Nat} {w : aT} {c : Nat → Nat} (h : BB n m w y v c) : v = (bsp n m w y).1 ∧ ∀ i, i < n → c i = (bsp n m w y).2 i := by
  have hs : BB n m w y (bsp n m w y).1 (bsp n m w y).2 := Classical.epsilon_spec (p := fun p : Nat × (Nat → Nat) => BB n m w y p.1 p.2) ⟨(v, c), h⟩
  exact BB_uniq h hs
theorem hng_w {n m : Nat} {w w' : aT} (h : w.1 = w'.1) : hng n m w = hng n m w' := by
  have e : hnx w = hnx w' := by
    funext c b a d x
    unfold hnx
    rw [h]
  funext c b S
  unfold hng
  rw [e]
theorem cosk_w {n m : Nat} {w w' : aT} (h : w.1 = w'.1) (c : Nat → Nat) : ∀ k, cosk n m w c k = cosk n m w' c k := by
  intro k
  induction k with
  | zero => rfl
  | succ k ih =>
    have : hso n m w c k = hso n m w' c k := by
      unfold hso
      rw [hng_w h]
    unfold cosk
    rw [ih, this]
theorem smT_w {w w' : aT} (h : w.1 = w'.1) : smT w = smT w' := by
  have e1 : onb w = onb w' := by
    funext c ns x b k s
    unfold onb
    rw [h]
  have e2 : ofb w = ofb w' := by
    funext c ns x b k s
    unfold ofb
    rw [h]
  have e3 : cmu w = cmu w' := by
    funext c ns x b
    unfold cmu onS ofS
    rw [e1, e2]
  funext c ns m v
  unfold smT
  rw [e3]
theorem wor_w {n m y : Nat} {w w' : aT} (h : w.1 = w'.1) : wor n m w y = wor n m w' y := by
  funext c
  unfold wor
  rw [cosk_w h, smT_w h]
theorem BB_w {n m y : Nat} {w w' : aT} (h : w.1 = w'.1) : BB n m w y = BB n m w' y := by
  funext v c
  unfold BB
  rw [wor_w h]
theorem wor_lt {n m y : Nat} {w : aT} {c : Nat → Nat} (hm : m ≤ 4) : wor n m w y c < 1000 := by
  have hb := nb_le n
  unfold wor
  by_cases e : y = 0
  · rw [if_pos e]
    cases e2 : cosk n m w c (nb n) with
    | none => show 0 < 1000; omega
    | some s => have := cosk_le e2; show s < 1000; omega
  · rw [if_neg e]
    have h1 := smT_le w c n m (nb n)
    have h2 : m * (nb n * 8) ≤ 4 * (3 * 8) := Nat.mul_le_mul hm (Nat.mul_le_mul hb (Nat.le_refl _))
    omega
theorem wor_ext {n m y : Nat} {w : aT} {c c' : Nat → Nat} (V : Vd n m w) (h : ∀ i, i < n → c i = c' i) : wor n m w y c = wor n m w y c' := by
  unfold wor
  rw [cosk_ext (c := c') (c' := c) V (fun S a d ha hd => by unfold eqb; rw [h a ha, h d hd]) (nb n), smT_ext h]
/-- the higher bit comes first -/
def FI (k : Nat) (c : Nat → Nat) (b : Nat) : Prop := ∃ s, s < k ∧ (c s).testBit b = true ∧ (c s).testBit (b - 1) = false ∧ ∀ j, j < s → (c j).testBit b = (c j).testBit (b - 1)
theorem FI_ext {k k' b : Nat} {c c' : Nat → Nat} (hk : k ≤ k') (h : ∀ i, i < k → c i = c' i) (hf : FI k c b) : FI k' c' b := by
  obtain ⟨s, h1, h2, h3, h4⟩ := hf
  exact ⟨s, by omega, by rw [← h s h1]; exact h2, by rw [← h s h1]; exact h3, fun j hj => by rw [← h j (by omega)]; exact h4 j hj⟩
def vld (n y : Nat) (c : Nat → Nat) : Prop := prp n c ∧ (∀ b, 0 < b → b < nb n → ¬ FI n c b) ∧ (y = 0 → 0 < n → c 0 = 0)
theorem lx_trans {k : Nat} {p q r : Nat → Nat} (h : lx k p q) (h' : lx k q r) : lx k p r := by
  obtain ⟨i, h1, h2, h3⟩ := h
  obtain ⟨i', h1', h2', h3'⟩ := h'
  rcases Nat.lt_trichotomy i i' with c | c | c
  · exact ⟨i, h1, by rw [← h3' i c]; exact h2, fun j hj => (h3 j hj).trans (h3' j (by omega))⟩
  · subst c
    exact ⟨i, h1, Nat.lt_trans h2 h2', fun j hj => (h3 j hj).trans (h3' j hj)⟩
  · exact ⟨i', h1', by rw [h3 i' c]; exact h2', fun j hj => (h3 j (by omega)).trans (h3' j hj)⟩
theorem vld_less {n m y : Nat} {w : aT} {c : Nat → Nat} (hn : n ≤ 6) (V : Vd n m w) (hp : prp n c) (h : ¬ vld n y c) : ∃ d, prp n d ∧ wor n m w y d = wor n m w y c ∧ lx n d c := by
  have hb3 := nb_le n
  by_cases hf : ∃ b, 0 < b ∧ b < nb n ∧ FI n c b
  · obtain ⟨b, hb0, hb, s, h1, h2, h3, h4⟩ := hf
    refine ⟨fun s => sw b (c s), sw_prp hn hp hb hb0, ?_, s, h1, ?_, ?_⟩
    · unfold wor
      rw [cost_sw hn V hp hb hb0, sum_sw hn hp hb hb0]
    · exact sw_less b (by omega) hb0 _ (prp_8 hn hp h1) h2 h3
    · intro j hj
      exact sw_same b (by omega) hb0 _ (prp_8 hn hp (by omega)) (h4 j hj)
  · have h5 : ¬ (y = 0 → 0 < n → c 0 = 0) := fun h6 => h ⟨hp, fun b h7 h8 h9 => hf ⟨b, h7, h8, h9⟩, h6⟩
    have hy : y = 0 := by
      by_cases e : y = 0
      · exact e
      · exact absurd (fun e' => absurd e' e) h5
    have hn0 : 0 < n := by
      by_cases e : 0 < n
      · exact e
      · exact absurd (fun _ e' => absurd e' e) h5
    have hc0 : ¬ c 0 = 0 := fun e => h5 (fun _ _ => e)
    refine ⟨fun s => c s ^^^ c 0, xr_prp hp (hp.2 0 hn0), ?_, 0, hn0, ?_, fun j hj => absurd hj (by omega)⟩
    · unfold wor
      rw [if_pos hy, if_pos hy, cost_xr V]
    · show c 0 ^^^ c 0 < c 0
      rw [Nat.xor_self]; omega
theorem BB_of {n m y v : Nat} {w : aT} {c : Nat → Nat} (hn : n ≤ 6) (V : Vd n m w) (hc : vld n y c) (hv : wor n m w y c = v) (h : ∀ d, vld n y d → v ≤ wor n m w y d ∧ (wor n m w y d = v → ¬ lx n d c)) : BB n m w y v c := by
  refine ⟨hc.1, hv, ?_⟩
  have key : ∀ k d, vlb 8 n d < k → prp n d → v ≤ wor n m w y d ∧ (wor n m w y d = v → ¬ lx n d c) := by
    intro k
    induction k with
    | zero => intro d hd; omega
    | succ k ih =>
      intro d hd hp
      by_cases e : vld n y d
      · exact h d e
      · obtain ⟨d', h1, h2, h3⟩ := vld_less (m := m) (w := w) hn V hp e
        have h4 := vlb_lt (B := 8) (p := d') (q := d) (fun i hi => prp_8 hn h1 hi) h3
        have h5 := ih d' (by omega) h1
        rw [h2] at h5
        exact ⟨h5.1, fun e1 l => h5.2 e1 (lx_trans h3 l)⟩
  exact fun d hd => key (vlb 8 n d + 1) d (by omega) hd
theorem id_b1 : ∀ s, s < 6 → s.testBit 1 = true → 1 < s := by decide
theorem id_b2 : ∀ s, s < 6 → s.testBit 2 = true → 2 < s := by decide
theorem vld_id {n y : Nat} (hn : n ≤ 6) : vld n y (fun s => s) := by
  have hb3 := nb_le n
  have hw := nb_pow n (by omega)
  refine ⟨⟨fun s s' _ _ e => e, fun s hs => by dsimp only; omega⟩, ?_, fun _ _ => rfl⟩
  rintro b hb0 hb ⟨s, h1, h2, h3, h4⟩
  rcases (show b = 1 ∨ b = 2 from by omega) with rfl | rfl
  · have h6 := id_b1 s (by omega) h2
    have := h4 1 (by omega)
    exact absurd this (by decide)
  · have h6 := id_b2 s (by omega) h2
    have := h4 2 (by omega)
    exact absurd this (by decide)
/-- what a part of the search has found -/
def PO (n m : Nat) (w : aT) (y lim : Nat) (D : (Nat → Nat) → Prop) (I I' : xI) : Prop := (I' 59 y = nt lim ∧ (∀ i, i < n → I' 58 (6 * y + i) = I 58 (6 * y + i)) ∧ ∀ d, vld n y d → D d → lim ≤ wor n m w y d) ∨ ∃ v c, v < lim ∧ I' 59 y = nt v ∧ (∀ i, i < n → I' 58 (6 * y + i) = nt (c i)) ∧ vld n y c ∧ D c ∧ wor n m w y c = v ∧ ∀ d, vld n y d → D d → v ≤ wor n m w y d ∧ (wor n m w y d = v → ¬ lx n d c)
theorem PO_lim {n m y lim : Nat} {w : aT} {D : (Nat → Nat) → Prop} {I I' : xI} (h : PO n m w y lim D I I') : ∃ v, v ≤ lim ∧ I' 59 y = nt v := by
  rcases h with ⟨h, _⟩ | ⟨v, c, h1, h2, _⟩
  · exact ⟨lim, Nat.le_refl _, h⟩
  · exact ⟨v, by omega, h2⟩
theorem PO_nil {n m y lim : Nat} {w : aT} {D : (Nat → Nat) → Prop} {I I' : xI} (h0 : I' 59 y = nt lim) (h1 : ∀ i, i < n → I' 58 (6 * y + i) = I 58 (6 * y + i)) (h : ∀ d, vld n y d → D d → lim ≤ wor n m w y d) : PO n m w y lim D I I' := Or.inl ⟨h0, h1, h⟩
theorem PO_imp {n m y lim : Nat} {w : aT} {D D' : (Nat → Nat) → Prop} {I I' : xI} (h : PO n m w y lim D I I') (hd : ∀ d, vld n y d → (D d ↔ D' d)) : PO n m w y lim D' I I' := by
  rcases h with ⟨h1, h2, h3⟩ | ⟨v, c, h1, h2, h3, h4, h5, h6, h7⟩
  · exact Or.inl ⟨h1, h2, fun d a b => h3 d a ((hd d a).mpr b)⟩
  · exact Or.inr ⟨v, c, h1, h2, h3, h4, (hd c h4).mp h5, h6, fun d a b => h7 d a ((hd d a).mpr b)⟩
theorem PO_fr {n m y lim : Nat} {w : aT} {D : (Nat → Nat) → Prop} {I I0 I' : xI} (h : PO n m w y lim D I I') (hf : ∀ i, i < n → I 58 (6 * y + i) = I0 58 (6 * y + i)) : PO n m w y lim D I0 I' := by
  rcases h with ⟨h1, h2, h3⟩ | h
  · exact Or.inl ⟨h1, fun i hi => (h2 i hi).trans (hf i hi), h3⟩
  · exact Or.inr h
theorem PO_seq {n m y lim l1 : Nat} {w : aT} {D1 D2 : (Nat → Nat) → Prop} {I I1 I2 : xI} (hl : lim ≤ 1000) (h1 : PO n m w y lim D1 I I1) (e : I1 59 y = nt l1) (hl1 : l1 ≤ lim) (h2 : PO n m w y l1 D2 I1 I2) (ho : ∀ c d, D1 c → D2 d → ¬ lx n d c) : PO n m w y lim (fun d => D1 d ∨ D2 d) I I2 := by
  rcases h1 with ⟨a1, a2, a3⟩ | ⟨v, c, a1, a2, a3, a4, a5, a6, a7⟩
  · have el : l1 = lim := nt_inj (by omega) (by omega) (e.symm.trans a1)
    subst el
    rcases h2 with ⟨b1, b2, b3⟩ | ⟨v, c, b1, b2, b3, b4, b5, b6, b7⟩
    · exact Or.inl ⟨b1, fun i hi => (b2 i hi).trans (a2 i hi), fun d hd hD => hD.elim (a3 d hd) (b3 d hd)⟩
    · refine Or.inr ⟨v, c, b1, b2, b3, b4, Or.inr b5, b6, ?_⟩
      intro d hd hD
      rcases hD with hD | hD
      · have := a3 d hd hD
        exact ⟨by omega, fun e => by omega⟩
      · exact b7 d hd hD
  · have el : l1 = v := nt_inj (by omega) (by omega) (e.symm.trans a2)
    subst el
    rcases h2 with ⟨b1, b2, b3⟩ | ⟨v', c', b1, b2, b3, b4, b5, b6, b7⟩
    · refine Or.inr ⟨l1, c, a1, b1, fun i hi => (b2 i hi).trans (a3 i hi), a4, Or.inl a5, a6, ?_⟩
      intro d hd hD
      rcases hD with hD | hD
      · exact a7 d hd hD
      · exact ⟨b3 d hd hD, fun _ => ho c d a5 hD⟩
    · refine Or.inr ⟨v', c', by omega, b2, b3, b4, Or.inr b5, b6, ?_⟩
      intro d hd hD
      rcases hD with hD | hD
      · have := (a7 d hd hD).1
        exact ⟨by omega, fun e => by omega⟩
      · exact b7 d hd hD
/-- what the class's search stands on, and what it changes -/
def bR (y a j : Nat) : Prop := zReg a j ∨ a = 49 ∨ a = 50 ∨ a = 57 ∨ (a = 59 ∧ j = y) ∨ (a = 58 ∧ 6 * y ≤ j ∧ j < 6 * y + 6)
def bCx (n m : Nat) (w : aT) (I : xI) : Prop := cMa n m w (I 1 0) (I 1 1) (I 2) (I 3) (I 4) ∧ cPa m w (I 32 3) (I 33) (I 34) ∧ cT I
theorem bCx_fr {n m y : Nat} {w : aT} {I I' : xI} (h : bCx n m w I) (hf : ∀ a j, ¬ bR y a j → I' a j = I a j) : bCx n m w I' := by
  have hz : ∀ a j, ¬ (a = 54 ∨ a = 55 ∨ a = 51 ∨ a = 49 ∨ a = 50 ∨ a = 57 ∨ a = 59 ∨ a = 58) → I' a j = I a j := by
    intro a j h1
    apply hf a j
    unfold bR zReg
    omega
  refine ⟨cMa_fr h.1 (fun c j h1 h2 => hz c j (by omega)), ?_, fun c hc => (hz 52 c (by omega)).trans (h.2.2.1 c hc), fun c hc => (hz 53 c (by omega)).trans (h.2.2.2 c hc)⟩
  rw [hz 32 3 (by omega), show I' 33 = I 33 from funext fun j => hz 33 j (by omega), show I' 34 = I 34 from funext fun j => hz 34 j (by omega)]
  exact h.2.1
