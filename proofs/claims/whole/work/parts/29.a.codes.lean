/-! codes change no cache -/
theorem rdk_cc {a b : Nat → Nat → Option Nat} {c c' : Nat → Nat} (m K : Nat) : rdk m (a, b, c) K = rdk m (a, b, c') K := by
  induction K with
  | zero => rfl
  | succ K ih =>
    funext p q
    rw [rdk, rdk, ih]
    rfl
theorem rd_cc {a b : Nat → Nat → Option Nat} {c c' : Nat → Nat} (m : Nat) : rd m (a, b, c) = rd m (a, b, c') := by
  funext p q
  unfold rd
  rw [rdk_cc (c' := c')]
theorem cls_cc {a b : Nat → Nat → Option Nat} {c c' : Nat → Nat} (n m : Nat) : cls n m (a, b, c) = cls n m (a, b, c') := by
  unfold cls
  rw [rd_cc (c' := c')]
theorem grs_cc {a b : Nat → Nat → Option Nat} {c c' : Nat → Nat} (n m : Nat) : grs n m (a, b, c) = grs n m (a, b, c') := by
  unfold grs
  rw [rd_cc (c' := c')]
theorem cvr_cc {a b : Nat → Nat → Option Nat} {c c' : Nat → Nat} (n m : Nat) : cvr n m (a, b, c) = cvr n m (a, b, c') := rfl
theorem Fw_cc {a b : Nat → Nat → Option Nat} {c c' : Nat → Nat} (n m : Nat) : Fw n m (a, b, c) = Fw n m (a, b, c') := by
  funext k p
  unfold Fw
  rw [cls_cc (c' := c'), cvr_cc (c' := c')]
theorem fwe_cc {a b : Nat → Nat → Option Nat} {c c' : Nat → Nat} (n m : Nat) : fwe n m (a, b, c) = fwe n m (a, b, c') := by
  unfold fwe
  rw [Fw_cc (c' := c')]
theorem fk_cc {a b : Nat → Nat → Option Nat} {c c' : Nat → Nat} (n m : Nat) : fk n m (a, b, c) = fk n m (a, b, c') := by
  unfold fk
  rw [fwe_cc (c' := c')]
theorem fs_cc {a b : Nat → Nat → Option Nat} {c c' : Nat → Nat} (n m : Nat) : fs n m (a, b, c) = fs n m (a, b, c') := by
  funext i
  unfold fs
  rw [fwe_cc (c' := c'), cls_cc (c' := c')]
theorem caA_cc {a b : Nat → Nat → Option Nat} {c c' : Nat → Nat} {m : Nat} {I : xI} (h : caA m (a, b, c) I) : caA m (a, b, c') I := by
  intro e
  have := h e
  unfold cPa cPk at this ⊢
  rw [rdk_cc (c' := c')] at this
  exact this
theorem caB_cc {a b : Nat → Nat → Option Nat} {c c' : Nat → Nat} {n m : Nat} {I : xI} (h : caB n m (a, b, c) I) : caB n m (a, b, c') I := by
  intro e
  have := h e
  unfold cCo at this ⊢
  rw [rd_cc (c' := c'), cls_cc (c' := c'), grs_cc (c' := c')] at this
  exact this
theorem caC_cc {a b : Nat → Nat → Option Nat} {c c' : Nat → Nat} {n m : Nat} {I : xI} (h : caC n m (a, b, c) I) : caC n m (a, b, c') I := by
  intro e
  have := h e
  unfold cFw fOk at this ⊢
  rw [fk_cc (c' := c'), fs_cc (c' := c'), fwe_cc (c' := c'), Fw_cc (c' := c')] at this
  exact this
theorem caD_cc {a b : Nat → Nat → Option Nat} {c c' : Nat → Nat} {n m : Nat} {I : xI} (h : caD n m (a, b, c) I) : caD n m (a, b, c') I := h
theorem caE_cc {a b : Nat → Nat → Option Nat} {c c' : Nat → Nat} {n m : Nat} {I : xI} (h : caE n m (a, b, c) I) : caE n m (a, b, c') I := h
theorem hso_cc {a b : Nat → Nat → Option Nat} {c c' : Nat → Nat} (n m : Nat) : hso n m (a, b, c) = hso n m (a, b, c') := rfl
theorem cosk_cc {a b : Nat → Nat → Option Nat} {c c' : Nat → Nat} (n m : Nat) (d : Nat → Nat) (k : Nat) : cosk n m (a, b, c) d k = cosk n m (a, b, c') d k := by
  induction k with
  | zero => rfl
  | succ k ih => rw [cosk, cosk, ih, hso_cc (c' := c')]
theorem wor_cc {a b : Nat → Nat → Option Nat} {c c' : Nat → Nat} (n m : Nat) : wor n m (a, b, c) = wor n m (a, b, c') := by
  funext y d
  unfold wor
  rw [cosk_cc (c' := c')]
  rfl
theorem BM_cc {a b : Nat → Nat → Option Nat} {c c' : Nat → Nat} {n m y : Nat} {u v : Nat → Int32} (h : BM n m (a, b, c) y u v) : BM n m (a, b, c') y u v := by
  unfold BM BB at h ⊢
  rw [wor_cc (c' := c')] at h
  exact h
theorem caF_cc {a b : Nat → Nat → Option Nat} {c c' : Nat → Nat} {n m : Nat} {I : xI} (h : caF n m (a, b, c) I) : caF n m (a, b, c') I := fun y hy e => BM_cc (h y hy e)
theorem tl_cc {a b : Nat → Nat → Option Nat} {c c' : Nat → Nat} : ∀ k, tl (a, b, c) k = tl (a, b, c') k := by
  intro k
  induction k with
  | zero => rfl
  | succ k ih =>
    funext q x y
    rw [tl, tl, ih]
    rfl
theorem SW_cc {a b : Nat → Nat → Option Nat} {c c' : Nat → Nat} (n m k : Nat) : SW n m (a, b, c) k = SW n m (a, b, c') k := by
  funext t
  unfold SW
  rw [rd_cc (c' := c'), tl_cc (c' := c')]
theorem NS_cc {a b : Nat → Nat → Option Nat} {c c' : Nat → Nat} (n m : Nat) : NS n m (a, b, c) = NS n m (a, b, c') := by
  funext k
  unfold NS
  rw [SW_cc (c' := c')]
theorem SQ_cc {a b : Nat → Nat → Option Nat} {c c' : Nat → Nat} (n m : Nat) : SQ n m (a, b, c) = SQ n m (a, b, c') := by
  funext k q
  unfold SQ
  rw [SW_cc (c' := c')]
theorem caG_cc {a b : Nat → Nat → Option Nat} {c c' : Nat → Nat} {n m : Nat} {I : xI} (h : caG n m (a, b, c) I) : caG n m (a, b, c') I := by
  intro e
  have := h e
  unfold cSh at this ⊢
  rw [NS_cc (c' := c'), SQ_cc (c' := c')] at this
  exact this
/-- all caches of the class -/
def caX (n m : Nat) (w : aT) (I : xI) : Prop := caA m w I ∧ caB n m w I ∧ caC n m w I ∧ caD n m w I ∧ caE n m w I ∧ caF n m w I ∧ caG n m w I
theorem caX_cc {n m : Nat} {w w' : aT} {I : xI} (h : caX n m w I) (h1 : w'.1 = w.1) (h2 : w'.2.1 = w.2.1) : caX n m w' I := by
  obtain ⟨a, b, c⟩ := w
  obtain ⟨a', b', c'⟩ := w'
  dsimp only at h1 h2
  subst h1 h2
  obtain ⟨g1, g2, g3, g4, g5, g6, g7⟩ := h
  exact ⟨caA_cc g1, caB_cc g2, caC_cc g3, caD_cc g4, caE_cc g5, caF_cc g6, caG_cc g7⟩
