/-- the real machine does at this point what the abstract one does -/
def xSnd (l : Launch) (G : xG) (L : Nat) (xs : Nat → Int32) (d j pc : Nat) (ls : List (Option Value)) (st : List Value) (n : Nat) (M : xM) (o : xO) : Prop :=
  ∀ (p : Program) (e : Env) (R : Room) (s : State) (m : MethodId) (args : Array Value) (below : List Frame) (meth : Method) (c : Code) (Q : State → Prop) (n0 : Nat), xCx G L xs p R s m args meth c j d → n0 ≤ n → o.2.1 - n0 ≤ R.cells → xsl o.2.1 - xsl n0 ≤ R.slots →
    (∀ (H : Heap) (locs : List Loc) (arr : Array Slot) (pc : Nat) (i : Instr) (st : List Value), va_S (xA G) s.heap H locs → xP G o.2.1 o.2.2 H → decode (xin j).2.1 pc = .ok (i, 1) → xret (xme j).2.2.2.1 i st = some o.1 → W p l e R s m args below meth c H locs (o.2.1 - n0) (xsl o.2.1 - xsl n0) Q (F0 m pc arr (st.map (xcv G)))) →
    ∀ (H : Heap) (locs : List Loc) (arr : Array Slot), va_S (xA G) s.heap H locs → xP G n M H → xLs G ls arr (xme j).2.2.1 → W p l e R s m args below meth c H locs (n - n0) (xsl n - xsl n0) Q (F0 m pc arr (st.map (xcv G)))
def xPc (G : xG) (L : Nat) (xs : Nat → Int32) (as : List Value) (n : Nat) (M : xM) : Array Value → State → Prop := fun args U => args = (as.map (xcv G)).toArray ∧ xE G L xs U U.heap ∧ xP G n M U.heap
def xQc (G : xG) (o : xO) : Array Value → State → Outcome → State → Prop := fun _ st oc t => oc = .returned (o.1.map (xcv G)) ∧ xP G o.2.1 o.2.2 t.heap ∧ va_F (xA G) st t
def xwm (j : Nat) : List Cond := .code (xin j).1 (xin j).2.1 (xme j).2.2.1 (xin j).2.2.1 :: xW
theorem xPc_blind {G : xG} {L : Nat} {xs : Nat → Int32} {as : List Value} {n : Nat} {M : xM} : FrameBlind (xPc G L xs as n M) := fun _ U g mk h => ⟨h.1, xE.same (u := U) h.2.1 rfl rfl, h.2.2⟩
theorem xmok_spec {j : Nat} {stat : Bool} (h : xmok j stat = true) : Cond.code (xin j).1 (xin j).2.1 (xme j).2.2.1 (xin j).2.2.1 ∈ xW ∧ (xin j).2.2.2.2.2 = stat ∧ (bif stat then Cond.static (xin j).1 else Cond.instanceMethod (xin j).1) ∈ xW ∧ Cond.initialized (xin j).1.cls ∈ xW
    ∧ ((xin j).1.cls ≠ "java/lang/invoke/MethodHandle" ∧ (xin j).1.cls ≠ "java/lang/invoke/VarHandle" ∧ (parseMethodDescriptor (xin j).1.desc).map (fun d => d.parameters.length) = some ((xme j).2.1 - (bif stat then 0 else 1))) ∧ plainName (xin j).1.cls = true ∧ (xin j).1.cls = (xin j).2.2.2.1 ∧ (xme j).2.2.1 ≤ 60 ∧ j < 310 := by
  unfold xmok at h
  simp only [Bool.and_eq_true, decide_eq_true_eq, beq_iff_eq] at h
  obtain ⟨h0, ⟨⟨⟨h1, h2⟩, h3, h4⟩, ⟨h5, h6⟩, h7⟩, ⟨h8, h9⟩, h10⟩ := h
  exact ⟨xhas_in h1, h2, xhas_in h3, xhas_in h4, ⟨h5, h6, h7⟩, h8, h9, Nat.le_of_ble_eq_true h10, Nat.blt_eq.mp h0⟩
theorem xgood {j : Nat} (h : Cond.code (xin j).1 (xin j).2.1 (xme j).2.2.1 (xin j).2.2.1 ∈ xW) : GoodIn xW (xwm j) := by
  intro w hw
  have hx : w ∈ xW := by
    rcases List.mem_cons.mp hw with e | e
    · rw [e]; exact h
    · exact e
  exact ⟨hx, good_of_word (List.mem_filter.mp hx).2⟩
set_option maxHeartbeats 4000000 in
theorem xmet {l : Launch} {G : xG} {L : Nat} {xs : Nat → Int32} {d j : Nat} {as : List Value} {n : Nat} {M : xM} {o : xO} {stat : Bool} (hm : xmok j stat = true) (hhead : xhead j = true) (hent : (xent as).length ≤ (xme j).2.2.1)
    (h : xSnd l G L xs d j 0 (xpad (xent as) (xme j).2.2.1) [] n M o) :
    Met l (xin j).1 (xwm j) { frames := d, cells := o.2.1 - n, slots := xsl o.2.1 - xsl n, locals := 100 * d } (xPc G L xs as n M) (xQc G o) (o.2.1 - n) (xsl o.2.1 - xsl n) (xA G) := by
  obtain ⟨-, -, -, -, -, hplain, hcls, -⟩ := xmok_spec hm
  refine Met.ofW (cc := (xin j).2.1) (maxL := (xme j).2.2.1) (ret := (xin j).2.2.1) hplain rfl ?_
  intro p e s m args below meth c s₁ B hml hv
  obtain ⟨rfl, hE, hP⟩ := hv
  have hx := B.exec
  have hb := B.bytes
  have hr := B.returns
  have hts := atoms_spec (ws := xwm j) B.pre
  have hown : s.vm.findClass (xin j).2.2.2.1 = some m.cls := by rw [← hcls]; exact findClass_of_methodNamed B.named
  have hlocks := B.notSynchronized
  unfold xhead at hhead
  rw [Bool.and_eq_true, Bool.or_eq_true] at hhead
  have hin : (xme j).2.2.2.2.2 = true → meth.name = "<init>" := by
    intro q
    rw [(name_of_methodNamed B.named B.method).1]
    rcases hhead.2 with w | w
    · rw [q] at w; cases w
    · rw [Bool.and_eq_true, decide_eq_true_eq, decide_eq_true_eq] at w
      exact w.2
  rw [lg_entry_eq]
  have hob := hE.2.2.2.2.2.2.2.2.2.2
  have key := h p e { frames := d, cells := o.2.1 - n, slots := xsl o.2.1 - xsl n, locals := 100 * d } s m _ below meth c (MQ below (xQc G o) (as.map (xcv G)).toArray s (o.2.1 - n) (xsl o.2.1 - xsl n) (xA G)) n ⟨hx, hb, hml, hown, fun w hw => hts w (List.mem_cons_of_mem _ hw), hE, Nat.le_refl _, Nat.le_refl _, hin⟩ (Nat.le_refl n) (Nat.le_refl _) (Nat.le_refl _) ?_ s.heap [] _ va_S.rf hP (xLs_entry hob hent)
  · rw [Nat.sub_self, Nat.sub_self] at key
    exact key
  · intro H locs arr pc i st hS hP1 hd hrt
    have hty := hhead.1
    obtain ⟨ov, on, oM⟩ := o
    dsimp only at hS hP1 hrt ⊢
    unfold xret at hrt
    split at hrt
    · rename_i ht
      cases hrt
      rw [ht] at hty
      have hrn : (xin j).2.2.1 = none := by revert hty; cases (xin j).2.2.1 <;> simp [xrty]
      exact W.vret hx hb (hr.trans hrn) (fun t ht _ => ⟨rfl, by rw [ht]; exact hP1, hS.F ht⟩) hS.2.2 hd hlocks
    · rename_i ht
      cases hrt
      rw [ht] at hty
      have hrn : (xin j).2.2.1 = some .int := by
        revert hty
        cases (xin j).2.2.1 with
        | none => simp [xrty]
        | some y => cases y <;> simp [xrty]
      exact W.iret hx hb (hr.trans hrn) (fun t ht _ => ⟨rfl, by rw [ht]; exact hP1, hS.F ht⟩) hS.2.2 hd hlocks
    · rename_i x ht
      obtain ⟨h01, hrt⟩ := xifT hrt
      cases hrt
      rw [ht] at hty
      have hrn : (xin j).2.2.1 = some .boolean := by
        revert hty
        cases (xin j).2.2.1 with
        | none => simp [xrty]
        | some y => cases y <;> simp [xrty]
      exact W.zret hx hb (hr.trans hrn) (by rcases h01 with rfl | rfl <;> rfl) (fun t ht _ => ⟨rfl, by rw [ht]; exact hP1, hS.F ht⟩) hS.2.2 hd hlocks
    · rename_i x ht
      obtain ⟨h01, hrt⟩ := xifT hrt
      cases hrt
      rw [ht] at hty
      have hrn : (xin j).2.2.1 = some .char := by
        revert hty
        cases (xin j).2.2.1 with
        | none => simp [xrty]
        | some y => cases y <;> simp [xrty]
      exact W.zret hx hb (hr.trans hrn) h01 (fun t ht _ => ⟨rfl, by rw [ht]; exact hP1, hS.F ht⟩) hS.2.2 hd hlocks
    · rename_i x ht
      obtain ⟨h01, hrt⟩ := xifT hrt
      cases hrt
      rw [ht] at hty
      have hrn : (xin j).2.2.1 = some .byte := by
        revert hty
        cases (xin j).2.2.1 with
        | none => simp [xrty]
        | some y => cases y <;> simp [xrty]
      exact W.zret hx hb (hr.trans hrn) h01 (fun t ht _ => ⟨rfl, by rw [ht]; exact hP1, hS.F ht⟩) hS.2.2 hd hlocks
    · rename_i ht
      cases hrt
      rw [ht] at hty
      have hrn : (xin j).2.2.1 = some .long := by
        revert hty
        cases (xin j).2.2.1 with
        | none => simp [xrty]
        | some y => cases y <;> simp [xrty]
      exact W.lret hx hb (hr.trans hrn) (fun t ht _ => ⟨rfl, by rw [ht]; exact hP1, hS.F ht⟩) hS.2.2 hd hlocks
    · rename_i x ht
      obtain ⟨h29, hrt⟩ := xbif hrt
      cases hrt
      rw [ht] at hty
      obtain ⟨C, hrn⟩ : ∃ C, (xin j).2.2.1 = some (.object C) := by
        revert hty
        cases (xin j).2.2.1 with
        | none => simp [xrty]
        | some y => cases y <;> simp [xrty]
      show W _ _ _ _ _ _ _ _ _ _ _ _ _ _ _ (F0 m pc arr [xcv G (.ref x)])
      rw [xcv_ref (Nat.blt_eq.mp h29)]
      exact W.aret hx hb (hr.trans hrn) (Or.inl ⟨_, rfl⟩) (Or.inr ⟨_, rfl⟩) (fun t ht _ => ⟨by show _ = Outcome.returned (some (xcv G (.ref x))); rw [xcv_ref (Nat.blt_eq.mp h29)], by rw [ht]; exact hP1, hS.F ht⟩) hS.2.2 hd hlocks
    · exact absurd hrt (by simp)
