/-! what holds at the law's start, out of the statement's premises; the claim out of a run of the abstract machine -/
def xF : List Cond := flatC (Jvm.Cond.and given_1 narrow_1)
def xstT (k : Nat) : Term := .static (xsn.getD k ("", "")).1 (xsn.getD k ("", "")).2 "[I"
def xstN (k : Nat) : List Int32 := ((xstat.lookup (1000 + k)).getD [])
theorem xF_stat : ((List.range 5).all fun k => (decide (Cond.arrayOf (xstT k) .int ∈ xF) && decide (Cond.eq (.length (xstT k)) (.int (Int32.ofNat (xstN k).length)) ∈ xF)) && (List.range (xstN k).length).all fun j => decide (Cond.eq (.elem (xstT k) (.int (Int32.ofNat j))) (.int ((xstN k).getD j 0)) ∈ xF)) = true := by decide +kernel
def xstrT (k : Nat) : Term := .string "StateMill$Tokens" (xsk.getD k 0)
theorem xF_str : ((List.range 10).all fun i => ((decide (Cond.exactly (xstrT i) "java/lang/String" ∈ xF) && decide (Cond.eq (.field (xstrT i) "java/lang/String" "coder" "B") (.int 0) ∈ xF)) && (decide (Cond.arrayOf (.field (xstrT i) "java/lang/String" "value" "[B") .byte ∈ xF) && decide (Cond.eq (.length (.field (xstrT i) "java/lang/String" "value" "[B")) (.int (Int32.ofNat (xslen.getD i 0))) ∈ xF))) && (List.range (xslen.getD i 0)).all fun j => decide (Cond.eq (.elem (.field (xstrT i) "java/lang/String" "value" "[B") (.int (Int32.ofNat j))) (.int ((xsbyt.getD i []).getD j 0)) ∈ xF)) = true := by decide +kernel
theorem xF_ne : ((List.range 10).all fun i => (List.range 10).all fun j => Nat.beq i j || (decide (Cond.not (Cond.eq (xstrT i) (xstrT j)) ∈ xF) || decide (Cond.not (Cond.eq (xstrT j) (xstrT i)) ∈ xF))) = true := by decide +kernel
theorem xF_one : Cond.eq (.static "java/lang/String" "COMPACT_STRINGS" "Z") (.int 1) ∈ xF := by decide +kernel
theorem xF_ob : Cond.isRef (.static "jdk/internal/util/Preconditions" "SIOOBE_FORMATTER" "Ljava/util/function/BiFunction;") ∈ xF := by decide +kernel
def xtab (w : Cond) : Bool := (List.range 9).any fun c => decide (w ∈ xch c)
theorem xtab_in {w : Cond} (h : xtab w = true) : w ∈ lw_tbl := by
  unfold xtab at h
  obtain ⟨c, -, hc⟩ := List.any_eq_true.mp h
  exact xch_in (of_decide_eq_true hc)
theorem xT_stat : ((List.range 5).all fun k => xtab (.laysStatic (xsn.getD k ("", "")).1 (xsn.getD k ("", "")).2 "[I") && xtab (.initialized (xsn.getD k ("", "")).1)) = true := by decide +kernel
theorem xT_str : ((List.range 10).all fun i => xtab (.stringRef "StateMill$Tokens" (xsk.getD i 0) (xst.getD i ""))) = true := by decide +kernel
theorem xT_rest : ([Cond.laysStatic "java/lang/String" "COMPACT_STRINGS" "Z", .initialized "java/lang/String", .laysStatic "jdk/internal/util/Preconditions" "SIOOBE_FORMATTER" "Ljava/util/function/BiFunction;", .initialized "jdk/internal/util/Preconditions", .arrayClass .byte, .arrayClass .int, .arrayClass .long, .arrayClass .boolean, .arrayOver (.object "StateMill$Machine")].all xtab) = true := by decide +kernel
theorem xT_nest : xnest.all xtab = true := by decide +kernel
theorem xT_inst : ((List.range 13).all fun ci => xtab (.instantiable (xcls ci).1 (xcls ci).2.2)) = true := by decide +kernel
theorem xsc_stat {L : Nat} {xs : Nat → Int32} {k : Nat} (h : k < 5) : xsc L xs (1000 + k) = ((xstN k).length, fun j => (xstN k).getD j 0) := by
  match k, h with
  | 0, _ => rfl
  | 1, _ => rfl
  | 2, _ => rfl
  | 3, _ => rfl
  | 4, _ => rfl
theorem xArr {s : State} {args : Array Value} {ty : FieldType} (h : (Cond.arrayClass ty).before args s = true) : ∃ cA, ArrOfT s cA ty ∧ s.vm.findClass ("[" ++ ty.toString) = some cA := by
  obtain ⟨c, k, comp, h1, h2, h3⟩ := Cond.arrayClass_spec h
  exact ⟨c, fun n z => ⟨fun k h => (by cases h), k, h2, comp, h3⟩, h1⟩
set_option maxHeartbeats 4000000 in
theorem xE_start {s : State} {b L : Nat} {xs : Nat → Int32} (hts : ∀ w ∈ lw_tbl, w.before #[Value.ref b] s = true) (hX : va_X b L xs s s.heap) (hbl : b < s.heap.size) (hgv : (Jvm.Cond.and given_1 narrow_1).before #[Value.ref b] s = true) :
    ∃ G : xG, G.1 = s.heap.size ∧ xad G 1009 = b ∧ xE G L xs s s.heap := by
  have hs : ∀ c ∈ xF, c.before #[Value.ref b] s = true := flat_of_before _ hgv
  have hA : ∀ a : Nat, a < s.heap.size → ¬ (fun q : Nat => s.heap.size ≤ q) a := fun a h q => Nat.not_le.mpr h q
  -- the classes
  have hcl : ∀ ci : Nat, ∃ q : ClassId × (Nat → Nat), ci < 13 → u_Kn s (xcls ci).1 (xcls ci).2.1 (xcls ci).2.2 q.1 q.2 := by
    intro ci
    by_cases h : ci < 13
    · obtain ⟨cC, iS, hK⟩ := u_known (C := (xcls ci).1) (T := (xcls ci).2.1) (N := (xcls ci).2.2) hts (fun w hw => (List.mem_filter.mp (xcls_in h w hw)).1) (hts _ (xtab_in (List.all_eq_true.mp xT_inst ci (List.mem_range.mpr h))))
      exact ⟨(cC, iS), fun _ => hK⟩
    · exact ⟨(0, fun _ => 0), fun q => absurd q h⟩
  obtain ⟨dD, hdD⟩ := Classical.axiomOfChoice hcl
  have hrest := List.all_eq_true.mp xT_rest
  obtain ⟨cB, aB, nB⟩ := xArr (hts _ (xtab_in (hrest (.arrayClass .byte) (by simp))))
  obtain ⟨cI, aI, nI_⟩ := xArr (hts _ (xtab_in (hrest (.arrayClass .int) (by simp))))
  obtain ⟨cJ, aJ, nJ⟩ := xArr (hts _ (xtab_in (hrest (.arrayClass .long) (by simp))))
  obtain ⟨cZ, aZ, nZ⟩ := xArr (hts _ (xtab_in (hrest (.arrayClass .boolean) (by simp))))
  have hao : va_AO "StateMill$Machine" s := va_AO.of (hts _ (xtab_in (hrest (.arrayOver (.object "StateMill$Machine")) (by simp))))
  obtain ⟨comp, cM, kM, m1, m2, m3, m4, m5⟩ := Cond.arrayOver_spec hao
  -- the tables outside
  have hst : ∀ k : Nat, ∃ t : Nat, k < 5 → va_Z (xsn.getD k ("", "")).1 (xsn.getD k ("", "")).2 "[I" (.ref t) (fun q : Nat => s.heap.size ≤ q) s s.heap ∧ va_T .int t (xstN k).length (fun j => .int ((xstN k).getD j 0)) (fun q : Nat => s.heap.size ≤ q) s s.heap := by
    intro k
    by_cases h : k < 5
    · have hc := List.all_eq_true.mp xF_stat k (List.mem_range.mpr h)
      simp only [Bool.and_eq_true, decide_eq_true_eq] at hc
      have hw := List.all_eq_true.mp xT_stat k (List.mem_range.mpr h)
      rw [Bool.and_eq_true] at hw
      obtain ⟨t, ht, hT⟩ := va_Tof (f := fun j => .int ((xstN k).getD j 0)) (A := fun q : Nat => s.heap.size ≤ q) (N := (xstN k).length) (by match k, h with
        | 0, _ => decide
        | 1, _ => decide
        | 2, _ => decide
        | 3, _ => decide
        | 4, _ => decide) (hs _ hc.1.1) (va_eqt (hs _ hc.1.2)) (fun j hj => va_eqt (hs _ (of_decide_eq_true (List.all_eq_true.mp hc.2 j (List.mem_range.mpr hj))))) hA
      exact ⟨t, fun _ => ⟨va_Zof (hts _ (xtab_in hw.1)) (hts _ (xtab_in hw.2)) ht hA, hT⟩⟩
    · exact ⟨0, fun q => absurd q h⟩
  obtain ⟨sD, hsD⟩ := Classical.axiomOfChoice hst
  -- the String constants
  have hc1 : ∀ i, i < 10 → _ := fun i hi => List.all_eq_true.mp xF_str i (List.mem_range.mpr hi)
  simp only [Bool.and_eq_true, decide_eq_true_eq] at hc1
  obtain ⟨adK, adV, hvS, hvR⟩ := vk_Sof (s := s) (args := #[Value.ref b]) (N := 10) (tm := xstrT) (len := xslen) (byt := xsbyt) (A := fun q : Nat => s.heap.size ≤ q) (fun i hi => by match i, hi with
    | 0, _ => decide
    | 1, _ => decide
    | 2, _ => decide
    | 3, _ => decide
    | 4, _ => decide
    | 5, _ => decide
    | 6, _ => decide
    | 7, _ => decide
    | 8, _ => decide
    | 9, _ => decide) (fun i hi => hs _ (hc1 i hi).1.1.1) (fun i hi => hs _ (hc1 i hi).1.1.2) (fun i hi => hs _ (hc1 i hi).1.2.1) (fun i hi => hs _ (hc1 i hi).1.2.2) (fun i hi j hj => hs _ (of_decide_eq_true (List.all_eq_true.mp (hc1 i hi).2 j (List.mem_range.mpr hj)))) (fun i j hi hj hne => by
      have h := List.all_eq_true.mp (List.all_eq_true.mp xF_ne i (List.mem_range.mpr hi)) j (List.mem_range.mpr hj)
      simp only [Bool.or_eq_true, decide_eq_true_eq] at h
      rcases h with h | h | h
      · exact absurd (Nat.eq_of_beq_eq_true h) hne
      · exact Or.inl (hs _ h)
      · exact Or.inr (hs _ h)) hA
  have hone := va_Zof (A := fun q : Nat => s.heap.size ≤ q) (hts _ (xtab_in (hrest (.laysStatic "java/lang/String" "COMPACT_STRINGS" "Z") (by simp)))) (hts _ (xtab_in (hrest (.initialized "java/lang/String") (by simp)))) (va_eqt (hs _ xF_one)) hA
  obtain ⟨ob, hob, hZo⟩ : ∃ ob : Value, (ob = .null ∨ ∃ t, ob = .ref t) ∧ va_Z "jdk/internal/util/Preconditions" "SIOOBE_FORMATTER" "Ljava/util/function/BiFunction;" ob (fun q : Nat => s.heap.size ≤ q) s s.heap := by
    rcases va_Zqof (A := fun q : Nat => s.heap.size ≤ q) (hts _ (xtab_in (hrest (.laysStatic "jdk/internal/util/Preconditions" "SIOOBE_FORMATTER" "Ljava/util/function/BiFunction;") (by simp)))) (hts _ (xtab_in (hrest (.initialized "jdk/internal/util/Preconditions") (by simp)))) (hs _ xF_ob) hA with h | ⟨t, h⟩
    · exact ⟨_, Or.inl rfl, h⟩
    · exact ⟨_, Or.inr ⟨t, rfl⟩, h⟩
  refine ⟨(s.heap.size, (fun ci => (dD ci).1, fun ci => (dD ci).2), (fun k => if k = 13 then cB else if k = 14 then cI else if k = 15 then cJ else if k = 16 then cZ else cM), (fun a => if a = 1009 then b else if a < 1009 then sD (a - 1000) else if a < 2100 then adK (a - 2000) else adV (a - 2100)), ob), rfl, rfl, ?_⟩
  have hsd : ∀ k, k < 5 → xad (s.heap.size, ((fun ci => (dD ci).1, fun ci => (dD ci).2) : va_G), ((fun k => if k = 13 then cB else if k = 14 then cI else if k = 15 then cJ else if k = 16 then cZ else cM) : Nat → ClassId), ((fun a => if a = 1009 then b else if a < 1009 then sD (a - 1000) else if a < 2100 then adK (a - 2000) else adV (a - 2100)) : Nat → Nat), ob) (1000 + k) = sD k := by
    intro k hk
    unfold xad
    rw [if_neg (by omega)]
    show (if 1000 + k = 1009 then b else _) = _
    rw [if_neg (by omega), if_pos (by omega), show 1000 + k - 1000 = k by omega]
  refine ⟨⟨fun ci q hq => ?_, fun k q hq => ?_⟩, fun a ha => ?_, fun k hk => ?_, hone, hZo, ?_, fun i hi => ?_, fun w hw => ?_, hao, Nat.le_refl _, hob⟩
  · have hci : ci < 13 := by
      rcases Nat.lt_or_ge ci 13 with w | w
      · exact w
      · rw [List.getElem?_eq_none (by show 13 ≤ ci; exact w)] at hq
        cases hq
    rw [xcls_at hci] at hq
    cases hq
    exact hdD ci hci
  · match k, hq with
    | 0, hq => cases hq; exact ⟨aB, nB⟩
    | 1, hq => cases hq; exact ⟨aI, nI_⟩
    | 2, hq => cases hq; exact ⟨aJ, nJ⟩
    | 3, hq => cases hq; exact ⟨aZ, nZ⟩
    | 4, hq => cases hq; exact ⟨fun n z => ⟨fun k h => (by cases h), kM, m3, comp, m4⟩, kM, comp, m3, m4, m1, m5⟩
    | k + 5, hq => exact absurd hq (by simp [xtys])
  · by_cases h9 : a = 1009
    · subst h9
      obtain ⟨scr, h1, h2, h3, h4, h5⟩ := hX
      exact ⟨scr, h1, h2, h3, by rw [h4]; exact Nat.le_refl _, by rw [h4]; rfl, h5, hA b hbl⟩
    · obtain ⟨k, hk, rfl⟩ : ∃ k, k < 5 ∧ a = 1000 + k := by
        simp only [List.mem_cons, List.not_mem_nil, or_false] at ha
        exact ⟨a - 1000, by omega, by omega⟩
      rw [hsd k hk, xsc_stat hk]
      exact (hsD k hk).2
  · rw [hsd k hk]
    exact (hsD k hk).1
  · have e1 : ∀ i, i < 10 → xad (s.heap.size, ((fun ci => (dD ci).1, fun ci => (dD ci).2) : va_G), ((fun k => if k = 13 then cB else if k = 14 then cI else if k = 15 then cJ else if k = 16 then cZ else cM) : Nat → ClassId), ((fun a => if a = 1009 then b else if a < 1009 then sD (a - 1000) else if a < 2100 then adK (a - 2000) else adV (a - 2100)) : Nat → Nat), ob) (2000 + i) = adK i := by
      intro i hi
      unfold xad
      rw [if_neg (by omega)]
      show (if 2000 + i = 1009 then b else _) = _
      rw [if_neg (by omega), if_neg (by omega), if_pos (by omega), show 2000 + i - 2000 = i by omega]
    have e2 : ∀ i, i < 10 → xad (s.heap.size, ((fun ci => (dD ci).1, fun ci => (dD ci).2) : va_G), ((fun k => if k = 13 then cB else if k = 14 then cI else if k = 15 then cJ else if k = 16 then cZ else cM) : Nat → ClassId), ((fun a => if a = 1009 then b else if a < 1009 then sD (a - 1000) else if a < 2100 then adK (a - 2000) else adV (a - 2100)) : Nat → Nat), ob) (2100 + i) = adV i := by
      intro i hi
      unfold xad
      rw [if_neg (by omega)]
      show (if 2100 + i = 1009 then b else _) = _
      rw [if_neg (by omega), if_neg (by omega), if_neg (by omega), show 2100 + i - 2100 = i by omega]
    refine ⟨fun i hi => ?_, fun i j hi hj e => ?_⟩
    · dsimp only
      rw [e1 i hi, e2 i hi]
      exact hvS.1 i hi
    · dsimp only at e
      rw [e1 i hi, e1 j hj] at e
      exact hvS.2 i j hi hj e
  · have hz : xad (s.heap.size, ((fun ci => (dD ci).1, fun ci => (dD ci).2) : va_G), ((fun k => if k = 13 then cB else if k = 14 then cI else if k = 15 then cJ else if k = 16 then cZ else cM) : Nat → ClassId), ((fun a => if a = 1009 then b else if a < 1009 then sD (a - 1000) else if a < 2100 then adK (a - 2000) else adV (a - 2100)) : Nat → Nat), ob) (2000 + i) = adK i := by
      unfold xad
      rw [if_neg (by omega)]
      show (if 2000 + i = 1009 then b else _) = _
      rw [if_neg (by omega), if_neg (by omega), if_pos (by omega), show 2000 + i - 2000 = i by omega]
    rw [hz]
    exact vk_R.of (hts _ (xtab_in (List.all_eq_true.mp xT_str i (List.mem_range.mpr hi)))) (hvR i hi)
  · obtain ⟨a, i, x, h, rfl⟩ := xnest_kind w hw
    exact va_Nw.of rfl (hts _ (xtab_in (List.all_eq_true.mp xT_nest _ hw)))
