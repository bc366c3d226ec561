/-! count of both -/
theorem caA_fr {m : Nat} {w : aT} {I I' : xI} (h : caA m w I) (hf : ∀ c j, ((32 ≤ c ∧ c ≤ 34) ∨ (c = 1 ∧ j = 2)) → I' c j = I c j) : caA m w I' := by
  unfold caA
  rw [hf 32 4 (by omega), hf 1 2 (by omega), hf 32 3 (by omega), show I' 33 = I 33 from funext fun j => hf 33 j (by omega), show I' 34 = I 34 from funext fun j => hf 34 j (by omega)]
  exact h
theorem caB_fr {n m : Nat} {w : aT} {I I' : xI} (h : caB n m w I) (hf : ∀ c j, ((36 ≤ c ∧ c ≤ 42) ∨ (c = 1 ∧ j = 2)) → I' c j = I c j) : caB n m w I' := by
  unfold caB
  rw [hf 36 8 (by omega), hf 1 2 (by omega), hf 36 4 (by omega), hf 36 5 (by omega), hf 36 7 (by omega), show I' 37 = I 37 from funext fun j => hf 37 j (by omega), show I' 38 = I 38 from funext fun j => hf 38 j (by omega), show I' 39 = I 39 from funext fun j => hf 39 j (by omega), show I' 40 = I 40 from funext fun j => hf 40 j (by omega)]
  exact h
theorem caC_fr {n m : Nat} {w : aT} {I I' : xI} (h : caC n m w I) (hf : ∀ c j, ((36 ≤ c ∧ c ≤ 42) ∨ (c = 1 ∧ j = 2)) → I' c j = I c j) : caC n m w I' := by
  unfold caC
  rw [hf 36 13 (by omega), hf 1 2 (by omega), hf 36 12 (by omega), show I' 42 = I 42 from funext fun j => hf 42 j (by omega)]
  exact h
theorem cPl_fr {n : Nat} {l : List (Nat × Nat)} {I I' : xI} (h : cPl n l I) (hf : ∀ c j, (43 ≤ c ∧ c ≤ 46) → I' c j = I c j) : cPl n l I' := by
  unfold cPl
  rw [hf 43 6 (by omega), hf 43 5 (by omega), show I' 44 = I 44 from funext fun j => hf 44 j (by omega), show I' 45 = I 45 from funext fun j => hf 45 j (by omega), show I' 46 = I 46 from funext fun j => hf 46 j (by omega)]
  exact h
theorem caD_fr {n m : Nat} {w : aT} {I I' : xI} (h : caD n m w I) (hf : ∀ c j, ((43 ≤ c ∧ c ≤ 47) ∨ (c = 1 ∧ j = 2)) → I' c j = I c j) : caD n m w I' := by
  obtain ⟨k, hk, hP, hG⟩ := h
  refine ⟨k, hk, cPl_fr hP (fun c j hc => hf c j (by omega)), ?_⟩
  rw [hf 43 9 (by omega), hf 1 2 (by omega), hf 43 8 (by omega), show I' 47 = I 47 from funext fun j => hf 47 j (by omega)]
  exact hG
noncomputable def countR (n m : Nat) (w : aT) (l k : Nat) (sl : Nat → Option aT) (x : Int32) : Int32 :=
  if x = 0 then nt n else if x = 1 then nt m else if x = 2 then nt (opn n m w) else if x = 3 then nt (tld n m w) else if x = 4 then nt (cn 15 (fun p => (rd m w (pL p) (pH p)).isSome)) else if x = 5 then ov (grd m w) else if x = 6 then nt (nb n) else if x = 7 then nt (cdn w.2.2 n) else if x = 8 then nt l else if x = 9 then nt k else if x = 10 then nt (slc sl) else if x = 11 then nt (unr n m w) else if x = 12 then bi (pro n w.2.2) else if x = 13 then nt (mtc n m w n) else if x = 14 then ov (lbk n (gii n m w) (pts n).length) else -1
def qtReg (c j : Nat) : Prop := qReg c j ∨ tReg c j
def cPost (n m : Nat) (w : aT) (I : xI) (J : xJ) (v : Int32) (o : Int32 × xI × xJ) : Prop := o.2.2 = J ∧ o.1 = v ∧ caABC n m w o.2.1 ∧ caD n m w o.2.1 ∧ ∀ c j, ¬ qtReg c j → o.2.1 c j = I c j
theorem cPost_of {n m : Nat} {w : aT} {I : xI} {J : xJ} {v v' : Int32} (hA : caABC n m w I) (hD : caD n m w I) (e : v' = v) : Ok (some (v', I, J)) (cPost n m w I J v) := ok_some ⟨rfl, e, hA, hD, fun _ _ _ => rfl⟩
theorem cp_pairs {n m : Nat} {w : aT} {I : xI} {J : xJ} (hn : n ≤ 6) (hm : m ≤ 4) (V : Vd n m w) (h : cMa n m w (I 1 0) (I 1 1) (I 2) (I 3) (I 4)) (hA : caABC n m w I) (hD : caD n m w I) {v : Int32} {f : xI → xJ → Option (Int32 × xI × xJ)} (hf : ∀ I', cPa m w (I' 32 3) (I' 33) (I' 34) → f I' J = some (v, I', J)) : Ok ((f_X11_pairsNow I J).bind fun o => f o.2.1 o.2.2) (cPost n m w I J v) := by
  apply ok_bind
  refine (pairsNow_ok hn hm V h hA.1).imp ?_
  rintro ⟨_, I1, J1⟩ ⟨rfl, a1, a2⟩
  dsimp only at a1 a2 ⊢
  rw [hf I1 a1]
  have a3 : ∀ c j, ¬ (c = 33 ∨ c = 34 ∨ (c = 32 ∧ (j = 3 ∨ j = 4))) → I1 c j = I c j := a2
  refine ok_some ⟨rfl, rfl, ⟨fun _ => a1, caB_fr hA.2.1 (fun c j hc => a3 c j (by omega)), caC_fr hA.2.2 (fun c j hc => a3 c j (by omega))⟩, caD_fr hD (fun c j hc => a3 c j (by omega)), ?_⟩
  intro c j hc
  exact a2 c j (fun hp => hc (Or.inl (Or.inl hp)))
theorem ccount_ok {n m l k : Nat} {w : aT} {sl : Nat → Option aT} {I : xI} {J : xJ} (hn : n ≤ 6) (hm : m ≤ 4) (V : Vd n m w) (h : cMa n m w (I 1 0) (I 1 1) (I 2) (I 3) (I 4)) (hA : caABC n m w I) (hD : caD n m w I) (hS : cSl n m sl I) (hl : I 24 1 = nt l) (hk : I 5 6 = nt k) (x : Int32) : Ok (f_X11_count x I J) (cPost n m w I J (countR n m w l k sl x)) := by
  unfold f_X11_count f_X11_count_0 f_X11_count_1 countR
  by_cases c0 : x = 0
  · rw [if_pos c0, if_pos c0]; exact cPost_of hA hD h.1
  rw [if_neg c0, if_neg c0]
  by_cases c1 : x = 1
  · rw [if_pos c1, if_pos c1]; exact cPost_of hA hD h.2.1
  rw [if_neg c1, if_neg c1]
  by_cases c2 : x = 2
  · rw [if_pos c2, if_pos c2]
    simp only [f_X11_count_4, f_X11_count_5, copen_ok hn hm V h, Option.bind_some]
    exact cPost_of hA hD rfl
  rw [if_neg c2, if_neg c2]
  by_cases c3 : x = 3
  · rw [if_pos c3, if_pos c3]
    simp only [f_X11_count_6, f_X11_count_7, ctold_ok hn hm V h, Option.bind_some]
    exact cPost_of hA hD rfl
  rw [if_neg c3, if_neg c3]
  by_cases c4 : x = 4
  · rw [if_pos c4, if_pos c4]
    unfold f_X11_count_8
    exact cp_pairs hn hm V h hA hD (f := f_X11_count_9 x) (fun I' hp => by simp only [f_X11_count_9, f_X11_count_10, capc_ok hp, Option.bind_some])
  rw [if_neg c4, if_neg c4]
  by_cases c5 : x = 5
  · rw [if_pos c5, if_pos c5]
    unfold f_X11_count_11
    exact cp_pairs hn hm V h hA hD (f := f_X11_count_12 x) (fun I' hp => by simp only [f_X11_count_12, f_X11_count_13, cgrd_ok hp, Option.bind_some])
  rw [if_neg c5, if_neg c5]
  by_cases c6 : x = 6
  · rw [if_pos c6, if_pos c6]
    simp only [f_X11_count_14, f_X11_count_15, cbits_ok hn h.1, Option.bind_some]
    exact cPost_of hA hD rfl
  rw [if_neg c6, if_neg c6]
  by_cases c7 : x = 7
  · rw [if_pos c7, if_pos c7]
    simp only [f_X11_count_16, f_X11_count_17, ccodeN_ok hn V h, Option.bind_some]
    exact cPost_of hA hD rfl
  rw [if_neg c7, if_neg c7]
  by_cases c8 : x = 8
  · rw [if_pos c8, if_pos c8]; exact cPost_of hA hD hl
  rw [if_neg c8, if_neg c8]
  by_cases c9 : x = 9
  · rw [if_pos c9, if_pos c9]; exact cPost_of hA hD hk
  rw [if_neg c9, if_neg c9]
  by_cases c10 : x = 10
  · rw [if_pos c10, if_pos c10]
    simp only [f_X11_count_20, f_X11_count_21, cslc_ok hS, Option.bind_some]
    exact cPost_of hA hD rfl
  rw [if_neg c10, if_neg c10]
  by_cases c11 : x = 11
  · rw [if_pos c11, if_pos c11]
    simp only [f_X11_count_22, f_X11_count_23, cunr_ok hn hm V h, Option.bind_some]
    exact cPost_of hA hD rfl
  rw [if_neg c11, if_neg c11]
  by_cases c12 : x = 12
  · rw [if_pos c12, if_pos c12]
    simp only [f_X11_count_24, f_X11_count_25, f_X11_count_26, f_X11_count_27, f_X11_count_28, cproper_ok hn h.1 (fun s hs => ⟨h.2.2.2.2 s (by omega), V.2.2 s⟩), Option.bind_some, bi_0]
    cases pro n w.2.2 with
    | false => exact cPost_of hA hD rfl
    | true => exact cPost_of hA hD rfl
  rw [if_neg c12, if_neg c12]
  by_cases c13 : x = 13
  · rw [if_pos c13, if_pos c13]
    unfold f_X11_count_29
    apply ok_bind
    refine (fewestNow_ok hn hm V h hA).imp ?_
    rintro ⟨_, I1, J1⟩ ⟨rfl, a0, a1, a2⟩
    dsimp only at a0 a1 a2 ⊢
    have a3 : ∀ c j, ¬ ((c = 33 ∨ c = 34 ∨ (c = 32 ∧ (j = 3 ∨ j = 4))) ∨ (36 ≤ c ∧ c ≤ 42)) → I1 c j = I c j := a2
    have e1 : I1 1 0 = nt n := (a3 1 0 (by omega)).trans h.1
    simp only [f_X11_count_30, f_X11_count_31, cmtc_ok hn e1 a1, Option.bind_some]
    exact ok_some ⟨rfl, rfl, a0, caD_fr hD (fun c j hc => a3 c j (by omega)), fun c j hc => a2 c j (fun hp => hc (Or.inl hp))⟩
  rw [if_neg c13, if_neg c13]
  by_cases c14 : x = 14
  · rw [if_pos c14, if_pos c14]
    unfold f_X11_count_32
    apply ok_bind
    refine (partsNow_ok hn hm V h hA.1 hD).imp ?_
    rintro ⟨_, I1, J1⟩ ⟨rfl, a0, a1, a2, a3, a4, a5⟩
    dsimp only at a0 a1 a2 a3 a4 a5 ⊢
    have a6 : ∀ c j, ¬ ((c = 33 ∨ c = 34 ∨ (c = 32 ∧ (j = 3 ∨ j = 4))) ∨ (44 ≤ c ∧ c ≤ 47) ∨ (c = 43 ∧ (j = 5 ∨ j = 6 ∨ j = 8 ∨ j = 9))) → I1 c j = I c j := a5
    simp only [f_X11_count_33, f_X11_count_34, clb_ok hn a3 a4, Option.bind_some]
    exact ok_some ⟨rfl, rfl, ⟨a0, caB_fr hA.2.1 (fun c j hc => a6 c j (by omega)), caC_fr hA.2.2 (fun c j hc => a6 c j (by omega))⟩, a1, fun c j hc => a5 c j (fun hp => hc (Or.inr hp))⟩
  rw [if_neg c14, if_neg c14]
  exact cPost_of hA hD rfl
theorem rcount_ok {n m l k : Nat} {w : aT} {sl : Nat → Option aT} {I : xI} {J : xJ} (hn : n ≤ 6) (hm : m ≤ 4) (V : Vd n m w) (h0 : I 61 17 = nt n) (h1 : I 61 18 = nt m) (h : rMa n m w (I 70) 0) (hc : rCa n m w I) (hS : rSl n m sl (I 73) (I 74)) (hl : I 61 2 = nt l) (hk : I 61 26 = nt k) (x : Int32) : Ok (f_X12_count x I J) (fun o => o.2.2 = J ∧ o.1 = countR n m w l k sl x ∧ rCa n m w o.2.1 ∧ ∀ c j, ¬ kReg c j → o.2.1 c j = I c j) := by
  unfold f_X12_count f_X12_count_0
  apply ok_bind
  refine (knows_ok hn hm V h0 h1 h hc).imp ?_
  rintro ⟨_, I1, J1⟩ ⟨rfl, a0, a1, a2⟩
  dsimp only at a0 a1 a2 ⊢
  have a3 : ∀ c j, ¬ ((76 ≤ c ∧ c ≤ 85) ∨ (c = 61 ∧ (j = 29 ∨ j = 33 ∨ j = 35 ∨ j = 37 ∨ j = 40))) → I1 c j = I c j := a2
  have e0 : I1 61 17 = nt n := (a3 61 17 (by omega)).trans h0
  have e1 : I1 61 18 = nt m := (a3 61 18 (by omega)).trans h1
  have e2 : I1 61 2 = nt l := (a3 61 2 (by omega)).trans hl
  have e26 : I1 61 26 = nt k := (a3 61 26 (by omega)).trans hk
  have e70 : rMa n m w (I1 70) 0 := by rw [show I1 70 = I 70 from funext fun j => a3 70 j (by omega)]; exact h
  have e73 : rSl n m sl (I1 73) (I1 74) := by rw [show I1 73 = I 73 from funext fun j => a3 73 j (by omega), show I1 74 = I 74 from funext fun j => a3 74 j (by omega)]; exact hS
  have key : f_X12_count_1 x I1 J1 = some (countR n m w l k sl x, I1, J1) := by
    unfold f_X12_count_1 f_X12_count_2 countR
    by_cases c0 : x = 0
    · rw [if_pos c0, if_pos c0]; simp only [f_X12_count_3, e0]
    rw [if_neg c0, if_neg c0]
    by_cases c1 : x = 1
    · rw [if_pos c1, if_pos c1]; simp only [f_X12_count_4, e1]
    rw [if_neg c1, if_neg c1]
    by_cases c2 : x = 2
    · rw [if_pos c2, if_pos c2]
      have e := untold_ok (J := J1) (off := 0) (f := w.1) hn hm (by omega) e0 e1 (fun s y hs hy => by have := e70.1 s y hs hy; rwa [Nat.zero_add] at this ⊢) (fun s y u hu => by have := (V.1 _ _ _ hu).2.2; omega)
      have e' : f_X12_untold 0 I1 J1 = some (nt (opn n m w), I1, J1) := e
      simp only [f_X12_count_5, f_X12_count_6, e', Option.bind_some]
    rw [if_neg c2, if_neg c2]
    by_cases c3 : x = 3
    · rw [if_pos c3, if_pos c3]
      have e := untold_ok (J := J1) (off := 24) (f := w.2.1) hn hm (by omega) e0 e1 (fun s y hs hy => by have := e70.2.1 s y hs hy; rwa [Nat.zero_add] at this) (fun s y u hu => by have := (V.2.1 _ _ _ hu).2.2; omega)
      have e' : f_X12_untold 24 I1 J1 = some (nt (ssum n (fun s => ssum m (fun x => if w.2.1 s x = none then 1 else 0))), I1, J1) := e
      have et := tld_sub (n := n) (m := m) w
      simp only [f_X12_count_7, f_X12_count_8, e', Option.bind_some, e0, e1, nt_mul]
      rw [nt_sub (by omega), ← et, Nat.add_sub_cancel_left]
    rw [if_neg c3, if_neg c3]
    by_cases c4 : x = 4
    · rw [if_pos c4, if_pos c4]; exact rapc_ok hn V a0.1 x
    rw [if_neg c4, if_neg c4]
    by_cases c5 : x = 5
    · rw [if_pos c5, if_pos c5]; exact rgrd_ok hn V a0.1 x
    rw [if_neg c5, if_neg c5]
    by_cases c6 : x = 6
    · rw [if_pos c6, if_pos c6]
      simp only [f_X12_count_21, f_X12_count_22, rbits_ok hn e0, Option.bind_some]
    rw [if_neg c6, if_neg c6]
    by_cases c7 : x = 7
    · rw [if_pos c7, if_pos c7]; exact rcodeN_ok hn e0 e70 x
    rw [if_neg c7, if_neg c7]
    by_cases c8 : x = 8
    · rw [if_pos c8, if_pos c8]; simp only [f_X12_count_28, e2]
    rw [if_neg c8, if_neg c8]
    by_cases c9 : x = 9
    · rw [if_pos c9, if_pos c9]; simp only [f_X12_count_29, e26]
    rw [if_neg c9, if_neg c9]
    by_cases c10 : x = 10
    · rw [if_pos c10, if_pos c10]; exact rslc_ok e73 x
    rw [if_neg c10, if_neg c10]
    by_cases c11 : x = 11
    · rw [if_pos c11, if_pos c11]
      simp only [f_X12_count_40, f_X12_count_41, runr_ok hn hm V e0 e1 e70, Option.bind_some]
    rw [if_neg c11, if_neg c11]
    by_cases c12 : x = 12
    · rw [if_pos c12, if_pos c12]
      simp only [f_X12_count_42, f_X12_count_43, f_X12_count_44, f_X12_count_45, f_X12_count_46, rproper_ok hn V e0 e70, Option.bind_some, bi_0]
      cases pro n w.2.2 with
      | false => rfl
      | true => rfl
    rw [if_neg c12, if_neg c12]
    by_cases c13 : x = 13
    · rw [if_pos c13, if_pos c13]; exact rmtc_ok hn e0 a0.2.2.2.1.1 a0.2.2.2.2.1 x
    rw [if_neg c13, if_neg c13]
    by_cases c14 : x = 14
    · rw [if_pos c14, if_pos c14]; exact rlb_ok hn a0.2.2.2.2.2.1 a0.2.2.2.2.2.2 x
    rw [if_neg c14, if_neg c14]
    rfl
  rw [key]
  exact ok_some ⟨rfl, rfl, fun _ => ⟨a0, a1⟩, a2⟩
