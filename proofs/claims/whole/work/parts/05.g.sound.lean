theorem xtl_map {G : xG} {v : Option Value} {r : List Value} : (v.toList ++ r).map (xcv G) = (v.map (xcv G)).toList ++ r.map (xcv G) := by
  cases v <;> rfl
theorem xcat_sum {G : xG} (hob : G.2.2.2.2 = .null ∨ ∃ t, G.2.2.2.2 = .ref t) (r : List Value) : ((r.map (xcv G)).map fun v => v.category).sum = (r.map fun v => v.category).sum := by
  rw [List.map_map]
  congr 1
  exact List.map_congr_left fun v _ => xcv_cat hob v
theorem xS_call {G : xG} {s st₀ t : State} {H : Heap} {locs L : List Loc} (hS : va_S (xA G) s.heap H locs) (h0 : st₀.heap = H) (hL : ∀ q ∈ L, xA G q.base) (hF : va_F (xA G) st₀ t) : va_S (xA G) s.heap t.heap (locs ++ L) := by
  refine ⟨Nat.le_trans hS.1 (by rw [← h0]; exact hF.1), fun q h1 h2 => ?_, fun q hq => ?_⟩
  · rw [hF.2 q (by rw [h0]; exact Nat.lt_of_lt_of_le h1 hS.1) h2, h0]
    exact hS.2.1 q h1 h2
  · rcases List.mem_append.mp hq with w | w
    · exact hS.2.2 q w
    · exact hL q w
set_option maxHeartbeats 4000000 in
theorem xcall_step {l : Launch} {G : xG} {L : Nat} {xs : Nat → Int32} {p : Program} {e : Env} {R : Room} {s : State} {m : MethodId} {args : Array Value} {below : List Frame} {meth : Method} {c : Code} {Q : State → Prop} {j d n0 pc : Nat}
    (C : xCx G L xs p R s m args meth c j (d + 1)) {i : Instr} {r1 r2 : Nat} (hok : ∀ j, j < 310 → xokm j) (hrow : xrow (xme j).2.2.2.2.1 (xin j).2.2.2.1 (xin j).2.1 (pc, i, 3, r1, r2) = true)
    {ls : List (Option Value)} {st : List Value} {n : Nat} {M : xM} {o o1 : xO} {s2 : Nat} (hs : xsort i = s2 + 2) (hr2 : r2 < 2)
    (hsnd : xSnd l G L xs d r1 0 (xpad (xent (st.take (xme r1).2.1).reverse) (xme r1).2.2.1) [] n M o1)
    (hc1 : (xme r1).2.1 ≤ st.length) (hc2 : (xent (st.take (xme r1).2.1).reverse).length ≤ (xme r1).2.2.1) (hc3 : ((st.drop (xme r1).2.1).map fun v => v.category).sum ≤ 8)
    (hc4 : s2 = 1 ∨ ∃ (b : Nat) (bs : List Value), (st.take (xme r1).2.1).reverse = .ref b :: bs ∧ b < 2999 ∧ (s2 = 2 ∨ xcl n b = (xme r1).2.2.2.2.1))
    (hn1 : n ≤ o1.2.1) (ho1 : o1.2.1 ≤ o.2.1)
    (ih : ∀ (H : Heap) (locs : List Loc) (arr : Array Slot), va_S (xA G) s.heap H locs → xP G o1.2.1 o1.2.2 H → xLs G ls arr (xme j).2.2.1 → W p l e R s m args below meth c H locs (o1.2.1 - n0) (xsl o1.2.1 - xsl n0) Q (F0 m (pc + 3) arr ((o1.1.toList ++ st.drop (xme r1).2.1).map (xcv G))))
    (hn0 : n0 ≤ n) (hrc : o.2.1 - n0 ≤ R.cells) (hrs : xsl o.2.1 - xsl n0 ≤ R.slots)
    {H : Heap} {locs : List Loc} {arr : Array Slot} (hS : va_S (xA G) s.heap H locs) (hP : xP G n M H) (hl : xLs G ls arr (xme j).2.2.1) :
    W p l e R s m args below meth c H locs (n - n0) (xsl n - xsl n0) Q (F0 m pc arr (st.map (xcv G))) := by
  obtain ⟨hx, hb, hml, hown, hts, hE, hfr, hlo, hini⟩ := C
  have hob := hE.2.2.2.2.2.2.2.2.2.2
  unfold xrow at hrow
  simp only [Bool.and_eq_true, Bool.or_eq_true, decide_eq_true_eq] at hrow
  obtain ⟨⟨hd, -⟩, hq⟩ := hrow
  have hm1 := xsl_mono hn1
  have hm2 := xsl_mono ho1
  have hm3 := xsl_mono hn0
  have hroom : n - n0 + (o1.2.1 - n) ≤ R.cells ∧ xsl n - xsl n0 + (xsl o1.2.1 - xsl n) ≤ R.slots := by omega
  have e1 : n - n0 + (o1.2.1 - n) = o1.2.1 - n0 := by omega
  have e2 : xsl n - xsl n0 + (xsl o1.2.1 - xsl n) = xsl o1.2.1 - xsl n0 := by omega
  -- what is behind the call
  have behind : ∀ (As' : Array Value) (rest : List Value), rest = (st.drop (xme r1).2.1).map (xcv G) → va_Run p l e R s m args below meth c H locs (n - n0) (xsl n - xsl n0) (o1.2.1 - n) (xsl o1.2.1 - xsl n) (F0 m pc arr (st.map (xcv G))) rest (xQc G o1 As') (xA G) → W p l e R s m args below meth c H locs (n - n0) (xsl n - xsl n0) Q (F0 m pc arr (st.map (xcv G))) := by
    intro As' rest hrest hrun
    refine xs_call hrun (fun v st₀ t Lc h0 hL hQ => ?_)
    obtain ⟨hv, hP1, hF⟩ := hQ
    cases hv
    rw [e1, e2]
    have hi := ih t.heap (locs ++ Lc) arr (xS_call hS h0 hL hF) hP1 hl
    rw [xtl_map, ← hrest] at hi
    exact hi
  have hst : st.map (xcv G) = ((st.take (xme r1).2.1).map (xcv G)) ++ ((st.drop (xme r1).2.1).map (xcv G)) := by rw [← List.map_append, List.take_append_drop]
  have hcat : (((st.drop (xme r1).2.1).map (xcv G)).map fun v => v.category).sum ≤ 8 := by rw [xcat_sum hob]; exact hc3
  have htl : (st.take (xme r1).2.1).length = (xme r1).2.1 := by rw [List.length_take]; omega
  have hpre : ∀ as, (st.take (xme r1).2.1).reverse = as → ∀ U : State, U.heap = H → s.WarmedH U.vm → xPc G L xs as n M (as.map (xcv G)).toArray U := fun as _ U hU hW => ⟨rfl, hE.go hU hW hS, by rw [hU]; exact hP⟩
  cases i with
  | invokevirtual idx =>
    have hs0 : s2 = 0 := by have : 2 = s2 + 2 := hs; omega
    subst hs0
    have hq' : ((Nat.beq r2 0 && xhas (xlk (xme j).2.2.2.2.1 idx) (.methodLink (xin j).2.2.2.1 idx (xin r1).1)) && (xmok r1 false && xhas ((xin r1).2.2.2.2.1.getD 2 (9, 0)) (.selects (xin r1).1.cls (xin r1).1 (xin r1).1)) && (Nat.blt (xme r1).2.2.2.2.1 13 && decide ((xin r1).1.cls = (xcls (xme r1).2.2.2.2.1).1) || Nat.beq (xme r1).2.2.2.2.1 20 && decide ((xin r1).1.cls = "java/lang/String"))) = true := hq
    simp only [Bool.and_eq_true, Bool.or_eq_true, decide_eq_true_eq] at hq'
    obtain ⟨⟨⟨-, hlink⟩, hmok, hsel⟩, hclass⟩ := hq'
    obtain ⟨m1, m2, m3, m4, m5, m6, m7, m8, m9⟩ := xmok_spec hmok
    rcases hc4 with q | ⟨b, bs, has, hb3, q | hcl⟩
    · omega
    · omega
    have hhead1 := (hok r1 m9).1
    rw [has] at hsnd hc2
    have hM := xmet hmok hhead1 hc2 hsnd
    have hlen : bs.length + 1 = (xme r1).2.1 := by
      have := congrArg List.length has
      rw [List.length_reverse, htl] at this
      rw [this]; rfl
    have htake : st.take (xme r1).2.1 = bs.reverse ++ [.ref b] := by
      have := congrArg List.reverse has
      rw [List.reverse_reverse] at this
      rw [this, List.reverse_cons]
    have hrecv : ∃ cellB : Cell, H[xad G b]? = some cellB ∧ cellB.vm.isStatics = false ∧ s.vm.findClass (xin r1).1.cls = some cellB.cls := by
      rcases hclass with ⟨k1, k2⟩ | ⟨k1, k2⟩
      · have k1 := Nat.blt_eq.mp k1
        obtain ⟨hbl, hbn, hbk⟩ : b < 1000 ∧ b < n ∧ (xk b).1 = (xme r1).2.2.2.2.1 := by
          unfold xcl at hcl
          cases w1 : Nat.blt b 1000 with
          | true =>
            rw [w1] at hcl
            have hcl : (bif Nat.blt b n then (xk b).1 else 98) = _ := hcl
            cases w2 : Nat.blt b n with
            | true => rw [w2] at hcl; exact ⟨Nat.blt_eq.mp w1, Nat.blt_eq.mp w2, hcl⟩
            | false => rw [w2] at hcl; exact absurd (show 98 = _ from hcl) (by omega)
          | false =>
            rw [w1] at hcl
            have hcl : (bif Nat.ble 2000 b && Nat.blt b 2010 then 20 else 98) = _ := hcl
            cases w2 : (Nat.ble 2000 b && Nat.blt b 2010) with
            | true => rw [w2] at hcl; exact absurd (show 20 = _ from hcl) (by omega)
            | false => rw [w2] at hcl; exact absurd (show 98 = _ from hcl) (by omega)
        rw [xad_own hbl, k2]
        exact va_recv hE.1 hP.1 (xcls_at k1) (by rw [xws_at hbn, xce_obj hbk k1])
      · have k1 := Nat.eq_of_beq_eq_true k1
        obtain ⟨hb1, hb2⟩ : 2000 ≤ b ∧ b < 2010 := by
          unfold xcl at hcl
          have hkk := xk_kind b
          cases w1 : Nat.blt b 1000 with
          | true =>
            rw [w1] at hcl
            have hcl : (bif Nat.blt b n then (xk b).1 else 98) = _ := hcl
            cases w2 : Nat.blt b n with
            | true => rw [w2] at hcl; exact absurd (show (xk b).1 = _ from hcl) (by omega)
            | false => rw [w2] at hcl; exact absurd (show 98 = _ from hcl) (by omega)
          | false =>
            rw [w1] at hcl
            have hcl : (bif Nat.ble 2000 b && Nat.blt b 2010 then 20 else 98) = _ := hcl
            cases w2 : (Nat.ble 2000 b && Nat.blt b 2010) with
            | true => simp only [Bool.and_eq_true, Nat.blt_eq, Nat.ble_eq] at w2; exact w2
            | false => rw [w2] at hcl; exact absurd (show 98 = _ from hcl) (by omega)
        have hv := vk_recv hE.2.2.2.2.2.1 (show b - 2000 < 10 by omega) hS
        rw [show 2000 + (b - 2000) = b by omega] at hv
        rw [k2]
        exact hv
    have hbl := hpre _ has
    rw [List.map_cons, xcv_ref hb3] at hbl
    refine behind _ _ rfl (va_runV (C := (xin r1).1.cls) (b := xad G b) (As := bs.map (xcv G)) (n := (xme r1).2.1 - 1) (rm := { frames := d, cells := o1.2.1 - n, slots := xsl o1.2.1 - xsl n, locals := 100 * d }) ⟨hx, hb, hml, hown, hts⟩ hM ⟨callB_of (ws' := xW) _ hts (xgood m1) rfl rfl rfl (hts _ m4) (hts _ (xhas_in hlink)) m5 ⟨hfr, by show 8 + ((xme r1).2.2.1 + 11) + 100 * d ≤ R.locals; omega⟩, hts _ m3, hts _ (xhas_in hsel)⟩ ⟨xPc_blind, hrecv, hbl⟩ rfl (by rw [List.length_map]; omega) hl.2.1 ?_ (lv_room hcat) hd hroom)
    show st.map (xcv G) = _
    rw [hst, htake, List.map_append, List.map_reverse, List.append_assoc]
    show _ ++ (xcv G (.ref b) :: _) = _
    rw [xcv_ref hb3]
    rfl
  | invokestatic idx =>
    have hs0 : s2 = 1 := by have : 3 = s2 + 2 := hs; omega
    subst hs0
    have hstk : st.map (xcv G) = (((st.take (xme r1).2.1).reverse).map (xcv G)).reverse ++ (st.drop (xme r1).2.1).map (xcv G) := by rw [hst, List.map_reverse, List.reverse_reverse]
    have hlen : (((st.take (xme r1).2.1).reverse).map (xcv G)).length = (xme r1).2.1 - (bif true then 0 else 1) := by rw [List.length_map, List.length_reverse, htl]; rfl
    rcases (show r2 = 0 ∨ r2 = 1 by omega) with rfl | rfl
    · have hq' : ((Nat.beq 0 0 && xhas (xlk (xme j).2.2.2.2.1 idx) (.methodLink (xin j).2.2.2.1 idx (xin r1).1)) && xmok r1 true) = true := hq
      simp only [Bool.and_eq_true] at hq'
      obtain ⟨⟨-, hlink⟩, hmok⟩ := hq'
      obtain ⟨m1, m2, m3, m4, m5, m6, m7, m8, m9⟩ := xmok_spec hmok
      have hM := xmet hmok (hok r1 m9).1 hc2 hsnd
      exact behind _ _ rfl (va_runS (As := ((st.take (xme r1).2.1).reverse).map (xcv G)) (rm := { frames := d, cells := o1.2.1 - n, slots := xsl o1.2.1 - xsl n, locals := 100 * d }) ⟨hx, hb, hml, hown, hts⟩ hM ⟨callB_of (ws' := xW) _ hts (xgood m1) rfl rfl rfl (hts _ m4) (hts _ (xhas_in hlink)) m5 ⟨hfr, by show 8 + ((xme r1).2.2.1 + 11) + 100 * d ≤ R.locals; omega⟩, hts _ m3⟩ ⟨xPc_blind, hpre _ rfl⟩ rfl hlen hl.2.1 hstk (lv_room hcat) hd hroom)
    · have hq' : (decide (Cond.methodLinkNest (xin j).2.2.2.1 idx (xin r1).1 "StateMill" ∈ xnest) && xmok r1 true) = true := hq
      simp only [Bool.and_eq_true, decide_eq_true_eq] at hq'
      obtain ⟨hnl, hmok⟩ := hq'
      obtain ⟨m1, m2, m3, m4, m5, m6, m7, m8, m9⟩ := xmok_spec hmok
      have hM := xmet hmok (hok r1 m9).1 hc2 hsnd
      exact behind _ _ rfl (va_runSN (As := ((st.take (xme r1).2.1).reverse).map (xcv G)) (rm := { frames := d, cells := o1.2.1 - n, slots := xsl o1.2.1 - xsl n, locals := 100 * d }) ⟨hx, hb, hml, hown, hts⟩ hM ⟨va_cnB (ws' := xW) _ hts (xgood m1) rfl rfl rfl (hE.2.2.2.2.2.2.2.1 _ hnl) (hts _ m4) m5 ⟨hfr, by show 8 + ((xme r1).2.2.1 + 11) + 100 * d ≤ R.locals; omega⟩, hts _ m3, trivial⟩ ⟨xPc_blind, hpre _ rfl⟩ rfl hlen hl.2.1 hstk (lv_room hcat) hd hroom)
  | invokespecial idx =>
    have hs0 : s2 = 2 := by have : 4 = s2 + 2 := hs; omega
    subst hs0
    rcases hc4 with q | ⟨b, bs, has, hb3, -⟩
    · omega
    have hlen : bs.length + 1 = (xme r1).2.1 := by
      have := congrArg List.length has
      rw [List.length_reverse, htl] at this
      rw [this]; rfl
    have htake : st.take (xme r1).2.1 = bs.reverse ++ [.ref b] := by
      have := congrArg List.reverse has
      rw [List.reverse_reverse] at this
      rw [this, List.reverse_cons]
    rw [has] at hsnd hc2
    have hbl := hpre _ has
    rw [List.map_cons, xcv_ref hb3] at hbl
    have hstk : st.map (xcv G) = (bs.map (xcv G)).reverse ++ .ref (xad G b) :: (st.drop (xme r1).2.1).map (xcv G) := by
      rw [hst, htake, List.map_append, List.map_reverse, List.append_assoc]
      show _ ++ (xcv G (.ref b) :: _) = _
      rw [xcv_ref hb3]
      rfl
    rcases (show r2 = 0 ∨ r2 = 1 by omega) with rfl | rfl
    · have hq' : ((Nat.beq 0 0 && xhas (xlk (xme j).2.2.2.2.1 idx) (.methodLink (xin j).2.2.2.1 idx (xin r1).1)) && (xmok r1 false && (decide ((xin r1).1.name = "<init>") && decide ((xin r1).2.2.1 = none)))) = true := hq
      simp only [Bool.and_eq_true, decide_eq_true_eq] at hq'
      obtain ⟨⟨-, hlink⟩, hmok, hnm, hrn⟩ := hq'
      obtain ⟨m1, m2, m3, m4, m5, m6, m7, m8, m9⟩ := xmok_spec hmok
      have hM := xmet hmok (hok r1 m9).1 hc2 hsnd
      exact behind _ _ rfl (va_runI (b := xad G b) (As := bs.map (xcv G)) (n := (xme r1).2.1 - 1) (rm := { frames := d, cells := o1.2.1 - n, slots := xsl o1.2.1 - xsl n, locals := 100 * d }) ⟨hx, hb, hml, hown, hts⟩ hM ⟨callB_of (ws' := xW) _ hts (xgood m1) (by unfold xwm; rw [hrn]) rfl rfl (hts _ m4) (hts _ (xhas_in hlink)) m5 ⟨hfr, by show 8 + ((xme r1).2.2.1 + 11) + 100 * d ≤ R.locals; omega⟩, hnm, hts _ m3⟩ ⟨xPc_blind, hbl⟩ rfl (by rw [List.length_map]; omega) hl.2.1 hstk (lv_room hcat) hd hroom)
    · have hq' : (decide (Cond.methodLinkNest (xin j).2.2.2.1 idx (xin r1).1 "StateMill" ∈ xnest) && (xmok r1 false && (decide ((xin r1).1.name = "<init>") && decide ((xin r1).2.2.1 = none)))) = true := hq
      simp only [Bool.and_eq_true, decide_eq_true_eq] at hq'
      obtain ⟨hnl, hmok, hnm, hrn⟩ := hq'
      obtain ⟨m1, m2, m3, m4, m5, m6, m7, m8, m9⟩ := xmok_spec hmok
      have hM := xmet hmok (hok r1 m9).1 hc2 hsnd
      exact behind _ _ rfl (va_runIN (b := xad G b) (As := bs.map (xcv G)) (n := (xme r1).2.1 - 1) (rm := { frames := d, cells := o1.2.1 - n, slots := xsl o1.2.1 - xsl n, locals := 100 * d }) ⟨hx, hb, hml, hown, hts⟩ hM ⟨va_cnB (ws' := xW) _ hts (xgood m1) (by unfold xwm; rw [hrn]) rfl rfl (hE.2.2.2.2.2.2.2.1 _ hnl) (hts _ m4) m5 ⟨hfr, by show 8 + ((xme r1).2.2.1 + 11) + 100 * d ≤ R.locals; omega⟩, hnm, hts _ m3⟩ ⟨xPc_blind, hbl⟩ rfl (by rw [List.length_map]; omega) hl.2.1 hstk (lv_room hcat) hd hroom)
  | _ => exact absurd hs (by show ¬ _ = s2 + 2; simp [xsort])
