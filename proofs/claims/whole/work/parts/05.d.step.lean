theorem xosw {pc : Nat} {df : Int} {l : List (Int × Int)} {x : Int} (h0 : 0 ≤ (pc : Int) + df) (h : ∀ q ∈ l, 0 ≤ (pc : Int) + q.2) : 0 ≤ (pc : Int) + Op.lookupswitch.offset l df x := by
  induction l with
  | nil => exact h0
  | cons r l ih =>
    unfold Op.lookupswitch.offset
    split
    · exact h _ List.mem_cons_self
    · exact ih (fun q hq => h q (List.mem_cons_of_mem _ hq))
set_option maxHeartbeats 4000000 in
set_option maxRecDepth 100000 in
theorem xi_sound {l : Launch} {G : xG} {L : Nat} {xs : Nat → Int32} {p : Program} {e : Env} {R : Room} {s : State} {m : MethodId} {args : Array Value} {below : List Frame} {meth : Method} {c : Code} {Q : State → Prop} {j d n0 : Nat}
    (C : xCx G L xs p R s m args meth c j d) {pc : Nat} {q : xQ} (hrow : xrow (xme j).2.2.2.2.1 (xin j).2.2.2.1 (xin j).2.1 (pc, q) = true) (hhead : xhead j = true)
    {ls : List (Option Value)} {st : List Value} {n : Nat} {M : xM} {k : xK xO} {o : xO} (h : xi L xs (bif (xme j).2.2.2.2.2 then (xme j).2.2.2.2.1 + 1 else 0) pc q ls st n M k = some o)
    (hk : ∀ pc ls st n M, k pc ls st n M = some o → n ≤ o.2.1)
    (ih : ∀ pc ls st n' M, k pc ls st n' M = some o → n ≤ n' → ∀ (H : Heap) (locs : List Loc) (arr : Array Slot), va_S (xA G) s.heap H locs → xP G n' M H → xLs G ls arr (xme j).2.2.1 → W p l e R s m args below meth c H locs (n' - n0) (xsl n' - xsl n0) Q (F0 m pc arr (st.map (xcv G))))
    (hn0 : n0 ≤ n) (hrc : o.2.1 - n0 ≤ R.cells) (hrs : xsl o.2.1 - xsl n0 ≤ R.slots)
    {H : Heap} {locs : List Loc} {arr : Array Slot} (hS : va_S (xA G) s.heap H locs) (hP : xP G n M H) (hl : xLs G ls arr (xme j).2.2.1) :
    W p l e R s m args below meth c H locs (n - n0) (xsl n - xsl n0) Q (F0 m pc arr (st.map (xcv G))) := by
  obtain ⟨hx, hb, hml, hown, hts, hE, hfr, hlo, hini⟩ := C
  obtain ⟨i, len, r1, r2⟩ := q
  unfold xrow at hrow
  simp only [Bool.and_eq_true, Bool.or_eq_true, decide_eq_true_eq] at hrow
  obtain ⟨⟨hd, hlen⟩, hq⟩ := hrow
  have hlen' : xsw i = false → len = xln i := fun hw => by
    rcases hlen with e | e
    · exact e
    · rw [hw] at e; cases e
  have hob := hE.2.2.2.2.2.2.2.2.2.2
  have hle : n ≤ n := Nat.le_refl n
  have hBH : G.1 ≤ s.heap.size := hE.2.2.2.2.2.2.2.2.2.1
  cases i with
  | iconst a => obtain rfl : len = 1 := hlen' rfl; exact lv_iconst hx hb hd rfl (ih _ _ _ _ _ h hle _ _ _ hS hP hl)
  | bipush a => obtain rfl : len = 2 := hlen' rfl; exact lv_bipush hx hb hd rfl (ih _ _ _ _ _ h hle _ _ _ hS hP hl)
  | sipush a => obtain rfl : len = 3 := hlen' rfl; exact lv_sipush hx hb hd rfl (ih _ _ _ _ _ h hle _ _ _ hS hP hl)
  | lconst a => obtain rfl : len = 1 := hlen' rfl; exact lv_lconst hx hb hd rfl (ih _ _ _ _ _ h hle _ _ _ hS hP hl)
  | iload a =>
    obtain rfl : len = 2 := hlen' rfl
    obtain ⟨v, hv, h⟩ := xld_some h
    obtain ⟨x, rfl, h⟩ := xii_some h
    exact lv_iload hx hb hd (hl.2.2.2 _ _ hv) (ih _ _ _ _ _ h hle _ _ _ hS hP hl)
  | iload_n a =>
    obtain rfl : len = 1 := hlen' rfl
    obtain ⟨v, hv, h⟩ := xld_some h
    obtain ⟨x, rfl, h⟩ := xii_some h
    exact lv_iload_n hx hb hd rfl (hl.2.2.2 _ _ hv) (ih _ _ _ _ _ h hle _ _ _ hS hP hl)
  | lload a =>
    obtain rfl : len = 2 := hlen' rfl
    obtain ⟨v, hv, h⟩ := xld_some h
    obtain ⟨x, rfl, h⟩ := xll_some h
    exact lv_lload hx hb hd (hl.2.2.2 _ _ hv) (ih _ _ _ _ _ h hle _ _ _ hS hP hl)
  | lload_n a =>
    obtain rfl : len = 1 := hlen' rfl
    obtain ⟨v, hv, h⟩ := xld_some h
    obtain ⟨x, rfl, h⟩ := xll_some h
    exact lv_lload_n hx hb hd rfl (hl.2.2.2 _ _ hv) (ih _ _ _ _ _ h hle _ _ _ hS hP hl)
  | aload a =>
    obtain rfl : len = 2 := hlen' rfl
    obtain ⟨v, hv, h⟩ := xld_some h
    obtain ⟨x, rfl, hx3, h⟩ := xrr_some h
    have hg := hl.2.2.2 _ _ hv
    have hi := ih _ _ _ _ _ h hle _ _ _ hS hP hl
    rw [List.map_cons, xcv_ref hx3] at hi
    rw [xcv_ref hx3] at hg
    exact lv_aload hx hb hd hg hi
  | aload_n a =>
    obtain rfl : len = 1 := hlen' rfl
    obtain ⟨v, hv, h⟩ := xld_some h
    obtain ⟨x, rfl, hx3, h⟩ := xrr_some h
    have hg := hl.2.2.2 _ _ hv
    have hi := ih _ _ _ _ _ h hle _ _ _ hS hP hl
    rw [List.map_cons, xcv_ref hx3] at hi
    rw [xcv_ref hx3] at hg
    exact lv_aload_n hx hb hd rfl hg hi
  | istore a =>
    obtain rfl : len = 2 := hlen' rfl
    obtain ⟨hi, h⟩ := xbif h
    obtain ⟨x, r, rfl, h⟩ := x1_some h
    have hi' : a < (xme j).2.2.1 := by rw [← hl.1]; exact Nat.blt_eq.mp hi
    exact lv_istore hx hb hd hl.has hi' rfl (fun arr' h' => ih _ _ _ _ _ h hle _ _ _ hS hP (xLs.of1 (v := .int x) hob hl.1 hi' h'))
  | istore_n a =>
    obtain rfl : len = 1 := hlen' rfl
    obtain ⟨hi, h⟩ := xbif h
    obtain ⟨x, r, rfl, h⟩ := x1_some h
    have hi' : (a : Nat) < (xme j).2.2.1 := by rw [← hl.1]; exact Nat.blt_eq.mp hi
    exact lv_istore_n hx hb hd rfl hl.has hi' rfl (fun arr' h' => ih _ _ _ _ _ h hle _ _ _ hS hP (xLs.of1 (v := .int x) hob hl.1 hi' h'))
  | astore a =>
    obtain rfl : len = 2 := hlen' rfl
    obtain ⟨hi, h⟩ := xbif h
    obtain ⟨x, r, rfl, hx3, h⟩ := xr_some h
    have hi' : a < (xme j).2.2.1 := by rw [← hl.1]; exact Nat.blt_eq.mp hi
    rw [List.map_cons, xcv_ref hx3]
    exact lv_astore hx hb hd hl.has hi' rfl (fun arr' h' => ih _ _ _ _ _ h hle _ _ _ hS hP (xLs.of1 (v := .ref x) hob hl.1 hi' (by rw [xcv_ref hx3]; exact h')))
  | astore_n a =>
    obtain rfl : len = 1 := hlen' rfl
    obtain ⟨hi, h⟩ := xbif h
    obtain ⟨x, r, rfl, hx3, h⟩ := xr_some h
    have hi' : (a : Nat) < (xme j).2.2.1 := by rw [← hl.1]; exact Nat.blt_eq.mp hi
    rw [List.map_cons, xcv_ref hx3]
    exact lv_astore_n hx hb hd rfl hl.has hi' rfl (fun arr' h' => ih _ _ _ _ _ h hle _ _ _ hS hP (xLs.of1 (v := .ref x) hob hl.1 hi' (by rw [xcv_ref hx3]; exact h')))
  | lstore a =>
    obtain rfl : len = 2 := hlen' rfl
    obtain ⟨hi, h⟩ := xbif h
    obtain ⟨v, r, rfl, h⟩ := xtop_some h
    obtain ⟨x, rfl, h⟩ := xll_some h
    have hi' : a + 1 < (xme j).2.2.1 := by rw [← hl.1]; exact Nat.blt_eq.mp hi
    exact lv_lstore hx hb hd hl.has hi' rfl (fun arr' h' => ih _ _ _ _ _ h hle _ _ _ hS hP (xLs.of2 (v := .long x) hob hl.1 hi' h'))
  | iinc a b =>
    obtain rfl : len = 3 := hlen' rfl
    obtain ⟨hi, h⟩ := xbif h
    obtain ⟨v, hv, h⟩ := xld_some h
    obtain ⟨x, rfl, h⟩ := xii_some h
    have hi' : a < (xme j).2.2.1 := by rw [← hl.1]; exact Nat.blt_eq.mp hi
    obtain ⟨kk, hkk⟩ := List.getElem?_of_mem (xas_mem (G := G) hv)
    exact lv_iinc hx hb hd hl.has hkk rfl hi' rfl (fun arr' h' => ih _ _ _ _ _ h hle _ _ _ hS hP (xLs.of1 (v := .int (x + Int32.ofInt b)) hob hl.1 hi' h'))
  | iadd => obtain rfl : len = 1 := hlen' rfl; obtain ⟨x, y, r, rfl, h⟩ := x2_some h; exact lv_iadd hx hb hd (ih _ _ _ _ _ h hle _ _ _ hS hP hl)
  | isub => obtain rfl : len = 1 := hlen' rfl; obtain ⟨x, y, r, rfl, h⟩ := x2_some h; exact lv_isub hx hb hd (ih _ _ _ _ _ h hle _ _ _ hS hP hl)
  | imul => obtain rfl : len = 1 := hlen' rfl; obtain ⟨x, y, r, rfl, h⟩ := x2_some h; exact lv_imul hx hb hd (ih _ _ _ _ _ h hle _ _ _ hS hP hl)
  | iand => obtain rfl : len = 1 := hlen' rfl; obtain ⟨x, y, r, rfl, h⟩ := x2_some h; exact lv_iand hx hb hd (ih _ _ _ _ _ h hle _ _ _ hS hP hl)
  | ior => obtain rfl : len = 1 := hlen' rfl; obtain ⟨x, y, r, rfl, h⟩ := x2_some h; exact lv_ior hx hb hd (ih _ _ _ _ _ h hle _ _ _ hS hP hl)
  | ixor => obtain rfl : len = 1 := hlen' rfl; obtain ⟨x, y, r, rfl, h⟩ := x2_some h; exact lv_ixor hx hb hd (ih _ _ _ _ _ h hle _ _ _ hS hP hl)
  | ishl => obtain rfl : len = 1 := hlen' rfl; obtain ⟨x, y, r, rfl, h⟩ := x2_some h; exact lv_ishl hx hb hd (ih _ _ _ _ _ h hle _ _ _ hS hP hl)
  | ishr => obtain rfl : len = 1 := hlen' rfl; obtain ⟨x, y, r, rfl, h⟩ := x2_some h; exact lv_ishr hx hb hd (ih _ _ _ _ _ h hle _ _ _ hS hP hl)
  | iushr => obtain rfl : len = 1 := hlen' rfl; obtain ⟨x, y, r, rfl, h⟩ := x2_some h; exact lv_iushr hx hb hd rfl (ih _ _ _ _ _ h hle _ _ _ hS hP hl)
  | idiv => obtain rfl : len = 1 := hlen' rfl; obtain ⟨x, y, r, rfl, h⟩ := x2_some h; obtain ⟨hz, h⟩ := xif h; exact lv_idiv hx hb hd hz (ih _ _ _ _ _ h hle _ _ _ hS hP hl)
  | irem => obtain rfl : len = 1 := hlen' rfl; obtain ⟨x, y, r, rfl, h⟩ := x2_some h; obtain ⟨hz, h⟩ := xif h; exact lv_irem hx hb hd hz (ih _ _ _ _ _ h hle _ _ _ hS hP hl)
  | ineg => obtain rfl : len = 1 := hlen' rfl; obtain ⟨x, r, rfl, h⟩ := x1_some h; exact lv_ineg hx hb hd (ih _ _ _ _ _ h hle _ _ _ hS hP hl)
  | ladd => obtain rfl : len = 1 := hlen' rfl; obtain ⟨x, y, r, rfl, h⟩ := x2l_some h; exact lv_ladd hx hb hd (ih _ _ _ _ _ h hle _ _ _ hS hP hl)
  | lmul => obtain rfl : len = 1 := hlen' rfl; obtain ⟨x, y, r, rfl, h⟩ := x2l_some h; exact lv_lmul hx hb hd (ih _ _ _ _ _ h hle _ _ _ hS hP hl)
  | lcmp => obtain rfl : len = 1 := hlen' rfl; obtain ⟨x, y, r, rfl, h⟩ := x2l_some h; exact W.lcmp hx hb hd (ih _ _ _ _ _ h hle _ _ _ hS hP hl)
  | i2l => obtain rfl : len = 1 := hlen' rfl; obtain ⟨x, r, rfl, h⟩ := x1_some h; exact lv_i2l hx hb hd rfl (ih _ _ _ _ _ h hle _ _ _ hS hP hl)
  | i2b => obtain rfl : len = 1 := hlen' rfl; obtain ⟨x, r, rfl, h⟩ := x1_some h; exact lv_i2b hx hb hd rfl (ih _ _ _ _ _ h hle _ _ _ hS hP hl)
  | i2c => obtain rfl : len = 1 := hlen' rfl; obtain ⟨x, r, rfl, h⟩ := x1_some h; exact lv_i2c hx hb hd rfl (ih _ _ _ _ _ h hle _ _ _ hS hP hl)
  | dup =>
    obtain rfl : len = 1 := hlen' rfl
    obtain ⟨v, r, rfl, h⟩ := xtop_some h
    obtain ⟨hc, h⟩ := xbif h
    exact lv_dup hx hb hd (by rw [xcv_cat hob]; exact Nat.eq_of_beq_eq_true hc) (ih _ _ _ _ _ h hle _ _ _ hS hP hl)
  | dup2 =>
    obtain rfl : len = 1 := hlen' rfl
    obtain ⟨v, r, rfl, h⟩ := xtop_some h
    obtain ⟨w, r, rfl, h⟩ := xtop_some h
    obtain ⟨hc, h⟩ := xbif h
    rw [Bool.and_eq_true] at hc
    exact lv_dup2_11 hx hb hd (by rw [xcv_cat hob]; exact Nat.eq_of_beq_eq_true hc.1) (by rw [xcv_cat hob]; exact Nat.eq_of_beq_eq_true hc.2) (ih _ _ _ _ _ h hle _ _ _ hS hP hl)
  | pop =>
    obtain rfl : len = 1 := hlen' rfl
    obtain ⟨v, r, rfl, h⟩ := xtop_some h
    obtain ⟨hc, h⟩ := xbif h
    exact lv_pop hx hb hd (by rw [xcv_cat hob]; exact Nat.eq_of_beq_eq_true hc) (ih _ _ _ _ _ h hle _ _ _ hS hP hl)
  | goto a =>
    obtain rfl : len = 3 := hlen' rfl
    have ht : (pc : Int) + a = (xtg pc a : Int) := (Int.toNat_of_nonneg (of_decide_eq_true hq)).symm
    exact lv_goto hx hb hd ht (ih _ _ _ _ _ h hle _ _ _ hS hP hl)
  | ifCond cd a =>
    obtain rfl : len = 3 := hlen' rfl
    have ht : (pc : Int) + a = (xtg pc a : Int) := (Int.toNat_of_nonneg (of_decide_eq_true hq)).symm
    cases cd with
    | eq => obtain ⟨x, r, rfl, h2⟩ := x1_some h; exact lv_if_eq hx hb hd ht (fun hc => ih _ _ _ _ _ (by rwa [if_pos hc] at h2) hle _ _ _ hS hP hl) (fun hc => ih _ _ _ _ _ (by rwa [if_neg hc] at h2) hle _ _ _ hS hP hl)
    | ne => obtain ⟨x, r, rfl, h2⟩ := x1_some h; exact lv_if_ne hx hb hd ht (fun hc => ih _ _ _ _ _ (by rwa [if_neg hc] at h2) hle _ _ _ hS hP hl) (fun hc => ih _ _ _ _ _ (by rwa [if_pos hc] at h2) hle _ _ _ hS hP hl)
    | lt => obtain ⟨x, r, rfl, h2⟩ := x1_some h; exact lv_if_lt hx hb hd ht (fun hc => ih _ _ _ _ _ (by rwa [if_pos hc] at h2) hle _ _ _ hS hP hl) (fun hc => ih _ _ _ _ _ (by rwa [if_neg hc] at h2) hle _ _ _ hS hP hl)
    | ge => obtain ⟨x, r, rfl, h2⟩ := x1_some h; exact lv_if_ge hx hb hd ht (fun hc => ih _ _ _ _ _ (by rwa [if_pos hc] at h2) hle _ _ _ hS hP hl) (fun hc => ih _ _ _ _ _ (by rwa [if_neg hc] at h2) hle _ _ _ hS hP hl)
    | gt => obtain ⟨x, r, rfl, h2⟩ := x1_some h; exact lv_if_gt hx hb hd ht (fun hc => ih _ _ _ _ _ (by rwa [if_pos hc] at h2) hle _ _ _ hS hP hl) (fun hc => ih _ _ _ _ _ (by rwa [if_neg hc] at h2) hle _ _ _ hS hP hl)
    | le => obtain ⟨x, r, rfl, h2⟩ := x1_some h; exact lv_if_le hx hb hd ht (fun hc => ih _ _ _ _ _ (by rwa [if_pos hc] at h2) hle _ _ _ hS hP hl) (fun hc => ih _ _ _ _ _ (by rwa [if_neg hc] at h2) hle _ _ _ hS hP hl)
  | if_icmp cd a =>
    obtain rfl : len = 3 := hlen' rfl
    have ht : (pc : Int) + a = (xtg pc a : Int) := (Int.toNat_of_nonneg (of_decide_eq_true hq)).symm
    cases cd with
    | eq => obtain ⟨x, y, r, rfl, h2⟩ := x2_some h; exact lv_icmp_eq hx hb hd ht (fun hc => ih _ _ _ _ _ (by rwa [if_pos hc] at h2) hle _ _ _ hS hP hl) (fun hc => ih _ _ _ _ _ (by rwa [if_neg hc] at h2) hle _ _ _ hS hP hl)
    | ne => obtain ⟨x, y, r, rfl, h2⟩ := x2_some h; exact lv_icmp_ne hx hb hd ht (fun hc => ih _ _ _ _ _ (by rwa [if_neg hc] at h2) hle _ _ _ hS hP hl) (fun hc => ih _ _ _ _ _ (by rwa [if_pos hc] at h2) hle _ _ _ hS hP hl)
    | lt => obtain ⟨x, y, r, rfl, h2⟩ := x2_some h; exact lv_icmp_lt hx hb hd ht (fun hc => ih _ _ _ _ _ (by rwa [if_pos hc] at h2) hle _ _ _ hS hP hl) (fun hc => ih _ _ _ _ _ (by rwa [if_neg hc] at h2) hle _ _ _ hS hP hl)
    | ge => obtain ⟨x, y, r, rfl, h2⟩ := x2_some h; exact lv_icmp_ge hx hb hd ht (fun hc => ih _ _ _ _ _ (by rwa [if_pos hc] at h2) hle _ _ _ hS hP hl) (fun hc => ih _ _ _ _ _ (by rwa [if_neg hc] at h2) hle _ _ _ hS hP hl)
    | gt => obtain ⟨x, y, r, rfl, h2⟩ := x2_some h; exact lv_icmp_gt hx hb hd ht (fun hc => ih _ _ _ _ _ (by rwa [if_pos hc] at h2) hle _ _ _ hS hP hl) (fun hc => ih _ _ _ _ _ (by rwa [if_neg hc] at h2) hle _ _ _ hS hP hl)
    | le => obtain ⟨x, y, r, rfl, h2⟩ := x2_some h; exact lv_icmp_le hx hb hd ht (fun hc => ih _ _ _ _ _ (by rwa [if_pos hc] at h2) hle _ _ _ hS hP hl) (fun hc => ih _ _ _ _ _ (by rwa [if_neg hc] at h2) hle _ _ _ hS hP hl)
  | tableswitch df lo hi os =>
    obtain ⟨x, r, rfl, h2⟩ := x1_some h
    have hq' : (decide (0 ≤ (pc : Int) + df) && os.toList.all (fun o => decide (0 ≤ (pc : Int) + o))) = true := hq
    rw [Bool.and_eq_true] at hq'
    by_cases hc : x.toInt < lo ∨ hi < x.toInt
    · rw [if_pos hc] at h2
      exact lv_tableOut hx hb hd hc (Int.toNat_of_nonneg (of_decide_eq_true hq'.1)).symm (ih _ _ _ _ _ h2 hle _ _ _ hS hP hl)
    · rw [if_neg hc] at h2
      cases ho : os[(x.toInt - lo).toNat]? with
      | none => rw [ho] at h2; exact absurd h2 (by simp)
      | some off =>
        rw [ho] at h2
        have hm : off ∈ os.toList := by
          rw [← Array.getElem?_toList] at ho
          exact List.mem_of_getElem? ho
        exact lv_tableIn hx hb hd (fun q => hc (Or.inl q)) (fun q => hc (Or.inr q)) ho (Int.toNat_of_nonneg (of_decide_eq_true (List.all_eq_true.mp hq'.2 off hm))).symm (ih _ _ _ _ _ h2 hle _ _ _ hS hP hl)
  | lookupswitch df ps =>
    obtain ⟨x, r, rfl, h2⟩ := x1_some h
    have hq' : ((decide (0 ≤ (pc : Int) + df) && ps.toList.all (fun o => decide (0 ≤ (pc : Int) + o.2))) && (ps.toList.zip (ps.toList.drop 1)).all (fun (a, next) => a.1 < next.1)) = true := hq
    rw [Bool.and_eq_true, Bool.and_eq_true] at hq'
    exact lv_lookup hx hb hd hq'.2 rfl (Int.toNat_of_nonneg (xosw (of_decide_eq_true hq'.1.1) (fun q hqm => of_decide_eq_true (List.all_eq_true.mp hq'.1.2 q hqm)))).symm (ih _ _ _ _ _ h2 hle _ _ _ hS hP hl)
  | ldc idx =>
    obtain rfl : len = 2 := hlen' rfl
    have hq' : (bif Nat.beq r2 0 then xhas (xlk (xme j).2.2.2.2.1 idx) (.constant (xin j).2.2.2.1 idx (Int32.ofNat r1)) else decide ((xin j).2.2.2.1 = "StateMill$Tokens") && (Nat.ble 2000 r1 && Nat.blt r1 2010) && Nat.beq idx (xsk.getD (r1 - 2000) 0)) = true := hq
    have h2 : (bif Nat.beq r2 0 then k (pc + 2) ls (.int (Int32.ofNat r1) :: st) n M else bif Nat.beq r2 1 then k (pc + 2) ls (.ref r1 :: st) n M else none) = some o := h
    cases hr : Nat.beq r2 0 with
    | true =>
      rw [hr] at hq' h2
      exact lv_ldc hx hb hown (hts _ (xhas_in hq')) hd (ih _ _ _ _ _ h2 hle _ _ _ hS hP hl)
    | false =>
      rw [hr] at hq' h2
      obtain ⟨-, h2⟩ := xbif (show (bif Nat.beq r2 1 then k (pc + 2) ls (.ref r1 :: st) n M else none) = some o from h2)
      have hq'' : (decide ((xin j).2.2.2.1 = "StateMill$Tokens") && (Nat.ble 2000 r1 && Nat.blt r1 2010) && Nat.beq idx (xsk.getD (r1 - 2000) 0)) = true := hq'
      simp only [Bool.and_eq_true, decide_eq_true_eq, Nat.blt_eq, Nat.ble_eq] at hq''
      obtain ⟨⟨ho, h3, h4⟩, h5⟩ := hq''
      have h5 := Nat.eq_of_beq_eq_true h5
      have hz := hE.2.2.2.2.2.2.1 (r1 - 2000) (by omega)
      rw [← h5, show 2000 + (r1 - 2000) = r1 by omega] at hz
      rw [ho] at hown
      have hi := ih _ _ _ _ _ h2 hle _ _ _ hS hP hl
      rw [List.map_cons, xcv_ref (by omega)] at hi
      exact va_ldcS hx hb hown hz hd hi
  | ldc_w idx => obtain rfl : len = 3 := hlen' rfl; exact lv_ldcw hx hb hown (hts _ (xhas_in (show xhas (xlk (xme j).2.2.2.2.1 idx) (.constant (xin j).2.2.2.1 idx (Int32.ofNat r1)) = true from hq))) hd (ih _ _ _ _ _ h hle _ _ _ hS hP hl)
  | ldc2_w idx => obtain rfl : len = 3 := hlen' rfl; exact lv_ldc2 hx hb hown (hts _ (xhas_in (show xhas (xlk (xme j).2.2.2.2.1 idx) (.constantLong (xin j).2.2.2.1 idx (Int64.ofNat r1)) = true from hq))) hd (ih _ _ _ _ _ h hle _ _ _ hS hP hl)
  | getfield idx =>
    obtain rfl : len = 3 := hlen' rfl
    obtain ⟨a, r, rfl, ha, h2⟩ := xr_some h
    obtain ⟨hc, h2⟩ := xbif h2
    have hc := Nat.eq_of_beq_eq_true hc
    rw [List.map_cons, xcv_ref ha]
    have hq' : (bif Nat.blt r1 13 then (decide (r2 % 100 < (xcls r1).2.2) && decide (r2 / 100 % 10 = xtc r1 (r2 % 100))) && xhas (xlk (xme j).2.2.2.2.1 idx) (.fieldLink (xin j).2.2.2.1 idx ((xcls r1).2.1 (r2 % 100)).1 ((xcls r1).2.1 (r2 % 100)).2.1 ((xcls r1).2.1 (r2 % 100)).2.2.1)
      else Nat.beq r1 20 && (bif Nat.beq r2 0 then xhas (xlk (xme j).2.2.2.2.1 idx) (.fieldLink (xin j).2.2.2.1 idx "java/lang/String" "coder" "B") else xhas (xlk (xme j).2.2.2.2.1 idx) (.fieldLink (xin j).2.2.2.1 idx "java/lang/String" "value" "[B"))) = true := hq
    cases hb1 : Nat.blt a 1000 with
    | true =>
      have ha1 := Nat.blt_eq.mp hb1
      have h2 : (bif Nat.blt a 1000 then k (pc + 3) ls (xfa (r2 / 100 % 10) M a (r2 % 100) :: r) n M else _) = some o := h2
      rw [hb1] at h2
      replace h2 : k (pc + 3) ls (xfa (r2 / 100 % 10) M a (r2 % 100) :: r) n M = some o := h2
      obtain ⟨hr, han, hka⟩ : r1 < 13 ∧ a < n ∧ (xk a).1 = r1 := by
        unfold xcl at hc
        rw [hb1] at hc
        have hc : (bif Nat.blt a n then (xk a).1 else 98) = r1 := hc
        have hkk := xk_kind a
        cases hr : Nat.blt r1 13 with
        | false =>
          rw [hr] at hq'
          have hq' : (Nat.beq r1 20 && _) = true := hq'
          rw [Bool.and_eq_true] at hq'
          have h20 := Nat.eq_of_beq_eq_true hq'.1
          cases hn : Nat.blt a n <;> rw [hn] at hc
          · exact absurd (show 98 = r1 from hc) (by omega)
          · exact absurd (show (xk a).1 = r1 from hc) (by omega)
        | true =>
          have hr := Nat.blt_eq.mp hr
          cases hn : Nat.blt a n <;> rw [hn] at hc
          · exact absurd (show 98 = r1 from hc) (by omega)
          · exact ⟨hr, Nat.blt_eq.mp hn, hc⟩
      rw [Nat.blt_eq.mpr hr] at hq'
      have hq' : ((decide (r2 % 100 < (xcls r1).2.2) && decide (r2 / 100 % 10 = xtc r1 (r2 % 100))) && xhas (xlk (xme j).2.2.2.2.1 idx) _) = true := hq'
      simp only [Bool.and_eq_true, decide_eq_true_eq] at hq'
      obtain ⟨⟨hkN, htc⟩, hlk⟩ := hq'
      have hsz : (xk a).2 = (xcls r1).2.2 := by rw [← hka]; exact xk_size (by rw [hka]; exact hr)
      rw [xad_own ha1]
      exact va_get (ci := r1) (C := (xcls r1).1) (T := (xcls r1).2.1) (N := (xcls r1).2.2) (fs := xfs G r1 a M) hx hb hts (xcls_in hr) hown hE.1 hP.1 a (by rw [xws_at han, xce_obj hka hr]) (xcls_at hr) (r2 % 100) hkN (hts _ (xhas_in hlk)) (fun _ h9 => h9) (v := xcv G (xfa (r2 / 100 % 10) M a (r2 % 100))) (by unfold xfs; rw [List.getElem?_map, List.getElem?_range (by rw [hsz]; exact hkN), htc]; rfl) hd (ih _ _ _ _ _ h2 hle _ _ _ hS hP hl)
    | false =>
      have h2 : (bif Nat.blt a 1000 then _ else (bif Nat.beq r2 0 then k (pc + 3) ls (.int 0 :: r) n M else k (pc + 3) ls (.ref (a + 100) :: r) n M)) = some o := h2
      rw [hb1] at h2
      replace h2 : (bif Nat.beq r2 0 then k (pc + 3) ls (.int 0 :: r) n M else k (pc + 3) ls (.ref (a + 100) :: r) n M) = some o := h2
      obtain ⟨hr, h20, h21⟩ : ¬ r1 < 13 ∧ 2000 ≤ a ∧ a < 2010 := by
        unfold xcl at hc
        rw [hb1] at hc
        have hc : (bif Nat.ble 2000 a && Nat.blt a 2010 then 20 else 98) = r1 := hc
        cases hn : (Nat.ble 2000 a && Nat.blt a 2010) with
        | true =>
          rw [hn] at hc
          simp only [Bool.and_eq_true, Nat.blt_eq, Nat.ble_eq] at hn
          exact ⟨by have : 20 = r1 := hc; omega, hn⟩
        | false =>
          rw [hn] at hc
          have hc : 98 = r1 := hc
          rw [show Nat.blt r1 13 = false by rw [← hc]; rfl] at hq'
          have hq' : (Nat.beq r1 20 && _) = true := hq'
          rw [Bool.and_eq_true] at hq'
          exact absurd (Nat.eq_of_beq_eq_true hq'.1) (by omega)
      rw [show Nat.blt r1 13 = false from Bool.eq_false_iff.mpr (fun q => hr (Nat.blt_eq.mp q))] at hq'
      have hq' : (Nat.beq r1 20 && (bif Nat.beq r2 0 then xhas (xlk (xme j).2.2.2.2.1 idx) (.fieldLink (xin j).2.2.2.1 idx "java/lang/String" "coder" "B") else xhas (xlk (xme j).2.2.2.2.1 idx) (.fieldLink (xin j).2.2.2.1 idx "java/lang/String" "value" "[B"))) = true := hq'
      rw [Bool.and_eq_true] at hq'
      have hv := hE.2.2.2.2.2.1.1 (a - 2000) (by omega)
      dsimp only at hv
      rw [show 2000 + (a - 2000) = a by omega, show 2100 + (a - 2000) = a + 100 by omega] at hv
      cases hr0 : Nat.beq r2 0 with
      | true =>
        rw [hr0] at h2 hq'
        exact vk_getf hx hb hv.2.1 hS hown (hts _ (xhas_in hq'.2)) (fun _ h9 => h9) hd (ih _ _ _ _ _ h2 hle _ _ _ hS hP hl)
      | false =>
        rw [hr0] at h2 hq'
        have hi := ih _ _ _ _ _ h2 hle _ _ _ hS hP hl
        rw [List.map_cons, xcv_ref (by omega)] at hi
        exact vk_getf hx hb hv.2.2.1 hS hown (hts _ (xhas_in hq'.2)) (fun _ h9 => h9) hd hi
  | putfield idx =>
    obtain rfl : len = 3 := hlen' rfl
    obtain ⟨v, a, r, rfl, h2⟩ := xvr_some h
    obtain ⟨hc, h2⟩ := xbif h2
    simp only [Bool.and_eq_true, Nat.blt_eq, Bool.or_eq_true] at hc
    obtain ⟨⟨⟨han, ha1⟩, hka⟩, hfi⟩ := hc
    have hka : (xk a).1 = r1 := Nat.eq_of_beq_eq_true hka
    have hq' : ((Nat.blt r1 13 && (decide (r2 % 100 < (xcls r1).2.2) && decide (r2 / 100 % 10 = xtc r1 (r2 % 100)))) && (xhas (xlk (xme j).2.2.2.2.1 idx) (.fieldLink (xin j).2.2.2.1 idx ((xcls r1).2.1 (r2 % 100)).1 ((xcls r1).2.1 (r2 % 100)).2.1 ((xcls r1).2.1 (r2 % 100)).2.2.1) && (((xcls r1).2.1 (r2 % 100)).2.2.2 == !(Nat.beq (r2 / 1000) 0)) && decide (((xcls r1).2.1 (r2 % 100)).1 = (xcls r1).1))) = true := hq
    simp only [Bool.and_eq_true, decide_eq_true_eq, Nat.blt_eq, beq_iff_eq] at hq'
    obtain ⟨⟨hr, hkN, htc⟩, ⟨hlk, hfl⟩, hdcl⟩ := hq'
    have hsz : (xk a).2 = (xcls r1).2.2 := by rw [← hka]; exact xk_size (by rw [hka]; exact hr)
    have hfin : ((xcls r1).2.1 (r2 % 100)).2.2.2 = false ∨ (((xcls r1).2.1 (r2 % 100)).2.2.2 = true ∧ meth.name = "<init>" ∧ ((xcls r1).2.1 (r2 % 100)).1 = (xin j).2.2.2.1) := by
      cases hz : Nat.beq (r2 / 1000) 0 with
      | true => left; rw [hfl, hz]; rfl
      | false =>
        right
        rcases hfi with q | q
        · rw [hz] at q; cases q
        · have q := Nat.eq_of_beq_eq_true q
          unfold xhead at hhead
          rw [Bool.and_eq_true, Bool.or_eq_true] at hhead
          cases hct : (xme j).2.2.2.2.2 with
          | false => rw [hct] at q; exact absurd (show 0 = r1 + 1 from q) (by omega)
          | true =>
            rw [hct] at q
            have hcl : (xme j).2.2.2.2.1 = r1 := by have : (xme j).2.2.2.2.1 + 1 = r1 + 1 := q; omega
            rcases hhead.2 with w | w
            · rw [hct] at w; cases w
            · rw [Bool.and_eq_true, decide_eq_true_eq] at w
              exact ⟨by rw [hfl, hz]; rfl, hini hct, by rw [hdcl, w.1, hcl]⟩
    have key : ∀ (v : Value) (M' : xM), narrow (xtyf r1 (r2 % 100)) (xcv G v) = xcv G v → fits (xtyf r1 (r2 % 100)) (xcv G v) = true → (∀ i, i < (xk a).2 → xfa (xtc r1 i) M' a i = if i = r2 % 100 then v else xfa (xtc r1 i) M a i) → (∀ b, b ≠ a → M'.1 b = M.1 b ∧ M'.2.1 b = M.2.1 b ∧ M'.2.2 b = M.2.2 b) → k (pc + 3) ls r n M' = some o → W p l e R s m args below meth c H locs (n - n0) (xsl n - xsl n0) Q (F0 m pc arr (xcv G v :: .ref (G.1 + a) :: r.map (xcv G))) := by
      intro v M' hnr hft hcell hoth hk3
      refine xs_put (ci := r1) (C := (xcls r1).1) (T := (xcls r1).2.1) (N := (xcls r1).2.2) (fs := xfs G r1 a M) hx hb hts (xcls_in hr) (xtyf r1) (xtyf_ok hr) (xnm_ok hr) hown hE.1 hP.1 xws_D hS a (by rw [xws_at han, xce_obj hka hr]) (xcls_at hr) (r2 % 100) hkN (hts _ (xhas_in hlk)) (fun _ h9 => h9) hfin (xtyf_ok hr _ hkN) hnr hft (by unfold xfs; rw [List.length_map, List.length_range, hsz]; exact hkN) hd (fun H1 locs1 z hP1 hS1 => ?_)
      refine ih _ _ _ _ _ hk3 hle _ _ _ hS1 ⟨?_, fun hn => by rw [z]; exact hP.2 hn⟩ hl
      rw [xws_set han (M' := M') (fun b hb => xce_other (hoth b hb).1 (hoth b hb).2.1 (hoth b hb).2.2) (by rw [xce_obj hka hr, xfs_put hcell])] at hP1
      exact hP1
    rw [List.map_cons, List.map_cons, xcv_ref (by omega), xad_own ha1]
    have hrel := xtrel_ok hr hkN
    have h2 : (match r2 / 100 % 10 with
      | 0 => xii v fun x => k (pc + 3) ls r n (xup M.1 a (r2 % 100) x, M.2.1, M.2.2)
      | 1 => xii v fun x => if x = 0 ∨ x = 1 then k (pc + 3) ls r n (xup M.1 a (r2 % 100) x, M.2.1, M.2.2) else none
      | 2 => xll v fun x => k (pc + 3) ls r n (M.1, xup M.2.1 a (r2 % 100) x, M.2.2)
      | _ => xrr v fun x => k (pc + 3) ls r n (M.1, M.2.1, xup M.2.2 a (r2 % 100) (some x))) = some o := h2
    rw [htc] at h2
    generalize htt : xtc r1 (r2 % 100) = tt at h2 hrel
    match tt, h2, hrel, htt with
    | 0, h2, hrel, htt =>
      obtain ⟨x, rfl, h3⟩ := xii_some h2
      have hty : xtyf r1 (r2 % 100) = .int := by revert hrel; cases xtyf r1 (r2 % 100) <;> simp [xtrel]
      refine key (.int x) (xup M.1 a (r2 % 100) x, M.2.1, M.2.2) (by rw [hty]; rfl) (by rw [hty]; rfl) (fun i hi => ?_) (fun b hb => ⟨xup_ne hb, rfl, rfl⟩) h3
      by_cases hik : i = r2 % 100
      · rw [if_pos hik, hik, htt]; show Value.int (xup M.1 a (r2 % 100) x a (r2 % 100)) = _; rw [xup_eq]; simp
      · rw [if_neg hik]; unfold xfa; simp only [xup_eq, if_neg hik]
    | 1, h2, hrel, htt =>
      obtain ⟨x, rfl, h3⟩ := xii_some h2
      obtain ⟨h01, h3⟩ := xifT h3
      have hty : xtyf r1 (r2 % 100) = .boolean := by revert hrel; cases xtyf r1 (r2 % 100) <;> simp [xtrel]
      refine key (.int x) (xup M.1 a (r2 % 100) x, M.2.1, M.2.2) (by rw [hty]; rcases h01 with rfl | rfl <;> rfl) (by rw [hty]; rcases h01 with rfl | rfl <;> rfl) (fun i hi => ?_) (fun b hb => ⟨xup_ne hb, rfl, rfl⟩) h3
      by_cases hik : i = r2 % 100
      · rw [if_pos hik, hik, htt]; show Value.int (xup M.1 a (r2 % 100) x a (r2 % 100)) = _; rw [xup_eq]; simp
      · rw [if_neg hik]; unfold xfa; simp only [xup_eq, if_neg hik]
    | 2, h2, hrel, htt =>
      obtain ⟨x, rfl, h3⟩ := xll_some h2
      have hty : xtyf r1 (r2 % 100) = .long := by revert hrel; cases xtyf r1 (r2 % 100) <;> simp [xtrel]
      refine key (.long x) (M.1, xup M.2.1 a (r2 % 100) x, M.2.2) (by rw [hty]; rfl) (by rw [hty]; rfl) (fun i hi => ?_) (fun b hb => ⟨rfl, xup_ne hb, rfl⟩) h3
      by_cases hik : i = r2 % 100
      · rw [if_pos hik, hik, htt]; show Value.long (xup M.2.1 a (r2 % 100) x a (r2 % 100)) = _; rw [xup_eq]; simp
      · rw [if_neg hik]; unfold xfa; simp only [xup_eq, if_neg hik]
    | t + 3, h2, hrel, htt =>
      obtain ⟨x, rfl, hx3, h3⟩ := xrr_some h2
      have hty : (∃ c, xtyf r1 (r2 % 100) = .object c) ∨ ∃ c, xtyf r1 (r2 % 100) = .array c := by
        revert hrel
        cases xtyf r1 (r2 % 100) <;> simp [xtrel]
      refine key (.ref x) (M.1, M.2.1, xup M.2.2 a (r2 % 100) (some x)) (by rw [xcv_ref hx3]; rcases hty with ⟨c, e⟩ | ⟨c, e⟩ <;> rw [e] <;> rfl) (by rw [xcv_ref hx3]; rcases hty with ⟨c, e⟩ | ⟨c, e⟩ <;> rw [e] <;> rfl) (fun i hi => ?_) (fun b hb => ⟨rfl, rfl, xup_ne hb⟩) h3
      by_cases hik : i = r2 % 100
      · rw [if_pos hik, hik, htt]; show va_rf (xup M.2.2 a (r2 % 100) (some x) a (r2 % 100)) = _; rw [xup_eq]; simp [va_rf]
      · rw [if_neg hik]; unfold xfa; simp only [xup_eq, if_neg hik]
  | getstatic idx =>
    obtain rfl : len = 3 := hlen' rfl
    have hq' : (bif Nat.beq r2 0 then (bif Nat.beq r1 2999 then xhas (xlk (xme j).2.2.2.2.1 idx) (.fieldLink (xin j).2.2.2.1 idx "jdk/internal/util/Preconditions" "SIOOBE_FORMATTER" "Ljava/util/function/BiFunction;") else (Nat.ble 1000 r1 && Nat.blt r1 1005) && xhas (xlk (xme j).2.2.2.2.1 idx) (.fieldLink (xin j).2.2.2.1 idx (xsn.getD (r1 - 1000) ("", "")).1 (xsn.getD (r1 - 1000) ("", "")).2 "[I"))
      else (Nat.beq r2 1 && Nat.beq r1 1) && xhas (xlk (xme j).2.2.2.2.1 idx) (.fieldLink (xin j).2.2.2.1 idx "java/lang/String" "COMPACT_STRINGS" "Z")) = true := hq
    have h2 : (bif Nat.beq r2 0 then k (pc + 3) ls (.ref r1 :: st) n M else bif Nat.beq r2 1 then k (pc + 3) ls (.int (Int32.ofNat r1) :: st) n M else none) = some o := h
    cases hr : Nat.beq r2 0 with
    | true =>
      rw [hr] at hq' h2
      have h2 : k (pc + 3) ls (.ref r1 :: st) n M = some o := h2
      have hq' : (bif Nat.beq r1 2999 then _ else _) = true := hq'
      cases h29 : Nat.beq r1 2999 with
      | true =>
        rw [h29] at hq'
        have e := Nat.eq_of_beq_eq_true h29
        have hi := ih _ _ _ _ _ h2 hle _ _ _ hS hP hl
        rw [List.map_cons, show xcv G (.ref r1) = G.2.2.2.2 by rw [e]; rfl] at hi
        exact va_gets hx hb hE.2.2.2.2.1 hS hown (hts _ (xhas_in hq')) (fun _ h9 => h9) hd hi
      | false =>
        rw [h29] at hq'
        have hq' : ((Nat.ble 1000 r1 && Nat.blt r1 1005) && xhas _ _) = true := hq'
        simp only [Bool.and_eq_true, Nat.blt_eq, Nat.ble_eq] at hq'
        have hz := hE.2.2.1 (r1 - 1000) (by omega)
        rw [show 1000 + (r1 - 1000) = r1 by omega] at hz
        have hi := ih _ _ _ _ _ h2 hle _ _ _ hS hP hl
        rw [List.map_cons, xcv_ref (by omega)] at hi
        exact va_gets hx hb hz hS hown (hts _ (xhas_in hq'.2)) (fun _ h9 => h9) hd hi
    | false =>
      rw [hr] at hq' h2
      obtain ⟨-, h2⟩ := xbif (show (bif Nat.beq r2 1 then k (pc + 3) ls (.int (Int32.ofNat r1) :: st) n M else none) = some o from h2)
      have hq' : ((Nat.beq r2 1 && Nat.beq r1 1) && xhas _ _) = true := hq'
      rw [Bool.and_eq_true, Bool.and_eq_true] at hq'
      have e := Nat.eq_of_beq_eq_true hq'.1.2
      subst e
      exact va_gets hx hb hE.2.2.2.1 hS hown (hts _ (xhas_in hq'.2)) (fun _ h9 => h9) hd (ih _ _ _ _ _ h2 hle _ _ _ hS hP hl)
  | arraylength =>
    obtain rfl : len = 1 := hlen' rfl
    obtain ⟨a, r, rfl, ha, h2⟩ := xr_some h
    obtain ⟨hc, h2⟩ := xbif h2
    simp only [Bool.and_eq_true, Nat.blt_eq, Nat.ble_eq] at hc
    rw [List.map_cons, xcv_ref ha]
    by_cases ha1 : a < 1000
    · obtain ⟨han, hxa⟩ := xar_own ha1 hc.1
      rw [hxa] at hc h2
      rw [xad_own ha1]
      have hi := ih _ _ _ _ _ h2 hle _ _ _ hS hP hl
      rcases (show (xk a).1 = 13 ∨ (xk a).1 = 14 ∨ (xk a).1 = 15 ∨ (xk a).1 = 16 ∨ (xk a).1 = 17 by omega) with q | q | q | q | q
      · exact va_alen (x := ((xk a).2, .inl (M.1 a))) hx hb hE.1 hP.1 a 0 (by rw [xws_at han, xce_13 q]) rfl rfl hd hi
      · exact va_alen (x := ((xk a).2, .inl (M.1 a))) hx hb hE.1 hP.1 a 1 (by rw [xws_at han, xce_14 q]) rfl rfl hd hi
      · exact va_alen (x := ((xk a).2, .inr (.inl (M.2.1 a)))) hx hb hE.1 hP.1 a 2 (by rw [xws_at han, xce_15 q]) rfl rfl hd hi
      · exact va_alen (x := ((xk a).2, .inl (M.1 a))) hx hb hE.1 hP.1 a 3 (by rw [xws_at han, xce_16 q]) rfl rfl hd hi
      · exact va_alen (x := ((xk a).2, .inr (.inr (.inr (.inr (fun i => (M.2.2 a i).map (xad G))))))) hx hb hE.1 hP.1 a 4 (by rw [xws_at han, xce_17 q]) rfl rfl hd hi
    · have hi := ih _ _ _ _ _ h2 hle _ _ _ hS hP hl
      rcases xar_out ha1 hc.1 with ⟨hm, e⟩ | ⟨i, hi10, e1, e⟩
      · rw [e] at hi
        exact va_tlen hx hb (hE.2.1 a hm) hS rfl hd hi
      · subst e1
        have hv := (hE.2.2.2.2.2.1.1 i hi10).2.2.2
        rw [e, xsc_str hi10] at hi
        exact va_tlen hx hb hv hS rfl hd hi
  | iaload =>
    obtain rfl : len = 1 := hlen' rfl
    obtain ⟨i, a, r, rfl, h2⟩ := xia_some h
    obtain ⟨hw, hin, h2⟩ := xal_some h2
    have hw := Nat.eq_of_beq_eq_true hw
    have hi := ih _ _ _ _ _ h2 hle _ _ _ hS hP hl
    by_cases ha1 : a < 1000
    · obtain ⟨han, hxa⟩ := xar_own ha1 (by rw [hw]; decide)
      rw [hxa] at hw hin
      rw [List.map_cons, List.map_cons, xcv_ref (by omega), xad_own ha1]
      rw [show xrd L xs M a i.toNatClampNeg = M.1 a i.toNatClampNeg by unfold xrd; rw [Nat.blt_eq.mpr ha1]; rfl] at hi
      exact va_iald hx hb hE.1 hP.1 a 1 (by rw [xws_at han, xce_14 hw]) rfl hin hd hi
    · obtain ⟨hm, e⟩ := xar_int ha1 hw
      rw [e] at hin
      have h3 : a < 2999 := by
        simp only [List.mem_cons, List.not_mem_nil, or_false] at hm
        omega
      rw [List.map_cons, List.map_cons, xcv_ref h3]
      rw [show xrd L xs M a i.toNatClampNeg = (xsc L xs a).2 i.toNatClampNeg by unfold xrd; rw [show Nat.blt a 1000 = false from Bool.eq_false_iff.mpr (fun q => ha1 (Nat.blt_eq.mp q))]; rfl] at hi
      exact va_ti hx hb (hE.2.1 a hm) hS hin rfl hd hi
  | baload =>
    obtain rfl : len = 1 := hlen' rfl
    obtain ⟨i, a, r, rfl, h2⟩ := xia_some h
    obtain ⟨hw, hin, h2⟩ := xal_some h2
    have hw : (xar L xs n a).1 = 13 ∨ (xar L xs n a).1 = 16 := by
      rw [Bool.or_eq_true] at hw
      exact hw.imp Nat.eq_of_beq_eq_true Nat.eq_of_beq_eq_true
    have hi := ih _ _ _ _ _ h2 hle _ _ _ hS hP hl
    by_cases ha1 : a < 1000
    · obtain ⟨han, hxa⟩ := xar_own ha1 (by rcases hw with q | q <;> rw [q] <;> decide)
      rw [hxa] at hw hin
      rw [List.map_cons, List.map_cons, xcv_ref (by omega), xad_own ha1]
      rw [show xrd L xs M a i.toNatClampNeg = M.1 a i.toNatClampNeg by unfold xrd; rw [Nat.blt_eq.mpr ha1]; rfl] at hi
      rcases hw with q | q
      · exact va_bald hx hb hE.1 hP.1 a 0 (by rw [xws_at han, xce_13 q]) rfl hin hd hi
      · exact va_zald hx hb hE.1 hP.1 a 3 (by rw [xws_at han, xce_16 q]) rfl hin hd hi
    · obtain ⟨ii, hi10, e1, e⟩ := xar_byte ha1 hw
      rw [e] at hin
      rw [List.map_cons, List.map_cons, xcv_ref (by omega)]
      rw [show xrd L xs M a i.toNatClampNeg = (xsc L xs a).2 i.toNatClampNeg by unfold xrd; rw [show Nat.blt a 1000 = false from Bool.eq_false_iff.mpr (fun q => ha1 (Nat.blt_eq.mp q))]; rfl] at hi
      subst e1
      have hv := (hE.2.2.2.2.2.1.1 ii hi10).2.2.2
      rw [xsc_str hi10] at hi hin
      exact va_tb hx hb hv hS hin rfl hd hi
  | laload =>
    obtain rfl : len = 1 := hlen' rfl
    obtain ⟨i, a, r, rfl, h2⟩ := xia_some h
    obtain ⟨han, ha1, hw, hin, h2⟩ := xaw_some h2
    have hw := Nat.eq_of_beq_eq_true hw
    rw [List.map_cons, List.map_cons, xcv_ref (by omega), xad_own ha1]
    exact va_lald hx hb hE.1 hP.1 a 2 (by rw [xws_at han, xce_15 hw]) rfl hin hd (ih _ _ _ _ _ h2 hle _ _ _ hS hP hl)
  | aaload =>
    obtain rfl : len = 1 := hlen' rfl
    obtain ⟨i, a, r, rfl, h2⟩ := xia_some h
    obtain ⟨han, ha1, hw, hin, h2⟩ := xaw_some h2
    have hw := Nat.eq_of_beq_eq_true hw
    rw [List.map_cons, List.map_cons, xcv_ref (by omega), xad_own ha1]
    obtain ⟨x, hv, hx3, h2⟩ := xrr_some h2
    have hi := ih _ _ _ _ _ h2 hle _ _ _ hS hP hl
    have hs : M.2.2 a i.toNatClampNeg = some x := by
      cases hm : M.2.2 a i.toNatClampNeg with
      | none => rw [hm] at hv; cases hv
      | some y => rw [hm] at hv; cases hv; rfl
    refine va_aldq (f := fun i => (M.2.2 a i).map (xad G)) hx hb hE.1 hP.1 a 4 (by rw [xws_at han, xce_17 hw]) rfl hin hd ?_
    rw [hs]
    rw [List.map_cons, xcv_ref hx3] at hi
    exact hi
  | iastore =>
    obtain rfl : len = 1 := hlen' rfl
    obtain ⟨v, i, a, r, rfl, h2⟩ := xva_some h
    obtain ⟨x, rfl, h3⟩ := xii_some h2
    obtain ⟨han, ha1, hw, hin, h2⟩ := xaw_some h3
    have hw := Nat.eq_of_beq_eq_true hw
    rw [List.map_cons, List.map_cons, List.map_cons, xcv_ref (by omega), xad_own ha1]
    refine xs_iast hx hb hE.1 hP.1 xws_D hS a 1 (by rw [xws_at han, xce_14 hw]) rfl hin hd (fun H1 locs1 z hP1 hS1 => ?_)
    refine ih _ _ _ _ _ h2 hle _ _ _ hS1 ⟨?_, fun hn => by rw [z]; exact hP.2 hn⟩ hl
    rw [xws_set han (M' := (xup M.1 a i.toNatClampNeg x, M.2.1, M.2.2)) (fun b hb => xce_other (xup_ne hb) rfl rfl) (by rw [xce_14 hw]; show Sum.inl (_, _, Sum.inl (xup M.1 a i.toNatClampNeg x a)) = _; rw [xup_eq]; rfl)] at hP1
    exact hP1
  | bastore =>
    obtain rfl : len = 1 := hlen' rfl
    obtain ⟨v, i, a, r, rfl, h2⟩ := xva_some h
    obtain ⟨x, rfl, h3⟩ := xii_some h2
    obtain ⟨han, ha1, hw, hin, h2⟩ := xaw_some h3
    rw [Bool.or_eq_true] at hw
    rw [List.map_cons, List.map_cons, List.map_cons, xcv_ref (by omega), xad_own ha1]
    rcases hw with hw | hw
    · rw [hw] at h2
      have hw := Nat.eq_of_beq_eq_true hw
      refine xs_bast hx hb hE.1 hP.1 xws_D hS a 0 (by rw [xws_at han, xce_13 hw]) rfl hin hd (fun H1 locs1 z hP1 hS1 => ?_)
      refine ih _ _ _ _ _ h2 hle _ _ _ hS1 ⟨?_, fun hn => by rw [z]; exact hP.2 hn⟩ hl
      rw [xws_set han (M' := (xup M.1 a i.toNatClampNeg x.toInt8.toInt32, M.2.1, M.2.2)) (fun b hb => xce_other (xup_ne hb) rfl rfl) (by rw [xce_13 hw]; show Sum.inl (_, _, Sum.inl (xup M.1 a i.toNatClampNeg x.toInt8.toInt32 a)) = _; rw [xup_eq, vp_nar_byte]; rfl)] at hP1
      exact hP1
    · have hw := Nat.eq_of_beq_eq_true hw
      rw [show Nat.beq (xk a).1 13 = false by rw [hw]; rfl] at h2
      refine xs_zast hx hb hE.1 hP.1 xws_D hS a 3 (by rw [xws_at han, xce_16 hw]) rfl hin hd (fun H1 locs1 z hP1 hS1 => ?_)
      refine ih _ _ _ _ _ h2 hle _ _ _ hS1 ⟨?_, fun hn => by rw [z]; exact hP.2 hn⟩ hl
      rw [xws_set han (M' := (xup M.1 a i.toNatClampNeg (vp_nar .boolean x), M.2.1, M.2.2)) (fun b hb => xce_other (xup_ne hb) rfl rfl) (by rw [xce_16 hw]; show Sum.inl (_, _, Sum.inl (xup M.1 a i.toNatClampNeg (vp_nar .boolean x) a)) = _; rw [xup_eq]; rfl)] at hP1
      exact hP1
  | lastore =>
    obtain rfl : len = 1 := hlen' rfl
    obtain ⟨v, i, a, r, rfl, h2⟩ := xva_some h
    obtain ⟨x, rfl, h3⟩ := xll_some h2
    obtain ⟨han, ha1, hw, hin, h2⟩ := xaw_some h3
    have hw := Nat.eq_of_beq_eq_true hw
    rw [List.map_cons, List.map_cons, List.map_cons, xcv_ref (by omega), xad_own ha1]
    refine xs_last hx hb hE.1 hP.1 xws_D hS a 2 (by rw [xws_at han, xce_15 hw]) rfl hin hd (fun H1 locs1 z hP1 hS1 => ?_)
    refine ih _ _ _ _ _ h2 hle _ _ _ hS1 ⟨?_, fun hn => by rw [z]; exact hP.2 hn⟩ hl
    rw [xws_set (M := M) han (M' := (M.1, xup M.2.1 a i.toNatClampNeg x, M.2.2)) (e := .inl (G.2.2.1 15, (xk a).2, .inr (.inl (vp_updL (M.2.1 a) i.toNatClampNeg x)))) (fun b hb => xce_other rfl (xup_ne hb) rfl) (by
      rw [xce_15 hw]
      show (Sum.inl (G.2.2.1 15, (xk a).2, Sum.inr (Sum.inl (xup M.2.1 a i.toNatClampNeg x a))) : va_E) = _
      rw [xup_eq]
      rfl)] at hP1
    exact hP1
  | aastore =>
    obtain rfl : len = 1 := hlen' rfl
    obtain ⟨v, i, a, r, rfl, h2⟩ := xva_some h
    obtain ⟨x, rfl, hx3, h3⟩ := xrr_some h2
    obtain ⟨hc, h3⟩ := xbif h3
    obtain ⟨han, ha1, hw, hin, h2⟩ := xaw_some h3
    have hw := Nat.eq_of_beq_eq_true hw
    rw [Bool.and_eq_true, Nat.blt_eq] at hc
    obtain ⟨hxn, hxk⟩ : x < n ∧ (xk x).1 = 5 := by
      have hc1 := Nat.eq_of_beq_eq_true hc.1
      unfold xcl at hc1
      rw [Nat.blt_eq.mpr hc.2] at hc1
      cases hn : Nat.blt x n with
      | true => rw [hn] at hc1; exact ⟨Nat.blt_eq.mp hn, hc1⟩
      | false => rw [hn] at hc1; exact absurd (show 98 = 5 from hc1) (by decide)
    rw [List.map_cons, List.map_cons, List.map_cons, xcv_ref hx3, xcv_ref (by omega : a < 2999), xad_own ha1, xad_own hc.2]
    refine xs_astq hx hb hE.1 hP.1 xws_D hS a 4 x 5 (r := xcls 5) (by rw [xws_at han, xce_17 hw]) rfl (by rw [xws_at hxn, xce_obj hxk (by decide)]) (xcls_at (by decide)) hin hd (fun H1 locs1 z hP1 hS1 => ?_)
    refine ih _ _ _ _ _ h2 hle _ _ _ hS1 ⟨?_, fun hn => by rw [z]; exact hP.2 hn⟩ hl
    rw [xws_set (M := M) han (M' := (M.1, M.2.1, xup M.2.2 a i.toNatClampNeg (some x))) (e := .inl (G.2.2.1 17, (xk a).2, .inr (.inr (.inr (.inr (va_up (fun i => (M.2.2 a i).map (xad G)) i.toNatClampNeg (some (G.1 + x)))))))) (fun b hb => xce_other rfl rfl (xup_ne hb)) (by
      rw [xce_17 hw]
      show (Sum.inl (G.2.2.1 17, (xk a).2, Sum.inr (Sum.inr (Sum.inr (Sum.inr fun q => (xup M.2.2 a i.toNatClampNeg (some x) a q).map (xad G))))) : va_E) = _
      rw [xup_eq]
      congr 7
      funext q
      unfold va_up
      by_cases hqi : q = i.toNatClampNeg
      · simp [hqi, xad_own hc.2]
      · simp [hqi])] at hP1
    exact hP1
  | new idx =>
    obtain rfl : len = 3 := hlen' rfl
    obtain ⟨hc, h2⟩ := xbif h
    simp only [Bool.and_eq_true, Nat.blt_eq] at hc
    have hka : (xk n).1 = r1 := Nat.eq_of_beq_eq_true hc.1
    have hr := hc.2
    have hq' : ((Nat.blt r1 13 && xhas (xlk (xme j).2.2.2.2.1 idx) (.classLink (xin j).2.2.2.1 idx (xcls r1).1)) && (xhas (xcpl.getD r1 ((9, 0), (9, 0))).1 (.instantiable (xcls r1).1 (xcls r1).2.2) && xhas (xcpl.getD r1 ((9, 0), (9, 0))).2 (.initialized (xcls r1).1))) = true := hq
    simp only [Bool.and_eq_true] at hq'
    have hn94 : n < 94 := xk_lt (by rw [hka]; omega)
    have hsz : (xk n).2 = (xcls r1).2.2 := by rw [← hka]; exact xk_size (by rw [hka]; exact hr)
    have hon := hk _ _ _ _ _ h2
    have hKn := hE.1.1 r1 _ (xcls_at hr)
    have hm1 := xsl_mono hon
    have hm2 := xsl_mono hn0
    have hm3 := xsl_succ hn94
    refine W.newcK hx hb hown (hts _ (xhas_in hq'.1.2)) (hts _ (xhas_in hq'.2.1)) (hts _ (xhas_in hq'.2.2)) rfl hd (by omega) (by rw [← hsz]; omega) hKn.2.1 (hP.2 hn94) fun H1 kC hkC e1 z1 o1 => ?_
    have hP1 : va_P G.2.1 vwCl (xws G n M) H1 := hP.1.kept (fun q x hx => o1 x.1 (by have := (hP.1 q x hx).lt; rw [hP.2 hn94] at this; exact this))
    have hS1 : va_S (xA G) s.heap H1 locs := ⟨Nat.le_trans hS.1 (by rw [hP.2 hn94]; omega), fun x g1 g2 => (o1 x (by have := Nat.lt_of_lt_of_le g1 hS.1; rw [hP.2 hn94] at this; exact this)).trans (hS.2.1 x g1 g2), hS.2.2⟩
    have hi := ih _ _ _ _ _ h2 (Nat.le_succ n) H1 locs arr hS1 ⟨?_, fun hn => by rw [z1]; omega⟩ hl
    · rw [List.map_cons, xcv_ref (by omega), xad_own (by omega)] at hi
      have e1 : n + 1 - n0 = n - n0 + 1 := by omega
      have e2 : xsl (n + 1) - xsl n0 = xsl n - xsl n0 + (xcls r1).2.2 := by omega
      rw [e1, e2] at hi
      exact hi
    · rw [xws_push (M := M) (fun b hb => xce_other (xz_ne hb) (xz_ne hb) (xz_ne hb))]
      refine hP1.app (fun q x hx => ?_)
      have hz : q < 1 := (List.getElem?_eq_some_iff.mp hx).1
      rw [show q = 0 by omega] at hx
      cases hx
      rw [xce_obj hka hr]
      refine ⟨_, xcls_at hr, (u_born (xtyf r1) hts (xcls_in hr) hKn hkC e1 (xtyf_ok hr)).to (fun q hq => ?_)⟩
      have hq2 : q < (xk n).2 := by rw [hsz]; exact hq
      unfold vp_V xfs
      rw [List.getD_eq_getElem?_getD, List.getElem?_map, List.getElem?_range hq2]
      show defaultValue (xtyf r1 q) = xcv G (xfa (xtc r1 q) _ n q)
      have hrel := xtrel_ok hr hq
      unfold xfa
      simp only [xz_eq]
      revert hrel
      cases xtyf r1 q <;> rcases xtc r1 q with _ | _ | _ | _ | t <;> simp [xtrel, defaultValue, xcv, va_rf]
  | newarray t =>
    obtain rfl : len = 2 := hlen' rfl
    obtain ⟨x, r, rfl, h2⟩ := x1_some h
    obtain ⟨hc, h2⟩ := xbif h2
    obtain ⟨hx0, h2⟩ := xif h2
    simp only [Bool.and_eq_true, Nat.blt_eq, Nat.ble_eq] at hc
    have hka : (xk n).1 = r1 := Nat.eq_of_beq_eq_true hc.1.1.1
    have hkN : (xk n).2 = x.toNatClampNeg := Nat.eq_of_beq_eq_true hc.1.1.2
    have hq' : (Nat.beq r1 (xat t) && xhas (xap.getD (r1 - 13) (9, 0)) (.arrayClass (newarray.typeOf t))) = true := hq
    rw [Bool.and_eq_true] at hq'
    have hr1 := Nat.eq_of_beq_eq_true hq'.1
    have hn94 : n < 94 := xk_lt (by rw [hka]; omega)
    have hon := hk _ _ _ _ _ h2
    have hm1 := xsl_mono hon
    have hm2 := xsl_mono hn0
    have hm3 := xsl_succ hn94
    have hbd := xk_small n
    refine va_newaK hx hb (hts _ (xhas_in hq'.2)) rfl hd rfl hx0 hkN.symm (Nat.le_trans (Nat.mul_le_mul hbd (show componentBytes (newarray.typeOf t) ≤ 8 by cases t <;> decide)) (by decide)) (by omega) (by omega) (hP.2 hn94) fun H1 cA e1 z1 o1 hAr hNm => ?_
    have hP1 : va_P G.2.1 vwCl (xws G n M) H1 := hP.1.kept (fun q x hx => o1 x.1 (by have := (hP.1 q x hx).lt; rw [hP.2 hn94] at this; exact this))
    have hS1 : va_S (xA G) s.heap H1 locs := ⟨Nat.le_trans hS.1 (by rw [hP.2 hn94]; omega), fun x g1 g2 => (o1 x (by have := Nat.lt_of_lt_of_le g1 hS.1; rw [hP.2 hn94] at this; exact this)).trans (hS.2.1 x g1 g2), hS.2.2⟩
    have hi := ih _ _ _ _ _ h2 (Nat.le_succ n) H1 locs arr hS1 ⟨?_, fun hn => by rw [z1]; omega⟩ hl
    · rw [List.map_cons, xcv_ref (by omega), xad_own (by omega)] at hi
      have e1 : n + 1 - n0 = n - n0 + 1 := by omega
      have e2 : xsl (n + 1) - xsl n0 = xsl n - xsl n0 + (xk n).2 := by omega
      rw [e1, e2] at hi
      exact hi
    · rw [xws_push (M := M) (fun b hb => xce_other (xz_ne hb) (xz_ne hb) (xz_ne hb))]
      refine hP1.app (fun q x hx => ?_)
      have hz : q < 1 := (List.getElem?_eq_some_iff.mp hx).1
      rw [show q = 0 by omega] at hx
      cases hx
      cases t with
      | byte =>
        have hk13 : (xk n).1 = 13 := hka.trans hr1
        have hcl : cA = G.2.2.1 13 := Option.some.inj (hNm.symm.trans (hE.1.2 0 _ rfl).2)
        rw [xce_13 hk13]
        show H1[G.1 + n]? = some (vp_cell _ _)
        rw [e1, vp_cell_i, hcl]
        simp only [xz_eq]
        rfl
      | int =>
        have hk13 : (xk n).1 = 14 := hka.trans hr1
        have hcl : cA = G.2.2.1 14 := Option.some.inj (hNm.symm.trans (hE.1.2 1 _ rfl).2)
        rw [xce_14 hk13]
        show H1[G.1 + n]? = some (vp_cell _ _)
        rw [e1, vp_cell_i, hcl]
        simp only [xz_eq]
        rfl
      | long =>
        have hk13 : (xk n).1 = 15 := hka.trans hr1
        have hcl : cA = G.2.2.1 15 := Option.some.inj (hNm.symm.trans (hE.1.2 2 _ rfl).2)
        rw [xce_15 hk13]
        show H1[G.1 + n]? = some (vp_cell _ _)
        rw [e1, vp_cell_l, hcl]
        simp only [xz_eq]
        rfl
      | boolean =>
        have hk13 : (xk n).1 = 16 := hka.trans hr1
        have hcl : cA = G.2.2.1 16 := Option.some.inj (hNm.symm.trans (hE.1.2 3 _ rfl).2)
        rw [xce_16 hk13]
        show H1[G.1 + n]? = some (vp_cell _ _)
        rw [e1, vp_cell_i, hcl]
        simp only [xz_eq]
        rfl
      | _ => exact absurd hc.1.2 (by rw [hr1]; decide)
  | anewarray idx =>
    obtain rfl : len = 3 := hlen' rfl
    obtain ⟨x, r, rfl, h2⟩ := x1_some h
    obtain ⟨hc, h2⟩ := xbif h2
    obtain ⟨hx0, h2⟩ := xif h2
    simp only [Bool.and_eq_true] at hc
    have hka : (xk n).1 = 17 := Nat.eq_of_beq_eq_true hc.1
    have hkN : (xk n).2 = x.toNatClampNeg := Nat.eq_of_beq_eq_true hc.2
    have hq' : xhas (xlk (xme j).2.2.2.2.1 idx) (.classLink (xin j).2.2.2.1 idx "StateMill$Machine") = true := hq
    have hn94 : n < 94 := xk_lt (by rw [hka]; decide)
    have hon := hk _ _ _ _ _ h2
    have hm1 := xsl_mono hon
    have hm2 := xsl_mono hn0
    have hm3 := xsl_succ hn94
    have hbd := xk_small n
    have hsz := hP.2 hn94
    refine W.anew hx hb hown (hts _ (xhas_in hq')) (va_AO.use hE.2.2.2.2.2.2.2.2.1) rfl hd rfl hx0 (Nat.le_trans (Nat.mul_le_mul (by rw [← hkN]; exact hbd) (Nat.le_refl 4)) (by decide)) (by omega) (by omega) fun cA kA comp f1 f2 f3 f4 => ?_
    rw [← hkN]
    generalize hH1 : H.push ({ cls := cA, slots := Array.replicate (xk n).2 .null, vm := .none } : Cell) = H1
    have z1 : H1.size = H.size + 1 := by rw [← hH1, Array.size_push]
    have e1 : H1[H.size]? = some (arrV cA (xk n).2 (fun _ => .null)) := by rw [← hH1, Array.getElem?_push_size, ← arrV_new]
    have o1 : ∀ q, q < H.size → H1[q]? = H[q]? := fun q hq => by rw [← hH1, Array.getElem?_push, if_neg (Nat.ne_of_lt hq)]
    have hP1 : va_P G.2.1 vwCl (xws G n M) H1 := hP.1.kept (fun q x hx => o1 x.1 ((hP.1 q x hx).lt))
    have hS1 : va_S (xA G) s.heap H1 locs := ⟨Nat.le_trans hS.1 (by omega), fun x g1 g2 => (o1 x (Nat.lt_of_lt_of_le g1 hS.1)).trans (hS.2.1 x g1 g2), hS.2.2⟩
    have hi := ih _ _ _ _ _ h2 (Nat.le_succ n) H1 locs arr hS1 ⟨?_, fun hn => by rw [z1]; omega⟩ hl
    · rw [List.map_cons, xcv_ref (by omega), xad_own (by omega), ← hsz] at hi
      have e1 : n + 1 - n0 = n - n0 + 1 := by omega
      have e2 : xsl (n + 1) - xsl n0 = xsl n - xsl n0 + (xk n).2 := by omega
      rw [e1, e2] at hi
      exact hi
    · rw [xws_push (M := M) (fun b hb => xce_other (xz_ne hb) (xz_ne hb) (xz_ne hb))]
      refine hP1.app (fun q x hx => ?_)
      have hz : q < 1 := (List.getElem?_eq_some_iff.mp hx).1
      rw [show q = 0 by omega] at hx
      cases hx
      obtain ⟨kA', comp', g1, g2, g3, g4⟩ := (hE.1.2 4 _ rfl).2
      have hcl : cA = G.2.2.1 17 := Option.some.inj (f1.symm.trans g4)
      rw [xce_17 hka]
      show H1[G.1 + n]? = some (vp_cell _ _)
      rw [← hsz, e1, vp_cell_q, hcl]
      simp only [xz_eq]
      rfl
  | _ => exact absurd (show (none : Option xO) = some o from h) (by simp)
