set_option maxHeartbeats 4000000 in
/-- WHAT THE ABSTRACT MACHINE ANSWERS, THE REAL ONE ANSWERS -/
theorem xsound {l : Launch} {G : xG} {L : Nat} {xs : Nat → Int32} (hok : ∀ j, j < 310 → xokm j) : ∀ (f d j pc : Nat) (ls : List (Option Value)) (st : List Value) (n : Nat) (M : xM) (o : xO), j < 310 → xrun L xs f d j pc ls st n M = some o → xSnd l G L xs d j pc ls st n M o := by
  intro f
  induction f with
  | zero => intro d j pc ls st n M o _ h; exact absurd h (by simp [xrun])
  | succ f ih =>
    intro d j pc ls st n M o hj h
    intro p e R s m args below meth c Q n0 C hn0 hrc hrs hret H locs arr hS hP hl
    have hom := xrun_mono _ _ _ _ _ _ _ _ _ h
    unfold xrun at h
    split at h
    · exact absurd h (by simp)
    · rename_i q hq
      obtain ⟨hhead, hall⟩ := hok j hj
      have hrow := List.all_eq_true.mp hall (pc, q) (xfind_in hq)
      have ihj : ∀ (pc : Nat) (ls : List (Option Value)) (st : List Value) (n' : Nat) (M : xM), xrun L xs f d j pc ls st n' M = some o → n ≤ n' → ∀ (H : Heap) (locs : List Loc) (arr : Array Slot), va_S (xA G) s.heap H locs → xP G n' M H → xLs G ls arr (xme j).2.2.1 → W p l e R s m args below meth c H locs (n' - n0) (xsl n' - xsl n0) Q (F0 m pc arr (st.map (xcv G))) :=
        fun pc ls st n' M hr hn H locs arr g1 g2 g3 => ih d j pc ls st n' M o hj hr p e R s m args below meth c Q n0 C (Nat.le_trans hn0 hn) hrc hrs hret H locs arr g1 g2 g3
      split at h
      · exact xi_sound C hrow hhead h (fun pc ls st n M hr => xrun_mono _ _ _ _ _ _ _ _ _ hr) ihj hn0 hrc hrs hS hP hl
      · rename_i hs
        split at h
        · rename_i r hr
          cases h
          have hd : decode (xin j).2.1 pc = .ok (q.1, 1) := by
            unfold xrow at hrow
            simp only [Bool.and_eq_true, Bool.or_eq_true, decide_eq_true_eq] at hrow
            obtain ⟨⟨hd, hlen⟩, -⟩ := hrow
            have : q.2.1 = 1 := by
              revert hs hlen
              cases q.1 <;> simp [xsort, xln, xsw]
            rw [← this]
            exact hd
          exact hret H locs arr pc q.1 st hS hP hd hr
        · exact absurd h (by simp)
      · rename_i s2 hs
        obtain ⟨i, len, r1, r2⟩ := q
        have hlen : len = 3 := by
          unfold xrow at hrow
          simp only [Bool.and_eq_true, Bool.or_eq_true, decide_eq_true_eq] at hrow
          obtain ⟨⟨-, hlen⟩, -⟩ := hrow
          revert hs hlen
          cases i <;> simp [xsort, xln, xsw]
        subst hlen
        dsimp only at h hs
        have C' := C
        obtain ⟨hx, hb, hml, hown, hts, hE, hfr, hlo, hini⟩ := C'
        have hob := hE.2.2.2.2.2.2.2.2.2.2
        have hrow' := hrow
        unfold xrow at hrow'
        simp only [Bool.and_eq_true, Bool.or_eq_true, decide_eq_true_eq] at hrow'
        obtain ⟨⟨hd, -⟩, hq⟩ := hrow'
        have hmlar : c.maxLocals = arr.size := by rw [hml, hl.2.1]
        cases h2 : Nat.beq r2 2 with
        | true =>
          rw [h2, cond_true] at h
          have e2 := Nat.eq_of_beq_eq_true h2
          subst e2
          obtain ⟨a, r, rfl, ha, h'⟩ := xr_some h
          obtain ⟨hc, h'⟩ := xbif h'
          simp only [Bool.and_eq_true, Nat.blt_eq] at hc
          have hcat : ((r.map (xcv G)).map fun v => v.category).sum ≤ 8 := by rw [xcat_sum hob]; exact Nat.le_of_ble_eq_true hc.2
          cases i with
          | invokevirtual idx =>
            exact absurd hq (by simp [xokq])
          | invokestatic idx =>
            exact absurd hq (by simp [xokq])
          | invokespecial idx =>
            have hq' : ((xhas (xlk (xme j).2.2.2.2.1 idx) (.methodLink (xin j).2.2.2.1 idx Lib.objectInit) && xhas (xop.getD 0 (9, 0)) (.instanceMethod Lib.objectInit)) && xhas (xop.getD 1 (9, 0)) (.code Lib.objectInit ⟨#[0xb1]⟩ 1 none)) = true := hq
            simp only [Bool.and_eq_true] at hq'
            have hi := ihj _ _ _ _ _ h' (Nat.le_refl n) H locs arr hS hP hl
            rw [List.map_cons, xcv_ref ha]
            refine W.objInit (rest := r.map (xcv G)) hx hb hown (hts _ (xhas_in hq'.1.1)) (hts _ (xhas_in hq'.1.2)) (hts _ (xhas_in hq'.2)) rfl hmlar.symm rfl hd (by omega) ?_ hi
            have := lv_room (m := m) (pc := pc) (ls := arr) (rest := r.map (xcv G)) hcat
            show 2 * 0 + _ + 12 ≤ _
            omega
          | _ => exact absurd hs (by show ¬ _ = s2 + 2; simp [xsort])
        | false =>
          rw [h2, cond_false] at h
          cases h3 : Nat.beq r2 3 with
          | true =>
            rw [h3, cond_true] at h
            have e3 := Nat.eq_of_beq_eq_true h3
            subst e3
            obtain ⟨a, sp, b, dp, mm, r, rfl, h'⟩ := xcopy_some h
            obtain ⟨hc, h'⟩ := xbif h'
            obtain ⟨hcc, h'⟩ := xif h'
            simp only [Bool.and_eq_true, Nat.blt_eq] at hc
            obtain ⟨⟨⟨ha, hb'⟩, ⟨ha1, hb1⟩, hka, hkb⟩, ⟨hnn, hd0⟩, hcs⟩ := hc
            have hka := Nat.eq_of_beq_eq_true hka
            have hkb := Nat.eq_of_beq_eq_true hkb
            have hnn : n = 94 := Nat.eq_of_beq_eq_true hnn
            have hcat : ((r.map (xcv G)).map fun v => v.category).sum ≤ 8 := by rw [xcat_sum hob]; exact Nat.le_of_ble_eq_true hcs
            cases i with
            | invokevirtual idx =>
              exact absurd hq (by simp [xokq])
            | invokespecial idx =>
              exact absurd hq (by simp [xokq])
            | invokestatic idx =>
              have hq' : ((xhas (xlk (xme j).2.2.2.2.1 idx) (.methodLink (xin j).2.2.2.1 idx arraycopyName) && xhas (xop.getD 2 (9, 0)) (.native arraycopyName)) && (xhas (xop.getD 3 (9, 0)) (.static arraycopyName) && xhas (xop.getD 4 (9, 0)) (.initialized "java/lang/System"))) = true := hq
              simp only [Bool.and_eq_true] at hq'
              simp only [not_or] at hcc
              obtain ⟨⟨k1, k2, k3⟩, k4, k5⟩ := hcc
              have hnw : nativeFrameWords "java/lang/System" "arraycopy" 5 ≤ 60 := by decide
              have e1 : (Value.int mm :: Value.int dp :: Value.ref b :: Value.int sp :: Value.ref a :: r).map (xcv G) = .int mm :: .int dp :: .ref (G.1 + b) :: .int sp :: .ref (G.1 + a) :: r.map (xcv G) := by
                show _ :: _ :: xcv G (.ref b) :: _ :: xcv G (.ref a) :: _ = _
                rw [xcv_ref (by omega), xcv_ref (by omega), xad_own ha1, xad_own hb1]
                rfl
              rw [e1]
              refine va_copyi (ty := .int) hx hb hmlar hown (hts _ (xhas_in hq'.1.1)) (hts _ (xhas_in hq'.1.2)) (hts _ (xhas_in hq'.2.1)) (hts _ (xhas_in hq'.2.2)) hE.1 hP.1 xws_D hS a b 1 1 (by rw [xws_at ha, xce_14 hka]) (by rw [xws_at hb', xce_14 hkb]) rfl rfl rfl k1 k2 k3 (by omega) (by omega) (fun _ _ => rfl) (by omega) (by omega) hd (fun H1 locs1 hP1 hD1 hS1 => ?_)
              refine ihj _ _ _ _ _ h' (Nat.le_refl n) H1 locs1 arr hS1 ⟨?_, fun hn => absurd hn (by omega)⟩ hl
              rw [xws_set (M := M) hb' (M' := (xcp M.1 a b sp.toNatClampNeg dp.toNatClampNeg mm.toNatClampNeg, M.2.1, M.2.2)) (e := .inl (G.2.2.1 14, (xk b).2, .inl (va_cpy (M.1 a) (M.1 b) sp.toNatClampNeg dp.toNatClampNeg mm.toNatClampNeg))) (fun q hq => xce_other (xcp_ne hq) rfl rfl) (by
                rw [xce_14 hkb]
                show (Sum.inl (G.2.2.1 14, (xk b).2, Sum.inl (xcp M.1 a b sp.toNatClampNeg dp.toNatClampNeg mm.toNatClampNeg b)) : va_E) = _
                rw [xcp_eq])] at hP1
              exact hP1
            | _ => exact absurd hs (by show ¬ _ = s2 + 2; simp [xsort])
          | false =>
            rw [h3, cond_false] at h
            cases h4 : Nat.beq r2 4 with
            | true =>
              rw [h4, cond_true] at h
              have e4 := Nat.eq_of_beq_eq_true h4
              subst e4
              obtain ⟨x, y, r, rfl, h'⟩ := x2_some h
              obtain ⟨hc, h'⟩ := xbif h'
              simp only [Bool.and_eq_true, Nat.blt_eq] at hc
              have hcat : ((r.map (xcv G)).map fun v => v.category).sum ≤ 8 := by rw [xcat_sum hob]; exact Nat.le_of_ble_eq_true hc.2
              cases i with
              | invokevirtual idx =>
                exact absurd hq (by simp [xokq])
              | invokespecial idx =>
                exact absurd hq (by simp [xokq])
              | invokestatic idx =>
                have hq' : ((xhas (xlk (xme j).2.2.2.2.1 idx) (.methodLink (xin j).2.2.2.1 idx Lib.Math.max.name) && xhas (xop.getD 5 (9, 0)) (.static Lib.Math.max.name)) && (xhas (xop.getD 6 (9, 0)) (.code Lib.Math.max.name Lib.Math.max.code 2 (some .int)) && xhas (xop.getD 9 (9, 0)) (.initialized "java/lang/Math"))) = true := hq
                simp only [Bool.and_eq_true] at hq'
                have hm1 := xsl_mono hom
                exact va_mmax hx hb hmlar hown (hts _ (xhas_in hq'.1.1)) (hts _ (xhas_in hq'.1.2)) (hts _ (xhas_in hq'.2.2)) (hts _ (xhas_in hq'.2.1)) (by omega) (by omega) (by omega) (by omega) hd (ihj _ _ _ _ _ h' (Nat.le_refl n) H locs arr hS hP hl)
              | _ => exact absurd hs (by show ¬ _ = s2 + 2; simp [xsort])
            | false =>
              rw [h4, cond_false] at h
              cases h5 : Nat.beq r2 5 with
              | true =>
                rw [h5, cond_true] at h
                have e5 := Nat.eq_of_beq_eq_true h5
                subst e5
                obtain ⟨x, y, r, rfl, h'⟩ := x2_some h
                obtain ⟨hc, h'⟩ := xbif h'
                simp only [Bool.and_eq_true, Nat.blt_eq] at hc
                have hcat : ((r.map (xcv G)).map fun v => v.category).sum ≤ 8 := by rw [xcat_sum hob]; exact Nat.le_of_ble_eq_true hc.2
                cases i with
                | invokevirtual idx =>
                  exact absurd hq (by simp [xokq])
                | invokespecial idx =>
                  exact absurd hq (by simp [xokq])
                | invokestatic idx =>
                  have hq' : ((xhas (xlk (xme j).2.2.2.2.1 idx) (.methodLink (xin j).2.2.2.1 idx Lib.Math.min.name) && xhas (xop.getD 7 (9, 0)) (.static Lib.Math.min.name)) && (xhas (xop.getD 8 (9, 0)) (.code Lib.Math.min.name Lib.Math.min.code 2 (some .int)) && xhas (xop.getD 9 (9, 0)) (.initialized "java/lang/Math"))) = true := hq
                  simp only [Bool.and_eq_true] at hq'
                  have hm1 := xsl_mono hom
                  exact va_mmin hx hb hmlar hown (hts _ (xhas_in hq'.1.1)) (hts _ (xhas_in hq'.1.2)) (hts _ (xhas_in hq'.2.2)) (hts _ (xhas_in hq'.2.1)) (by omega) (by omega) (by omega) (by omega) hd (ihj _ _ _ _ _ h' (Nat.le_refl n) H locs arr hS hP hl)
                | _ => exact absurd hs (by show ¬ _ = s2 + 2; simp [xsort])
              | false =>
                rw [h5, cond_false] at h
                have hr2 : r2 < 2 := by
                  have g0 := Nat.ne_of_beq_eq_false h2
                  have g1 := Nat.ne_of_beq_eq_false h3
                  have g2 := Nat.ne_of_beq_eq_false h4
                  have g3 := Nat.ne_of_beq_eq_false h5
                  cases i with
                  | invokevirtual idx =>
                    have hq' : ((Nat.beq r2 0 && _) && _ && _) = true := hq
                    simp only [Bool.and_eq_true] at hq'
                    have := Nat.eq_of_beq_eq_true hq'.1.1.1
                    omega
                  | invokestatic idx =>
                    have hq' : (bif Nat.beq r2 3 then _ else bif Nat.beq r2 4 then _ else bif Nat.beq r2 5 then _ else bif Nat.beq r2 1 then _ else (Nat.beq r2 0 && _) && _) = true := hq
                    rw [h3, h4, h5, cond_false, cond_false, cond_false] at hq'
                    cases h1 : Nat.beq r2 1 with
                    | true => have := Nat.eq_of_beq_eq_true h1; omega
                    | false =>
                      rw [h1, cond_false] at hq'
                      simp only [Bool.and_eq_true] at hq'
                      have := Nat.eq_of_beq_eq_true hq'.1.1
                      omega
                  | invokespecial idx =>
                    have hq' : (bif Nat.beq r2 2 then _ else bif Nat.beq r2 1 then _ else (Nat.beq r2 0 && _) && _) = true := hq
                    rw [h2, cond_false] at hq'
                    cases h1 : Nat.beq r2 1 with
                    | true => have := Nat.eq_of_beq_eq_true h1; omega
                    | false =>
                      rw [h1, cond_false] at hq'
                      simp only [Bool.and_eq_true] at hq'
                      have := Nat.eq_of_beq_eq_true hq'.1.1
                      omega
                  | _ => exact absurd hs (by show ¬ _ = s2 + 2; simp [xsort])
                split at h
                · exact absurd h (by simp)
                · rename_i d'
                  obtain ⟨hc, h'⟩ := xbif h
                  simp only [Bool.and_eq_true, Bool.or_eq_true] at hc
                  obtain ⟨⟨⟨hc1, hc2⟩, hc3⟩, hc4⟩ := hc
                  split at h'
                  · rename_i o1 ho1
                    have hr1 : r1 < 310 := by
                      cases i with
                      | invokevirtual idx =>
                        have hq' : ((Nat.beq r2 0 && _) && (xmok r1 false && _) && _) = true := hq
                        simp only [Bool.and_eq_true] at hq'
                        exact (xmok_spec hq'.1.2.1).2.2.2.2.2.2.2.2
                      | invokestatic idx =>
                        have hq' : (bif Nat.beq r2 3 then _ else bif Nat.beq r2 4 then _ else bif Nat.beq r2 5 then _ else bif Nat.beq r2 1 then _ && xmok r1 true else (Nat.beq r2 0 && _) && xmok r1 true) = true := hq
                        rw [h3, h4, h5, cond_false, cond_false, cond_false] at hq'
                        cases h1 : Nat.beq r2 1 with
                        | true => rw [h1, cond_true, Bool.and_eq_true] at hq'; exact (xmok_spec hq'.2).2.2.2.2.2.2.2.2
                        | false => rw [h1, cond_false, Bool.and_eq_true] at hq'; exact (xmok_spec hq'.2).2.2.2.2.2.2.2.2
                      | invokespecial idx =>
                        have hq' : (bif Nat.beq r2 2 then _ else bif Nat.beq r2 1 then _ && (xmok r1 false && _) else (Nat.beq r2 0 && _) && (xmok r1 false && _)) = true := hq
                        rw [h2, cond_false] at hq'
                        cases h1 : Nat.beq r2 1 with
                        | true => rw [h1, cond_true, Bool.and_eq_true, Bool.and_eq_true] at hq'; exact (xmok_spec hq'.2.1).2.2.2.2.2.2.2.2
                        | false =>
                          rw [h1, cond_false] at hq'
                          simp only [Bool.and_eq_true] at hq'
                          exact (xmok_spec hq'.2.1).2.2.2.2.2.2.2.2
                      | _ => exact absurd hs (by show ¬ _ = s2 + 2; simp [xsort])
                    have hn1 := xrun_mono _ _ _ _ _ _ _ _ _ ho1
                    refine xcall_step (o1 := o1) (o := o) (d := d') C hok hrow hs hr2 (ih d' r1 0 _ _ n M o1 hr1 ho1) (Nat.le_of_ble_eq_true hc1) (Nat.le_of_ble_eq_true hc2) (Nat.le_of_ble_eq_true hc3) ?_ hn1 (xrun_mono _ _ _ _ _ _ _ _ _ h') (fun H locs arr g1 g2 g3 => ihj _ _ _ _ _ h' hn1 H locs arr g1 g2 g3) hn0 hrc hrs hS hP hl
                    rcases hc4 with w | w
                    · exact Or.inl (Nat.eq_of_beq_eq_true w)
                    · right
                      split at w
                      · rename_i b bs heq
                        simp only [Bool.and_eq_true, Bool.or_eq_true, Nat.blt_eq] at w
                        exact ⟨b, bs, heq, w.1, w.2.imp Nat.eq_of_beq_eq_true Nat.eq_of_beq_eq_true⟩
                      · exact absurd w (by simp)
                  · exact absurd h' (by simp)
