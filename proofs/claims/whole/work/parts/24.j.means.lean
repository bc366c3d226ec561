/-! the reference goes through all lines -/
theorem rlines_ok {l : Nat} {tb : Nat → Nat} {I : xI} {J : xJ} (T : Tb l tb) {Q : Int32 × xI × xJ → Prop} (x1 : Int32) (h : Lg l tb 0 I J) (hQ : ∀ I2 J2, ((Lg l tb (sK l tb) I2 J2 ∧ sF l tb = 0 ∧ l ≤ st tb (sK l tb)) ∨ Bad l tb I2) → (∀ c j, ¬ lnReg c j → I2 c j = I c j) → (∀ c j, ¬ c = 69 → J2 c j = J c j) → Ok (f_X12_read_10 x1 I2 J2) Q) : Ok (f_X12_read_5 x1 I J) Q := by
  unfold f_X12_read_5
  refine ok_while (fun s => ∃ I' J', s = (x1, I', J') ∧ ((∃ t, Lg l tb t I' J') ∨ Bad l tb I') ∧ (∀ c j, ¬ lnReg c j → I' c j = I c j) ∧ ∀ c j, ¬ c = 69 → J' c j = J c j) (fun s => if s.2.1 61 12 = 0 then 1000 - (s.2.1 61 11).toNatClampNeg else 0) ?_ 5000 _ ?_ ⟨I, J, rfl, Or.inl ⟨0, h⟩, fun _ _ _ => rfl, fun _ _ _ => rfl⟩
  · rintro s ⟨I1, J1, rfl, hx, hf, hj⟩
    dsimp only
    rcases hx with ⟨t, hL⟩ | hB
    · have hG := hL.1
      have h4 := hG.1
      have hAt := hG.2.2.2.2 t h4 (fun j hj => (hG.2.2.2.1 j hj).1)
      have hkd := kd_lt tb (st tb t)
      have hrk := rk_lt _ hkd
      rw [if_pos hG.2.2.1, hG.2.1, nt_clamp (by omega)]
      simp only [b_X12_read_5, if_pos hG.2.2.1, f_X12_read_6]
      rw [is_ok hG.2.1 (by omega) hG.2.2.1, Option.bind_some]
      simp only [f_X12_read_7, bi_0]
      by_cases hs : st tb t < l
      · have e64 : ¬ I1 64 t = 0 := by rw [(hAt.1 hs).1, show (0 : Int32) = nt 0 from rfl, nt_eq (by omega) (by omega)]; exact hrk.2
        rw [decide_eq_false e64, if_pos rfl]
        unfold f_X12_read_8
        apply ok_bind
        refine (line_ok T hL hs).imp ?_
        rintro ⟨_, I2, J2⟩ ⟨a1, a2, a3⟩
        dsimp only at a1 a2 a3 ⊢
        refine ok_some ⟨⟨I2, J2, rfl, ?_, fun c j hc => (a2 c j hc).trans (hf c j hc), fun c j hc => (a3 c j hc).trans (hj c j hc)⟩, ?_⟩
        · rcases a1 with ⟨t', _, hL'⟩ | hB
          · exact Or.inl ⟨t', hL'⟩
          · exact Or.inr hB
        · show (if I2 61 12 = 0 then 1000 - (I2 61 11).toNatClampNeg else 0) < 1000 - t
          rcases a1 with ⟨t', ht', hL'⟩ | hB
          · have h4' := hL'.1.1
            rw [if_pos hL'.1.2.2.1, hL'.1.2.1, nt_clamp (by omega)]; omega
          · rw [if_neg (Bad_n hB).1]; omega
      · have e64 : I1 64 t = 0 := (hAt.2 (by omega)).1
        have eK : sK l tb = t := sK_eq h4 hG.2.2.2.1 (Or.inl (by omega))
        have eF : sF l tb = 0 := by
          unfold sF
          rw [eK, if_neg hs, if_neg (by rw [hL.2.1]; decide)]
        rw [decide_eq_true e64, if_neg (by decide)]
        apply ok_map
        exact (hQ I1 J1 (Or.inl ⟨by rw [eK]; exact hL, eF, by rw [eK]; omega⟩) hf hj)
    · rw [if_neg (Bad_n hB).1]
      simp only [b_X12_read_5, if_neg (Bad_n hB).1]
      apply ok_map
      exact hQ I1 J1 (Or.inr hB) hf hj
  · dsimp only
    split
    · omega
    · omega
/-! what the lines mean -/
def nS (tb : Nat → Nat) (N : Nat) : Nat := (SLs tb N).length
def nmv (tb : Nat → Nat) (N s : Nat) : Nat := nm tb (st tb ((SLs tb N).getD s 0 + 1))
def fnd (tb : Nat → Nat) (N k : Nat) : Option Nat := ff (nS tb N) (fun s => decide (nmv tb N s = nm tb (st tb k)))
def vv (tb : Nat → Nat) (k : Nat) : Nat := tvl tb (st tb k)
def kk (tb : Nat → Nat) (k : Nat) : Nat := kd tb (st tb k)
/-- the checks of the line at t: number or 0, token -/
def chk (tb : Nat → Nat) (N t : Nat) : List (Nat × Nat) :=
  if kk tb t = 4 then [(if ex (nS tb t) (fun s => decide (nmv tb N s = nm tb (st tb (t + 1)))) = true then 3 else 0, t + 1)]
  else if kk tb t = 5 then [(if 1 ≤ vv tb (t + 1) ∧ vv tb (t + 1) ≤ 4 then 0 else 5, t + 1)]
  else if kk tb t = 6 then [(if (fnd tb N (t + 1)).isSome = true then 0 else 4, t + 1), (if vv tb (t + 2) < inp tb N then 0 else 5, t + 2), (if kk tb (t + 3) = 1 ∧ (fnd tb N (t + 3)).isSome = false then 4 else 0, t + 3), (if kk tb (t + 4) = 2 ∧ 3 < vv tb (t + 4) then 5 else 0, t + 4)]
  else if kk tb t = 7 then [(if (fnd tb N (t + 1)).isSome = true then 0 else 4, t + 1), (if vv tb (t + 2) < 8 then 0 else 5, t + 2)]
  else []
def wup (tb : Nat → Nat) (w : Nat × Nat) (c : Nat × Nat) : Nat × Nat := if w.1 = 0 ∧ ¬ c.1 = 0 then (c.1, st tb c.2) else w
def Wt (tb : Nat → Nat) (N : Nat) : Nat → Nat × Nat
  | 0 => (0, 0)
  | t + 1 => (chk tb N t).foldl (wup tb) (Wt tb N t)
theorem Wt_s (tb : Nat → Nat) (N t : Nat) : Wt tb N (t + 1) = (chk tb N t).foldl (wup tb) (Wt tb N t) := rfl
def A0 : aT := (fun _ _ => none, fun _ _ => none, fun s => if s < 6 then s else 0)
def At (tb : Nat → Nat) (N : Nat) : Nat → aT
  | 0 => A0
  | t + 1 => if kk tb t = 6 then aset (At tb N t) ((fnd tb N (t + 1)).getD 0) (vv tb (t + 2)) (if kk tb (t + 3) = 1 then fnd tb N (t + 3) else none) (if kk tb (t + 4) = 2 then some (vv tb (t + 4)) else none) else if kk tb t = 7 then acode (At tb N t) ((fnd tb N (t + 1)).getD 0) (vv tb (t + 2)) else At tb N t
theorem At_s (tb : Nat → Nat) (N t : Nat) : At tb N (t + 1) = if kk tb t = 6 then aset (At tb N t) ((fnd tb N (t + 1)).getD 0) (vv tb (t + 2)) (if kk tb (t + 3) = 1 then fnd tb N (t + 3) else none) (if kk tb (t + 4) = 2 then some (vv tb (t + 4)) else none) else if kk tb t = 7 then acode (At tb N t) ((fnd tb N (t + 1)).getD 0) (vv tb (t + 2)) else At tb N t := rfl
/-- a text whose lines are all whole -/
def Wf (l : Nat) (tb : Nat → Nat) (N : Nat) : Prop := Tb l tb ∧ N ≤ 400 ∧ due tb N = false ∧ (∀ j, j < N → st tb j < l ∧ flt tb j = 0) ∧ l ≤ st tb N
theorem Wf_of {l : Nat} {tb : Nat → Nat} (T : Tb l tb) (h : sF l tb = 0) : Wf l tb (sK l tb) := by
  obtain ⟨k4, kx, kb⟩ := sK_ok l tb
  unfold sF at h
  by_cases c : st tb (sK l tb) < l
  · rw [if_pos c] at h
    rcases kx with k | k
    · omega
    · exact absurd h k
  · rw [if_neg c] at h
    refine ⟨T, k4, ?_, kb, by omega⟩
    cases e : due tb (sK l tb) with
    | false => rfl
    | true => rw [e, if_pos rfl] at h; omega
/-- a line start below N: its line ends at or below N -/
theorem Wf_line {l N t : Nat} {tb : Nat → Nat} (h : Wf l tb N) (ht : t < N) (hd : due tb t = false) : (kk tb t = 4 ∨ kk tb t = 5 ∨ kk tb t = 6 ∨ kk tb t = 7) ∧ t + 1 + (shp (kk tb t)).length ≤ N ∧ due tb (t + 1 + (shp (kk tb t)).length) = false ∧ ∀ j, j < (shp (kk tb t)).length → fitb ((shp (kk tb t)).getD j 0) (kk tb (t + 1 + j)) = true := by
  obtain ⟨T, h4, hdN, hb, hl⟩ := h
  have hkd := kd_lt tb (st tb t)
  have hn := (flt_nf (hb t ht).2).1
  have ndue : ¬ (aq tb t).2.1 < (shp (aq tb t).1).length := of_decide_eq_false hd
  have enf : nf (aq tb t) (kd tb (st tb t)) = if (shp (kd tb (st tb t))).length = 0 then 1 else if kd tb (st tb t) = 4 ∧ 6 ≤ (aq tb t).2.2 then 2 else 0 := if_neg ndue
  have hsh : ¬ (shp (kd tb (st tb t))).length = 0 := by
    intro he
    rw [enf, if_pos he] at hn; omega
  have h2 : ∀ k, k < 9 → ¬ (shp k).length = 0 → k = 4 ∨ k = 5 ∨ k = 6 ∨ k = 7 := by decide
  have ha := aq_beg hd
  have hlen : t + 1 + (shp (kk tb t)).length ≤ N := by
    rcases Nat.lt_or_ge N (t + 1 + (shp (kk tb t)).length) with c | c
    · exfalso
      have e := aq_line ha (N - (t + 1)) (by show _ ≤ (shp (kk tb t)).length; omega)
      rw [show t + 1 + (N - (t + 1)) = N from by omega] at e
      have : due tb N = true := by
        unfold due; rw [e]
        refine decide_eq_true ?_
        show N - (t + 1) < (shp (kk tb t)).length
        omega
      rw [hdN] at this; cases this
    · exact c
  refine ⟨h2 _ hkd hsh, hlen, ?_, ?_⟩
  · unfold due; rw [show (shp (kk tb t)).length = (shp (kd tb (st tb t))).length from rfl, aq_line ha _ (Nat.le_refl _)]; exact decide_eq_false (Nat.lt_irrefl _)
  · intro j hj
    exact in_line ha hkd hj (hb _ (by omega)).2
theorem due_0 (tb : Nat → Nat) : due tb 0 = false := rfl
