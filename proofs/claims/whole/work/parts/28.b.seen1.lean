/-! what was seen is old or now, piece 1 -/
theorem s_f_X5_hasState_4 {x1 : Int32} {s0 : Int32} {I : xI} {J : xJ} : SG (fun o => o.2.1) I (f_X5_hasState_4 x1 s0 I J) := by
  unfold f_X5_hasState_4; exact (sg_ite (sg_some sx_rf) sg_none)
theorem s_f_X5_hasState_3 {x1 : Int32} {I : xI} {J : xJ} : SG (fun o => o.2.1) I (f_X5_hasState_3 x1 I J) := by
  unfold f_X5_hasState_3; exact (sg_at sx_rf (s_f_X5_hasState_4))
theorem s_f_X5_hasState_2 {x1 : Int32} {I : xI} {J : xJ} : SG (fun o => o.2.1) I (f_X5_hasState_2 x1 I J) := by
  unfold f_X5_hasState_2; exact (sg_at sx_rf (s_f_X5_hasState_4))
theorem s_f_X5_hasState_1 {x1 : Int32} {I : xI} {J : xJ} : SG (fun o => o.2.1) I (f_X5_hasState_1 x1 I J) := by
  unfold f_X5_hasState_1; exact (sg_ite (sg_at sx_rf (s_f_X5_hasState_3)) (sg_at sx_rf (s_f_X5_hasState_2)))
theorem s_f_X5_hasState_0 {x1 : Int32} {I : xI} {J : xJ} : SG (fun o => o.2.1) I (f_X5_hasState_0 x1 I J) := by
  unfold f_X5_hasState_0; exact (sg_ite (sg_at sx_rf (s_f_X5_hasState_3)) (sg_at sx_rf (s_f_X5_hasState_1)))
theorem s_f_X5_hasState {x1 : Int32} {I : xI} {J : xJ} : SG (fun o => o.2.1) I (f_X5_hasState x1 I J) := by
  unfold f_X5_hasState; exact (sg_at sx_rf (s_f_X5_hasState_0))
theorem s_f_X11_apart_6 {x1 : Int32} {x2 : Int32} {x3 : Int32} {I : xI} {J : xJ} : SG (fun o => o.2.1) I (f_X11_apart_6 x1 x2 x3 I J) := by
  unfold f_X11_apart_6; exact (sg_some sx_rf)
theorem s_f_X6_refresh_1 {I : xI} {J : xJ} : SG (fun o => o.2.1) I (f_X6_refresh_1 I J) := by
  unfold f_X6_refresh_1; exact (sg_some sx_rf)
theorem s_f_J7_fill_53178_33_3 {x1 : Int32} {x2 : Int32} {x3 : Int32} {I : xI} {J : xJ} : SG (fun o => o.2.1) I (f_J7_fill_53178_33_3 x1 x2 x3 I J) := by
  unfold f_J7_fill_53178_33_3; exact (sg_some sx_rf)
theorem s_f_J7_fill_53178_33_2 {x1 : Int32} {x2 : Int32} {x3 : Int32} {I : xI} {J : xJ} : SG (Sum.elim (fun o => o.2.2.2.1) (fun o => o.2.1)) I (f_J7_fill_53178_33_2 x1 x2 x3 I J) := by
  unfold f_J7_fill_53178_33_2; exact (sg_ite sg_none (sg_some (sx_upc sx_rf rfl)))
theorem s_b_J7_fill_53178_33_1 {x1 : Int32} {x2 : Int32} {x3 : Int32} {I : xI} {J : xJ} : SG (Sum.elim (fun o => o.2.2.2.1) (fun o => o.2.1)) I (b_J7_fill_53178_33_1 x1 x2 x3 I J) := by
  unfold b_J7_fill_53178_33_1; exact (sg_ite (sg_map (sg_at sx_rf (s_f_J7_fill_53178_33_3))) (sg_at sx_rf (s_f_J7_fill_53178_33_2)))
theorem s_f_J7_fill_53178_33_1 {x1 : Int32} {x2 : Int32} {x3 : Int32} {I : xI} {J : xJ} : SG (fun o => o.2.1) I (f_J7_fill_53178_33_1 x1 x2 x3 I J) := by
  unfold f_J7_fill_53178_33_1; exact (sg_loop (gs := (fun o => o.2.2.2.1)) (fun s => s_b_J7_fill_53178_33_1) sx_rf)
theorem s_f_J7_fill_53178_33_0 {x1 : Int32} {I : xI} {J : xJ} : SG (fun o => o.2.1) I (f_J7_fill_53178_33_0 x1 I J) := by
  unfold f_J7_fill_53178_33_0; exact (sg_at sx_rf (s_f_J7_fill_53178_33_1))
theorem s_f_J7_fill_53178_33 {x1 : Int32} {I : xI} {J : xJ} : SG (fun o => o.2.1) I (f_J7_fill_53178_33 x1 I J) := by
  unfold f_J7_fill_53178_33; exact (sg_at sx_rf (s_f_J7_fill_53178_33_0))
theorem s_f_J7_fill_53178_34_3 {x1 : Int32} {x2 : Int32} {x3 : Int32} {I : xI} {J : xJ} : SG (fun o => o.2.1) I (f_J7_fill_53178_34_3 x1 x2 x3 I J) := by
  unfold f_J7_fill_53178_34_3; exact (sg_some sx_rf)
theorem s_f_J7_fill_53178_34_2 {x1 : Int32} {x2 : Int32} {x3 : Int32} {I : xI} {J : xJ} : SG (Sum.elim (fun o => o.2.2.2.1) (fun o => o.2.1)) I (f_J7_fill_53178_34_2 x1 x2 x3 I J) := by
  unfold f_J7_fill_53178_34_2; exact (sg_ite sg_none (sg_some (sx_upc sx_rf rfl)))
theorem s_b_J7_fill_53178_34_1 {x1 : Int32} {x2 : Int32} {x3 : Int32} {I : xI} {J : xJ} : SG (Sum.elim (fun o => o.2.2.2.1) (fun o => o.2.1)) I (b_J7_fill_53178_34_1 x1 x2 x3 I J) := by
  unfold b_J7_fill_53178_34_1; exact (sg_ite (sg_map (sg_at sx_rf (s_f_J7_fill_53178_34_3))) (sg_at sx_rf (s_f_J7_fill_53178_34_2)))
theorem s_f_J7_fill_53178_34_1 {x1 : Int32} {x2 : Int32} {x3 : Int32} {I : xI} {J : xJ} : SG (fun o => o.2.1) I (f_J7_fill_53178_34_1 x1 x2 x3 I J) := by
  unfold f_J7_fill_53178_34_1; exact (sg_loop (gs := (fun o => o.2.2.2.1)) (fun s => s_b_J7_fill_53178_34_1) sx_rf)
theorem s_f_J7_fill_53178_34_0 {x1 : Int32} {I : xI} {J : xJ} : SG (fun o => o.2.1) I (f_J7_fill_53178_34_0 x1 I J) := by
  unfold f_J7_fill_53178_34_0; exact (sg_at sx_rf (s_f_J7_fill_53178_34_1))
theorem s_f_J7_fill_53178_34 {x1 : Int32} {I : xI} {J : xJ} : SG (fun o => o.2.1) I (f_J7_fill_53178_34 x1 I J) := by
  unfold f_J7_fill_53178_34; exact (sg_at sx_rf (s_f_J7_fill_53178_34_0))
theorem s_f_X6_refresh_15 {x1 : Int32} {z2 : Option Value} {I : xI} {J : xJ} : SG (fun o => o.2.1) I (f_X6_refresh_15 x1 z2 I J) := by
  unfold f_X6_refresh_15; exact (sg_some sx_rf)
theorem s_f_X6_goRound_6 {x1 : Int32} {x2 : Int32} {x3 : Int32} {I : xI} {J : xJ} : SG (fun o => o.2.1) I (f_X6_goRound_6 x1 x2 x3 I J) := by
  unfold f_X6_goRound_6; exact (sg_some sx_rf)
theorem s_f_X6_goRound_5 {x1 : Int32} {x2 : Int32} {x3 : Int32} {I : xI} {J : xJ} : SG (Sum.elim (fun o => o.2.2.2.1) (fun o => o.2.1)) I (f_X6_goRound_5 x1 x2 x3 I J) := by
  unfold f_X6_goRound_5; exact (sg_some sx_rf)
theorem s_f_X6_goRound_4 {x1 : Int32} {x2 : Int32} {x3 : Int32} {I : xI} {J : xJ} : SG (Sum.elim (fun o => o.2.2.2.1) (fun o => o.2.1)) I (f_X6_goRound_4 x1 x2 x3 I J) := by
  unfold f_X6_goRound_4; exact (sg_ite sg_none (sg_at (sx_up (sx_upc sx_rf rfl) rfl) (s_f_X6_goRound_5)))
theorem s_f_X6_goRound_3 {x1 : Int32} {x2 : Int32} {x3 : Int32} {I : xI} {J : xJ} : SG (Sum.elim (fun o => o.2.2.2.1) (fun o => o.2.1)) I (f_X6_goRound_3 x1 x2 x3 I J) := by
  unfold f_X6_goRound_3; exact (sg_ite sg_none (sg_ite (sg_at sx_rf (s_f_X6_goRound_5)) (sg_at sx_rf (s_f_X6_goRound_4))))
theorem s_f_X6_goRound_2 {x1 : Int32} {x2 : Int32} {x3 : Int32} {I : xI} {J : xJ} : SG (Sum.elim (fun o => o.2.2.2.1) (fun o => o.2.1)) I (f_X6_goRound_2 x1 x2 x3 I J) := by
  unfold f_X6_goRound_2; exact (sg_ite (sg_at sx_rf (s_f_X6_goRound_3)) (sg_at sx_rf (s_f_X6_goRound_5)))
theorem s_b_X6_goRound_1 {x1 : Int32} {x2 : Int32} {x3 : Int32} {I : xI} {J : xJ} : SG (Sum.elim (fun o => o.2.2.2.1) (fun o => o.2.1)) I (b_X6_goRound_1 x1 x2 x3 I J) := by
  unfold b_X6_goRound_1; exact (sg_ite (sg_map (sg_at sx_rf (s_f_X6_goRound_6))) (sg_at sx_rf (s_f_X6_goRound_2)))
theorem s_f_X6_goRound_1 {x1 : Int32} {x2 : Int32} {x3 : Int32} {I : xI} {J : xJ} : SG (fun o => o.2.1) I (f_X6_goRound_1 x1 x2 x3 I J) := by
  unfold f_X6_goRound_1; exact (sg_loop (gs := (fun o => o.2.2.2.1)) (fun s => s_b_X6_goRound_1) sx_rf)
theorem s_f_X6_goRound_0 {x1 : Int32} {I : xI} {J : xJ} : SG (fun o => o.2.1) I (f_X6_goRound_0 x1 I J) := by
  unfold f_X6_goRound_0; exact (sg_at sx_rf (s_f_X6_goRound_1))
theorem s_f_X6_goRound {x1 : Int32} {I : xI} {J : xJ} : SG (fun o => o.2.1) I (f_X6_goRound x1 I J) := by
  unfold f_X6_goRound; exact (sg_at sx_rf (s_f_X6_goRound_0))
theorem s_f_X6_refresh_14 {x1 : Int32} {z2 : Option Value} {I : xI} {J : xJ} : SG (Sum.elim (fun o => o.2.2.1) (fun o => o.2.1)) I (f_X6_refresh_14 x1 z2 I J) := by
  unfold f_X6_refresh_14; exact (sg_some sx_rf)
theorem s_f_X6_refresh_13 {x1 : Int32} {z2 : Option Value} {I : xI} {J : xJ} : SG (Sum.elim (fun o => o.2.2.1) (fun o => o.2.1)) I (f_X6_refresh_13 x1 z2 I J) := by
  unfold f_X6_refresh_13; exact (sg_bind (sg_at sx_rf (s_f_X6_goRound)) (fun o ho => (sg_at ho (s_f_X6_refresh_14))))
theorem s_b_X6_refresh_12 {x1 : Int32} {z2 : Option Value} {I : xI} {J : xJ} : SG (Sum.elim (fun o => o.2.2.1) (fun o => o.2.1)) I (b_X6_refresh_12 x1 z2 I J) := by
  unfold b_X6_refresh_12; exact (sg_ite (sg_map (sg_at sx_rf (s_f_X6_refresh_15))) (sg_at sx_rf (s_f_X6_refresh_13)))
theorem s_f_X6_refresh_12 {x1 : Int32} {z2 : Option Value} {I : xI} {J : xJ} : SG (fun o => o.2.1) I (f_X6_refresh_12 x1 z2 I J) := by
  unfold f_X6_refresh_12; exact (sg_loop (gs := (fun o => o.2.2.1)) (fun s => s_b_X6_refresh_12) sx_rf)
theorem s_f_X6_refresh_11 {x1 : Int32} {z2 : Option Value} {I : xI} {J : xJ} : SG (fun o => o.2.1) I (f_X6_refresh_11 x1 z2 I J) := by
  unfold f_X6_refresh_11; exact (sg_at sx_rf (s_f_X6_refresh_12))
theorem s_f_X6_refresh_10 {x1 : Int32} {x2 : Int32} {I : xI} {J : xJ} : SG (Sum.elim (fun o => o.2.2.1) (fun o => o.2.1)) I (f_X6_refresh_10 x1 x2 I J) := by
  unfold f_X6_refresh_10; exact (sg_some sx_rf)
theorem s_f_X11_pairOf_4 {x0 : Int32} {x1 : Int32} {x2 : Int32} {s0 : Int32} {I : xI} {J : xJ} : SG (fun o => o.2.1) I (f_X11_pairOf_4 x0 x1 x2 s0 I J) := by
  unfold f_X11_pairOf_4; exact (sg_some sx_rf)
theorem s_f_X11_pairOf_3 {x0 : Int32} {x1 : Int32} {x2 : Int32} {I : xI} {J : xJ} : SG (fun o => o.2.1) I (f_X11_pairOf_3 x0 x1 x2 I J) := by
  unfold f_X11_pairOf_3; exact (sg_at sx_rf (s_f_X11_pairOf_4))
theorem s_f_X11_pairOf_2 {x0 : Int32} {x1 : Int32} {x2 : Int32} {I : xI} {J : xJ} : SG (fun o => o.2.1) I (f_X11_pairOf_2 x0 x1 x2 I J) := by
  unfold f_X11_pairOf_2; exact (sg_ite sg_none (sg_at sx_rf (s_f_X11_pairOf_4)))
theorem s_f_X11_pairOf_1 {x0 : Int32} {x1 : Int32} {x2 : Int32} {I : xI} {J : xJ} : SG (fun o => o.2.1) I (f_X11_pairOf_1 x0 x1 x2 I J) := by
  unfold f_X11_pairOf_1; exact (sg_ite (sg_at sx_rf (s_f_X11_pairOf_3)) (sg_at sx_rf (s_f_X11_pairOf_2)))
theorem s_f_X11_pairOf_0 {x0 : Int32} {x1 : Int32} {I : xI} {J : xJ} : SG (fun o => o.2.1) I (f_X11_pairOf_0 x0 x1 I J) := by
  unfold f_X11_pairOf_0; exact (sg_ite (sg_at sx_rf (s_f_X11_pairOf_3)) (sg_at sx_rf (s_f_X11_pairOf_1)))
theorem s_f_X11_pairOf {x0 : Int32} {x1 : Int32} {I : xI} {J : xJ} : SG (fun o => o.2.1) I (f_X11_pairOf x0 x1 I J) := by
  unfold f_X11_pairOf; exact (sg_at sx_rf (s_f_X11_pairOf_0))
theorem s_f_J6_numberOfTrailingZeros_0f7a4_10 {x0 : Int32} {x1 : Int32} {I : xI} {J : xJ} : SG (fun o => o.2.1) I (f_J6_numberOfTrailingZeros_0f7a4_10 x0 x1 I J) := by
  unfold f_J6_numberOfTrailingZeros_0f7a4_10; exact (sg_some sx_rf)
theorem s_f_J6_numberOfTrailingZeros_0f7a4_9 {x0 : Int32} {x1 : Int32} {I : xI} {J : xJ} : SG (fun o => o.2.1) I (f_J6_numberOfTrailingZeros_0f7a4_9 x0 x1 I J) := by
  unfold f_J6_numberOfTrailingZeros_0f7a4_9; exact (sg_at sx_rf (s_f_J6_numberOfTrailingZeros_0f7a4_10))
theorem s_f_J6_numberOfTrailingZeros_0f7a4_8 {x0 : Int32} {x1 : Int32} {I : xI} {J : xJ} : SG (fun o => o.2.1) I (f_J6_numberOfTrailingZeros_0f7a4_8 x0 x1 I J) := by
  unfold f_J6_numberOfTrailingZeros_0f7a4_8; exact (sg_ite (sg_at sx_rf (s_f_J6_numberOfTrailingZeros_0f7a4_10)) (sg_at sx_rf (s_f_J6_numberOfTrailingZeros_0f7a4_9)))
theorem s_f_J6_numberOfTrailingZeros_0f7a4_7 {x0 : Int32} {x1 : Int32} {I : xI} {J : xJ} : SG (fun o => o.2.1) I (f_J6_numberOfTrailingZeros_0f7a4_7 x0 x1 I J) := by
  unfold f_J6_numberOfTrailingZeros_0f7a4_7; exact (sg_at sx_rf (s_f_J6_numberOfTrailingZeros_0f7a4_8))
theorem s_f_J6_numberOfTrailingZeros_0f7a4_6 {x0 : Int32} {x1 : Int32} {I : xI} {J : xJ} : SG (fun o => o.2.1) I (f_J6_numberOfTrailingZeros_0f7a4_6 x0 x1 I J) := by
  unfold f_J6_numberOfTrailingZeros_0f7a4_6; exact (sg_ite (sg_at sx_rf (s_f_J6_numberOfTrailingZeros_0f7a4_8)) (sg_at sx_rf (s_f_J6_numberOfTrailingZeros_0f7a4_7)))
theorem s_f_J6_numberOfTrailingZeros_0f7a4_5 {x0 : Int32} {x1 : Int32} {I : xI} {J : xJ} : SG (fun o => o.2.1) I (f_J6_numberOfTrailingZeros_0f7a4_5 x0 x1 I J) := by
  unfold f_J6_numberOfTrailingZeros_0f7a4_5; exact (sg_at sx_rf (s_f_J6_numberOfTrailingZeros_0f7a4_6))
theorem s_f_J6_numberOfTrailingZeros_0f7a4_4 {x0 : Int32} {x1 : Int32} {I : xI} {J : xJ} : SG (fun o => o.2.1) I (f_J6_numberOfTrailingZeros_0f7a4_4 x0 x1 I J) := by
  unfold f_J6_numberOfTrailingZeros_0f7a4_4; exact (sg_ite (sg_at sx_rf (s_f_J6_numberOfTrailingZeros_0f7a4_6)) (sg_at sx_rf (s_f_J6_numberOfTrailingZeros_0f7a4_5)))
theorem s_f_J6_numberOfTrailingZeros_0f7a4_3 {x0 : Int32} {x1 : Int32} {I : xI} {J : xJ} : SG (fun o => o.2.1) I (f_J6_numberOfTrailingZeros_0f7a4_3 x0 x1 I J) := by
  unfold f_J6_numberOfTrailingZeros_0f7a4_3; exact (sg_at sx_rf (s_f_J6_numberOfTrailingZeros_0f7a4_4))
theorem s_f_J6_numberOfTrailingZeros_0f7a4_2 {x0 : Int32} {I : xI} {J : xJ} : SG (fun o => o.2.1) I (f_J6_numberOfTrailingZeros_0f7a4_2 x0 I J) := by
  unfold f_J6_numberOfTrailingZeros_0f7a4_2; exact (sg_ite (sg_at sx_rf (s_f_J6_numberOfTrailingZeros_0f7a4_4)) (sg_at sx_rf (s_f_J6_numberOfTrailingZeros_0f7a4_3)))
theorem s_f_J6_numberOfTrailingZeros_0f7a4_1 {x0 : Int32} {I : xI} {J : xJ} : SG (fun o => o.2.1) I (f_J6_numberOfTrailingZeros_0f7a4_1 x0 I J) := by
  unfold f_J6_numberOfTrailingZeros_0f7a4_1; exact (sg_some sx_rf)
theorem s_f_J6_numberOfTrailingZeros_0f7a4_0 {x0 : Int32} {I : xI} {J : xJ} : SG (fun o => o.2.1) I (f_J6_numberOfTrailingZeros_0f7a4_0 x0 I J) := by
  unfold f_J6_numberOfTrailingZeros_0f7a4_0; exact (sg_ite (sg_at sx_rf (s_f_J6_numberOfTrailingZeros_0f7a4_2)) (sg_at sx_rf (s_f_J6_numberOfTrailingZeros_0f7a4_1)))
theorem s_f_J6_numberOfTrailingZeros_0f7a4 {x0 : Int32} {I : xI} {J : xJ} : SG (fun o => o.2.1) I (f_J6_numberOfTrailingZeros_0f7a4 x0 I J) := by
  unfold f_J6_numberOfTrailingZeros_0f7a4; exact (sg_at sx_rf (s_f_J6_numberOfTrailingZeros_0f7a4_0))
theorem s_f_X6_look_11 {x1 : Int32} {x2 : Int32} {x3 : Int32} {x4 : Int32} {I : xI} {J : xJ} : SG (fun o => o.2.1) I (f_X6_look_11 x1 x2 x3 x4 I J) := by
  unfold f_X6_look_11; exact (sg_some sx_rf)
theorem s_f_X5_targetOf_6 {x1 : Int32} {x2 : Int32} {s0 : Int32} {I : xI} {J : xJ} : SG (fun o => o.2.1) I (f_X5_targetOf_6 x1 x2 s0 I J) := by
  unfold f_X5_targetOf_6; exact (sg_some sx_rf)
theorem s_f_X5_targetOf_5 {x1 : Int32} {x2 : Int32} {I : xI} {J : xJ} : SG (fun o => o.2.1) I (f_X5_targetOf_5 x1 x2 I J) := by
  unfold f_X5_targetOf_5; exact (sg_at sx_rf (s_f_X5_targetOf_6))
theorem s_f_X5_targetOf_4 {x1 : Int32} {x2 : Int32} {I : xI} {J : xJ} : SG (fun o => o.2.1) I (f_X5_targetOf_4 x1 x2 I J) := by
  unfold f_X5_targetOf_4; exact (sg_ite sg_none (sg_at sx_rf (s_f_X5_targetOf_6)))
theorem s_f_X5_targetOf_3 {x1 : Int32} {x2 : Int32} {I : xI} {J : xJ} : SG (fun o => o.2.1) I (f_X5_targetOf_3 x1 x2 I J) := by
  unfold f_X5_targetOf_3; exact (sg_ite (sg_at sx_rf (s_f_X5_targetOf_5)) (sg_at sx_rf (s_f_X5_targetOf_4)))
theorem s_f_X5_targetOf_2 {x1 : Int32} {x2 : Int32} {I : xI} {J : xJ} : SG (fun o => o.2.1) I (f_X5_targetOf_2 x1 x2 I J) := by
  unfold f_X5_targetOf_2; exact (sg_ite (sg_at sx_rf (s_f_X5_targetOf_5)) (sg_at sx_rf (s_f_X5_targetOf_3)))
theorem s_f_X5_targetOf_1 {x1 : Int32} {x2 : Int32} {I : xI} {J : xJ} : SG (fun o => o.2.1) I (f_X5_targetOf_1 x1 x2 I J) := by
  unfold f_X5_targetOf_1; exact (sg_ite (sg_at sx_rf (s_f_X5_targetOf_5)) (sg_at sx_rf (s_f_X5_targetOf_2)))
theorem s_f_X5_targetOf_0 {x1 : Int32} {x2 : Int32} {I : xI} {J : xJ} : SG (fun o => o.2.1) I (f_X5_targetOf_0 x1 x2 I J) := by
  unfold f_X5_targetOf_0; exact (sg_ite (sg_at sx_rf (s_f_X5_targetOf_5)) (sg_at sx_rf (s_f_X5_targetOf_1)))
theorem s_f_X5_targetOf {x1 : Int32} {x2 : Int32} {I : xI} {J : xJ} : SG (fun o => o.2.1) I (f_X5_targetOf x1 x2 I J) := by
  unfold f_X5_targetOf; exact (sg_at sx_rf (s_f_X5_targetOf_0))
theorem s_f_X6_stepOf_6 {x1 : Int32} {x2 : Int32} {x3 : Int32} {x4 : Int32} {x5 : Int32} {s0 : Int32} {I : xI} {J : xJ} : SG (fun o => o.2.1) I (f_X6_stepOf_6 x1 x2 x3 x4 x5 s0 I J) := by
  unfold f_X6_stepOf_6; exact (sg_some sx_rf)
theorem s_f_X6_stepOf_4 {x1 : Int32} {x2 : Int32} {x3 : Int32} {x4 : Int32} {x5 : Int32} {I : xI} {J : xJ} : SG (fun o => o.2.1) I (f_X6_stepOf_4 x1 x2 x3 x4 x5 I J) := by
  unfold f_X6_stepOf_4; exact (sg_at sx_rf (s_f_X6_stepOf_6))
theorem s_f_X6_stepOf_5 {x1 : Int32} {x2 : Int32} {x3 : Int32} {x4 : Int32} {x5 : Int32} {I : xI} {J : xJ} : SG (fun o => o.2.1) I (f_X6_stepOf_5 x1 x2 x3 x4 x5 I J) := by
  unfold f_X6_stepOf_5; exact (sg_bind (sg_at sx_rf (s_f_X11_pairOf)) (fun o ho => (sg_at ho (s_f_X6_stepOf_6))))
theorem s_f_X6_stepOf_3 {x1 : Int32} {x2 : Int32} {x3 : Int32} {x4 : Int32} {x5 : Int32} {I : xI} {J : xJ} : SG (fun o => o.2.1) I (f_X6_stepOf_3 x1 x2 x3 x4 x5 I J) := by
  unfold f_X6_stepOf_3; exact (sg_ite (sg_at sx_rf (s_f_X6_stepOf_5)) (sg_at sx_rf (s_f_X6_stepOf_4)))
theorem s_f_X6_stepOf_2 {x1 : Int32} {x2 : Int32} {x3 : Int32} {x4 : Int32} {s0 : Int32} {I : xI} {J : xJ} : SG (fun o => o.2.1) I (f_X6_stepOf_2 x1 x2 x3 x4 s0 I J) := by
  unfold f_X6_stepOf_2; exact (sg_ite (sg_at sx_rf (s_f_X6_stepOf_4)) (sg_at sx_rf (s_f_X6_stepOf_3)))
theorem s_f_X6_stepOf_1 {x1 : Int32} {x2 : Int32} {x3 : Int32} {s0 : Int32} {I : xI} {J : xJ} : SG (fun o => o.2.1) I (f_X6_stepOf_1 x1 x2 x3 s0 I J) := by
  unfold f_X6_stepOf_1; exact (sg_bind (sg_at sx_rf (s_f_X5_targetOf)) (fun o ho => (sg_at ho (s_f_X6_stepOf_2))))
theorem s_f_X6_stepOf_0 {x1 : Int32} {x2 : Int32} {x3 : Int32} {I : xI} {J : xJ} : SG (fun o => o.2.1) I (f_X6_stepOf_0 x1 x2 x3 I J) := by
  unfold f_X6_stepOf_0; exact (sg_bind (sg_at sx_rf (s_f_X5_targetOf)) (fun o ho => (sg_at ho (s_f_X6_stepOf_1))))
theorem s_f_X6_stepOf {x1 : Int32} {x2 : Int32} {x3 : Int32} {I : xI} {J : xJ} : SG (fun o => o.2.1) I (f_X6_stepOf x1 x2 x3 I J) := by
  unfold f_X6_stepOf; exact (sg_at sx_rf (s_f_X6_stepOf_0))
theorem s_f_X5_answerOf_6 {x1 : Int32} {x2 : Int32} {s0 : Int32} {I : xI} {J : xJ} : SG (fun o => o.2.1) I (f_X5_answerOf_6 x1 x2 s0 I J) := by
  unfold f_X5_answerOf_6; exact (sg_some sx_rf)
theorem s_f_X5_answerOf_5 {x1 : Int32} {x2 : Int32} {I : xI} {J : xJ} : SG (fun o => o.2.1) I (f_X5_answerOf_5 x1 x2 I J) := by
  unfold f_X5_answerOf_5; exact (sg_at sx_rf (s_f_X5_answerOf_6))
theorem s_f_X5_answerOf_4 {x1 : Int32} {x2 : Int32} {I : xI} {J : xJ} : SG (fun o => o.2.1) I (f_X5_answerOf_4 x1 x2 I J) := by
  unfold f_X5_answerOf_4; exact (sg_ite sg_none (sg_at sx_rf (s_f_X5_answerOf_6)))
theorem s_f_X5_answerOf_3 {x1 : Int32} {x2 : Int32} {I : xI} {J : xJ} : SG (fun o => o.2.1) I (f_X5_answerOf_3 x1 x2 I J) := by
  unfold f_X5_answerOf_3; exact (sg_ite (sg_at sx_rf (s_f_X5_answerOf_5)) (sg_at sx_rf (s_f_X5_answerOf_4)))
theorem s_f_X5_answerOf_2 {x1 : Int32} {x2 : Int32} {I : xI} {J : xJ} : SG (fun o => o.2.1) I (f_X5_answerOf_2 x1 x2 I J) := by
  unfold f_X5_answerOf_2; exact (sg_ite (sg_at sx_rf (s_f_X5_answerOf_5)) (sg_at sx_rf (s_f_X5_answerOf_3)))
theorem s_f_X5_answerOf_1 {x1 : Int32} {x2 : Int32} {I : xI} {J : xJ} : SG (fun o => o.2.1) I (f_X5_answerOf_1 x1 x2 I J) := by
  unfold f_X5_answerOf_1; exact (sg_ite (sg_at sx_rf (s_f_X5_answerOf_5)) (sg_at sx_rf (s_f_X5_answerOf_2)))
theorem s_f_X5_answerOf_0 {x1 : Int32} {x2 : Int32} {I : xI} {J : xJ} : SG (fun o => o.2.1) I (f_X5_answerOf_0 x1 x2 I J) := by
  unfold f_X5_answerOf_0; exact (sg_ite (sg_at sx_rf (s_f_X5_answerOf_5)) (sg_at sx_rf (s_f_X5_answerOf_1)))
theorem s_f_X5_answerOf {x1 : Int32} {x2 : Int32} {I : xI} {J : xJ} : SG (fun o => o.2.1) I (f_X5_answerOf x1 x2 I J) := by
  unfold f_X5_answerOf; exact (sg_at sx_rf (s_f_X5_answerOf_0))
theorem s_f_X6_isUnlike_7 {x1 : Int32} {x2 : Int32} {x3 : Int32} {x4 : Int32} {x5 : Int32} {s0 : Int32} {I : xI} {J : xJ} : SG (fun o => o.2.1) I (f_X6_isUnlike_7 x1 x2 x3 x4 x5 s0 I J) := by
  unfold f_X6_isUnlike_7; exact (sg_ite (sg_some sx_rf) sg_none)
theorem s_f_X6_isUnlike_6 {x1 : Int32} {x2 : Int32} {x3 : Int32} {x4 : Int32} {x5 : Int32} {I : xI} {J : xJ} : SG (fun o => o.2.1) I (f_X6_isUnlike_6 x1 x2 x3 x4 x5 I J) := by
  unfold f_X6_isUnlike_6; exact (sg_at sx_rf (s_f_X6_isUnlike_7))
theorem s_f_X6_isUnlike_5 {x1 : Int32} {x2 : Int32} {x3 : Int32} {x4 : Int32} {x5 : Int32} {I : xI} {J : xJ} : SG (fun o => o.2.1) I (f_X6_isUnlike_5 x1 x2 x3 x4 x5 I J) := by
  unfold f_X6_isUnlike_5; exact (sg_at sx_rf (s_f_X6_isUnlike_7))
theorem s_f_X6_isUnlike_4 {x1 : Int32} {x2 : Int32} {x3 : Int32} {x4 : Int32} {x5 : Int32} {I : xI} {J : xJ} : SG (fun o => o.2.1) I (f_X6_isUnlike_4 x1 x2 x3 x4 x5 I J) := by
  unfold f_X6_isUnlike_4; exact (sg_ite (sg_at sx_rf (s_f_X6_isUnlike_6)) (sg_at sx_rf (s_f_X6_isUnlike_5)))
theorem s_f_X6_isUnlike_3 {x1 : Int32} {x2 : Int32} {x3 : Int32} {x4 : Int32} {x5 : Int32} {I : xI} {J : xJ} : SG (fun o => o.2.1) I (f_X6_isUnlike_3 x1 x2 x3 x4 x5 I J) := by
  unfold f_X6_isUnlike_3; exact (sg_ite (sg_at sx_rf (s_f_X6_isUnlike_6)) (sg_at sx_rf (s_f_X6_isUnlike_4)))
theorem s_f_X6_isUnlike_2 {x1 : Int32} {x2 : Int32} {x3 : Int32} {x4 : Int32} {s0 : Int32} {I : xI} {J : xJ} : SG (fun o => o.2.1) I (f_X6_isUnlike_2 x1 x2 x3 x4 s0 I J) := by
  unfold f_X6_isUnlike_2; exact (sg_ite (sg_at sx_rf (s_f_X6_isUnlike_6)) (sg_at sx_rf (s_f_X6_isUnlike_3)))
theorem s_f_X6_isUnlike_1 {x1 : Int32} {x2 : Int32} {x3 : Int32} {s0 : Int32} {I : xI} {J : xJ} : SG (fun o => o.2.1) I (f_X6_isUnlike_1 x1 x2 x3 s0 I J) := by
  unfold f_X6_isUnlike_1; exact (sg_bind (sg_at sx_rf (s_f_X5_answerOf)) (fun o ho => (sg_at ho (s_f_X6_isUnlike_2))))
theorem s_f_X6_isUnlike_0 {x1 : Int32} {x2 : Int32} {x3 : Int32} {I : xI} {J : xJ} : SG (fun o => o.2.1) I (f_X6_isUnlike_0 x1 x2 x3 I J) := by
  unfold f_X6_isUnlike_0; exact (sg_bind (sg_at sx_rf (s_f_X5_answerOf)) (fun o ho => (sg_at ho (s_f_X6_isUnlike_1))))
theorem s_f_X6_isUnlike {x1 : Int32} {x2 : Int32} {x3 : Int32} {I : xI} {J : xJ} : SG (fun o => o.2.1) I (f_X6_isUnlike x1 x2 x3 I J) := by
  unfold f_X6_isUnlike; exact (sg_at sx_rf (s_f_X6_isUnlike_0))
theorem s_f_X6_look_10 {x1 : Int32} {x2 : Int32} {x3 : Int32} {x4 : Int32} {I : xI} {J : xJ} : SG (Sum.elim (fun o => o.2.2.2.2.1) (fun o => o.2.1)) I (f_X6_look_10 x1 x2 x3 x4 I J) := by
  unfold f_X6_look_10; exact (sg_some sx_rf)
theorem s_f_X6_look_9 {x1 : Int32} {x2 : Int32} {x3 : Int32} {x4 : Int32} {I : xI} {J : xJ} : SG (Sum.elim (fun o => o.2.2.2.2.1) (fun o => o.2.1)) I (f_X6_look_9 x1 x2 x3 x4 I J) := by
  unfold f_X6_look_9; exact (sg_ite sg_none (sg_at (sx_up (sx_upc sx_rf rfl) rfl) (s_f_X6_look_10)))
theorem s_f_X6_look_8 {x1 : Int32} {x2 : Int32} {x3 : Int32} {x4 : Int32} {s0 : Int32} {I : xI} {J : xJ} : SG (Sum.elim (fun o => o.2.2.2.2.1) (fun o => o.2.1)) I (f_X6_look_8 x1 x2 x3 x4 s0 I J) := by
  unfold f_X6_look_8; exact (sg_ite (sg_at sx_rf (s_f_X6_look_10)) (sg_at sx_rf (s_f_X6_look_9)))
theorem s_f_X6_look_7 {x1 : Int32} {x2 : Int32} {x3 : Int32} {x4 : Int32} {s1 : Int32} {s2 : Int32} {s3 : Int32} {I : xI} {J : xJ} : SG (Sum.elim (fun o => o.2.2.2.2.1) (fun o => o.2.1)) I (f_X6_look_7 x1 x2 x3 x4 s1 s2 s3 I J) := by
  unfold f_X6_look_7; exact (sg_ite sg_none (sg_bind (sg_at (sx_upc sx_rf rfl) (s_f_X6_isUnlike)) (fun o ho => (sg_at ho (s_f_X6_look_8)))))
theorem s_f_X6_look_6 {x1 : Int32} {x2 : Int32} {x3 : Int32} {x4 : Int32} {I : xI} {J : xJ} : SG (Sum.elim (fun o => o.2.2.2.2.1) (fun o => o.2.1)) I (f_X6_look_6 x1 x2 x3 x4 I J) := by
  unfold f_X6_look_6; exact (sg_ite sg_none (sg_bind (sg_at sx_rf (s_f_X6_stepOf)) (fun o ho => (sg_at ho (s_f_X6_look_7)))))
theorem s_b_X6_look_5 {x1 : Int32} {x2 : Int32} {x3 : Int32} {x4 : Int32} {I : xI} {J : xJ} : SG (Sum.elim (fun o => o.2.2.2.2.1) (fun o => o.2.1)) I (b_X6_look_5 x1 x2 x3 x4 I J) := by
  unfold b_X6_look_5; exact (sg_ite (sg_map (sg_at sx_rf (s_f_X6_look_11))) (sg_at sx_rf (s_f_X6_look_6)))
theorem s_f_X6_look_5 {x1 : Int32} {x2 : Int32} {x3 : Int32} {x4 : Int32} {I : xI} {J : xJ} : SG (fun o => o.2.1) I (f_X6_look_5 x1 x2 x3 x4 I J) := by
  unfold f_X6_look_5; exact (sg_loop (gs := (fun o => o.2.2.2.2.1)) (fun s => s_b_X6_look_5) sx_rf)
theorem s_f_X6_look_4 {x1 : Int32} {x2 : Int32} {x3 : Int32} {I : xI} {J : xJ} : SG (fun o => o.2.1) I (f_X6_look_4 x1 x2 x3 I J) := by
  unfold f_X6_look_4; exact (sg_at sx_rf (s_f_X6_look_5))
theorem s_f_X6_look_3 {x1 : Int32} {x2 : Int32} {x3 : Int32} {I : xI} {J : xJ} : SG (fun o => o.2.1) I (f_X6_look_3 x1 x2 x3 I J) := by
  unfold f_X6_look_3; exact (sg_some sx_rf)
theorem s_f_X6_look_2 {x1 : Int32} {x2 : Int32} {s0 : Int32} {I : xI} {J : xJ} : SG (fun o => o.2.1) I (f_X6_look_2 x1 x2 s0 I J) := by
  unfold f_X6_look_2; exact (sg_ite (sg_at sx_rf (s_f_X6_look_4)) (sg_at sx_rf (s_f_X6_look_3)))
theorem s_f_X6_look_1 {x1 : Int32} {x2 : Int32} {s0 : Int32} {I : xI} {J : xJ} : SG (fun o => o.2.1) I (f_X6_look_1 x1 x2 s0 I J) := by
  unfold f_X6_look_1; exact (sg_bind (sg_at sx_rf (s_f_J6_numberOfTrailingZeros_0f7a4)) (fun o ho => (sg_at ho (s_f_X6_look_2))))
theorem s_f_X6_look_0 {x1 : Int32} {x2 : Int32} {I : xI} {J : xJ} : SG (fun o => o.2.1) I (f_X6_look_0 x1 x2 I J) := by
  unfold f_X6_look_0; exact (sg_bind (sg_at sx_rf (s_f_X11_pairOf)) (fun o ho => (sg_at ho (s_f_X6_look_1))))
theorem s_f_X6_look {x1 : Int32} {x2 : Int32} {I : xI} {J : xJ} : SG (fun o => o.2.1) I (f_X6_look x1 x2 I J) := by
  unfold f_X6_look; exact (sg_at sx_rf (s_f_X6_look_0))
theorem s_f_X6_refresh_9 {x1 : Int32} {x2 : Int32} {I : xI} {J : xJ} : SG (Sum.elim (fun o => o.2.2.1) (Sum.elim (fun o => o.2.2.1) (fun o => o.2.1))) I (f_X6_refresh_9 x1 x2 I J) := by
  unfold f_X6_refresh_9; exact (sg_some sx_rf)
theorem s_f_X6_refresh_8 {x1 : Int32} {x2 : Int32} {I : xI} {J : xJ} : SG (Sum.elim (fun o => o.2.2.1) (Sum.elim (fun o => o.2.2.1) (fun o => o.2.1))) I (f_X6_refresh_8 x1 x2 I J) := by
  unfold f_X6_refresh_8; exact (sg_bind (sg_at sx_rf (s_f_X6_look)) (fun o ho => (sg_at ho (s_f_X6_refresh_9))))
theorem s_b_X6_refresh_7 {x1 : Int32} {x2 : Int32} {I : xI} {J : xJ} : SG (Sum.elim (fun o => o.2.2.1) (Sum.elim (fun o => o.2.2.1) (fun o => o.2.1))) I (b_X6_refresh_7 x1 x2 I J) := by
  unfold b_X6_refresh_7; exact (sg_ite (sg_map (sg_at sx_rf (s_f_X6_refresh_10))) (sg_at sx_rf (s_f_X6_refresh_8)))
theorem s_f_X6_refresh_7 {x1 : Int32} {x2 : Int32} {I : xI} {J : xJ} : SG (Sum.elim (fun o => o.2.2.1) (fun o => o.2.1)) I (f_X6_refresh_7 x1 x2 I J) := by
  unfold f_X6_refresh_7; exact (sg_loop (gs := (fun o => o.2.2.1)) (fun s => s_b_X6_refresh_7) sx_rf)
theorem s_f_X6_refresh_6 {x1 : Int32} {z2 : Option Value} {I : xI} {J : xJ} : SG (Sum.elim (fun o => o.2.2.1) (fun o => o.2.1)) I (f_X6_refresh_6 x1 z2 I J) := by
  unfold f_X6_refresh_6; exact (sg_at sx_rf (s_f_X6_refresh_7))
theorem s_b_X6_refresh_5 {x1 : Int32} {z2 : Option Value} {I : xI} {J : xJ} : SG (Sum.elim (fun o => o.2.2.1) (fun o => o.2.1)) I (b_X6_refresh_5 x1 z2 I J) := by
  unfold b_X6_refresh_5; exact (sg_ite (sg_map (sg_at sx_rf (s_f_X6_refresh_11))) (sg_at sx_rf (s_f_X6_refresh_6)))
theorem s_f_X6_refresh_5 {x1 : Int32} {z2 : Option Value} {I : xI} {J : xJ} : SG (fun o => o.2.1) I (f_X6_refresh_5 x1 z2 I J) := by
  unfold f_X6_refresh_5; exact (sg_loop (gs := (fun o => o.2.2.1)) (fun s => s_b_X6_refresh_5) sx_rf)
theorem s_f_X6_refresh_4 {I : xI} {J : xJ} : SG (fun o => o.2.1) I (f_X6_refresh_4 I J) := by
  unfold f_X6_refresh_4; exact (sg_at sx_rf (s_f_X6_refresh_5))
theorem s_f_X6_refresh_3 {I : xI} {J : xJ} : SG (fun o => o.2.1) I (f_X6_refresh_3 I J) := by
  unfold f_X6_refresh_3; exact (sg_bind (sg_at sx_rf (s_f_J7_fill_53178_34)) (fun o ho => (sg_at ho (s_f_X6_refresh_4))))
theorem s_f_X6_refresh_2 {I : xI} {J : xJ} : SG (fun o => o.2.1) I (f_X6_refresh_2 I J) := by
  unfold f_X6_refresh_2; exact (sg_bind (sg_at (sx_up (sx_age sx_rf (by decide)) rfl) (s_f_J7_fill_53178_33)) (fun o ho => (sg_at ho (s_f_X6_refresh_3))))
theorem s_f_X6_refresh_0 {I : xI} {J : xJ} : SG (fun o => o.2.1) I (f_X6_refresh_0 I J) := by
  unfold f_X6_refresh_0; exact (sg_ite (sg_at sx_rf (s_f_X6_refresh_1)) (sg_at sx_rf (s_f_X6_refresh_2)))
theorem s_f_X6_refresh {I : xI} {J : xJ} : SG (fun o => o.2.1) I (f_X6_refresh I J) := by
  unfold f_X6_refresh; exact (sg_at sx_rf (s_f_X6_refresh_0))
theorem s_f_X11_pairsNow_1 {I : xI} {J : xJ} : SG (fun o => o.2.1) I (f_X11_pairsNow_1 I J) := by
  unfold f_X11_pairsNow_1; exact (sg_some sx_rf)
theorem s_f_X11_pairsNow_0 {I : xI} {J : xJ} : SG (fun o => o.2.1) I (f_X11_pairsNow_0 I J) := by
  unfold f_X11_pairsNow_0; exact (sg_bind (sg_at sx_rf (s_f_X6_refresh)) (fun o ho => (sg_at ho (s_f_X11_pairsNow_1))))
theorem s_f_X11_pairsNow {I : xI} {J : xJ} : SG (fun o => o.2.1) I (f_X11_pairsNow I J) := by
  unfold f_X11_pairsNow; exact (sg_at sx_rf (s_f_X11_pairsNow_0))
theorem s_f_X6_roundIn_4 {x1 : Int32} {s0 : Int32} {I : xI} {J : xJ} : SG (fun o => o.2.1) I (f_X6_roundIn_4 x1 s0 I J) := by
  unfold f_X6_roundIn_4; exact (sg_some sx_rf)
theorem s_f_X6_roundIn_1 {x1 : Int32} {I : xI} {J : xJ} : SG (fun o => o.2.1) I (f_X6_roundIn_1 x1 I J) := by
  unfold f_X6_roundIn_1; exact (sg_at sx_rf (s_f_X6_roundIn_4))
theorem s_f_X6_roundIn_3 {x1 : Int32} {s1 : Int32} {I : xI} {J : xJ} : SG (fun o => o.2.1) I (f_X6_roundIn_3 x1 s1 I J) := by
  unfold f_X6_roundIn_3; exact (sg_ite sg_none (sg_at sx_rf (s_f_X6_roundIn_4)))
theorem s_f_X6_roundIn_2 {x1 : Int32} {I : xI} {J : xJ} : SG (fun o => o.2.1) I (f_X6_roundIn_2 x1 I J) := by
  unfold f_X6_roundIn_2; exact (sg_bind (sg_at sx_rf (s_f_J6_numberOfTrailingZeros_0f7a4)) (fun o ho => (sg_at ho (s_f_X6_roundIn_3))))
theorem s_f_X6_roundIn_0 {x1 : Int32} {I : xI} {J : xJ} : SG (fun o => o.2.1) I (f_X6_roundIn_0 x1 I J) := by
  unfold f_X6_roundIn_0; exact (sg_ite (sg_at sx_rf (s_f_X6_roundIn_1)) (sg_at sx_rf (s_f_X6_roundIn_2)))
theorem s_f_X6_roundIn {x1 : Int32} {I : xI} {J : xJ} : SG (fun o => o.2.1) I (f_X6_roundIn x1 I J) := by
  unfold f_X6_roundIn; exact (sg_at sx_rf (s_f_X6_roundIn_0))
theorem s_f_X6_roundOf_2 {x1 : Int32} {x2 : Int32} {s0 : Int32} {I : xI} {J : xJ} : SG (fun o => o.2.1) I (f_X6_roundOf_2 x1 x2 s0 I J) := by
  unfold f_X6_roundOf_2; exact (sg_some sx_rf)
theorem s_f_X6_roundOf_1 {x1 : Int32} {x2 : Int32} {s1 : Int32} {I : xI} {J : xJ} : SG (fun o => o.2.1) I (f_X6_roundOf_1 x1 x2 s1 I J) := by
  unfold f_X6_roundOf_1; exact (sg_bind (sg_at sx_rf (s_f_X6_roundIn)) (fun o ho => (sg_at ho (s_f_X6_roundOf_2))))
theorem s_f_X6_roundOf_0 {x1 : Int32} {x2 : Int32} {I : xI} {J : xJ} : SG (fun o => o.2.1) I (f_X6_roundOf_0 x1 x2 I J) := by
  unfold f_X6_roundOf_0; exact (sg_bind (sg_at sx_rf (s_f_X11_pairOf)) (fun o ho => (sg_at ho (s_f_X6_roundOf_1))))
theorem s_f_X6_roundOf {x1 : Int32} {x2 : Int32} {I : xI} {J : xJ} : SG (fun o => o.2.1) I (f_X6_roundOf x1 x2 I J) := by
  unfold f_X6_roundOf; exact (sg_at sx_rf (s_f_X6_roundOf_0))
theorem s_f_X11_apart_10 {x1 : Int32} {x2 : Int32} {x3 : Int32} {x4 : Int32} {I : xI} {J : xJ} : SG (fun o => o.2.1) I (f_X11_apart_10 x1 x2 x3 x4 I J) := by
  unfold f_X11_apart_10; exact (sg_some sx_rf)
theorem s_f_X11_apart_14 {x1 : Int32} {x2 : Int32} {x3 : Int32} {x4 : Int32} {s0 : Int32} {I : xI} {J : xJ} : SG (fun o => o.2.1) I (f_X11_apart_14 x1 x2 x3 x4 s0 I J) := by
  unfold f_X11_apart_14; exact (sg_some sx_rf)
theorem s_f_X11_apart_12 {x1 : Int32} {x2 : Int32} {x3 : Int32} {x4 : Int32} {I : xI} {J : xJ} : SG (fun o => o.2.1) I (f_X11_apart_12 x1 x2 x3 x4 I J) := by
  unfold f_X11_apart_12; exact (sg_at sx_rf (s_f_X11_apart_14))
theorem s_f_X11_apart_13 {x1 : Int32} {x2 : Int32} {x3 : Int32} {x4 : Int32} {I : xI} {J : xJ} : SG (fun o => o.2.1) I (f_X11_apart_13 x1 x2 x3 x4 I J) := by
  unfold f_X11_apart_13; exact (sg_at sx_rf (s_f_X11_apart_14))
theorem s_f_X11_apart_11 {x1 : Int32} {x2 : Int32} {x3 : Int32} {x4 : Int32} {I : xI} {J : xJ} : SG (fun o => o.2.1) I (f_X11_apart_11 x1 x2 x3 x4 I J) := by
  unfold f_X11_apart_11; exact (sg_ite (sg_at sx_rf (s_f_X11_apart_12)) (sg_at sx_rf (s_f_X11_apart_13)))
theorem s_f_X11_apart_9 {x1 : Int32} {x2 : Int32} {x3 : Int32} {s0 : Int32} {I : xI} {J : xJ} : SG (fun o => o.2.1) I (f_X11_apart_9 x1 x2 x3 s0 I J) := by
  unfold f_X11_apart_9; exact (sg_ite (sg_at sx_rf (s_f_X11_apart_10)) (sg_at sx_rf (s_f_X11_apart_11)))
theorem s_f_X11_apart_8 {x1 : Int32} {x2 : Int32} {x3 : Int32} {I : xI} {J : xJ} : SG (fun o => o.2.1) I (f_X11_apart_8 x1 x2 x3 I J) := by
  unfold f_X11_apart_8; exact (sg_bind (sg_at sx_rf (s_f_X6_roundOf)) (fun o ho => (sg_at ho (s_f_X11_apart_9))))
theorem s_f_X11_apart_7 {x1 : Int32} {x2 : Int32} {x3 : Int32} {I : xI} {J : xJ} : SG (fun o => o.2.1) I (f_X11_apart_7 x1 x2 x3 I J) := by
  unfold f_X11_apart_7; exact (sg_bind (sg_at sx_rf (s_f_X11_pairsNow)) (fun o ho => (sg_at ho (s_f_X11_apart_8))))
theorem s_f_X11_apart_5 {x1 : Int32} {x2 : Int32} {x3 : Int32} {I : xI} {J : xJ} : SG (fun o => o.2.1) I (f_X11_apart_5 x1 x2 x3 I J) := by
  unfold f_X11_apart_5; exact (sg_ite (sg_at sx_rf (s_f_X11_apart_7)) (sg_at sx_rf (s_f_X11_apart_6)))
theorem s_f_X11_apart_4 {x1 : Int32} {x2 : Int32} {x3 : Int32} {I : xI} {J : xJ} : SG (fun o => o.2.1) I (f_X11_apart_4 x1 x2 x3 I J) := by
  unfold f_X11_apart_4; exact (sg_ite (sg_at sx_rf (s_f_X11_apart_6)) (sg_at sx_rf (s_f_X11_apart_5)))
theorem s_f_X11_apart_3 {x1 : Int32} {x2 : Int32} {x3 : Int32} {s0 : Int32} {I : xI} {J : xJ} : SG (fun o => o.2.1) I (f_X11_apart_3 x1 x2 x3 s0 I J) := by
  unfold f_X11_apart_3; exact (sg_ite (sg_at sx_rf (s_f_X11_apart_6)) (sg_at sx_rf (s_f_X11_apart_4)))
theorem s_f_X11_apart_2 {x1 : Int32} {x2 : Int32} {x3 : Int32} {I : xI} {J : xJ} : SG (fun o => o.2.1) I (f_X11_apart_2 x1 x2 x3 I J) := by
  unfold f_X11_apart_2; exact (sg_bind (sg_at sx_rf (s_f_X5_hasState)) (fun o ho => (sg_at ho (s_f_X11_apart_3))))
theorem s_f_X11_apart_1 {x1 : Int32} {x2 : Int32} {x3 : Int32} {s0 : Int32} {I : xI} {J : xJ} : SG (fun o => o.2.1) I (f_X11_apart_1 x1 x2 x3 s0 I J) := by
  unfold f_X11_apart_1; exact (sg_ite (sg_at sx_rf (s_f_X11_apart_6)) (sg_at sx_rf (s_f_X11_apart_2)))
theorem s_f_X11_apart_0 {x1 : Int32} {x2 : Int32} {x3 : Int32} {I : xI} {J : xJ} : SG (fun o => o.2.1) I (f_X11_apart_0 x1 x2 x3 I J) := by
  unfold f_X11_apart_0; exact (sg_bind (sg_at sx_rf (s_f_X5_hasState)) (fun o ho => (sg_at ho (s_f_X11_apart_1))))
theorem s_f_X11_apart {x1 : Int32} {x2 : Int32} {x3 : Int32} {I : xI} {J : xJ} : SG (fun o => o.2.1) I (f_X11_apart x1 x2 x3 I J) := by
  unfold f_X11_apart; exact (sg_at sx_rf (s_f_X11_apart_0))
theorem s_f_X11_word_4 {x1 : Int32} {x2 : Int32} {x3 : Int32} {I : xI} {J : xJ} : SG (fun o => o.2.1) I (f_X11_word_4 x1 x2 x3 I J) := by
  unfold f_X11_word_4; exact (sg_some sx_rf)
theorem s_f_X11_word_8 {x1 : Int32} {x2 : Int32} {x3 : Int32} {x4 : Int32} {I : xI} {J : xJ} : SG (fun o => o.2.1) I (f_X11_word_8 x1 x2 x3 x4 I J) := by
  unfold f_X11_word_8; exact (sg_some sx_rf)
theorem s_f_X11_word_10 {x1 : Int32} {x2 : Int32} {x3 : Int32} {x4 : Int32} {x5 : Int32} {I : xI} {J : xJ} : SG (fun o => o.2.1) I (f_X11_word_10 x1 x2 x3 x4 x5 I J) := by
  unfold f_X11_word_10; exact (sg_some sx_rf)
theorem s_f_X11_word_16 {x1 : Int32} {x2 : Int32} {x3 : Int32} {x4 : Int32} {x5 : Int32} {s0 : Int32} {I : xI} {J : xJ} : SG (fun o => o.2.1) I (f_X11_word_16 x1 x2 x3 x4 x5 s0 I J) := by
  unfold f_X11_word_16; exact (sg_some sx_rf)
theorem s_f_X11_word_15 {x1 : Int32} {x2 : Int32} {x3 : Int32} {x4 : Int32} {x5 : Int32} {I : xI} {J : xJ} : SG (fun o => o.2.1) I (f_X11_word_15 x1 x2 x3 x4 x5 I J) := by
  unfold f_X11_word_15; exact (sg_at sx_rf (s_f_X11_word_16))
theorem s_f_X6_firstInput_4 {x1 : Int32} {x2 : Int32} {I : xI} {J : xJ} : SG (fun o => o.2.1) I (f_X6_firstInput_4 x1 x2 I J) := by
  unfold f_X6_firstInput_4; exact (sg_some sx_rf)
theorem s_f_X6_firstInput_19 {x1 : Int32} {x2 : Int32} {x3 : Int32} {x4 : Int32} {z5 : Option Value} {I : xI} {J : xJ} : SG (fun o => o.2.1) I (f_X6_firstInput_19 x1 x2 x3 x4 z5 I J) := by
  unfold f_X6_firstInput_19; exact (sg_some sx_rf)
theorem s_f_X6_firstInput_18 {x1 : Int32} {x2 : Int32} {x3 : Int32} {x4 : Int32} {x5 : Int32} {I : xI} {J : xJ} : SG (Sum.elim (fun o => o.2.2.2.2.2.1) (fun o => o.2.1)) I (f_X6_firstInput_18 x1 x2 x3 x4 x5 I J) := by
  unfold f_X6_firstInput_18; exact (sg_some sx_rf)
theorem s_f_X6_firstInput_17 {x1 : Int32} {x2 : Int32} {x3 : Int32} {x4 : Int32} {x5 : Int32} {I : xI} {J : xJ} : SG (fun o => o.2.1) I (f_X6_firstInput_17 x1 x2 x3 x4 x5 I J) := by
  unfold f_X6_firstInput_17; exact (sg_some sx_rf)
theorem s_f_X6_firstInput_16 {x1 : Int32} {x2 : Int32} {x3 : Int32} {x4 : Int32} {z5 : Option Value} {s0 : Int32} {I : xI} {J : xJ} : SG (Sum.elim (fun o => o.2.2.2.2.2.1) (fun o => o.2.1)) I (f_X6_firstInput_16 x1 x2 x3 x4 z5 s0 I J) := by
  unfold f_X6_firstInput_16; exact (sg_ite (sg_at sx_rf (s_f_X6_firstInput_18)) (sg_map (sg_at sx_rf (s_f_X6_firstInput_17))))
theorem s_f_X6_firstInput_10 {x1 : Int32} {x2 : Int32} {x3 : Int32} {x4 : Int32} {z5 : Option Value} {s0 : Int32} {I : xI} {J : xJ} : SG (Sum.elim (fun o => o.2.2.2.2.2.1) (fun o => o.2.1)) I (f_X6_firstInput_10 x1 x2 x3 x4 z5 s0 I J) := by
  unfold f_X6_firstInput_10; exact (sg_at sx_rf (s_f_X6_firstInput_16))
theorem s_f_X6_firstInput_9 {x1 : Int32} {x2 : Int32} {x3 : Int32} {x4 : Int32} {z5 : Option Value} {I : xI} {J : xJ} : SG (Sum.elim (fun o => o.2.2.2.2.2.1) (fun o => o.2.1)) I (f_X6_firstInput_9 x1 x2 x3 x4 z5 I J) := by
  unfold f_X6_firstInput_9; exact (sg_bind (sg_at sx_rf (s_f_X6_isUnlike)) (fun o ho => (sg_at ho (s_f_X6_firstInput_10))))
theorem s_f_X6_firstInput_14 {x1 : Int32} {x2 : Int32} {x3 : Int32} {x4 : Int32} {z5 : Option Value} {I : xI} {J : xJ} : SG (Sum.elim (fun o => o.2.2.2.2.2.1) (fun o => o.2.1)) I (f_X6_firstInput_14 x1 x2 x3 x4 z5 I J) := by
  unfold f_X6_firstInput_14; exact (sg_at sx_rf (s_f_X6_firstInput_16))
theorem s_f_X6_firstInput_15 {x1 : Int32} {x2 : Int32} {x3 : Int32} {x4 : Int32} {z5 : Option Value} {I : xI} {J : xJ} : SG (Sum.elim (fun o => o.2.2.2.2.2.1) (fun o => o.2.1)) I (f_X6_firstInput_15 x1 x2 x3 x4 z5 I J) := by
  unfold f_X6_firstInput_15; exact (sg_at sx_rf (s_f_X6_firstInput_16))
theorem s_f_X6_firstInput_13 {x1 : Int32} {x2 : Int32} {x3 : Int32} {x4 : Int32} {z5 : Option Value} {s0 : Int32} {I : xI} {J : xJ} : SG (Sum.elim (fun o => o.2.2.2.2.2.1) (fun o => o.2.1)) I (f_X6_firstInput_13 x1 x2 x3 x4 z5 s0 I J) := by
  unfold f_X6_firstInput_13; exact (sg_ite (sg_at sx_rf (s_f_X6_firstInput_14)) (sg_at sx_rf (s_f_X6_firstInput_15)))
theorem s_f_X6_firstInput_12 {x1 : Int32} {x2 : Int32} {x3 : Int32} {x4 : Int32} {z5 : Option Value} {s1 : Int32} {I : xI} {J : xJ} : SG (Sum.elim (fun o => o.2.2.2.2.2.1) (fun o => o.2.1)) I (f_X6_firstInput_12 x1 x2 x3 x4 z5 s1 I J) := by
  unfold f_X6_firstInput_12; exact (sg_bind (sg_at sx_rf (s_f_X6_roundIn)) (fun o ho => (sg_at ho (s_f_X6_firstInput_13))))
theorem s_f_X6_firstInput_11 {x1 : Int32} {x2 : Int32} {x3 : Int32} {x4 : Int32} {z5 : Option Value} {I : xI} {J : xJ} : SG (Sum.elim (fun o => o.2.2.2.2.2.1) (fun o => o.2.1)) I (f_X6_firstInput_11 x1 x2 x3 x4 z5 I J) := by
  unfold f_X6_firstInput_11; exact (sg_bind (sg_at sx_rf (s_f_X6_stepOf)) (fun o ho => (sg_at ho (s_f_X6_firstInput_12))))
theorem s_f_X6_firstInput_8 {x1 : Int32} {x2 : Int32} {x3 : Int32} {x4 : Int32} {z5 : Option Value} {I : xI} {J : xJ} : SG (Sum.elim (fun o => o.2.2.2.2.2.1) (fun o => o.2.1)) I (f_X6_firstInput_8 x1 x2 x3 x4 z5 I J) := by
  unfold f_X6_firstInput_8; exact (sg_ite (sg_at sx_rf (s_f_X6_firstInput_9)) (sg_at sx_rf (s_f_X6_firstInput_11)))
theorem s_b_X6_firstInput_7 {x1 : Int32} {x2 : Int32} {x3 : Int32} {x4 : Int32} {z5 : Option Value} {I : xI} {J : xJ} : SG (Sum.elim (fun o => o.2.2.2.2.2.1) (fun o => o.2.1)) I (b_X6_firstInput_7 x1 x2 x3 x4 z5 I J) := by
  unfold b_X6_firstInput_7; exact (sg_ite (sg_map (sg_at sx_rf (s_f_X6_firstInput_19))) (sg_at sx_rf (s_f_X6_firstInput_8)))
theorem s_f_X6_firstInput_7 {x1 : Int32} {x2 : Int32} {x3 : Int32} {x4 : Int32} {z5 : Option Value} {I : xI} {J : xJ} : SG (fun o => o.2.1) I (f_X6_firstInput_7 x1 x2 x3 x4 z5 I J) := by
  unfold f_X6_firstInput_7; exact (sg_loop (gs := (fun o => o.2.2.2.2.2.1)) (fun s => s_b_X6_firstInput_7) sx_rf)
theorem s_f_X6_firstInput_6 {x1 : Int32} {x2 : Int32} {s0 : Int32} {I : xI} {J : xJ} : SG (fun o => o.2.1) I (f_X6_firstInput_6 x1 x2 s0 I J) := by
  unfold f_X6_firstInput_6; exact (sg_at sx_rf (s_f_X6_firstInput_7))
theorem s_f_X6_firstInput_5 {x1 : Int32} {x2 : Int32} {I : xI} {J : xJ} : SG (fun o => o.2.1) I (f_X6_firstInput_5 x1 x2 I J) := by
  unfold f_X6_firstInput_5; exact (sg_bind (sg_at sx_rf (s_f_X6_roundOf)) (fun o ho => (sg_at ho (s_f_X6_firstInput_6))))
theorem s_f_X6_firstInput_3 {x1 : Int32} {x2 : Int32} {s0 : Int32} {I : xI} {J : xJ} : SG (fun o => o.2.1) I (f_X6_firstInput_3 x1 x2 s0 I J) := by
  unfold f_X6_firstInput_3; exact (sg_ite (sg_at sx_rf (s_f_X6_firstInput_4)) (sg_at sx_rf (s_f_X6_firstInput_5)))
theorem s_f_X6_firstInput_2 {x1 : Int32} {x2 : Int32} {I : xI} {J : xJ} : SG (fun o => o.2.1) I (f_X6_firstInput_2 x1 x2 I J) := by
  unfold f_X6_firstInput_2; exact (sg_bind (sg_at sx_rf (s_f_X5_hasState)) (fun o ho => (sg_at ho (s_f_X6_firstInput_3))))
theorem s_f_X6_firstInput_1 {x1 : Int32} {x2 : Int32} {s0 : Int32} {I : xI} {J : xJ} : SG (fun o => o.2.1) I (f_X6_firstInput_1 x1 x2 s0 I J) := by
  unfold f_X6_firstInput_1; exact (sg_ite (sg_at sx_rf (s_f_X6_firstInput_4)) (sg_at sx_rf (s_f_X6_firstInput_2)))
theorem s_f_X6_firstInput_0 {x1 : Int32} {x2 : Int32} {I : xI} {J : xJ} : SG (fun o => o.2.1) I (f_X6_firstInput_0 x1 x2 I J) := by
  unfold f_X6_firstInput_0; exact (sg_bind (sg_at sx_rf (s_f_X5_hasState)) (fun o ho => (sg_at ho (s_f_X6_firstInput_1))))
theorem s_f_X6_firstInput {x1 : Int32} {x2 : Int32} {I : xI} {J : xJ} : SG (fun o => o.2.1) I (f_X6_firstInput x1 x2 I J) := by
  unfold f_X6_firstInput; exact (sg_at sx_rf (s_f_X6_firstInput_0))
theorem s_f_X6_wordInput_7 {x1 : Int32} {x2 : Int32} {x3 : Int32} {x4 : Int32} {x5 : Int32} {x6 : Int32} {x7 : Int32} {I : xI} {J : xJ} : SG (fun o => o.2.1) I (f_X6_wordInput_7 x1 x2 x3 x4 x5 x6 x7 I J) := by
  unfold f_X6_wordInput_7; exact (sg_some sx_rf)
theorem s_f_X6_wordInput_6 {x1 : Int32} {x2 : Int32} {x3 : Int32} {x4 : Int32} {x5 : Int32} {x6 : Int32} {x7 : Int32} {s0 : Int32} {I : xI} {J : xJ} : SG (Sum.elim (fun o => o.2.2.2.2.2.2.2.1) (fun o => o.2.1)) I (f_X6_wordInput_6 x1 x2 x3 x4 x5 x6 x7 s0 I J) := by
  unfold f_X6_wordInput_6; exact (sg_some sx_rf)
theorem s_f_X6_wordInput_5 {x1 : Int32} {x2 : Int32} {x3 : Int32} {x4 : Int32} {x5 : Int32} {x6 : Int32} {x7 : Int32} {s0 : Int32} {I : xI} {J : xJ} : SG (Sum.elim (fun o => o.2.2.2.2.2.2.2.1) (fun o => o.2.1)) I (f_X6_wordInput_5 x1 x2 x3 x4 x5 x6 x7 s0 I J) := by
  unfold f_X6_wordInput_5; exact (sg_bind (sg_at sx_rf (s_f_X6_firstInput)) (fun o ho => (sg_at ho (s_f_X6_wordInput_6))))
theorem s_f_X6_wordInput_4 {x1 : Int32} {x2 : Int32} {x3 : Int32} {x4 : Int32} {x5 : Int32} {x6 : Int32} {x7 : Int32} {s0 : Int32} {I : xI} {J : xJ} : SG (Sum.elim (fun o => o.2.2.2.2.2.2.2.1) (fun o => o.2.1)) I (f_X6_wordInput_4 x1 x2 x3 x4 x5 x6 x7 s0 I J) := by
  unfold f_X6_wordInput_4; exact (sg_bind (sg_at sx_rf (s_f_X5_targetOf)) (fun o ho => (sg_at ho (s_f_X6_wordInput_5))))
theorem s_f_X6_wordInput_3 {x1 : Int32} {x2 : Int32} {x3 : Int32} {x4 : Int32} {x5 : Int32} {x6 : Int32} {x7 : Int32} {I : xI} {J : xJ} : SG (Sum.elim (fun o => o.2.2.2.2.2.2.2.1) (fun o => o.2.1)) I (f_X6_wordInput_3 x1 x2 x3 x4 x5 x6 x7 I J) := by
  unfold f_X6_wordInput_3; exact (sg_bind (sg_at sx_rf (s_f_X5_targetOf)) (fun o ho => (sg_at ho (s_f_X6_wordInput_4))))
theorem s_b_X6_wordInput_2 {x1 : Int32} {x2 : Int32} {x3 : Int32} {x4 : Int32} {x5 : Int32} {x6 : Int32} {x7 : Int32} {I : xI} {J : xJ} : SG (Sum.elim (fun o => o.2.2.2.2.2.2.2.1) (fun o => o.2.1)) I (b_X6_wordInput_2 x1 x2 x3 x4 x5 x6 x7 I J) := by
  unfold b_X6_wordInput_2; exact (sg_ite (sg_map (sg_at sx_rf (s_f_X6_wordInput_7))) (sg_at sx_rf (s_f_X6_wordInput_3)))
theorem s_f_X6_wordInput_2 {x1 : Int32} {x2 : Int32} {x3 : Int32} {x4 : Int32} {x5 : Int32} {x6 : Int32} {x7 : Int32} {I : xI} {J : xJ} : SG (fun o => o.2.1) I (f_X6_wordInput_2 x1 x2 x3 x4 x5 x6 x7 I J) := by
  unfold f_X6_wordInput_2; exact (sg_loop (gs := (fun o => o.2.2.2.2.2.2.2.1)) (fun s => s_b_X6_wordInput_2) sx_rf)
theorem s_f_X6_wordInput_1 {x1 : Int32} {x2 : Int32} {x3 : Int32} {x4 : Int32} {x5 : Int32} {s0 : Int32} {I : xI} {J : xJ} : SG (fun o => o.2.1) I (f_X6_wordInput_1 x1 x2 x3 x4 x5 s0 I J) := by
  unfold f_X6_wordInput_1; exact (sg_at sx_rf (s_f_X6_wordInput_2))
theorem s_f_X6_wordInput_0 {x1 : Int32} {x2 : Int32} {x3 : Int32} {I : xI} {J : xJ} : SG (fun o => o.2.1) I (f_X6_wordInput_0 x1 x2 x3 I J) := by
  unfold f_X6_wordInput_0; exact (sg_bind (sg_at sx_rf (s_f_X6_firstInput)) (fun o ho => (sg_at ho (s_f_X6_wordInput_1))))
theorem s_f_X6_wordInput {x1 : Int32} {x2 : Int32} {x3 : Int32} {I : xI} {J : xJ} : SG (fun o => o.2.1) I (f_X6_wordInput x1 x2 x3 I J) := by
  unfold f_X6_wordInput; exact (sg_at sx_rf (s_f_X6_wordInput_0))
theorem s_f_X11_word_14 {x1 : Int32} {x2 : Int32} {x3 : Int32} {x4 : Int32} {x5 : Int32} {s0 : Int32} {I : xI} {J : xJ} : SG (fun o => o.2.1) I (f_X11_word_14 x1 x2 x3 x4 x5 s0 I J) := by
  unfold f_X11_word_14; exact (sg_at sx_rf (s_f_X11_word_16))
theorem s_f_X11_word_13 {x1 : Int32} {x2 : Int32} {x3 : Int32} {x4 : Int32} {x5 : Int32} {I : xI} {J : xJ} : SG (fun o => o.2.1) I (f_X11_word_13 x1 x2 x3 x4 x5 I J) := by
  unfold f_X11_word_13; exact (sg_bind (sg_at sx_rf (s_f_X6_wordInput)) (fun o ho => (sg_at ho (s_f_X11_word_14))))
theorem s_f_X11_word_12 {x1 : Int32} {x2 : Int32} {x3 : Int32} {x4 : Int32} {x5 : Int32} {I : xI} {J : xJ} : SG (fun o => o.2.1) I (f_X11_word_12 x1 x2 x3 x4 x5 I J) := by
  unfold f_X11_word_12; exact (sg_ite (sg_at sx_rf (s_f_X11_word_15)) (sg_at sx_rf (s_f_X11_word_13)))
theorem s_f_X11_word_11 {x1 : Int32} {x2 : Int32} {x3 : Int32} {x4 : Int32} {x5 : Int32} {I : xI} {J : xJ} : SG (fun o => o.2.1) I (f_X11_word_11 x1 x2 x3 x4 x5 I J) := by
  unfold f_X11_word_11; exact (sg_ite (sg_at sx_rf (s_f_X11_word_15)) (sg_at sx_rf (s_f_X11_word_12)))
theorem s_f_X11_word_9 {x1 : Int32} {x2 : Int32} {x3 : Int32} {x4 : Int32} {I : xI} {J : xJ} : SG (fun o => o.2.1) I (f_X11_word_9 x1 x2 x3 x4 I J) := by
  unfold f_X11_word_9; exact (sg_ite (sg_at sx_rf (s_f_X11_word_10)) (sg_at sx_rf (s_f_X11_word_11)))
theorem s_f_X11_word_7 {x1 : Int32} {x2 : Int32} {x3 : Int32} {s0 : Int32} {I : xI} {J : xJ} : SG (fun o => o.2.1) I (f_X11_word_7 x1 x2 x3 s0 I J) := by
  unfold f_X11_word_7; exact (sg_ite (sg_at sx_rf (s_f_X11_word_8)) (sg_at sx_rf (s_f_X11_word_9)))
theorem s_f_X11_word_6 {x1 : Int32} {x2 : Int32} {x3 : Int32} {I : xI} {J : xJ} : SG (fun o => o.2.1) I (f_X11_word_6 x1 x2 x3 I J) := by
  unfold f_X11_word_6; exact (sg_bind (sg_at sx_rf (s_f_X6_roundOf)) (fun o ho => (sg_at ho (s_f_X11_word_7))))
theorem s_f_X11_word_5 {x1 : Int32} {x2 : Int32} {x3 : Int32} {I : xI} {J : xJ} : SG (fun o => o.2.1) I (f_X11_word_5 x1 x2 x3 I J) := by
  unfold f_X11_word_5; exact (sg_bind (sg_at sx_rf (s_f_X11_pairsNow)) (fun o ho => (sg_at ho (s_f_X11_word_6))))
theorem s_f_X11_word_3 {x1 : Int32} {x2 : Int32} {x3 : Int32} {s0 : Int32} {I : xI} {J : xJ} : SG (fun o => o.2.1) I (f_X11_word_3 x1 x2 x3 s0 I J) := by
  unfold f_X11_word_3; exact (sg_ite (sg_at sx_rf (s_f_X11_word_4)) (sg_at sx_rf (s_f_X11_word_5)))
theorem s_f_X11_word_2 {x1 : Int32} {x2 : Int32} {x3 : Int32} {I : xI} {J : xJ} : SG (fun o => o.2.1) I (f_X11_word_2 x1 x2 x3 I J) := by
  unfold f_X11_word_2; exact (sg_bind (sg_at sx_rf (s_f_X5_hasState)) (fun o ho => (sg_at ho (s_f_X11_word_3))))
theorem s_f_X11_word_1 {x1 : Int32} {x2 : Int32} {x3 : Int32} {s0 : Int32} {I : xI} {J : xJ} : SG (fun o => o.2.1) I (f_X11_word_1 x1 x2 x3 s0 I J) := by
  unfold f_X11_word_1; exact (sg_ite (sg_at sx_rf (s_f_X11_word_4)) (sg_at sx_rf (s_f_X11_word_2)))
theorem s_f_X11_word_0 {x1 : Int32} {x2 : Int32} {x3 : Int32} {I : xI} {J : xJ} : SG (fun o => o.2.1) I (f_X11_word_0 x1 x2 x3 I J) := by
  unfold f_X11_word_0; exact (sg_bind (sg_at sx_rf (s_f_X5_hasState)) (fun o ho => (sg_at ho (s_f_X11_word_1))))
theorem s_f_X11_word {x1 : Int32} {x2 : Int32} {x3 : Int32} {I : xI} {J : xJ} : SG (fun o => o.2.1) I (f_X11_word x1 x2 x3 I J) := by
  unfold f_X11_word; exact (sg_at sx_rf (s_f_X11_word_0))
theorem s_f_X6_lengthShown_9 {z1 : Option Value} {I : xI} {J : xJ} : SG (fun o => o.2.1) I (f_X6_lengthShown_9 z1 I J) := by
  unfold f_X6_lengthShown_9; exact (sg_some sx_rf)
theorem s_f_X6_startStand_3 {x0 : Int32} {x1 : Int32} {I : xI} {J : xJ} : SG (fun o => o.2.1) I (f_X6_startStand_3 x0 x1 I J) := by
  unfold f_X6_startStand_3; exact (sg_some sx_rf)
theorem s_f_X6_startStand_2 {x0 : Int32} {x1 : Int32} {I : xI} {J : xJ} : SG (Sum.elim (fun o => o.2.2.1) (fun o => o.2.1)) I (f_X6_startStand_2 x0 x1 I J) := by
  unfold f_X6_startStand_2; exact (sg_some sx_rf)
theorem s_b_X6_startStand_1 {x0 : Int32} {x1 : Int32} {I : xI} {J : xJ} : SG (Sum.elim (fun o => o.2.2.1) (fun o => o.2.1)) I (b_X6_startStand_1 x0 x1 I J) := by
  unfold b_X6_startStand_1; exact (sg_ite (sg_map (sg_at sx_rf (s_f_X6_startStand_3))) (sg_at sx_rf (s_f_X6_startStand_2)))
theorem s_f_X6_startStand_1 {x0 : Int32} {x1 : Int32} {I : xI} {J : xJ} : SG (fun o => o.2.1) I (f_X6_startStand_1 x0 x1 I J) := by
  unfold f_X6_startStand_1; exact (sg_loop (gs := (fun o => o.2.2.1)) (fun s => s_b_X6_startStand_1) sx_rf)
theorem s_f_X6_startStand_0 {I : xI} {J : xJ} : SG (fun o => o.2.1) I (f_X6_startStand_0 I J) := by
  unfold f_X6_startStand_0; exact (sg_at sx_rf (s_f_X6_startStand_1))
theorem s_f_X6_startStand {I : xI} {J : xJ} : SG (fun o => o.2.1) I (f_X6_startStand I J) := by
  unfold f_X6_startStand; exact (sg_at sx_rf (s_f_X6_startStand_0))
theorem s_f_X6_canTell_12 {x1 : Int32} {x2 : Int32} {x3 : Int32} {x4 : Int32} {z5 : Option Value} {z6 : Option Value} {I : xI} {J : xJ} : SG (fun o => o.2.1) I (f_X6_canTell_12 x1 x2 x3 x4 z5 z6 I J) := by
  unfold f_X6_canTell_12; exact (sg_some sx_rf)
theorem s_f_X6_canTell_11 {x1 : Int32} {x2 : Int32} {x3 : Int32} {x4 : Int32} {x5 : Int32} {z6 : Option Value} {I : xI} {J : xJ} : SG (Sum.elim (fun o => o.2.2.2.2.2.2.1) (fun o => o.2.1)) I (f_X6_canTell_11 x1 x2 x3 x4 x5 z6 I J) := by
  unfold f_X6_canTell_11; exact (sg_some sx_rf)
theorem s_f_X6_canTell_10 {x1 : Int32} {x2 : Int32} {x3 : Int32} {x4 : Int32} {x5 : Int32} {z6 : Option Value} {I : xI} {J : xJ} : SG (Sum.elim (fun o => o.2.2.2.2.2.2.1) (Sum.elim (fun o => o.2.2.2.2.2.2.1) (fun o => o.2.1))) I (f_X6_canTell_10 x1 x2 x3 x4 x5 z6 I J) := by
  unfold f_X6_canTell_10; exact (sg_some sx_rf)
theorem s_f_X6_roundBetween_5 {x1 : Int32} {x2 : Int32} {s0 : Int32} {I : xI} {J : xJ} : SG (fun o => o.2.1) I (f_X6_roundBetween_5 x1 x2 s0 I J) := by
  unfold f_X6_roundBetween_5; exact (sg_some sx_rf)
theorem s_f_X6_roundBetween_2 {x1 : Int32} {x2 : Int32} {I : xI} {J : xJ} : SG (fun o => o.2.1) I (f_X6_roundBetween_2 x1 x2 I J) := by
  unfold f_X6_roundBetween_2; exact (sg_at sx_rf (s_f_X6_roundBetween_5))
theorem s_f_X6_roundBetween_4 {x1 : Int32} {x2 : Int32} {s1 : Int32} {I : xI} {J : xJ} : SG (fun o => o.2.1) I (f_X6_roundBetween_4 x1 x2 s1 I J) := by
  unfold f_X6_roundBetween_4; exact (sg_bind (sg_at sx_rf (s_f_X6_roundIn)) (fun o ho => (sg_at ho (s_f_X6_roundBetween_5))))
theorem s_f_X6_roundBetween_3 {x1 : Int32} {x2 : Int32} {I : xI} {J : xJ} : SG (fun o => o.2.1) I (f_X6_roundBetween_3 x1 x2 I J) := by
  unfold f_X6_roundBetween_3; exact (sg_bind (sg_at sx_rf (s_f_X11_pairOf)) (fun o ho => (sg_at ho (s_f_X6_roundBetween_4))))
theorem s_f_X6_roundBetween_1 {x1 : Int32} {x2 : Int32} {I : xI} {J : xJ} : SG (fun o => o.2.1) I (f_X6_roundBetween_1 x1 x2 I J) := by
  unfold f_X6_roundBetween_1; exact (sg_ite (sg_at sx_rf (s_f_X6_roundBetween_2)) (sg_at sx_rf (s_f_X6_roundBetween_3)))
theorem s_f_X6_roundBetween_0 {x1 : Int32} {x2 : Int32} {I : xI} {J : xJ} : SG (fun o => o.2.1) I (f_X6_roundBetween_0 x1 x2 I J) := by
  unfold f_X6_roundBetween_0; exact (sg_ite (sg_at sx_rf (s_f_X6_roundBetween_2)) (sg_at sx_rf (s_f_X6_roundBetween_1)))
theorem s_f_X6_roundBetween {x1 : Int32} {x2 : Int32} {I : xI} {J : xJ} : SG (fun o => o.2.1) I (f_X6_roundBetween x1 x2 I J) := by
  unfold f_X6_roundBetween; exact (sg_at sx_rf (s_f_X6_roundBetween_0))
theorem s_f_X6_canTell_9 {x1 : Int32} {x2 : Int32} {x3 : Int32} {x4 : Int32} {x5 : Int32} {x6 : Int32} {I : xI} {J : xJ} : SG (fun o => o.2.1) I (f_X6_canTell_9 x1 x2 x3 x4 x5 x6 I J) := by
  unfold f_X6_canTell_9; exact (sg_some sx_rf)
theorem s_f_X6_canTell_8 {x1 : Int32} {x2 : Int32} {x3 : Int32} {x4 : Int32} {x5 : Int32} {x6 : Int32} {I : xI} {J : xJ} : SG (Sum.elim (fun o => o.2.2.2.2.2.2.1) (Sum.elim (fun o => o.2.2.2.2.2.2.1) (fun o => o.2.1))) I (f_X6_canTell_8 x1 x2 x3 x4 x5 x6 I J) := by
  unfold f_X6_canTell_8; exact (sg_ite (sg_at sx_rf (s_f_X6_canTell_10)) (sg_map (sg_map (sg_at sx_rf (s_f_X6_canTell_9)))))
theorem s_f_X6_canTell_7 {x1 : Int32} {x2 : Int32} {x3 : Int32} {x4 : Int32} {x5 : Int32} {z6 : Option Value} {s0 : Int32} {I : xI} {J : xJ} : SG (Sum.elim (fun o => o.2.2.2.2.2.2.1) (Sum.elim (fun o => o.2.2.2.2.2.2.1) (fun o => o.2.1))) I (f_X6_canTell_7 x1 x2 x3 x4 x5 z6 s0 I J) := by
  unfold f_X6_canTell_7; exact (sg_ite (sg_map (sg_map (sg_at sx_rf (s_f_X6_canTell_9)))) (sg_at sx_rf (s_f_X6_canTell_8)))
theorem s_f_X6_canTell_6 {x1 : Int32} {x2 : Int32} {x3 : Int32} {x4 : Int32} {x5 : Int32} {z6 : Option Value} {I : xI} {J : xJ} : SG (Sum.elim (fun o => o.2.2.2.2.2.2.1) (Sum.elim (fun o => o.2.2.2.2.2.2.1) (fun o => o.2.1))) I (f_X6_canTell_6 x1 x2 x3 x4 x5 z6 I J) := by
  unfold f_X6_canTell_6; exact (sg_bind (sg_at sx_rf (s_f_X6_roundBetween)) (fun o ho => (sg_at ho (s_f_X6_canTell_7))))
theorem s_f_X6_canTell_5 {x1 : Int32} {x2 : Int32} {x3 : Int32} {x4 : Int32} {x5 : Int32} {z6 : Option Value} {s0 : Int32} {s1 : Int32} {I : xI} {J : xJ} : SG (Sum.elim (fun o => o.2.2.2.2.2.2.1) (Sum.elim (fun o => o.2.2.2.2.2.2.1) (fun o => o.2.1))) I (f_X6_canTell_5 x1 x2 x3 x4 x5 z6 s0 s1 I J) := by
  unfold f_X6_canTell_5; exact (sg_ite (sg_at sx_rf (s_f_X6_canTell_10)) (sg_at sx_rf (s_f_X6_canTell_6)))
theorem s_f_X6_canTell_4 {x1 : Int32} {x2 : Int32} {x3 : Int32} {x4 : Int32} {x5 : Int32} {z6 : Option Value} {I : xI} {J : xJ} : SG (Sum.elim (fun o => o.2.2.2.2.2.2.1) (Sum.elim (fun o => o.2.2.2.2.2.2.1) (fun o => o.2.1))) I (f_X6_canTell_4 x1 x2 x3 x4 x5 z6 I J) := by
  unfold f_X6_canTell_4; exact (sg_bind (sg_at sx_rf (s_f_X11_pairOf)) (fun o ho => (sg_at ho (s_f_X6_canTell_5))))
theorem s_b_X6_canTell_3 {x1 : Int32} {x2 : Int32} {x3 : Int32} {x4 : Int32} {x5 : Int32} {z6 : Option Value} {I : xI} {J : xJ} : SG (Sum.elim (fun o => o.2.2.2.2.2.2.1) (Sum.elim (fun o => o.2.2.2.2.2.2.1) (fun o => o.2.1))) I (b_X6_canTell_3 x1 x2 x3 x4 x5 z6 I J) := by
  unfold b_X6_canTell_3; exact (sg_ite (sg_map (sg_at sx_rf (s_f_X6_canTell_11))) (sg_at sx_rf (s_f_X6_canTell_4)))
theorem s_f_X6_canTell_3 {x1 : Int32} {x2 : Int32} {x3 : Int32} {x4 : Int32} {x5 : Int32} {z6 : Option Value} {I : xI} {J : xJ} : SG (Sum.elim (fun o => o.2.2.2.2.2.2.1) (fun o => o.2.1)) I (f_X6_canTell_3 x1 x2 x3 x4 x5 z6 I J) := by
  unfold f_X6_canTell_3; exact (sg_loop (gs := (fun o => o.2.2.2.2.2.2.1)) (fun s => s_b_X6_canTell_3) sx_rf)
theorem s_f_X6_canTell_2 {x1 : Int32} {x2 : Int32} {x3 : Int32} {x4 : Int32} {z5 : Option Value} {z6 : Option Value} {I : xI} {J : xJ} : SG (Sum.elim (fun o => o.2.2.2.2.2.2.1) (fun o => o.2.1)) I (f_X6_canTell_2 x1 x2 x3 x4 z5 z6 I J) := by
  unfold f_X6_canTell_2; exact (sg_at sx_rf (s_f_X6_canTell_3))
theorem s_b_X6_canTell_1 {x1 : Int32} {x2 : Int32} {x3 : Int32} {x4 : Int32} {z5 : Option Value} {z6 : Option Value} {I : xI} {J : xJ} : SG (Sum.elim (fun o => o.2.2.2.2.2.2.1) (fun o => o.2.1)) I (b_X6_canTell_1 x1 x2 x3 x4 z5 z6 I J) := by
  unfold b_X6_canTell_1; exact (sg_ite (sg_map (sg_at sx_rf (s_f_X6_canTell_12))) (sg_at sx_rf (s_f_X6_canTell_2)))
theorem s_f_X6_canTell_1 {x1 : Int32} {x2 : Int32} {x3 : Int32} {x4 : Int32} {z5 : Option Value} {z6 : Option Value} {I : xI} {J : xJ} : SG (fun o => o.2.1) I (f_X6_canTell_1 x1 x2 x3 x4 z5 z6 I J) := by
  unfold f_X6_canTell_1; exact (sg_loop (gs := (fun o => o.2.2.2.2.2.2.1)) (fun s => s_b_X6_canTell_1) sx_rf)
theorem s_f_X6_canTell_0 {x1 : Int32} {x2 : Int32} {x3 : Int32} {I : xI} {J : xJ} : SG (fun o => o.2.1) I (f_X6_canTell_0 x1 x2 x3 I J) := by
  unfold f_X6_canTell_0; exact (sg_at sx_rf (s_f_X6_canTell_1))
theorem s_f_X6_canTell {x1 : Int32} {x2 : Int32} {x3 : Int32} {I : xI} {J : xJ} : SG (fun o => o.2.1) I (f_X6_canTell x1 x2 x3 I J) := by
  unfold f_X6_canTell; exact (sg_at sx_rf (s_f_X6_canTell_0))
theorem s_f_X6_seek_2 {self : Int32 → Int32 → Int32 → Int32 → xI → xJ → Option (Int32 × xI × xJ)} {x1 : Int32} {x2 : Int32} {x3 : Int32} {x4 : Int32} {I : xI} {J : xJ} (hs : ∀ (a0 a1 a2 a3 : Int32) (I : xI) (J : xJ), SG (fun o => o.2.1) I (self a0 a1 a2 a3 I J)) : SG (fun o => o.2.1) I (f_X6_seek_2 self x1 x2 x3 x4 I J) := by
  unfold f_X6_seek_2; exact (sg_some sx_rf)
theorem s_f_X6_seek_13 {self : Int32 → Int32 → Int32 → Int32 → xI → xJ → Option (Int32 × xI × xJ)} {x1 : Int32} {x2 : Int32} {x3 : Int32} {x4 : Int32} {x5 : Int32} {I : xI} {J : xJ} (hs : ∀ (a0 a1 a2 a3 : Int32) (I : xI) (J : xJ), SG (fun o => o.2.1) I (self a0 a1 a2 a3 I J)) : SG (fun o => o.2.1) I (f_X6_seek_13 self x1 x2 x3 x4 x5 I J) := by
  unfold f_X6_seek_13; exact (sg_some sx_rf)
theorem s_f_X6_standBehind_7 {x1 : Int32} {x2 : Int32} {x3 : Int32} {x4 : Int32} {z5 : Option Value} {I : xI} {J : xJ} : SG (fun o => o.2.1) I (f_X6_standBehind_7 x1 x2 x3 x4 z5 I J) := by
  unfold f_X6_standBehind_7; exact (sg_some sx_rf)
theorem s_f_X6_standBehind_6 {x1 : Int32} {x2 : Int32} {x3 : Int32} {x4 : Int32} {x5 : Int32} {s0 : Int32} {s1 : Int32} {I : xI} {J : xJ} : SG (Sum.elim (fun o => o.2.2.2.2.2.1) (fun o => o.2.1)) I (f_X6_standBehind_6 x1 x2 x3 x4 x5 s0 s1 I J) := by
  unfold f_X6_standBehind_6; exact (sg_some sx_rf)
theorem s_f_X6_standBehind_5 {x1 : Int32} {x2 : Int32} {x3 : Int32} {x4 : Int32} {x5 : Int32} {s0 : Int32} {I : xI} {J : xJ} : SG (Sum.elim (fun o => o.2.2.2.2.2.1) (fun o => o.2.1)) I (f_X6_standBehind_5 x1 x2 x3 x4 x5 s0 I J) := by
  unfold f_X6_standBehind_5; exact (sg_at sx_rf (s_f_X6_standBehind_6))
theorem s_f_X6_standBehind_4 {x1 : Int32} {x2 : Int32} {x3 : Int32} {x4 : Int32} {x5 : Int32} {s0 : Int32} {I : xI} {J : xJ} : SG (Sum.elim (fun o => o.2.2.2.2.2.1) (fun o => o.2.1)) I (f_X6_standBehind_4 x1 x2 x3 x4 x5 s0 I J) := by
  unfold f_X6_standBehind_4; exact (sg_at sx_rf (s_f_X6_standBehind_6))
theorem s_f_X6_standBehind_3 {x1 : Int32} {x2 : Int32} {x3 : Int32} {x4 : Int32} {z5 : Option Value} {s0 : Int32} {I : xI} {J : xJ} : SG (Sum.elim (fun o => o.2.2.2.2.2.1) (fun o => o.2.1)) I (f_X6_standBehind_3 x1 x2 x3 x4 z5 s0 I J) := by
  unfold f_X6_standBehind_3; exact (sg_ite (sg_at sx_rf (s_f_X6_standBehind_5)) (sg_at sx_rf (s_f_X6_standBehind_4)))
theorem s_f_X6_standBehind_2 {x1 : Int32} {x2 : Int32} {x3 : Int32} {x4 : Int32} {z5 : Option Value} {I : xI} {J : xJ} : SG (Sum.elim (fun o => o.2.2.2.2.2.1) (fun o => o.2.1)) I (f_X6_standBehind_2 x1 x2 x3 x4 z5 I J) := by
  unfold f_X6_standBehind_2; exact (sg_bind (sg_at sx_rf (s_f_X5_targetOf)) (fun o ho => (sg_at ho (s_f_X6_standBehind_3))))
theorem s_b_X6_standBehind_1 {x1 : Int32} {x2 : Int32} {x3 : Int32} {x4 : Int32} {z5 : Option Value} {I : xI} {J : xJ} : SG (Sum.elim (fun o => o.2.2.2.2.2.1) (fun o => o.2.1)) I (b_X6_standBehind_1 x1 x2 x3 x4 z5 I J) := by
  unfold b_X6_standBehind_1; exact (sg_ite (sg_map (sg_at sx_rf (s_f_X6_standBehind_7))) (sg_at sx_rf (s_f_X6_standBehind_2)))
theorem s_f_X6_standBehind_1 {x1 : Int32} {x2 : Int32} {x3 : Int32} {x4 : Int32} {z5 : Option Value} {I : xI} {J : xJ} : SG (fun o => o.2.1) I (f_X6_standBehind_1 x1 x2 x3 x4 z5 I J) := by
  unfold f_X6_standBehind_1; exact (sg_loop (gs := (fun o => o.2.2.2.2.2.1)) (fun s => s_b_X6_standBehind_1) sx_rf)
theorem s_f_X6_standBehind_0 {x1 : Int32} {x2 : Int32} {I : xI} {J : xJ} : SG (fun o => o.2.1) I (f_X6_standBehind_0 x1 x2 I J) := by
  unfold f_X6_standBehind_0; exact (sg_at sx_rf (s_f_X6_standBehind_1))
theorem s_f_X6_standBehind {x1 : Int32} {x2 : Int32} {I : xI} {J : xJ} : SG (fun o => o.2.1) I (f_X6_standBehind x1 x2 I J) := by
  unfold f_X6_standBehind; exact (sg_at sx_rf (s_f_X6_standBehind_0))
theorem s_f_X6_toldBy_10 {x1 : Int32} {x2 : Int32} {x3 : Int32} {x4 : Int32} {z5 : Option Value} {I : xI} {J : xJ} : SG (fun o => o.2.1) I (f_X6_toldBy_10 x1 x2 x3 x4 z5 I J) := by
  unfold f_X6_toldBy_10; exact (sg_some sx_rf)
theorem s_f_X6_toldBy_9 {x1 : Int32} {x2 : Int32} {x3 : Int32} {x4 : Int32} {x5 : Int32} {I : xI} {J : xJ} : SG (Sum.elim (fun o => o.2.2.2.2.2.1) (fun o => o.2.1)) I (f_X6_toldBy_9 x1 x2 x3 x4 x5 I J) := by
  unfold f_X6_toldBy_9; exact (sg_some sx_rf)
theorem s_f_X6_toldBy_8 {x1 : Int32} {x2 : Int32} {x3 : Int32} {x4 : Int32} {x5 : Int32} {I : xI} {J : xJ} : SG (Sum.elim (fun o => o.2.2.2.2.2.1) (Sum.elim (fun o => o.2.2.2.2.2.1) (fun o => o.2.1))) I (f_X6_toldBy_8 x1 x2 x3 x4 x5 I J) := by
  unfold f_X6_toldBy_8; exact (sg_some sx_rf)
theorem s_f_X6_toldBy_7 {x1 : Int32} {x2 : Int32} {x3 : Int32} {x4 : Int32} {x5 : Int32} {s0 : Int32} {s1 : Int32} {I : xI} {J : xJ} : SG (Sum.elim (fun o => o.2.2.2.2.2.1) (Sum.elim (fun o => o.2.2.2.2.2.1) (fun o => o.2.1))) I (f_X6_toldBy_7 x1 x2 x3 x4 x5 s0 s1 I J) := by
  unfold f_X6_toldBy_7; exact (sg_at sx_rf (s_f_X6_toldBy_8))
theorem s_f_X6_toldBy_6 {x1 : Int32} {x2 : Int32} {x3 : Int32} {x4 : Int32} {x5 : Int32} {I : xI} {J : xJ} : SG (Sum.elim (fun o => o.2.2.2.2.2.1) (Sum.elim (fun o => o.2.2.2.2.2.1) (fun o => o.2.1))) I (f_X6_toldBy_6 x1 x2 x3 x4 x5 I J) := by
  unfold f_X6_toldBy_6; exact (sg_bind (sg_at sx_rf (s_f_X11_pairOf)) (fun o ho => (sg_at ho (s_f_X6_toldBy_7))))
theorem s_f_X6_toldBy_5 {x1 : Int32} {x2 : Int32} {x3 : Int32} {x4 : Int32} {x5 : Int32} {s0 : Int32} {I : xI} {J : xJ} : SG (Sum.elim (fun o => o.2.2.2.2.2.1) (Sum.elim (fun o => o.2.2.2.2.2.1) (fun o => o.2.1))) I (f_X6_toldBy_5 x1 x2 x3 x4 x5 s0 I J) := by
  unfold f_X6_toldBy_5; exact (sg_ite (sg_at sx_rf (s_f_X6_toldBy_8)) (sg_at sx_rf (s_f_X6_toldBy_6)))
theorem s_f_X6_toldBy_4 {x1 : Int32} {x2 : Int32} {x3 : Int32} {x4 : Int32} {x5 : Int32} {I : xI} {J : xJ} : SG (Sum.elim (fun o => o.2.2.2.2.2.1) (Sum.elim (fun o => o.2.2.2.2.2.1) (fun o => o.2.1))) I (f_X6_toldBy_4 x1 x2 x3 x4 x5 I J) := by
  unfold f_X6_toldBy_4; exact (sg_bind (sg_at sx_rf (s_f_X6_isUnlike)) (fun o ho => (sg_at ho (s_f_X6_toldBy_5))))
theorem s_b_X6_toldBy_3 {x1 : Int32} {x2 : Int32} {x3 : Int32} {x4 : Int32} {x5 : Int32} {I : xI} {J : xJ} : SG (Sum.elim (fun o => o.2.2.2.2.2.1) (Sum.elim (fun o => o.2.2.2.2.2.1) (fun o => o.2.1))) I (b_X6_toldBy_3 x1 x2 x3 x4 x5 I J) := by
  unfold b_X6_toldBy_3; exact (sg_ite (sg_map (sg_at sx_rf (s_f_X6_toldBy_9))) (sg_at sx_rf (s_f_X6_toldBy_4)))
theorem s_f_X6_toldBy_3 {x1 : Int32} {x2 : Int32} {x3 : Int32} {x4 : Int32} {x5 : Int32} {I : xI} {J : xJ} : SG (Sum.elim (fun o => o.2.2.2.2.2.1) (fun o => o.2.1)) I (f_X6_toldBy_3 x1 x2 x3 x4 x5 I J) := by
  unfold f_X6_toldBy_3; exact (sg_loop (gs := (fun o => o.2.2.2.2.2.1)) (fun s => s_b_X6_toldBy_3) sx_rf)
theorem s_f_X6_toldBy_2 {x1 : Int32} {x2 : Int32} {x3 : Int32} {x4 : Int32} {z5 : Option Value} {I : xI} {J : xJ} : SG (Sum.elim (fun o => o.2.2.2.2.2.1) (fun o => o.2.1)) I (f_X6_toldBy_2 x1 x2 x3 x4 z5 I J) := by
  unfold f_X6_toldBy_2; exact (sg_at sx_rf (s_f_X6_toldBy_3))
theorem s_b_X6_toldBy_1 {x1 : Int32} {x2 : Int32} {x3 : Int32} {x4 : Int32} {z5 : Option Value} {I : xI} {J : xJ} : SG (Sum.elim (fun o => o.2.2.2.2.2.1) (fun o => o.2.1)) I (b_X6_toldBy_1 x1 x2 x3 x4 z5 I J) := by
  unfold b_X6_toldBy_1; exact (sg_ite (sg_map (sg_at sx_rf (s_f_X6_toldBy_10))) (sg_at sx_rf (s_f_X6_toldBy_2)))
theorem s_f_X6_toldBy_1 {x1 : Int32} {x2 : Int32} {x3 : Int32} {x4 : Int32} {z5 : Option Value} {I : xI} {J : xJ} : SG (fun o => o.2.1) I (f_X6_toldBy_1 x1 x2 x3 x4 z5 I J) := by
  unfold f_X6_toldBy_1; exact (sg_loop (gs := (fun o => o.2.2.2.2.2.1)) (fun s => s_b_X6_toldBy_1) sx_rf)
theorem s_f_X6_toldBy_0 {x1 : Int32} {x2 : Int32} {I : xI} {J : xJ} : SG (fun o => o.2.1) I (f_X6_toldBy_0 x1 x2 I J) := by
  unfold f_X6_toldBy_0; exact (sg_at sx_rf (s_f_X6_toldBy_1))
theorem s_f_X6_toldBy {x1 : Int32} {x2 : Int32} {I : xI} {J : xJ} : SG (fun o => o.2.1) I (f_X6_toldBy x1 x2 I J) := by
  unfold f_X6_toldBy; exact (sg_at sx_rf (s_f_X6_toldBy_0))
theorem s_f_X6_seek_12 {self : Int32 → Int32 → Int32 → Int32 → xI → xJ → Option (Int32 × xI × xJ)} {x1 : Int32} {x2 : Int32} {x3 : Int32} {x4 : Int32} {x5 : Int32} {I : xI} {J : xJ} (hs : ∀ (a0 a1 a2 a3 : Int32) (I : xI) (J : xJ), SG (fun o => o.2.1) I (self a0 a1 a2 a3 I J)) : SG (Sum.elim (fun o => o.2.2.2.2.2.1) (fun o => o.2.1)) I (f_X6_seek_12 self x1 x2 x3 x4 x5 I J) := by
  unfold f_X6_seek_12; exact (sg_some sx_rf)
theorem s_f_X6_seek_11 {self : Int32 → Int32 → Int32 → Int32 → xI → xJ → Option (Int32 × xI × xJ)} {x1 : Int32} {x2 : Int32} {x3 : Int32} {x4 : Int32} {x5 : Int32} {I : xI} {J : xJ} (hs : ∀ (a0 a1 a2 a3 : Int32) (I : xI) (J : xJ), SG (fun o => o.2.1) I (self a0 a1 a2 a3 I J)) : SG (fun o => o.2.1) I (f_X6_seek_11 self x1 x2 x3 x4 x5 I J) := by
  unfold f_X6_seek_11; exact (sg_some sx_rf)
theorem s_f_X6_seek_10 {self : Int32 → Int32 → Int32 → Int32 → xI → xJ → Option (Int32 × xI × xJ)} {x1 : Int32} {x2 : Int32} {x3 : Int32} {x4 : Int32} {x5 : Int32} {s0 : Int32} {I : xI} {J : xJ} (hs : ∀ (a0 a1 a2 a3 : Int32) (I : xI) (J : xJ), SG (fun o => o.2.1) I (self a0 a1 a2 a3 I J)) : SG (Sum.elim (fun o => o.2.2.2.2.2.1) (fun o => o.2.1)) I (f_X6_seek_10 self x1 x2 x3 x4 x5 s0 I J) := by
  unfold f_X6_seek_10; exact (sg_ite (sg_at sx_rf (s_f_X6_seek_12 hs)) (sg_map (sg_at sx_rf (s_f_X6_seek_11 hs))))
theorem s_f_X6_seek_9 {self : Int32 → Int32 → Int32 → Int32 → xI → xJ → Option (Int32 × xI × xJ)} {x1 : Int32} {x2 : Int32} {x3 : Int32} {x4 : Int32} {x5 : Int32} {s1 : Int32} {s2 : Int32} {s3 : Int32} {s4 : Int32} {s5 : Int32} {I : xI} {J : xJ} (hs : ∀ (a0 a1 a2 a3 : Int32) (I : xI) (J : xJ), SG (fun o => o.2.1) I (self a0 a1 a2 a3 I J)) : SG (Sum.elim (fun o => o.2.2.2.2.2.1) (fun o => o.2.1)) I (f_X6_seek_9 self x1 x2 x3 x4 x5 s1 s2 s3 s4 s5 I J) := by
  unfold f_X6_seek_9; exact (sg_bind (sg_at sx_rf (hs _ _ _ _ _ _)) (fun o ho => (sg_at ho (s_f_X6_seek_10 hs))))
theorem s_f_X6_seek_8 {self : Int32 → Int32 → Int32 → Int32 → xI → xJ → Option (Int32 × xI × xJ)} {x1 : Int32} {x2 : Int32} {x3 : Int32} {x4 : Int32} {x5 : Int32} {s1 : Int32} {s2 : Int32} {s3 : Int32} {I : xI} {J : xJ} (hs : ∀ (a0 a1 a2 a3 : Int32) (I : xI) (J : xJ), SG (fun o => o.2.1) I (self a0 a1 a2 a3 I J)) : SG (Sum.elim (fun o => o.2.2.2.2.2.1) (fun o => o.2.1)) I (f_X6_seek_8 self x1 x2 x3 x4 x5 s1 s2 s3 I J) := by
  unfold f_X6_seek_8; exact (sg_bind (sg_at sx_rf (s_f_X6_toldBy)) (fun o ho => (sg_at ho (s_f_X6_seek_9 hs))))
theorem s_f_X6_seek_7 {self : Int32 → Int32 → Int32 → Int32 → xI → xJ → Option (Int32 × xI × xJ)} {x1 : Int32} {x2 : Int32} {x3 : Int32} {x4 : Int32} {x5 : Int32} {I : xI} {J : xJ} (hs : ∀ (a0 a1 a2 a3 : Int32) (I : xI) (J : xJ), SG (fun o => o.2.1) I (self a0 a1 a2 a3 I J)) : SG (Sum.elim (fun o => o.2.2.2.2.2.1) (fun o => o.2.1)) I (f_X6_seek_7 self x1 x2 x3 x4 x5 I J) := by
  unfold f_X6_seek_7; exact (sg_ite sg_none (sg_bind (sg_at (sx_upc sx_rf rfl) (s_f_X6_standBehind)) (fun o ho => (sg_at ho (s_f_X6_seek_8 hs)))))
theorem s_b_X6_seek_6 {self : Int32 → Int32 → Int32 → Int32 → xI → xJ → Option (Int32 × xI × xJ)} {x1 : Int32} {x2 : Int32} {x3 : Int32} {x4 : Int32} {x5 : Int32} {I : xI} {J : xJ} (hs : ∀ (a0 a1 a2 a3 : Int32) (I : xI) (J : xJ), SG (fun o => o.2.1) I (self a0 a1 a2 a3 I J)) : SG (Sum.elim (fun o => o.2.2.2.2.2.1) (fun o => o.2.1)) I (b_X6_seek_6 self x1 x2 x3 x4 x5 I J) := by
  unfold b_X6_seek_6; exact (sg_ite (sg_map (sg_at sx_rf (s_f_X6_seek_13 hs))) (sg_at sx_rf (s_f_X6_seek_7 hs)))
theorem s_f_X6_seek_6 {self : Int32 → Int32 → Int32 → Int32 → xI → xJ → Option (Int32 × xI × xJ)} {x1 : Int32} {x2 : Int32} {x3 : Int32} {x4 : Int32} {x5 : Int32} {I : xI} {J : xJ} (hs : ∀ (a0 a1 a2 a3 : Int32) (I : xI) (J : xJ), SG (fun o => o.2.1) I (self a0 a1 a2 a3 I J)) : SG (fun o => o.2.1) I (f_X6_seek_6 self x1 x2 x3 x4 x5 I J) := by
  unfold f_X6_seek_6; exact (sg_loop (gs := (fun o => o.2.2.2.2.2.1)) (fun s => s_b_X6_seek_6 hs) sx_rf)
theorem s_f_X6_seek_5 {self : Int32 → Int32 → Int32 → Int32 → xI → xJ → Option (Int32 × xI × xJ)} {x1 : Int32} {x2 : Int32} {x3 : Int32} {x4 : Int32} {I : xI} {J : xJ} (hs : ∀ (a0 a1 a2 a3 : Int32) (I : xI) (J : xJ), SG (fun o => o.2.1) I (self a0 a1 a2 a3 I J)) : SG (fun o => o.2.1) I (f_X6_seek_5 self x1 x2 x3 x4 I J) := by
  unfold f_X6_seek_5; exact (sg_at sx_rf (s_f_X6_seek_6 hs))
theorem s_f_X6_seek_4 {self : Int32 → Int32 → Int32 → Int32 → xI → xJ → Option (Int32 × xI × xJ)} {x1 : Int32} {x2 : Int32} {x3 : Int32} {x4 : Int32} {I : xI} {J : xJ} (hs : ∀ (a0 a1 a2 a3 : Int32) (I : xI) (J : xJ), SG (fun o => o.2.1) I (self a0 a1 a2 a3 I J)) : SG (fun o => o.2.1) I (f_X6_seek_4 self x1 x2 x3 x4 I J) := by
  unfold f_X6_seek_4; exact (sg_some sx_rf)
theorem s_f_X6_seek_3 {self : Int32 → Int32 → Int32 → Int32 → xI → xJ → Option (Int32 × xI × xJ)} {x1 : Int32} {x2 : Int32} {x3 : Int32} {x4 : Int32} {I : xI} {J : xJ} (hs : ∀ (a0 a1 a2 a3 : Int32) (I : xI) (J : xJ), SG (fun o => o.2.1) I (self a0 a1 a2 a3 I J)) : SG (fun o => o.2.1) I (f_X6_seek_3 self x1 x2 x3 x4 I J) := by
  unfold f_X6_seek_3; exact (sg_ite (sg_at sx_rf (s_f_X6_seek_5 hs)) (sg_at sx_rf (s_f_X6_seek_4 hs)))
theorem s_f_X6_seek_1 {self : Int32 → Int32 → Int32 → Int32 → xI → xJ → Option (Int32 × xI × xJ)} {x1 : Int32} {x2 : Int32} {x3 : Int32} {x4 : Int32} {s0 : Int32} {I : xI} {J : xJ} (hs : ∀ (a0 a1 a2 a3 : Int32) (I : xI) (J : xJ), SG (fun o => o.2.1) I (self a0 a1 a2 a3 I J)) : SG (fun o => o.2.1) I (f_X6_seek_1 self x1 x2 x3 x4 s0 I J) := by
  unfold f_X6_seek_1; exact (sg_ite (sg_at sx_rf (s_f_X6_seek_2 hs)) (sg_at sx_rf (s_f_X6_seek_3 hs)))
theorem s_f_X6_seek_0 {self : Int32 → Int32 → Int32 → Int32 → xI → xJ → Option (Int32 × xI × xJ)} {x1 : Int32} {x2 : Int32} {x3 : Int32} {x4 : Int32} {I : xI} {J : xJ} (hs : ∀ (a0 a1 a2 a3 : Int32) (I : xI) (J : xJ), SG (fun o => o.2.1) I (self a0 a1 a2 a3 I J)) : SG (fun o => o.2.1) I (f_X6_seek_0 self x1 x2 x3 x4 I J) := by
  unfold f_X6_seek_0; exact (sg_bind (sg_at sx_rf (s_f_X6_canTell)) (fun o ho => (sg_at ho (s_f_X6_seek_1 hs))))
theorem s_f_X6_seek : ∀ (r : Nat) {x0 x1 x2 x3 : Int32} {I : xI} {J : xJ}, SG (fun o => o.2.1) I (f_X6_seek r x0 x1 x2 x3 I J) := by
  intro r
  induction r with
  | zero => intros; exact sg_none
  | succ r ih => intros; exact s_f_X6_seek_0 (fun _ _ _ _ _ _ => ih)
theorem s_f_X6_lengthShown_8 {x1 : Int32} {I : xI} {J : xJ} : SG (Sum.elim (fun o => o.2.1) (fun o => o.2.1)) I (f_X6_lengthShown_8 x1 I J) := by
  unfold f_X6_lengthShown_8; exact (sg_some sx_rf)
theorem s_f_X6_lengthShown_7 {x1 : Int32} {I : xI} {J : xJ} : SG (Sum.elim (fun o => o.2.1) (fun o => o.2.1)) I (f_X6_lengthShown_7 x1 I J) := by
  unfold f_X6_lengthShown_7; exact (sg_at (sx_up sx_rf rfl) (s_f_X6_lengthShown_8))
theorem s_f_X6_lengthShown_6 {x1 : Int32} {s0 : Int32} {I : xI} {J : xJ} : SG (Sum.elim (fun o => o.2.1) (fun o => o.2.1)) I (f_X6_lengthShown_6 x1 s0 I J) := by
  unfold f_X6_lengthShown_6; exact (sg_ite (sg_at sx_rf (s_f_X6_lengthShown_8)) (sg_at sx_rf (s_f_X6_lengthShown_7)))
theorem s_f_X6_lengthShown_5 {x1 : Int32} {s1 : Int32} {s2 : Int32} {s3 : Int32} {I : xI} {J : xJ} : SG (Sum.elim (fun o => o.2.1) (fun o => o.2.1)) I (f_X6_lengthShown_5 x1 s1 s2 s3 I J) := by
  unfold f_X6_lengthShown_5; exact (sg_bind (sg_at sx_rf (s_f_X6_seek _)) (fun o ho => (sg_at ho (s_f_X6_lengthShown_6))))
theorem s_f_X6_lengthShown_4 {x1 : Int32} {I : xI} {J : xJ} : SG (Sum.elim (fun o => o.2.1) (fun o => o.2.1)) I (f_X6_lengthShown_4 x1 I J) := by
  unfold f_X6_lengthShown_4; exact (sg_bind (sg_at sx_rf (s_f_X6_startStand)) (fun o ho => (sg_at ho (s_f_X6_lengthShown_5))))
theorem s_f_X6_lengthShown_3 {x1 : Int32} {I : xI} {J : xJ} : SG (Sum.elim (fun o => o.2.1) (fun o => o.2.1)) I (f_X6_lengthShown_3 x1 I J) := by
  unfold f_X6_lengthShown_3; exact (sg_ite (sg_at sx_rf (s_f_X6_lengthShown_4)) (sg_map (sg_at sx_rf (s_f_X6_lengthShown_9))))
theorem s_b_X6_lengthShown_2 {x1 : Int32} {I : xI} {J : xJ} : SG (Sum.elim (fun o => o.2.1) (fun o => o.2.1)) I (b_X6_lengthShown_2 x1 I J) := by
  unfold b_X6_lengthShown_2; exact (sg_ite (sg_map (sg_at sx_rf (s_f_X6_lengthShown_9))) (sg_at sx_rf (s_f_X6_lengthShown_3)))
theorem s_f_X6_lengthShown_2 {x1 : Int32} {I : xI} {J : xJ} : SG (fun o => o.2.1) I (f_X6_lengthShown_2 x1 I J) := by
  unfold f_X6_lengthShown_2; exact (sg_loop (gs := (fun o => o.2.1)) (fun s => s_b_X6_lengthShown_2) sx_rf)
theorem s_f_X6_lengthShown_1 {I : xI} {J : xJ} : SG (fun o => o.2.1) I (f_X6_lengthShown_1 I J) := by
  unfold f_X6_lengthShown_1; exact (sg_at (sx_up (sx_age sx_rf (by decide)) rfl) (s_f_X6_lengthShown_2))
theorem s_f_X6_lengthShown_0 {I : xI} {J : xJ} : SG (fun o => o.2.1) I (f_X6_lengthShown_0 I J) := by
  unfold f_X6_lengthShown_0; exact (sg_ite (sg_at sx_rf (s_f_X6_lengthShown_9)) (sg_at sx_rf (s_f_X6_lengthShown_1)))
theorem s_f_X6_lengthShown {I : xI} {J : xJ} : SG (fun o => o.2.1) I (f_X6_lengthShown I J) := by
  unfold f_X6_lengthShown; exact (sg_at sx_rf (s_f_X6_lengthShown_0))
theorem s_f_X11_shown_4 {x1 : Int32} {x2 : Int32} {I : xI} {J : xJ} : SG (fun o => o.2.1) I (f_X11_shown_4 x1 x2 I J) := by
  unfold f_X11_shown_4; exact (sg_some sx_rf)
theorem s_f_X11_shown_9 {x1 : Int32} {x2 : Int32} {s0 : Int32} {I : xI} {J : xJ} : SG (fun o => o.2.1) I (f_X11_shown_9 x1 x2 s0 I J) := by
  unfold f_X11_shown_9; exact (sg_some sx_rf)
theorem s_f_X11_shown_8 {x1 : Int32} {x2 : Int32} {I : xI} {J : xJ} : SG (fun o => o.2.1) I (f_X11_shown_8 x1 x2 I J) := by
  unfold f_X11_shown_8; exact (sg_at sx_rf (s_f_X11_shown_9))
theorem s_f_X11_shown_7 {x1 : Int32} {x2 : Int32} {I : xI} {J : xJ} : SG (fun o => o.2.1) I (f_X11_shown_7 x1 x2 I J) := by
  unfold f_X11_shown_7; exact (sg_ite sg_none (sg_at sx_rf (s_f_X11_shown_9)))
theorem s_f_X11_shown_6 {x1 : Int32} {x2 : Int32} {I : xI} {J : xJ} : SG (fun o => o.2.1) I (f_X11_shown_6 x1 x2 I J) := by
  unfold f_X11_shown_6; exact (sg_ite (sg_at sx_rf (s_f_X11_shown_8)) (sg_at sx_rf (s_f_X11_shown_7)))
theorem s_f_X11_shown_5 {x1 : Int32} {x2 : Int32} {I : xI} {J : xJ} : SG (fun o => o.2.1) I (f_X11_shown_5 x1 x2 I J) := by
  unfold f_X11_shown_5; exact (sg_ite (sg_at sx_rf (s_f_X11_shown_8)) (sg_at sx_rf (s_f_X11_shown_6)))
theorem s_f_X11_shown_3 {x1 : Int32} {x2 : Int32} {I : xI} {J : xJ} : SG (fun o => o.2.1) I (f_X11_shown_3 x1 x2 I J) := by
  unfold f_X11_shown_3; exact (sg_ite (sg_at sx_rf (s_f_X11_shown_4)) (sg_at sx_rf (s_f_X11_shown_5)))
theorem s_f_X11_shown_2 {x1 : Int32} {s0 : Int32} {I : xI} {J : xJ} : SG (fun o => o.2.1) I (f_X11_shown_2 x1 s0 I J) := by
  unfold f_X11_shown_2; exact (sg_ite (sg_at sx_rf (s_f_X11_shown_4)) (sg_at sx_rf (s_f_X11_shown_3)))
theorem s_f_X11_shown_1 {x1 : Int32} {I : xI} {J : xJ} : SG (fun o => o.2.1) I (f_X11_shown_1 x1 I J) := by
  unfold f_X11_shown_1; exact (sg_bind (sg_at sx_rf (s_f_X6_lengthShown)) (fun o ho => (sg_at ho (s_f_X11_shown_2))))
theorem s_f_X11_shown_0 {x1 : Int32} {I : xI} {J : xJ} : SG (fun o => o.2.1) I (f_X11_shown_0 x1 I J) := by
  unfold f_X11_shown_0; exact (sg_bind (sg_at sx_rf (s_f_X11_pairsNow)) (fun o ho => (sg_at ho (s_f_X11_shown_1))))
theorem s_f_X11_shown {x1 : Int32} {I : xI} {J : xJ} : SG (fun o => o.2.1) I (f_X11_shown x1 I J) := by
  unfold f_X11_shown; exact (sg_at sx_rf (s_f_X11_shown_0))
theorem s_f_X1_refresh_1 {I : xI} {J : xJ} : SG (fun o => o.2.1) I (f_X1_refresh_1 I J) := by
  unfold f_X1_refresh_1; exact (sg_some sx_rf)
theorem s_f_X1_gatherGreatest_6 {x1 : Int32} {I : xI} {J : xJ} : SG (fun o => o.2.1) I (f_X1_gatherGreatest_6 x1 I J) := by
  unfold f_X1_gatherGreatest_6; exact (sg_some sx_rf)
theorem s_f_X1_isGreatest_6 {x1 : Int32} {x2 : Int32} {I : xI} {J : xJ} : SG (fun o => o.2.1) I (f_X1_isGreatest_6 x1 x2 I J) := by
  unfold f_X1_isGreatest_6; exact (sg_some sx_rf)
theorem s_f_X1_isGreatest_5 {x1 : Int32} {x2 : Int32} {I : xI} {J : xJ} : SG (Sum.elim (fun o => o.2.2.1) (fun o => o.2.1)) I (f_X1_isGreatest_5 x1 x2 I J) := by
  unfold f_X1_isGreatest_5; exact (sg_some sx_rf)
theorem s_f_X1_isGreatest_4 {x1 : Int32} {x2 : Int32} {I : xI} {J : xJ} : SG (fun o => o.2.1) I (f_X1_isGreatest_4 x1 x2 I J) := by
  unfold f_X1_isGreatest_4; exact (sg_some sx_rf)
theorem s_f_X1_isGreatest_3 {x1 : Int32} {x2 : Int32} {I : xI} {J : xJ} : SG (Sum.elim (fun o => o.2.2.1) (fun o => o.2.1)) I (f_X1_isGreatest_3 x1 x2 I J) := by
  unfold f_X1_isGreatest_3; exact (sg_ite sg_none (sg_ite (sg_at sx_rf (s_f_X1_isGreatest_5)) (sg_map (sg_at sx_rf (s_f_X1_isGreatest_4)))))
theorem s_f_X1_isGreatest_2 {x1 : Int32} {x2 : Int32} {I : xI} {J : xJ} : SG (Sum.elim (fun o => o.2.2.1) (fun o => o.2.1)) I (f_X1_isGreatest_2 x1 x2 I J) := by
  unfold f_X1_isGreatest_2; exact (sg_ite (sg_at sx_rf (s_f_X1_isGreatest_3)) (sg_at sx_rf (s_f_X1_isGreatest_5)))
theorem s_b_X1_isGreatest_1 {x1 : Int32} {x2 : Int32} {I : xI} {J : xJ} : SG (Sum.elim (fun o => o.2.2.1) (fun o => o.2.1)) I (b_X1_isGreatest_1 x1 x2 I J) := by
  unfold b_X1_isGreatest_1; exact (sg_ite (sg_map (sg_at sx_rf (s_f_X1_isGreatest_6))) (sg_at sx_rf (s_f_X1_isGreatest_2)))
theorem s_f_X1_isGreatest_1 {x1 : Int32} {x2 : Int32} {I : xI} {J : xJ} : SG (fun o => o.2.1) I (f_X1_isGreatest_1 x1 x2 I J) := by
  unfold f_X1_isGreatest_1; exact (sg_loop (gs := (fun o => o.2.2.1)) (fun s => s_b_X1_isGreatest_1) sx_rf)
theorem s_f_X1_isGreatest_0 {x1 : Int32} {I : xI} {J : xJ} : SG (fun o => o.2.1) I (f_X1_isGreatest_0 x1 I J) := by
  unfold f_X1_isGreatest_0; exact (sg_at sx_rf (s_f_X1_isGreatest_1))
theorem s_f_X1_isGreatest {x1 : Int32} {I : xI} {J : xJ} : SG (fun o => o.2.1) I (f_X1_isGreatest x1 I J) := by
  unfold f_X1_isGreatest; exact (sg_at sx_rf (s_f_X1_isGreatest_0))
theorem s_f_X1_gatherGreatest_5 {x1 : Int32} {I : xI} {J : xJ} : SG (Sum.elim (fun o => o.2.1) (fun o => o.2.1)) I (f_X1_gatherGreatest_5 x1 I J) := by
  unfold f_X1_gatherGreatest_5; exact (sg_some sx_rf)
theorem s_f_X1_gatherGreatest_4 {x1 : Int32} {I : xI} {J : xJ} : SG (Sum.elim (fun o => o.2.1) (fun o => o.2.1)) I (f_X1_gatherGreatest_4 x1 I J) := by
  unfold f_X1_gatherGreatest_4; exact (sg_ite sg_none (sg_ite sg_none (sg_at (sx_up (sx_upc sx_rf rfl) rfl) (s_f_X1_gatherGreatest_5))))
theorem s_f_X1_gatherGreatest_3 {x1 : Int32} {s0 : Int32} {I : xI} {J : xJ} : SG (Sum.elim (fun o => o.2.1) (fun o => o.2.1)) I (f_X1_gatherGreatest_3 x1 s0 I J) := by
  unfold f_X1_gatherGreatest_3; exact (sg_ite (sg_at sx_rf (s_f_X1_gatherGreatest_5)) (sg_at sx_rf (s_f_X1_gatherGreatest_4)))
theorem s_f_X1_gatherGreatest_2 {x1 : Int32} {I : xI} {J : xJ} : SG (Sum.elim (fun o => o.2.1) (fun o => o.2.1)) I (f_X1_gatherGreatest_2 x1 I J) := by
  unfold f_X1_gatherGreatest_2; exact (sg_ite sg_none (sg_bind (sg_at sx_rf (s_f_X1_isGreatest)) (fun o ho => (sg_at ho (s_f_X1_gatherGreatest_3)))))
theorem s_b_X1_gatherGreatest_1 {x1 : Int32} {I : xI} {J : xJ} : SG (Sum.elim (fun o => o.2.1) (fun o => o.2.1)) I (b_X1_gatherGreatest_1 x1 I J) := by
  unfold b_X1_gatherGreatest_1; exact (sg_ite (sg_map (sg_at sx_rf (s_f_X1_gatherGreatest_6))) (sg_at sx_rf (s_f_X1_gatherGreatest_2)))
theorem s_f_X1_gatherGreatest_1 {x1 : Int32} {I : xI} {J : xJ} : SG (fun o => o.2.1) I (f_X1_gatherGreatest_1 x1 I J) := by
  unfold f_X1_gatherGreatest_1; exact (sg_loop (gs := (fun o => o.2.1)) (fun s => s_b_X1_gatherGreatest_1) sx_rf)
theorem s_f_X1_gatherGreatest_0 {I : xI} {J : xJ} : SG (fun o => o.2.1) I (f_X1_gatherGreatest_0 I J) := by
  unfold f_X1_gatherGreatest_0; exact (sg_at (sx_up sx_rf rfl) (s_f_X1_gatherGreatest_1))
theorem s_f_X1_gatherGreatest {I : xI} {J : xJ} : SG (fun o => o.2.1) I (f_X1_gatherGreatest I J) := by
  unfold f_X1_gatherGreatest; exact (sg_at sx_rf (s_f_X1_gatherGreatest_0))
theorem s_f_X1_refresh_12 {x1 : Int32} {x2 : Int32} {I : xI} {J : xJ} : SG (fun o => o.2.1) I (f_X1_refresh_12 x1 x2 I J) := by
  unfold f_X1_refresh_12; exact (sg_some sx_rf)
theorem s_f_X1_refresh_11 {x1 : Int32} {x2 : Int32} {I : xI} {J : xJ} : SG (fun o => o.2.1) I (f_X1_refresh_11 x1 x2 I J) := by
  unfold f_X1_refresh_11; exact (sg_bind (sg_at sx_rf (s_f_X1_gatherGreatest)) (fun o ho => (sg_at ho (s_f_X1_refresh_12))))
theorem s_f_X1_pairsIn_9 {x1 : Int32} {x2 : Int32} {x3 : Int32} {z4 : Option Value} {I : xI} {J : xJ} : SG (fun o => o.2.1) I (f_X1_pairsIn_9 x1 x2 x3 z4 I J) := by
  unfold f_X1_pairsIn_9; exact (sg_some sx_rf)
theorem s_f_X1_pairsIn_8 {x1 : Int32} {x2 : Int32} {x3 : Int32} {x4 : Int32} {I : xI} {J : xJ} : SG (Sum.elim (fun o => o.2.2.2.2.1) (fun o => o.2.1)) I (f_X1_pairsIn_8 x1 x2 x3 x4 I J) := by
  unfold f_X1_pairsIn_8; exact (sg_some sx_rf)
theorem s_f_X1_pairsIn_7 {x1 : Int32} {x2 : Int32} {x3 : Int32} {x4 : Int32} {I : xI} {J : xJ} : SG (Sum.elim (fun o => o.2.2.2.2.1) (Sum.elim (fun o => o.2.2.2.2.1) (fun o => o.2.1))) I (f_X1_pairsIn_7 x1 x2 x3 x4 I J) := by
  unfold f_X1_pairsIn_7; exact (sg_some sx_rf)
theorem s_f_X1_pairsIn_6 {x1 : Int32} {x2 : Int32} {x3 : Int32} {x4 : Int32} {s0 : Int32} {s1 : Int32} {I : xI} {J : xJ} : SG (Sum.elim (fun o => o.2.2.2.2.1) (Sum.elim (fun o => o.2.2.2.2.1) (fun o => o.2.1))) I (f_X1_pairsIn_6 x1 x2 x3 x4 s0 s1 I J) := by
  unfold f_X1_pairsIn_6; exact (sg_at sx_rf (s_f_X1_pairsIn_7))
theorem s_f_X1_pairsIn_5 {x1 : Int32} {x2 : Int32} {x3 : Int32} {x4 : Int32} {I : xI} {J : xJ} : SG (Sum.elim (fun o => o.2.2.2.2.1) (Sum.elim (fun o => o.2.2.2.2.1) (fun o => o.2.1))) I (f_X1_pairsIn_5 x1 x2 x3 x4 I J) := by
  unfold f_X1_pairsIn_5; exact (sg_bind (sg_at sx_rf (s_f_X11_pairOf)) (fun o ho => (sg_at ho (s_f_X1_pairsIn_6))))
theorem s_f_X1_pairsIn_4 {x1 : Int32} {x2 : Int32} {x3 : Int32} {x4 : Int32} {I : xI} {J : xJ} : SG (Sum.elim (fun o => o.2.2.2.2.1) (Sum.elim (fun o => o.2.2.2.2.1) (fun o => o.2.1))) I (f_X1_pairsIn_4 x1 x2 x3 x4 I J) := by
  unfold f_X1_pairsIn_4; exact (sg_ite (sg_at sx_rf (s_f_X1_pairsIn_5)) (sg_at sx_rf (s_f_X1_pairsIn_7)))
theorem s_b_X1_pairsIn_3 {x1 : Int32} {x2 : Int32} {x3 : Int32} {x4 : Int32} {I : xI} {J : xJ} : SG (Sum.elim (fun o => o.2.2.2.2.1) (Sum.elim (fun o => o.2.2.2.2.1) (fun o => o.2.1))) I (b_X1_pairsIn_3 x1 x2 x3 x4 I J) := by
  unfold b_X1_pairsIn_3; exact (sg_ite (sg_map (sg_at sx_rf (s_f_X1_pairsIn_8))) (sg_at sx_rf (s_f_X1_pairsIn_4)))
theorem s_f_X1_pairsIn_3 {x1 : Int32} {x2 : Int32} {x3 : Int32} {x4 : Int32} {I : xI} {J : xJ} : SG (Sum.elim (fun o => o.2.2.2.2.1) (fun o => o.2.1)) I (f_X1_pairsIn_3 x1 x2 x3 x4 I J) := by
  unfold f_X1_pairsIn_3; exact (sg_loop (gs := (fun o => o.2.2.2.2.1)) (fun s => s_b_X1_pairsIn_3) sx_rf)
theorem s_f_X1_pairsIn_2 {x1 : Int32} {x2 : Int32} {x3 : Int32} {z4 : Option Value} {I : xI} {J : xJ} : SG (Sum.elim (fun o => o.2.2.2.2.1) (fun o => o.2.1)) I (f_X1_pairsIn_2 x1 x2 x3 z4 I J) := by
  unfold f_X1_pairsIn_2; exact (sg_at sx_rf (s_f_X1_pairsIn_3))
theorem s_b_X1_pairsIn_1 {x1 : Int32} {x2 : Int32} {x3 : Int32} {z4 : Option Value} {I : xI} {J : xJ} : SG (Sum.elim (fun o => o.2.2.2.2.1) (fun o => o.2.1)) I (b_X1_pairsIn_1 x1 x2 x3 z4 I J) := by
  unfold b_X1_pairsIn_1; exact (sg_ite (sg_map (sg_at sx_rf (s_f_X1_pairsIn_9))) (sg_at sx_rf (s_f_X1_pairsIn_2)))
theorem s_f_X1_pairsIn_1 {x1 : Int32} {x2 : Int32} {x3 : Int32} {z4 : Option Value} {I : xI} {J : xJ} : SG (fun o => o.2.1) I (f_X1_pairsIn_1 x1 x2 x3 z4 I J) := by
  unfold f_X1_pairsIn_1; exact (sg_loop (gs := (fun o => o.2.2.2.2.1)) (fun s => s_b_X1_pairsIn_1) sx_rf)
theorem s_f_X1_pairsIn_0 {x1 : Int32} {I : xI} {J : xJ} : SG (fun o => o.2.1) I (f_X1_pairsIn_0 x1 I J) := by
  unfold f_X1_pairsIn_0; exact (sg_at sx_rf (s_f_X1_pairsIn_1))
theorem s_f_X1_pairsIn {x1 : Int32} {I : xI} {J : xJ} : SG (fun o => o.2.1) I (f_X1_pairsIn x1 I J) := by
  unfold f_X1_pairsIn; exact (sg_at sx_rf (s_f_X1_pairsIn_0))
theorem s_f_X1_refresh_10 {x1 : Int32} {x2 : Int32} {I : xI} {J : xJ} : SG (Sum.elim (fun o => o.2.2.1) (fun o => o.2.1)) I (f_X1_refresh_10 x1 x2 I J) := by
  unfold f_X1_refresh_10; exact (sg_some sx_rf)
theorem s_f_J6_bitCount_0f7a4_0 {x0 : Int32} {I : xI} {J : xJ} : SG (fun o => o.2.1) I (f_J6_bitCount_0f7a4_0 x0 I J) := by
  unfold f_J6_bitCount_0f7a4_0; exact (sg_some sx_rf)
theorem s_f_J6_bitCount_0f7a4 {x0 : Int32} {I : xI} {J : xJ} : SG (fun o => o.2.1) I (f_J6_bitCount_0f7a4 x0 I J) := by
  unfold f_J6_bitCount_0f7a4; exact (sg_at sx_rf (s_f_J6_bitCount_0f7a4_0))
theorem s_f_X1_addClass_5 {x1 : Int32} {x2 : Int32} {s1 : Int32} {s2 : Int32} {I : xI} {J : xJ} : SG (fun o => o.2.1) I (f_X1_addClass_5 x1 x2 s1 s2 I J) := by
  unfold f_X1_addClass_5; exact (sg_some (sx_up sx_rf rfl))
theorem s_f_X1_addClass_4 {x1 : Int32} {x2 : Int32} {I : xI} {J : xJ} : SG (fun o => o.2.1) I (f_X1_addClass_4 x1 x2 I J) := by
  unfold f_X1_addClass_4; exact (sg_bind (sg_at (sx_up sx_rf rfl) (s_f_J6_bitCount_0f7a4)) (fun o ho => (sg_at ho (s_f_X1_addClass_5))))
theorem s_f_X5_leadOf_7 {x1 : Int32} {x2 : Int32} {x3 : Int32} {x4 : Int32} {z5 : Option Value} {I : xI} {J : xJ} : SG (fun o => o.2.1) I (f_X5_leadOf_7 x1 x2 x3 x4 z5 I J) := by
  unfold f_X5_leadOf_7; exact (sg_some sx_rf)
theorem s_f_X5_leadOf_6 {x1 : Int32} {x2 : Int32} {x3 : Int32} {x4 : Int32} {x5 : Int32} {I : xI} {J : xJ} : SG (Sum.elim (fun o => o.2.2.2.2.2.1) (fun o => o.2.1)) I (f_X5_leadOf_6 x1 x2 x3 x4 x5 I J) := by
  unfold f_X5_leadOf_6; exact (sg_some sx_rf)
theorem s_f_X5_leadOf_5 {x1 : Int32} {x2 : Int32} {x3 : Int32} {x4 : Int32} {x5 : Int32} {I : xI} {J : xJ} : SG (Sum.elim (fun o => o.2.2.2.2.2.1) (fun o => o.2.1)) I (f_X5_leadOf_5 x1 x2 x3 x4 x5 I J) := by
  unfold f_X5_leadOf_5; exact (sg_at sx_rf (s_f_X5_leadOf_6))
theorem s_f_X5_leadOf_4 {x1 : Int32} {x2 : Int32} {x3 : Int32} {x4 : Int32} {x5 : Int32} {I : xI} {J : xJ} : SG (Sum.elim (fun o => o.2.2.2.2.2.1) (fun o => o.2.1)) I (f_X5_leadOf_4 x1 x2 x3 x4 x5 I J) := by
  unfold f_X5_leadOf_4; exact (sg_ite (sg_at sx_rf (s_f_X5_leadOf_6)) (sg_at sx_rf (s_f_X5_leadOf_5)))
theorem s_f_X5_leadOf_3 {x1 : Int32} {x2 : Int32} {x3 : Int32} {x4 : Int32} {z5 : Option Value} {s0 : Int32} {I : xI} {J : xJ} : SG (Sum.elim (fun o => o.2.2.2.2.2.1) (fun o => o.2.1)) I (f_X5_leadOf_3 x1 x2 x3 x4 z5 s0 I J) := by
  unfold f_X5_leadOf_3; exact (sg_ite (sg_at sx_rf (s_f_X5_leadOf_4)) (sg_at sx_rf (s_f_X5_leadOf_6)))
theorem s_f_X5_leadOf_2 {x1 : Int32} {x2 : Int32} {x3 : Int32} {x4 : Int32} {z5 : Option Value} {I : xI} {J : xJ} : SG (Sum.elim (fun o => o.2.2.2.2.2.1) (fun o => o.2.1)) I (f_X5_leadOf_2 x1 x2 x3 x4 z5 I J) := by
  unfold f_X5_leadOf_2; exact (sg_bind (sg_at sx_rf (s_f_X5_targetOf)) (fun o ho => (sg_at ho (s_f_X5_leadOf_3))))
theorem s_b_X5_leadOf_1 {x1 : Int32} {x2 : Int32} {x3 : Int32} {x4 : Int32} {z5 : Option Value} {I : xI} {J : xJ} : SG (Sum.elim (fun o => o.2.2.2.2.2.1) (fun o => o.2.1)) I (b_X5_leadOf_1 x1 x2 x3 x4 z5 I J) := by
  unfold b_X5_leadOf_1; exact (sg_ite (sg_map (sg_at sx_rf (s_f_X5_leadOf_7))) (sg_at sx_rf (s_f_X5_leadOf_2)))
theorem s_f_X5_leadOf_1 {x1 : Int32} {x2 : Int32} {x3 : Int32} {x4 : Int32} {z5 : Option Value} {I : xI} {J : xJ} : SG (fun o => o.2.1) I (f_X5_leadOf_1 x1 x2 x3 x4 z5 I J) := by
  unfold f_X5_leadOf_1; exact (sg_loop (gs := (fun o => o.2.2.2.2.2.1)) (fun s => s_b_X5_leadOf_1) sx_rf)
theorem s_f_X5_leadOf_0 {x1 : Int32} {x2 : Int32} {I : xI} {J : xJ} : SG (fun o => o.2.1) I (f_X5_leadOf_0 x1 x2 I J) := by
  unfold f_X5_leadOf_0; exact (sg_at sx_rf (s_f_X5_leadOf_1))
theorem s_f_X5_leadOf {x1 : Int32} {x2 : Int32} {I : xI} {J : xJ} : SG (fun o => o.2.1) I (f_X5_leadOf x1 x2 I J) := by
  unfold f_X5_leadOf; exact (sg_at sx_rf (s_f_X5_leadOf_0))
theorem s_f_X1_addClass_3 {x1 : Int32} {x2 : Int32} {s1 : Int32} {s2 : Int32} {I : xI} {J : xJ} : SG (Sum.elim (fun o => o.2.2.1) (fun o => o.2.1)) I (f_X1_addClass_3 x1 x2 s1 s2 I J) := by
  unfold f_X1_addClass_3; exact (sg_ite sg_none (sg_some (sx_upc sx_rf rfl)))
theorem s_f_X1_addClass_2 {x1 : Int32} {x2 : Int32} {I : xI} {J : xJ} : SG (Sum.elim (fun o => o.2.2.1) (fun o => o.2.1)) I (f_X1_addClass_2 x1 x2 I J) := by
  unfold f_X1_addClass_2; exact (sg_bind (sg_at sx_rf (s_f_X5_leadOf)) (fun o ho => (sg_at ho (s_f_X1_addClass_3))))
theorem s_b_X1_addClass_1 {x1 : Int32} {x2 : Int32} {I : xI} {J : xJ} : SG (Sum.elim (fun o => o.2.2.1) (fun o => o.2.1)) I (b_X1_addClass_1 x1 x2 I J) := by
  unfold b_X1_addClass_1; exact (sg_ite (sg_map (sg_at sx_rf (s_f_X1_addClass_4))) (sg_at sx_rf (s_f_X1_addClass_2)))
theorem s_f_X1_addClass_1 {x1 : Int32} {x2 : Int32} {I : xI} {J : xJ} : SG (fun o => o.2.1) I (f_X1_addClass_1 x1 x2 I J) := by
  unfold f_X1_addClass_1; exact (sg_loop (gs := (fun o => o.2.2.1)) (fun s => s_b_X1_addClass_1) sx_rf)
theorem s_f_X1_addClass_0 {x1 : Int32} {I : xI} {J : xJ} : SG (fun o => o.2.1) I (f_X1_addClass_0 x1 I J) := by
  unfold f_X1_addClass_0; exact (sg_ite sg_none (sg_at (sx_upc sx_rf rfl) (s_f_X1_addClass_1)))
theorem s_f_X1_addClass {x1 : Int32} {I : xI} {J : xJ} : SG (fun o => o.2.1) I (f_X1_addClass x1 I J) := by
  unfold f_X1_addClass; exact (sg_at sx_rf (s_f_X1_addClass_0))
theorem s_f_X1_refresh_9 {x1 : Int32} {x2 : Int32} {I : xI} {J : xJ} : SG (Sum.elim (fun o => o.2.2.1) (fun o => o.2.1)) I (f_X1_refresh_9 x1 x2 I J) := by
  unfold f_X1_refresh_9; exact (sg_bind (sg_at sx_rf (s_f_X1_addClass)) (fun o ho => (sg_at ho (s_f_X1_refresh_10))))
theorem s_f_X1_refresh_8 {x1 : Int32} {x2 : Int32} {s1 : Int32} {s2 : Int32} {I : xI} {J : xJ} : SG (Sum.elim (fun o => o.2.2.1) (fun o => o.2.1)) I (f_X1_refresh_8 x1 x2 s1 s2 I J) := by
  unfold f_X1_refresh_8; exact (sg_ite sg_none (sg_ite sg_none (sg_ite (sg_at (sx_upc sx_rf rfl) (s_f_X1_refresh_10)) (sg_at (sx_upc sx_rf rfl) (s_f_X1_refresh_9)))))
theorem s_f_X1_refresh_6 {x1 : Int32} {x2 : Int32} {s1 : Int32} {I : xI} {J : xJ} : SG (Sum.elim (fun o => o.2.2.1) (fun o => o.2.1)) I (f_X1_refresh_6 x1 x2 s1 I J) := by
  unfold f_X1_refresh_6; exact (sg_at sx_rf (s_f_X1_refresh_8))
theorem s_f_X1_refresh_7 {x1 : Int32} {x2 : Int32} {s1 : Int32} {I : xI} {J : xJ} : SG (Sum.elim (fun o => o.2.2.1) (fun o => o.2.1)) I (f_X1_refresh_7 x1 x2 s1 I J) := by
  unfold f_X1_refresh_7; exact (sg_at sx_rf (s_f_X1_refresh_8))
theorem s_f_X1_refresh_5 {x1 : Int32} {x2 : Int32} {s1 : Int32} {s2 : Int32} {I : xI} {J : xJ} : SG (Sum.elim (fun o => o.2.2.1) (fun o => o.2.1)) I (f_X1_refresh_5 x1 x2 s1 s2 I J) := by
  unfold f_X1_refresh_5; exact (sg_ite (sg_at sx_rf (s_f_X1_refresh_6)) (sg_at sx_rf (s_f_X1_refresh_7)))
theorem s_f_X1_refresh_4 {x1 : Int32} {x2 : Int32} {I : xI} {J : xJ} : SG (Sum.elim (fun o => o.2.2.1) (fun o => o.2.1)) I (f_X1_refresh_4 x1 x2 I J) := by
  unfold f_X1_refresh_4; exact (sg_bind (sg_at sx_rf (s_f_X1_pairsIn)) (fun o ho => (sg_at ho (s_f_X1_refresh_5))))
theorem s_b_X1_refresh_3 {x1 : Int32} {x2 : Int32} {I : xI} {J : xJ} : SG (Sum.elim (fun o => o.2.2.1) (fun o => o.2.1)) I (b_X1_refresh_3 x1 x2 I J) := by
  unfold b_X1_refresh_3; exact (sg_ite (sg_map (sg_at sx_rf (s_f_X1_refresh_11))) (sg_at sx_rf (s_f_X1_refresh_4)))
theorem s_f_X1_refresh_3 {x1 : Int32} {x2 : Int32} {I : xI} {J : xJ} : SG (fun o => o.2.1) I (f_X1_refresh_3 x1 x2 I J) := by
  unfold f_X1_refresh_3; exact (sg_loop (gs := (fun o => o.2.2.1)) (fun s => s_b_X1_refresh_3) sx_rf)
theorem s_f_X1_refresh_2 {I : xI} {J : xJ} : SG (fun o => o.2.1) I (f_X1_refresh_2 I J) := by
  unfold f_X1_refresh_2; exact (sg_at (sx_up (sx_up (sx_age sx_rf (by decide)) rfl) rfl) (s_f_X1_refresh_3))
theorem s_f_X1_refresh_0 {I : xI} {J : xJ} : SG (fun o => o.2.1) I (f_X1_refresh_0 I J) := by
  unfold f_X1_refresh_0; exact (sg_ite (sg_at sx_rf (s_f_X1_refresh_1)) (sg_at sx_rf (s_f_X1_refresh_2)))
theorem s_f_X1_refresh {I : xI} {J : xJ} : SG (fun o => o.2.1) I (f_X1_refresh I J) := by
  unfold f_X1_refresh; exact (sg_at sx_rf (s_f_X1_refresh_0))
theorem s_f_X11_coverNow_2 {I : xI} {J : xJ} : SG (fun o => o.2.1) I (f_X11_coverNow_2 I J) := by
  unfold f_X11_coverNow_2; exact (sg_some sx_rf)
theorem s_f_X11_coverNow_1 {I : xI} {J : xJ} : SG (fun o => o.2.1) I (f_X11_coverNow_1 I J) := by
  unfold f_X11_coverNow_1; exact (sg_bind (sg_at sx_rf (s_f_X1_refresh)) (fun o ho => (sg_at ho (s_f_X11_coverNow_2))))
theorem s_f_X11_coverNow_0 {I : xI} {J : xJ} : SG (fun o => o.2.1) I (f_X11_coverNow_0 I J) := by
  unfold f_X11_coverNow_0; exact (sg_bind (sg_at sx_rf (s_f_X6_refresh)) (fun o ho => (sg_at ho (s_f_X11_coverNow_1))))
theorem s_f_X11_coverNow {I : xI} {J : xJ} : SG (fun o => o.2.1) I (f_X11_coverNow I J) := by
  unfold f_X11_coverNow; exact (sg_at sx_rf (s_f_X11_coverNow_0))
theorem s_f_X11_classes_1 {I : xI} {J : xJ} : SG (fun o => o.2.1) I (f_X11_classes_1 I J) := by
  unfold f_X11_classes_1; exact (sg_some sx_rf)
theorem s_f_X11_classes_0 {I : xI} {J : xJ} : SG (fun o => o.2.1) I (f_X11_classes_0 I J) := by
  unfold f_X11_classes_0; exact (sg_bind (sg_at sx_rf (s_f_X11_coverNow)) (fun o ho => (sg_at ho (s_f_X11_classes_1))))
theorem s_f_X11_classes {I : xI} {J : xJ} : SG (fun o => o.2.1) I (f_X11_classes I J) := by
  unfold f_X11_classes; exact (sg_at sx_rf (s_f_X11_classes_0))
theorem s_f_X11_greatest_2 {x1 : Int32} {x2 : Int32} {I : xI} {J : xJ} : SG (fun o => o.2.1) I (f_X11_greatest_2 x1 x2 I J) := by
  unfold f_X11_greatest_2; exact (sg_some sx_rf)
theorem s_f_X11_greatest_7 {x1 : Int32} {x2 : Int32} {s0 : Int32} {I : xI} {J : xJ} : SG (fun o => o.2.1) I (f_X11_greatest_7 x1 x2 s0 I J) := by
  unfold f_X11_greatest_7; exact (sg_some sx_rf)
theorem s_f_X11_greatest_6 {x1 : Int32} {x2 : Int32} {I : xI} {J : xJ} : SG (fun o => o.2.1) I (f_X11_greatest_6 x1 x2 I J) := by
  unfold f_X11_greatest_6; exact (sg_at sx_rf (s_f_X11_greatest_7))
theorem s_f_X11_greatest_5 {x1 : Int32} {x2 : Int32} {I : xI} {J : xJ} : SG (fun o => o.2.1) I (f_X11_greatest_5 x1 x2 I J) := by
  unfold f_X11_greatest_5; exact (sg_ite sg_none (sg_at sx_rf (s_f_X11_greatest_7)))
theorem s_f_X11_greatest_4 {x1 : Int32} {x2 : Int32} {I : xI} {J : xJ} : SG (fun o => o.2.1) I (f_X11_greatest_4 x1 x2 I J) := by
  unfold f_X11_greatest_4; exact (sg_ite (sg_at sx_rf (s_f_X11_greatest_6)) (sg_at sx_rf (s_f_X11_greatest_5)))
theorem s_f_X11_greatest_3 {x1 : Int32} {x2 : Int32} {I : xI} {J : xJ} : SG (fun o => o.2.1) I (f_X11_greatest_3 x1 x2 I J) := by
  unfold f_X11_greatest_3; exact (sg_ite (sg_at sx_rf (s_f_X11_greatest_6)) (sg_at sx_rf (s_f_X11_greatest_4)))
theorem s_f_X11_greatest_1 {x1 : Int32} {I : xI} {J : xJ} : SG (fun o => o.2.1) I (f_X11_greatest_1 x1 I J) := by
  unfold f_X11_greatest_1; exact (sg_ite (sg_at sx_rf (s_f_X11_greatest_2)) (sg_at sx_rf (s_f_X11_greatest_3)))
theorem s_f_X11_greatest_0 {x1 : Int32} {I : xI} {J : xJ} : SG (fun o => o.2.1) I (f_X11_greatest_0 x1 I J) := by
  unfold f_X11_greatest_0; exact (sg_bind (sg_at sx_rf (s_f_X11_coverNow)) (fun o ho => (sg_at ho (s_f_X11_greatest_1))))
theorem s_f_X11_greatest {x1 : Int32} {I : xI} {J : xJ} : SG (fun o => o.2.1) I (f_X11_greatest x1 I J) := by
  unfold f_X11_greatest; exact (sg_at sx_rf (s_f_X11_greatest_0))
theorem s_f_X1_refreshFewest_1 {I : xI} {J : xJ} : SG (fun o => o.2.1) I (f_X1_refreshFewest_1 I J) := by
  unfold f_X1_refreshFewest_1; exact (sg_some sx_rf)
theorem s_f_X1_refreshFewest_11 {x1 : Int32} {I : xI} {J : xJ} : SG (fun o => o.2.1) I (f_X1_refreshFewest_11 x1 I J) := by
  unfold f_X1_refreshFewest_11; exact (sg_some sx_rf)
theorem s_f_X1_refreshFewest_10 {x1 : Int32} {I : xI} {J : xJ} : SG (Sum.elim (fun o => o.2.1) (fun o => o.2.1)) I (f_X1_refreshFewest_10 x1 I J) := by
  unfold f_X1_refreshFewest_10; exact (sg_ite sg_none (sg_ite sg_none (sg_ite sg_none (sg_some (sx_upc sx_rf rfl)))))
theorem s_b_X1_refreshFewest_9 {x1 : Int32} {I : xI} {J : xJ} : SG (Sum.elim (fun o => o.2.1) (fun o => o.2.1)) I (b_X1_refreshFewest_9 x1 I J) := by
  unfold b_X1_refreshFewest_9; exact (sg_ite (sg_map (sg_at sx_rf (s_f_X1_refreshFewest_11))) (sg_at sx_rf (s_f_X1_refreshFewest_10)))
theorem s_f_X1_refreshFewest_9 {x1 : Int32} {I : xI} {J : xJ} : SG (fun o => o.2.1) I (f_X1_refreshFewest_9 x1 I J) := by
  unfold f_X1_refreshFewest_9; exact (sg_loop (gs := (fun o => o.2.1)) (fun s => s_b_X1_refreshFewest_9) sx_rf)
theorem s_f_X1_refreshFewest_8 {x1 : Int32} {I : xI} {J : xJ} : SG (fun o => o.2.1) I (f_X1_refreshFewest_8 x1 I J) := by
  unfold f_X1_refreshFewest_8; exact (sg_at sx_rf (s_f_X1_refreshFewest_9))
theorem s_f_X1_choose_16 {self : Int32 → Int32 → Int32 → Int32 → xI → xJ → Option (Int32 × xI × xJ)} {x1 : Int32} {x2 : Int32} {x3 : Int32} {x4 : Int32} {x5 : Int32} {x6 : Int32} {x7 : Int32} {I : xI} {J : xJ} (hs : ∀ (a0 a1 a2 a3 : Int32) (I : xI) (J : xJ), SG (fun o => o.2.1) I (self a0 a1 a2 a3 I J)) : SG (fun o => o.2.1) I (f_X1_choose_16 self x1 x2 x3 x4 x5 x6 x7 I J) := by
  unfold f_X1_choose_16; exact (sg_some sx_rf)
theorem s_f_X1_choose_15 {self : Int32 → Int32 → Int32 → Int32 → xI → xJ → Option (Int32 × xI × xJ)} {x1 : Int32} {x2 : Int32} {x3 : Int32} {x4 : Int32} {x5 : Int32} {x6 : Int32} {x7 : Int32} {I : xI} {J : xJ} (hs : ∀ (a0 a1 a2 a3 : Int32) (I : xI) (J : xJ), SG (fun o => o.2.1) I (self a0 a1 a2 a3 I J)) : SG (Sum.elim (fun o => o.2.2.2.2.2.2.2.1) (fun o => o.2.1)) I (f_X1_choose_15 self x1 x2 x3 x4 x5 x6 x7 I J) := by
  unfold f_X1_choose_15; exact (sg_some sx_rf)
theorem s_f_X1_choose_14 {self : Int32 → Int32 → Int32 → Int32 → xI → xJ → Option (Int32 × xI × xJ)} {x1 : Int32} {x2 : Int32} {x3 : Int32} {x4 : Int32} {x5 : Int32} {x6 : Int32} {x7 : Int32} {I : xI} {J : xJ} (hs : ∀ (a0 a1 a2 a3 : Int32) (I : xI) (J : xJ), SG (fun o => o.2.1) I (self a0 a1 a2 a3 I J)) : SG (fun o => o.2.1) I (f_X1_choose_14 self x1 x2 x3 x4 x5 x6 x7 I J) := by
  unfold f_X1_choose_14; exact (sg_some sx_rf)
theorem s_f_X1_choose_13 {self : Int32 → Int32 → Int32 → Int32 → xI → xJ → Option (Int32 × xI × xJ)} {x1 : Int32} {x2 : Int32} {x3 : Int32} {x4 : Int32} {x5 : Int32} {x6 : Int32} {x7 : Int32} {s0 : Int32} {I : xI} {J : xJ} (hs : ∀ (a0 a1 a2 a3 : Int32) (I : xI) (J : xJ), SG (fun o => o.2.1) I (self a0 a1 a2 a3 I J)) : SG (Sum.elim (fun o => o.2.2.2.2.2.2.2.1) (fun o => o.2.1)) I (f_X1_choose_13 self x1 x2 x3 x4 x5 x6 x7 s0 I J) := by
  unfold f_X1_choose_13; exact (sg_ite (sg_at sx_rf (s_f_X1_choose_15 hs)) (sg_map (sg_at sx_rf (s_f_X1_choose_14 hs))))
theorem s_f_X1_choose_12 {self : Int32 → Int32 → Int32 → Int32 → xI → xJ → Option (Int32 × xI × xJ)} {x1 : Int32} {x2 : Int32} {x3 : Int32} {x4 : Int32} {x5 : Int32} {x6 : Int32} {x7 : Int32} {I : xI} {J : xJ} (hs : ∀ (a0 a1 a2 a3 : Int32) (I : xI) (J : xJ), SG (fun o => o.2.1) I (self a0 a1 a2 a3 I J)) : SG (Sum.elim (fun o => o.2.2.2.2.2.2.2.1) (fun o => o.2.1)) I (f_X1_choose_12 self x1 x2 x3 x4 x5 x6 x7 I J) := by
  unfold f_X1_choose_12; exact (sg_ite sg_none (sg_ite sg_none (sg_bind (sg_at (sx_upc sx_rf rfl) (hs _ _ _ _ _ _)) (fun o ho => (sg_at ho (s_f_X1_choose_13 hs))))))
theorem s_b_X1_choose_11 {self : Int32 → Int32 → Int32 → Int32 → xI → xJ → Option (Int32 × xI × xJ)} {x1 : Int32} {x2 : Int32} {x3 : Int32} {x4 : Int32} {x5 : Int32} {x6 : Int32} {x7 : Int32} {I : xI} {J : xJ} (hs : ∀ (a0 a1 a2 a3 : Int32) (I : xI) (J : xJ), SG (fun o => o.2.1) I (self a0 a1 a2 a3 I J)) : SG (Sum.elim (fun o => o.2.2.2.2.2.2.2.1) (fun o => o.2.1)) I (b_X1_choose_11 self x1 x2 x3 x4 x5 x6 x7 I J) := by
  unfold b_X1_choose_11; exact (sg_ite (sg_map (sg_at sx_rf (s_f_X1_choose_16 hs))) (sg_at sx_rf (s_f_X1_choose_12 hs)))
theorem s_f_X1_choose_11 {self : Int32 → Int32 → Int32 → Int32 → xI → xJ → Option (Int32 × xI × xJ)} {x1 : Int32} {x2 : Int32} {x3 : Int32} {x4 : Int32} {x5 : Int32} {x6 : Int32} {x7 : Int32} {I : xI} {J : xJ} (hs : ∀ (a0 a1 a2 a3 : Int32) (I : xI) (J : xJ), SG (fun o => o.2.1) I (self a0 a1 a2 a3 I J)) : SG (fun o => o.2.1) I (f_X1_choose_11 self x1 x2 x3 x4 x5 x6 x7 I J) := by
  unfold f_X1_choose_11; exact (sg_loop (gs := (fun o => o.2.2.2.2.2.2.2.1)) (fun s => s_b_X1_choose_11 hs) sx_rf)
theorem s_f_X1_choose_10 {self : Int32 → Int32 → Int32 → Int32 → xI → xJ → Option (Int32 × xI × xJ)} {x1 : Int32} {x2 : Int32} {x3 : Int32} {x4 : Int32} {x5 : Int32} {x6 : Int32} {I : xI} {J : xJ} (hs : ∀ (a0 a1 a2 a3 : Int32) (I : xI) (J : xJ), SG (fun o => o.2.1) I (self a0 a1 a2 a3 I J)) : SG (fun o => o.2.1) I (f_X1_choose_10 self x1 x2 x3 x4 x5 x6 I J) := by
  unfold f_X1_choose_10; exact (sg_at sx_rf (s_f_X1_choose_11 hs))
theorem s_f_X1_choose_9 {self : Int32 → Int32 → Int32 → Int32 → xI → xJ → Option (Int32 × xI × xJ)} {x1 : Int32} {x2 : Int32} {x3 : Int32} {x4 : Int32} {x5 : Int32} {x6 : Int32} {I : xI} {J : xJ} (hs : ∀ (a0 a1 a2 a3 : Int32) (I : xI) (J : xJ), SG (fun o => o.2.1) I (self a0 a1 a2 a3 I J)) : SG (fun o => o.2.1) I (f_X1_choose_9 self x1 x2 x3 x4 x5 x6 I J) := by
  unfold f_X1_choose_9; exact (sg_some sx_rf)
theorem s_f_X1_choose_8 {self : Int32 → Int32 → Int32 → Int32 → xI → xJ → Option (Int32 × xI × xJ)} {x1 : Int32} {x2 : Int32} {x3 : Int32} {x4 : Int32} {x5 : Int32} {x6 : Int32} {s0 : Int32} {I : xI} {J : xJ} (hs : ∀ (a0 a1 a2 a3 : Int32) (I : xI) (J : xJ), SG (fun o => o.2.1) I (self a0 a1 a2 a3 I J)) : SG (fun o => o.2.1) I (f_X1_choose_8 self x1 x2 x3 x4 x5 x6 s0 I J) := by
  unfold f_X1_choose_8; exact (sg_ite (sg_at sx_rf (s_f_X1_choose_10 hs)) (sg_at sx_rf (s_f_X1_choose_9 hs)))
theorem s_f_X1_choose_7 {self : Int32 → Int32 → Int32 → Int32 → xI → xJ → Option (Int32 × xI × xJ)} {x1 : Int32} {x2 : Int32} {x3 : Int32} {x4 : Int32} {x5 : Int32} {x6 : Int32} {I : xI} {J : xJ} (hs : ∀ (a0 a1 a2 a3 : Int32) (I : xI) (J : xJ), SG (fun o => o.2.1) I (self a0 a1 a2 a3 I J)) : SG (fun o => o.2.1) I (f_X1_choose_7 self x1 x2 x3 x4 x5 x6 I J) := by
  unfold f_X1_choose_7; exact (sg_bind (sg_at sx_rf (s_f_J6_bitCount_0f7a4)) (fun o ho => (sg_at ho (s_f_X1_choose_8 hs))))
theorem s_f_X1_isClosed_10 {x1 : Int32} {x2 : Int32} {z3 : Option Value} {z4 : Option Value} {I : xI} {J : xJ} : SG (fun o => o.2.1) I (f_X1_isClosed_10 x1 x2 z3 z4 I J) := by
  unfold f_X1_isClosed_10; exact (sg_some sx_rf)
theorem s_f_X1_isClosed_9 {x1 : Int32} {x2 : Int32} {x3 : Int32} {z4 : Option Value} {I : xI} {J : xJ} : SG (Sum.elim (fun o => o.2.2.2.2.1) (fun o => o.2.1)) I (f_X1_isClosed_9 x1 x2 x3 z4 I J) := by
  unfold f_X1_isClosed_9; exact (sg_some sx_rf)
theorem s_f_X1_isClosed_8 {x1 : Int32} {x2 : Int32} {x3 : Int32} {x4 : Int32} {I : xI} {J : xJ} : SG (Sum.elim (fun o => o.2.2.2.2.1) (Sum.elim (fun o => o.2.2.2.2.1) (fun o => o.2.1))) I (f_X1_isClosed_8 x1 x2 x3 x4 I J) := by
  unfold f_X1_isClosed_8; exact (sg_some sx_rf)
theorem s_f_X1_isInChosen_5 {x1 : Int32} {x2 : Int32} {x3 : Int32} {I : xI} {J : xJ} : SG (fun o => o.2.1) I (f_X1_isInChosen_5 x1 x2 x3 I J) := by
  unfold f_X1_isInChosen_5; exact (sg_some sx_rf)
theorem s_f_X1_isInChosen_3 {x1 : Int32} {x2 : Int32} {x3 : Int32} {I : xI} {J : xJ} : SG (fun o => o.2.1) I (f_X1_isInChosen_3 x1 x2 x3 I J) := by
  unfold f_X1_isInChosen_3; exact (sg_some sx_rf)
theorem s_f_X1_isInChosen_4 {x1 : Int32} {x2 : Int32} {x3 : Int32} {I : xI} {J : xJ} : SG (Sum.elim (fun o => o.2.2.2.1) (fun o => o.2.1)) I (f_X1_isInChosen_4 x1 x2 x3 I J) := by
  unfold f_X1_isInChosen_4; exact (sg_some sx_rf)
theorem s_f_X1_isInChosen_2 {x1 : Int32} {x2 : Int32} {x3 : Int32} {I : xI} {J : xJ} : SG (Sum.elim (fun o => o.2.2.2.1) (fun o => o.2.1)) I (f_X1_isInChosen_2 x1 x2 x3 I J) := by
  unfold f_X1_isInChosen_2; exact (sg_ite sg_none (sg_ite sg_none (sg_ite (sg_map (sg_at sx_rf (s_f_X1_isInChosen_3))) (sg_at sx_rf (s_f_X1_isInChosen_4)))))
theorem s_b_X1_isInChosen_1 {x1 : Int32} {x2 : Int32} {x3 : Int32} {I : xI} {J : xJ} : SG (Sum.elim (fun o => o.2.2.2.1) (fun o => o.2.1)) I (b_X1_isInChosen_1 x1 x2 x3 I J) := by
  unfold b_X1_isInChosen_1; exact (sg_ite (sg_map (sg_at sx_rf (s_f_X1_isInChosen_5))) (sg_at sx_rf (s_f_X1_isInChosen_2)))
theorem s_f_X1_isInChosen_1 {x1 : Int32} {x2 : Int32} {x3 : Int32} {I : xI} {J : xJ} : SG (fun o => o.2.1) I (f_X1_isInChosen_1 x1 x2 x3 I J) := by
  unfold f_X1_isInChosen_1; exact (sg_loop (gs := (fun o => o.2.2.2.1)) (fun s => s_b_X1_isInChosen_1) sx_rf)
theorem s_f_X1_isInChosen_0 {x1 : Int32} {x2 : Int32} {I : xI} {J : xJ} : SG (fun o => o.2.1) I (f_X1_isInChosen_0 x1 x2 I J) := by
  unfold f_X1_isInChosen_0; exact (sg_at sx_rf (s_f_X1_isInChosen_1))
theorem s_f_X1_isInChosen {x1 : Int32} {x2 : Int32} {I : xI} {J : xJ} : SG (fun o => o.2.1) I (f_X1_isInChosen x1 x2 I J) := by
  unfold f_X1_isInChosen; exact (sg_at sx_rf (s_f_X1_isInChosen_0))
theorem s_f_X1_isClosed_7 {x1 : Int32} {x2 : Int32} {x3 : Int32} {x4 : Int32} {I : xI} {J : xJ} : SG (fun o => o.2.1) I (f_X1_isClosed_7 x1 x2 x3 x4 I J) := by
  unfold f_X1_isClosed_7; exact (sg_some sx_rf)
theorem s_f_X1_isClosed_6 {x1 : Int32} {x2 : Int32} {x3 : Int32} {x4 : Int32} {s0 : Int32} {I : xI} {J : xJ} : SG (Sum.elim (fun o => o.2.2.2.2.1) (Sum.elim (fun o => o.2.2.2.2.1) (fun o => o.2.1))) I (f_X1_isClosed_6 x1 x2 x3 x4 s0 I J) := by
  unfold f_X1_isClosed_6; exact (sg_ite (sg_map (sg_map (sg_at sx_rf (s_f_X1_isClosed_7)))) (sg_at sx_rf (s_f_X1_isClosed_8)))
theorem s_f_X1_isClosed_5 {x1 : Int32} {x2 : Int32} {x3 : Int32} {x4 : Int32} {I : xI} {J : xJ} : SG (Sum.elim (fun o => o.2.2.2.2.1) (Sum.elim (fun o => o.2.2.2.2.1) (fun o => o.2.1))) I (f_X1_isClosed_5 x1 x2 x3 x4 I J) := by
  unfold f_X1_isClosed_5; exact (sg_bind (sg_at sx_rf (s_f_X1_isInChosen)) (fun o ho => (sg_at ho (s_f_X1_isClosed_6))))
theorem s_f_X1_isClosed_4 {x1 : Int32} {x2 : Int32} {x3 : Int32} {z4 : Option Value} {I : xI} {J : xJ} : SG (Sum.elim (fun o => o.2.2.2.2.1) (Sum.elim (fun o => o.2.2.2.2.1) (fun o => o.2.1))) I (f_X1_isClosed_4 x1 x2 x3 z4 I J) := by
  unfold f_X1_isClosed_4; exact (sg_ite sg_none (sg_ite sg_none (sg_ite (sg_at sx_rf (s_f_X1_isClosed_8)) (sg_at sx_rf (s_f_X1_isClosed_5)))))
theorem s_b_X1_isClosed_3 {x1 : Int32} {x2 : Int32} {x3 : Int32} {z4 : Option Value} {I : xI} {J : xJ} : SG (Sum.elim (fun o => o.2.2.2.2.1) (Sum.elim (fun o => o.2.2.2.2.1) (fun o => o.2.1))) I (b_X1_isClosed_3 x1 x2 x3 z4 I J) := by
  unfold b_X1_isClosed_3; exact (sg_ite (sg_map (sg_at sx_rf (s_f_X1_isClosed_9))) (sg_at sx_rf (s_f_X1_isClosed_4)))
theorem s_f_X1_isClosed_3 {x1 : Int32} {x2 : Int32} {x3 : Int32} {z4 : Option Value} {I : xI} {J : xJ} : SG (Sum.elim (fun o => o.2.2.2.2.1) (fun o => o.2.1)) I (f_X1_isClosed_3 x1 x2 x3 z4 I J) := by
  unfold f_X1_isClosed_3; exact (sg_loop (gs := (fun o => o.2.2.2.2.1)) (fun s => s_b_X1_isClosed_3) sx_rf)
theorem s_f_X1_isClosed_2 {x1 : Int32} {x2 : Int32} {z3 : Option Value} {z4 : Option Value} {I : xI} {J : xJ} : SG (Sum.elim (fun o => o.2.2.2.2.1) (fun o => o.2.1)) I (f_X1_isClosed_2 x1 x2 z3 z4 I J) := by
  unfold f_X1_isClosed_2; exact (sg_at sx_rf (s_f_X1_isClosed_3))
theorem s_b_X1_isClosed_1 {x1 : Int32} {x2 : Int32} {z3 : Option Value} {z4 : Option Value} {I : xI} {J : xJ} : SG (Sum.elim (fun o => o.2.2.2.2.1) (fun o => o.2.1)) I (b_X1_isClosed_1 x1 x2 z3 z4 I J) := by
  unfold b_X1_isClosed_1; exact (sg_ite (sg_map (sg_at sx_rf (s_f_X1_isClosed_10))) (sg_at sx_rf (s_f_X1_isClosed_2)))
theorem s_f_X1_isClosed_1 {x1 : Int32} {x2 : Int32} {z3 : Option Value} {z4 : Option Value} {I : xI} {J : xJ} : SG (fun o => o.2.1) I (f_X1_isClosed_1 x1 x2 z3 z4 I J) := by
  unfold f_X1_isClosed_1; exact (sg_loop (gs := (fun o => o.2.2.2.2.1)) (fun s => s_b_X1_isClosed_1) sx_rf)
theorem s_f_X1_isClosed_0 {x1 : Int32} {I : xI} {J : xJ} : SG (fun o => o.2.1) I (f_X1_isClosed_0 x1 I J) := by
  unfold f_X1_isClosed_0; exact (sg_at sx_rf (s_f_X1_isClosed_1))
theorem s_f_X1_isClosed {x1 : Int32} {I : xI} {J : xJ} : SG (fun o => o.2.1) I (f_X1_isClosed x1 I J) := by
  unfold f_X1_isClosed; exact (sg_at sx_rf (s_f_X1_isClosed_0))
theorem s_f_X1_choose_6 {self : Int32 → Int32 → Int32 → Int32 → xI → xJ → Option (Int32 × xI × xJ)} {x1 : Int32} {x2 : Int32} {x3 : Int32} {x4 : Int32} {x5 : Int32} {x6 : Int32} {s0 : Int32} {I : xI} {J : xJ} (hs : ∀ (a0 a1 a2 a3 : Int32) (I : xI) (J : xJ), SG (fun o => o.2.1) I (self a0 a1 a2 a3 I J)) : SG (fun o => o.2.1) I (f_X1_choose_6 self x1 x2 x3 x4 x5 x6 s0 I J) := by
  unfold f_X1_choose_6; exact (sg_ite (sg_some sx_rf) sg_none)
theorem s_f_X1_choose_5 {self : Int32 → Int32 → Int32 → Int32 → xI → xJ → Option (Int32 × xI × xJ)} {x1 : Int32} {x2 : Int32} {x3 : Int32} {x4 : Int32} {x5 : Int32} {x6 : Int32} {I : xI} {J : xJ} (hs : ∀ (a0 a1 a2 a3 : Int32) (I : xI) (J : xJ), SG (fun o => o.2.1) I (self a0 a1 a2 a3 I J)) : SG (fun o => o.2.1) I (f_X1_choose_5 self x1 x2 x3 x4 x5 x6 I J) := by
  unfold f_X1_choose_5; exact (sg_at sx_rf (s_f_X1_choose_6 hs))
theorem s_f_X1_choose_4 {self : Int32 → Int32 → Int32 → Int32 → xI → xJ → Option (Int32 × xI × xJ)} {x1 : Int32} {x2 : Int32} {x3 : Int32} {x4 : Int32} {x5 : Int32} {x6 : Int32} {I : xI} {J : xJ} (hs : ∀ (a0 a1 a2 a3 : Int32) (I : xI) (J : xJ), SG (fun o => o.2.1) I (self a0 a1 a2 a3 I J)) : SG (fun o => o.2.1) I (f_X1_choose_4 self x1 x2 x3 x4 x5 x6 I J) := by
  unfold f_X1_choose_4; exact (sg_at sx_rf (s_f_X1_choose_6 hs))
theorem s_f_X1_choose_3 {self : Int32 → Int32 → Int32 → Int32 → xI → xJ → Option (Int32 × xI × xJ)} {x1 : Int32} {x2 : Int32} {x3 : Int32} {x4 : Int32} {x5 : Int32} {x6 : Int32} {s0 : Int32} {I : xI} {J : xJ} (hs : ∀ (a0 a1 a2 a3 : Int32) (I : xI) (J : xJ), SG (fun o => o.2.1) I (self a0 a1 a2 a3 I J)) : SG (fun o => o.2.1) I (f_X1_choose_3 self x1 x2 x3 x4 x5 x6 s0 I J) := by
  unfold f_X1_choose_3; exact (sg_ite (sg_at sx_rf (s_f_X1_choose_5 hs)) (sg_at sx_rf (s_f_X1_choose_4 hs)))
theorem s_f_X1_choose_2 {self : Int32 → Int32 → Int32 → Int32 → xI → xJ → Option (Int32 × xI × xJ)} {x1 : Int32} {x2 : Int32} {x3 : Int32} {x4 : Int32} {x5 : Int32} {x6 : Int32} {I : xI} {J : xJ} (hs : ∀ (a0 a1 a2 a3 : Int32) (I : xI) (J : xJ), SG (fun o => o.2.1) I (self a0 a1 a2 a3 I J)) : SG (fun o => o.2.1) I (f_X1_choose_2 self x1 x2 x3 x4 x5 x6 I J) := by
  unfold f_X1_choose_2; exact (sg_bind (sg_at sx_rf (s_f_X1_isClosed)) (fun o ho => (sg_at ho (s_f_X1_choose_3 hs))))
theorem s_f_X1_choose_1 {self : Int32 → Int32 → Int32 → Int32 → xI → xJ → Option (Int32 × xI × xJ)} {x1 : Int32} {x2 : Int32} {x3 : Int32} {x4 : Int32} {x5 : Int32} {x6 : Int32} {I : xI} {J : xJ} (hs : ∀ (a0 a1 a2 a3 : Int32) (I : xI) (J : xJ), SG (fun o => o.2.1) I (self a0 a1 a2 a3 I J)) : SG (fun o => o.2.1) I (f_X1_choose_1 self x1 x2 x3 x4 x5 x6 I J) := by
  unfold f_X1_choose_1; exact (sg_ite (sg_at sx_rf (s_f_X1_choose_2 hs)) (sg_at sx_rf (s_f_X1_choose_5 hs)))
theorem s_f_X1_choose_0 {self : Int32 → Int32 → Int32 → Int32 → xI → xJ → Option (Int32 × xI × xJ)} {x1 : Int32} {x2 : Int32} {x3 : Int32} {x4 : Int32} {I : xI} {J : xJ} (hs : ∀ (a0 a1 a2 a3 : Int32) (I : xI) (J : xJ), SG (fun o => o.2.1) I (self a0 a1 a2 a3 I J)) : SG (fun o => o.2.1) I (f_X1_choose_0 self x1 x2 x3 x4 I J) := by
  unfold f_X1_choose_0; exact (sg_ite (sg_at sx_rf (s_f_X1_choose_7 hs)) (sg_at sx_rf (s_f_X1_choose_1 hs)))
theorem s_f_X1_choose : ∀ (r : Nat) {x0 x1 x2 x3 : Int32} {I : xI} {J : xJ}, SG (fun o => o.2.1) I (f_X1_choose r x0 x1 x2 x3 I J) := by
  intro r
  induction r with
  | zero => intros; exact sg_none
  | succ r ih => intros; exact s_f_X1_choose_0 (fun _ _ _ _ _ _ => ih)
theorem s_f_X1_refreshFewest_7 {x1 : Int32} {I : xI} {J : xJ} : SG (Sum.elim (fun o => o.2.1) (fun o => o.2.1)) I (f_X1_refreshFewest_7 x1 I J) := by
  unfold f_X1_refreshFewest_7; exact (sg_some sx_rf)
theorem s_f_X1_refreshFewest_6 {x1 : Int32} {I : xI} {J : xJ} : SG (fun o => o.2.1) I (f_X1_refreshFewest_6 x1 I J) := by
  unfold f_X1_refreshFewest_6; exact (sg_at (sx_up sx_rf rfl) (s_f_X1_refreshFewest_8))
theorem s_f_X1_refreshFewest_5 {x1 : Int32} {s0 : Int32} {I : xI} {J : xJ} : SG (Sum.elim (fun o => o.2.1) (fun o => o.2.1)) I (f_X1_refreshFewest_5 x1 s0 I J) := by
  unfold f_X1_refreshFewest_5; exact (sg_ite (sg_at sx_rf (s_f_X1_refreshFewest_7)) (sg_map (sg_at sx_rf (s_f_X1_refreshFewest_6))))
theorem s_f_X1_refreshFewest_4 {x1 : Int32} {I : xI} {J : xJ} : SG (Sum.elim (fun o => o.2.1) (fun o => o.2.1)) I (f_X1_refreshFewest_4 x1 I J) := by
  unfold f_X1_refreshFewest_4; exact (sg_bind (sg_at sx_rf (s_f_X1_choose _)) (fun o ho => (sg_at ho (s_f_X1_refreshFewest_5))))
theorem s_b_X1_refreshFewest_3 {x1 : Int32} {I : xI} {J : xJ} : SG (Sum.elim (fun o => o.2.1) (fun o => o.2.1)) I (b_X1_refreshFewest_3 x1 I J) := by
  unfold b_X1_refreshFewest_3; exact (sg_ite (sg_map (sg_at sx_rf (s_f_X1_refreshFewest_8))) (sg_at sx_rf (s_f_X1_refreshFewest_4)))
theorem s_f_X1_refreshFewest_3 {x1 : Int32} {I : xI} {J : xJ} : SG (fun o => o.2.1) I (f_X1_refreshFewest_3 x1 I J) := by
  unfold f_X1_refreshFewest_3; exact (sg_loop (gs := (fun o => o.2.1)) (fun s => s_b_X1_refreshFewest_3) sx_rf)
theorem s_f_X1_refreshFewest_2 {I : xI} {J : xJ} : SG (fun o => o.2.1) I (f_X1_refreshFewest_2 I J) := by
  unfold f_X1_refreshFewest_2; exact (sg_at (sx_up (sx_age sx_rf (by decide)) rfl) (s_f_X1_refreshFewest_3))
theorem s_f_X1_refreshFewest_0 {I : xI} {J : xJ} : SG (fun o => o.2.1) I (f_X1_refreshFewest_0 I J) := by
  unfold f_X1_refreshFewest_0; exact (sg_ite (sg_at sx_rf (s_f_X1_refreshFewest_1)) (sg_at sx_rf (s_f_X1_refreshFewest_2)))
theorem s_f_X1_refreshFewest {I : xI} {J : xJ} : SG (fun o => o.2.1) I (f_X1_refreshFewest I J) := by
  unfold f_X1_refreshFewest; exact (sg_at sx_rf (s_f_X1_refreshFewest_0))
theorem s_f_X11_fewestNow_3 {I : xI} {J : xJ} : SG (fun o => o.2.1) I (f_X11_fewestNow_3 I J) := by
  unfold f_X11_fewestNow_3; exact (sg_some sx_rf)
theorem s_f_X11_fewestNow_2 {I : xI} {J : xJ} : SG (fun o => o.2.1) I (f_X11_fewestNow_2 I J) := by
  unfold f_X11_fewestNow_2; exact (sg_bind (sg_at sx_rf (s_f_X1_refreshFewest)) (fun o ho => (sg_at ho (s_f_X11_fewestNow_3))))
theorem s_f_X11_fewestNow_1 {I : xI} {J : xJ} : SG (fun o => o.2.1) I (f_X11_fewestNow_1 I J) := by
  unfold f_X11_fewestNow_1; exact (sg_bind (sg_at sx_rf (s_f_X1_refresh)) (fun o ho => (sg_at ho (s_f_X11_fewestNow_2))))
theorem s_f_X11_fewestNow_0 {I : xI} {J : xJ} : SG (fun o => o.2.1) I (f_X11_fewestNow_0 I J) := by
  unfold f_X11_fewestNow_0; exact (sg_bind (sg_at sx_rf (s_f_X6_refresh)) (fun o ho => (sg_at ho (s_f_X11_fewestNow_1))))
theorem s_f_X11_fewestNow {I : xI} {J : xJ} : SG (fun o => o.2.1) I (f_X11_fewestNow I J) := by
  unfold f_X11_fewestNow; exact (sg_at sx_rf (s_f_X11_fewestNow_0))
theorem s_f_X11_fewest_2 {x1 : Int32} {x2 : Int32} {I : xI} {J : xJ} : SG (fun o => o.2.1) I (f_X11_fewest_2 x1 x2 I J) := by
  unfold f_X11_fewest_2; exact (sg_some sx_rf)
theorem s_f_X11_fewest_7 {x1 : Int32} {x2 : Int32} {s0 : Int32} {I : xI} {J : xJ} : SG (fun o => o.2.1) I (f_X11_fewest_7 x1 x2 s0 I J) := by
  unfold f_X11_fewest_7; exact (sg_some sx_rf)
theorem s_f_X11_fewest_6 {x1 : Int32} {x2 : Int32} {I : xI} {J : xJ} : SG (fun o => o.2.1) I (f_X11_fewest_6 x1 x2 I J) := by
  unfold f_X11_fewest_6; exact (sg_at sx_rf (s_f_X11_fewest_7))
theorem s_f_X11_fewest_5 {x1 : Int32} {x2 : Int32} {I : xI} {J : xJ} : SG (fun o => o.2.1) I (f_X11_fewest_5 x1 x2 I J) := by
  unfold f_X11_fewest_5; exact (sg_ite sg_none (sg_at sx_rf (s_f_X11_fewest_7)))
theorem s_f_X11_fewest_4 {x1 : Int32} {x2 : Int32} {I : xI} {J : xJ} : SG (fun o => o.2.1) I (f_X11_fewest_4 x1 x2 I J) := by
  unfold f_X11_fewest_4; exact (sg_ite (sg_at sx_rf (s_f_X11_fewest_6)) (sg_at sx_rf (s_f_X11_fewest_5)))
theorem s_f_X11_fewest_3 {x1 : Int32} {x2 : Int32} {I : xI} {J : xJ} : SG (fun o => o.2.1) I (f_X11_fewest_3 x1 x2 I J) := by
  unfold f_X11_fewest_3; exact (sg_ite (sg_at sx_rf (s_f_X11_fewest_6)) (sg_at sx_rf (s_f_X11_fewest_4)))
theorem s_f_X11_fewest_1 {x1 : Int32} {I : xI} {J : xJ} : SG (fun o => o.2.1) I (f_X11_fewest_1 x1 I J) := by
  unfold f_X11_fewest_1; exact (sg_ite (sg_at sx_rf (s_f_X11_fewest_2)) (sg_at sx_rf (s_f_X11_fewest_3)))
theorem s_f_X11_fewest_0 {x1 : Int32} {I : xI} {J : xJ} : SG (fun o => o.2.1) I (f_X11_fewest_0 x1 I J) := by
  unfold f_X11_fewest_0; exact (sg_bind (sg_at sx_rf (s_f_X11_fewestNow)) (fun o ho => (sg_at ho (s_f_X11_fewest_1))))
theorem s_f_X11_fewest {x1 : Int32} {I : xI} {J : xJ} : SG (fun o => o.2.1) I (f_X11_fewest x1 I J) := by
  unfold f_X11_fewest; exact (sg_at sx_rf (s_f_X11_fewest_0))
theorem s_f_X11_isClass_3 {x1 : Int32} {I : xI} {J : xJ} : SG (fun o => o.2.1) I (f_X11_isClass_3 x1 I J) := by
  unfold f_X11_isClass_3; exact (sg_some sx_rf)
theorem s_f_X5_hasSet_4 {x1 : Int32} {s0 : Int32} {I : xI} {J : xJ} : SG (fun o => o.2.1) I (f_X5_hasSet_4 x1 s0 I J) := by
  unfold f_X5_hasSet_4; exact (sg_ite (sg_some sx_rf) sg_none)
theorem s_f_X5_hasSet_3 {x1 : Int32} {I : xI} {J : xJ} : SG (fun o => o.2.1) I (f_X5_hasSet_3 x1 I J) := by
  unfold f_X5_hasSet_3; exact (sg_at sx_rf (s_f_X5_hasSet_4))
theorem s_f_X5_hasSet_2 {x1 : Int32} {I : xI} {J : xJ} : SG (fun o => o.2.1) I (f_X5_hasSet_2 x1 I J) := by
  unfold f_X5_hasSet_2; exact (sg_at sx_rf (s_f_X5_hasSet_4))
theorem s_f_X5_hasSet_1 {x1 : Int32} {I : xI} {J : xJ} : SG (fun o => o.2.1) I (f_X5_hasSet_1 x1 I J) := by
  unfold f_X5_hasSet_1; exact (sg_ite (sg_at sx_rf (s_f_X5_hasSet_3)) (sg_at sx_rf (s_f_X5_hasSet_2)))
theorem s_f_X5_hasSet_0 {x1 : Int32} {I : xI} {J : xJ} : SG (fun o => o.2.1) I (f_X5_hasSet_0 x1 I J) := by
  unfold f_X5_hasSet_0; exact (sg_ite (sg_at sx_rf (s_f_X5_hasSet_3)) (sg_at sx_rf (s_f_X5_hasSet_1)))
theorem s_f_X5_hasSet {x1 : Int32} {I : xI} {J : xJ} : SG (fun o => o.2.1) I (f_X5_hasSet x1 I J) := by
  unfold f_X5_hasSet; exact (sg_at sx_rf (s_f_X5_hasSet_0))
theorem s_f_X11_isClass_8 {x1 : Int32} {s0 : Int32} {I : xI} {J : xJ} : SG (fun o => o.2.1) I (f_X11_isClass_8 x1 s0 I J) := by
  unfold f_X11_isClass_8; exact (sg_some sx_rf)
theorem s_f_X11_isClass_7 {x1 : Int32} {I : xI} {J : xJ} : SG (fun o => o.2.1) I (f_X11_isClass_7 x1 I J) := by
  unfold f_X11_isClass_7; exact (sg_at sx_rf (s_f_X11_isClass_8))
theorem s_f_X11_isClass_6 {x1 : Int32} {I : xI} {J : xJ} : SG (fun o => o.2.1) I (f_X11_isClass_6 x1 I J) := by
  unfold f_X11_isClass_6; exact (sg_at sx_rf (s_f_X11_isClass_8))
theorem s_f_X11_isClass_5 {x1 : Int32} {I : xI} {J : xJ} : SG (fun o => o.2.1) I (f_X11_isClass_5 x1 I J) := by
  unfold f_X11_isClass_5; exact (sg_ite sg_none (sg_ite (sg_at sx_rf (s_f_X11_isClass_7)) (sg_at sx_rf (s_f_X11_isClass_6))))
theorem s_f_X11_isClass_4 {x1 : Int32} {I : xI} {J : xJ} : SG (fun o => o.2.1) I (f_X11_isClass_4 x1 I J) := by
  unfold f_X11_isClass_4; exact (sg_bind (sg_at sx_rf (s_f_X11_coverNow)) (fun o ho => (sg_at ho (s_f_X11_isClass_5))))
theorem s_f_X11_isClass_2 {x1 : Int32} {s0 : Int32} {I : xI} {J : xJ} : SG (fun o => o.2.1) I (f_X11_isClass_2 x1 s0 I J) := by
  unfold f_X11_isClass_2; exact (sg_ite (sg_at sx_rf (s_f_X11_isClass_3)) (sg_at sx_rf (s_f_X11_isClass_4)))
theorem s_f_X11_isClass_1 {x1 : Int32} {I : xI} {J : xJ} : SG (fun o => o.2.1) I (f_X11_isClass_1 x1 I J) := by
  unfold f_X11_isClass_1; exact (sg_bind (sg_at sx_rf (s_f_X5_hasSet)) (fun o ho => (sg_at ho (s_f_X11_isClass_2))))
