/-! what was seen is old or now, piece 3 -/
theorem s_f_X3_load_4_16 {x2 : Int32} {x3 : Int32} {x4 : Int32} {x5 : Int32} {I : xI} {J : xJ} : SG (Sum.elim (fun o => o.2.2.2.2.1) (fun o => o.2.1)) I (f_X3_load_4_16 x2 x3 x4 x5 I J) := by
  unfold f_X3_load_4_16; exact (sg_bind (sg_at sx_rf (s_f_X6_followed)) (fun o ho => (sg_at ho (s_f_X3_load_4_17))))
theorem s_f_X3_load_4_15 {x2 : Int32} {x3 : Int32} {x4 : Int32} {x5 : Int32} {s0 : Int32} {s1 : Int32} {I : xI} {J : xJ} : SG (Sum.elim (fun o => o.2.2.2.2.1) (Sum.elim (fun o => o.2.2.2.2.1) (fun o => o.2.1))) I (f_X3_load_4_15 x2 x3 x4 x5 s0 s1 I J) := by
  unfold f_X3_load_4_15; exact (sg_some sx_rf)
theorem s_f_X3_load_4_13 {x2 : Int32} {x3 : Int32} {x4 : Int32} {x5 : Int32} {s0 : Int32} {I : xI} {J : xJ} : SG (Sum.elim (fun o => o.2.2.2.2.1) (Sum.elim (fun o => o.2.2.2.2.1) (fun o => o.2.1))) I (f_X3_load_4_13 x2 x3 x4 x5 s0 I J) := by
  unfold f_X3_load_4_13; exact (sg_ite sg_none (sg_at sx_rf (s_f_X3_load_4_15)))
theorem s_f_X3_load_4_14 {x2 : Int32} {x3 : Int32} {x4 : Int32} {x5 : Int32} {s0 : Int32} {I : xI} {J : xJ} : SG (Sum.elim (fun o => o.2.2.2.2.1) (Sum.elim (fun o => o.2.2.2.2.1) (fun o => o.2.1))) I (f_X3_load_4_14 x2 x3 x4 x5 s0 I J) := by
  unfold f_X3_load_4_14; exact (sg_at sx_rf (s_f_X3_load_4_15))
theorem s_f_X3_load_4_12 {x2 : Int32} {x3 : Int32} {x4 : Int32} {x5 : Int32} {I : xI} {J : xJ} : SG (Sum.elim (fun o => o.2.2.2.2.1) (Sum.elim (fun o => o.2.2.2.2.1) (fun o => o.2.1))) I (f_X3_load_4_12 x2 x3 x4 x5 I J) := by
  unfold f_X3_load_4_12; exact (sg_ite (sg_at sx_rf (s_f_X3_load_4_13)) (sg_at sx_rf (s_f_X3_load_4_14)))
theorem s_f_X3_load_4_11 {x2 : Int32} {x3 : Int32} {x4 : Int32} {x5 : Int32} {s0 : Int32} {s1 : Int32} {I : xI} {J : xJ} : SG (Sum.elim (fun o => o.2.2.2.2.1) (Sum.elim (fun o => o.2.2.2.2.1) (fun o => o.2.1))) I (f_X3_load_4_11 x2 x3 x4 x5 s0 s1 I J) := by
  unfold f_X3_load_4_11; exact (sg_ite (sg_map (sg_at sx_rf (s_f_X3_load_4_16))) (sg_at sx_rf (s_f_X3_load_4_12)))
theorem s_b_X3_load_4_10 {x2 : Int32} {x3 : Int32} {x4 : Int32} {x5 : Int32} {I : xI} {J : xJ} : SG (Sum.elim (fun o => o.2.2.2.2.1) (Sum.elim (fun o => o.2.2.2.2.1) (fun o => o.2.1))) I (b_X3_load_4_10 x2 x3 x4 x5 I J) := by
  unfold b_X3_load_4_10; exact (sg_bind (sg_at sx_rf (s_f_X5_bits)) (fun o ho => (sg_at ho (s_f_X3_load_4_11))))
theorem s_f_X3_load_4_10 {x2 : Int32} {x3 : Int32} {x4 : Int32} {x5 : Int32} {I : xI} {J : xJ} : SG (Sum.elim (fun o => o.2.2.2.2.1) (fun o => o.2.1)) I (f_X3_load_4_10 x2 x3 x4 x5 I J) := by
  unfold f_X3_load_4_10; exact (sg_loop (gs := (fun o => o.2.2.2.2.1)) (fun s => s_b_X3_load_4_10) sx_rf)
theorem s_f_X3_load_4_9 {x2 : Int32} {x3 : Int32} {z4 : Option Value} {z5 : Option Value} {I : xI} {J : xJ} : SG (Sum.elim (fun o => o.2.2.2.2.1) (fun o => o.2.1)) I (f_X3_load_4_9 x2 x3 z4 z5 I J) := by
  unfold f_X3_load_4_9; exact (sg_at sx_rf (s_f_X3_load_4_10))
theorem s_f_X3_load_4_8 {x2 : Int32} {x3 : Int32} {z4 : Option Value} {z5 : Option Value} {s0 : Int32} {s1 : Int32} {s2 : Int32} {I : xI} {J : xJ} : SG (Sum.elim (fun o => o.2.2.2.2.1) (fun o => o.2.1)) I (f_X3_load_4_8 x2 x3 z4 z5 s0 s1 s2 I J) := by
  unfold f_X3_load_4_8; exact (sg_ite (sg_map (sg_at sx_rf (s_f_X3_load_4_18))) (sg_at sx_rf (s_f_X3_load_4_9)))
theorem s_b_X3_load_4_7 {x2 : Int32} {x3 : Int32} {z4 : Option Value} {z5 : Option Value} {I : xI} {J : xJ} : SG (Sum.elim (fun o => o.2.2.2.2.1) (fun o => o.2.1)) I (b_X3_load_4_7 x2 x3 z4 z5 I J) := by
  unfold b_X3_load_4_7; exact (sg_bind (sg_at sx_rf (s_f_X5_bits)) (fun o ho => (sg_at ho (s_f_X3_load_4_8))))
theorem s_f_X3_load_4_7 {x2 : Int32} {x3 : Int32} {z4 : Option Value} {z5 : Option Value} {I : xI} {J : xJ} : SG (fun o => o.2.1) I (f_X3_load_4_7 x2 x3 z4 z5 I J) := by
  unfold f_X3_load_4_7; exact (sg_loop (gs := (fun o => o.2.2.2.2.1)) (fun s => s_b_X3_load_4_7) sx_rf)
theorem s_f_X3_load_4_6 {x2 : Int32} {x3 : Int32} {I : xI} {J : xJ} : SG (fun o => o.2.1) I (f_X3_load_4_6 x2 x3 I J) := by
  unfold f_X3_load_4_6; exact (sg_at sx_rf (s_f_X3_load_4_7))
theorem s_f_X3_load_4_5 {x2 : Int32} {x3 : Int32} {s1 : Int32} {s2 : Int32} {I : xI} {J : xJ} : SG (Sum.elim (fun o => o.2.2.1) (fun o => o.2.1)) I (f_X3_load_4_5 x2 x3 s1 s2 I J) := by
  unfold f_X3_load_4_5; exact (sg_ite sg_none (sg_some (sx_upc sx_rf rfl)))
theorem s_f_X3_load_4_4 {x2 : Int32} {x3 : Int32} {I : xI} {J : xJ} : SG (Sum.elim (fun o => o.2.2.1) (fun o => o.2.1)) I (f_X3_load_4_4 x2 x3 I J) := by
  unfold f_X3_load_4_4; exact (sg_bind (sg_at sx_rf (s_f_X3_alikePairs_4)) (fun o ho => (sg_at ho (s_f_X3_load_4_5))))
theorem s_f_X3_load_4_3 {x2 : Int32} {x3 : Int32} {s0 : Int32} {s1 : Int32} {I : xI} {J : xJ} : SG (Sum.elim (fun o => o.2.2.1) (fun o => o.2.1)) I (f_X3_load_4_3 x2 x3 s0 s1 I J) := by
  unfold f_X3_load_4_3; exact (sg_ite (sg_map (sg_at sx_rf (s_f_X3_load_4_6))) (sg_at sx_rf (s_f_X3_load_4_4)))
theorem s_b_X3_load_4_2 {x2 : Int32} {x3 : Int32} {I : xI} {J : xJ} : SG (Sum.elim (fun o => o.2.2.1) (fun o => o.2.1)) I (b_X3_load_4_2 x2 x3 I J) := by
  unfold b_X3_load_4_2; exact (sg_bind (sg_at sx_rf (s_f_X5_bits)) (fun o ho => (sg_at ho (s_f_X3_load_4_3))))
theorem s_f_X3_load_4_2 {x2 : Int32} {x3 : Int32} {I : xI} {J : xJ} : SG (fun o => o.2.1) I (f_X3_load_4_2 x2 x3 I J) := by
  unfold f_X3_load_4_2; exact (sg_loop (gs := (fun o => o.2.2.1)) (fun s => s_b_X3_load_4_2) sx_rf)
theorem s_f_X3_load_4_1 {s0 : Int32} {I : xI} {J : xJ} : SG (fun o => o.2.1) I (f_X3_load_4_1 s0 I J) := by
  unfold f_X3_load_4_1; exact (sg_at sx_rf (s_f_X3_load_4_2))
theorem s_f_X3_load_4_0 {I : xI} {J : xJ} : SG (fun o => o.2.1) I (f_X3_load_4_0 I J) := by
  unfold f_X3_load_4_0; exact (sg_bind (sg_at sx_rf (s_f_X3_alikePairs_4)) (fun o ho => (sg_at ho (s_f_X3_load_4_1))))
theorem s_f_X3_load_4 {I : xI} {J : xJ} : SG (fun o => o.2.1) I (f_X3_load_4 I J) := by
  unfold f_X3_load_4; exact (sg_at sx_rf (s_f_X3_load_4_0))
theorem s_f_X11_hangingNow_2 {I : xI} {J : xJ} : SG (fun o => o.2.1) I (f_X11_hangingNow_2 I J) := by
  unfold f_X11_hangingNow_2; exact (sg_some sx_rf)
theorem s_f_X11_hangingNow_1 {I : xI} {J : xJ} : SG (fun o => o.2.1) I (f_X11_hangingNow_1 I J) := by
  unfold f_X11_hangingNow_1; exact (sg_bind (sg_at sx_rf (s_f_X3_load_4)) (fun o ho => (sg_at ho (s_f_X11_hangingNow_2))))
theorem s_f_X11_hangingNow_0 {I : xI} {J : xJ} : SG (fun o => o.2.1) I (f_X11_hangingNow_0 I J) := by
  unfold f_X11_hangingNow_0; exact (sg_bind (sg_at sx_rf (s_f_X6_refresh)) (fun o ho => (sg_at ho (s_f_X11_hangingNow_1))))
theorem s_f_X11_hangingNow {I : xI} {J : xJ} : SG (fun o => o.2.1) I (f_X11_hangingNow I J) := by
  unfold f_X11_hangingNow; exact (sg_at sx_rf (s_f_X11_hangingNow_0))
theorem s_f_X3_leastSet_7 {x1 : Int32} {x2 : Int32} {z3 : Option Value} {I : xI} {J : xJ} : SG (fun o => o.2.1) I (f_X3_leastSet_7 x1 x2 z3 I J) := by
  unfold f_X3_leastSet_7; exact (sg_some sx_rf)
theorem s_f_X3_leastSet_6 {x1 : Int32} {x2 : Int32} {x3 : Int32} {I : xI} {J : xJ} : SG (Sum.elim (fun o => o.2.2.2.1) (fun o => o.2.1)) I (f_X3_leastSet_6 x1 x2 x3 I J) := by
  unfold f_X3_leastSet_6; exact (sg_some sx_rf)
theorem s_f_X3_leastSet_5 {x1 : Int32} {x2 : Int32} {x3 : Int32} {I : xI} {J : xJ} : SG (fun o => o.2.1) I (f_X3_leastSet_5 x1 x2 x3 I J) := by
  unfold f_X3_leastSet_5; exact (sg_some sx_rf)
theorem s_f_X3_leastSet_4 {x1 : Int32} {x2 : Int32} {x3 : Int32} {I : xI} {J : xJ} : SG (Sum.elim (fun o => o.2.2.2.1) (fun o => o.2.1)) I (f_X3_leastSet_4 x1 x2 x3 I J) := by
  unfold f_X3_leastSet_4; exact (sg_ite sg_none (sg_ite sg_none (sg_ite (sg_map (sg_at sx_rf (s_f_X3_leastSet_5))) (sg_at sx_rf (s_f_X3_leastSet_6)))))
theorem s_f_X3_leastSet_3 {x1 : Int32} {x2 : Int32} {x3 : Int32} {s0 : Int32} {s1 : Int32} {s2 : Int32} {I : xI} {J : xJ} : SG (Sum.elim (fun o => o.2.2.2.1) (fun o => o.2.1)) I (f_X3_leastSet_3 x1 x2 x3 s0 s1 s2 I J) := by
  unfold f_X3_leastSet_3; exact (sg_ite (sg_at sx_rf (s_f_X3_leastSet_6)) (sg_at sx_rf (s_f_X3_leastSet_4)))
theorem s_f_X3_leastSet_2 {x1 : Int32} {x2 : Int32} {z3 : Option Value} {I : xI} {J : xJ} : SG (Sum.elim (fun o => o.2.2.2.1) (fun o => o.2.1)) I (f_X3_leastSet_2 x1 x2 z3 I J) := by
  unfold f_X3_leastSet_2; exact (sg_ite sg_none (sg_bind (sg_at sx_rf (s_f_X5_bits)) (fun o ho => (sg_at ho (s_f_X3_leastSet_3)))))
theorem s_b_X3_leastSet_1 {x1 : Int32} {x2 : Int32} {z3 : Option Value} {I : xI} {J : xJ} : SG (Sum.elim (fun o => o.2.2.2.1) (fun o => o.2.1)) I (b_X3_leastSet_1 x1 x2 z3 I J) := by
  unfold b_X3_leastSet_1; exact (sg_ite (sg_map (sg_at sx_rf (s_f_X3_leastSet_7))) (sg_at sx_rf (s_f_X3_leastSet_2)))
theorem s_f_X3_leastSet_1 {x1 : Int32} {x2 : Int32} {z3 : Option Value} {I : xI} {J : xJ} : SG (fun o => o.2.1) I (f_X3_leastSet_1 x1 x2 z3 I J) := by
  unfold f_X3_leastSet_1; exact (sg_loop (gs := (fun o => o.2.2.2.1)) (fun s => s_b_X3_leastSet_1) sx_rf)
theorem s_f_X3_leastSet_0 {x1 : Int32} {I : xI} {J : xJ} : SG (fun o => o.2.1) I (f_X3_leastSet_0 x1 I J) := by
  unfold f_X3_leastSet_0; exact (sg_at sx_rf (s_f_X3_leastSet_1))
theorem s_f_X3_leastSet {x1 : Int32} {I : xI} {J : xJ} : SG (fun o => o.2.1) I (f_X3_leastSet x1 I J) := by
  unfold f_X3_leastSet; exact (sg_at sx_rf (s_f_X3_leastSet_0))
theorem s_f_X11_hangs_11 {x1 : Int32} {x2 : Int32} {x3 : Int32} {s0 : Int32} {I : xI} {J : xJ} : SG (fun o => o.2.1) I (f_X11_hangs_11 x1 x2 x3 s0 I J) := by
  unfold f_X11_hangs_11; exact (sg_some sx_rf)
theorem s_f_X11_hangs_9 {x1 : Int32} {x2 : Int32} {x3 : Int32} {I : xI} {J : xJ} : SG (fun o => o.2.1) I (f_X11_hangs_9 x1 x2 x3 I J) := by
  unfold f_X11_hangs_9; exact (sg_at sx_rf (s_f_X11_hangs_11))
theorem s_f_X11_hangs_10 {x1 : Int32} {x2 : Int32} {x3 : Int32} {I : xI} {J : xJ} : SG (fun o => o.2.1) I (f_X11_hangs_10 x1 x2 x3 I J) := by
  unfold f_X11_hangs_10; exact (sg_bind (sg_at sx_rf (s_f_J6_bitCount_0f7a4)) (fun o ho => (sg_at ho (s_f_X11_hangs_11))))
theorem s_f_X11_hangs_8 {x1 : Int32} {x2 : Int32} {x3 : Int32} {I : xI} {J : xJ} : SG (fun o => o.2.1) I (f_X11_hangs_8 x1 x2 x3 I J) := by
  unfold f_X11_hangs_8; exact (sg_ite (sg_at sx_rf (s_f_X11_hangs_9)) (sg_at sx_rf (s_f_X11_hangs_10)))
theorem s_f_X11_hangs_7 {x1 : Int32} {x2 : Int32} {s0 : Int32} {I : xI} {J : xJ} : SG (fun o => o.2.1) I (f_X11_hangs_7 x1 x2 s0 I J) := by
  unfold f_X11_hangs_7; exact (sg_ite (sg_at sx_rf (s_f_X11_hangs_9)) (sg_at sx_rf (s_f_X11_hangs_8)))
theorem s_f_X11_hangs_6 {x1 : Int32} {x2 : Int32} {I : xI} {J : xJ} : SG (fun o => o.2.1) I (f_X11_hangs_6 x1 x2 I J) := by
  unfold f_X11_hangs_6; exact (sg_bind (sg_at sx_rf (s_f_X3_leastSet)) (fun o ho => (sg_at ho (s_f_X11_hangs_7))))
theorem s_f_X11_hangs_5 {x1 : Int32} {x2 : Int32} {I : xI} {J : xJ} : SG (fun o => o.2.1) I (f_X11_hangs_5 x1 x2 I J) := by
  unfold f_X11_hangs_5; exact (sg_bind (sg_at sx_rf (s_f_X11_hangingNow)) (fun o ho => (sg_at ho (s_f_X11_hangs_6))))
theorem s_f_X11_hangs_3 {x1 : Int32} {x2 : Int32} {I : xI} {J : xJ} : SG (fun o => o.2.1) I (f_X11_hangs_3 x1 x2 I J) := by
  unfold f_X11_hangs_3; exact (sg_ite (sg_at sx_rf (s_f_X11_hangs_5)) (sg_at sx_rf (s_f_X11_hangs_4)))
theorem s_f_X11_hangs_2 {x1 : Int32} {x2 : Int32} {I : xI} {J : xJ} : SG (fun o => o.2.1) I (f_X11_hangs_2 x1 x2 I J) := by
  unfold f_X11_hangs_2; exact (sg_ite (sg_at sx_rf (s_f_X11_hangs_4)) (sg_at sx_rf (s_f_X11_hangs_3)))
theorem s_f_X11_hangs_1 {x1 : Int32} {x2 : Int32} {s0 : Int32} {I : xI} {J : xJ} : SG (fun o => o.2.1) I (f_X11_hangs_1 x1 x2 s0 I J) := by
  unfold f_X11_hangs_1; exact (sg_ite (sg_at sx_rf (s_f_X11_hangs_4)) (sg_at sx_rf (s_f_X11_hangs_2)))
theorem s_f_X11_hangs_0 {x1 : Int32} {x2 : Int32} {I : xI} {J : xJ} : SG (fun o => o.2.1) I (f_X11_hangs_0 x1 x2 I J) := by
  unfold f_X11_hangs_0; exact (sg_bind (sg_at sx_rf (s_f_X5_hasBit)) (fun o ho => (sg_at ho (s_f_X11_hangs_1))))
theorem s_f_X11_hangs {x1 : Int32} {x2 : Int32} {I : xI} {J : xJ} : SG (fun o => o.2.1) I (f_X11_hangs x1 x2 I J) := by
  unfold f_X11_hangs; exact (sg_at sx_rf (s_f_X11_hangs_0))
theorem s_f_X3_total_8 {x1 : Int32} {x2 : Int32} {z3 : Option Value} {I : xI} {J : xJ} : SG (fun o => o.2.1) I (f_X3_total_8 x1 x2 z3 I J) := by
  unfold f_X3_total_8; exact (sg_some sx_rf)
theorem s_f_X3_total_5 {x1 : Int32} {x2 : Int32} {x3 : Int32} {I : xI} {J : xJ} : SG (fun o => o.2.1) I (f_X3_total_5 x1 x2 x3 I J) := by
  unfold f_X3_total_5; exact (sg_some sx_rf)
theorem s_f_X3_total_7 {x1 : Int32} {x2 : Int32} {x3 : Int32} {s0 : Int32} {s1 : Int32} {I : xI} {J : xJ} : SG (Sum.elim (fun o => o.2.2.2.1) (fun o => o.2.1)) I (f_X3_total_7 x1 x2 x3 s0 s1 I J) := by
  unfold f_X3_total_7; exact (sg_some sx_rf)
theorem s_f_X3_total_6 {x1 : Int32} {x2 : Int32} {x3 : Int32} {I : xI} {J : xJ} : SG (Sum.elim (fun o => o.2.2.2.1) (fun o => o.2.1)) I (f_X3_total_6 x1 x2 x3 I J) := by
  unfold f_X3_total_6; exact (sg_bind (sg_at sx_rf (s_f_J6_bitCount_0f7a4)) (fun o ho => (sg_at ho (s_f_X3_total_7))))
theorem s_f_X3_total_4 {x1 : Int32} {x2 : Int32} {z3 : Option Value} {s0 : Int32} {I : xI} {J : xJ} : SG (Sum.elim (fun o => o.2.2.2.1) (fun o => o.2.1)) I (f_X3_total_4 x1 x2 z3 s0 I J) := by
  unfold f_X3_total_4; exact (sg_ite (sg_map (sg_at sx_rf (s_f_X3_total_5))) (sg_at sx_rf (s_f_X3_total_6)))
theorem s_f_X3_total_3 {x1 : Int32} {x2 : Int32} {z3 : Option Value} {I : xI} {J : xJ} : SG (Sum.elim (fun o => o.2.2.2.1) (fun o => o.2.1)) I (f_X3_total_3 x1 x2 z3 I J) := by
  unfold f_X3_total_3; exact (sg_bind (sg_at sx_rf (s_f_X3_leastSet)) (fun o ho => (sg_at ho (s_f_X3_total_4))))
theorem s_f_X3_total_2 {x1 : Int32} {x2 : Int32} {z3 : Option Value} {s0 : Int32} {s1 : Int32} {I : xI} {J : xJ} : SG (Sum.elim (fun o => o.2.2.2.1) (fun o => o.2.1)) I (f_X3_total_2 x1 x2 z3 s0 s1 I J) := by
  unfold f_X3_total_2; exact (sg_ite (sg_map (sg_at sx_rf (s_f_X3_total_8))) (sg_at sx_rf (s_f_X3_total_3)))
theorem s_b_X3_total_1 {x1 : Int32} {x2 : Int32} {z3 : Option Value} {I : xI} {J : xJ} : SG (Sum.elim (fun o => o.2.2.2.1) (fun o => o.2.1)) I (b_X3_total_1 x1 x2 z3 I J) := by
  unfold b_X3_total_1; exact (sg_bind (sg_at sx_rf (s_f_X5_bits)) (fun o ho => (sg_at ho (s_f_X3_total_2))))
theorem s_f_X3_total_1 {x1 : Int32} {x2 : Int32} {z3 : Option Value} {I : xI} {J : xJ} : SG (fun o => o.2.1) I (f_X3_total_1 x1 x2 z3 I J) := by
  unfold f_X3_total_1; exact (sg_loop (gs := (fun o => o.2.2.2.1)) (fun s => s_b_X3_total_1) sx_rf)
theorem s_f_X3_total_0 {I : xI} {J : xJ} : SG (fun o => o.2.1) I (f_X3_total_0 I J) := by
  unfold f_X3_total_0; exact (sg_at sx_rf (s_f_X3_total_1))
theorem s_f_X3_total {I : xI} {J : xJ} : SG (fun o => o.2.1) I (f_X3_total I J) := by
  unfold f_X3_total; exact (sg_at sx_rf (s_f_X3_total_0))
theorem s_f_X11_cost_2 {s0 : Int32} {I : xI} {J : xJ} : SG (fun o => o.2.1) I (f_X11_cost_2 s0 I J) := by
  unfold f_X11_cost_2; exact (sg_some sx_rf)
theorem s_f_X11_cost_1 {I : xI} {J : xJ} : SG (fun o => o.2.1) I (f_X11_cost_1 I J) := by
  unfold f_X11_cost_1; exact (sg_bind (sg_at sx_rf (s_f_X3_total)) (fun o ho => (sg_at ho (s_f_X11_cost_2))))
theorem s_f_X11_cost_0 {I : xI} {J : xJ} : SG (fun o => o.2.1) I (f_X11_cost_0 I J) := by
  unfold f_X11_cost_0; exact (sg_bind (sg_at sx_rf (s_f_X11_hangingNow)) (fun o ho => (sg_at ho (s_f_X11_cost_1))))
theorem s_f_X11_cost {I : xI} {J : xJ} : SG (fun o => o.2.1) I (f_X11_cost I J) := by
  unfold f_X11_cost; exact (sg_at sx_rf (s_f_X11_cost_0))
theorem s_f_X11_cube_4 {x1 : Int32} {x2 : Int32} {x3 : Int32} {I : xI} {J : xJ} : SG (fun o => o.2.1) I (f_X11_cube_4 x1 x2 x3 I J) := by
  unfold f_X11_cube_4; exact (sg_some sx_rf)
theorem s_f_X5_isProper_7 {x1 : Int32} {x2 : Int32} {I : xI} {J : xJ} : SG (fun o => o.2.1) I (f_X5_isProper_7 x1 x2 I J) := by
  unfold f_X5_isProper_7; exact (sg_some sx_rf)
theorem s_f_X5_isProper_5 {x1 : Int32} {x2 : Int32} {I : xI} {J : xJ} : SG (fun o => o.2.1) I (f_X5_isProper_5 x1 x2 I J) := by
  unfold f_X5_isProper_5; exact (sg_some sx_rf)
theorem s_f_X5_isProper_6 {x1 : Int32} {x2 : Int32} {I : xI} {J : xJ} : SG (Sum.elim (fun o => o.2.2.1) (fun o => o.2.1)) I (f_X5_isProper_6 x1 x2 I J) := by
  unfold f_X5_isProper_6; exact (sg_ite sg_none (sg_some sx_rf))
theorem s_f_X5_isProper_4 {x1 : Int32} {x2 : Int32} {I : xI} {J : xJ} : SG (Sum.elim (fun o => o.2.2.1) (fun o => o.2.1)) I (f_X5_isProper_4 x1 x2 I J) := by
  unfold f_X5_isProper_4; exact (sg_ite sg_none (sg_ite (sg_map (sg_at sx_rf (s_f_X5_isProper_5))) (sg_at sx_rf (s_f_X5_isProper_6))))
theorem s_f_X5_isProper_3 {x1 : Int32} {x2 : Int32} {s0 : Int32} {s1 : Int32} {s2 : Int32} {I : xI} {J : xJ} : SG (Sum.elim (fun o => o.2.2.1) (fun o => o.2.1)) I (f_X5_isProper_3 x1 x2 s0 s1 s2 I J) := by
  unfold f_X5_isProper_3; exact (sg_ite (sg_map (sg_at sx_rf (s_f_X5_isProper_5))) (sg_at sx_rf (s_f_X5_isProper_4)))
theorem s_f_X5_isProper_2 {x1 : Int32} {x2 : Int32} {I : xI} {J : xJ} : SG (Sum.elim (fun o => o.2.2.1) (fun o => o.2.1)) I (f_X5_isProper_2 x1 x2 I J) := by
  unfold f_X5_isProper_2; exact (sg_ite sg_none (sg_bind (sg_at sx_rf (s_f_X5_bits)) (fun o ho => (sg_at ho (s_f_X5_isProper_3)))))
theorem s_b_X5_isProper_1 {x1 : Int32} {x2 : Int32} {I : xI} {J : xJ} : SG (Sum.elim (fun o => o.2.2.1) (fun o => o.2.1)) I (b_X5_isProper_1 x1 x2 I J) := by
  unfold b_X5_isProper_1; exact (sg_ite (sg_map (sg_at sx_rf (s_f_X5_isProper_7))) (sg_at sx_rf (s_f_X5_isProper_2)))
theorem s_f_X5_isProper_1 {x1 : Int32} {x2 : Int32} {I : xI} {J : xJ} : SG (fun o => o.2.1) I (f_X5_isProper_1 x1 x2 I J) := by
  unfold f_X5_isProper_1; exact (sg_loop (gs := (fun o => o.2.2.1)) (fun s => s_b_X5_isProper_1) sx_rf)
theorem s_f_X5_isProper_0 {I : xI} {J : xJ} : SG (fun o => o.2.1) I (f_X5_isProper_0 I J) := by
  unfold f_X5_isProper_0; exact (sg_at sx_rf (s_f_X5_isProper_1))
theorem s_f_X5_isProper {I : xI} {J : xJ} : SG (fun o => o.2.1) I (f_X5_isProper I J) := by
  unfold f_X5_isProper; exact (sg_at sx_rf (s_f_X5_isProper_0))
theorem s_f_X11_cube_7 {x1 : Int32} {x2 : Int32} {x3 : Int32} {I : xI} {J : xJ} : SG (fun o => o.2.1) I (f_X11_cube_7 x1 x2 x3 I J) := by
  unfold f_X11_cube_7; exact (sg_some sx_rf)
theorem s_f_X2_look_4_7 {x2 : Int32} {x3 : Int32} {x4 : Int32} {z5 : Option Value} {I : xI} {J : xJ} : SG (fun o => o.2.1) I (f_X2_look_4_7 x2 x3 x4 z5 I J) := by
  unfold f_X2_look_4_7; exact (sg_some sx_rf)
theorem s_f_X2_look_4_6 {x2 : Int32} {x3 : Int32} {x4 : Int32} {x5 : Int32} {I : xI} {J : xJ} : SG (Sum.elim (fun o => o.2.2.2.2.1) (fun o => o.2.1)) I (f_X2_look_4_6 x2 x3 x4 x5 I J) := by
  unfold f_X2_look_4_6; exact (sg_some sx_rf)
theorem s_f_X2_look_4_5 {x2 : Int32} {x3 : Int32} {x4 : Int32} {x5 : Int32} {I : xI} {J : xJ} : SG (Sum.elim (fun o => o.2.2.2.2.1) (fun o => o.2.1)) I (f_X2_look_4_5 x2 x3 x4 x5 I J) := by
  unfold f_X2_look_4_5; exact (sg_ite sg_none (sg_ite sg_none (sg_ite sg_none (sg_ite sg_none (sg_at (sx_upc (sx_upc sx_rf rfl) rfl) (s_f_X2_look_4_6))))))
theorem s_f_X2_look_4_4 {x2 : Int32} {x3 : Int32} {x4 : Int32} {x5 : Int32} {I : xI} {J : xJ} : SG (Sum.elim (fun o => o.2.2.2.2.1) (fun o => o.2.1)) I (f_X2_look_4_4 x2 x3 x4 x5 I J) := by
  unfold f_X2_look_4_4; exact (sg_ite (sg_at sx_rf (s_f_X2_look_4_6)) (sg_at sx_rf (s_f_X2_look_4_5)))
theorem s_f_X2_look_4_3 {x2 : Int32} {x3 : Int32} {x4 : Int32} {z5 : Option Value} {s0 : Int32} {I : xI} {J : xJ} : SG (Sum.elim (fun o => o.2.2.2.2.1) (fun o => o.2.1)) I (f_X2_look_4_3 x2 x3 x4 z5 s0 I J) := by
  unfold f_X2_look_4_3; exact (sg_ite (sg_at sx_rf (s_f_X2_look_4_6)) (sg_at sx_rf (s_f_X2_look_4_4)))
theorem s_f_X2_look_4_2 {x2 : Int32} {x3 : Int32} {x4 : Int32} {z5 : Option Value} {I : xI} {J : xJ} : SG (Sum.elim (fun o => o.2.2.2.2.1) (fun o => o.2.1)) I (f_X2_look_4_2 x2 x3 x4 z5 I J) := by
  unfold f_X2_look_4_2; exact (sg_bind (sg_at sx_rf (s_f_X5_targetOf)) (fun o ho => (sg_at ho (s_f_X2_look_4_3))))
theorem s_b_X2_look_4_1 {x2 : Int32} {x3 : Int32} {x4 : Int32} {z5 : Option Value} {I : xI} {J : xJ} : SG (Sum.elim (fun o => o.2.2.2.2.1) (fun o => o.2.1)) I (b_X2_look_4_1 x2 x3 x4 z5 I J) := by
  unfold b_X2_look_4_1; exact (sg_ite (sg_map (sg_at sx_rf (s_f_X2_look_4_7))) (sg_at sx_rf (s_f_X2_look_4_2)))
theorem s_f_X2_look_4_1 {x2 : Int32} {x3 : Int32} {x4 : Int32} {z5 : Option Value} {I : xI} {J : xJ} : SG (fun o => o.2.1) I (f_X2_look_4_1 x2 x3 x4 z5 I J) := by
  unfold f_X2_look_4_1; exact (sg_loop (gs := (fun o => o.2.2.2.2.1)) (fun s => s_b_X2_look_4_1) sx_rf)
theorem s_f_X2_look_4_0 {x2 : Int32} {x3 : Int32} {I : xI} {J : xJ} : SG (fun o => o.2.1) I (f_X2_look_4_0 x2 x3 I J) := by
  unfold f_X2_look_4_0; exact (sg_at (sx_upc (sx_upc sx_rf rfl) rfl) (s_f_X2_look_4_1))
theorem s_f_X2_look_4 {x2 : Int32} {x3 : Int32} {I : xI} {J : xJ} : SG (fun o => o.2.1) I (f_X2_look_4 x2 x3 I J) := by
  unfold f_X2_look_4; exact (sg_at sx_rf (s_f_X2_look_4_0))
theorem s_f_X2_aim_0 {x1 : Int32} {I : xI} {J : xJ} : SG (fun o => o.2.1) I (f_X2_aim_0 x1 I J) := by
  unfold f_X2_aim_0; exact (sg_some (sx_upc (sx_upc sx_rf rfl) rfl))
theorem s_f_X2_aim {x1 : Int32} {I : xI} {J : xJ} : SG (fun o => o.2.1) I (f_X2_aim x1 I J) := by
  unfold f_X2_aim; exact (sg_at sx_rf (s_f_X2_aim_0))
theorem s_f_X2_least_2 {self : Int32 → Int32 → xI → xJ → Option (Int32 × xI × xJ)} {x1 : Int32} {x2 : Int32} {I : xI} {J : xJ} (hs : ∀ (a0 a1 : Int32) (I : xI) (J : xJ), SG (fun o => o.2.1) I (self a0 a1 I J)) : SG (fun o => o.2.1) I (f_X2_least_2 self x1 x2 I J) := by
  unfold f_X2_least_2; exact (sg_some sx_rf)
theorem s_f_X2_least_16 {self : Int32 → Int32 → xI → xJ → Option (Int32 × xI × xJ)} {x1 : Int32} {x2 : Int32} {x3 : Int32} {x4 : Int32} {x5 : Int32} {x6 : Int32} {z7 : Option Value} {I : xI} {J : xJ} (hs : ∀ (a0 a1 : Int32) (I : xI) (J : xJ), SG (fun o => o.2.1) I (self a0 a1 I J)) : SG (fun o => o.2.1) I (f_X2_least_16 self x1 x2 x3 x4 x5 x6 z7 I J) := by
  unfold f_X2_least_16; exact (sg_some sx_rf)
theorem s_f_X2_least_15 {self : Int32 → Int32 → xI → xJ → Option (Int32 × xI × xJ)} {x1 : Int32} {x2 : Int32} {x3 : Int32} {x4 : Int32} {x5 : Int32} {x6 : Int32} {z7 : Option Value} {I : xI} {J : xJ} (hs : ∀ (a0 a1 : Int32) (I : xI) (J : xJ), SG (fun o => o.2.1) I (self a0 a1 I J)) : SG (fun o => o.2.1) I (f_X2_least_15 self x1 x2 x3 x4 x5 x6 z7 I J) := by
  unfold f_X2_least_15; exact (sg_ite sg_none (sg_at (sx_upc sx_rf rfl) (s_f_X2_least_16 hs)))
theorem s_f_X2_least_14 {self : Int32 → Int32 → xI → xJ → Option (Int32 × xI × xJ)} {x1 : Int32} {x2 : Int32} {x3 : Int32} {x4 : Int32} {x5 : Int32} {x6 : Int32} {z7 : Option Value} {I : xI} {J : xJ} (hs : ∀ (a0 a1 : Int32) (I : xI) (J : xJ), SG (fun o => o.2.1) I (self a0 a1 I J)) : SG (fun o => o.2.1) I (f_X2_least_14 self x1 x2 x3 x4 x5 x6 z7 I J) := by
  unfold f_X2_least_14; exact (sg_ite (sg_at sx_rf (s_f_X2_least_16 hs)) (sg_at sx_rf (s_f_X2_least_15 hs)))
theorem s_f_X2_least_13 {self : Int32 → Int32 → xI → xJ → Option (Int32 × xI × xJ)} {x1 : Int32} {x2 : Int32} {x3 : Int32} {x4 : Int32} {x5 : Int32} {x6 : Int32} {x7 : Int32} {I : xI} {J : xJ} (hs : ∀ (a0 a1 : Int32) (I : xI) (J : xJ), SG (fun o => o.2.1) I (self a0 a1 I J)) : SG (Sum.elim (fun o => o.2.2.2.2.2.2.2.1) (fun o => o.2.1)) I (f_X2_least_13 self x1 x2 x3 x4 x5 x6 x7 I J) := by
  unfold f_X2_least_13; exact (sg_some sx_rf)
theorem s_f_X2_least_12 {self : Int32 → Int32 → xI → xJ → Option (Int32 × xI × xJ)} {x1 : Int32} {x2 : Int32} {x3 : Int32} {x4 : Int32} {x5 : Int32} {x6 : Int32} {x7 : Int32} {s0 : Int32} {s1 : Int32} {s2 : Int32} {I : xI} {J : xJ} (hs : ∀ (a0 a1 : Int32) (I : xI) (J : xJ), SG (fun o => o.2.1) I (self a0 a1 I J)) : SG (Sum.elim (fun o => o.2.2.2.2.2.2.2.1) (fun o => o.2.1)) I (f_X2_least_12 self x1 x2 x3 x4 x5 x6 x7 s0 s1 s2 I J) := by
  unfold f_X2_least_12; exact (sg_at sx_rf (s_f_X2_least_13 hs))
theorem s_f_X2_least_11 {self : Int32 → Int32 → xI → xJ → Option (Int32 × xI × xJ)} {x1 : Int32} {x2 : Int32} {x3 : Int32} {x4 : Int32} {x5 : Int32} {x6 : Int32} {x7 : Int32} {I : xI} {J : xJ} (hs : ∀ (a0 a1 : Int32) (I : xI) (J : xJ), SG (fun o => o.2.1) I (self a0 a1 I J)) : SG (Sum.elim (fun o => o.2.2.2.2.2.2.2.1) (fun o => o.2.1)) I (f_X2_least_11 self x1 x2 x3 x4 x5 x6 x7 I J) := by
  unfold f_X2_least_11; exact (sg_bind (sg_at sx_rf (hs _ _ _ _)) (fun o ho => (sg_at ho (s_f_X2_least_12 hs))))
theorem s_f_X2_least_10 {self : Int32 → Int32 → xI → xJ → Option (Int32 × xI × xJ)} {x1 : Int32} {x2 : Int32} {x3 : Int32} {x4 : Int32} {x5 : Int32} {x6 : Int32} {x7 : Int32} {I : xI} {J : xJ} (hs : ∀ (a0 a1 : Int32) (I : xI) (J : xJ), SG (fun o => o.2.1) I (self a0 a1 I J)) : SG (Sum.elim (fun o => o.2.2.2.2.2.2.2.1) (fun o => o.2.1)) I (f_X2_least_10 self x1 x2 x3 x4 x5 x6 x7 I J) := by
  unfold f_X2_least_10; exact (sg_ite (sg_at sx_rf (s_f_X2_least_11 hs)) (sg_at sx_rf (s_f_X2_least_13 hs)))
theorem s_f_X2_least_9 {self : Int32 → Int32 → xI → xJ → Option (Int32 × xI × xJ)} {x1 : Int32} {x2 : Int32} {x3 : Int32} {x4 : Int32} {x5 : Int32} {x6 : Int32} {z7 : Option Value} {I : xI} {J : xJ} (hs : ∀ (a0 a1 : Int32) (I : xI) (J : xJ), SG (fun o => o.2.1) I (self a0 a1 I J)) : SG (Sum.elim (fun o => o.2.2.2.2.2.2.2.1) (fun o => o.2.1)) I (f_X2_least_9 self x1 x2 x3 x4 x5 x6 z7 I J) := by
  unfold f_X2_least_9; exact (sg_ite sg_none (sg_ite (sg_at sx_rf (s_f_X2_least_10 hs)) (sg_at sx_rf (s_f_X2_least_13 hs))))
theorem s_b_X2_least_8 {self : Int32 → Int32 → xI → xJ → Option (Int32 × xI × xJ)} {x1 : Int32} {x2 : Int32} {x3 : Int32} {x4 : Int32} {x5 : Int32} {x6 : Int32} {z7 : Option Value} {I : xI} {J : xJ} (hs : ∀ (a0 a1 : Int32) (I : xI) (J : xJ), SG (fun o => o.2.1) I (self a0 a1 I J)) : SG (Sum.elim (fun o => o.2.2.2.2.2.2.2.1) (fun o => o.2.1)) I (b_X2_least_8 self x1 x2 x3 x4 x5 x6 z7 I J) := by
  unfold b_X2_least_8; exact (sg_ite (sg_map (sg_at sx_rf (s_f_X2_least_14 hs))) (sg_at sx_rf (s_f_X2_least_9 hs)))
theorem s_f_X2_least_8 {self : Int32 → Int32 → xI → xJ → Option (Int32 × xI × xJ)} {x1 : Int32} {x2 : Int32} {x3 : Int32} {x4 : Int32} {x5 : Int32} {x6 : Int32} {z7 : Option Value} {I : xI} {J : xJ} (hs : ∀ (a0 a1 : Int32) (I : xI) (J : xJ), SG (fun o => o.2.1) I (self a0 a1 I J)) : SG (fun o => o.2.1) I (f_X2_least_8 self x1 x2 x3 x4 x5 x6 z7 I J) := by
  unfold f_X2_least_8; exact (sg_loop (gs := (fun o => o.2.2.2.2.2.2.2.1)) (fun s => s_b_X2_least_8 hs) sx_rf)
theorem s_f_X2_least_7 {self : Int32 → Int32 → xI → xJ → Option (Int32 × xI × xJ)} {x1 : Int32} {x2 : Int32} {x3 : Int32} {s0 : Int32} {I : xI} {J : xJ} (hs : ∀ (a0 a1 : Int32) (I : xI) (J : xJ), SG (fun o => o.2.1) I (self a0 a1 I J)) : SG (fun o => o.2.1) I (f_X2_least_7 self x1 x2 x3 s0 I J) := by
  unfold f_X2_least_7; exact (sg_at sx_rf (s_f_X2_least_8 hs))
theorem s_f_X2_least_6 {self : Int32 → Int32 → xI → xJ → Option (Int32 × xI × xJ)} {x1 : Int32} {x2 : Int32} {x3 : Int32} {I : xI} {J : xJ} (hs : ∀ (a0 a1 : Int32) (I : xI) (J : xJ), SG (fun o => o.2.1) I (self a0 a1 I J)) : SG (fun o => o.2.1) I (f_X2_least_6 self x1 x2 x3 I J) := by
  unfold f_X2_least_6; exact (sg_bind (sg_at sx_rf (s_f_J6_numberOfTrailingZeros_0f7a4)) (fun o ho => (sg_at ho (s_f_X2_least_7 hs))))
theorem s_f_X2_least_5 {self : Int32 → Int32 → xI → xJ → Option (Int32 × xI × xJ)} {x1 : Int32} {x2 : Int32} {x3 : Int32} {I : xI} {J : xJ} (hs : ∀ (a0 a1 : Int32) (I : xI) (J : xJ), SG (fun o => o.2.1) I (self a0 a1 I J)) : SG (fun o => o.2.1) I (f_X2_least_5 self x1 x2 x3 I J) := by
  unfold f_X2_least_5; exact (sg_ite sg_none (sg_some sx_rf))
theorem s_f_X2_least_4 {self : Int32 → Int32 → xI → xJ → Option (Int32 × xI × xJ)} {x1 : Int32} {x2 : Int32} {x3 : Int32} {I : xI} {J : xJ} (hs : ∀ (a0 a1 : Int32) (I : xI) (J : xJ), SG (fun o => o.2.1) I (self a0 a1 I J)) : SG (fun o => o.2.1) I (f_X2_least_4 self x1 x2 x3 I J) := by
  unfold f_X2_least_4; exact (sg_ite sg_none (sg_ite (sg_at sx_rf (s_f_X2_least_6 hs)) (sg_at sx_rf (s_f_X2_least_5 hs))))
theorem s_f_X2_least_3 {self : Int32 → Int32 → xI → xJ → Option (Int32 × xI × xJ)} {x1 : Int32} {x2 : Int32} {I : xI} {J : xJ} (hs : ∀ (a0 a1 : Int32) (I : xI) (J : xJ), SG (fun o => o.2.1) I (self a0 a1 I J)) : SG (fun o => o.2.1) I (f_X2_least_3 self x1 x2 I J) := by
  unfold f_X2_least_3; exact (sg_ite sg_none (sg_ite sg_none (sg_ite (sg_at sx_rf (s_f_X2_least_6 hs)) (sg_at sx_rf (s_f_X2_least_4 hs)))))
theorem s_f_X2_least_1 {self : Int32 → Int32 → xI → xJ → Option (Int32 × xI × xJ)} {x1 : Int32} {x2 : Int32} {I : xI} {J : xJ} (hs : ∀ (a0 a1 : Int32) (I : xI) (J : xJ), SG (fun o => o.2.1) I (self a0 a1 I J)) : SG (fun o => o.2.1) I (f_X2_least_1 self x1 x2 I J) := by
  unfold f_X2_least_1; exact (sg_ite (sg_at sx_rf (s_f_X2_least_3 hs)) (sg_at sx_rf (s_f_X2_least_2 hs)))
theorem s_f_X2_least_0 {self : Int32 → Int32 → xI → xJ → Option (Int32 × xI × xJ)} {x1 : Int32} {x2 : Int32} {I : xI} {J : xJ} (hs : ∀ (a0 a1 : Int32) (I : xI) (J : xJ), SG (fun o => o.2.1) I (self a0 a1 I J)) : SG (fun o => o.2.1) I (f_X2_least_0 self x1 x2 I J) := by
  unfold f_X2_least_0; exact (sg_ite (sg_at sx_rf (s_f_X2_least_2 hs)) (sg_at sx_rf (s_f_X2_least_1 hs)))
theorem s_f_X2_least : ∀ (r : Nat) {x0 x1 : Int32} {I : xI} {J : xJ}, SG (fun o => o.2.1) I (f_X2_least r x0 x1 I J) := by
  intro r
  induction r with
  | zero => intros; exact sg_none
  | succ r ih => intros; exact s_f_X2_least_0 (fun _ _ _ _ => ih)
theorem s_f_X2_choose_15 {self : Int32 → Int32 → Int32 → Int32 → xI → xJ → Option (Int32 × xI × xJ)} {x1 : Int32} {x2 : Int32} {x3 : Int32} {x4 : Int32} {x5 : Int32} {z6 : Option Value} {I : xI} {J : xJ} (hs : ∀ (a0 a1 a2 a3 : Int32) (I : xI) (J : xJ), SG (fun o => o.2.1) I (self a0 a1 a2 a3 I J)) : SG (fun o => o.2.1) I (f_X2_choose_15 self x1 x2 x3 x4 x5 z6 I J) := by
  unfold f_X2_choose_15; exact (sg_some sx_rf)
theorem s_f_X2_choose_14 {self : Int32 → Int32 → Int32 → Int32 → xI → xJ → Option (Int32 × xI × xJ)} {x1 : Int32} {x2 : Int32} {x3 : Int32} {x4 : Int32} {x5 : Int32} {x6 : Int32} {I : xI} {J : xJ} (hs : ∀ (a0 a1 a2 a3 : Int32) (I : xI) (J : xJ), SG (fun o => o.2.1) I (self a0 a1 a2 a3 I J)) : SG (Sum.elim (fun o => o.2.2.2.2.2.2.1) (fun o => o.2.1)) I (f_X2_choose_14 self x1 x2 x3 x4 x5 x6 I J) := by
  unfold f_X2_choose_14; exact (sg_some sx_rf)
theorem s_f_X2_choose_13 {self : Int32 → Int32 → Int32 → Int32 → xI → xJ → Option (Int32 × xI × xJ)} {x1 : Int32} {x2 : Int32} {x3 : Int32} {x4 : Int32} {x5 : Int32} {x6 : Int32} {I : xI} {J : xJ} (hs : ∀ (a0 a1 a2 a3 : Int32) (I : xI) (J : xJ), SG (fun o => o.2.1) I (self a0 a1 a2 a3 I J)) : SG (fun o => o.2.1) I (f_X2_choose_13 self x1 x2 x3 x4 x5 x6 I J) := by
  unfold f_X2_choose_13; exact (sg_some sx_rf)
theorem s_f_X2_choose_12 {self : Int32 → Int32 → Int32 → Int32 → xI → xJ → Option (Int32 × xI × xJ)} {x1 : Int32} {x2 : Int32} {x3 : Int32} {x4 : Int32} {x5 : Int32} {x6 : Int32} {s0 : Int32} {I : xI} {J : xJ} (hs : ∀ (a0 a1 a2 a3 : Int32) (I : xI) (J : xJ), SG (fun o => o.2.1) I (self a0 a1 a2 a3 I J)) : SG (Sum.elim (fun o => o.2.2.2.2.2.2.1) (fun o => o.2.1)) I (f_X2_choose_12 self x1 x2 x3 x4 x5 x6 s0 I J) := by
  unfold f_X2_choose_12; exact (sg_ite (sg_at sx_rf (s_f_X2_choose_14 hs)) (sg_map (sg_at sx_rf (s_f_X2_choose_13 hs))))
theorem s_f_X2_choose_11 {self : Int32 → Int32 → Int32 → Int32 → xI → xJ → Option (Int32 × xI × xJ)} {x1 : Int32} {x2 : Int32} {x3 : Int32} {x4 : Int32} {x5 : Int32} {x6 : Int32} {I : xI} {J : xJ} (hs : ∀ (a0 a1 a2 a3 : Int32) (I : xI) (J : xJ), SG (fun o => o.2.1) I (self a0 a1 a2 a3 I J)) : SG (Sum.elim (fun o => o.2.2.2.2.2.2.1) (fun o => o.2.1)) I (f_X2_choose_11 self x1 x2 x3 x4 x5 x6 I J) := by
  unfold f_X2_choose_11; exact (sg_ite sg_none (sg_bind (sg_at (sx_upc sx_rf rfl) (hs _ _ _ _ _ _)) (fun o ho => (sg_at ho (s_f_X2_choose_12 hs)))))
theorem s_f_X2_choose_10 {self : Int32 → Int32 → Int32 → Int32 → xI → xJ → Option (Int32 × xI × xJ)} {x1 : Int32} {x2 : Int32} {x3 : Int32} {x4 : Int32} {x5 : Int32} {x6 : Int32} {s0 : Int32} {I : xI} {J : xJ} (hs : ∀ (a0 a1 a2 a3 : Int32) (I : xI) (J : xJ), SG (fun o => o.2.1) I (self a0 a1 a2 a3 I J)) : SG (Sum.elim (fun o => o.2.2.2.2.2.2.1) (fun o => o.2.1)) I (f_X2_choose_10 self x1 x2 x3 x4 x5 x6 s0 I J) := by
  unfold f_X2_choose_10; exact (sg_ite (sg_at sx_rf (s_f_X2_choose_14 hs)) (sg_at sx_rf (s_f_X2_choose_11 hs)))
theorem s_f_X2_choose_9 {self : Int32 → Int32 → Int32 → Int32 → xI → xJ → Option (Int32 × xI × xJ)} {x1 : Int32} {x2 : Int32} {x3 : Int32} {x4 : Int32} {x5 : Int32} {x6 : Int32} {I : xI} {J : xJ} (hs : ∀ (a0 a1 a2 a3 : Int32) (I : xI) (J : xJ), SG (fun o => o.2.1) I (self a0 a1 a2 a3 I J)) : SG (Sum.elim (fun o => o.2.2.2.2.2.2.1) (fun o => o.2.1)) I (f_X2_choose_9 self x1 x2 x3 x4 x5 x6 I J) := by
  unfold f_X2_choose_9; exact (sg_bind (sg_at sx_rf (s_f_X2_least _)) (fun o ho => (sg_at ho (s_f_X2_choose_10 hs))))
theorem s_f_X2_choose_8 {self : Int32 → Int32 → Int32 → Int32 → xI → xJ → Option (Int32 × xI × xJ)} {x1 : Int32} {x2 : Int32} {x3 : Int32} {x4 : Int32} {x5 : Int32} {z6 : Option Value} {I : xI} {J : xJ} (hs : ∀ (a0 a1 a2 a3 : Int32) (I : xI) (J : xJ), SG (fun o => o.2.1) I (self a0 a1 a2 a3 I J)) : SG (Sum.elim (fun o => o.2.2.2.2.2.2.1) (fun o => o.2.1)) I (f_X2_choose_8 self x1 x2 x3 x4 x5 z6 I J) := by
  unfold f_X2_choose_8; exact (sg_ite sg_none (sg_ite (sg_at sx_rf (s_f_X2_choose_9 hs)) (sg_at sx_rf (s_f_X2_choose_14 hs))))
theorem s_f_X2_choose_7 {self : Int32 → Int32 → Int32 → Int32 → xI → xJ → Option (Int32 × xI × xJ)} {x1 : Int32} {x2 : Int32} {x3 : Int32} {x4 : Int32} {x5 : Int32} {z6 : Option Value} {s0 : Int32} {s2 : Int32} {I : xI} {J : xJ} (hs : ∀ (a0 a1 a2 a3 : Int32) (I : xI) (J : xJ), SG (fun o => o.2.1) I (self a0 a1 a2 a3 I J)) : SG (Sum.elim (fun o => o.2.2.2.2.2.2.1) (fun o => o.2.1)) I (f_X2_choose_7 self x1 x2 x3 x4 x5 z6 s0 s2 I J) := by
  unfold f_X2_choose_7; exact (sg_ite sg_none (sg_ite (sg_map (sg_at sx_rf (s_f_X2_choose_15 hs))) (sg_at sx_rf (s_f_X2_choose_8 hs))))
theorem s_b_X2_choose_6 {self : Int32 → Int32 → Int32 → Int32 → xI → xJ → Option (Int32 × xI × xJ)} {x1 : Int32} {x2 : Int32} {x3 : Int32} {x4 : Int32} {x5 : Int32} {z6 : Option Value} {I : xI} {J : xJ} (hs : ∀ (a0 a1 a2 a3 : Int32) (I : xI) (J : xJ), SG (fun o => o.2.1) I (self a0 a1 a2 a3 I J)) : SG (Sum.elim (fun o => o.2.2.2.2.2.2.1) (fun o => o.2.1)) I (b_X2_choose_6 self x1 x2 x3 x4 x5 z6 I J) := by
  unfold b_X2_choose_6; exact (sg_bind (sg_at sx_rf (s_f_X5_bits)) (fun o ho => (sg_at ho (s_f_X2_choose_7 hs))))
theorem s_f_X2_choose_6 {self : Int32 → Int32 → Int32 → Int32 → xI → xJ → Option (Int32 × xI × xJ)} {x1 : Int32} {x2 : Int32} {x3 : Int32} {x4 : Int32} {x5 : Int32} {z6 : Option Value} {I : xI} {J : xJ} (hs : ∀ (a0 a1 a2 a3 : Int32) (I : xI) (J : xJ), SG (fun o => o.2.1) I (self a0 a1 a2 a3 I J)) : SG (fun o => o.2.1) I (f_X2_choose_6 self x1 x2 x3 x4 x5 z6 I J) := by
  unfold f_X2_choose_6; exact (sg_loop (gs := (fun o => o.2.2.2.2.2.2.1)) (fun s => s_b_X2_choose_6 hs) sx_rf)
theorem s_f_X2_choose_5 {self : Int32 → Int32 → Int32 → Int32 → xI → xJ → Option (Int32 × xI × xJ)} {x1 : Int32} {x2 : Int32} {x3 : Int32} {x4 : Int32} {I : xI} {J : xJ} (hs : ∀ (a0 a1 a2 a3 : Int32) (I : xI) (J : xJ), SG (fun o => o.2.1) I (self a0 a1 a2 a3 I J)) : SG (fun o => o.2.1) I (f_X2_choose_5 self x1 x2 x3 x4 I J) := by
  unfold f_X2_choose_5; exact (sg_at sx_rf (s_f_X2_choose_6 hs))
theorem s_f_X2_choose_4 {self : Int32 → Int32 → Int32 → Int32 → xI → xJ → Option (Int32 × xI × xJ)} {x1 : Int32} {x2 : Int32} {x3 : Int32} {x4 : Int32} {s0 : Int32} {I : xI} {J : xJ} (hs : ∀ (a0 a1 a2 a3 : Int32) (I : xI) (J : xJ), SG (fun o => o.2.1) I (self a0 a1 a2 a3 I J)) : SG (fun o => o.2.1) I (f_X2_choose_4 self x1 x2 x3 x4 s0 I J) := by
  unfold f_X2_choose_4; exact (sg_ite (sg_some sx_rf) sg_none)
theorem s_f_X2_choose_2 {self : Int32 → Int32 → Int32 → Int32 → xI → xJ → Option (Int32 × xI × xJ)} {x1 : Int32} {x2 : Int32} {x3 : Int32} {x4 : Int32} {I : xI} {J : xJ} (hs : ∀ (a0 a1 a2 a3 : Int32) (I : xI) (J : xJ), SG (fun o => o.2.1) I (self a0 a1 a2 a3 I J)) : SG (fun o => o.2.1) I (f_X2_choose_2 self x1 x2 x3 x4 I J) := by
  unfold f_X2_choose_2; exact (sg_at sx_rf (s_f_X2_choose_4 hs))
theorem s_f_X2_choose_3 {self : Int32 → Int32 → Int32 → Int32 → xI → xJ → Option (Int32 × xI × xJ)} {x1 : Int32} {x2 : Int32} {x3 : Int32} {x4 : Int32} {I : xI} {J : xJ} (hs : ∀ (a0 a1 a2 a3 : Int32) (I : xI) (J : xJ), SG (fun o => o.2.1) I (self a0 a1 a2 a3 I J)) : SG (fun o => o.2.1) I (f_X2_choose_3 self x1 x2 x3 x4 I J) := by
  unfold f_X2_choose_3; exact (sg_at sx_rf (s_f_X2_choose_4 hs))
theorem s_f_X2_choose_1 {self : Int32 → Int32 → Int32 → Int32 → xI → xJ → Option (Int32 × xI × xJ)} {x1 : Int32} {x2 : Int32} {x3 : Int32} {x4 : Int32} {I : xI} {J : xJ} (hs : ∀ (a0 a1 a2 a3 : Int32) (I : xI) (J : xJ), SG (fun o => o.2.1) I (self a0 a1 a2 a3 I J)) : SG (fun o => o.2.1) I (f_X2_choose_1 self x1 x2 x3 x4 I J) := by
  unfold f_X2_choose_1; exact (sg_ite (sg_at sx_rf (s_f_X2_choose_2 hs)) (sg_at sx_rf (s_f_X2_choose_3 hs)))
theorem s_f_X2_choose_0 {self : Int32 → Int32 → Int32 → Int32 → xI → xJ → Option (Int32 × xI × xJ)} {x1 : Int32} {x2 : Int32} {x3 : Int32} {x4 : Int32} {I : xI} {J : xJ} (hs : ∀ (a0 a1 a2 a3 : Int32) (I : xI) (J : xJ), SG (fun o => o.2.1) I (self a0 a1 a2 a3 I J)) : SG (fun o => o.2.1) I (f_X2_choose_0 self x1 x2 x3 x4 I J) := by
  unfold f_X2_choose_0; exact (sg_ite (sg_at sx_rf (s_f_X2_choose_5 hs)) (sg_at sx_rf (s_f_X2_choose_1 hs)))
theorem s_f_X2_choose : ∀ (r : Nat) {x0 x1 x2 x3 : Int32} {I : xI} {J : xJ}, SG (fun o => o.2.1) I (f_X2_choose r x0 x1 x2 x3 I J) := by
  intro r
  induction r with
  | zero => intros; exact sg_none
  | succ r ih => intros; exact s_f_X2_choose_0 (fun _ _ _ _ _ _ => ih)
theorem s_f_X2_list_4 {x1 : Int32} {x2 : Int32} {x3 : Int32} {s0 : Int32} {I : xI} {J : xJ} : SG (fun o => o.2.1) I (f_X2_list_4 x1 x2 x3 s0 I J) := by
  unfold f_X2_list_4; exact (sg_some sx_rf)
theorem s_f_X2_list_3 {x1 : Int32} {x2 : Int32} {s0 : Int32} {I : xI} {J : xJ} : SG (fun o => o.2.1) I (f_X2_list_3 x1 x2 s0 I J) := by
  unfold f_X2_list_3; exact (sg_bind (sg_at sx_rf (s_f_X2_choose _)) (fun o ho => (sg_at ho (s_f_X2_list_4))))
theorem s_f_X2_list_2 {x1 : Int32} {x2 : Int32} {I : xI} {J : xJ} : SG (fun o => o.2.1) I (f_X2_list_2 x1 x2 I J) := by
  unfold f_X2_list_2; exact (sg_bind (sg_at sx_rf (s_f_X2_least _)) (fun o ho => (sg_at ho (s_f_X2_list_3))))
theorem s_f_X2_list_1 {x1 : Int32} {x2 : Int32} {I : xI} {J : xJ} : SG (fun o => o.2.1) I (f_X2_list_1 x1 x2 I J) := by
  unfold f_X2_list_1; exact (sg_bind (sg_at sx_rf (s_f_X2_aim)) (fun o ho => (sg_at ho (s_f_X2_list_2))))
theorem s_f_X2_list_0 {x1 : Int32} {x2 : Int32} {I : xI} {J : xJ} : SG (fun o => o.2.1) I (f_X2_list_0 x1 x2 I J) := by
  unfold f_X2_list_0; exact (sg_bind (sg_at sx_rf (s_f_X2_look_4)) (fun o ho => (sg_at ho (s_f_X2_list_1))))
theorem s_f_X2_list {x1 : Int32} {x2 : Int32} {I : xI} {J : xJ} : SG (fun o => o.2.1) I (f_X2_list x1 x2 I J) := by
  unfold f_X2_list; exact (sg_at sx_rf (s_f_X2_list_0))
theorem s_f_X11_cube_10 {x1 : Int32} {x2 : Int32} {x3 : Int32} {x4 : Int32} {I : xI} {J : xJ} : SG (fun o => o.2.1) I (f_X11_cube_10 x1 x2 x3 x4 I J) := by
  unfold f_X11_cube_10; exact (sg_some sx_rf)
theorem s_f_X11_cube_15 {x1 : Int32} {x2 : Int32} {x3 : Int32} {x4 : Int32} {s0 : Int32} {I : xI} {J : xJ} : SG (fun o => o.2.1) I (f_X11_cube_15 x1 x2 x3 x4 s0 I J) := by
  unfold f_X11_cube_15; exact (sg_some sx_rf)
theorem s_f_X11_cube_14 {x1 : Int32} {x2 : Int32} {x3 : Int32} {x4 : Int32} {I : xI} {J : xJ} : SG (fun o => o.2.1) I (f_X11_cube_14 x1 x2 x3 x4 I J) := by
  unfold f_X11_cube_14; exact (sg_at sx_rf (s_f_X11_cube_15))
theorem s_f_X11_cube_13 {x1 : Int32} {x2 : Int32} {x3 : Int32} {x4 : Int32} {I : xI} {J : xJ} : SG (fun o => o.2.1) I (f_X11_cube_13 x1 x2 x3 x4 I J) := by
  unfold f_X11_cube_13; exact (sg_ite sg_none (sg_at sx_rf (s_f_X11_cube_15)))
theorem s_f_X11_cube_12 {x1 : Int32} {x2 : Int32} {x3 : Int32} {x4 : Int32} {I : xI} {J : xJ} : SG (fun o => o.2.1) I (f_X11_cube_12 x1 x2 x3 x4 I J) := by
  unfold f_X11_cube_12; exact (sg_ite (sg_at sx_rf (s_f_X11_cube_14)) (sg_at sx_rf (s_f_X11_cube_13)))
theorem s_f_X11_cube_11 {x1 : Int32} {x2 : Int32} {x3 : Int32} {x4 : Int32} {I : xI} {J : xJ} : SG (fun o => o.2.1) I (f_X11_cube_11 x1 x2 x3 x4 I J) := by
  unfold f_X11_cube_11; exact (sg_ite (sg_at sx_rf (s_f_X11_cube_14)) (sg_at sx_rf (s_f_X11_cube_12)))
theorem s_f_X11_cube_9 {x1 : Int32} {x2 : Int32} {x3 : Int32} {s0 : Int32} {I : xI} {J : xJ} : SG (fun o => o.2.1) I (f_X11_cube_9 x1 x2 x3 s0 I J) := by
  unfold f_X11_cube_9; exact (sg_ite (sg_at sx_rf (s_f_X11_cube_10)) (sg_at sx_rf (s_f_X11_cube_11)))
theorem s_f_X11_cube_8 {x1 : Int32} {x2 : Int32} {x3 : Int32} {I : xI} {J : xJ} : SG (fun o => o.2.1) I (f_X11_cube_8 x1 x2 x3 I J) := by
  unfold f_X11_cube_8; exact (sg_bind (sg_at sx_rf (s_f_X2_list)) (fun o ho => (sg_at ho (s_f_X11_cube_9))))
theorem s_f_X11_cube_6 {x1 : Int32} {x2 : Int32} {x3 : Int32} {s0 : Int32} {I : xI} {J : xJ} : SG (fun o => o.2.1) I (f_X11_cube_6 x1 x2 x3 s0 I J) := by
  unfold f_X11_cube_6; exact (sg_ite (sg_at sx_rf (s_f_X11_cube_7)) (sg_at sx_rf (s_f_X11_cube_8)))
theorem s_f_X11_cube_5 {x1 : Int32} {x2 : Int32} {x3 : Int32} {I : xI} {J : xJ} : SG (fun o => o.2.1) I (f_X11_cube_5 x1 x2 x3 I J) := by
  unfold f_X11_cube_5; exact (sg_bind (sg_at sx_rf (s_f_X5_isProper)) (fun o ho => (sg_at ho (s_f_X11_cube_6))))
theorem s_f_X11_cube_3 {x1 : Int32} {x2 : Int32} {x3 : Int32} {s0 : Int32} {I : xI} {J : xJ} : SG (fun o => o.2.1) I (f_X11_cube_3 x1 x2 x3 s0 I J) := by
  unfold f_X11_cube_3; exact (sg_ite (sg_at sx_rf (s_f_X11_cube_4)) (sg_at sx_rf (s_f_X11_cube_5)))
theorem s_f_X11_cube_2 {x1 : Int32} {x2 : Int32} {x3 : Int32} {I : xI} {J : xJ} : SG (fun o => o.2.1) I (f_X11_cube_2 x1 x2 x3 I J) := by
  unfold f_X11_cube_2; exact (sg_bind (sg_at sx_rf (s_f_X5_hasInput)) (fun o ho => (sg_at ho (s_f_X11_cube_3))))
theorem s_f_X11_cube_1 {x1 : Int32} {x2 : Int32} {x3 : Int32} {s0 : Int32} {I : xI} {J : xJ} : SG (fun o => o.2.1) I (f_X11_cube_1 x1 x2 x3 s0 I J) := by
  unfold f_X11_cube_1; exact (sg_ite (sg_at sx_rf (s_f_X11_cube_4)) (sg_at sx_rf (s_f_X11_cube_2)))
theorem s_f_X11_cube_0 {x1 : Int32} {x2 : Int32} {x3 : Int32} {I : xI} {J : xJ} : SG (fun o => o.2.1) I (f_X11_cube_0 x1 x2 x3 I J) := by
  unfold f_X11_cube_0; exact (sg_bind (sg_at sx_rf (s_f_X5_hasBit)) (fun o ho => (sg_at ho (s_f_X11_cube_1))))
theorem s_f_X11_cube {x1 : Int32} {x2 : Int32} {x3 : Int32} {I : xI} {J : xJ} : SG (fun o => o.2.1) I (f_X11_cube x1 x2 x3 I J) := by
  unfold f_X11_cube; exact (sg_at sx_rf (s_f_X11_cube_0))
theorem s_f_X11_sum_5 {s0 : Int32} {I : xI} {J : xJ} : SG (fun o => o.2.1) I (f_X11_sum_5 s0 I J) := by
  unfold f_X11_sum_5; exact (sg_some sx_rf)
theorem s_f_X11_sum_4 {I : xI} {J : xJ} : SG (fun o => o.2.1) I (f_X11_sum_4 I J) := by
  unfold f_X11_sum_4; exact (sg_at sx_rf (s_f_X11_sum_5))
theorem s_f_X2_total_4_12 {x2 : Int32} {x3 : Int32} {x4 : Int32} {x5 : Int32} {z6 : Option Value} {I : xI} {J : xJ} : SG (fun o => o.2.1) I (f_X2_total_4_12 x2 x3 x4 x5 z6 I J) := by
  unfold f_X2_total_4_12; exact (sg_some sx_rf)
theorem s_f_X2_total_4_11 {x2 : Int32} {x3 : Int32} {x4 : Int32} {x5 : Int32} {x6 : Int32} {I : xI} {J : xJ} : SG (Sum.elim (fun o => o.2.2.2.2.2.1) (fun o => o.2.1)) I (f_X2_total_4_11 x2 x3 x4 x5 x6 I J) := by
  unfold f_X2_total_4_11; exact (sg_some sx_rf)
theorem s_f_X2_total_4_10 {x2 : Int32} {x3 : Int32} {x4 : Int32} {x5 : Int32} {x6 : Int32} {s0 : Int32} {s1 : Int32} {I : xI} {J : xJ} : SG (Sum.elim (fun o => o.2.2.2.2.2.1) (Sum.elim (fun o => o.2.2.2.2.2.1) (fun o => o.2.1))) I (f_X2_total_4_10 x2 x3 x4 x5 x6 s0 s1 I J) := by
  unfold f_X2_total_4_10; exact (sg_some sx_rf)
theorem s_f_X2_total_4_9 {x2 : Int32} {x3 : Int32} {x4 : Int32} {x5 : Int32} {x6 : Int32} {I : xI} {J : xJ} : SG (Sum.elim (fun o => o.2.2.2.2.2.1) (Sum.elim (fun o => o.2.2.2.2.2.1) (fun o => o.2.1))) I (f_X2_total_4_9 x2 x3 x4 x5 x6 I J) := by
  unfold f_X2_total_4_9; exact (sg_bind (sg_at sx_rf (s_f_X2_least _)) (fun o ho => (sg_at ho (s_f_X2_total_4_10))))
theorem s_f_X2_total_4_8 {x2 : Int32} {x3 : Int32} {x4 : Int32} {x5 : Int32} {x6 : Int32} {I : xI} {J : xJ} : SG (Sum.elim (fun o => o.2.2.2.2.2.1) (Sum.elim (fun o => o.2.2.2.2.2.1) (fun o => o.2.1))) I (f_X2_total_4_8 x2 x3 x4 x5 x6 I J) := by
  unfold f_X2_total_4_8; exact (sg_bind (sg_at sx_rf (s_f_X2_aim)) (fun o ho => (sg_at ho (s_f_X2_total_4_9))))
theorem s_f_X2_total_4_7 {x2 : Int32} {x3 : Int32} {x4 : Int32} {x5 : Int32} {x6 : Int32} {I : xI} {J : xJ} : SG (Sum.elim (fun o => o.2.2.2.2.2.1) (Sum.elim (fun o => o.2.2.2.2.2.1) (fun o => o.2.1))) I (f_X2_total_4_7 x2 x3 x4 x5 x6 I J) := by
  unfold f_X2_total_4_7; exact (sg_ite (sg_map (sg_at sx_rf (s_f_X2_total_4_11))) (sg_at sx_rf (s_f_X2_total_4_8)))
theorem s_f_X2_total_4_6 {x2 : Int32} {x3 : Int32} {x4 : Int32} {x5 : Int32} {x6 : Int32} {s0 : Int32} {s1 : Int32} {I : xI} {J : xJ} : SG (Sum.elim (fun o => o.2.2.2.2.2.1) (Sum.elim (fun o => o.2.2.2.2.2.1) (fun o => o.2.1))) I (f_X2_total_4_6 x2 x3 x4 x5 x6 s0 s1 I J) := by
  unfold f_X2_total_4_6; exact (sg_ite (sg_map (sg_at sx_rf (s_f_X2_total_4_11))) (sg_at sx_rf (s_f_X2_total_4_7)))
theorem s_b_X2_total_4_5 {x2 : Int32} {x3 : Int32} {x4 : Int32} {x5 : Int32} {x6 : Int32} {I : xI} {J : xJ} : SG (Sum.elim (fun o => o.2.2.2.2.2.1) (Sum.elim (fun o => o.2.2.2.2.2.1) (fun o => o.2.1))) I (b_X2_total_4_5 x2 x3 x4 x5 x6 I J) := by
  unfold b_X2_total_4_5; exact (sg_bind (sg_at sx_rf (s_f_X5_bits)) (fun o ho => (sg_at ho (s_f_X2_total_4_6))))
theorem s_f_X2_total_4_5 {x2 : Int32} {x3 : Int32} {x4 : Int32} {x5 : Int32} {x6 : Int32} {I : xI} {J : xJ} : SG (Sum.elim (fun o => o.2.2.2.2.2.1) (fun o => o.2.1)) I (f_X2_total_4_5 x2 x3 x4 x5 x6 I J) := by
  unfold f_X2_total_4_5; exact (sg_loop (gs := (fun o => o.2.2.2.2.2.1)) (fun s => s_b_X2_total_4_5) sx_rf)
theorem s_f_X2_total_4_4 {x2 : Int32} {x3 : Int32} {x4 : Int32} {x5 : Int32} {z6 : Option Value} {I : xI} {J : xJ} : SG (Sum.elim (fun o => o.2.2.2.2.2.1) (fun o => o.2.1)) I (f_X2_total_4_4 x2 x3 x4 x5 z6 I J) := by
  unfold f_X2_total_4_4; exact (sg_at sx_rf (s_f_X2_total_4_5))
theorem s_f_X2_total_4_3 {x2 : Int32} {x3 : Int32} {x4 : Int32} {x5 : Int32} {z6 : Option Value} {I : xI} {J : xJ} : SG (Sum.elim (fun o => o.2.2.2.2.2.1) (fun o => o.2.1)) I (f_X2_total_4_3 x2 x3 x4 x5 z6 I J) := by
  unfold f_X2_total_4_3; exact (sg_bind (sg_at sx_rf (s_f_X2_look_4)) (fun o ho => (sg_at ho (s_f_X2_total_4_4))))
theorem s_f_X2_total_4_2 {x2 : Int32} {x3 : Int32} {x4 : Int32} {x5 : Int32} {z6 : Option Value} {I : xI} {J : xJ} : SG (Sum.elim (fun o => o.2.2.2.2.2.1) (fun o => o.2.1)) I (f_X2_total_4_2 x2 x3 x4 x5 z6 I J) := by
  unfold f_X2_total_4_2; exact (sg_ite (sg_map (sg_at sx_rf (s_f_X2_total_4_12))) (sg_at sx_rf (s_f_X2_total_4_3)))
theorem s_b_X2_total_4_1 {x2 : Int32} {x3 : Int32} {x4 : Int32} {x5 : Int32} {z6 : Option Value} {I : xI} {J : xJ} : SG (Sum.elim (fun o => o.2.2.2.2.2.1) (fun o => o.2.1)) I (b_X2_total_4_1 x2 x3 x4 x5 z6 I J) := by
  unfold b_X2_total_4_1; exact (sg_ite (sg_map (sg_at sx_rf (s_f_X2_total_4_12))) (sg_at sx_rf (s_f_X2_total_4_2)))
theorem s_f_X2_total_4_1 {x2 : Int32} {x3 : Int32} {x4 : Int32} {x5 : Int32} {z6 : Option Value} {I : xI} {J : xJ} : SG (fun o => o.2.1) I (f_X2_total_4_1 x2 x3 x4 x5 z6 I J) := by
  unfold f_X2_total_4_1; exact (sg_loop (gs := (fun o => o.2.2.2.2.2.1)) (fun s => s_b_X2_total_4_1) sx_rf)
theorem s_f_X2_total_4_0 {x2 : Int32} {x3 : Int32} {I : xI} {J : xJ} : SG (fun o => o.2.1) I (f_X2_total_4_0 x2 x3 I J) := by
  unfold f_X2_total_4_0; exact (sg_at sx_rf (s_f_X2_total_4_1))
theorem s_f_X2_total_4 {x2 : Int32} {x3 : Int32} {I : xI} {J : xJ} : SG (fun o => o.2.1) I (f_X2_total_4 x2 x3 I J) := by
  unfold f_X2_total_4; exact (sg_at sx_rf (s_f_X2_total_4_0))
theorem s_f_X11_sum_3 {s0 : Int32} {I : xI} {J : xJ} : SG (fun o => o.2.1) I (f_X11_sum_3 s0 I J) := by
  unfold f_X11_sum_3; exact (sg_at sx_rf (s_f_X11_sum_5))
theorem s_f_X11_sum_2 {I : xI} {J : xJ} : SG (fun o => o.2.1) I (f_X11_sum_2 I J) := by
  unfold f_X11_sum_2; exact (sg_bind (sg_at sx_rf (s_f_X2_total_4)) (fun o ho => (sg_at ho (s_f_X11_sum_3))))
theorem s_f_X11_sum_1 {s0 : Int32} {I : xI} {J : xJ} : SG (fun o => o.2.1) I (f_X11_sum_1 s0 I J) := by
  unfold f_X11_sum_1; exact (sg_ite (sg_at sx_rf (s_f_X11_sum_4)) (sg_at sx_rf (s_f_X11_sum_2)))
theorem s_f_X11_sum_0 {I : xI} {J : xJ} : SG (fun o => o.2.1) I (f_X11_sum_0 I J) := by
  unfold f_X11_sum_0; exact (sg_bind (sg_at sx_rf (s_f_X5_isProper)) (fun o ho => (sg_at ho (s_f_X11_sum_1))))
theorem s_f_X11_sum {I : xI} {J : xJ} : SG (fun o => o.2.1) I (f_X11_sum I J) := by
  unfold f_X11_sum; exact (sg_at sx_rf (s_f_X11_sum_0))
theorem s_f_X11_coded_5 {x1 : Int32} {x2 : Int32} {I : xI} {J : xJ} : SG (fun o => o.2.1) I (f_X11_coded_5 x1 x2 I J) := by
  unfold f_X11_coded_5; exact (sg_some sx_rf)
theorem s_f_X11_coded_11 {x1 : Int32} {x2 : Int32} {s0 : Int32} {I : xI} {J : xJ} : SG (fun o => o.2.1) I (f_X11_coded_11 x1 x2 s0 I J) := by
  unfold f_X11_coded_11; exact (sg_some sx_rf)
theorem s_f_X11_coded_10 {x1 : Int32} {x2 : Int32} {I : xI} {J : xJ} : SG (fun o => o.2.1) I (f_X11_coded_10 x1 x2 I J) := by
  unfold f_X11_coded_10; exact (sg_at sx_rf (s_f_X11_coded_11))
theorem s_f_X2_nextCode_8 {x1 : Int32} {x2 : Int32} {x3 : Int32} {x4 : Int32} {z5 : Option Value} {z6 : Option Value} {I : xI} {J : xJ} : SG (fun o => o.2.1) I (f_X2_nextCode_8 x1 x2 x3 x4 z5 z6 I J) := by
  unfold f_X2_nextCode_8; exact (sg_some sx_rf)
theorem s_f_X2_nextCode_7 {x1 : Int32} {x2 : Int32} {x3 : Int32} {x4 : Int32} {x5 : Int32} {x6 : Int32} {I : xI} {J : xJ} : SG (Sum.elim (fun o => o.2.2.2.2.2.2.1) (fun o => o.2.1)) I (f_X2_nextCode_7 x1 x2 x3 x4 x5 x6 I J) := by
  unfold f_X2_nextCode_7; exact (sg_some sx_rf)
theorem s_f_X2_nextCode_6 {x1 : Int32} {x2 : Int32} {x3 : Int32} {x4 : Int32} {x5 : Int32} {x6 : Int32} {I : xI} {J : xJ} : SG (Sum.elim (fun o => o.2.2.2.2.2.2.1) (Sum.elim (fun o => o.2.2.2.2.2.2.1) (fun o => o.2.1))) I (f_X2_nextCode_6 x1 x2 x3 x4 x5 x6 I J) := by
  unfold f_X2_nextCode_6; exact (sg_ite sg_none (sg_ite sg_none (sg_some sx_rf)))
theorem s_b_X2_nextCode_5 {x1 : Int32} {x2 : Int32} {x3 : Int32} {x4 : Int32} {x5 : Int32} {x6 : Int32} {I : xI} {J : xJ} : SG (Sum.elim (fun o => o.2.2.2.2.2.2.1) (Sum.elim (fun o => o.2.2.2.2.2.2.1) (fun o => o.2.1))) I (b_X2_nextCode_5 x1 x2 x3 x4 x5 x6 I J) := by
  unfold b_X2_nextCode_5; exact (sg_ite (sg_map (sg_at sx_rf (s_f_X2_nextCode_7))) (sg_at sx_rf (s_f_X2_nextCode_6)))
theorem s_f_X2_nextCode_5 {x1 : Int32} {x2 : Int32} {x3 : Int32} {x4 : Int32} {x5 : Int32} {x6 : Int32} {I : xI} {J : xJ} : SG (Sum.elim (fun o => o.2.2.2.2.2.2.1) (fun o => o.2.1)) I (f_X2_nextCode_5 x1 x2 x3 x4 x5 x6 I J) := by
  unfold f_X2_nextCode_5; exact (sg_loop (gs := (fun o => o.2.2.2.2.2.2.1)) (fun s => s_b_X2_nextCode_5) sx_rf)
theorem s_f_X2_nextCode_4 {x1 : Int32} {x2 : Int32} {x3 : Int32} {x4 : Int32} {z5 : Option Value} {z6 : Option Value} {s0 : Int32} {I : xI} {J : xJ} : SG (Sum.elim (fun o => o.2.2.2.2.2.2.1) (fun o => o.2.1)) I (f_X2_nextCode_4 x1 x2 x3 x4 z5 z6 s0 I J) := by
  unfold f_X2_nextCode_4; exact (sg_at sx_rf (s_f_X2_nextCode_5))
theorem s_f_X2_nextCode_3 {x1 : Int32} {x2 : Int32} {x3 : Int32} {x4 : Int32} {z5 : Option Value} {z6 : Option Value} {I : xI} {J : xJ} : SG (Sum.elim (fun o => o.2.2.2.2.2.2.1) (fun o => o.2.1)) I (f_X2_nextCode_3 x1 x2 x3 x4 z5 z6 I J) := by
  unfold f_X2_nextCode_3; exact (sg_bind (sg_at sx_rf (s_f_X2_list)) (fun o ho => (sg_at ho (s_f_X2_nextCode_4))))
theorem s_f_X2_nextCode_2 {x1 : Int32} {x2 : Int32} {x3 : Int32} {x4 : Int32} {z5 : Option Value} {z6 : Option Value} {s0 : Int32} {s1 : Int32} {I : xI} {J : xJ} : SG (Sum.elim (fun o => o.2.2.2.2.2.2.1) (fun o => o.2.1)) I (f_X2_nextCode_2 x1 x2 x3 x4 z5 z6 s0 s1 I J) := by
  unfold f_X2_nextCode_2; exact (sg_ite (sg_map (sg_at sx_rf (s_f_X2_nextCode_8))) (sg_at sx_rf (s_f_X2_nextCode_3)))
theorem s_b_X2_nextCode_1 {x1 : Int32} {x2 : Int32} {x3 : Int32} {x4 : Int32} {z5 : Option Value} {z6 : Option Value} {I : xI} {J : xJ} : SG (Sum.elim (fun o => o.2.2.2.2.2.2.1) (fun o => o.2.1)) I (b_X2_nextCode_1 x1 x2 x3 x4 z5 z6 I J) := by
  unfold b_X2_nextCode_1; exact (sg_bind (sg_at sx_rf (s_f_X5_bits)) (fun o ho => (sg_at ho (s_f_X2_nextCode_2))))
theorem s_f_X2_nextCode_1 {x1 : Int32} {x2 : Int32} {x3 : Int32} {x4 : Int32} {z5 : Option Value} {z6 : Option Value} {I : xI} {J : xJ} : SG (fun o => o.2.1) I (f_X2_nextCode_1 x1 x2 x3 x4 z5 z6 I J) := by
  unfold f_X2_nextCode_1; exact (sg_loop (gs := (fun o => o.2.2.2.2.2.2.1)) (fun s => s_b_X2_nextCode_1) sx_rf)
theorem s_f_X2_nextCode_0 {x1 : Int32} {x2 : Int32} {I : xI} {J : xJ} : SG (fun o => o.2.1) I (f_X2_nextCode_0 x1 x2 I J) := by
  unfold f_X2_nextCode_0; exact (sg_at sx_rf (s_f_X2_nextCode_1))
theorem s_f_X2_nextCode {x1 : Int32} {x2 : Int32} {I : xI} {J : xJ} : SG (fun o => o.2.1) I (f_X2_nextCode x1 x2 I J) := by
  unfold f_X2_nextCode; exact (sg_at sx_rf (s_f_X2_nextCode_0))
theorem s_f_X11_coded_9 {x1 : Int32} {x2 : Int32} {s0 : Int32} {I : xI} {J : xJ} : SG (fun o => o.2.1) I (f_X11_coded_9 x1 x2 s0 I J) := by
  unfold f_X11_coded_9; exact (sg_at sx_rf (s_f_X11_coded_11))
theorem s_f_X11_coded_8 {x1 : Int32} {x2 : Int32} {I : xI} {J : xJ} : SG (fun o => o.2.1) I (f_X11_coded_8 x1 x2 I J) := by
  unfold f_X11_coded_8; exact (sg_bind (sg_at sx_rf (s_f_X2_nextCode)) (fun o ho => (sg_at ho (s_f_X11_coded_9))))
theorem s_f_X11_coded_7 {x1 : Int32} {x2 : Int32} {s0 : Int32} {I : xI} {J : xJ} : SG (fun o => o.2.1) I (f_X11_coded_7 x1 x2 s0 I J) := by
  unfold f_X11_coded_7; exact (sg_ite (sg_at sx_rf (s_f_X11_coded_10)) (sg_at sx_rf (s_f_X11_coded_8)))
theorem s_f_X11_coded_6 {x1 : Int32} {x2 : Int32} {I : xI} {J : xJ} : SG (fun o => o.2.1) I (f_X11_coded_6 x1 x2 I J) := by
  unfold f_X11_coded_6; exact (sg_bind (sg_at sx_rf (s_f_X5_isProper)) (fun o ho => (sg_at ho (s_f_X11_coded_7))))
theorem s_f_X11_coded_4 {x1 : Int32} {x2 : Int32} {s0 : Int32} {I : xI} {J : xJ} : SG (fun o => o.2.1) I (f_X11_coded_4 x1 x2 s0 I J) := by
  unfold f_X11_coded_4; exact (sg_ite (sg_at sx_rf (s_f_X11_coded_5)) (sg_at sx_rf (s_f_X11_coded_6)))
theorem s_f_X11_coded_3 {x1 : Int32} {x2 : Int32} {I : xI} {J : xJ} : SG (fun o => o.2.1) I (f_X11_coded_3 x1 x2 I J) := by
  unfold f_X11_coded_3; exact (sg_bind (sg_at sx_rf (s_f_X5_hasInput)) (fun o ho => (sg_at ho (s_f_X11_coded_4))))
theorem s_f_X11_coded_2 {x1 : Int32} {x2 : Int32} {s0 : Int32} {s1 : Int32} {s2 : Int32} {I : xI} {J : xJ} : SG (fun o => o.2.1) I (f_X11_coded_2 x1 x2 s0 s1 s2 I J) := by
  unfold f_X11_coded_2; exact (sg_ite (sg_at sx_rf (s_f_X11_coded_5)) (sg_at sx_rf (s_f_X11_coded_3)))
theorem s_f_X11_coded_1 {x1 : Int32} {x2 : Int32} {I : xI} {J : xJ} : SG (fun o => o.2.1) I (f_X11_coded_1 x1 x2 I J) := by
  unfold f_X11_coded_1; exact (sg_bind (sg_at sx_rf (s_f_X5_bits)) (fun o ho => (sg_at ho (s_f_X11_coded_2))))
theorem s_f_X11_coded_0 {x1 : Int32} {x2 : Int32} {I : xI} {J : xJ} : SG (fun o => o.2.1) I (f_X11_coded_0 x1 x2 I J) := by
  unfold f_X11_coded_0; exact (sg_ite (sg_at sx_rf (s_f_X11_coded_5)) (sg_at sx_rf (s_f_X11_coded_1)))
theorem s_f_X11_coded {x1 : Int32} {x2 : Int32} {I : xI} {J : xJ} : SG (fun o => o.2.1) I (f_X11_coded x1 x2 I J) := by
  unfold f_X11_coded; exact (sg_at sx_rf (s_f_X11_coded_0))
theorem s_f_X11_best_5 {x1 : Int32} {x2 : Int32} {I : xI} {J : xJ} : SG (fun o => o.2.1) I (f_X11_best_5 x1 x2 I J) := by
  unfold f_X11_best_5; exact (sg_some sx_rf)
theorem s_f_X0_refresh_2 {x1 : Int32} {I : xI} {J : xJ} : SG (fun o => o.2.1) I (f_X0_refresh_2 x1 I J) := by
  unfold f_X0_refresh_2; exact (sg_some sx_rf)
theorem s_f_X0_assign_17 {self : Int32 → Int32 → Int32 → xI → xJ → Option (Unit × xI × xJ)} {x1 : Int32} {x2 : Int32} {x3 : Int32} {x4 : Int32} {x5 : Int32} {I : xI} {J : xJ} (hs : ∀ (a0 a1 a2 : Int32) (I : xI) (J : xJ), SG (fun o => o.2.1) I (self a0 a1 a2 I J)) : SG (fun o => o.2.1) I (f_X0_assign_17 self x1 x2 x3 x4 x5 I J) := by
  unfold f_X0_assign_17; exact (sg_some sx_rf)
theorem s_f_X0_areBitsInOrder_7 {x1 : Int32} {x2 : Int32} {I : xI} {J : xJ} : SG (fun o => o.2.1) I (f_X0_areBitsInOrder_7 x1 x2 I J) := by
  unfold f_X0_areBitsInOrder_7; exact (sg_some sx_rf)
theorem s_f_X0_isFirstIn_8 {x1 : Int32} {x2 : Int32} {x3 : Int32} {x4 : Int32} {z5 : Option Value} {z6 : Option Value} {I : xI} {J : xJ} : SG (fun o => o.2.1) I (f_X0_isFirstIn_8 x1 x2 x3 x4 z5 z6 I J) := by
  unfold f_X0_isFirstIn_8; exact (sg_some sx_rf)
theorem s_f_X0_isFirstIn_7 {x1 : Int32} {x2 : Int32} {x3 : Int32} {x4 : Int32} {x5 : Int32} {x6 : Int32} {I : xI} {J : xJ} : SG (Sum.elim (fun o => o.2.2.2.2.2.2.1) (fun o => o.2.1)) I (f_X0_isFirstIn_7 x1 x2 x3 x4 x5 x6 I J) := by
  unfold f_X0_isFirstIn_7; exact (sg_some sx_rf)
theorem s_f_X0_isFirstIn_6 {x1 : Int32} {x2 : Int32} {x3 : Int32} {x4 : Int32} {x5 : Int32} {x6 : Int32} {s0 : Int32} {I : xI} {J : xJ} : SG (fun o => o.2.1) I (f_X0_isFirstIn_6 x1 x2 x3 x4 x5 x6 s0 I J) := by
  unfold f_X0_isFirstIn_6; exact (sg_ite (sg_some sx_rf) sg_none)
theorem s_f_X0_isFirstIn_4 {x1 : Int32} {x2 : Int32} {x3 : Int32} {x4 : Int32} {x5 : Int32} {x6 : Int32} {I : xI} {J : xJ} : SG (fun o => o.2.1) I (f_X0_isFirstIn_4 x1 x2 x3 x4 x5 x6 I J) := by
  unfold f_X0_isFirstIn_4; exact (sg_at sx_rf (s_f_X0_isFirstIn_6))
theorem s_f_X0_isFirstIn_5 {x1 : Int32} {x2 : Int32} {x3 : Int32} {x4 : Int32} {x5 : Int32} {x6 : Int32} {I : xI} {J : xJ} : SG (fun o => o.2.1) I (f_X0_isFirstIn_5 x1 x2 x3 x4 x5 x6 I J) := by
  unfold f_X0_isFirstIn_5; exact (sg_at sx_rf (s_f_X0_isFirstIn_6))
theorem s_f_X0_isFirstIn_3 {x1 : Int32} {x2 : Int32} {x3 : Int32} {x4 : Int32} {x5 : Int32} {x6 : Int32} {I : xI} {J : xJ} : SG (fun o => o.2.1) I (f_X0_isFirstIn_3 x1 x2 x3 x4 x5 x6 I J) := by
  unfold f_X0_isFirstIn_3; exact (sg_ite (sg_at sx_rf (s_f_X0_isFirstIn_4)) (sg_at sx_rf (s_f_X0_isFirstIn_5)))
theorem s_f_X0_isFirstIn_2 {x1 : Int32} {x2 : Int32} {x3 : Int32} {x4 : Int32} {z5 : Option Value} {z6 : Option Value} {I : xI} {J : xJ} : SG (Sum.elim (fun o => o.2.2.2.2.2.2.1) (fun o => o.2.1)) I (f_X0_isFirstIn_2 x1 x2 x3 x4 z5 z6 I J) := by
  unfold f_X0_isFirstIn_2; exact (sg_ite sg_none (sg_ite sg_none (sg_ite (sg_at sx_rf (s_f_X0_isFirstIn_7)) (sg_map (sg_at sx_rf (s_f_X0_isFirstIn_3))))))
theorem s_b_X0_isFirstIn_1 {x1 : Int32} {x2 : Int32} {x3 : Int32} {x4 : Int32} {z5 : Option Value} {z6 : Option Value} {I : xI} {J : xJ} : SG (Sum.elim (fun o => o.2.2.2.2.2.2.1) (fun o => o.2.1)) I (b_X0_isFirstIn_1 x1 x2 x3 x4 z5 z6 I J) := by
  unfold b_X0_isFirstIn_1; exact (sg_ite (sg_map (sg_at sx_rf (s_f_X0_isFirstIn_8))) (sg_at sx_rf (s_f_X0_isFirstIn_2)))
theorem s_f_X0_isFirstIn_1 {x1 : Int32} {x2 : Int32} {x3 : Int32} {x4 : Int32} {z5 : Option Value} {z6 : Option Value} {I : xI} {J : xJ} : SG (fun o => o.2.1) I (f_X0_isFirstIn_1 x1 x2 x3 x4 z5 z6 I J) := by
  unfold f_X0_isFirstIn_1; exact (sg_loop (gs := (fun o => o.2.2.2.2.2.2.1)) (fun s => s_b_X0_isFirstIn_1) sx_rf)
theorem s_f_X0_isFirstIn_0 {x1 : Int32} {x2 : Int32} {x3 : Int32} {I : xI} {J : xJ} : SG (fun o => o.2.1) I (f_X0_isFirstIn_0 x1 x2 x3 I J) := by
  unfold f_X0_isFirstIn_0; exact (sg_at sx_rf (s_f_X0_isFirstIn_1))
theorem s_f_X0_isFirstIn {x1 : Int32} {x2 : Int32} {x3 : Int32} {I : xI} {J : xJ} : SG (fun o => o.2.1) I (f_X0_isFirstIn x1 x2 x3 I J) := by
  unfold f_X0_isFirstIn; exact (sg_at sx_rf (s_f_X0_isFirstIn_0))
theorem s_f_X0_areBitsInOrder_6 {x1 : Int32} {x2 : Int32} {I : xI} {J : xJ} : SG (Sum.elim (fun o => o.2.2.1) (fun o => o.2.1)) I (f_X0_areBitsInOrder_6 x1 x2 I J) := by
  unfold f_X0_areBitsInOrder_6; exact (sg_some sx_rf)
theorem s_f_X0_areBitsInOrder_5 {x1 : Int32} {x2 : Int32} {I : xI} {J : xJ} : SG (fun o => o.2.1) I (f_X0_areBitsInOrder_5 x1 x2 I J) := by
  unfold f_X0_areBitsInOrder_5; exact (sg_some sx_rf)
theorem s_f_X0_areBitsInOrder_4 {x1 : Int32} {x2 : Int32} {s0 : Int32} {I : xI} {J : xJ} : SG (Sum.elim (fun o => o.2.2.1) (fun o => o.2.1)) I (f_X0_areBitsInOrder_4 x1 x2 s0 I J) := by
  unfold f_X0_areBitsInOrder_4; exact (sg_ite (sg_at sx_rf (s_f_X0_areBitsInOrder_6)) (sg_map (sg_at sx_rf (s_f_X0_areBitsInOrder_5))))
theorem s_f_X0_areBitsInOrder_3 {x1 : Int32} {x2 : Int32} {I : xI} {J : xJ} : SG (Sum.elim (fun o => o.2.2.1) (fun o => o.2.1)) I (f_X0_areBitsInOrder_3 x1 x2 I J) := by
  unfold f_X0_areBitsInOrder_3; exact (sg_bind (sg_at sx_rf (s_f_X0_isFirstIn)) (fun o ho => (sg_at ho (s_f_X0_areBitsInOrder_4))))
theorem s_f_X0_areBitsInOrder_2 {x1 : Int32} {x2 : Int32} {s0 : Int32} {s1 : Int32} {I : xI} {J : xJ} : SG (Sum.elim (fun o => o.2.2.1) (fun o => o.2.1)) I (f_X0_areBitsInOrder_2 x1 x2 s0 s1 I J) := by
  unfold f_X0_areBitsInOrder_2; exact (sg_ite (sg_map (sg_at sx_rf (s_f_X0_areBitsInOrder_7))) (sg_at sx_rf (s_f_X0_areBitsInOrder_3)))
theorem s_b_X0_areBitsInOrder_1 {x1 : Int32} {x2 : Int32} {I : xI} {J : xJ} : SG (Sum.elim (fun o => o.2.2.1) (fun o => o.2.1)) I (b_X0_areBitsInOrder_1 x1 x2 I J) := by
  unfold b_X0_areBitsInOrder_1; exact (sg_bind (sg_at sx_rf (s_f_X5_bits)) (fun o ho => (sg_at ho (s_f_X0_areBitsInOrder_2))))
theorem s_f_X0_areBitsInOrder_1 {x1 : Int32} {x2 : Int32} {I : xI} {J : xJ} : SG (fun o => o.2.1) I (f_X0_areBitsInOrder_1 x1 x2 I J) := by
  unfold f_X0_areBitsInOrder_1; exact (sg_loop (gs := (fun o => o.2.2.1)) (fun s => s_b_X0_areBitsInOrder_1) sx_rf)
theorem s_f_X0_areBitsInOrder_0 {x1 : Int32} {I : xI} {J : xJ} : SG (fun o => o.2.1) I (f_X0_areBitsInOrder_0 x1 I J) := by
  unfold f_X0_areBitsInOrder_0; exact (sg_at sx_rf (s_f_X0_areBitsInOrder_1))
theorem s_f_X0_areBitsInOrder {x1 : Int32} {I : xI} {J : xJ} : SG (fun o => o.2.1) I (f_X0_areBitsInOrder x1 I J) := by
  unfold f_X0_areBitsInOrder; exact (sg_at sx_rf (s_f_X0_areBitsInOrder_0))
theorem s_f_X0_assign_16 {self : Int32 → Int32 → Int32 → xI → xJ → Option (Unit × xI × xJ)} {x1 : Int32} {x2 : Int32} {x3 : Int32} {x4 : Int32} {x5 : Int32} {I : xI} {J : xJ} (hs : ∀ (a0 a1 a2 : Int32) (I : xI) (J : xJ), SG (fun o => o.2.1) I (self a0 a1 a2 I J)) : SG (Sum.elim (fun o => o.2.2.2.2.2.1) (fun o => o.2.1)) I (f_X0_assign_16 self x1 x2 x3 x4 x5 I J) := by
  unfold f_X0_assign_16; exact (sg_some sx_rf)
theorem s_f_X0_canBeLess_5 {x1 : Int32} {x2 : Int32} {s0 : Int32} {I : xI} {J : xJ} : SG (fun o => o.2.1) I (f_X0_canBeLess_5 x1 x2 s0 I J) := by
  unfold f_X0_canBeLess_5; exact (sg_ite (sg_some sx_rf) sg_none)
theorem s_f_X0_canBeLess_3 {x1 : Int32} {x2 : Int32} {I : xI} {J : xJ} : SG (fun o => o.2.1) I (f_X0_canBeLess_3 x1 x2 I J) := by
  unfold f_X0_canBeLess_3; exact (sg_at sx_rf (s_f_X0_canBeLess_5))
theorem s_f_X2_total_57_12 {x2 : Int32} {x3 : Int32} {x4 : Int32} {x5 : Int32} {z6 : Option Value} {I : xI} {J : xJ} : SG (fun o => o.2.1) I (f_X2_total_57_12 x2 x3 x4 x5 z6 I J) := by
  unfold f_X2_total_57_12; exact (sg_some sx_rf)
theorem s_f_X2_look_57_7 {x2 : Int32} {x3 : Int32} {x4 : Int32} {z5 : Option Value} {I : xI} {J : xJ} : SG (fun o => o.2.1) I (f_X2_look_57_7 x2 x3 x4 z5 I J) := by
  unfold f_X2_look_57_7; exact (sg_some sx_rf)
theorem s_f_X2_look_57_6 {x2 : Int32} {x3 : Int32} {x4 : Int32} {x5 : Int32} {I : xI} {J : xJ} : SG (Sum.elim (fun o => o.2.2.2.2.1) (fun o => o.2.1)) I (f_X2_look_57_6 x2 x3 x4 x5 I J) := by
  unfold f_X2_look_57_6; exact (sg_some sx_rf)
theorem s_f_X2_look_57_5 {x2 : Int32} {x3 : Int32} {x4 : Int32} {x5 : Int32} {I : xI} {J : xJ} : SG (Sum.elim (fun o => o.2.2.2.2.1) (fun o => o.2.1)) I (f_X2_look_57_5 x2 x3 x4 x5 I J) := by
  unfold f_X2_look_57_5; exact (sg_ite sg_none (sg_ite sg_none (sg_ite sg_none (sg_ite sg_none (sg_at (sx_upc (sx_upc sx_rf rfl) rfl) (s_f_X2_look_57_6))))))
theorem s_f_X2_look_57_4 {x2 : Int32} {x3 : Int32} {x4 : Int32} {x5 : Int32} {I : xI} {J : xJ} : SG (Sum.elim (fun o => o.2.2.2.2.1) (fun o => o.2.1)) I (f_X2_look_57_4 x2 x3 x4 x5 I J) := by
  unfold f_X2_look_57_4; exact (sg_ite (sg_at sx_rf (s_f_X2_look_57_6)) (sg_at sx_rf (s_f_X2_look_57_5)))
theorem s_f_X2_look_57_3 {x2 : Int32} {x3 : Int32} {x4 : Int32} {z5 : Option Value} {s0 : Int32} {I : xI} {J : xJ} : SG (Sum.elim (fun o => o.2.2.2.2.1) (fun o => o.2.1)) I (f_X2_look_57_3 x2 x3 x4 z5 s0 I J) := by
  unfold f_X2_look_57_3; exact (sg_ite (sg_at sx_rf (s_f_X2_look_57_6)) (sg_at sx_rf (s_f_X2_look_57_4)))
theorem s_f_X2_look_57_2 {x2 : Int32} {x3 : Int32} {x4 : Int32} {z5 : Option Value} {I : xI} {J : xJ} : SG (Sum.elim (fun o => o.2.2.2.2.1) (fun o => o.2.1)) I (f_X2_look_57_2 x2 x3 x4 z5 I J) := by
  unfold f_X2_look_57_2; exact (sg_bind (sg_at sx_rf (s_f_X5_targetOf)) (fun o ho => (sg_at ho (s_f_X2_look_57_3))))
theorem s_b_X2_look_57_1 {x2 : Int32} {x3 : Int32} {x4 : Int32} {z5 : Option Value} {I : xI} {J : xJ} : SG (Sum.elim (fun o => o.2.2.2.2.1) (fun o => o.2.1)) I (b_X2_look_57_1 x2 x3 x4 z5 I J) := by
  unfold b_X2_look_57_1; exact (sg_ite (sg_map (sg_at sx_rf (s_f_X2_look_57_7))) (sg_at sx_rf (s_f_X2_look_57_2)))
theorem s_f_X2_look_57_1 {x2 : Int32} {x3 : Int32} {x4 : Int32} {z5 : Option Value} {I : xI} {J : xJ} : SG (fun o => o.2.1) I (f_X2_look_57_1 x2 x3 x4 z5 I J) := by
  unfold f_X2_look_57_1; exact (sg_loop (gs := (fun o => o.2.2.2.2.1)) (fun s => s_b_X2_look_57_1) sx_rf)
theorem s_f_X2_look_57_0 {x2 : Int32} {x3 : Int32} {I : xI} {J : xJ} : SG (fun o => o.2.1) I (f_X2_look_57_0 x2 x3 I J) := by
  unfold f_X2_look_57_0; exact (sg_at (sx_upc (sx_upc sx_rf rfl) rfl) (s_f_X2_look_57_1))
theorem s_f_X2_look_57 {x2 : Int32} {x3 : Int32} {I : xI} {J : xJ} : SG (fun o => o.2.1) I (f_X2_look_57 x2 x3 I J) := by
  unfold f_X2_look_57; exact (sg_at sx_rf (s_f_X2_look_57_0))
theorem s_f_X2_total_57_11 {x2 : Int32} {x3 : Int32} {x4 : Int32} {x5 : Int32} {x6 : Int32} {I : xI} {J : xJ} : SG (Sum.elim (fun o => o.2.2.2.2.2.1) (fun o => o.2.1)) I (f_X2_total_57_11 x2 x3 x4 x5 x6 I J) := by
  unfold f_X2_total_57_11; exact (sg_some sx_rf)
theorem s_f_X2_total_57_10 {x2 : Int32} {x3 : Int32} {x4 : Int32} {x5 : Int32} {x6 : Int32} {s0 : Int32} {s1 : Int32} {I : xI} {J : xJ} : SG (Sum.elim (fun o => o.2.2.2.2.2.1) (Sum.elim (fun o => o.2.2.2.2.2.1) (fun o => o.2.1))) I (f_X2_total_57_10 x2 x3 x4 x5 x6 s0 s1 I J) := by
  unfold f_X2_total_57_10; exact (sg_some sx_rf)
theorem s_f_X2_total_57_9 {x2 : Int32} {x3 : Int32} {x4 : Int32} {x5 : Int32} {x6 : Int32} {I : xI} {J : xJ} : SG (Sum.elim (fun o => o.2.2.2.2.2.1) (Sum.elim (fun o => o.2.2.2.2.2.1) (fun o => o.2.1))) I (f_X2_total_57_9 x2 x3 x4 x5 x6 I J) := by
  unfold f_X2_total_57_9; exact (sg_bind (sg_at sx_rf (s_f_X2_least _)) (fun o ho => (sg_at ho (s_f_X2_total_57_10))))
theorem s_f_X2_total_57_8 {x2 : Int32} {x3 : Int32} {x4 : Int32} {x5 : Int32} {x6 : Int32} {I : xI} {J : xJ} : SG (Sum.elim (fun o => o.2.2.2.2.2.1) (Sum.elim (fun o => o.2.2.2.2.2.1) (fun o => o.2.1))) I (f_X2_total_57_8 x2 x3 x4 x5 x6 I J) := by
  unfold f_X2_total_57_8; exact (sg_bind (sg_at sx_rf (s_f_X2_aim)) (fun o ho => (sg_at ho (s_f_X2_total_57_9))))
theorem s_f_X2_total_57_7 {x2 : Int32} {x3 : Int32} {x4 : Int32} {x5 : Int32} {x6 : Int32} {I : xI} {J : xJ} : SG (Sum.elim (fun o => o.2.2.2.2.2.1) (Sum.elim (fun o => o.2.2.2.2.2.1) (fun o => o.2.1))) I (f_X2_total_57_7 x2 x3 x4 x5 x6 I J) := by
  unfold f_X2_total_57_7; exact (sg_ite (sg_map (sg_at sx_rf (s_f_X2_total_57_11))) (sg_at sx_rf (s_f_X2_total_57_8)))
theorem s_f_X2_total_57_6 {x2 : Int32} {x3 : Int32} {x4 : Int32} {x5 : Int32} {x6 : Int32} {s0 : Int32} {s1 : Int32} {I : xI} {J : xJ} : SG (Sum.elim (fun o => o.2.2.2.2.2.1) (Sum.elim (fun o => o.2.2.2.2.2.1) (fun o => o.2.1))) I (f_X2_total_57_6 x2 x3 x4 x5 x6 s0 s1 I J) := by
  unfold f_X2_total_57_6; exact (sg_ite (sg_map (sg_at sx_rf (s_f_X2_total_57_11))) (sg_at sx_rf (s_f_X2_total_57_7)))
theorem s_b_X2_total_57_5 {x2 : Int32} {x3 : Int32} {x4 : Int32} {x5 : Int32} {x6 : Int32} {I : xI} {J : xJ} : SG (Sum.elim (fun o => o.2.2.2.2.2.1) (Sum.elim (fun o => o.2.2.2.2.2.1) (fun o => o.2.1))) I (b_X2_total_57_5 x2 x3 x4 x5 x6 I J) := by
  unfold b_X2_total_57_5; exact (sg_bind (sg_at sx_rf (s_f_X5_bits)) (fun o ho => (sg_at ho (s_f_X2_total_57_6))))
theorem s_f_X2_total_57_5 {x2 : Int32} {x3 : Int32} {x4 : Int32} {x5 : Int32} {x6 : Int32} {I : xI} {J : xJ} : SG (Sum.elim (fun o => o.2.2.2.2.2.1) (fun o => o.2.1)) I (f_X2_total_57_5 x2 x3 x4 x5 x6 I J) := by
  unfold f_X2_total_57_5; exact (sg_loop (gs := (fun o => o.2.2.2.2.2.1)) (fun s => s_b_X2_total_57_5) sx_rf)
theorem s_f_X2_total_57_4 {x2 : Int32} {x3 : Int32} {x4 : Int32} {x5 : Int32} {z6 : Option Value} {I : xI} {J : xJ} : SG (Sum.elim (fun o => o.2.2.2.2.2.1) (fun o => o.2.1)) I (f_X2_total_57_4 x2 x3 x4 x5 z6 I J) := by
  unfold f_X2_total_57_4; exact (sg_at sx_rf (s_f_X2_total_57_5))
theorem s_f_X2_total_57_3 {x2 : Int32} {x3 : Int32} {x4 : Int32} {x5 : Int32} {z6 : Option Value} {I : xI} {J : xJ} : SG (Sum.elim (fun o => o.2.2.2.2.2.1) (fun o => o.2.1)) I (f_X2_total_57_3 x2 x3 x4 x5 z6 I J) := by
  unfold f_X2_total_57_3; exact (sg_bind (sg_at sx_rf (s_f_X2_look_57)) (fun o ho => (sg_at ho (s_f_X2_total_57_4))))
theorem s_f_X2_total_57_2 {x2 : Int32} {x3 : Int32} {x4 : Int32} {x5 : Int32} {z6 : Option Value} {I : xI} {J : xJ} : SG (Sum.elim (fun o => o.2.2.2.2.2.1) (fun o => o.2.1)) I (f_X2_total_57_2 x2 x3 x4 x5 z6 I J) := by
  unfold f_X2_total_57_2; exact (sg_ite (sg_map (sg_at sx_rf (s_f_X2_total_57_12))) (sg_at sx_rf (s_f_X2_total_57_3)))
theorem s_b_X2_total_57_1 {x2 : Int32} {x3 : Int32} {x4 : Int32} {x5 : Int32} {z6 : Option Value} {I : xI} {J : xJ} : SG (Sum.elim (fun o => o.2.2.2.2.2.1) (fun o => o.2.1)) I (b_X2_total_57_1 x2 x3 x4 x5 z6 I J) := by
  unfold b_X2_total_57_1; exact (sg_ite (sg_map (sg_at sx_rf (s_f_X2_total_57_12))) (sg_at sx_rf (s_f_X2_total_57_2)))
theorem s_f_X2_total_57_1 {x2 : Int32} {x3 : Int32} {x4 : Int32} {x5 : Int32} {z6 : Option Value} {I : xI} {J : xJ} : SG (fun o => o.2.1) I (f_X2_total_57_1 x2 x3 x4 x5 z6 I J) := by
  unfold f_X2_total_57_1; exact (sg_loop (gs := (fun o => o.2.2.2.2.2.1)) (fun s => s_b_X2_total_57_1) sx_rf)
theorem s_f_X2_total_57_0 {x2 : Int32} {x3 : Int32} {I : xI} {J : xJ} : SG (fun o => o.2.1) I (f_X2_total_57_0 x2 x3 I J) := by
  unfold f_X2_total_57_0; exact (sg_at sx_rf (s_f_X2_total_57_1))
theorem s_f_X2_total_57 {x2 : Int32} {x3 : Int32} {I : xI} {J : xJ} : SG (fun o => o.2.1) I (f_X2_total_57 x2 x3 I J) := by
  unfold f_X2_total_57; exact (sg_at sx_rf (s_f_X2_total_57_0))
theorem s_f_X0_canBeLess_4 {x1 : Int32} {x2 : Int32} {I : xI} {J : xJ} : SG (fun o => o.2.1) I (f_X0_canBeLess_4 x1 x2 I J) := by
  unfold f_X0_canBeLess_4; exact (sg_at sx_rf (s_f_X0_canBeLess_5))
theorem s_f_X0_canBeLess_2 {x1 : Int32} {x2 : Int32} {s0 : Int32} {I : xI} {J : xJ} : SG (fun o => o.2.1) I (f_X0_canBeLess_2 x1 x2 s0 I J) := by
  unfold f_X0_canBeLess_2; exact (sg_ite sg_none (sg_ite (sg_at sx_rf (s_f_X0_canBeLess_4)) (sg_at sx_rf (s_f_X0_canBeLess_3))))
theorem s_f_X0_canBeLess_1 {x1 : Int32} {x2 : Int32} {I : xI} {J : xJ} : SG (fun o => o.2.1) I (f_X0_canBeLess_1 x1 x2 I J) := by
  unfold f_X0_canBeLess_1; exact (sg_ite sg_none (sg_bind (sg_at sx_rf (s_f_X2_total_57)) (fun o ho => (sg_at ho (s_f_X0_canBeLess_2)))))
theorem s_f_X0_canBeLess_0 {x1 : Int32} {x2 : Int32} {I : xI} {J : xJ} : SG (fun o => o.2.1) I (f_X0_canBeLess_0 x1 x2 I J) := by
  unfold f_X0_canBeLess_0; exact (sg_ite (sg_at sx_rf (s_f_X0_canBeLess_3)) (sg_at sx_rf (s_f_X0_canBeLess_1)))
theorem s_f_X0_canBeLess {x1 : Int32} {x2 : Int32} {I : xI} {J : xJ} : SG (fun o => o.2.1) I (f_X0_canBeLess x1 x2 I J) := by
  unfold f_X0_canBeLess; exact (sg_at sx_rf (s_f_X0_canBeLess_0))
theorem s_f_X0_assign_15 {self : Int32 → Int32 → Int32 → xI → xJ → Option (Unit × xI × xJ)} {x1 : Int32} {x2 : Int32} {x3 : Int32} {x4 : Int32} {x5 : Int32} {I : xI} {J : xJ} (hs : ∀ (a0 a1 a2 : Int32) (I : xI) (J : xJ), SG (fun o => o.2.1) I (self a0 a1 a2 I J)) : SG (Sum.elim (fun o => o.2.2.2.2.2.1) (fun o => o.2.1)) I (f_X0_assign_15 self x1 x2 x3 x4 x5 I J) := by
  unfold f_X0_assign_15; exact (sg_bind (sg_at sx_rf (hs _ _ _ _ _)) (fun o ho => (sg_at ho (s_f_X0_assign_16 hs))))
theorem s_f_X0_assign_14 {self : Int32 → Int32 → Int32 → xI → xJ → Option (Unit × xI × xJ)} {x1 : Int32} {x2 : Int32} {x3 : Int32} {x4 : Int32} {x5 : Int32} {s0 : Int32} {I : xI} {J : xJ} (hs : ∀ (a0 a1 a2 : Int32) (I : xI) (J : xJ), SG (fun o => o.2.1) I (self a0 a1 a2 I J)) : SG (Sum.elim (fun o => o.2.2.2.2.2.1) (fun o => o.2.1)) I (f_X0_assign_14 self x1 x2 x3 x4 x5 s0 I J) := by
  unfold f_X0_assign_14; exact (sg_ite (sg_at sx_rf (s_f_X0_assign_16 hs)) (sg_at sx_rf (s_f_X0_assign_15 hs)))
theorem s_f_X0_assign_13 {self : Int32 → Int32 → Int32 → xI → xJ → Option (Unit × xI × xJ)} {x1 : Int32} {x2 : Int32} {x3 : Int32} {x4 : Int32} {x5 : Int32} {I : xI} {J : xJ} (hs : ∀ (a0 a1 a2 : Int32) (I : xI) (J : xJ), SG (fun o => o.2.1) I (self a0 a1 a2 I J)) : SG (Sum.elim (fun o => o.2.2.2.2.2.1) (fun o => o.2.1)) I (f_X0_assign_13 self x1 x2 x3 x4 x5 I J) := by
  unfold f_X0_assign_13; exact (sg_bind (sg_at sx_rf (s_f_X0_canBeLess)) (fun o ho => (sg_at ho (s_f_X0_assign_14 hs))))
theorem s_f_X0_assign_12 {self : Int32 → Int32 → Int32 → xI → xJ → Option (Unit × xI × xJ)} {x1 : Int32} {x2 : Int32} {x3 : Int32} {x4 : Int32} {x5 : Int32} {s0 : Int32} {I : xI} {J : xJ} (hs : ∀ (a0 a1 a2 : Int32) (I : xI) (J : xJ), SG (fun o => o.2.1) I (self a0 a1 a2 I J)) : SG (Sum.elim (fun o => o.2.2.2.2.2.1) (fun o => o.2.1)) I (f_X0_assign_12 self x1 x2 x3 x4 x5 s0 I J) := by
  unfold f_X0_assign_12; exact (sg_ite (sg_at sx_rf (s_f_X0_assign_16 hs)) (sg_at sx_rf (s_f_X0_assign_13 hs)))
theorem s_f_X0_assign_11 {self : Int32 → Int32 → Int32 → xI → xJ → Option (Unit × xI × xJ)} {x1 : Int32} {x2 : Int32} {x3 : Int32} {x4 : Int32} {x5 : Int32} {I : xI} {J : xJ} (hs : ∀ (a0 a1 a2 : Int32) (I : xI) (J : xJ), SG (fun o => o.2.1) I (self a0 a1 a2 I J)) : SG (Sum.elim (fun o => o.2.2.2.2.2.1) (fun o => o.2.1)) I (f_X0_assign_11 self x1 x2 x3 x4 x5 I J) := by
  unfold f_X0_assign_11; exact (sg_bind (sg_at sx_rf (s_f_X0_areBitsInOrder)) (fun o ho => (sg_at ho (s_f_X0_assign_12 hs))))
theorem s_f_X0_assign_10 {self : Int32 → Int32 → Int32 → xI → xJ → Option (Unit × xI × xJ)} {x1 : Int32} {x2 : Int32} {x3 : Int32} {x4 : Int32} {x5 : Int32} {I : xI} {J : xJ} (hs : ∀ (a0 a1 a2 : Int32) (I : xI) (J : xJ), SG (fun o => o.2.1) I (self a0 a1 a2 I J)) : SG (Sum.elim (fun o => o.2.2.2.2.2.1) (fun o => o.2.1)) I (f_X0_assign_10 self x1 x2 x3 x4 x5 I J) := by
  unfold f_X0_assign_10; exact (sg_ite sg_none (sg_ite (sg_at (sx_upc sx_rf rfl) (s_f_X0_assign_11 hs)) (sg_at (sx_upc sx_rf rfl) (s_f_X0_assign_16 hs))))
theorem s_b_X0_assign_9 {self : Int32 → Int32 → Int32 → xI → xJ → Option (Unit × xI × xJ)} {x1 : Int32} {x2 : Int32} {x3 : Int32} {x4 : Int32} {x5 : Int32} {I : xI} {J : xJ} (hs : ∀ (a0 a1 a2 : Int32) (I : xI) (J : xJ), SG (fun o => o.2.1) I (self a0 a1 a2 I J)) : SG (Sum.elim (fun o => o.2.2.2.2.2.1) (fun o => o.2.1)) I (b_X0_assign_9 self x1 x2 x3 x4 x5 I J) := by
  unfold b_X0_assign_9; exact (sg_ite (sg_map (sg_at sx_rf (s_f_X0_assign_17 hs))) (sg_at sx_rf (s_f_X0_assign_10 hs)))
theorem s_f_X0_assign_9 {self : Int32 → Int32 → Int32 → xI → xJ → Option (Unit × xI × xJ)} {x1 : Int32} {x2 : Int32} {x3 : Int32} {x4 : Int32} {x5 : Int32} {I : xI} {J : xJ} (hs : ∀ (a0 a1 a2 : Int32) (I : xI) (J : xJ), SG (fun o => o.2.1) I (self a0 a1 a2 I J)) : SG (fun o => o.2.1) I (f_X0_assign_9 self x1 x2 x3 x4 x5 I J) := by
  unfold f_X0_assign_9; exact (sg_loop (gs := (fun o => o.2.2.2.2.2.1)) (fun s => s_b_X0_assign_9 hs) sx_rf)
theorem s_f_X0_assign_8 {self : Int32 → Int32 → Int32 → xI → xJ → Option (Unit × xI × xJ)} {x1 : Int32} {x2 : Int32} {x3 : Int32} {s0 : Int32} {I : xI} {J : xJ} (hs : ∀ (a0 a1 a2 : Int32) (I : xI) (J : xJ), SG (fun o => o.2.1) I (self a0 a1 a2 I J)) : SG (fun o => o.2.1) I (f_X0_assign_8 self x1 x2 x3 s0 I J) := by
  unfold f_X0_assign_8; exact (sg_at sx_rf (s_f_X0_assign_9 hs))
theorem s_f_X0_assign_5 {self : Int32 → Int32 → Int32 → xI → xJ → Option (Unit × xI × xJ)} {x1 : Int32} {x2 : Int32} {x3 : Int32} {I : xI} {J : xJ} (hs : ∀ (a0 a1 a2 : Int32) (I : xI) (J : xJ), SG (fun o => o.2.1) I (self a0 a1 a2 I J)) : SG (fun o => o.2.1) I (f_X0_assign_5 self x1 x2 x3 I J) := by
  unfold f_X0_assign_5; exact (sg_at sx_rf (s_f_X0_assign_8 hs))
theorem s_f_X0_assign_7 {self : Int32 → Int32 → Int32 → xI → xJ → Option (Unit × xI × xJ)} {x1 : Int32} {x2 : Int32} {x3 : Int32} {s0 : Int32} {s1 : Int32} {I : xI} {J : xJ} (hs : ∀ (a0 a1 a2 : Int32) (I : xI) (J : xJ), SG (fun o => o.2.1) I (self a0 a1 a2 I J)) : SG (fun o => o.2.1) I (f_X0_assign_7 self x1 x2 x3 s0 s1 I J) := by
  unfold f_X0_assign_7; exact (sg_at sx_rf (s_f_X0_assign_8 hs))
theorem s_f_X0_assign_6 {self : Int32 → Int32 → Int32 → xI → xJ → Option (Unit × xI × xJ)} {x1 : Int32} {x2 : Int32} {x3 : Int32} {I : xI} {J : xJ} (hs : ∀ (a0 a1 a2 : Int32) (I : xI) (J : xJ), SG (fun o => o.2.1) I (self a0 a1 a2 I J)) : SG (fun o => o.2.1) I (f_X0_assign_6 self x1 x2 x3 I J) := by
  unfold f_X0_assign_6; exact (sg_bind (sg_at sx_rf (s_f_X5_bits)) (fun o ho => (sg_at ho (s_f_X0_assign_7 hs))))
theorem s_f_X0_assign_4 {self : Int32 → Int32 → Int32 → xI → xJ → Option (Unit × xI × xJ)} {x1 : Int32} {x2 : Int32} {x3 : Int32} {I : xI} {J : xJ} (hs : ∀ (a0 a1 a2 : Int32) (I : xI) (J : xJ), SG (fun o => o.2.1) I (self a0 a1 a2 I J)) : SG (fun o => o.2.1) I (f_X0_assign_4 self x1 x2 x3 I J) := by
  unfold f_X0_assign_4; exact (sg_ite (sg_at sx_rf (s_f_X0_assign_5 hs)) (sg_at sx_rf (s_f_X0_assign_6 hs)))
theorem s_f_X0_assign_3 {self : Int32 → Int32 → Int32 → xI → xJ → Option (Unit × xI × xJ)} {x1 : Int32} {x2 : Int32} {x3 : Int32} {I : xI} {J : xJ} (hs : ∀ (a0 a1 a2 : Int32) (I : xI) (J : xJ), SG (fun o => o.2.1) I (self a0 a1 a2 I J)) : SG (fun o => o.2.1) I (f_X0_assign_3 self x1 x2 x3 I J) := by
  unfold f_X0_assign_3; exact (sg_ite (sg_at sx_rf (s_f_X0_assign_4 hs)) (sg_at sx_rf (s_f_X0_assign_6 hs)))
theorem s_f_X3_alikePairs_57_9 {x2 : Int32} {x3 : Int32} {x4 : Int32} {z5 : Option Value} {I : xI} {J : xJ} : SG (fun o => o.2.1) I (f_X3_alikePairs_57_9 x2 x3 x4 z5 I J) := by
  unfold f_X3_alikePairs_57_9; exact (sg_some sx_rf)
theorem s_f_X3_alikePairs_57_8 {x2 : Int32} {x3 : Int32} {x4 : Int32} {x5 : Int32} {I : xI} {J : xJ} : SG (Sum.elim (fun o => o.2.2.2.2.1) (fun o => o.2.1)) I (f_X3_alikePairs_57_8 x2 x3 x4 x5 I J) := by
  unfold f_X3_alikePairs_57_8; exact (sg_some sx_rf)
theorem s_f_X3_alikePairs_57_7 {x2 : Int32} {x3 : Int32} {x4 : Int32} {x5 : Int32} {I : xI} {J : xJ} : SG (Sum.elim (fun o => o.2.2.2.2.1) (Sum.elim (fun o => o.2.2.2.2.1) (fun o => o.2.1))) I (f_X3_alikePairs_57_7 x2 x3 x4 x5 I J) := by
  unfold f_X3_alikePairs_57_7; exact (sg_some sx_rf)
theorem s_f_X3_alikePairs_57_6 {x2 : Int32} {x3 : Int32} {x4 : Int32} {x5 : Int32} {s0 : Int32} {s1 : Int32} {I : xI} {J : xJ} : SG (Sum.elim (fun o => o.2.2.2.2.1) (Sum.elim (fun o => o.2.2.2.2.1) (fun o => o.2.1))) I (f_X3_alikePairs_57_6 x2 x3 x4 x5 s0 s1 I J) := by
  unfold f_X3_alikePairs_57_6; exact (sg_at sx_rf (s_f_X3_alikePairs_57_7))
theorem s_f_X3_alikePairs_57_5 {x2 : Int32} {x3 : Int32} {x4 : Int32} {x5 : Int32} {I : xI} {J : xJ} : SG (Sum.elim (fun o => o.2.2.2.2.1) (Sum.elim (fun o => o.2.2.2.2.1) (fun o => o.2.1))) I (f_X3_alikePairs_57_5 x2 x3 x4 x5 I J) := by
  unfold f_X3_alikePairs_57_5; exact (sg_bind (sg_at sx_rf (s_f_X11_pairOf)) (fun o ho => (sg_at ho (s_f_X3_alikePairs_57_6))))
theorem s_f_X3_alikePairs_57_4 {x2 : Int32} {x3 : Int32} {x4 : Int32} {x5 : Int32} {I : xI} {J : xJ} : SG (Sum.elim (fun o => o.2.2.2.2.1) (Sum.elim (fun o => o.2.2.2.2.1) (fun o => o.2.1))) I (f_X3_alikePairs_57_4 x2 x3 x4 x5 I J) := by
  unfold f_X3_alikePairs_57_4; exact (sg_ite sg_none (sg_ite sg_none (sg_ite (sg_at sx_rf (s_f_X3_alikePairs_57_5)) (sg_at sx_rf (s_f_X3_alikePairs_57_7)))))
theorem s_b_X3_alikePairs_57_3 {x2 : Int32} {x3 : Int32} {x4 : Int32} {x5 : Int32} {I : xI} {J : xJ} : SG (Sum.elim (fun o => o.2.2.2.2.1) (Sum.elim (fun o => o.2.2.2.2.1) (fun o => o.2.1))) I (b_X3_alikePairs_57_3 x2 x3 x4 x5 I J) := by
  unfold b_X3_alikePairs_57_3; exact (sg_ite (sg_map (sg_at sx_rf (s_f_X3_alikePairs_57_8))) (sg_at sx_rf (s_f_X3_alikePairs_57_4)))
theorem s_f_X3_alikePairs_57_3 {x2 : Int32} {x3 : Int32} {x4 : Int32} {x5 : Int32} {I : xI} {J : xJ} : SG (Sum.elim (fun o => o.2.2.2.2.1) (fun o => o.2.1)) I (f_X3_alikePairs_57_3 x2 x3 x4 x5 I J) := by
  unfold f_X3_alikePairs_57_3; exact (sg_loop (gs := (fun o => o.2.2.2.2.1)) (fun s => s_b_X3_alikePairs_57_3) sx_rf)
theorem s_f_X3_alikePairs_57_2 {x2 : Int32} {x3 : Int32} {x4 : Int32} {z5 : Option Value} {I : xI} {J : xJ} : SG (Sum.elim (fun o => o.2.2.2.2.1) (fun o => o.2.1)) I (f_X3_alikePairs_57_2 x2 x3 x4 z5 I J) := by
  unfold f_X3_alikePairs_57_2; exact (sg_at sx_rf (s_f_X3_alikePairs_57_3))
theorem s_b_X3_alikePairs_57_1 {x2 : Int32} {x3 : Int32} {x4 : Int32} {z5 : Option Value} {I : xI} {J : xJ} : SG (Sum.elim (fun o => o.2.2.2.2.1) (fun o => o.2.1)) I (b_X3_alikePairs_57_1 x2 x3 x4 z5 I J) := by
  unfold b_X3_alikePairs_57_1; exact (sg_ite (sg_map (sg_at sx_rf (s_f_X3_alikePairs_57_9))) (sg_at sx_rf (s_f_X3_alikePairs_57_2)))
theorem s_f_X3_alikePairs_57_1 {x2 : Int32} {x3 : Int32} {x4 : Int32} {z5 : Option Value} {I : xI} {J : xJ} : SG (fun o => o.2.1) I (f_X3_alikePairs_57_1 x2 x3 x4 z5 I J) := by
  unfold f_X3_alikePairs_57_1; exact (sg_loop (gs := (fun o => o.2.2.2.2.1)) (fun s => s_b_X3_alikePairs_57_1) sx_rf)
theorem s_f_X3_alikePairs_57_0 {x2 : Int32} {I : xI} {J : xJ} : SG (fun o => o.2.1) I (f_X3_alikePairs_57_0 x2 I J) := by
  unfold f_X3_alikePairs_57_0; exact (sg_at sx_rf (s_f_X3_alikePairs_57_1))
theorem s_f_X3_alikePairs_57 {x2 : Int32} {I : xI} {J : xJ} : SG (fun o => o.2.1) I (f_X3_alikePairs_57 x2 I J) := by
  unfold f_X3_alikePairs_57; exact (sg_at sx_rf (s_f_X3_alikePairs_57_0))
theorem s_f_X3_load_57_18 {x2 : Int32} {x3 : Int32} {z4 : Option Value} {z5 : Option Value} {I : xI} {J : xJ} : SG (fun o => o.2.1) I (f_X3_load_57_18 x2 x3 z4 z5 I J) := by
  unfold f_X3_load_57_18; exact (sg_some sx_rf)
theorem s_f_X3_load_57_17 {x2 : Int32} {x3 : Int32} {x4 : Int32} {x5 : Int32} {s1 : Int32} {s2 : Int32} {I : xI} {J : xJ} : SG (Sum.elim (fun o => o.2.2.2.2.1) (fun o => o.2.1)) I (f_X3_load_57_17 x2 x3 x4 x5 s1 s2 I J) := by
  unfold f_X3_load_57_17; exact (sg_ite sg_none (sg_some (sx_upc sx_rf rfl)))
theorem s_f_X3_load_57_16 {x2 : Int32} {x3 : Int32} {x4 : Int32} {x5 : Int32} {I : xI} {J : xJ} : SG (Sum.elim (fun o => o.2.2.2.2.1) (fun o => o.2.1)) I (f_X3_load_57_16 x2 x3 x4 x5 I J) := by
  unfold f_X3_load_57_16; exact (sg_bind (sg_at sx_rf (s_f_X6_followed)) (fun o ho => (sg_at ho (s_f_X3_load_57_17))))
theorem s_f_X3_load_57_15 {x2 : Int32} {x3 : Int32} {x4 : Int32} {x5 : Int32} {s0 : Int32} {s1 : Int32} {I : xI} {J : xJ} : SG (Sum.elim (fun o => o.2.2.2.2.1) (Sum.elim (fun o => o.2.2.2.2.1) (fun o => o.2.1))) I (f_X3_load_57_15 x2 x3 x4 x5 s0 s1 I J) := by
  unfold f_X3_load_57_15; exact (sg_some sx_rf)
theorem s_f_X3_load_57_13 {x2 : Int32} {x3 : Int32} {x4 : Int32} {x5 : Int32} {s0 : Int32} {I : xI} {J : xJ} : SG (Sum.elim (fun o => o.2.2.2.2.1) (Sum.elim (fun o => o.2.2.2.2.1) (fun o => o.2.1))) I (f_X3_load_57_13 x2 x3 x4 x5 s0 I J) := by
  unfold f_X3_load_57_13; exact (sg_ite sg_none (sg_at sx_rf (s_f_X3_load_57_15)))
theorem s_f_X3_load_57_14 {x2 : Int32} {x3 : Int32} {x4 : Int32} {x5 : Int32} {s0 : Int32} {I : xI} {J : xJ} : SG (Sum.elim (fun o => o.2.2.2.2.1) (Sum.elim (fun o => o.2.2.2.2.1) (fun o => o.2.1))) I (f_X3_load_57_14 x2 x3 x4 x5 s0 I J) := by
  unfold f_X3_load_57_14; exact (sg_at sx_rf (s_f_X3_load_57_15))
theorem s_f_X3_load_57_12 {x2 : Int32} {x3 : Int32} {x4 : Int32} {x5 : Int32} {I : xI} {J : xJ} : SG (Sum.elim (fun o => o.2.2.2.2.1) (Sum.elim (fun o => o.2.2.2.2.1) (fun o => o.2.1))) I (f_X3_load_57_12 x2 x3 x4 x5 I J) := by
  unfold f_X3_load_57_12; exact (sg_ite (sg_at sx_rf (s_f_X3_load_57_13)) (sg_at sx_rf (s_f_X3_load_57_14)))
theorem s_f_X3_load_57_11 {x2 : Int32} {x3 : Int32} {x4 : Int32} {x5 : Int32} {s0 : Int32} {s1 : Int32} {I : xI} {J : xJ} : SG (Sum.elim (fun o => o.2.2.2.2.1) (Sum.elim (fun o => o.2.2.2.2.1) (fun o => o.2.1))) I (f_X3_load_57_11 x2 x3 x4 x5 s0 s1 I J) := by
  unfold f_X3_load_57_11; exact (sg_ite (sg_map (sg_at sx_rf (s_f_X3_load_57_16))) (sg_at sx_rf (s_f_X3_load_57_12)))
theorem s_b_X3_load_57_10 {x2 : Int32} {x3 : Int32} {x4 : Int32} {x5 : Int32} {I : xI} {J : xJ} : SG (Sum.elim (fun o => o.2.2.2.2.1) (Sum.elim (fun o => o.2.2.2.2.1) (fun o => o.2.1))) I (b_X3_load_57_10 x2 x3 x4 x5 I J) := by
  unfold b_X3_load_57_10; exact (sg_bind (sg_at sx_rf (s_f_X5_bits)) (fun o ho => (sg_at ho (s_f_X3_load_57_11))))
theorem s_f_X3_load_57_10 {x2 : Int32} {x3 : Int32} {x4 : Int32} {x5 : Int32} {I : xI} {J : xJ} : SG (Sum.elim (fun o => o.2.2.2.2.1) (fun o => o.2.1)) I (f_X3_load_57_10 x2 x3 x4 x5 I J) := by
  unfold f_X3_load_57_10; exact (sg_loop (gs := (fun o => o.2.2.2.2.1)) (fun s => s_b_X3_load_57_10) sx_rf)
theorem s_f_X3_load_57_9 {x2 : Int32} {x3 : Int32} {z4 : Option Value} {z5 : Option Value} {I : xI} {J : xJ} : SG (Sum.elim (fun o => o.2.2.2.2.1) (fun o => o.2.1)) I (f_X3_load_57_9 x2 x3 z4 z5 I J) := by
  unfold f_X3_load_57_9; exact (sg_at sx_rf (s_f_X3_load_57_10))
theorem s_f_X3_load_57_8 {x2 : Int32} {x3 : Int32} {z4 : Option Value} {z5 : Option Value} {s0 : Int32} {s1 : Int32} {s2 : Int32} {I : xI} {J : xJ} : SG (Sum.elim (fun o => o.2.2.2.2.1) (fun o => o.2.1)) I (f_X3_load_57_8 x2 x3 z4 z5 s0 s1 s2 I J) := by
  unfold f_X3_load_57_8; exact (sg_ite (sg_map (sg_at sx_rf (s_f_X3_load_57_18))) (sg_at sx_rf (s_f_X3_load_57_9)))
theorem s_b_X3_load_57_7 {x2 : Int32} {x3 : Int32} {z4 : Option Value} {z5 : Option Value} {I : xI} {J : xJ} : SG (Sum.elim (fun o => o.2.2.2.2.1) (fun o => o.2.1)) I (b_X3_load_57_7 x2 x3 z4 z5 I J) := by
  unfold b_X3_load_57_7; exact (sg_bind (sg_at sx_rf (s_f_X5_bits)) (fun o ho => (sg_at ho (s_f_X3_load_57_8))))
theorem s_f_X3_load_57_7 {x2 : Int32} {x3 : Int32} {z4 : Option Value} {z5 : Option Value} {I : xI} {J : xJ} : SG (fun o => o.2.1) I (f_X3_load_57_7 x2 x3 z4 z5 I J) := by
  unfold f_X3_load_57_7; exact (sg_loop (gs := (fun o => o.2.2.2.2.1)) (fun s => s_b_X3_load_57_7) sx_rf)
theorem s_f_X3_load_57_6 {x2 : Int32} {x3 : Int32} {I : xI} {J : xJ} : SG (fun o => o.2.1) I (f_X3_load_57_6 x2 x3 I J) := by
  unfold f_X3_load_57_6; exact (sg_at sx_rf (s_f_X3_load_57_7))
theorem s_f_X3_load_57_5 {x2 : Int32} {x3 : Int32} {s1 : Int32} {s2 : Int32} {I : xI} {J : xJ} : SG (Sum.elim (fun o => o.2.2.1) (fun o => o.2.1)) I (f_X3_load_57_5 x2 x3 s1 s2 I J) := by
  unfold f_X3_load_57_5; exact (sg_ite sg_none (sg_some (sx_upc sx_rf rfl)))
theorem s_f_X3_load_57_4 {x2 : Int32} {x3 : Int32} {I : xI} {J : xJ} : SG (Sum.elim (fun o => o.2.2.1) (fun o => o.2.1)) I (f_X3_load_57_4 x2 x3 I J) := by
  unfold f_X3_load_57_4; exact (sg_bind (sg_at sx_rf (s_f_X3_alikePairs_57)) (fun o ho => (sg_at ho (s_f_X3_load_57_5))))
theorem s_f_X3_load_57_3 {x2 : Int32} {x3 : Int32} {s0 : Int32} {s1 : Int32} {I : xI} {J : xJ} : SG (Sum.elim (fun o => o.2.2.1) (fun o => o.2.1)) I (f_X3_load_57_3 x2 x3 s0 s1 I J) := by
  unfold f_X3_load_57_3; exact (sg_ite (sg_map (sg_at sx_rf (s_f_X3_load_57_6))) (sg_at sx_rf (s_f_X3_load_57_4)))
theorem s_b_X3_load_57_2 {x2 : Int32} {x3 : Int32} {I : xI} {J : xJ} : SG (Sum.elim (fun o => o.2.2.1) (fun o => o.2.1)) I (b_X3_load_57_2 x2 x3 I J) := by
  unfold b_X3_load_57_2; exact (sg_bind (sg_at sx_rf (s_f_X5_bits)) (fun o ho => (sg_at ho (s_f_X3_load_57_3))))
theorem s_f_X3_load_57_2 {x2 : Int32} {x3 : Int32} {I : xI} {J : xJ} : SG (fun o => o.2.1) I (f_X3_load_57_2 x2 x3 I J) := by
  unfold f_X3_load_57_2; exact (sg_loop (gs := (fun o => o.2.2.1)) (fun s => s_b_X3_load_57_2) sx_rf)
theorem s_f_X3_load_57_1 {s0 : Int32} {I : xI} {J : xJ} : SG (fun o => o.2.1) I (f_X3_load_57_1 s0 I J) := by
  unfold f_X3_load_57_1; exact (sg_at sx_rf (s_f_X3_load_57_2))
theorem s_f_X3_load_57_0 {I : xI} {J : xJ} : SG (fun o => o.2.1) I (f_X3_load_57_0 I J) := by
  unfold f_X3_load_57_0; exact (sg_bind (sg_at sx_rf (s_f_X3_alikePairs_57)) (fun o ho => (sg_at ho (s_f_X3_load_57_1))))
theorem s_f_X3_load_57 {I : xI} {J : xJ} : SG (fun o => o.2.1) I (f_X3_load_57 I J) := by
  unfold f_X3_load_57; exact (sg_at sx_rf (s_f_X3_load_57_0))
theorem s_f_X0_weigh_8 {x1 : Int32} {x2 : Int32} {I : xI} {J : xJ} : SG (fun o => o.2.1) I (f_X0_weigh_8 x1 x2 I J) := by
  unfold f_X0_weigh_8; exact (sg_some sx_rf)
theorem s_f_X0_weigh_7 {x1 : Int32} {x2 : Int32} {I : xI} {J : xJ} : SG (fun o => o.2.1) I (f_X0_weigh_7 x1 x2 I J) := by
  unfold f_X0_weigh_7; exact (sg_ite sg_none (sg_ite sg_none (sg_at (sx_cp (sx_upc sx_rf rfl) rfl) (s_f_X0_weigh_8))))
theorem s_f_X0_weigh_6 {x1 : Int32} {x2 : Int32} {I : xI} {J : xJ} : SG (fun o => o.2.1) I (f_X0_weigh_6 x1 x2 I J) := by
  unfold f_X0_weigh_6; exact (sg_ite sg_none (sg_ite (sg_at sx_rf (s_f_X0_weigh_8)) (sg_at sx_rf (s_f_X0_weigh_7))))
theorem s_f_X0_weigh_3 {x1 : Int32} {s0 : Int32} {I : xI} {J : xJ} : SG (fun o => o.2.1) I (f_X0_weigh_3 x1 s0 I J) := by
  unfold f_X0_weigh_3; exact (sg_at sx_rf (s_f_X0_weigh_6))
theorem s_f_X0_weigh_2 {x1 : Int32} {I : xI} {J : xJ} : SG (fun o => o.2.1) I (f_X0_weigh_2 x1 I J) := by
  unfold f_X0_weigh_2; exact (sg_bind (sg_at sx_rf (s_f_X3_total)) (fun o ho => (sg_at ho (s_f_X0_weigh_3))))
theorem s_f_X0_weigh_1 {x1 : Int32} {I : xI} {J : xJ} : SG (fun o => o.2.1) I (f_X0_weigh_1 x1 I J) := by
  unfold f_X0_weigh_1; exact (sg_bind (sg_at sx_rf (s_f_X3_load_57)) (fun o ho => (sg_at ho (s_f_X0_weigh_2))))
theorem s_f_X0_weigh_5 {x1 : Int32} {s0 : Int32} {I : xI} {J : xJ} : SG (fun o => o.2.1) I (f_X0_weigh_5 x1 s0 I J) := by
  unfold f_X0_weigh_5; exact (sg_at sx_rf (s_f_X0_weigh_6))
theorem s_f_X0_weigh_4 {x1 : Int32} {I : xI} {J : xJ} : SG (fun o => o.2.1) I (f_X0_weigh_4 x1 I J) := by
  unfold f_X0_weigh_4; exact (sg_ite sg_none (sg_bind (sg_at sx_rf (s_f_X2_total_57)) (fun o ho => (sg_at ho (s_f_X0_weigh_5)))))
theorem s_f_X0_weigh_0 {x1 : Int32} {I : xI} {J : xJ} : SG (fun o => o.2.1) I (f_X0_weigh_0 x1 I J) := by
  unfold f_X0_weigh_0; exact (sg_ite (sg_at sx_rf (s_f_X0_weigh_1)) (sg_at sx_rf (s_f_X0_weigh_4)))
theorem s_f_X0_weigh {x1 : Int32} {I : xI} {J : xJ} : SG (fun o => o.2.1) I (f_X0_weigh x1 I J) := by
  unfold f_X0_weigh; exact (sg_at sx_rf (s_f_X0_weigh_0))
theorem s_f_X0_assign_2 {self : Int32 → Int32 → Int32 → xI → xJ → Option (Unit × xI × xJ)} {x1 : Int32} {x2 : Int32} {x3 : Int32} {I : xI} {J : xJ} (hs : ∀ (a0 a1 a2 : Int32) (I : xI) (J : xJ), SG (fun o => o.2.1) I (self a0 a1 a2 I J)) : SG (fun o => o.2.1) I (f_X0_assign_2 self x1 x2 x3 I J) := by
  unfold f_X0_assign_2; exact (sg_some sx_rf)
theorem s_f_X0_assign_1 {self : Int32 → Int32 → Int32 → xI → xJ → Option (Unit × xI × xJ)} {x1 : Int32} {x2 : Int32} {x3 : Int32} {I : xI} {J : xJ} (hs : ∀ (a0 a1 a2 : Int32) (I : xI) (J : xJ), SG (fun o => o.2.1) I (self a0 a1 a2 I J)) : SG (fun o => o.2.1) I (f_X0_assign_1 self x1 x2 x3 I J) := by
  unfold f_X0_assign_1; exact (sg_bind (sg_at sx_rf (s_f_X0_weigh)) (fun o ho => (sg_at ho (s_f_X0_assign_2 hs))))
theorem s_f_X0_assign_0 {self : Int32 → Int32 → Int32 → xI → xJ → Option (Unit × xI × xJ)} {x1 : Int32} {x2 : Int32} {x3 : Int32} {I : xI} {J : xJ} (hs : ∀ (a0 a1 a2 : Int32) (I : xI) (J : xJ), SG (fun o => o.2.1) I (self a0 a1 a2 I J)) : SG (fun o => o.2.1) I (f_X0_assign_0 self x1 x2 x3 I J) := by
  unfold f_X0_assign_0; exact (sg_ite (sg_at sx_rf (s_f_X0_assign_3 hs)) (sg_at sx_rf (s_f_X0_assign_1 hs)))
theorem s_f_X0_assign : ∀ (r : Nat) {x0 x1 x2 : Int32} {I : xI} {J : xJ}, SG (fun o => o.2.1) I (f_X0_assign r x0 x1 x2 I J) := by
  intro r
  induction r with
  | zero => intros; exact sg_none
  | succ r ih => intros; exact s_f_X0_assign_0 (fun _ _ _ _ _ => ih)
theorem s_f_X0_refresh_1 {x1 : Int32} {I : xI} {J : xJ} : SG (fun o => o.2.1) I (f_X0_refresh_1 x1 I J) := by
  unfold f_X0_refresh_1; exact (sg_ite sg_none (sg_ite sg_none (sg_bind (sg_at (sx_upc (sx_age sx_rf (by decide)) rfl) (s_f_X0_assign _)) (fun o ho => (sg_at ho (s_f_X0_refresh_2))))))
theorem s_f_X0_refresh_0 {x1 : Int32} {I : xI} {J : xJ} : SG (fun o => o.2.1) I (f_X0_refresh_0 x1 I J) := by
  unfold f_X0_refresh_0; exact (sg_ite sg_none (sg_ite (sg_at sx_rf (s_f_X0_refresh_2)) (sg_at sx_rf (s_f_X0_refresh_1))))
theorem s_f_X0_refresh {x1 : Int32} {I : xI} {J : xJ} : SG (fun o => o.2.1) I (f_X0_refresh x1 I J) := by
  unfold f_X0_refresh; exact (sg_at sx_rf (s_f_X0_refresh_0))
theorem s_f_X11_best_11 {x1 : Int32} {x2 : Int32} {s0 : Int32} {I : xI} {J : xJ} : SG (fun o => o.2.1) I (f_X11_best_11 x1 x2 s0 I J) := by
  unfold f_X11_best_11; exact (sg_some sx_rf)
theorem s_f_X11_best_9 {x1 : Int32} {x2 : Int32} {I : xI} {J : xJ} : SG (fun o => o.2.1) I (f_X11_best_9 x1 x2 I J) := by
  unfold f_X11_best_9; exact (sg_ite sg_none (sg_at sx_rf (s_f_X11_best_11)))
theorem s_f_X11_best_10 {x1 : Int32} {x2 : Int32} {I : xI} {J : xJ} : SG (fun o => o.2.1) I (f_X11_best_10 x1 x2 I J) := by
  unfold f_X11_best_10; exact (sg_ite sg_none (sg_at sx_rf (s_f_X11_best_11)))
theorem s_f_X11_best_8 {x1 : Int32} {x2 : Int32} {I : xI} {J : xJ} : SG (fun o => o.2.1) I (f_X11_best_8 x1 x2 I J) := by
  unfold f_X11_best_8; exact (sg_ite (sg_at sx_rf (s_f_X11_best_9)) (sg_at sx_rf (s_f_X11_best_10)))
theorem s_f_X11_best_7 {x1 : Int32} {x2 : Int32} {I : xI} {J : xJ} : SG (fun o => o.2.1) I (f_X11_best_7 x1 x2 I J) := by
  unfold f_X11_best_7; exact (sg_bind (sg_at sx_rf (s_f_X0_refresh)) (fun o ho => (sg_at ho (s_f_X11_best_8))))
theorem s_f_X11_best_6 {x1 : Int32} {x2 : Int32} {I : xI} {J : xJ} : SG (fun o => o.2.1) I (f_X11_best_6 x1 x2 I J) := by
  unfold f_X11_best_6; exact (sg_bind (sg_at sx_rf (s_f_X6_refresh)) (fun o ho => (sg_at ho (s_f_X11_best_7))))
theorem s_f_X11_best_4 {x1 : Int32} {x2 : Int32} {s0 : Int32} {I : xI} {J : xJ} : SG (fun o => o.2.1) I (f_X11_best_4 x1 x2 s0 I J) := by
  unfold f_X11_best_4; exact (sg_ite (sg_at sx_rf (s_f_X11_best_5)) (sg_at sx_rf (s_f_X11_best_6)))
theorem s_f_X11_best_3 {x1 : Int32} {x2 : Int32} {I : xI} {J : xJ} : SG (fun o => o.2.1) I (f_X11_best_3 x1 x2 I J) := by
  unfold f_X11_best_3; exact (sg_bind (sg_at sx_rf (s_f_X5_hasState)) (fun o ho => (sg_at ho (s_f_X11_best_4))))
theorem s_f_X11_best_2 {x1 : Int32} {x2 : Int32} {I : xI} {J : xJ} : SG (fun o => o.2.1) I (f_X11_best_2 x1 x2 I J) := by
  unfold f_X11_best_2; exact (sg_ite (sg_at sx_rf (s_f_X11_best_6)) (sg_at sx_rf (s_f_X11_best_3)))
theorem s_f_X11_best_1 {x1 : Int32} {x2 : Int32} {I : xI} {J : xJ} : SG (fun o => o.2.1) I (f_X11_best_1 x1 x2 I J) := by
  unfold f_X11_best_1; exact (sg_ite (sg_at sx_rf (s_f_X11_best_5)) (sg_at sx_rf (s_f_X11_best_2)))
theorem s_f_X11_best_0 {x1 : Int32} {x2 : Int32} {I : xI} {J : xJ} : SG (fun o => o.2.1) I (f_X11_best_0 x1 x2 I J) := by
  unfold f_X11_best_0; exact (sg_ite (sg_at sx_rf (s_f_X11_best_5)) (sg_at sx_rf (s_f_X11_best_1)))
theorem s_f_X11_best {x1 : Int32} {x2 : Int32} {I : xI} {J : xJ} : SG (fun o => o.2.1) I (f_X11_best x1 x2 I J) := by
  unfold f_X11_best; exact (sg_at sx_rf (s_f_X11_best_0))
theorem s_f_X11_count_2 {x1 : Int32} {I : xI} {J : xJ} : SG (fun o => o.2.1) I (f_X11_count_2 x1 I J) := by
  unfold f_X11_count_2; exact (sg_some sx_rf)
theorem s_f_X11_count_3 {x1 : Int32} {I : xI} {J : xJ} : SG (fun o => o.2.1) I (f_X11_count_3 x1 I J) := by
  unfold f_X11_count_3; exact (sg_some sx_rf)
theorem s_f_X5_openMoves_10 {x1 : Int32} {x2 : Int32} {z3 : Option Value} {I : xI} {J : xJ} : SG (fun o => o.2.1) I (f_X5_openMoves_10 x1 x2 z3 I J) := by
  unfold f_X5_openMoves_10; exact (sg_some sx_rf)
theorem s_f_X5_openMoves_9 {x1 : Int32} {x2 : Int32} {x3 : Int32} {I : xI} {J : xJ} : SG (Sum.elim (fun o => o.2.2.2.1) (fun o => o.2.1)) I (f_X5_openMoves_9 x1 x2 x3 I J) := by
  unfold f_X5_openMoves_9; exact (sg_some sx_rf)
theorem s_f_X5_openMoves_8 {x1 : Int32} {x2 : Int32} {x3 : Int32} {s0 : Int32} {s1 : Int32} {I : xI} {J : xJ} : SG (Sum.elim (fun o => o.2.2.2.1) (Sum.elim (fun o => o.2.2.2.1) (fun o => o.2.1))) I (f_X5_openMoves_8 x1 x2 x3 s0 s1 I J) := by
  unfold f_X5_openMoves_8; exact (sg_some sx_rf)
theorem s_f_X5_openMoves_6 {x1 : Int32} {x2 : Int32} {x3 : Int32} {s0 : Int32} {I : xI} {J : xJ} : SG (Sum.elim (fun o => o.2.2.2.1) (Sum.elim (fun o => o.2.2.2.1) (fun o => o.2.1))) I (f_X5_openMoves_6 x1 x2 x3 s0 I J) := by
  unfold f_X5_openMoves_6; exact (sg_at sx_rf (s_f_X5_openMoves_8))
theorem s_f_X5_openMoves_7 {x1 : Int32} {x2 : Int32} {x3 : Int32} {s0 : Int32} {I : xI} {J : xJ} : SG (Sum.elim (fun o => o.2.2.2.1) (Sum.elim (fun o => o.2.2.2.1) (fun o => o.2.1))) I (f_X5_openMoves_7 x1 x2 x3 s0 I J) := by
  unfold f_X5_openMoves_7; exact (sg_at sx_rf (s_f_X5_openMoves_8))
theorem s_f_X5_openMoves_5 {x1 : Int32} {x2 : Int32} {x3 : Int32} {s0 : Int32} {s1 : Int32} {I : xI} {J : xJ} : SG (Sum.elim (fun o => o.2.2.2.1) (Sum.elim (fun o => o.2.2.2.1) (fun o => o.2.1))) I (f_X5_openMoves_5 x1 x2 x3 s0 s1 I J) := by
  unfold f_X5_openMoves_5; exact (sg_ite (sg_at sx_rf (s_f_X5_openMoves_6)) (sg_at sx_rf (s_f_X5_openMoves_7)))
theorem s_f_X5_openMoves_4 {x1 : Int32} {x2 : Int32} {x3 : Int32} {I : xI} {J : xJ} : SG (Sum.elim (fun o => o.2.2.2.1) (Sum.elim (fun o => o.2.2.2.1) (fun o => o.2.1))) I (f_X5_openMoves_4 x1 x2 x3 I J) := by
  unfold f_X5_openMoves_4; exact (sg_bind (sg_at sx_rf (s_f_X5_targetOf)) (fun o ho => (sg_at ho (s_f_X5_openMoves_5))))
theorem s_b_X5_openMoves_3 {x1 : Int32} {x2 : Int32} {x3 : Int32} {I : xI} {J : xJ} : SG (Sum.elim (fun o => o.2.2.2.1) (Sum.elim (fun o => o.2.2.2.1) (fun o => o.2.1))) I (b_X5_openMoves_3 x1 x2 x3 I J) := by
  unfold b_X5_openMoves_3; exact (sg_ite (sg_map (sg_at sx_rf (s_f_X5_openMoves_9))) (sg_at sx_rf (s_f_X5_openMoves_4)))
theorem s_f_X5_openMoves_3 {x1 : Int32} {x2 : Int32} {x3 : Int32} {I : xI} {J : xJ} : SG (Sum.elim (fun o => o.2.2.2.1) (fun o => o.2.1)) I (f_X5_openMoves_3 x1 x2 x3 I J) := by
  unfold f_X5_openMoves_3; exact (sg_loop (gs := (fun o => o.2.2.2.1)) (fun s => s_b_X5_openMoves_3) sx_rf)
theorem s_f_X5_openMoves_2 {x1 : Int32} {x2 : Int32} {z3 : Option Value} {I : xI} {J : xJ} : SG (Sum.elim (fun o => o.2.2.2.1) (fun o => o.2.1)) I (f_X5_openMoves_2 x1 x2 z3 I J) := by
  unfold f_X5_openMoves_2; exact (sg_at sx_rf (s_f_X5_openMoves_3))
theorem s_b_X5_openMoves_1 {x1 : Int32} {x2 : Int32} {z3 : Option Value} {I : xI} {J : xJ} : SG (Sum.elim (fun o => o.2.2.2.1) (fun o => o.2.1)) I (b_X5_openMoves_1 x1 x2 z3 I J) := by
  unfold b_X5_openMoves_1; exact (sg_ite (sg_map (sg_at sx_rf (s_f_X5_openMoves_10))) (sg_at sx_rf (s_f_X5_openMoves_2)))
theorem s_f_X5_openMoves_1 {x1 : Int32} {x2 : Int32} {z3 : Option Value} {I : xI} {J : xJ} : SG (fun o => o.2.1) I (f_X5_openMoves_1 x1 x2 z3 I J) := by
  unfold f_X5_openMoves_1; exact (sg_loop (gs := (fun o => o.2.2.2.1)) (fun s => s_b_X5_openMoves_1) sx_rf)
theorem s_f_X5_openMoves_0 {I : xI} {J : xJ} : SG (fun o => o.2.1) I (f_X5_openMoves_0 I J) := by
  unfold f_X5_openMoves_0; exact (sg_at sx_rf (s_f_X5_openMoves_1))
theorem s_f_X5_openMoves {I : xI} {J : xJ} : SG (fun o => o.2.1) I (f_X5_openMoves I J) := by
  unfold f_X5_openMoves; exact (sg_at sx_rf (s_f_X5_openMoves_0))
theorem s_f_X11_count_5 {x1 : Int32} {s0 : Int32} {I : xI} {J : xJ} : SG (fun o => o.2.1) I (f_X11_count_5 x1 s0 I J) := by
  unfold f_X11_count_5; exact (sg_some sx_rf)
theorem s_f_X11_count_4 {x1 : Int32} {I : xI} {J : xJ} : SG (fun o => o.2.1) I (f_X11_count_4 x1 I J) := by
  unfold f_X11_count_4; exact (sg_bind (sg_at sx_rf (s_f_X5_openMoves)) (fun o ho => (sg_at ho (s_f_X11_count_5))))
theorem s_f_X5_toldAnswers_10 {x1 : Int32} {x2 : Int32} {z3 : Option Value} {I : xI} {J : xJ} : SG (fun o => o.2.1) I (f_X5_toldAnswers_10 x1 x2 z3 I J) := by
  unfold f_X5_toldAnswers_10; exact (sg_some sx_rf)
theorem s_f_X5_toldAnswers_9 {x1 : Int32} {x2 : Int32} {x3 : Int32} {I : xI} {J : xJ} : SG (Sum.elim (fun o => o.2.2.2.1) (fun o => o.2.1)) I (f_X5_toldAnswers_9 x1 x2 x3 I J) := by
  unfold f_X5_toldAnswers_9; exact (sg_some sx_rf)
theorem s_f_X5_toldAnswers_8 {x1 : Int32} {x2 : Int32} {x3 : Int32} {s0 : Int32} {s1 : Int32} {I : xI} {J : xJ} : SG (Sum.elim (fun o => o.2.2.2.1) (Sum.elim (fun o => o.2.2.2.1) (fun o => o.2.1))) I (f_X5_toldAnswers_8 x1 x2 x3 s0 s1 I J) := by
  unfold f_X5_toldAnswers_8; exact (sg_some sx_rf)
theorem s_f_X5_toldAnswers_6 {x1 : Int32} {x2 : Int32} {x3 : Int32} {s0 : Int32} {I : xI} {J : xJ} : SG (Sum.elim (fun o => o.2.2.2.1) (Sum.elim (fun o => o.2.2.2.1) (fun o => o.2.1))) I (f_X5_toldAnswers_6 x1 x2 x3 s0 I J) := by
  unfold f_X5_toldAnswers_6; exact (sg_at sx_rf (s_f_X5_toldAnswers_8))
theorem s_f_X5_toldAnswers_7 {x1 : Int32} {x2 : Int32} {x3 : Int32} {s0 : Int32} {I : xI} {J : xJ} : SG (Sum.elim (fun o => o.2.2.2.1) (Sum.elim (fun o => o.2.2.2.1) (fun o => o.2.1))) I (f_X5_toldAnswers_7 x1 x2 x3 s0 I J) := by
  unfold f_X5_toldAnswers_7; exact (sg_at sx_rf (s_f_X5_toldAnswers_8))
theorem s_f_X5_toldAnswers_5 {x1 : Int32} {x2 : Int32} {x3 : Int32} {s0 : Int32} {s1 : Int32} {I : xI} {J : xJ} : SG (Sum.elim (fun o => o.2.2.2.1) (Sum.elim (fun o => o.2.2.2.1) (fun o => o.2.1))) I (f_X5_toldAnswers_5 x1 x2 x3 s0 s1 I J) := by
  unfold f_X5_toldAnswers_5; exact (sg_ite (sg_at sx_rf (s_f_X5_toldAnswers_6)) (sg_at sx_rf (s_f_X5_toldAnswers_7)))
theorem s_f_X5_toldAnswers_4 {x1 : Int32} {x2 : Int32} {x3 : Int32} {I : xI} {J : xJ} : SG (Sum.elim (fun o => o.2.2.2.1) (Sum.elim (fun o => o.2.2.2.1) (fun o => o.2.1))) I (f_X5_toldAnswers_4 x1 x2 x3 I J) := by
  unfold f_X5_toldAnswers_4; exact (sg_bind (sg_at sx_rf (s_f_X5_answerOf)) (fun o ho => (sg_at ho (s_f_X5_toldAnswers_5))))
theorem s_b_X5_toldAnswers_3 {x1 : Int32} {x2 : Int32} {x3 : Int32} {I : xI} {J : xJ} : SG (Sum.elim (fun o => o.2.2.2.1) (Sum.elim (fun o => o.2.2.2.1) (fun o => o.2.1))) I (b_X5_toldAnswers_3 x1 x2 x3 I J) := by
  unfold b_X5_toldAnswers_3; exact (sg_ite (sg_map (sg_at sx_rf (s_f_X5_toldAnswers_9))) (sg_at sx_rf (s_f_X5_toldAnswers_4)))
theorem s_f_X5_toldAnswers_3 {x1 : Int32} {x2 : Int32} {x3 : Int32} {I : xI} {J : xJ} : SG (Sum.elim (fun o => o.2.2.2.1) (fun o => o.2.1)) I (f_X5_toldAnswers_3 x1 x2 x3 I J) := by
  unfold f_X5_toldAnswers_3; exact (sg_loop (gs := (fun o => o.2.2.2.1)) (fun s => s_b_X5_toldAnswers_3) sx_rf)
theorem s_f_X5_toldAnswers_2 {x1 : Int32} {x2 : Int32} {z3 : Option Value} {I : xI} {J : xJ} : SG (Sum.elim (fun o => o.2.2.2.1) (fun o => o.2.1)) I (f_X5_toldAnswers_2 x1 x2 z3 I J) := by
  unfold f_X5_toldAnswers_2; exact (sg_at sx_rf (s_f_X5_toldAnswers_3))
theorem s_b_X5_toldAnswers_1 {x1 : Int32} {x2 : Int32} {z3 : Option Value} {I : xI} {J : xJ} : SG (Sum.elim (fun o => o.2.2.2.1) (fun o => o.2.1)) I (b_X5_toldAnswers_1 x1 x2 z3 I J) := by
  unfold b_X5_toldAnswers_1; exact (sg_ite (sg_map (sg_at sx_rf (s_f_X5_toldAnswers_10))) (sg_at sx_rf (s_f_X5_toldAnswers_2)))
theorem s_f_X5_toldAnswers_1 {x1 : Int32} {x2 : Int32} {z3 : Option Value} {I : xI} {J : xJ} : SG (fun o => o.2.1) I (f_X5_toldAnswers_1 x1 x2 z3 I J) := by
  unfold f_X5_toldAnswers_1; exact (sg_loop (gs := (fun o => o.2.2.2.1)) (fun s => s_b_X5_toldAnswers_1) sx_rf)
theorem s_f_X5_toldAnswers_0 {I : xI} {J : xJ} : SG (fun o => o.2.1) I (f_X5_toldAnswers_0 I J) := by
  unfold f_X5_toldAnswers_0; exact (sg_at sx_rf (s_f_X5_toldAnswers_1))
theorem s_f_X5_toldAnswers {I : xI} {J : xJ} : SG (fun o => o.2.1) I (f_X5_toldAnswers I J) := by
  unfold f_X5_toldAnswers; exact (sg_at sx_rf (s_f_X5_toldAnswers_0))
theorem s_f_X11_count_7 {x1 : Int32} {s0 : Int32} {I : xI} {J : xJ} : SG (fun o => o.2.1) I (f_X11_count_7 x1 s0 I J) := by
  unfold f_X11_count_7; exact (sg_some sx_rf)
theorem s_f_X11_count_6 {x1 : Int32} {I : xI} {J : xJ} : SG (fun o => o.2.1) I (f_X11_count_6 x1 I J) := by
  unfold f_X11_count_6; exact (sg_bind (sg_at sx_rf (s_f_X5_toldAnswers)) (fun o ho => (sg_at ho (s_f_X11_count_7))))
theorem s_f_X6_apartCount_1 {s0 : Int32} {I : xI} {J : xJ} : SG (fun o => o.2.1) I (f_X6_apartCount_1 s0 I J) := by
  unfold f_X6_apartCount_1; exact (sg_some sx_rf)
theorem s_f_X6_apartCount_0 {I : xI} {J : xJ} : SG (fun o => o.2.1) I (f_X6_apartCount_0 I J) := by
  unfold f_X6_apartCount_0; exact (sg_bind (sg_at sx_rf (s_f_J6_bitCount_0f7a4)) (fun o ho => (sg_at ho (s_f_X6_apartCount_1))))
theorem s_f_X6_apartCount {I : xI} {J : xJ} : SG (fun o => o.2.1) I (f_X6_apartCount I J) := by
  unfold f_X6_apartCount; exact (sg_at sx_rf (s_f_X6_apartCount_0))
theorem s_f_X11_count_10 {x1 : Int32} {s0 : Int32} {I : xI} {J : xJ} : SG (fun o => o.2.1) I (f_X11_count_10 x1 s0 I J) := by
  unfold f_X11_count_10; exact (sg_some sx_rf)
theorem s_f_X11_count_9 {x1 : Int32} {I : xI} {J : xJ} : SG (fun o => o.2.1) I (f_X11_count_9 x1 I J) := by
  unfold f_X11_count_9; exact (sg_bind (sg_at sx_rf (s_f_X6_apartCount)) (fun o ho => (sg_at ho (s_f_X11_count_10))))
theorem s_f_X11_count_8 {x1 : Int32} {I : xI} {J : xJ} : SG (fun o => o.2.1) I (f_X11_count_8 x1 I J) := by
  unfold f_X11_count_8; exact (sg_bind (sg_at sx_rf (s_f_X11_pairsNow)) (fun o ho => (sg_at ho (s_f_X11_count_9))))
theorem s_f_X6_greatestRound_3 {x1 : Int32} {x2 : Int32} {I : xI} {J : xJ} : SG (fun o => o.2.1) I (f_X6_greatestRound_3 x1 x2 I J) := by
  unfold f_X6_greatestRound_3; exact (sg_some sx_rf)
theorem s_f_X6_greatestRound_2 {x1 : Int32} {x2 : Int32} {I : xI} {J : xJ} : SG (Sum.elim (fun o => o.2.2.1) (fun o => o.2.1)) I (f_X6_greatestRound_2 x1 x2 I J) := by
  unfold f_X6_greatestRound_2; exact (sg_ite sg_none (sg_some sx_rf))
theorem s_b_X6_greatestRound_1 {x1 : Int32} {x2 : Int32} {I : xI} {J : xJ} : SG (Sum.elim (fun o => o.2.2.1) (fun o => o.2.1)) I (b_X6_greatestRound_1 x1 x2 I J) := by
  unfold b_X6_greatestRound_1; exact (sg_ite (sg_map (sg_at sx_rf (s_f_X6_greatestRound_3))) (sg_at sx_rf (s_f_X6_greatestRound_2)))
theorem s_f_X6_greatestRound_1 {x1 : Int32} {x2 : Int32} {I : xI} {J : xJ} : SG (fun o => o.2.1) I (f_X6_greatestRound_1 x1 x2 I J) := by
  unfold f_X6_greatestRound_1; exact (sg_loop (gs := (fun o => o.2.2.1)) (fun s => s_b_X6_greatestRound_1) sx_rf)
theorem s_f_X6_greatestRound_0 {I : xI} {J : xJ} : SG (fun o => o.2.1) I (f_X6_greatestRound_0 I J) := by
  unfold f_X6_greatestRound_0; exact (sg_at sx_rf (s_f_X6_greatestRound_1))
theorem s_f_X6_greatestRound {I : xI} {J : xJ} : SG (fun o => o.2.1) I (f_X6_greatestRound I J) := by
  unfold f_X6_greatestRound; exact (sg_at sx_rf (s_f_X6_greatestRound_0))
theorem s_f_X11_count_13 {x1 : Int32} {s0 : Int32} {I : xI} {J : xJ} : SG (fun o => o.2.1) I (f_X11_count_13 x1 s0 I J) := by
  unfold f_X11_count_13; exact (sg_some sx_rf)
theorem s_f_X11_count_12 {x1 : Int32} {I : xI} {J : xJ} : SG (fun o => o.2.1) I (f_X11_count_12 x1 I J) := by
  unfold f_X11_count_12; exact (sg_bind (sg_at sx_rf (s_f_X6_greatestRound)) (fun o ho => (sg_at ho (s_f_X11_count_13))))
theorem s_f_X11_count_11 {x1 : Int32} {I : xI} {J : xJ} : SG (fun o => o.2.1) I (f_X11_count_11 x1 I J) := by
  unfold f_X11_count_11; exact (sg_bind (sg_at sx_rf (s_f_X11_pairsNow)) (fun o ho => (sg_at ho (s_f_X11_count_12))))
theorem s_f_X11_count_15 {x1 : Int32} {s0 : Int32} {I : xI} {J : xJ} : SG (fun o => o.2.1) I (f_X11_count_15 x1 s0 I J) := by
  unfold f_X11_count_15; exact (sg_some sx_rf)
theorem s_f_X11_count_14 {x1 : Int32} {I : xI} {J : xJ} : SG (fun o => o.2.1) I (f_X11_count_14 x1 I J) := by
  unfold f_X11_count_14; exact (sg_bind (sg_at sx_rf (s_f_X5_bits)) (fun o ho => (sg_at ho (s_f_X11_count_15))))
theorem s_f_X5_codeNumber_3 {x1 : Int32} {x2 : Int32} {I : xI} {J : xJ} : SG (fun o => o.2.1) I (f_X5_codeNumber_3 x1 x2 I J) := by
  unfold f_X5_codeNumber_3; exact (sg_some sx_rf)
theorem s_f_X5_codeNumber_2 {x1 : Int32} {x2 : Int32} {I : xI} {J : xJ} : SG (Sum.elim (fun o => o.2.2.1) (fun o => o.2.1)) I (f_X5_codeNumber_2 x1 x2 I J) := by
  unfold f_X5_codeNumber_2; exact (sg_ite sg_none (sg_some sx_rf))
theorem s_b_X5_codeNumber_1 {x1 : Int32} {x2 : Int32} {I : xI} {J : xJ} : SG (Sum.elim (fun o => o.2.2.1) (fun o => o.2.1)) I (b_X5_codeNumber_1 x1 x2 I J) := by
  unfold b_X5_codeNumber_1; exact (sg_ite (sg_map (sg_at sx_rf (s_f_X5_codeNumber_3))) (sg_at sx_rf (s_f_X5_codeNumber_2)))
theorem s_f_X5_codeNumber_1 {x1 : Int32} {x2 : Int32} {I : xI} {J : xJ} : SG (fun o => o.2.1) I (f_X5_codeNumber_1 x1 x2 I J) := by
  unfold f_X5_codeNumber_1; exact (sg_loop (gs := (fun o => o.2.2.1)) (fun s => s_b_X5_codeNumber_1) sx_rf)
theorem s_f_X5_codeNumber_0 {I : xI} {J : xJ} : SG (fun o => o.2.1) I (f_X5_codeNumber_0 I J) := by
  unfold f_X5_codeNumber_0; exact (sg_at sx_rf (s_f_X5_codeNumber_1))
theorem s_f_X5_codeNumber {I : xI} {J : xJ} : SG (fun o => o.2.1) I (f_X5_codeNumber I J) := by
  unfold f_X5_codeNumber; exact (sg_at sx_rf (s_f_X5_codeNumber_0))
theorem s_f_X11_count_17 {x1 : Int32} {s0 : Int32} {I : xI} {J : xJ} : SG (fun o => o.2.1) I (f_X11_count_17 x1 s0 I J) := by
  unfold f_X11_count_17; exact (sg_some sx_rf)
theorem s_f_X11_count_16 {x1 : Int32} {I : xI} {J : xJ} : SG (fun o => o.2.1) I (f_X11_count_16 x1 I J) := by
  unfold f_X11_count_16; exact (sg_bind (sg_at sx_rf (s_f_X5_codeNumber)) (fun o ho => (sg_at ho (s_f_X11_count_17))))
theorem s_f_X11_count_18 {x1 : Int32} {I : xI} {J : xJ} : SG (fun o => o.2.1) I (f_X11_count_18 x1 I J) := by
  unfold f_X11_count_18; exact (sg_some sx_rf)
theorem s_f_X11_count_19 {x1 : Int32} {I : xI} {J : xJ} : SG (fun o => o.2.1) I (f_X11_count_19 x1 I J) := by
  unfold f_X11_count_19; exact (sg_some sx_rf)
theorem s_f_X4_slotCount_6 {x1 : Int32} {x2 : Int32} {I : xI} {J : xJ} : SG (fun o => o.2.1) I (f_X4_slotCount_6 x1 x2 I J) := by
  unfold f_X4_slotCount_6; exact (sg_some sx_rf)
theorem s_f_X4_slotCount_5 {x1 : Int32} {x2 : Int32} {s0 : Int32} {s1 : Int32} {I : xI} {J : xJ} : SG (Sum.elim (fun o => o.2.2.1) (fun o => o.2.1)) I (f_X4_slotCount_5 x1 x2 s0 s1 I J) := by
  unfold f_X4_slotCount_5; exact (sg_some sx_rf)
theorem s_f_X4_slotCount_4 {x1 : Int32} {x2 : Int32} {s0 : Int32} {I : xI} {J : xJ} : SG (Sum.elim (fun o => o.2.2.1) (fun o => o.2.1)) I (f_X4_slotCount_4 x1 x2 s0 I J) := by
  unfold f_X4_slotCount_4; exact (sg_at sx_rf (s_f_X4_slotCount_5))
theorem s_f_X4_slotCount_3 {x1 : Int32} {x2 : Int32} {s0 : Int32} {I : xI} {J : xJ} : SG (Sum.elim (fun o => o.2.2.1) (fun o => o.2.1)) I (f_X4_slotCount_3 x1 x2 s0 I J) := by
  unfold f_X4_slotCount_3; exact (sg_at sx_rf (s_f_X4_slotCount_5))
theorem s_f_X4_slotCount_2 {x1 : Int32} {x2 : Int32} {I : xI} {J : xJ} : SG (Sum.elim (fun o => o.2.2.1) (fun o => o.2.1)) I (f_X4_slotCount_2 x1 x2 I J) := by
  unfold f_X4_slotCount_2; exact (sg_ite sg_none (sg_ite (sg_at sx_rf (s_f_X4_slotCount_4)) (sg_at sx_rf (s_f_X4_slotCount_3))))
theorem s_b_X4_slotCount_1 {x1 : Int32} {x2 : Int32} {I : xI} {J : xJ} : SG (Sum.elim (fun o => o.2.2.1) (fun o => o.2.1)) I (b_X4_slotCount_1 x1 x2 I J) := by
  unfold b_X4_slotCount_1; exact (sg_ite (sg_map (sg_at sx_rf (s_f_X4_slotCount_6))) (sg_at sx_rf (s_f_X4_slotCount_2)))
theorem s_f_X4_slotCount_1 {x1 : Int32} {x2 : Int32} {I : xI} {J : xJ} : SG (fun o => o.2.1) I (f_X4_slotCount_1 x1 x2 I J) := by
  unfold f_X4_slotCount_1; exact (sg_loop (gs := (fun o => o.2.2.1)) (fun s => s_b_X4_slotCount_1) sx_rf)
theorem s_f_X4_slotCount_0 {I : xI} {J : xJ} : SG (fun o => o.2.1) I (f_X4_slotCount_0 I J) := by
  unfold f_X4_slotCount_0; exact (sg_at sx_rf (s_f_X4_slotCount_1))
theorem s_f_X4_slotCount {I : xI} {J : xJ} : SG (fun o => o.2.1) I (f_X4_slotCount I J) := by
  unfold f_X4_slotCount; exact (sg_at sx_rf (s_f_X4_slotCount_0))
theorem s_f_X11_count_21 {x1 : Int32} {s0 : Int32} {I : xI} {J : xJ} : SG (fun o => o.2.1) I (f_X11_count_21 x1 s0 I J) := by
  unfold f_X11_count_21; exact (sg_some sx_rf)
theorem s_f_X11_count_20 {x1 : Int32} {I : xI} {J : xJ} : SG (fun o => o.2.1) I (f_X11_count_20 x1 I J) := by
  unfold f_X11_count_20; exact (sg_bind (sg_at sx_rf (s_f_X4_slotCount)) (fun o ho => (sg_at ho (s_f_X11_count_21))))
theorem s_f_X5_unreached_7 {x1 : Int32} {x2 : Int32} {z3 : Option Value} {I : xI} {J : xJ} : SG (fun o => o.2.1) I (f_X5_unreached_7 x1 x2 z3 I J) := by
  unfold f_X5_unreached_7; exact (sg_some sx_rf)
theorem s_f_X5_unreached_6 {x1 : Int32} {x2 : Int32} {x3 : Int32} {I : xI} {J : xJ} : SG (Sum.elim (fun o => o.2.2.2.1) (fun o => o.2.1)) I (f_X5_unreached_6 x1 x2 x3 I J) := by
  unfold f_X5_unreached_6; exact (sg_some sx_rf)
theorem s_f_X5_unreached_5 {x1 : Int32} {x2 : Int32} {x3 : Int32} {s0 : Int32} {s1 : Int32} {I : xI} {J : xJ} : SG (Sum.elim (fun o => o.2.2.2.1) (Sum.elim (fun o => o.2.2.2.1) (fun o => o.2.1))) I (f_X5_unreached_5 x1 x2 x3 s0 s1 I J) := by
  unfold f_X5_unreached_5; exact (sg_some sx_rf)
theorem s_f_X5_unreached_4 {x1 : Int32} {x2 : Int32} {x3 : Int32} {I : xI} {J : xJ} : SG (Sum.elim (fun o => o.2.2.2.1) (Sum.elim (fun o => o.2.2.2.1) (fun o => o.2.1))) I (f_X5_unreached_4 x1 x2 x3 I J) := by
  unfold f_X5_unreached_4; exact (sg_bind (sg_at sx_rf (s_f_X5_leadOf)) (fun o ho => (sg_at ho (s_f_X5_unreached_5))))
theorem s_b_X5_unreached_3 {x1 : Int32} {x2 : Int32} {x3 : Int32} {I : xI} {J : xJ} : SG (Sum.elim (fun o => o.2.2.2.1) (Sum.elim (fun o => o.2.2.2.1) (fun o => o.2.1))) I (b_X5_unreached_3 x1 x2 x3 I J) := by
  unfold b_X5_unreached_3; exact (sg_ite (sg_map (sg_at sx_rf (s_f_X5_unreached_6))) (sg_at sx_rf (s_f_X5_unreached_4)))
theorem s_f_X5_unreached_3 {x1 : Int32} {x2 : Int32} {x3 : Int32} {I : xI} {J : xJ} : SG (Sum.elim (fun o => o.2.2.2.1) (fun o => o.2.1)) I (f_X5_unreached_3 x1 x2 x3 I J) := by
  unfold f_X5_unreached_3; exact (sg_loop (gs := (fun o => o.2.2.2.1)) (fun s => s_b_X5_unreached_3) sx_rf)
theorem s_f_X5_unreached_2 {x1 : Int32} {x2 : Int32} {z3 : Option Value} {I : xI} {J : xJ} : SG (Sum.elim (fun o => o.2.2.2.1) (fun o => o.2.1)) I (f_X5_unreached_2 x1 x2 z3 I J) := by
  unfold f_X5_unreached_2; exact (sg_at sx_rf (s_f_X5_unreached_3))
theorem s_b_X5_unreached_1 {x1 : Int32} {x2 : Int32} {z3 : Option Value} {I : xI} {J : xJ} : SG (Sum.elim (fun o => o.2.2.2.1) (fun o => o.2.1)) I (b_X5_unreached_1 x1 x2 z3 I J) := by
  unfold b_X5_unreached_1; exact (sg_ite (sg_map (sg_at sx_rf (s_f_X5_unreached_7))) (sg_at sx_rf (s_f_X5_unreached_2)))
theorem s_f_X5_unreached_1 {x1 : Int32} {x2 : Int32} {z3 : Option Value} {I : xI} {J : xJ} : SG (fun o => o.2.1) I (f_X5_unreached_1 x1 x2 z3 I J) := by
  unfold f_X5_unreached_1; exact (sg_loop (gs := (fun o => o.2.2.2.1)) (fun s => s_b_X5_unreached_1) sx_rf)
theorem s_f_X5_unreached_0 {I : xI} {J : xJ} : SG (fun o => o.2.1) I (f_X5_unreached_0 I J) := by
  unfold f_X5_unreached_0; exact (sg_at sx_rf (s_f_X5_unreached_1))
theorem s_f_X5_unreached {I : xI} {J : xJ} : SG (fun o => o.2.1) I (f_X5_unreached I J) := by
  unfold f_X5_unreached; exact (sg_at sx_rf (s_f_X5_unreached_0))
theorem s_f_X11_count_23 {x1 : Int32} {s0 : Int32} {I : xI} {J : xJ} : SG (fun o => o.2.1) I (f_X11_count_23 x1 s0 I J) := by
  unfold f_X11_count_23; exact (sg_some sx_rf)
theorem s_f_X11_count_22 {x1 : Int32} {I : xI} {J : xJ} : SG (fun o => o.2.1) I (f_X11_count_22 x1 I J) := by
  unfold f_X11_count_22; exact (sg_bind (sg_at sx_rf (s_f_X5_unreached)) (fun o ho => (sg_at ho (s_f_X11_count_23))))
theorem s_f_X11_count_28 {x1 : Int32} {s0 : Int32} {I : xI} {J : xJ} : SG (fun o => o.2.1) I (f_X11_count_28 x1 s0 I J) := by
  unfold f_X11_count_28; exact (sg_some sx_rf)
theorem s_f_X11_count_27 {x1 : Int32} {I : xI} {J : xJ} : SG (fun o => o.2.1) I (f_X11_count_27 x1 I J) := by
  unfold f_X11_count_27; exact (sg_at sx_rf (s_f_X11_count_28))
theorem s_f_X11_count_26 {x1 : Int32} {I : xI} {J : xJ} : SG (fun o => o.2.1) I (f_X11_count_26 x1 I J) := by
  unfold f_X11_count_26; exact (sg_at sx_rf (s_f_X11_count_28))
theorem s_f_X11_count_25 {x1 : Int32} {s0 : Int32} {I : xI} {J : xJ} : SG (fun o => o.2.1) I (f_X11_count_25 x1 s0 I J) := by
  unfold f_X11_count_25; exact (sg_ite (sg_at sx_rf (s_f_X11_count_27)) (sg_at sx_rf (s_f_X11_count_26)))
theorem s_f_X11_count_24 {x1 : Int32} {I : xI} {J : xJ} : SG (fun o => o.2.1) I (f_X11_count_24 x1 I J) := by
  unfold f_X11_count_24; exact (sg_bind (sg_at sx_rf (s_f_X5_isProper)) (fun o ho => (sg_at ho (s_f_X11_count_25))))
theorem s_f_X1_metCount_5 {x1 : Int32} {x2 : Int32} {I : xI} {J : xJ} : SG (fun o => o.2.1) I (f_X1_metCount_5 x1 x2 I J) := by
  unfold f_X1_metCount_5; exact (sg_some sx_rf)
theorem s_f_X1_metCount_4 {x1 : Int32} {x2 : Int32} {s0 : Int32} {s1 : Int32} {I : xI} {J : xJ} : SG (Sum.elim (fun o => o.2.2.1) (fun o => o.2.1)) I (f_X1_metCount_4 x1 x2 s0 s1 I J) := by
  unfold f_X1_metCount_4; exact (sg_some sx_rf)
theorem s_f_X1_metCount_3 {x1 : Int32} {x2 : Int32} {s0 : Int32} {s1 : Int32} {I : xI} {J : xJ} : SG (Sum.elim (fun o => o.2.2.1) (fun o => o.2.1)) I (f_X1_metCount_3 x1 x2 s0 s1 I J) := by
  unfold f_X1_metCount_3; exact (sg_bind (sg_at sx_rf (s_f_J6_bitCount_0f7a4)) (fun o ho => (sg_at ho (s_f_X1_metCount_4))))
theorem s_f_X1_metCount_2 {x1 : Int32} {x2 : Int32} {I : xI} {J : xJ} : SG (Sum.elim (fun o => o.2.2.1) (fun o => o.2.1)) I (f_X1_metCount_2 x1 x2 I J) := by
  unfold f_X1_metCount_2; exact (sg_bind (sg_at sx_rf (s_f_X1_metBy)) (fun o ho => (sg_at ho (s_f_X1_metCount_3))))
theorem s_b_X1_metCount_1 {x1 : Int32} {x2 : Int32} {I : xI} {J : xJ} : SG (Sum.elim (fun o => o.2.2.1) (fun o => o.2.1)) I (b_X1_metCount_1 x1 x2 I J) := by
  unfold b_X1_metCount_1; exact (sg_ite (sg_map (sg_at sx_rf (s_f_X1_metCount_5))) (sg_at sx_rf (s_f_X1_metCount_2)))
theorem s_f_X1_metCount_1 {x1 : Int32} {x2 : Int32} {I : xI} {J : xJ} : SG (fun o => o.2.1) I (f_X1_metCount_1 x1 x2 I J) := by
  unfold f_X1_metCount_1; exact (sg_loop (gs := (fun o => o.2.2.1)) (fun s => s_b_X1_metCount_1) sx_rf)
theorem s_f_X1_metCount_0 {I : xI} {J : xJ} : SG (fun o => o.2.1) I (f_X1_metCount_0 I J) := by
  unfold f_X1_metCount_0; exact (sg_at sx_rf (s_f_X1_metCount_1))
theorem s_f_X1_metCount {I : xI} {J : xJ} : SG (fun o => o.2.1) I (f_X1_metCount I J) := by
  unfold f_X1_metCount; exact (sg_at sx_rf (s_f_X1_metCount_0))
theorem s_f_X11_count_31 {x1 : Int32} {s0 : Int32} {I : xI} {J : xJ} : SG (fun o => o.2.1) I (f_X11_count_31 x1 s0 I J) := by
  unfold f_X11_count_31; exact (sg_some sx_rf)
theorem s_f_X11_count_30 {x1 : Int32} {I : xI} {J : xJ} : SG (fun o => o.2.1) I (f_X11_count_30 x1 I J) := by
  unfold f_X11_count_30; exact (sg_bind (sg_at sx_rf (s_f_X1_metCount)) (fun o ho => (sg_at ho (s_f_X11_count_31))))
theorem s_f_X11_count_29 {x1 : Int32} {I : xI} {J : xJ} : SG (fun o => o.2.1) I (f_X11_count_29 x1 I J) := by
  unfold f_X11_count_29; exact (sg_bind (sg_at sx_rf (s_f_X11_fewestNow)) (fun o ho => (sg_at ho (s_f_X11_count_30))))
theorem s_f_X7_leastBlocks_7 {x1 : Int32} {x2 : Int32} {z3 : Option Value} {I : xI} {J : xJ} : SG (fun o => o.2.1) I (f_X7_leastBlocks_7 x1 x2 z3 I J) := by
  unfold f_X7_leastBlocks_7; exact (sg_some sx_rf)
theorem s_f_X7_leastBlocks_6 {x1 : Int32} {x2 : Int32} {x3 : Int32} {I : xI} {J : xJ} : SG (Sum.elim (fun o => o.2.2.2.1) (fun o => o.2.1)) I (f_X7_leastBlocks_6 x1 x2 x3 I J) := by
  unfold f_X7_leastBlocks_6; exact (sg_some sx_rf)
theorem s_f_X7_leastBlocks_5 {x1 : Int32} {x2 : Int32} {x3 : Int32} {I : xI} {J : xJ} : SG (Sum.elim (fun o => o.2.2.2.1) (fun o => o.2.1)) I (f_X7_leastBlocks_5 x1 x2 x3 I J) := by
  unfold f_X7_leastBlocks_5; exact (sg_at sx_rf (s_f_X7_leastBlocks_6))
theorem s_f_X7_leastBlocks_4 {x1 : Int32} {x2 : Int32} {x3 : Int32} {I : xI} {J : xJ} : SG (Sum.elim (fun o => o.2.2.2.1) (fun o => o.2.1)) I (f_X7_leastBlocks_4 x1 x2 x3 I J) := by
  unfold f_X7_leastBlocks_4; exact (sg_ite (sg_at sx_rf (s_f_X7_leastBlocks_6)) (sg_at sx_rf (s_f_X7_leastBlocks_5)))
theorem s_f_X7_leastBlocks_3 {x1 : Int32} {x2 : Int32} {x3 : Int32} {I : xI} {J : xJ} : SG (Sum.elim (fun o => o.2.2.2.1) (fun o => o.2.1)) I (f_X7_leastBlocks_3 x1 x2 x3 I J) := by
  unfold f_X7_leastBlocks_3; exact (sg_ite (sg_at sx_rf (s_f_X7_leastBlocks_5)) (sg_at sx_rf (s_f_X7_leastBlocks_4)))
theorem s_f_X7_leastBlocks_2 {x1 : Int32} {x2 : Int32} {z3 : Option Value} {I : xI} {J : xJ} : SG (Sum.elim (fun o => o.2.2.2.1) (fun o => o.2.1)) I (f_X7_leastBlocks_2 x1 x2 z3 I J) := by
  unfold f_X7_leastBlocks_2; exact (sg_ite sg_none (sg_ite sg_none (sg_ite (sg_at sx_rf (s_f_X7_leastBlocks_6)) (sg_at sx_rf (s_f_X7_leastBlocks_3)))))
theorem s_b_X7_leastBlocks_1 {x1 : Int32} {x2 : Int32} {z3 : Option Value} {I : xI} {J : xJ} : SG (Sum.elim (fun o => o.2.2.2.1) (fun o => o.2.1)) I (b_X7_leastBlocks_1 x1 x2 z3 I J) := by
  unfold b_X7_leastBlocks_1; exact (sg_ite (sg_map (sg_at sx_rf (s_f_X7_leastBlocks_7))) (sg_at sx_rf (s_f_X7_leastBlocks_2)))
theorem s_f_X7_leastBlocks_1 {x1 : Int32} {x2 : Int32} {z3 : Option Value} {I : xI} {J : xJ} : SG (fun o => o.2.1) I (f_X7_leastBlocks_1 x1 x2 z3 I J) := by
  unfold f_X7_leastBlocks_1; exact (sg_loop (gs := (fun o => o.2.2.2.1)) (fun s => s_b_X7_leastBlocks_1) sx_rf)
theorem s_f_X7_leastBlocks_0 {I : xI} {J : xJ} : SG (fun o => o.2.1) I (f_X7_leastBlocks_0 I J) := by
  unfold f_X7_leastBlocks_0; exact (sg_at sx_rf (s_f_X7_leastBlocks_1))
theorem s_f_X7_leastBlocks {I : xI} {J : xJ} : SG (fun o => o.2.1) I (f_X7_leastBlocks I J) := by
  unfold f_X7_leastBlocks; exact (sg_at sx_rf (s_f_X7_leastBlocks_0))
theorem s_f_X11_count_34 {x1 : Int32} {s0 : Int32} {I : xI} {J : xJ} : SG (fun o => o.2.1) I (f_X11_count_34 x1 s0 I J) := by
  unfold f_X11_count_34; exact (sg_some sx_rf)
theorem s_f_X11_count_33 {x1 : Int32} {I : xI} {J : xJ} : SG (fun o => o.2.1) I (f_X11_count_33 x1 I J) := by
  unfold f_X11_count_33; exact (sg_bind (sg_at sx_rf (s_f_X7_leastBlocks)) (fun o ho => (sg_at ho (s_f_X11_count_34))))
theorem s_f_X11_count_32 {x1 : Int32} {I : xI} {J : xJ} : SG (fun o => o.2.1) I (f_X11_count_32 x1 I J) := by
  unfold f_X11_count_32; exact (sg_bind (sg_at sx_rf (s_f_X11_partitionsNow)) (fun o ho => (sg_at ho (s_f_X11_count_33))))
theorem s_f_X11_count_35 {x1 : Int32} {I : xI} {J : xJ} : SG (fun o => o.2.1) I (f_X11_count_35 x1 I J) := by
  unfold f_X11_count_35; exact (sg_some sx_rf)
theorem s_f_X11_count_1 {x1 : Int32} {s0 : Int32} {I : xI} {J : xJ} : SG (fun o => o.2.1) I (f_X11_count_1 x1 s0 I J) := by
  unfold f_X11_count_1; exact (sg_ite (sg_at sx_rf (s_f_X11_count_2)) (sg_ite (sg_at sx_rf (s_f_X11_count_3)) (sg_ite (sg_at sx_rf (s_f_X11_count_4)) (sg_ite (sg_at sx_rf (s_f_X11_count_6)) (sg_ite (sg_at sx_rf (s_f_X11_count_8)) (sg_ite (sg_at sx_rf (s_f_X11_count_11)) (sg_ite (sg_at sx_rf (s_f_X11_count_14)) (sg_ite (sg_at sx_rf (s_f_X11_count_16)) (sg_ite (sg_at sx_rf (s_f_X11_count_18)) (sg_ite (sg_at sx_rf (s_f_X11_count_19)) (sg_ite (sg_at sx_rf (s_f_X11_count_20)) (sg_ite (sg_at sx_rf (s_f_X11_count_22)) (sg_ite (sg_at sx_rf (s_f_X11_count_24)) (sg_ite (sg_at sx_rf (s_f_X11_count_29)) (sg_ite (sg_at sx_rf (s_f_X11_count_32)) (sg_at sx_rf (s_f_X11_count_35)))))))))))))))))
theorem s_f_X11_count_0 {x1 : Int32} {I : xI} {J : xJ} : SG (fun o => o.2.1) I (f_X11_count_0 x1 I J) := by
  unfold f_X11_count_0; exact (sg_at sx_rf (s_f_X11_count_1))
theorem s_f_X11_count {x1 : Int32} {I : xI} {J : xJ} : SG (fun o => o.2.1) I (f_X11_count x1 I J) := by
  unfold f_X11_count; exact (sg_at sx_rf (s_f_X11_count_0))
