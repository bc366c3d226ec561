/-! what was seen is old or now, piece 2 -/
theorem s_f_X11_isClass_0 {x1 : Int32} {I : xI} {J : xJ} : SG (fun o => o.2.1) I (f_X11_isClass_0 x1 I J) := by
  unfold f_X11_isClass_0; exact (sg_ite (sg_at sx_rf (s_f_X11_isClass_3)) (sg_at sx_rf (s_f_X11_isClass_1)))
theorem s_f_X11_isClass {x1 : Int32} {I : xI} {J : xJ} : SG (fun o => o.2.1) I (f_X11_isClass x1 I J) := by
  unfold f_X11_isClass; exact (sg_at sx_rf (s_f_X11_isClass_0))
theorem s_f_X1_hasFewest_4 {x1 : Int32} {s0 : Int32} {I : xI} {J : xJ} : SG (fun o => o.2.1) I (f_X1_hasFewest_4 x1 s0 I J) := by
  unfold f_X1_hasFewest_4; exact (sg_ite (sg_some sx_rf) sg_none)
theorem s_f_X1_hasFewest_3 {x1 : Int32} {I : xI} {J : xJ} : SG (fun o => o.2.1) I (f_X1_hasFewest_3 x1 I J) := by
  unfold f_X1_hasFewest_3; exact (sg_at sx_rf (s_f_X1_hasFewest_4))
theorem s_f_X1_hasFewest_2 {x1 : Int32} {I : xI} {J : xJ} : SG (fun o => o.2.1) I (f_X1_hasFewest_2 x1 I J) := by
  unfold f_X1_hasFewest_2; exact (sg_at sx_rf (s_f_X1_hasFewest_4))
theorem s_f_X1_hasFewest_1 {x1 : Int32} {I : xI} {J : xJ} : SG (fun o => o.2.1) I (f_X1_hasFewest_1 x1 I J) := by
  unfold f_X1_hasFewest_1; exact (sg_ite (sg_at sx_rf (s_f_X1_hasFewest_3)) (sg_at sx_rf (s_f_X1_hasFewest_2)))
theorem s_f_X1_hasFewest_0 {x1 : Int32} {I : xI} {J : xJ} : SG (fun o => o.2.1) I (f_X1_hasFewest_0 x1 I J) := by
  unfold f_X1_hasFewest_0; exact (sg_ite (sg_at sx_rf (s_f_X1_hasFewest_3)) (sg_at sx_rf (s_f_X1_hasFewest_1)))
theorem s_f_X1_hasFewest {x1 : Int32} {I : xI} {J : xJ} : SG (fun o => o.2.1) I (f_X1_hasFewest x1 I J) := by
  unfold f_X1_hasFewest; exact (sg_at sx_rf (s_f_X1_hasFewest_0))
theorem s_f_X11_small_7 {x1 : Int32} {x2 : Int32} {x3 : Int32} {I : xI} {J : xJ} : SG (fun o => o.2.1) I (f_X11_small_7 x1 x2 x3 I J) := by
  unfold f_X11_small_7; exact (sg_some sx_rf)
theorem s_f_X5_hasInput_4 {x1 : Int32} {s0 : Int32} {I : xI} {J : xJ} : SG (fun o => o.2.1) I (f_X5_hasInput_4 x1 s0 I J) := by
  unfold f_X5_hasInput_4; exact (sg_ite (sg_some sx_rf) sg_none)
theorem s_f_X5_hasInput_3 {x1 : Int32} {I : xI} {J : xJ} : SG (fun o => o.2.1) I (f_X5_hasInput_3 x1 I J) := by
  unfold f_X5_hasInput_3; exact (sg_at sx_rf (s_f_X5_hasInput_4))
theorem s_f_X5_hasInput_2 {x1 : Int32} {I : xI} {J : xJ} : SG (fun o => o.2.1) I (f_X5_hasInput_2 x1 I J) := by
  unfold f_X5_hasInput_2; exact (sg_at sx_rf (s_f_X5_hasInput_4))
theorem s_f_X5_hasInput_1 {x1 : Int32} {I : xI} {J : xJ} : SG (fun o => o.2.1) I (f_X5_hasInput_1 x1 I J) := by
  unfold f_X5_hasInput_1; exact (sg_ite (sg_at sx_rf (s_f_X5_hasInput_3)) (sg_at sx_rf (s_f_X5_hasInput_2)))
theorem s_f_X5_hasInput_0 {x1 : Int32} {I : xI} {J : xJ} : SG (fun o => o.2.1) I (f_X5_hasInput_0 x1 I J) := by
  unfold f_X5_hasInput_0; exact (sg_ite (sg_at sx_rf (s_f_X5_hasInput_3)) (sg_at sx_rf (s_f_X5_hasInput_1)))
theorem s_f_X5_hasInput {x1 : Int32} {I : xI} {J : xJ} : SG (fun o => o.2.1) I (f_X5_hasInput x1 I J) := by
  unfold f_X5_hasInput; exact (sg_at sx_rf (s_f_X5_hasInput_0))
theorem s_f_X1_smallTarget_8 {x1 : Int32} {x2 : Int32} {x3 : Int32} {s0 : Int32} {I : xI} {J : xJ} : SG (fun o => o.2.1) I (f_X1_smallTarget_8 x1 x2 x3 s0 I J) := by
  unfold f_X1_smallTarget_8; exact (sg_some sx_rf)
theorem s_f_X1_smallTarget_6 {x1 : Int32} {x2 : Int32} {x3 : Int32} {I : xI} {J : xJ} : SG (fun o => o.2.1) I (f_X1_smallTarget_6 x1 x2 x3 I J) := by
  unfold f_X1_smallTarget_6; exact (sg_at sx_rf (s_f_X1_smallTarget_8))
theorem s_f_X1_firstHolding_5 {x1 : Int32} {x2 : Int32} {I : xI} {J : xJ} : SG (fun o => o.2.1) I (f_X1_firstHolding_5 x1 x2 I J) := by
  unfold f_X1_firstHolding_5; exact (sg_some sx_rf)
theorem s_f_X1_firstHolding_3 {x1 : Int32} {x2 : Int32} {I : xI} {J : xJ} : SG (fun o => o.2.1) I (f_X1_firstHolding_3 x1 x2 I J) := by
  unfold f_X1_firstHolding_3; exact (sg_some sx_rf)
theorem s_f_X1_firstHolding_4 {x1 : Int32} {x2 : Int32} {I : xI} {J : xJ} : SG (Sum.elim (fun o => o.2.2.1) (fun o => o.2.1)) I (f_X1_firstHolding_4 x1 x2 I J) := by
  unfold f_X1_firstHolding_4; exact (sg_some sx_rf)
theorem s_f_X1_firstHolding_2 {x1 : Int32} {x2 : Int32} {I : xI} {J : xJ} : SG (Sum.elim (fun o => o.2.2.1) (fun o => o.2.1)) I (f_X1_firstHolding_2 x1 x2 I J) := by
  unfold f_X1_firstHolding_2; exact (sg_ite sg_none (sg_ite (sg_map (sg_at sx_rf (s_f_X1_firstHolding_3))) (sg_at sx_rf (s_f_X1_firstHolding_4))))
theorem s_b_X1_firstHolding_1 {x1 : Int32} {x2 : Int32} {I : xI} {J : xJ} : SG (Sum.elim (fun o => o.2.2.1) (fun o => o.2.1)) I (b_X1_firstHolding_1 x1 x2 I J) := by
  unfold b_X1_firstHolding_1; exact (sg_ite (sg_map (sg_at sx_rf (s_f_X1_firstHolding_5))) (sg_at sx_rf (s_f_X1_firstHolding_2)))
theorem s_f_X1_firstHolding_1 {x1 : Int32} {x2 : Int32} {I : xI} {J : xJ} : SG (fun o => o.2.1) I (f_X1_firstHolding_1 x1 x2 I J) := by
  unfold f_X1_firstHolding_1; exact (sg_loop (gs := (fun o => o.2.2.1)) (fun s => s_b_X1_firstHolding_1) sx_rf)
theorem s_f_X1_firstHolding_0 {x1 : Int32} {I : xI} {J : xJ} : SG (fun o => o.2.1) I (f_X1_firstHolding_0 x1 I J) := by
  unfold f_X1_firstHolding_0; exact (sg_at sx_rf (s_f_X1_firstHolding_1))
theorem s_f_X1_firstHolding {x1 : Int32} {I : xI} {J : xJ} : SG (fun o => o.2.1) I (f_X1_firstHolding x1 I J) := by
  unfold f_X1_firstHolding; exact (sg_at sx_rf (s_f_X1_firstHolding_0))
theorem s_f_X1_smallTarget_7 {x1 : Int32} {x2 : Int32} {x3 : Int32} {I : xI} {J : xJ} : SG (fun o => o.2.1) I (f_X1_smallTarget_7 x1 x2 x3 I J) := by
  unfold f_X1_smallTarget_7; exact (sg_bind (sg_at sx_rf (s_f_X1_firstHolding)) (fun o ho => (sg_at ho (s_f_X1_smallTarget_8))))
theorem s_f_X1_smallTarget_5 {x1 : Int32} {x2 : Int32} {s0 : Int32} {I : xI} {J : xJ} : SG (fun o => o.2.1) I (f_X1_smallTarget_5 x1 x2 s0 I J) := by
  unfold f_X1_smallTarget_5; exact (sg_ite (sg_at sx_rf (s_f_X1_smallTarget_6)) (sg_at sx_rf (s_f_X1_smallTarget_7)))
theorem s_f_X1_smallTarget_4 {x1 : Int32} {x2 : Int32} {I : xI} {J : xJ} : SG (fun o => o.2.1) I (f_X1_smallTarget_4 x1 x2 I J) := by
  unfold f_X1_smallTarget_4; exact (sg_at sx_rf (s_f_X1_smallTarget_5))
theorem s_f_X1_smallTarget_3 {x1 : Int32} {x2 : Int32} {s0 : Int32} {I : xI} {J : xJ} : SG (fun o => o.2.1) I (f_X1_smallTarget_3 x1 x2 s0 I J) := by
  unfold f_X1_smallTarget_3; exact (sg_at sx_rf (s_f_X1_smallTarget_5))
theorem s_f_X1_smallTarget_2 {x1 : Int32} {x2 : Int32} {I : xI} {J : xJ} : SG (fun o => o.2.1) I (f_X1_smallTarget_2 x1 x2 I J) := by
  unfold f_X1_smallTarget_2; exact (sg_ite sg_none (sg_bind (sg_at sx_rf (s_f_X5_leadOf)) (fun o ho => (sg_at ho (s_f_X1_smallTarget_3)))))
theorem s_f_X1_smallTarget_1 {x1 : Int32} {x2 : Int32} {s0 : Int32} {I : xI} {J : xJ} : SG (fun o => o.2.1) I (f_X1_smallTarget_1 x1 x2 s0 I J) := by
  unfold f_X1_smallTarget_1; exact (sg_ite (sg_at sx_rf (s_f_X1_smallTarget_4)) (sg_at sx_rf (s_f_X1_smallTarget_2)))
theorem s_f_X1_smallTarget_0 {x1 : Int32} {x2 : Int32} {I : xI} {J : xJ} : SG (fun o => o.2.1) I (f_X1_smallTarget_0 x1 x2 I J) := by
  unfold f_X1_smallTarget_0; exact (sg_bind (sg_at sx_rf (s_f_X1_hasFewest)) (fun o ho => (sg_at ho (s_f_X1_smallTarget_1))))
theorem s_f_X1_smallTarget {x1 : Int32} {x2 : Int32} {I : xI} {J : xJ} : SG (fun o => o.2.1) I (f_X1_smallTarget x1 x2 I J) := by
  unfold f_X1_smallTarget; exact (sg_at sx_rf (s_f_X1_smallTarget_0))
theorem s_f_X11_small_12 {x1 : Int32} {x2 : Int32} {x3 : Int32} {s0 : Int32} {I : xI} {J : xJ} : SG (fun o => o.2.1) I (f_X11_small_12 x1 x2 x3 s0 I J) := by
  unfold f_X11_small_12; exact (sg_some sx_rf)
theorem s_f_X11_small_10 {x1 : Int32} {x2 : Int32} {x3 : Int32} {s0 : Int32} {I : xI} {J : xJ} : SG (fun o => o.2.1) I (f_X11_small_10 x1 x2 x3 s0 I J) := by
  unfold f_X11_small_10; exact (sg_at sx_rf (s_f_X11_small_12))
theorem s_f_X11_small_9 {x1 : Int32} {x2 : Int32} {x3 : Int32} {I : xI} {J : xJ} : SG (fun o => o.2.1) I (f_X11_small_9 x1 x2 x3 I J) := by
  unfold f_X11_small_9; exact (sg_bind (sg_at sx_rf (s_f_X1_smallTarget)) (fun o ho => (sg_at ho (s_f_X11_small_10))))
theorem s_f_X1_smallAnswer_8 {x1 : Int32} {x2 : Int32} {x3 : Int32} {x4 : Int32} {I : xI} {J : xJ} : SG (fun o => o.2.1) I (f_X1_smallAnswer_8 x1 x2 x3 x4 I J) := by
  unfold f_X1_smallAnswer_8; exact (sg_some sx_rf)
theorem s_f_X1_smallAnswer_7 {x1 : Int32} {x2 : Int32} {x3 : Int32} {x4 : Int32} {I : xI} {J : xJ} : SG (Sum.elim (fun o => o.2.2.2.2.1) (fun o => o.2.1)) I (f_X1_smallAnswer_7 x1 x2 x3 x4 I J) := by
  unfold f_X1_smallAnswer_7; exact (sg_some sx_rf)
theorem s_f_X1_smallAnswer_6 {x1 : Int32} {x2 : Int32} {x3 : Int32} {x4 : Int32} {s0 : Int32} {s1 : Int32} {I : xI} {J : xJ} : SG (Sum.elim (fun o => o.2.2.2.2.1) (fun o => o.2.1)) I (f_X1_smallAnswer_6 x1 x2 x3 x4 s0 s1 I J) := by
  unfold f_X1_smallAnswer_6; exact (sg_at sx_rf (s_f_X1_smallAnswer_7))
theorem s_f_X1_smallAnswer_5 {x1 : Int32} {x2 : Int32} {x3 : Int32} {x4 : Int32} {I : xI} {J : xJ} : SG (Sum.elim (fun o => o.2.2.2.2.1) (fun o => o.2.1)) I (f_X1_smallAnswer_5 x1 x2 x3 x4 I J) := by
  unfold f_X1_smallAnswer_5; exact (sg_bind (sg_at sx_rf (s_f_X5_answerOf)) (fun o ho => (sg_at ho (s_f_X1_smallAnswer_6))))
theorem s_f_X1_smallAnswer_4 {x1 : Int32} {x2 : Int32} {x3 : Int32} {x4 : Int32} {I : xI} {J : xJ} : SG (Sum.elim (fun o => o.2.2.2.2.1) (fun o => o.2.1)) I (f_X1_smallAnswer_4 x1 x2 x3 x4 I J) := by
  unfold f_X1_smallAnswer_4; exact (sg_ite sg_none (sg_ite (sg_at sx_rf (s_f_X1_smallAnswer_5)) (sg_at sx_rf (s_f_X1_smallAnswer_7))))
theorem s_f_X1_smallAnswer_3 {x1 : Int32} {x2 : Int32} {x3 : Int32} {x4 : Int32} {s0 : Int32} {I : xI} {J : xJ} : SG (Sum.elim (fun o => o.2.2.2.2.1) (fun o => o.2.1)) I (f_X1_smallAnswer_3 x1 x2 x3 x4 s0 I J) := by
  unfold f_X1_smallAnswer_3; exact (sg_ite (sg_map (sg_at sx_rf (s_f_X1_smallAnswer_8))) (sg_at sx_rf (s_f_X1_smallAnswer_4)))
theorem s_f_X1_smallAnswer_2 {x1 : Int32} {x2 : Int32} {x3 : Int32} {x4 : Int32} {I : xI} {J : xJ} : SG (Sum.elim (fun o => o.2.2.2.2.1) (fun o => o.2.1)) I (f_X1_smallAnswer_2 x1 x2 x3 x4 I J) := by
  unfold f_X1_smallAnswer_2; exact (sg_bind (sg_at sx_rf (s_f_X1_hasFewest)) (fun o ho => (sg_at ho (s_f_X1_smallAnswer_3))))
theorem s_b_X1_smallAnswer_1 {x1 : Int32} {x2 : Int32} {x3 : Int32} {x4 : Int32} {I : xI} {J : xJ} : SG (Sum.elim (fun o => o.2.2.2.2.1) (fun o => o.2.1)) I (b_X1_smallAnswer_1 x1 x2 x3 x4 I J) := by
  unfold b_X1_smallAnswer_1; exact (sg_ite (sg_map (sg_at sx_rf (s_f_X1_smallAnswer_8))) (sg_at sx_rf (s_f_X1_smallAnswer_2)))
theorem s_f_X1_smallAnswer_1 {x1 : Int32} {x2 : Int32} {x3 : Int32} {x4 : Int32} {I : xI} {J : xJ} : SG (fun o => o.2.1) I (f_X1_smallAnswer_1 x1 x2 x3 x4 I J) := by
  unfold f_X1_smallAnswer_1; exact (sg_loop (gs := (fun o => o.2.2.2.2.1)) (fun s => s_b_X1_smallAnswer_1) sx_rf)
theorem s_f_X1_smallAnswer_0 {x1 : Int32} {x2 : Int32} {I : xI} {J : xJ} : SG (fun o => o.2.1) I (f_X1_smallAnswer_0 x1 x2 I J) := by
  unfold f_X1_smallAnswer_0; exact (sg_at sx_rf (s_f_X1_smallAnswer_1))
theorem s_f_X1_smallAnswer {x1 : Int32} {x2 : Int32} {I : xI} {J : xJ} : SG (fun o => o.2.1) I (f_X1_smallAnswer x1 x2 I J) := by
  unfold f_X1_smallAnswer; exact (sg_at sx_rf (s_f_X1_smallAnswer_0))
theorem s_f_X11_small_11 {x1 : Int32} {x2 : Int32} {x3 : Int32} {I : xI} {J : xJ} : SG (fun o => o.2.1) I (f_X11_small_11 x1 x2 x3 I J) := by
  unfold f_X11_small_11; exact (sg_bind (sg_at sx_rf (s_f_X1_smallAnswer)) (fun o ho => (sg_at ho (s_f_X11_small_12))))
theorem s_f_X11_small_8 {x1 : Int32} {x2 : Int32} {x3 : Int32} {I : xI} {J : xJ} : SG (fun o => o.2.1) I (f_X11_small_8 x1 x2 x3 I J) := by
  unfold f_X11_small_8; exact (sg_ite (sg_at sx_rf (s_f_X11_small_9)) (sg_at sx_rf (s_f_X11_small_11)))
theorem s_f_X11_small_6 {x1 : Int32} {x2 : Int32} {x3 : Int32} {I : xI} {J : xJ} : SG (fun o => o.2.1) I (f_X11_small_6 x1 x2 x3 I J) := by
  unfold f_X11_small_6; exact (sg_ite (sg_at sx_rf (s_f_X11_small_8)) (sg_at sx_rf (s_f_X11_small_7)))
theorem s_f_X11_small_5 {x1 : Int32} {x2 : Int32} {x3 : Int32} {I : xI} {J : xJ} : SG (fun o => o.2.1) I (f_X11_small_5 x1 x2 x3 I J) := by
  unfold f_X11_small_5; exact (sg_ite (sg_at sx_rf (s_f_X11_small_7)) (sg_at sx_rf (s_f_X11_small_6)))
theorem s_f_X11_small_4 {x1 : Int32} {x2 : Int32} {x3 : Int32} {s0 : Int32} {I : xI} {J : xJ} : SG (fun o => o.2.1) I (f_X11_small_4 x1 x2 x3 s0 I J) := by
  unfold f_X11_small_4; exact (sg_ite (sg_at sx_rf (s_f_X11_small_7)) (sg_at sx_rf (s_f_X11_small_5)))
theorem s_f_X11_small_3 {x1 : Int32} {x2 : Int32} {x3 : Int32} {I : xI} {J : xJ} : SG (fun o => o.2.1) I (f_X11_small_3 x1 x2 x3 I J) := by
  unfold f_X11_small_3; exact (sg_bind (sg_at sx_rf (s_f_X5_hasInput)) (fun o ho => (sg_at ho (s_f_X11_small_4))))
theorem s_f_X11_small_2 {x1 : Int32} {x2 : Int32} {x3 : Int32} {s0 : Int32} {I : xI} {J : xJ} : SG (fun o => o.2.1) I (f_X11_small_2 x1 x2 x3 s0 I J) := by
  unfold f_X11_small_2; exact (sg_ite (sg_at sx_rf (s_f_X11_small_7)) (sg_at sx_rf (s_f_X11_small_3)))
theorem s_f_X11_small_1 {x1 : Int32} {x2 : Int32} {x3 : Int32} {I : xI} {J : xJ} : SG (fun o => o.2.1) I (f_X11_small_1 x1 x2 x3 I J) := by
  unfold f_X11_small_1; exact (sg_bind (sg_at sx_rf (s_f_X1_hasFewest)) (fun o ho => (sg_at ho (s_f_X11_small_2))))
theorem s_f_X11_small_0 {x1 : Int32} {x2 : Int32} {x3 : Int32} {I : xI} {J : xJ} : SG (fun o => o.2.1) I (f_X11_small_0 x1 x2 x3 I J) := by
  unfold f_X11_small_0; exact (sg_bind (sg_at sx_rf (s_f_X11_fewestNow)) (fun o ho => (sg_at ho (s_f_X11_small_1))))
theorem s_f_X11_small {x1 : Int32} {x2 : Int32} {x3 : Int32} {I : xI} {J : xJ} : SG (fun o => o.2.1) I (f_X11_small x1 x2 x3 I J) := by
  unfold f_X11_small; exact (sg_at sx_rf (s_f_X11_small_0))
theorem s_f_X11_home_6 {x1 : Int32} {s0 : Int32} {I : xI} {J : xJ} : SG (fun o => o.2.1) I (f_X11_home_6 x1 s0 I J) := by
  unfold f_X11_home_6; exact (sg_some sx_rf)
theorem s_f_X11_home_5 {x1 : Int32} {I : xI} {J : xJ} : SG (fun o => o.2.1) I (f_X11_home_5 x1 I J) := by
  unfold f_X11_home_5; exact (sg_at sx_rf (s_f_X11_home_6))
theorem s_f_X1_homeOf_1 {x1 : Int32} {s0 : Int32} {I : xI} {J : xJ} : SG (fun o => o.2.1) I (f_X1_homeOf_1 x1 s0 I J) := by
  unfold f_X1_homeOf_1; exact (sg_some sx_rf)
theorem s_f_X1_homeOf_0 {x1 : Int32} {I : xI} {J : xJ} : SG (fun o => o.2.1) I (f_X1_homeOf_0 x1 I J) := by
  unfold f_X1_homeOf_0; exact (sg_bind (sg_at sx_rf (s_f_X1_firstHolding)) (fun o ho => (sg_at ho (s_f_X1_homeOf_1))))
theorem s_f_X1_homeOf {x1 : Int32} {I : xI} {J : xJ} : SG (fun o => o.2.1) I (f_X1_homeOf x1 I J) := by
  unfold f_X1_homeOf; exact (sg_at sx_rf (s_f_X1_homeOf_0))
theorem s_f_X11_home_4 {x1 : Int32} {s0 : Int32} {I : xI} {J : xJ} : SG (fun o => o.2.1) I (f_X11_home_4 x1 s0 I J) := by
  unfold f_X11_home_4; exact (sg_at sx_rf (s_f_X11_home_6))
theorem s_f_X11_home_3 {x1 : Int32} {I : xI} {J : xJ} : SG (fun o => o.2.1) I (f_X11_home_3 x1 I J) := by
  unfold f_X11_home_3; exact (sg_bind (sg_at sx_rf (s_f_X1_homeOf)) (fun o ho => (sg_at ho (s_f_X11_home_4))))
theorem s_f_X11_home_2 {x1 : Int32} {I : xI} {J : xJ} : SG (fun o => o.2.1) I (f_X11_home_2 x1 I J) := by
  unfold f_X11_home_2; exact (sg_bind (sg_at sx_rf (s_f_X11_fewestNow)) (fun o ho => (sg_at ho (s_f_X11_home_3))))
theorem s_f_X11_home_1 {x1 : Int32} {s0 : Int32} {I : xI} {J : xJ} : SG (fun o => o.2.1) I (f_X11_home_1 x1 s0 I J) := by
  unfold f_X11_home_1; exact (sg_ite (sg_at sx_rf (s_f_X11_home_5)) (sg_at sx_rf (s_f_X11_home_2)))
theorem s_f_X11_home_0 {x1 : Int32} {I : xI} {J : xJ} : SG (fun o => o.2.1) I (f_X11_home_0 x1 I J) := by
  unfold f_X11_home_0; exact (sg_bind (sg_at sx_rf (s_f_X5_hasState)) (fun o ho => (sg_at ho (s_f_X11_home_1))))
theorem s_f_X11_home {x1 : Int32} {I : xI} {J : xJ} : SG (fun o => o.2.1) I (f_X11_home x1 I J) := by
  unfold f_X11_home; exact (sg_at sx_rf (s_f_X11_home_0))
theorem s_f_X11_met_6 {x1 : Int32} {s0 : Int32} {I : xI} {J : xJ} : SG (fun o => o.2.1) I (f_X11_met_6 x1 s0 I J) := by
  unfold f_X11_met_6; exact (sg_some sx_rf)
theorem s_f_X11_met_5 {x1 : Int32} {I : xI} {J : xJ} : SG (fun o => o.2.1) I (f_X11_met_5 x1 I J) := by
  unfold f_X11_met_5; exact (sg_at sx_rf (s_f_X11_met_6))
theorem s_f_X1_metBy_3 {x1 : Int32} {x2 : Int32} {x3 : Int32} {I : xI} {J : xJ} : SG (fun o => o.2.1) I (f_X1_metBy_3 x1 x2 x3 I J) := by
  unfold f_X1_metBy_3; exact (sg_some sx_rf)
theorem s_f_X1_metBy_2 {x1 : Int32} {x2 : Int32} {x3 : Int32} {I : xI} {J : xJ} : SG (Sum.elim (fun o => o.2.2.2.1) (fun o => o.2.1)) I (f_X1_metBy_2 x1 x2 x3 I J) := by
  unfold f_X1_metBy_2; exact (sg_ite sg_none (sg_some sx_rf))
theorem s_b_X1_metBy_1 {x1 : Int32} {x2 : Int32} {x3 : Int32} {I : xI} {J : xJ} : SG (Sum.elim (fun o => o.2.2.2.1) (fun o => o.2.1)) I (b_X1_metBy_1 x1 x2 x3 I J) := by
  unfold b_X1_metBy_1; exact (sg_ite (sg_map (sg_at sx_rf (s_f_X1_metBy_3))) (sg_at sx_rf (s_f_X1_metBy_2)))
theorem s_f_X1_metBy_1 {x1 : Int32} {x2 : Int32} {x3 : Int32} {I : xI} {J : xJ} : SG (fun o => o.2.1) I (f_X1_metBy_1 x1 x2 x3 I J) := by
  unfold f_X1_metBy_1; exact (sg_loop (gs := (fun o => o.2.2.2.1)) (fun s => s_b_X1_metBy_1) sx_rf)
theorem s_f_X1_metBy_0 {x1 : Int32} {I : xI} {J : xJ} : SG (fun o => o.2.1) I (f_X1_metBy_0 x1 I J) := by
  unfold f_X1_metBy_0; exact (sg_at sx_rf (s_f_X1_metBy_1))
theorem s_f_X1_metBy {x1 : Int32} {I : xI} {J : xJ} : SG (fun o => o.2.1) I (f_X1_metBy x1 I J) := by
  unfold f_X1_metBy; exact (sg_at sx_rf (s_f_X1_metBy_0))
theorem s_f_X11_met_4 {x1 : Int32} {s0 : Int32} {I : xI} {J : xJ} : SG (fun o => o.2.1) I (f_X11_met_4 x1 s0 I J) := by
  unfold f_X11_met_4; exact (sg_at sx_rf (s_f_X11_met_6))
theorem s_f_X11_met_3 {x1 : Int32} {I : xI} {J : xJ} : SG (fun o => o.2.1) I (f_X11_met_3 x1 I J) := by
  unfold f_X11_met_3; exact (sg_bind (sg_at sx_rf (s_f_X1_metBy)) (fun o ho => (sg_at ho (s_f_X11_met_4))))
theorem s_f_X11_met_2 {x1 : Int32} {I : xI} {J : xJ} : SG (fun o => o.2.1) I (f_X11_met_2 x1 I J) := by
  unfold f_X11_met_2; exact (sg_bind (sg_at sx_rf (s_f_X11_fewestNow)) (fun o ho => (sg_at ho (s_f_X11_met_3))))
theorem s_f_X11_met_1 {x1 : Int32} {s0 : Int32} {I : xI} {J : xJ} : SG (fun o => o.2.1) I (f_X11_met_1 x1 s0 I J) := by
  unfold f_X11_met_1; exact (sg_ite (sg_at sx_rf (s_f_X11_met_5)) (sg_at sx_rf (s_f_X11_met_2)))
theorem s_f_X11_met_0 {x1 : Int32} {I : xI} {J : xJ} : SG (fun o => o.2.1) I (f_X11_met_0 x1 I J) := by
  unfold f_X11_met_0; exact (sg_bind (sg_at sx_rf (s_f_X5_hasState)) (fun o ho => (sg_at ho (s_f_X11_met_1))))
theorem s_f_X11_met {x1 : Int32} {I : xI} {J : xJ} : SG (fun o => o.2.1) I (f_X11_met x1 I J) := by
  unfold f_X11_met; exact (sg_at sx_rf (s_f_X11_met_0))
theorem s_f_X11_run_6 {x1 : Int32} {x2 : Int32} {x3 : Int32} {x4 : Int32} {I : xI} {J : xJ} : SG (fun o => o.2.1) I (f_X11_run_6 x1 x2 x3 x4 I J) := by
  unfold f_X11_run_6; exact (sg_some sx_rf)
theorem s_f_X5_hasWord_4 {x1 : Int32} {x2 : Int32} {I : xI} {J : xJ} : SG (fun o => o.2.1) I (f_X5_hasWord_4 x1 x2 I J) := by
  unfold f_X5_hasWord_4; exact (sg_some sx_rf)
theorem s_f_X5_hasWord_12 {x1 : Int32} {x2 : Int32} {x3 : Int32} {I : xI} {J : xJ} : SG (fun o => o.2.1) I (f_X5_hasWord_12 x1 x2 x3 I J) := by
  unfold f_X5_hasWord_12; exact (sg_some sx_rf)
theorem s_f_X5_digitOf_0 {x0 : Int32} {x1 : Int32} {x2 : Int32} {I : xI} {J : xJ} : SG (fun o => o.2.1) I (f_X5_digitOf_0 x0 x1 x2 I J) := by
  unfold f_X5_digitOf_0; exact (sg_some sx_rf)
theorem s_f_X5_digitOf {x0 : Int32} {x1 : Int32} {x2 : Int32} {I : xI} {J : xJ} : SG (fun o => o.2.1) I (f_X5_digitOf x0 x1 x2 I J) := by
  unfold f_X5_digitOf; exact (sg_at sx_rf (s_f_X5_digitOf_0))
theorem s_f_X5_hasWord_10 {x1 : Int32} {x2 : Int32} {x3 : Int32} {I : xI} {J : xJ} : SG (fun o => o.2.1) I (f_X5_hasWord_10 x1 x2 x3 I J) := by
  unfold f_X5_hasWord_10; exact (sg_some sx_rf)
theorem s_f_X5_hasWord_11 {x1 : Int32} {x2 : Int32} {x3 : Int32} {I : xI} {J : xJ} : SG (Sum.elim (fun o => o.2.2.2.1) (fun o => o.2.1)) I (f_X5_hasWord_11 x1 x2 x3 I J) := by
  unfold f_X5_hasWord_11; exact (sg_some sx_rf)
theorem s_f_X5_hasWord_9 {x1 : Int32} {x2 : Int32} {x3 : Int32} {s0 : Int32} {I : xI} {J : xJ} : SG (Sum.elim (fun o => o.2.2.2.1) (fun o => o.2.1)) I (f_X5_hasWord_9 x1 x2 x3 s0 I J) := by
  unfold f_X5_hasWord_9; exact (sg_ite (sg_map (sg_at sx_rf (s_f_X5_hasWord_10))) (sg_at sx_rf (s_f_X5_hasWord_11)))
theorem s_f_X5_hasWord_8 {x1 : Int32} {x2 : Int32} {x3 : Int32} {s1 : Int32} {I : xI} {J : xJ} : SG (Sum.elim (fun o => o.2.2.2.1) (fun o => o.2.1)) I (f_X5_hasWord_8 x1 x2 x3 s1 I J) := by
  unfold f_X5_hasWord_8; exact (sg_bind (sg_at sx_rf (s_f_X5_hasInput)) (fun o ho => (sg_at ho (s_f_X5_hasWord_9))))
theorem s_f_X5_hasWord_7 {x1 : Int32} {x2 : Int32} {x3 : Int32} {I : xI} {J : xJ} : SG (Sum.elim (fun o => o.2.2.2.1) (fun o => o.2.1)) I (f_X5_hasWord_7 x1 x2 x3 I J) := by
  unfold f_X5_hasWord_7; exact (sg_bind (sg_at sx_rf (s_f_X5_digitOf)) (fun o ho => (sg_at ho (s_f_X5_hasWord_8))))
theorem s_b_X5_hasWord_6 {x1 : Int32} {x2 : Int32} {x3 : Int32} {I : xI} {J : xJ} : SG (Sum.elim (fun o => o.2.2.2.1) (fun o => o.2.1)) I (b_X5_hasWord_6 x1 x2 x3 I J) := by
  unfold b_X5_hasWord_6; exact (sg_ite (sg_map (sg_at sx_rf (s_f_X5_hasWord_12))) (sg_at sx_rf (s_f_X5_hasWord_7)))
theorem s_f_X5_hasWord_6 {x1 : Int32} {x2 : Int32} {x3 : Int32} {I : xI} {J : xJ} : SG (fun o => o.2.1) I (f_X5_hasWord_6 x1 x2 x3 I J) := by
  unfold f_X5_hasWord_6; exact (sg_loop (gs := (fun o => o.2.2.2.1)) (fun s => s_b_X5_hasWord_6) sx_rf)
theorem s_f_X5_hasWord_5 {x1 : Int32} {x2 : Int32} {I : xI} {J : xJ} : SG (fun o => o.2.1) I (f_X5_hasWord_5 x1 x2 I J) := by
  unfold f_X5_hasWord_5; exact (sg_at sx_rf (s_f_X5_hasWord_6))
theorem s_f_X5_hasWord_3 {x1 : Int32} {x2 : Int32} {I : xI} {J : xJ} : SG (fun o => o.2.1) I (f_X5_hasWord_3 x1 x2 I J) := by
  unfold f_X5_hasWord_3; exact (sg_ite (sg_at sx_rf (s_f_X5_hasWord_5)) (sg_at sx_rf (s_f_X5_hasWord_4)))
theorem s_f_X5_hasWord_2 {x1 : Int32} {x2 : Int32} {I : xI} {J : xJ} : SG (fun o => o.2.1) I (f_X5_hasWord_2 x1 x2 I J) := by
  unfold f_X5_hasWord_2; exact (sg_ite (sg_at sx_rf (s_f_X5_hasWord_4)) (sg_at sx_rf (s_f_X5_hasWord_3)))
theorem s_f_X5_hasWord_1 {x1 : Int32} {x2 : Int32} {I : xI} {J : xJ} : SG (fun o => o.2.1) I (f_X5_hasWord_1 x1 x2 I J) := by
  unfold f_X5_hasWord_1; exact (sg_ite (sg_at sx_rf (s_f_X5_hasWord_4)) (sg_at sx_rf (s_f_X5_hasWord_2)))
theorem s_f_X5_hasWord_0 {x1 : Int32} {x2 : Int32} {I : xI} {J : xJ} : SG (fun o => o.2.1) I (f_X5_hasWord_0 x1 x2 I J) := by
  unfold f_X5_hasWord_0; exact (sg_ite (sg_at sx_rf (s_f_X5_hasWord_4)) (sg_at sx_rf (s_f_X5_hasWord_1)))
theorem s_f_X5_hasWord {x1 : Int32} {x2 : Int32} {I : xI} {J : xJ} : SG (fun o => o.2.1) I (f_X5_hasWord x1 x2 I J) := by
  unfold f_X5_hasWord; exact (sg_at sx_rf (s_f_X5_hasWord_0))
theorem s_f_X11_run_26 {x1 : Int32} {x2 : Int32} {x3 : Int32} {x4 : Int32} {x5 : Int32} {x6 : Int32} {x7 : Int32} {x8 : Int32} {x9 : Int32} {x10 : Int32} {z11 : Option Value} {z12 : Option Value} {z13 : Option Value} {I : xI} {J : xJ} : SG (fun o => o.2.1) I (f_X11_run_26 x1 x2 x3 x4 x5 x6 x7 x8 x9 x10 z11 z12 z13 I J) := by
  unfold f_X11_run_26; exact (sg_some sx_rf)
theorem s_f_X11_run_27 {x1 : Int32} {x2 : Int32} {x3 : Int32} {x4 : Int32} {x5 : Int32} {x6 : Int32} {x7 : Int32} {x8 : Int32} {x9 : Int32} {x10 : Int32} {z11 : Option Value} {z12 : Option Value} {z13 : Option Value} {I : xI} {J : xJ} : SG (fun o => o.2.1) I (f_X11_run_27 x1 x2 x3 x4 x5 x6 x7 x8 x9 x10 z11 z12 z13 I J) := by
  unfold f_X11_run_27; exact (sg_some sx_rf)
theorem s_f_X11_run_28 {x1 : Int32} {x2 : Int32} {x3 : Int32} {x4 : Int32} {x5 : Int32} {x6 : Int32} {x7 : Int32} {x8 : Int32} {x9 : Int32} {x10 : Int32} {z11 : Option Value} {z12 : Option Value} {z13 : Option Value} {I : xI} {J : xJ} : SG (fun o => o.2.1) I (f_X11_run_28 x1 x2 x3 x4 x5 x6 x7 x8 x9 x10 z11 z12 z13 I J) := by
  unfold f_X11_run_28; exact (sg_some sx_rf)
theorem s_f_X11_run_29 {x1 : Int32} {x2 : Int32} {x3 : Int32} {x4 : Int32} {x5 : Int32} {x6 : Int32} {x7 : Int32} {x8 : Int32} {x9 : Int32} {x10 : Int32} {z11 : Option Value} {z12 : Option Value} {z13 : Option Value} {I : xI} {J : xJ} : SG (fun o => o.2.1) I (f_X11_run_29 x1 x2 x3 x4 x5 x6 x7 x8 x9 x10 z11 z12 z13 I J) := by
  unfold f_X11_run_29; exact (sg_some sx_rf)
theorem s_f_X11_run_30 {x1 : Int32} {x2 : Int32} {x3 : Int32} {x4 : Int32} {x5 : Int32} {x6 : Int32} {x7 : Int32} {x8 : Int32} {x9 : Int32} {x10 : Int32} {z11 : Option Value} {z12 : Option Value} {z13 : Option Value} {I : xI} {J : xJ} : SG (fun o => o.2.1) I (f_X11_run_30 x1 x2 x3 x4 x5 x6 x7 x8 x9 x10 z11 z12 z13 I J) := by
  unfold f_X11_run_30; exact (sg_some sx_rf)
theorem s_f_X11_run_25 {x1 : Int32} {x2 : Int32} {x3 : Int32} {x4 : Int32} {x5 : Int32} {x6 : Int32} {x7 : Int32} {x8 : Int32} {x9 : Int32} {x10 : Int32} {z11 : Option Value} {z12 : Option Value} {z13 : Option Value} {s0 : Int32} {I : xI} {J : xJ} : SG (fun o => o.2.1) I (f_X11_run_25 x1 x2 x3 x4 x5 x6 x7 x8 x9 x10 z11 z12 z13 s0 I J) := by
  unfold f_X11_run_25; exact (sg_ite (sg_at sx_rf (s_f_X11_run_26)) (sg_ite (sg_at sx_rf (s_f_X11_run_27)) (sg_ite (sg_at sx_rf (s_f_X11_run_28)) (sg_ite (sg_at sx_rf (s_f_X11_run_29)) (sg_at sx_rf (s_f_X11_run_30))))))
theorem s_f_X11_run_24 {x1 : Int32} {x2 : Int32} {x3 : Int32} {x4 : Int32} {x5 : Int32} {x6 : Int32} {x7 : Int32} {x8 : Int32} {x9 : Int32} {x10 : Int32} {z11 : Option Value} {z12 : Option Value} {z13 : Option Value} {I : xI} {J : xJ} : SG (fun o => o.2.1) I (f_X11_run_24 x1 x2 x3 x4 x5 x6 x7 x8 x9 x10 z11 z12 z13 I J) := by
  unfold f_X11_run_24; exact (sg_at sx_rf (s_f_X11_run_25))
theorem s_f_X11_run_23 {x1 : Int32} {x2 : Int32} {x3 : Int32} {x4 : Int32} {x5 : Int32} {x6 : Int32} {x7 : Int32} {x8 : Int32} {x9 : Int32} {x10 : Int32} {x11 : Int32} {x12 : Int32} {x13 : Int32} {s0 : Int32} {I : xI} {J : xJ} : SG (Sum.elim (fun o => o.2.2.2.2.2.2.2.2.2.2.2.2.2.1) (fun o => o.2.1)) I (f_X11_run_23 x1 x2 x3 x4 x5 x6 x7 x8 x9 x10 x11 x12 x13 s0 I J) := by
  unfold f_X11_run_23; exact (sg_some sx_rf)
theorem s_f_X11_run_22 {x1 : Int32} {x2 : Int32} {x3 : Int32} {x4 : Int32} {x5 : Int32} {x6 : Int32} {x7 : Int32} {x8 : Int32} {x9 : Int32} {x10 : Int32} {x11 : Int32} {x12 : Int32} {x13 : Int32} {I : xI} {J : xJ} : SG (Sum.elim (fun o => o.2.2.2.2.2.2.2.2.2.2.2.2.2.1) (fun o => o.2.1)) I (f_X11_run_22 x1 x2 x3 x4 x5 x6 x7 x8 x9 x10 x11 x12 x13 I J) := by
  unfold f_X11_run_22; exact (sg_bind (sg_at sx_rf (s_f_X1_smallTarget)) (fun o ho => (sg_at ho (s_f_X11_run_23))))
theorem s_f_X11_run_21 {x1 : Int32} {x2 : Int32} {x3 : Int32} {x4 : Int32} {x5 : Int32} {x6 : Int32} {x7 : Int32} {x8 : Int32} {x9 : Int32} {x10 : Int32} {x11 : Int32} {x12 : Int32} {x13 : Int32} {I : xI} {J : xJ} : SG (fun o => o.2.1) I (f_X11_run_21 x1 x2 x3 x4 x5 x6 x7 x8 x9 x10 x11 x12 x13 I J) := by
  unfold f_X11_run_21; exact (sg_at sx_rf (s_f_X11_run_24))
theorem s_f_X11_run_20 {x1 : Int32} {x2 : Int32} {x3 : Int32} {x4 : Int32} {x5 : Int32} {x6 : Int32} {x7 : Int32} {x8 : Int32} {x9 : Int32} {x10 : Int32} {x11 : Int32} {x12 : Int32} {z13 : Option Value} {s0 : Int32} {I : xI} {J : xJ} : SG (Sum.elim (fun o => o.2.2.2.2.2.2.2.2.2.2.2.2.2.1) (fun o => o.2.1)) I (f_X11_run_20 x1 x2 x3 x4 x5 x6 x7 x8 x9 x10 x11 x12 z13 s0 I J) := by
  unfold f_X11_run_20; exact (sg_ite (sg_at sx_rf (s_f_X11_run_22)) (sg_map (sg_at sx_rf (s_f_X11_run_21))))
theorem s_f_X11_run_19 {x1 : Int32} {x2 : Int32} {x3 : Int32} {x4 : Int32} {x5 : Int32} {x6 : Int32} {x7 : Int32} {x8 : Int32} {x9 : Int32} {x10 : Int32} {x11 : Int32} {x12 : Int32} {z13 : Option Value} {I : xI} {J : xJ} : SG (Sum.elim (fun o => o.2.2.2.2.2.2.2.2.2.2.2.2.2.1) (fun o => o.2.1)) I (f_X11_run_19 x1 x2 x3 x4 x5 x6 x7 x8 x9 x10 x11 x12 z13 I J) := by
  unfold f_X11_run_19; exact (sg_bind (sg_at sx_rf (s_f_X5_targetOf)) (fun o ho => (sg_at ho (s_f_X11_run_20))))
theorem s_f_X11_run_18 {x1 : Int32} {x2 : Int32} {x3 : Int32} {x4 : Int32} {x5 : Int32} {x6 : Int32} {x7 : Int32} {x8 : Int32} {x9 : Int32} {x10 : Int32} {x11 : Int32} {x12 : Int32} {z13 : Option Value} {s0 : Int32} {s1 : Int32} {I : xI} {J : xJ} : SG (Sum.elim (fun o => o.2.2.2.2.2.2.2.2.2.2.2.2.2.1) (fun o => o.2.1)) I (f_X11_run_18 x1 x2 x3 x4 x5 x6 x7 x8 x9 x10 x11 x12 z13 s0 s1 I J) := by
  unfold f_X11_run_18; exact (sg_at sx_rf (s_f_X11_run_19))
theorem s_f_X11_run_16 {x1 : Int32} {x2 : Int32} {x3 : Int32} {x4 : Int32} {x5 : Int32} {x6 : Int32} {x7 : Int32} {x8 : Int32} {x9 : Int32} {x10 : Int32} {x11 : Int32} {x12 : Int32} {z13 : Option Value} {s0 : Int32} {I : xI} {J : xJ} : SG (Sum.elim (fun o => o.2.2.2.2.2.2.2.2.2.2.2.2.2.1) (fun o => o.2.1)) I (f_X11_run_16 x1 x2 x3 x4 x5 x6 x7 x8 x9 x10 x11 x12 z13 s0 I J) := by
  unfold f_X11_run_16; exact (sg_at sx_rf (s_f_X11_run_18))
theorem s_f_X11_run_17 {x1 : Int32} {x2 : Int32} {x3 : Int32} {x4 : Int32} {x5 : Int32} {x6 : Int32} {x7 : Int32} {x8 : Int32} {x9 : Int32} {x10 : Int32} {x11 : Int32} {x12 : Int32} {z13 : Option Value} {s0 : Int32} {I : xI} {J : xJ} : SG (Sum.elim (fun o => o.2.2.2.2.2.2.2.2.2.2.2.2.2.1) (fun o => o.2.1)) I (f_X11_run_17 x1 x2 x3 x4 x5 x6 x7 x8 x9 x10 x11 x12 z13 s0 I J) := by
  unfold f_X11_run_17; exact (sg_at sx_rf (s_f_X11_run_18))
theorem s_f_X11_run_15 {x1 : Int32} {x2 : Int32} {x3 : Int32} {x4 : Int32} {x5 : Int32} {x6 : Int32} {x7 : Int32} {x8 : Int32} {x9 : Int32} {x10 : Int32} {x11 : Int32} {x12 : Int32} {z13 : Option Value} {s0 : Int32} {s1 : Int32} {I : xI} {J : xJ} : SG (Sum.elim (fun o => o.2.2.2.2.2.2.2.2.2.2.2.2.2.1) (fun o => o.2.1)) I (f_X11_run_15 x1 x2 x3 x4 x5 x6 x7 x8 x9 x10 x11 x12 z13 s0 s1 I J) := by
  unfold f_X11_run_15; exact (sg_ite (sg_at sx_rf (s_f_X11_run_16)) (sg_at sx_rf (s_f_X11_run_17)))
theorem s_f_X11_run_14 {x1 : Int32} {x2 : Int32} {x3 : Int32} {x4 : Int32} {x5 : Int32} {x6 : Int32} {x7 : Int32} {x8 : Int32} {x9 : Int32} {x10 : Int32} {x11 : Int32} {x12 : Int32} {z13 : Option Value} {I : xI} {J : xJ} : SG (Sum.elim (fun o => o.2.2.2.2.2.2.2.2.2.2.2.2.2.1) (fun o => o.2.1)) I (f_X11_run_14 x1 x2 x3 x4 x5 x6 x7 x8 x9 x10 x11 x12 z13 I J) := by
  unfold f_X11_run_14; exact (sg_bind (sg_at sx_rf (s_f_X1_smallAnswer)) (fun o ho => (sg_at ho (s_f_X11_run_15))))
theorem s_f_X11_run_13 {x1 : Int32} {x2 : Int32} {x3 : Int32} {x4 : Int32} {x5 : Int32} {x6 : Int32} {x7 : Int32} {x8 : Int32} {x9 : Int32} {x10 : Int32} {x11 : Int32} {z12 : Option Value} {z13 : Option Value} {s0 : Int32} {I : xI} {J : xJ} : SG (Sum.elim (fun o => o.2.2.2.2.2.2.2.2.2.2.2.2.2.1) (fun o => o.2.1)) I (f_X11_run_13 x1 x2 x3 x4 x5 x6 x7 x8 x9 x10 x11 z12 z13 s0 I J) := by
  unfold f_X11_run_13; exact (sg_ite (sg_at sx_rf (s_f_X11_run_19)) (sg_at sx_rf (s_f_X11_run_14)))
theorem s_f_X11_run_12 {x1 : Int32} {x2 : Int32} {x3 : Int32} {x4 : Int32} {x5 : Int32} {x6 : Int32} {x7 : Int32} {x8 : Int32} {x9 : Int32} {x10 : Int32} {z11 : Option Value} {z12 : Option Value} {z13 : Option Value} {s0 : Int32} {I : xI} {J : xJ} : SG (Sum.elim (fun o => o.2.2.2.2.2.2.2.2.2.2.2.2.2.1) (fun o => o.2.1)) I (f_X11_run_12 x1 x2 x3 x4 x5 x6 x7 x8 x9 x10 z11 z12 z13 s0 I J) := by
  unfold f_X11_run_12; exact (sg_bind (sg_at sx_rf (s_f_X5_answerOf)) (fun o ho => (sg_at ho (s_f_X11_run_13))))
theorem s_f_X11_run_11 {x1 : Int32} {x2 : Int32} {x3 : Int32} {x4 : Int32} {x5 : Int32} {x6 : Int32} {x7 : Int32} {x8 : Int32} {x9 : Int32} {x10 : Int32} {z11 : Option Value} {z12 : Option Value} {z13 : Option Value} {I : xI} {J : xJ} : SG (Sum.elim (fun o => o.2.2.2.2.2.2.2.2.2.2.2.2.2.1) (fun o => o.2.1)) I (f_X11_run_11 x1 x2 x3 x4 x5 x6 x7 x8 x9 x10 z11 z12 z13 I J) := by
  unfold f_X11_run_11; exact (sg_bind (sg_at sx_rf (s_f_X5_digitOf)) (fun o ho => (sg_at ho (s_f_X11_run_12))))
theorem s_b_X11_run_10 {x1 : Int32} {x2 : Int32} {x3 : Int32} {x4 : Int32} {x5 : Int32} {x6 : Int32} {x7 : Int32} {x8 : Int32} {x9 : Int32} {x10 : Int32} {z11 : Option Value} {z12 : Option Value} {z13 : Option Value} {I : xI} {J : xJ} : SG (Sum.elim (fun o => o.2.2.2.2.2.2.2.2.2.2.2.2.2.1) (fun o => o.2.1)) I (b_X11_run_10 x1 x2 x3 x4 x5 x6 x7 x8 x9 x10 z11 z12 z13 I J) := by
  unfold b_X11_run_10; exact (sg_ite (sg_map (sg_at sx_rf (s_f_X11_run_24))) (sg_at sx_rf (s_f_X11_run_11)))
theorem s_f_X11_run_10 {x1 : Int32} {x2 : Int32} {x3 : Int32} {x4 : Int32} {x5 : Int32} {x6 : Int32} {x7 : Int32} {x8 : Int32} {x9 : Int32} {x10 : Int32} {z11 : Option Value} {z12 : Option Value} {z13 : Option Value} {I : xI} {J : xJ} : SG (fun o => o.2.1) I (f_X11_run_10 x1 x2 x3 x4 x5 x6 x7 x8 x9 x10 z11 z12 z13 I J) := by
  unfold f_X11_run_10; exact (sg_loop (gs := (fun o => o.2.2.2.2.2.2.2.2.2.2.2.2.2.1)) (fun s => s_b_X11_run_10) sx_rf)
theorem s_f_X11_run_9 {x1 : Int32} {x2 : Int32} {x3 : Int32} {x4 : Int32} {x5 : Int32} {s0 : Int32} {I : xI} {J : xJ} : SG (fun o => o.2.1) I (f_X11_run_9 x1 x2 x3 x4 x5 s0 I J) := by
  unfold f_X11_run_9; exact (sg_at sx_rf (s_f_X11_run_10))
theorem s_f_X11_run_8 {x1 : Int32} {x2 : Int32} {x3 : Int32} {x4 : Int32} {x5 : Int32} {I : xI} {J : xJ} : SG (fun o => o.2.1) I (f_X11_run_8 x1 x2 x3 x4 x5 I J) := by
  unfold f_X11_run_8; exact (sg_bind (sg_at sx_rf (s_f_X1_homeOf)) (fun o ho => (sg_at ho (s_f_X11_run_9))))
theorem s_f_X11_run_7 {x1 : Int32} {x2 : Int32} {x3 : Int32} {x4 : Int32} {I : xI} {J : xJ} : SG (fun o => o.2.1) I (f_X11_run_7 x1 x2 x3 x4 I J) := by
  unfold f_X11_run_7; exact (sg_bind (sg_at sx_rf (s_f_X11_fewestNow)) (fun o ho => (sg_at ho (s_f_X11_run_8))))
theorem s_f_X11_run_5 {x1 : Int32} {x2 : Int32} {x3 : Int32} {x4 : Int32} {I : xI} {J : xJ} : SG (fun o => o.2.1) I (f_X11_run_5 x1 x2 x3 x4 I J) := by
  unfold f_X11_run_5; exact (sg_ite (sg_at sx_rf (s_f_X11_run_7)) (sg_at sx_rf (s_f_X11_run_6)))
theorem s_f_X11_run_4 {x1 : Int32} {x2 : Int32} {x3 : Int32} {x4 : Int32} {I : xI} {J : xJ} : SG (fun o => o.2.1) I (f_X11_run_4 x1 x2 x3 x4 I J) := by
  unfold f_X11_run_4; exact (sg_ite (sg_at sx_rf (s_f_X11_run_6)) (sg_at sx_rf (s_f_X11_run_5)))
theorem s_f_X11_run_3 {x1 : Int32} {x2 : Int32} {x3 : Int32} {x4 : Int32} {s0 : Int32} {I : xI} {J : xJ} : SG (fun o => o.2.1) I (f_X11_run_3 x1 x2 x3 x4 s0 I J) := by
  unfold f_X11_run_3; exact (sg_ite (sg_at sx_rf (s_f_X11_run_6)) (sg_at sx_rf (s_f_X11_run_4)))
theorem s_f_X11_run_2 {x1 : Int32} {x2 : Int32} {x3 : Int32} {x4 : Int32} {I : xI} {J : xJ} : SG (fun o => o.2.1) I (f_X11_run_2 x1 x2 x3 x4 I J) := by
  unfold f_X11_run_2; exact (sg_bind (sg_at sx_rf (s_f_X5_hasWord)) (fun o ho => (sg_at ho (s_f_X11_run_3))))
theorem s_f_X11_run_1 {x1 : Int32} {x2 : Int32} {x3 : Int32} {x4 : Int32} {s0 : Int32} {I : xI} {J : xJ} : SG (fun o => o.2.1) I (f_X11_run_1 x1 x2 x3 x4 s0 I J) := by
  unfold f_X11_run_1; exact (sg_ite (sg_at sx_rf (s_f_X11_run_6)) (sg_at sx_rf (s_f_X11_run_2)))
theorem s_f_X11_run_0 {x1 : Int32} {x2 : Int32} {x3 : Int32} {x4 : Int32} {I : xI} {J : xJ} : SG (fun o => o.2.1) I (f_X11_run_0 x1 x2 x3 x4 I J) := by
  unfold f_X11_run_0; exact (sg_bind (sg_at sx_rf (s_f_X5_hasState)) (fun o ho => (sg_at ho (s_f_X11_run_1))))
theorem s_f_X11_run {x1 : Int32} {x2 : Int32} {x3 : Int32} {x4 : Int32} {I : xI} {J : xJ} : SG (fun o => o.2.1) I (f_X11_run x1 x2 x3 x4 I J) := by
  unfold f_X11_run; exact (sg_at sx_rf (s_f_X11_run_0))
theorem s_f_X7_refresh_1 {I : xI} {J : xJ} : SG (fun o => o.2.1) I (f_X7_refresh_1 I J) := by
  unfold f_X7_refresh_1; exact (sg_some sx_rf)
theorem s_f_X7_refresh_11 {x1 : Int32} {I : xI} {J : xJ} : SG (fun o => o.2.1) I (f_X7_refresh_11 x1 I J) := by
  unfold f_X7_refresh_11; exact (sg_some sx_rf)
theorem s_f_X6_followed_5 {x1 : Int32} {x2 : Int32} {x3 : Int32} {I : xI} {J : xJ} : SG (fun o => o.2.1) I (f_X6_followed_5 x1 x2 x3 I J) := by
  unfold f_X6_followed_5; exact (sg_some sx_rf)
theorem s_f_X6_followed_4 {x1 : Int32} {x2 : Int32} {x3 : Int32} {I : xI} {J : xJ} : SG (Sum.elim (fun o => o.2.2.2.1) (fun o => o.2.1)) I (f_X6_followed_4 x1 x2 x3 I J) := by
  unfold f_X6_followed_4; exact (sg_some sx_rf)
theorem s_f_X6_followed_3 {x1 : Int32} {x2 : Int32} {x3 : Int32} {I : xI} {J : xJ} : SG (Sum.elim (fun o => o.2.2.2.1) (fun o => o.2.1)) I (f_X6_followed_3 x1 x2 x3 I J) := by
  unfold f_X6_followed_3; exact (sg_ite sg_none (sg_at sx_rf (s_f_X6_followed_4)))
theorem s_f_X6_followed_2 {x1 : Int32} {x2 : Int32} {x3 : Int32} {I : xI} {J : xJ} : SG (Sum.elim (fun o => o.2.2.2.1) (fun o => o.2.1)) I (f_X6_followed_2 x1 x2 x3 I J) := by
  unfold f_X6_followed_2; exact (sg_ite (sg_at sx_rf (s_f_X6_followed_3)) (sg_at sx_rf (s_f_X6_followed_4)))
theorem s_b_X6_followed_1 {x1 : Int32} {x2 : Int32} {x3 : Int32} {I : xI} {J : xJ} : SG (Sum.elim (fun o => o.2.2.2.1) (fun o => o.2.1)) I (b_X6_followed_1 x1 x2 x3 I J) := by
  unfold b_X6_followed_1; exact (sg_ite (sg_map (sg_at sx_rf (s_f_X6_followed_5))) (sg_at sx_rf (s_f_X6_followed_2)))
theorem s_f_X6_followed_1 {x1 : Int32} {x2 : Int32} {x3 : Int32} {I : xI} {J : xJ} : SG (fun o => o.2.1) I (f_X6_followed_1 x1 x2 x3 I J) := by
  unfold f_X6_followed_1; exact (sg_loop (gs := (fun o => o.2.2.2.1)) (fun s => s_b_X6_followed_1) sx_rf)
theorem s_f_X6_followed_0 {x1 : Int32} {I : xI} {J : xJ} : SG (fun o => o.2.1) I (f_X6_followed_0 x1 I J) := by
  unfold f_X6_followed_0; exact (sg_at sx_rf (s_f_X6_followed_1))
theorem s_f_X6_followed {x1 : Int32} {I : xI} {J : xJ} : SG (fun o => o.2.1) I (f_X6_followed x1 I J) := by
  unfold f_X6_followed; exact (sg_at sx_rf (s_f_X6_followed_0))
theorem s_f_X7_stays_4 {x1 : Int32} {s0 : Int32} {I : xI} {J : xJ} : SG (fun o => o.2.1) I (f_X7_stays_4 x1 s0 I J) := by
  unfold f_X7_stays_4; exact (sg_ite (sg_some sx_rf) sg_none)
theorem s_f_X7_stays_2 {x1 : Int32} {I : xI} {J : xJ} : SG (fun o => o.2.1) I (f_X7_stays_2 x1 I J) := by
  unfold f_X7_stays_2; exact (sg_at sx_rf (s_f_X7_stays_4))
theorem s_f_X7_stays_3 {x1 : Int32} {I : xI} {J : xJ} : SG (fun o => o.2.1) I (f_X7_stays_3 x1 I J) := by
  unfold f_X7_stays_3; exact (sg_at sx_rf (s_f_X7_stays_4))
theorem s_f_X7_stays_1 {x1 : Int32} {s0 : Int32} {I : xI} {J : xJ} : SG (fun o => o.2.1) I (f_X7_stays_1 x1 s0 I J) := by
  unfold f_X7_stays_1; exact (sg_ite sg_none (sg_ite (sg_at sx_rf (s_f_X7_stays_2)) (sg_at sx_rf (s_f_X7_stays_3))))
theorem s_f_X7_stays_0 {x1 : Int32} {I : xI} {J : xJ} : SG (fun o => o.2.1) I (f_X7_stays_0 x1 I J) := by
  unfold f_X7_stays_0; exact (sg_ite sg_none (sg_bind (sg_at sx_rf (s_f_X6_followed)) (fun o ho => (sg_at ho (s_f_X7_stays_1)))))
theorem s_f_X7_stays {x1 : Int32} {I : xI} {J : xJ} : SG (fun o => o.2.1) I (f_X7_stays x1 I J) := by
  unfold f_X7_stays; exact (sg_at sx_rf (s_f_X7_stays_0))
theorem s_f_X7_refresh_10 {x1 : Int32} {I : xI} {J : xJ} : SG (Sum.elim (fun o => o.2.1) (fun o => o.2.1)) I (f_X7_refresh_10 x1 I J) := by
  unfold f_X7_refresh_10; exact (sg_some sx_rf)
theorem s_f_X7_refresh_9 {x1 : Int32} {I : xI} {J : xJ} : SG (Sum.elim (fun o => o.2.1) (fun o => o.2.1)) I (f_X7_refresh_9 x1 I J) := by
  unfold f_X7_refresh_9; exact (sg_ite sg_none (sg_at (sx_up (sx_upc sx_rf rfl) rfl) (s_f_X7_refresh_10)))
theorem s_f_X7_refresh_8 {x1 : Int32} {s0 : Int32} {I : xI} {J : xJ} : SG (Sum.elim (fun o => o.2.1) (fun o => o.2.1)) I (f_X7_refresh_8 x1 s0 I J) := by
  unfold f_X7_refresh_8; exact (sg_ite (sg_at sx_rf (s_f_X7_refresh_10)) (sg_at sx_rf (s_f_X7_refresh_9)))
theorem s_f_X7_refresh_7 {x1 : Int32} {I : xI} {J : xJ} : SG (Sum.elim (fun o => o.2.1) (fun o => o.2.1)) I (f_X7_refresh_7 x1 I J) := by
  unfold f_X7_refresh_7; exact (sg_bind (sg_at sx_rf (s_f_X7_stays)) (fun o ho => (sg_at ho (s_f_X7_refresh_8))))
theorem s_b_X7_refresh_6 {x1 : Int32} {I : xI} {J : xJ} : SG (Sum.elim (fun o => o.2.1) (fun o => o.2.1)) I (b_X7_refresh_6 x1 I J) := by
  unfold b_X7_refresh_6; exact (sg_ite (sg_map (sg_at sx_rf (s_f_X7_refresh_11))) (sg_at sx_rf (s_f_X7_refresh_7)))
theorem s_f_X7_refresh_6 {x1 : Int32} {I : xI} {J : xJ} : SG (fun o => o.2.1) I (f_X7_refresh_6 x1 I J) := by
  unfold f_X7_refresh_6; exact (sg_loop (gs := (fun o => o.2.1)) (fun s => s_b_X7_refresh_6) sx_rf)
theorem s_f_X7_refresh_5 {I : xI} {J : xJ} : SG (fun o => o.2.1) I (f_X7_refresh_5 I J) := by
  unfold f_X7_refresh_5; exact (sg_at (sx_up sx_rf rfl) (s_f_X7_refresh_6))
theorem s_f_X7_grow_9 {self : Int32 → Int32 → Int32 → xI → xJ → Option (Unit × xI × xJ)} {x1 : Int32} {x2 : Int32} {x3 : Int32} {x4 : Int32} {I : xI} {J : xJ} (hs : ∀ (a0 a1 a2 : Int32) (I : xI) (J : xJ), SG (fun o => o.2.1) I (self a0 a1 a2 I J)) : SG (fun o => o.2.1) I (f_X7_grow_9 self x1 x2 x3 x4 I J) := by
  unfold f_X7_grow_9; exact (sg_some sx_rf)
theorem s_f_X7_grow_8 {self : Int32 → Int32 → Int32 → xI → xJ → Option (Unit × xI × xJ)} {x1 : Int32} {x2 : Int32} {x3 : Int32} {x4 : Int32} {I : xI} {J : xJ} (hs : ∀ (a0 a1 a2 : Int32) (I : xI) (J : xJ), SG (fun o => o.2.1) I (self a0 a1 a2 I J)) : SG (Sum.elim (fun o => o.2.2.2.2.1) (fun o => o.2.1)) I (f_X7_grow_8 self x1 x2 x3 x4 I J) := by
  unfold f_X7_grow_8; exact (sg_some sx_rf)
theorem s_f_X7_grow_7 {self : Int32 → Int32 → Int32 → xI → xJ → Option (Unit × xI × xJ)} {x1 : Int32} {x2 : Int32} {x3 : Int32} {x4 : Int32} {I : xI} {J : xJ} (hs : ∀ (a0 a1 a2 : Int32) (I : xI) (J : xJ), SG (fun o => o.2.1) I (self a0 a1 a2 I J)) : SG (Sum.elim (fun o => o.2.2.2.2.1) (fun o => o.2.1)) I (f_X7_grow_7 self x1 x2 x3 x4 I J) := by
  unfold f_X7_grow_7; exact (sg_bind (sg_at sx_rf (hs _ _ _ _ _)) (fun o ho => (sg_at ho (s_f_X7_grow_8 hs))))
theorem s_b_X7_grow_6 {self : Int32 → Int32 → Int32 → xI → xJ → Option (Unit × xI × xJ)} {x1 : Int32} {x2 : Int32} {x3 : Int32} {x4 : Int32} {I : xI} {J : xJ} (hs : ∀ (a0 a1 a2 : Int32) (I : xI) (J : xJ), SG (fun o => o.2.1) I (self a0 a1 a2 I J)) : SG (Sum.elim (fun o => o.2.2.2.2.1) (fun o => o.2.1)) I (b_X7_grow_6 self x1 x2 x3 x4 I J) := by
  unfold b_X7_grow_6; exact (sg_ite (sg_map (sg_at sx_rf (s_f_X7_grow_9 hs))) (sg_at sx_rf (s_f_X7_grow_7 hs)))
theorem s_f_X7_grow_6 {self : Int32 → Int32 → Int32 → xI → xJ → Option (Unit × xI × xJ)} {x1 : Int32} {x2 : Int32} {x3 : Int32} {x4 : Int32} {I : xI} {J : xJ} (hs : ∀ (a0 a1 a2 : Int32) (I : xI) (J : xJ), SG (fun o => o.2.1) I (self a0 a1 a2 I J)) : SG (fun o => o.2.1) I (f_X7_grow_6 self x1 x2 x3 x4 I J) := by
  unfold f_X7_grow_6; exact (sg_loop (gs := (fun o => o.2.2.2.2.1)) (fun s => s_b_X7_grow_6 hs) sx_rf)
theorem s_f_X7_grow_5 {self : Int32 → Int32 → Int32 → xI → xJ → Option (Unit × xI × xJ)} {x1 : Int32} {x2 : Int32} {x3 : Int32} {I : xI} {J : xJ} (hs : ∀ (a0 a1 a2 : Int32) (I : xI) (J : xJ), SG (fun o => o.2.1) I (self a0 a1 a2 I J)) : SG (fun o => o.2.1) I (f_X7_grow_5 self x1 x2 x3 I J) := by
  unfold f_X7_grow_5; exact (sg_at sx_rf (s_f_X7_grow_6 hs))
theorem s_f_X7_grow_4 {self : Int32 → Int32 → Int32 → xI → xJ → Option (Unit × xI × xJ)} {x1 : Int32} {x2 : Int32} {x3 : Int32} {I : xI} {J : xJ} (hs : ∀ (a0 a1 a2 : Int32) (I : xI) (J : xJ), SG (fun o => o.2.1) I (self a0 a1 a2 I J)) : SG (fun o => o.2.1) I (f_X7_grow_4 self x1 x2 x3 I J) := by
  unfold f_X7_grow_4; exact (sg_some sx_rf)
theorem s_f_X7_joinsOf_11 {x1 : Int32} {x2 : Int32} {x3 : Int32} {z4 : Option Value} {I : xI} {J : xJ} : SG (fun o => o.2.1) I (f_X7_joinsOf_11 x1 x2 x3 z4 I J) := by
  unfold f_X7_joinsOf_11; exact (sg_some sx_rf)
theorem s_f_X7_joinsOf_10 {x1 : Int32} {x2 : Int32} {x3 : Int32} {x4 : Int32} {I : xI} {J : xJ} : SG (Sum.elim (fun o => o.2.2.2.2.1) (fun o => o.2.1)) I (f_X7_joinsOf_10 x1 x2 x3 x4 I J) := by
  unfold f_X7_joinsOf_10; exact (sg_some sx_rf)
theorem s_f_X7_blockOf_4 {x1 : Int32} {x2 : Int32} {x3 : Int32} {s0 : Int32} {I : xI} {J : xJ} : SG (fun o => o.2.1) I (f_X7_blockOf_4 x1 x2 x3 s0 I J) := by
  unfold f_X7_blockOf_4; exact (sg_some sx_rf)
theorem s_f_X7_blockOf_3 {x1 : Int32} {x2 : Int32} {x3 : Int32} {I : xI} {J : xJ} : SG (fun o => o.2.1) I (f_X7_blockOf_3 x1 x2 x3 I J) := by
  unfold f_X7_blockOf_3; exact (sg_at sx_rf (s_f_X7_blockOf_4))
theorem s_f_X7_blockOf_2 {x1 : Int32} {x2 : Int32} {x3 : Int32} {I : xI} {J : xJ} : SG (fun o => o.2.1) I (f_X7_blockOf_2 x1 x2 x3 I J) := by
  unfold f_X7_blockOf_2; exact (sg_ite sg_none (sg_ite sg_none (sg_ite sg_none (sg_at sx_rf (s_f_X7_blockOf_4)))))
theorem s_f_X7_blockOf_1 {x1 : Int32} {x2 : Int32} {x3 : Int32} {I : xI} {J : xJ} : SG (fun o => o.2.1) I (f_X7_blockOf_1 x1 x2 x3 I J) := by
  unfold f_X7_blockOf_1; exact (sg_ite (sg_at sx_rf (s_f_X7_blockOf_3)) (sg_at sx_rf (s_f_X7_blockOf_2)))
theorem s_f_X7_blockOf_0 {x1 : Int32} {x2 : Int32} {I : xI} {J : xJ} : SG (fun o => o.2.1) I (f_X7_blockOf_0 x1 x2 I J) := by
  unfold f_X7_blockOf_0; exact (sg_ite (sg_at sx_rf (s_f_X7_blockOf_3)) (sg_at sx_rf (s_f_X7_blockOf_1)))
theorem s_f_X7_blockOf {x1 : Int32} {x2 : Int32} {I : xI} {J : xJ} : SG (fun o => o.2.1) I (f_X7_blockOf x1 x2 I J) := by
  unfold f_X7_blockOf; exact (sg_at sx_rf (s_f_X7_blockOf_0))
theorem s_f_X7_joinsOf_9 {x1 : Int32} {x2 : Int32} {x3 : Int32} {x4 : Int32} {I : xI} {J : xJ} : SG (Sum.elim (fun o => o.2.2.2.2.1) (Sum.elim (fun o => o.2.2.2.2.1) (fun o => o.2.1))) I (f_X7_joinsOf_9 x1 x2 x3 x4 I J) := by
  unfold f_X7_joinsOf_9; exact (sg_some sx_rf)
theorem s_f_X7_joinsOf_8 {x1 : Int32} {x2 : Int32} {x3 : Int32} {x4 : Int32} {s0 : Int32} {s1 : Int32} {I : xI} {J : xJ} : SG (Sum.elim (fun o => o.2.2.2.2.1) (Sum.elim (fun o => o.2.2.2.2.1) (fun o => o.2.1))) I (f_X7_joinsOf_8 x1 x2 x3 x4 s0 s1 I J) := by
  unfold f_X7_joinsOf_8; exact (sg_at sx_rf (s_f_X7_joinsOf_9))
theorem s_f_X7_joinsOf_7 {x1 : Int32} {x2 : Int32} {x3 : Int32} {x4 : Int32} {I : xI} {J : xJ} : SG (Sum.elim (fun o => o.2.2.2.2.1) (Sum.elim (fun o => o.2.2.2.2.1) (fun o => o.2.1))) I (f_X7_joinsOf_7 x1 x2 x3 x4 I J) := by
  unfold f_X7_joinsOf_7; exact (sg_bind (sg_at sx_rf (s_f_X11_pairOf)) (fun o ho => (sg_at ho (s_f_X7_joinsOf_8))))
theorem s_f_X7_joinsOf_6 {x1 : Int32} {x2 : Int32} {x3 : Int32} {x4 : Int32} {s0 : Int32} {s1 : Int32} {I : xI} {J : xJ} : SG (Sum.elim (fun o => o.2.2.2.2.1) (Sum.elim (fun o => o.2.2.2.2.1) (fun o => o.2.1))) I (f_X7_joinsOf_6 x1 x2 x3 x4 s0 s1 I J) := by
  unfold f_X7_joinsOf_6; exact (sg_ite (sg_at sx_rf (s_f_X7_joinsOf_7)) (sg_at sx_rf (s_f_X7_joinsOf_9)))
theorem s_f_X7_joinsOf_5 {x1 : Int32} {x2 : Int32} {x3 : Int32} {x4 : Int32} {s0 : Int32} {I : xI} {J : xJ} : SG (Sum.elim (fun o => o.2.2.2.2.1) (Sum.elim (fun o => o.2.2.2.2.1) (fun o => o.2.1))) I (f_X7_joinsOf_5 x1 x2 x3 x4 s0 I J) := by
  unfold f_X7_joinsOf_5; exact (sg_bind (sg_at sx_rf (s_f_X7_blockOf)) (fun o ho => (sg_at ho (s_f_X7_joinsOf_6))))
theorem s_f_X7_joinsOf_4 {x1 : Int32} {x2 : Int32} {x3 : Int32} {x4 : Int32} {I : xI} {J : xJ} : SG (Sum.elim (fun o => o.2.2.2.2.1) (Sum.elim (fun o => o.2.2.2.2.1) (fun o => o.2.1))) I (f_X7_joinsOf_4 x1 x2 x3 x4 I J) := by
  unfold f_X7_joinsOf_4; exact (sg_bind (sg_at sx_rf (s_f_X7_blockOf)) (fun o ho => (sg_at ho (s_f_X7_joinsOf_5))))
theorem s_b_X7_joinsOf_3 {x1 : Int32} {x2 : Int32} {x3 : Int32} {x4 : Int32} {I : xI} {J : xJ} : SG (Sum.elim (fun o => o.2.2.2.2.1) (Sum.elim (fun o => o.2.2.2.2.1) (fun o => o.2.1))) I (b_X7_joinsOf_3 x1 x2 x3 x4 I J) := by
  unfold b_X7_joinsOf_3; exact (sg_ite (sg_map (sg_at sx_rf (s_f_X7_joinsOf_10))) (sg_at sx_rf (s_f_X7_joinsOf_4)))
theorem s_f_X7_joinsOf_3 {x1 : Int32} {x2 : Int32} {x3 : Int32} {x4 : Int32} {I : xI} {J : xJ} : SG (Sum.elim (fun o => o.2.2.2.2.1) (fun o => o.2.1)) I (f_X7_joinsOf_3 x1 x2 x3 x4 I J) := by
  unfold f_X7_joinsOf_3; exact (sg_loop (gs := (fun o => o.2.2.2.2.1)) (fun s => s_b_X7_joinsOf_3) sx_rf)
theorem s_f_X7_joinsOf_2 {x1 : Int32} {x2 : Int32} {x3 : Int32} {z4 : Option Value} {I : xI} {J : xJ} : SG (Sum.elim (fun o => o.2.2.2.2.1) (fun o => o.2.1)) I (f_X7_joinsOf_2 x1 x2 x3 z4 I J) := by
  unfold f_X7_joinsOf_2; exact (sg_at sx_rf (s_f_X7_joinsOf_3))
theorem s_b_X7_joinsOf_1 {x1 : Int32} {x2 : Int32} {x3 : Int32} {z4 : Option Value} {I : xI} {J : xJ} : SG (Sum.elim (fun o => o.2.2.2.2.1) (fun o => o.2.1)) I (b_X7_joinsOf_1 x1 x2 x3 z4 I J) := by
  unfold b_X7_joinsOf_1; exact (sg_ite (sg_map (sg_at sx_rf (s_f_X7_joinsOf_11))) (sg_at sx_rf (s_f_X7_joinsOf_2)))
theorem s_f_X7_joinsOf_1 {x1 : Int32} {x2 : Int32} {x3 : Int32} {z4 : Option Value} {I : xI} {J : xJ} : SG (fun o => o.2.1) I (f_X7_joinsOf_1 x1 x2 x3 z4 I J) := by
  unfold f_X7_joinsOf_1; exact (sg_loop (gs := (fun o => o.2.2.2.2.1)) (fun s => s_b_X7_joinsOf_1) sx_rf)
theorem s_f_X7_joinsOf_0 {x1 : Int32} {I : xI} {J : xJ} : SG (fun o => o.2.1) I (f_X7_joinsOf_0 x1 I J) := by
  unfold f_X7_joinsOf_0; exact (sg_at sx_rf (s_f_X7_joinsOf_1))
theorem s_f_X7_joinsOf {x1 : Int32} {I : xI} {J : xJ} : SG (fun o => o.2.1) I (f_X7_joinsOf x1 I J) := by
  unfold f_X7_joinsOf; exact (sg_at sx_rf (s_f_X7_joinsOf_0))
theorem s_f_X7_grow_3 {self : Int32 → Int32 → Int32 → xI → xJ → Option (Unit × xI × xJ)} {x1 : Int32} {x2 : Int32} {x3 : Int32} {s1 : Int32} {s2 : Int32} {I : xI} {J : xJ} (hs : ∀ (a0 a1 a2 : Int32) (I : xI) (J : xJ), SG (fun o => o.2.1) I (self a0 a1 a2 I J)) : SG (fun o => o.2.1) I (f_X7_grow_3 self x1 x2 x3 s1 s2 I J) := by
  unfold f_X7_grow_3; exact (sg_ite sg_none (sg_at (sx_up (sx_upc sx_rf rfl) rfl) (s_f_X7_grow_4 hs)))
theorem s_f_X7_grow_2 {self : Int32 → Int32 → Int32 → xI → xJ → Option (Unit × xI × xJ)} {x1 : Int32} {x2 : Int32} {x3 : Int32} {I : xI} {J : xJ} (hs : ∀ (a0 a1 a2 : Int32) (I : xI) (J : xJ), SG (fun o => o.2.1) I (self a0 a1 a2 I J)) : SG (fun o => o.2.1) I (f_X7_grow_2 self x1 x2 x3 I J) := by
  unfold f_X7_grow_2; exact (sg_ite sg_none (sg_ite sg_none (sg_bind (sg_at (sx_upc (sx_upc sx_rf rfl) rfl) (s_f_X7_joinsOf)) (fun o ho => (sg_at ho (s_f_X7_grow_3 hs))))))
theorem s_f_X7_grow_1 {self : Int32 → Int32 → Int32 → xI → xJ → Option (Unit × xI × xJ)} {x1 : Int32} {x2 : Int32} {x3 : Int32} {I : xI} {J : xJ} (hs : ∀ (a0 a1 a2 : Int32) (I : xI) (J : xJ), SG (fun o => o.2.1) I (self a0 a1 a2 I J)) : SG (fun o => o.2.1) I (f_X7_grow_1 self x1 x2 x3 I J) := by
  unfold f_X7_grow_1; exact (sg_ite (sg_at sx_rf (s_f_X7_grow_4 hs)) (sg_at sx_rf (s_f_X7_grow_2 hs)))
theorem s_f_X7_grow_0 {self : Int32 → Int32 → Int32 → xI → xJ → Option (Unit × xI × xJ)} {x1 : Int32} {x2 : Int32} {x3 : Int32} {I : xI} {J : xJ} (hs : ∀ (a0 a1 a2 : Int32) (I : xI) (J : xJ), SG (fun o => o.2.1) I (self a0 a1 a2 I J)) : SG (fun o => o.2.1) I (f_X7_grow_0 self x1 x2 x3 I J) := by
  unfold f_X7_grow_0; exact (sg_ite (sg_at sx_rf (s_f_X7_grow_5 hs)) (sg_at sx_rf (s_f_X7_grow_1 hs)))
theorem s_f_X7_grow : ∀ (r : Nat) {x0 x1 x2 : Int32} {I : xI} {J : xJ}, SG (fun o => o.2.1) I (f_X7_grow r x0 x1 x2 I J) := by
  intro r
  induction r with
  | zero => intros; exact sg_none
  | succ r ih => intros; exact s_f_X7_grow_0 (fun _ _ _ _ _ => ih)
theorem s_f_X7_refresh_4 {I : xI} {J : xJ} : SG (fun o => o.2.1) I (f_X7_refresh_4 I J) := by
  unfold f_X7_refresh_4; exact (sg_bind (sg_at sx_rf (s_f_X7_grow _)) (fun o ho => (sg_at ho (s_f_X7_refresh_5))))
theorem s_f_X7_refresh_3 {I : xI} {J : xJ} : SG (fun o => o.2.1) I (f_X7_refresh_3 I J) := by
  unfold f_X7_refresh_3; exact (sg_ite (sg_at (sx_up (sx_up sx_rf rfl) rfl) (s_f_X7_refresh_5)) (sg_at (sx_up (sx_up sx_rf rfl) rfl) (s_f_X7_refresh_4)))
theorem s_f_X7_refresh_2 {I : xI} {J : xJ} : SG (fun o => o.2.1) I (f_X7_refresh_2 I J) := by
  unfold f_X7_refresh_2; exact (sg_ite (sg_at (sx_age sx_rf (by decide)) (s_f_X7_refresh_5)) (sg_at (sx_age sx_rf (by decide)) (s_f_X7_refresh_3)))
theorem s_f_X7_refresh_0 {I : xI} {J : xJ} : SG (fun o => o.2.1) I (f_X7_refresh_0 I J) := by
  unfold f_X7_refresh_0; exact (sg_ite (sg_at sx_rf (s_f_X7_refresh_1)) (sg_at sx_rf (s_f_X7_refresh_2)))
theorem s_f_X7_refresh {I : xI} {J : xJ} : SG (fun o => o.2.1) I (f_X7_refresh I J) := by
  unfold f_X7_refresh; exact (sg_at sx_rf (s_f_X7_refresh_0))
theorem s_f_X11_partitionsNow_2 {I : xI} {J : xJ} : SG (fun o => o.2.1) I (f_X11_partitionsNow_2 I J) := by
  unfold f_X11_partitionsNow_2; exact (sg_some sx_rf)
theorem s_f_X11_partitionsNow_1 {I : xI} {J : xJ} : SG (fun o => o.2.1) I (f_X11_partitionsNow_1 I J) := by
  unfold f_X11_partitionsNow_1; exact (sg_bind (sg_at sx_rf (s_f_X7_refresh)) (fun o ho => (sg_at ho (s_f_X11_partitionsNow_2))))
theorem s_f_X11_partitionsNow_0 {I : xI} {J : xJ} : SG (fun o => o.2.1) I (f_X11_partitionsNow_0 I J) := by
  unfold f_X11_partitionsNow_0; exact (sg_bind (sg_at sx_rf (s_f_X6_refresh)) (fun o ho => (sg_at ho (s_f_X11_partitionsNow_1))))
theorem s_f_X11_partitionsNow {I : xI} {J : xJ} : SG (fun o => o.2.1) I (f_X11_partitionsNow I J) := by
  unfold f_X11_partitionsNow; exact (sg_at sx_rf (s_f_X11_partitionsNow_0))
theorem s_f_X7_indexOf_5 {x1 : Int32} {x2 : Int32} {I : xI} {J : xJ} : SG (fun o => o.2.1) I (f_X7_indexOf_5 x1 x2 I J) := by
  unfold f_X7_indexOf_5; exact (sg_some sx_rf)
theorem s_f_X7_indexOf_3 {x1 : Int32} {x2 : Int32} {I : xI} {J : xJ} : SG (fun o => o.2.1) I (f_X7_indexOf_3 x1 x2 I J) := by
  unfold f_X7_indexOf_3; exact (sg_some sx_rf)
theorem s_f_X7_indexOf_4 {x1 : Int32} {x2 : Int32} {I : xI} {J : xJ} : SG (Sum.elim (fun o => o.2.2.1) (fun o => o.2.1)) I (f_X7_indexOf_4 x1 x2 I J) := by
  unfold f_X7_indexOf_4; exact (sg_some sx_rf)
theorem s_f_X7_indexOf_2 {x1 : Int32} {x2 : Int32} {I : xI} {J : xJ} : SG (Sum.elim (fun o => o.2.2.1) (fun o => o.2.1)) I (f_X7_indexOf_2 x1 x2 I J) := by
  unfold f_X7_indexOf_2; exact (sg_ite sg_none (sg_ite (sg_map (sg_at sx_rf (s_f_X7_indexOf_3))) (sg_at sx_rf (s_f_X7_indexOf_4))))
theorem s_b_X7_indexOf_1 {x1 : Int32} {x2 : Int32} {I : xI} {J : xJ} : SG (Sum.elim (fun o => o.2.2.1) (fun o => o.2.1)) I (b_X7_indexOf_1 x1 x2 I J) := by
  unfold b_X7_indexOf_1; exact (sg_ite (sg_map (sg_at sx_rf (s_f_X7_indexOf_5))) (sg_at sx_rf (s_f_X7_indexOf_2)))
theorem s_f_X7_indexOf_1 {x1 : Int32} {x2 : Int32} {I : xI} {J : xJ} : SG (fun o => o.2.1) I (f_X7_indexOf_1 x1 x2 I J) := by
  unfold f_X7_indexOf_1; exact (sg_loop (gs := (fun o => o.2.2.1)) (fun s => s_b_X7_indexOf_1) sx_rf)
theorem s_f_X7_indexOf_0 {x1 : Int32} {I : xI} {J : xJ} : SG (fun o => o.2.1) I (f_X7_indexOf_0 x1 I J) := by
  unfold f_X7_indexOf_0; exact (sg_at sx_rf (s_f_X7_indexOf_1))
theorem s_f_X7_indexOf {x1 : Int32} {I : xI} {J : xJ} : SG (fun o => o.2.1) I (f_X7_indexOf x1 I J) := by
  unfold f_X7_indexOf; exact (sg_at sx_rf (s_f_X7_indexOf_0))
theorem s_f_X11_goesOn_3 {x1 : Int32} {x2 : Int32} {I : xI} {J : xJ} : SG (fun o => o.2.1) I (f_X11_goesOn_3 x1 x2 I J) := by
  unfold f_X11_goesOn_3; exact (sg_some sx_rf)
theorem s_f_X11_goesOn_8 {x1 : Int32} {x2 : Int32} {s0 : Int32} {I : xI} {J : xJ} : SG (fun o => o.2.1) I (f_X11_goesOn_8 x1 x2 s0 I J) := by
  unfold f_X11_goesOn_8; exact (sg_some sx_rf)
theorem s_f_X11_goesOn_7 {x1 : Int32} {x2 : Int32} {I : xI} {J : xJ} : SG (fun o => o.2.1) I (f_X11_goesOn_7 x1 x2 I J) := by
  unfold f_X11_goesOn_7; exact (sg_at sx_rf (s_f_X11_goesOn_8))
theorem s_f_X11_goesOn_6 {x1 : Int32} {x2 : Int32} {I : xI} {J : xJ} : SG (fun o => o.2.1) I (f_X11_goesOn_6 x1 x2 I J) := by
  unfold f_X11_goesOn_6; exact (sg_at sx_rf (s_f_X11_goesOn_8))
theorem s_f_X11_goesOn_5 {x1 : Int32} {x2 : Int32} {s0 : Int32} {I : xI} {J : xJ} : SG (fun o => o.2.1) I (f_X11_goesOn_5 x1 x2 s0 I J) := by
  unfold f_X11_goesOn_5; exact (sg_ite (sg_at sx_rf (s_f_X11_goesOn_7)) (sg_at sx_rf (s_f_X11_goesOn_6)))
theorem s_f_X11_goesOn_4 {x1 : Int32} {x2 : Int32} {I : xI} {J : xJ} : SG (fun o => o.2.1) I (f_X11_goesOn_4 x1 x2 I J) := by
  unfold f_X11_goesOn_4; exact (sg_bind (sg_at sx_rf (s_f_X7_stays)) (fun o ho => (sg_at ho (s_f_X11_goesOn_5))))
theorem s_f_X11_goesOn_2 {x1 : Int32} {s0 : Int32} {I : xI} {J : xJ} : SG (fun o => o.2.1) I (f_X11_goesOn_2 x1 s0 I J) := by
  unfold f_X11_goesOn_2; exact (sg_ite (sg_at sx_rf (s_f_X11_goesOn_3)) (sg_at sx_rf (s_f_X11_goesOn_4)))
theorem s_f_X11_goesOn_1 {x1 : Int32} {I : xI} {J : xJ} : SG (fun o => o.2.1) I (f_X11_goesOn_1 x1 I J) := by
  unfold f_X11_goesOn_1; exact (sg_bind (sg_at sx_rf (s_f_X7_indexOf)) (fun o ho => (sg_at ho (s_f_X11_goesOn_2))))
theorem s_f_X11_goesOn_0 {x1 : Int32} {I : xI} {J : xJ} : SG (fun o => o.2.1) I (f_X11_goesOn_0 x1 I J) := by
  unfold f_X11_goesOn_0; exact (sg_bind (sg_at sx_rf (s_f_X11_partitionsNow)) (fun o ho => (sg_at ho (s_f_X11_goesOn_1))))
theorem s_f_X11_goesOn {x1 : Int32} {I : xI} {J : xJ} : SG (fun o => o.2.1) I (f_X11_goesOn x1 I J) := by
  unfold f_X11_goesOn; exact (sg_at sx_rf (s_f_X11_goesOn_0))
theorem s_f_X11_together_8 {x1 : Int32} {x2 : Int32} {s0 : Int32} {I : xI} {J : xJ} : SG (fun o => o.2.1) I (f_X11_together_8 x1 x2 s0 I J) := by
  unfold f_X11_together_8; exact (sg_some sx_rf)
theorem s_f_X11_together_7 {x1 : Int32} {x2 : Int32} {I : xI} {J : xJ} : SG (fun o => o.2.1) I (f_X11_together_7 x1 x2 I J) := by
  unfold f_X11_together_7; exact (sg_at sx_rf (s_f_X11_together_8))
theorem s_f_X7_joined_11 {x1 : Int32} {x2 : Int32} {x3 : Int32} {x4 : Int32} {x5 : Int32} {z6 : Option Value} {s0 : Int32} {I : xI} {J : xJ} : SG (fun o => o.2.1) I (f_X7_joined_11 x1 x2 x3 x4 x5 z6 s0 I J) := by
  unfold f_X7_joined_11; exact (sg_some sx_rf)
theorem s_f_X7_joined_9 {x1 : Int32} {x2 : Int32} {x3 : Int32} {x4 : Int32} {x5 : Int32} {z6 : Option Value} {I : xI} {J : xJ} : SG (fun o => o.2.1) I (f_X7_joined_9 x1 x2 x3 x4 x5 z6 I J) := by
  unfold f_X7_joined_9; exact (sg_at sx_rf (s_f_X7_joined_11))
theorem s_f_X7_joined_10 {x1 : Int32} {x2 : Int32} {x3 : Int32} {x4 : Int32} {x5 : Int32} {z6 : Option Value} {I : xI} {J : xJ} : SG (fun o => o.2.1) I (f_X7_joined_10 x1 x2 x3 x4 x5 z6 I J) := by
  unfold f_X7_joined_10; exact (sg_ite sg_none (sg_at sx_rf (s_f_X7_joined_11)))
theorem s_f_X7_joined_8 {x1 : Int32} {x2 : Int32} {x3 : Int32} {x4 : Int32} {x5 : Int32} {z6 : Option Value} {I : xI} {J : xJ} : SG (fun o => o.2.1) I (f_X7_joined_8 x1 x2 x3 x4 x5 z6 I J) := by
  unfold f_X7_joined_8; exact (sg_ite (sg_at sx_rf (s_f_X7_joined_9)) (sg_at sx_rf (s_f_X7_joined_10)))
theorem s_f_X7_joined_7 {x1 : Int32} {x2 : Int32} {x3 : Int32} {x4 : Int32} {x5 : Int32} {x6 : Int32} {I : xI} {J : xJ} : SG (Sum.elim (fun o => o.2.2.2.2.2.2.1) (fun o => o.2.1)) I (f_X7_joined_7 x1 x2 x3 x4 x5 x6 I J) := by
  unfold f_X7_joined_7; exact (sg_some sx_rf)
theorem s_f_X7_joined_6 {x1 : Int32} {x2 : Int32} {x3 : Int32} {x4 : Int32} {x5 : Int32} {x6 : Int32} {I : xI} {J : xJ} : SG (Sum.elim (fun o => o.2.2.2.2.2.2.1) (fun o => o.2.1)) I (f_X7_joined_6 x1 x2 x3 x4 x5 x6 I J) := by
  unfold f_X7_joined_6; exact (sg_at sx_rf (s_f_X7_joined_7))
theorem s_f_X7_joined_5 {x1 : Int32} {x2 : Int32} {x3 : Int32} {x4 : Int32} {x5 : Int32} {x6 : Int32} {I : xI} {J : xJ} : SG (Sum.elim (fun o => o.2.2.2.2.2.2.1) (fun o => o.2.1)) I (f_X7_joined_5 x1 x2 x3 x4 x5 x6 I J) := by
  unfold f_X7_joined_5; exact (sg_ite sg_none (sg_ite sg_none (sg_ite (sg_at sx_rf (s_f_X7_joined_7)) (sg_at sx_rf (s_f_X7_joined_6)))))
theorem s_f_X7_joined_4 {x1 : Int32} {x2 : Int32} {x3 : Int32} {x4 : Int32} {x5 : Int32} {x6 : Int32} {I : xI} {J : xJ} : SG (Sum.elim (fun o => o.2.2.2.2.2.2.1) (fun o => o.2.1)) I (f_X7_joined_4 x1 x2 x3 x4 x5 x6 I J) := by
  unfold f_X7_joined_4; exact (sg_ite (sg_at sx_rf (s_f_X7_joined_6)) (sg_at sx_rf (s_f_X7_joined_5)))
theorem s_f_X7_joined_3 {x1 : Int32} {x2 : Int32} {x3 : Int32} {x4 : Int32} {x5 : Int32} {z6 : Option Value} {I : xI} {J : xJ} : SG (Sum.elim (fun o => o.2.2.2.2.2.2.1) (fun o => o.2.1)) I (f_X7_joined_3 x1 x2 x3 x4 x5 z6 I J) := by
  unfold f_X7_joined_3; exact (sg_ite sg_none (sg_ite sg_none (sg_ite (sg_at sx_rf (s_f_X7_joined_4)) (sg_at sx_rf (s_f_X7_joined_7)))))
theorem s_b_X7_joined_2 {x1 : Int32} {x2 : Int32} {x3 : Int32} {x4 : Int32} {x5 : Int32} {z6 : Option Value} {I : xI} {J : xJ} : SG (Sum.elim (fun o => o.2.2.2.2.2.2.1) (fun o => o.2.1)) I (b_X7_joined_2 x1 x2 x3 x4 x5 z6 I J) := by
  unfold b_X7_joined_2; exact (sg_ite (sg_map (sg_at sx_rf (s_f_X7_joined_8))) (sg_at sx_rf (s_f_X7_joined_3)))
theorem s_f_X7_joined_2 {x1 : Int32} {x2 : Int32} {x3 : Int32} {x4 : Int32} {x5 : Int32} {z6 : Option Value} {I : xI} {J : xJ} : SG (fun o => o.2.1) I (f_X7_joined_2 x1 x2 x3 x4 x5 z6 I J) := by
  unfold f_X7_joined_2; exact (sg_loop (gs := (fun o => o.2.2.2.2.2.2.1)) (fun s => s_b_X7_joined_2) sx_rf)
theorem s_f_X7_joined_1 {x1 : Int32} {x2 : Int32} {s0 : Int32} {I : xI} {J : xJ} : SG (fun o => o.2.1) I (f_X7_joined_1 x1 x2 s0 I J) := by
  unfold f_X7_joined_1; exact (sg_at sx_rf (s_f_X7_joined_2))
theorem s_f_X7_joined_0 {x1 : Int32} {x2 : Int32} {I : xI} {J : xJ} : SG (fun o => o.2.1) I (f_X7_joined_0 x1 x2 I J) := by
  unfold f_X7_joined_0; exact (sg_bind (sg_at sx_rf (s_f_X11_pairOf)) (fun o ho => (sg_at ho (s_f_X7_joined_1))))
theorem s_f_X7_joined {x1 : Int32} {x2 : Int32} {I : xI} {J : xJ} : SG (fun o => o.2.1) I (f_X7_joined x1 x2 I J) := by
  unfold f_X7_joined; exact (sg_at sx_rf (s_f_X7_joined_0))
theorem s_f_X11_together_6 {x1 : Int32} {x2 : Int32} {s0 : Int32} {I : xI} {J : xJ} : SG (fun o => o.2.1) I (f_X11_together_6 x1 x2 s0 I J) := by
  unfold f_X11_together_6; exact (sg_at sx_rf (s_f_X11_together_8))
theorem s_f_X11_together_5 {x1 : Int32} {x2 : Int32} {I : xI} {J : xJ} : SG (fun o => o.2.1) I (f_X11_together_5 x1 x2 I J) := by
  unfold f_X11_together_5; exact (sg_bind (sg_at sx_rf (s_f_X7_joined)) (fun o ho => (sg_at ho (s_f_X11_together_6))))
theorem s_f_X11_together_4 {x1 : Int32} {x2 : Int32} {I : xI} {J : xJ} : SG (fun o => o.2.1) I (f_X11_together_4 x1 x2 I J) := by
  unfold f_X11_together_4; exact (sg_bind (sg_at sx_rf (s_f_X11_partitionsNow)) (fun o ho => (sg_at ho (s_f_X11_together_5))))
theorem s_f_X11_together_3 {x1 : Int32} {x2 : Int32} {s0 : Int32} {I : xI} {J : xJ} : SG (fun o => o.2.1) I (f_X11_together_3 x1 x2 s0 I J) := by
  unfold f_X11_together_3; exact (sg_ite (sg_at sx_rf (s_f_X11_together_7)) (sg_at sx_rf (s_f_X11_together_4)))
theorem s_f_X11_together_2 {x1 : Int32} {x2 : Int32} {I : xI} {J : xJ} : SG (fun o => o.2.1) I (f_X11_together_2 x1 x2 I J) := by
  unfold f_X11_together_2; exact (sg_bind (sg_at sx_rf (s_f_X5_hasState)) (fun o ho => (sg_at ho (s_f_X11_together_3))))
theorem s_f_X11_together_1 {x1 : Int32} {x2 : Int32} {s0 : Int32} {I : xI} {J : xJ} : SG (fun o => o.2.1) I (f_X11_together_1 x1 x2 s0 I J) := by
  unfold f_X11_together_1; exact (sg_ite (sg_at sx_rf (s_f_X11_together_7)) (sg_at sx_rf (s_f_X11_together_2)))
theorem s_f_X11_together_0 {x1 : Int32} {x2 : Int32} {I : xI} {J : xJ} : SG (fun o => o.2.1) I (f_X11_together_0 x1 x2 I J) := by
  unfold f_X11_together_0; exact (sg_bind (sg_at sx_rf (s_f_X5_hasState)) (fun o ho => (sg_at ho (s_f_X11_together_1))))
theorem s_f_X11_together {x1 : Int32} {x2 : Int32} {I : xI} {J : xJ} : SG (fun o => o.2.1) I (f_X11_together x1 x2 I J) := by
  unfold f_X11_together; exact (sg_at sx_rf (s_f_X11_together_0))
theorem s_f_X11_partition_2 {x1 : Int32} {x2 : Int32} {I : xI} {J : xJ} : SG (fun o => o.2.1) I (f_X11_partition_2 x1 x2 I J) := by
  unfold f_X11_partition_2; exact (sg_some sx_rf)
theorem s_f_X11_partition_7 {x1 : Int32} {x2 : Int32} {s0 : Int32} {I : xI} {J : xJ} : SG (fun o => o.2.1) I (f_X11_partition_7 x1 x2 s0 I J) := by
  unfold f_X11_partition_7; exact (sg_some sx_rf)
theorem s_f_X11_partition_6 {x1 : Int32} {x2 : Int32} {I : xI} {J : xJ} : SG (fun o => o.2.1) I (f_X11_partition_6 x1 x2 I J) := by
  unfold f_X11_partition_6; exact (sg_at sx_rf (s_f_X11_partition_7))
theorem s_f_X11_partition_5 {x1 : Int32} {x2 : Int32} {I : xI} {J : xJ} : SG (fun o => o.2.1) I (f_X11_partition_5 x1 x2 I J) := by
  unfold f_X11_partition_5; exact (sg_ite sg_none (sg_ite sg_none (sg_at sx_rf (s_f_X11_partition_7))))
theorem s_f_X11_partition_4 {x1 : Int32} {x2 : Int32} {I : xI} {J : xJ} : SG (fun o => o.2.1) I (f_X11_partition_4 x1 x2 I J) := by
  unfold f_X11_partition_4; exact (sg_ite (sg_at sx_rf (s_f_X11_partition_6)) (sg_at sx_rf (s_f_X11_partition_5)))
theorem s_f_X11_partition_3 {x1 : Int32} {x2 : Int32} {I : xI} {J : xJ} : SG (fun o => o.2.1) I (f_X11_partition_3 x1 x2 I J) := by
  unfold f_X11_partition_3; exact (sg_ite (sg_at sx_rf (s_f_X11_partition_6)) (sg_at sx_rf (s_f_X11_partition_4)))
theorem s_f_X11_partition_1 {x1 : Int32} {I : xI} {J : xJ} : SG (fun o => o.2.1) I (f_X11_partition_1 x1 I J) := by
  unfold f_X11_partition_1; exact (sg_ite (sg_at sx_rf (s_f_X11_partition_2)) (sg_at sx_rf (s_f_X11_partition_3)))
theorem s_f_X11_partition_0 {x1 : Int32} {I : xI} {J : xJ} : SG (fun o => o.2.1) I (f_X11_partition_0 x1 I J) := by
  unfold f_X11_partition_0; exact (sg_bind (sg_at sx_rf (s_f_X11_partitionsNow)) (fun o ho => (sg_at ho (s_f_X11_partition_1))))
theorem s_f_X11_partition {x1 : Int32} {I : xI} {J : xJ} : SG (fun o => o.2.1) I (f_X11_partition x1 I J) := by
  unfold f_X11_partition; exact (sg_at sx_rf (s_f_X11_partition_0))
theorem s_f_X11_into_5 {x1 : Int32} {x2 : Int32} {s0 : Int32} {I : xI} {J : xJ} : SG (fun o => o.2.1) I (f_X11_into_5 x1 x2 s0 I J) := by
  unfold f_X11_into_5; exact (sg_some sx_rf)
theorem s_f_X11_into_3 {x1 : Int32} {x2 : Int32} {I : xI} {J : xJ} : SG (fun o => o.2.1) I (f_X11_into_3 x1 x2 I J) := by
  unfold f_X11_into_3; exact (sg_at sx_rf (s_f_X11_into_5))
theorem s_f_X7_intoOf_11 {x1 : Int32} {x2 : Int32} {x3 : Int32} {x4 : Int32} {s0 : Int32} {I : xI} {J : xJ} : SG (fun o => o.2.1) I (f_X7_intoOf_11 x1 x2 x3 x4 s0 I J) := by
  unfold f_X7_intoOf_11; exact (sg_some sx_rf)
theorem s_f_X7_intoOf_9 {x1 : Int32} {x2 : Int32} {x3 : Int32} {x4 : Int32} {I : xI} {J : xJ} : SG (fun o => o.2.1) I (f_X7_intoOf_9 x1 x2 x3 x4 I J) := by
  unfold f_X7_intoOf_9; exact (sg_at sx_rf (s_f_X7_intoOf_11))
theorem s_f_X7_intoOf_10 {x1 : Int32} {x2 : Int32} {x3 : Int32} {x4 : Int32} {I : xI} {J : xJ} : SG (fun o => o.2.1) I (f_X7_intoOf_10 x1 x2 x3 x4 I J) := by
  unfold f_X7_intoOf_10; exact (sg_ite sg_none (sg_at sx_rf (s_f_X7_intoOf_11)))
theorem s_f_X7_intoOf_8 {x1 : Int32} {x2 : Int32} {x3 : Int32} {x4 : Int32} {I : xI} {J : xJ} : SG (fun o => o.2.1) I (f_X7_intoOf_8 x1 x2 x3 x4 I J) := by
  unfold f_X7_intoOf_8; exact (sg_ite (sg_at sx_rf (s_f_X7_intoOf_9)) (sg_at sx_rf (s_f_X7_intoOf_10)))
theorem s_f_X7_intoOf_7 {x1 : Int32} {x2 : Int32} {x3 : Int32} {x4 : Int32} {I : xI} {J : xJ} : SG (Sum.elim (fun o => o.2.2.2.2.1) (fun o => o.2.1)) I (f_X7_intoOf_7 x1 x2 x3 x4 I J) := by
  unfold f_X7_intoOf_7; exact (sg_some sx_rf)
theorem s_f_X7_intoOf_6 {x1 : Int32} {x2 : Int32} {x3 : Int32} {x4 : Int32} {I : xI} {J : xJ} : SG (Sum.elim (fun o => o.2.2.2.2.1) (fun o => o.2.1)) I (f_X7_intoOf_6 x1 x2 x3 x4 I J) := by
  unfold f_X7_intoOf_6; exact (sg_at sx_rf (s_f_X7_intoOf_7))
theorem s_f_X7_intoOf_5 {x1 : Int32} {x2 : Int32} {x3 : Int32} {x4 : Int32} {I : xI} {J : xJ} : SG (Sum.elim (fun o => o.2.2.2.2.1) (fun o => o.2.1)) I (f_X7_intoOf_5 x1 x2 x3 x4 I J) := by
  unfold f_X7_intoOf_5; exact (sg_ite sg_none (sg_ite sg_none (sg_ite (sg_at sx_rf (s_f_X7_intoOf_7)) (sg_at sx_rf (s_f_X7_intoOf_6)))))
theorem s_f_X7_intoOf_4 {x1 : Int32} {x2 : Int32} {x3 : Int32} {x4 : Int32} {I : xI} {J : xJ} : SG (Sum.elim (fun o => o.2.2.2.2.1) (fun o => o.2.1)) I (f_X7_intoOf_4 x1 x2 x3 x4 I J) := by
  unfold f_X7_intoOf_4; exact (sg_ite (sg_at sx_rf (s_f_X7_intoOf_6)) (sg_at sx_rf (s_f_X7_intoOf_5)))
theorem s_f_X7_intoOf_3 {x1 : Int32} {x2 : Int32} {x3 : Int32} {x4 : Int32} {I : xI} {J : xJ} : SG (Sum.elim (fun o => o.2.2.2.2.1) (fun o => o.2.1)) I (f_X7_intoOf_3 x1 x2 x3 x4 I J) := by
  unfold f_X7_intoOf_3; exact (sg_ite sg_none (sg_ite (sg_at sx_rf (s_f_X7_intoOf_4)) (sg_at sx_rf (s_f_X7_intoOf_7))))
theorem s_b_X7_intoOf_2 {x1 : Int32} {x2 : Int32} {x3 : Int32} {x4 : Int32} {I : xI} {J : xJ} : SG (Sum.elim (fun o => o.2.2.2.2.1) (fun o => o.2.1)) I (b_X7_intoOf_2 x1 x2 x3 x4 I J) := by
  unfold b_X7_intoOf_2; exact (sg_ite (sg_map (sg_at sx_rf (s_f_X7_intoOf_8))) (sg_at sx_rf (s_f_X7_intoOf_3)))
theorem s_f_X7_intoOf_2 {x1 : Int32} {x2 : Int32} {x3 : Int32} {x4 : Int32} {I : xI} {J : xJ} : SG (fun o => o.2.1) I (f_X7_intoOf_2 x1 x2 x3 x4 I J) := by
  unfold f_X7_intoOf_2; exact (sg_loop (gs := (fun o => o.2.2.2.2.1)) (fun s => s_b_X7_intoOf_2) sx_rf)
theorem s_f_X7_intoOf_1 {x1 : Int32} {s0 : Int32} {I : xI} {J : xJ} : SG (fun o => o.2.1) I (f_X7_intoOf_1 x1 s0 I J) := by
  unfold f_X7_intoOf_1; exact (sg_at sx_rf (s_f_X7_intoOf_2))
theorem s_f_X7_intoOf_0 {x1 : Int32} {I : xI} {J : xJ} : SG (fun o => o.2.1) I (f_X7_intoOf_0 x1 I J) := by
  unfold f_X7_intoOf_0; exact (sg_ite sg_none (sg_bind (sg_at sx_rf (s_f_X6_followed)) (fun o ho => (sg_at ho (s_f_X7_intoOf_1)))))
theorem s_f_X7_intoOf {x1 : Int32} {I : xI} {J : xJ} : SG (fun o => o.2.1) I (f_X7_intoOf x1 I J) := by
  unfold f_X7_intoOf; exact (sg_at sx_rf (s_f_X7_intoOf_0))
theorem s_f_X11_into_4 {x1 : Int32} {x2 : Int32} {I : xI} {J : xJ} : SG (fun o => o.2.1) I (f_X11_into_4 x1 x2 I J) := by
  unfold f_X11_into_4; exact (sg_bind (sg_at sx_rf (s_f_X7_intoOf)) (fun o ho => (sg_at ho (s_f_X11_into_5))))
theorem s_f_X11_into_2 {x1 : Int32} {s0 : Int32} {I : xI} {J : xJ} : SG (fun o => o.2.1) I (f_X11_into_2 x1 s0 I J) := by
  unfold f_X11_into_2; exact (sg_ite (sg_at sx_rf (s_f_X11_into_3)) (sg_at sx_rf (s_f_X11_into_4)))
theorem s_f_X11_into_1 {x1 : Int32} {I : xI} {J : xJ} : SG (fun o => o.2.1) I (f_X11_into_1 x1 I J) := by
  unfold f_X11_into_1; exact (sg_bind (sg_at sx_rf (s_f_X7_indexOf)) (fun o ho => (sg_at ho (s_f_X11_into_2))))
theorem s_f_X11_into_0 {x1 : Int32} {I : xI} {J : xJ} : SG (fun o => o.2.1) I (f_X11_into_0 x1 I J) := by
  unfold f_X11_into_0; exact (sg_bind (sg_at sx_rf (s_f_X11_partitionsNow)) (fun o ho => (sg_at ho (s_f_X11_into_1))))
theorem s_f_X11_into {x1 : Int32} {I : xI} {J : xJ} : SG (fun o => o.2.1) I (f_X11_into x1 I J) := by
  unfold f_X11_into; exact (sg_at sx_rf (s_f_X11_into_0))
theorem s_f_X11_split_2 {x1 : Int32} {I : xI} {J : xJ} : SG (fun o => o.2.1) I (f_X11_split_2 x1 I J) := by
  unfold f_X11_split_2; exact (sg_some sx_rf)
theorem s_f_X7_refreshSplit_1 {I : xI} {J : xJ} : SG (fun o => o.2.1) I (f_X7_refreshSplit_1 I J) := by
  unfold f_X7_refreshSplit_1; exact (sg_some sx_rf)
theorem s_f_X7_refreshSplit_9 {x1 : Int32} {z2 : Option Value} {I : xI} {J : xJ} : SG (fun o => o.2.1) I (f_X7_refreshSplit_9 x1 z2 I J) := by
  unfold f_X7_refreshSplit_9; exact (sg_some sx_rf)
theorem s_f_X7_refreshSplit_8 {x1 : Int32} {x2 : Int32} {I : xI} {J : xJ} : SG (Sum.elim (fun o => o.2.2.1) (fun o => o.2.1)) I (f_X7_refreshSplit_8 x1 x2 I J) := by
  unfold f_X7_refreshSplit_8; exact (sg_some sx_rf)
theorem s_f_X7_trySplit_9 {x1 : Int32} {x2 : Int32} {x3 : Int32} {x4 : Int32} {I : xI} {J : xJ} : SG (fun o => o.2.1) I (f_X7_trySplit_9 x1 x2 x3 x4 I J) := by
  unfold f_X7_trySplit_9; exact (sg_some sx_rf)
theorem s_f_X7_trySplit_8 {x1 : Int32} {x2 : Int32} {x3 : Int32} {x4 : Int32} {I : xI} {J : xJ} : SG (fun o => o.2.1) I (f_X7_trySplit_8 x1 x2 x3 x4 I J) := by
  unfold f_X7_trySplit_8; exact (sg_ite sg_none (sg_ite sg_none (sg_at (sx_up (sx_up (sx_up sx_rf rfl) rfl) rfl) (s_f_X7_trySplit_9))))
theorem s_f_X7_trySplit_7 {x1 : Int32} {x2 : Int32} {x3 : Int32} {x4 : Int32} {I : xI} {J : xJ} : SG (fun o => o.2.1) I (f_X7_trySplit_7 x1 x2 x3 x4 I J) := by
  unfold f_X7_trySplit_7; exact (sg_ite (sg_at sx_rf (s_f_X7_trySplit_9)) (sg_at sx_rf (s_f_X7_trySplit_8)))
theorem s_f_X7_trySplit_6 {x1 : Int32} {x2 : Int32} {x3 : Int32} {x4 : Int32} {I : xI} {J : xJ} : SG (fun o => o.2.1) I (f_X7_trySplit_6 x1 x2 x3 x4 I J) := by
  unfold f_X7_trySplit_6; exact (sg_ite (sg_at sx_rf (s_f_X7_trySplit_8)) (sg_at sx_rf (s_f_X7_trySplit_7)))
theorem s_f_X7_trySplit_5 {x1 : Int32} {x2 : Int32} {x3 : Int32} {x4 : Int32} {I : xI} {J : xJ} : SG (fun o => o.2.1) I (f_X7_trySplit_5 x1 x2 x3 x4 I J) := by
  unfold f_X7_trySplit_5; exact (sg_ite sg_none (sg_ite sg_none (sg_ite (sg_at sx_rf (s_f_X7_trySplit_6)) (sg_at sx_rf (s_f_X7_trySplit_9)))))
theorem s_f_X7_trySplit_4 {x1 : Int32} {x2 : Int32} {x3 : Int32} {s0 : Int32} {I : xI} {J : xJ} : SG (fun o => o.2.1) I (f_X7_trySplit_4 x1 x2 x3 s0 I J) := by
  unfold f_X7_trySplit_4; exact (sg_ite (sg_at sx_rf (s_f_X7_trySplit_9)) (sg_at sx_rf (s_f_X7_trySplit_5)))
theorem s_f_X7_trySplit_3 {x1 : Int32} {x2 : Int32} {x3 : Int32} {I : xI} {J : xJ} : SG (fun o => o.2.1) I (f_X7_trySplit_3 x1 x2 x3 I J) := by
  unfold f_X7_trySplit_3; exact (sg_at sx_rf (s_f_X7_trySplit_4))
theorem s_f_X7_trySplit_2 {x1 : Int32} {x2 : Int32} {x3 : Int32} {I : xI} {J : xJ} : SG (fun o => o.2.1) I (f_X7_trySplit_2 x1 x2 x3 I J) := by
  unfold f_X7_trySplit_2; exact (sg_at sx_rf (s_f_X7_trySplit_4))
theorem s_f_X7_trySplit_1 {x1 : Int32} {x2 : Int32} {x3 : Int32} {I : xI} {J : xJ} : SG (fun o => o.2.1) I (f_X7_trySplit_1 x1 x2 x3 I J) := by
  unfold f_X7_trySplit_1; exact (sg_ite sg_none (sg_ite (sg_at sx_rf (s_f_X7_trySplit_3)) (sg_at sx_rf (s_f_X7_trySplit_2))))
theorem s_f_X7_trySplit_0 {x1 : Int32} {x2 : Int32} {I : xI} {J : xJ} : SG (fun o => o.2.1) I (f_X7_trySplit_0 x1 x2 I J) := by
  unfold f_X7_trySplit_0; exact (sg_ite sg_none (sg_ite sg_none (sg_ite sg_none (sg_ite (sg_at sx_rf (s_f_X7_trySplit_3)) (sg_at sx_rf (s_f_X7_trySplit_1))))))
theorem s_f_X7_trySplit {x1 : Int32} {x2 : Int32} {I : xI} {J : xJ} : SG (fun o => o.2.1) I (f_X7_trySplit x1 x2 I J) := by
  unfold f_X7_trySplit; exact (sg_at sx_rf (s_f_X7_trySplit_0))
theorem s_f_X7_refreshSplit_7 {x1 : Int32} {x2 : Int32} {I : xI} {J : xJ} : SG (Sum.elim (fun o => o.2.2.1) (Sum.elim (fun o => o.2.2.1) (fun o => o.2.1))) I (f_X7_refreshSplit_7 x1 x2 I J) := by
  unfold f_X7_refreshSplit_7; exact (sg_some sx_rf)
theorem s_f_X7_refreshSplit_6 {x1 : Int32} {x2 : Int32} {I : xI} {J : xJ} : SG (Sum.elim (fun o => o.2.2.1) (Sum.elim (fun o => o.2.2.1) (fun o => o.2.1))) I (f_X7_refreshSplit_6 x1 x2 I J) := by
  unfold f_X7_refreshSplit_6; exact (sg_ite sg_none (sg_ite sg_none (sg_bind (sg_at sx_rf (s_f_X7_trySplit)) (fun o ho => (sg_at ho (s_f_X7_refreshSplit_7))))))
theorem s_b_X7_refreshSplit_5 {x1 : Int32} {x2 : Int32} {I : xI} {J : xJ} : SG (Sum.elim (fun o => o.2.2.1) (Sum.elim (fun o => o.2.2.1) (fun o => o.2.1))) I (b_X7_refreshSplit_5 x1 x2 I J) := by
  unfold b_X7_refreshSplit_5; exact (sg_ite (sg_map (sg_at sx_rf (s_f_X7_refreshSplit_8))) (sg_at sx_rf (s_f_X7_refreshSplit_6)))
theorem s_f_X7_refreshSplit_5 {x1 : Int32} {x2 : Int32} {I : xI} {J : xJ} : SG (Sum.elim (fun o => o.2.2.1) (fun o => o.2.1)) I (f_X7_refreshSplit_5 x1 x2 I J) := by
  unfold f_X7_refreshSplit_5; exact (sg_loop (gs := (fun o => o.2.2.1)) (fun s => s_b_X7_refreshSplit_5) sx_rf)
theorem s_f_X7_refreshSplit_4 {x1 : Int32} {z2 : Option Value} {I : xI} {J : xJ} : SG (Sum.elim (fun o => o.2.2.1) (fun o => o.2.1)) I (f_X7_refreshSplit_4 x1 z2 I J) := by
  unfold f_X7_refreshSplit_4; exact (sg_at sx_rf (s_f_X7_refreshSplit_5))
theorem s_b_X7_refreshSplit_3 {x1 : Int32} {z2 : Option Value} {I : xI} {J : xJ} : SG (Sum.elim (fun o => o.2.2.1) (fun o => o.2.1)) I (b_X7_refreshSplit_3 x1 z2 I J) := by
  unfold b_X7_refreshSplit_3; exact (sg_ite (sg_map (sg_at sx_rf (s_f_X7_refreshSplit_9))) (sg_at sx_rf (s_f_X7_refreshSplit_4)))
theorem s_f_X7_refreshSplit_3 {x1 : Int32} {z2 : Option Value} {I : xI} {J : xJ} : SG (fun o => o.2.1) I (f_X7_refreshSplit_3 x1 z2 I J) := by
  unfold f_X7_refreshSplit_3; exact (sg_loop (gs := (fun o => o.2.2.1)) (fun s => s_b_X7_refreshSplit_3) sx_rf)
theorem s_f_X7_refreshSplit_2 {I : xI} {J : xJ} : SG (fun o => o.2.1) I (f_X7_refreshSplit_2 I J) := by
  unfold f_X7_refreshSplit_2; exact (sg_at (sx_up (sx_up (sx_up (sx_age sx_rf (by decide)) rfl) rfl) rfl) (s_f_X7_refreshSplit_3))
theorem s_f_X7_refreshSplit_0 {I : xI} {J : xJ} : SG (fun o => o.2.1) I (f_X7_refreshSplit_0 I J) := by
  unfold f_X7_refreshSplit_0; exact (sg_ite (sg_at sx_rf (s_f_X7_refreshSplit_1)) (sg_at sx_rf (s_f_X7_refreshSplit_2)))
theorem s_f_X7_refreshSplit {I : xI} {J : xJ} : SG (fun o => o.2.1) I (f_X7_refreshSplit I J) := by
  unfold f_X7_refreshSplit; exact (sg_at sx_rf (s_f_X7_refreshSplit_0))
theorem s_f_X11_split_7 {x1 : Int32} {I : xI} {J : xJ} : SG (fun o => o.2.1) I (f_X11_split_7 x1 I J) := by
  unfold f_X11_split_7; exact (sg_some sx_rf)
theorem s_f_X11_split_8 {x1 : Int32} {I : xI} {J : xJ} : SG (fun o => o.2.1) I (f_X11_split_8 x1 I J) := by
  unfold f_X11_split_8; exact (sg_some sx_rf)
theorem s_f_X11_split_9 {x1 : Int32} {I : xI} {J : xJ} : SG (fun o => o.2.1) I (f_X11_split_9 x1 I J) := by
  unfold f_X11_split_9; exact (sg_some sx_rf)
theorem s_f_X11_split_6 {x1 : Int32} {s0 : Int32} {I : xI} {J : xJ} : SG (fun o => o.2.1) I (f_X11_split_6 x1 s0 I J) := by
  unfold f_X11_split_6; exact (sg_ite (sg_at sx_rf (s_f_X11_split_7)) (sg_ite (sg_at sx_rf (s_f_X11_split_8)) (sg_at sx_rf (s_f_X11_split_9))))
theorem s_f_X11_split_5 {x1 : Int32} {I : xI} {J : xJ} : SG (fun o => o.2.1) I (f_X11_split_5 x1 I J) := by
  unfold f_X11_split_5; exact (sg_at sx_rf (s_f_X11_split_6))
theorem s_f_X11_split_4 {x1 : Int32} {I : xI} {J : xJ} : SG (fun o => o.2.1) I (f_X11_split_4 x1 I J) := by
  unfold f_X11_split_4; exact (sg_bind (sg_at sx_rf (s_f_X7_refreshSplit)) (fun o ho => (sg_at ho (s_f_X11_split_5))))
theorem s_f_X11_split_3 {x1 : Int32} {I : xI} {J : xJ} : SG (fun o => o.2.1) I (f_X11_split_3 x1 I J) := by
  unfold f_X11_split_3; exact (sg_bind (sg_at sx_rf (s_f_X11_partitionsNow)) (fun o ho => (sg_at ho (s_f_X11_split_4))))
theorem s_f_X11_split_1 {x1 : Int32} {I : xI} {J : xJ} : SG (fun o => o.2.1) I (f_X11_split_1 x1 I J) := by
  unfold f_X11_split_1; exact (sg_ite (sg_at sx_rf (s_f_X11_split_3)) (sg_at sx_rf (s_f_X11_split_2)))
theorem s_f_X11_split_0 {x1 : Int32} {I : xI} {J : xJ} : SG (fun o => o.2.1) I (f_X11_split_0 x1 I J) := by
  unfold f_X11_split_0; exact (sg_ite (sg_at sx_rf (s_f_X11_split_2)) (sg_at sx_rf (s_f_X11_split_1)))
theorem s_f_X11_split {x1 : Int32} {I : xI} {J : xJ} : SG (fun o => o.2.1) I (f_X11_split x1 I J) := by
  unfold f_X11_split; exact (sg_at sx_rf (s_f_X11_split_0))
theorem s_f_X7_goingIndexOf_6 {x1 : Int32} {x2 : Int32} {s0 : Int32} {I : xI} {J : xJ} : SG (fun o => o.2.1) I (f_X7_goingIndexOf_6 x1 x2 s0 I J) := by
  unfold f_X7_goingIndexOf_6; exact (sg_some sx_rf)
theorem s_f_X7_goingIndexOf_5 {x1 : Int32} {x2 : Int32} {I : xI} {J : xJ} : SG (fun o => o.2.1) I (f_X7_goingIndexOf_5 x1 x2 I J) := by
  unfold f_X7_goingIndexOf_5; exact (sg_at sx_rf (s_f_X7_goingIndexOf_6))
theorem s_f_X7_goingIndexOf_4 {x1 : Int32} {x2 : Int32} {I : xI} {J : xJ} : SG (fun o => o.2.1) I (f_X7_goingIndexOf_4 x1 x2 I J) := by
  unfold f_X7_goingIndexOf_4; exact (sg_at sx_rf (s_f_X7_goingIndexOf_6))
theorem s_f_X7_goingIndexOf_3 {x1 : Int32} {x2 : Int32} {s0 : Int32} {I : xI} {J : xJ} : SG (fun o => o.2.1) I (f_X7_goingIndexOf_3 x1 x2 s0 I J) := by
  unfold f_X7_goingIndexOf_3; exact (sg_ite (sg_at sx_rf (s_f_X7_goingIndexOf_5)) (sg_at sx_rf (s_f_X7_goingIndexOf_4)))
theorem s_f_X7_goingIndexOf_2 {x1 : Int32} {x2 : Int32} {I : xI} {J : xJ} : SG (fun o => o.2.1) I (f_X7_goingIndexOf_2 x1 x2 I J) := by
  unfold f_X7_goingIndexOf_2; exact (sg_bind (sg_at sx_rf (s_f_X7_stays)) (fun o ho => (sg_at ho (s_f_X7_goingIndexOf_3))))
theorem s_f_X7_goingIndexOf_1 {x1 : Int32} {s0 : Int32} {I : xI} {J : xJ} : SG (fun o => o.2.1) I (f_X7_goingIndexOf_1 x1 s0 I J) := by
  unfold f_X7_goingIndexOf_1; exact (sg_ite (sg_at sx_rf (s_f_X7_goingIndexOf_5)) (sg_at sx_rf (s_f_X7_goingIndexOf_2)))
theorem s_f_X7_goingIndexOf_0 {x1 : Int32} {I : xI} {J : xJ} : SG (fun o => o.2.1) I (f_X7_goingIndexOf_0 x1 I J) := by
  unfold f_X7_goingIndexOf_0; exact (sg_bind (sg_at sx_rf (s_f_X7_indexOf)) (fun o ho => (sg_at ho (s_f_X7_goingIndexOf_1))))
theorem s_f_X7_goingIndexOf {x1 : Int32} {I : xI} {J : xJ} : SG (fun o => o.2.1) I (f_X7_goingIndexOf x1 I J) := by
  unfold f_X7_goingIndexOf; exact (sg_at sx_rf (s_f_X7_goingIndexOf_0))
theorem s_f_X11_tail_6 {x1 : Int32} {x2 : Int32} {s0 : Int32} {I : xI} {J : xJ} : SG (fun o => o.2.1) I (f_X11_tail_6 x1 x2 s0 I J) := by
  unfold f_X11_tail_6; exact (sg_some sx_rf)
theorem s_f_X11_tail_3 {x1 : Int32} {x2 : Int32} {I : xI} {J : xJ} : SG (fun o => o.2.1) I (f_X11_tail_3 x1 x2 I J) := by
  unfold f_X11_tail_3; exact (sg_at sx_rf (s_f_X11_tail_6))
theorem s_f_X7_tailOf_6 {x1 : Int32} {x2 : Int32} {x3 : Int32} {x4 : Int32} {I : xI} {J : xJ} : SG (fun o => o.2.1) I (f_X7_tailOf_6 x1 x2 x3 x4 I J) := by
  unfold f_X7_tailOf_6; exact (sg_some sx_rf)
theorem s_f_X7_tailOf_5 {x1 : Int32} {x2 : Int32} {x3 : Int32} {x4 : Int32} {I : xI} {J : xJ} : SG (Sum.elim (fun o => o.2.2.2.2.1) (fun o => o.2.1)) I (f_X7_tailOf_5 x1 x2 x3 x4 I J) := by
  unfold f_X7_tailOf_5; exact (sg_some sx_rf)
theorem s_f_X7_tailOf_4 {x1 : Int32} {x2 : Int32} {x3 : Int32} {x4 : Int32} {I : xI} {J : xJ} : SG (Sum.elim (fun o => o.2.2.2.2.1) (fun o => o.2.1)) I (f_X7_tailOf_4 x1 x2 x3 x4 I J) := by
  unfold f_X7_tailOf_4; exact (sg_ite sg_none (sg_at sx_rf (s_f_X7_tailOf_5)))
theorem s_f_X7_tailOf_3 {x1 : Int32} {x2 : Int32} {x3 : Int32} {x4 : Int32} {I : xI} {J : xJ} : SG (Sum.elim (fun o => o.2.2.2.2.1) (fun o => o.2.1)) I (f_X7_tailOf_3 x1 x2 x3 x4 I J) := by
  unfold f_X7_tailOf_3; exact (sg_ite sg_none (sg_ite (sg_at sx_rf (s_f_X7_tailOf_5)) (sg_at sx_rf (s_f_X7_tailOf_4))))
theorem s_f_X7_tailOf_2 {x1 : Int32} {x2 : Int32} {x3 : Int32} {x4 : Int32} {I : xI} {J : xJ} : SG (Sum.elim (fun o => o.2.2.2.2.1) (fun o => o.2.1)) I (f_X7_tailOf_2 x1 x2 x3 x4 I J) := by
  unfold f_X7_tailOf_2; exact (sg_ite sg_none (sg_ite sg_none (sg_ite (sg_at sx_rf (s_f_X7_tailOf_3)) (sg_at sx_rf (s_f_X7_tailOf_5)))))
theorem s_b_X7_tailOf_1 {x1 : Int32} {x2 : Int32} {x3 : Int32} {x4 : Int32} {I : xI} {J : xJ} : SG (Sum.elim (fun o => o.2.2.2.2.1) (fun o => o.2.1)) I (b_X7_tailOf_1 x1 x2 x3 x4 I J) := by
  unfold b_X7_tailOf_1; exact (sg_ite (sg_map (sg_at sx_rf (s_f_X7_tailOf_6))) (sg_at sx_rf (s_f_X7_tailOf_2)))
theorem s_f_X7_tailOf_1 {x1 : Int32} {x2 : Int32} {x3 : Int32} {x4 : Int32} {I : xI} {J : xJ} : SG (fun o => o.2.1) I (f_X7_tailOf_1 x1 x2 x3 x4 I J) := by
  unfold f_X7_tailOf_1; exact (sg_loop (gs := (fun o => o.2.2.2.2.1)) (fun s => s_b_X7_tailOf_1) sx_rf)
theorem s_f_X7_tailOf_0 {x1 : Int32} {I : xI} {J : xJ} : SG (fun o => o.2.1) I (f_X7_tailOf_0 x1 I J) := by
  unfold f_X7_tailOf_0; exact (sg_at sx_rf (s_f_X7_tailOf_1))
theorem s_f_X7_tailOf {x1 : Int32} {I : xI} {J : xJ} : SG (fun o => o.2.1) I (f_X7_tailOf x1 I J) := by
  unfold f_X7_tailOf; exact (sg_at sx_rf (s_f_X7_tailOf_0))
theorem s_f_X11_tail_5 {x1 : Int32} {x2 : Int32} {s1 : Int32} {I : xI} {J : xJ} : SG (fun o => o.2.1) I (f_X11_tail_5 x1 x2 s1 I J) := by
  unfold f_X11_tail_5; exact (sg_ite sg_none (sg_at sx_rf (s_f_X11_tail_6)))
theorem s_f_X11_tail_4 {x1 : Int32} {x2 : Int32} {I : xI} {J : xJ} : SG (fun o => o.2.1) I (f_X11_tail_4 x1 x2 I J) := by
  unfold f_X11_tail_4; exact (sg_bind (sg_at sx_rf (s_f_X7_tailOf)) (fun o ho => (sg_at ho (s_f_X11_tail_5))))
theorem s_f_X11_tail_2 {x1 : Int32} {s0 : Int32} {I : xI} {J : xJ} : SG (fun o => o.2.1) I (f_X11_tail_2 x1 s0 I J) := by
  unfold f_X11_tail_2; exact (sg_ite (sg_at sx_rf (s_f_X11_tail_3)) (sg_at sx_rf (s_f_X11_tail_4)))
theorem s_f_X11_tail_1 {x1 : Int32} {I : xI} {J : xJ} : SG (fun o => o.2.1) I (f_X11_tail_1 x1 I J) := by
  unfold f_X11_tail_1; exact (sg_bind (sg_at sx_rf (s_f_X7_goingIndexOf)) (fun o ho => (sg_at ho (s_f_X11_tail_2))))
theorem s_f_X11_tail_0 {x1 : Int32} {I : xI} {J : xJ} : SG (fun o => o.2.1) I (f_X11_tail_0 x1 I J) := by
  unfold f_X11_tail_0; exact (sg_bind (sg_at sx_rf (s_f_X11_partitionsNow)) (fun o ho => (sg_at ho (s_f_X11_tail_1))))
theorem s_f_X11_tail {x1 : Int32} {I : xI} {J : xJ} : SG (fun o => o.2.1) I (f_X11_tail x1 I J) := by
  unfold f_X11_tail; exact (sg_at sx_rf (s_f_X11_tail_0))
theorem s_f_X11_part_7 {x1 : Int32} {x2 : Int32} {x3 : Int32} {x4 : Int32} {I : xI} {J : xJ} : SG (fun o => o.2.1) I (f_X11_part_7 x1 x2 x3 x4 I J) := by
  unfold f_X11_part_7; exact (sg_some sx_rf)
theorem s_f_X7_hasBlock_4 {x1 : Int32} {x2 : Int32} {s0 : Int32} {I : xI} {J : xJ} : SG (fun o => o.2.1) I (f_X7_hasBlock_4 x1 x2 s0 I J) := by
  unfold f_X7_hasBlock_4; exact (sg_ite (sg_some sx_rf) sg_none)
theorem s_f_X7_hasBlock_3 {x1 : Int32} {x2 : Int32} {I : xI} {J : xJ} : SG (fun o => o.2.1) I (f_X7_hasBlock_3 x1 x2 I J) := by
  unfold f_X7_hasBlock_3; exact (sg_at sx_rf (s_f_X7_hasBlock_4))
theorem s_f_X7_hasBlock_2 {x1 : Int32} {x2 : Int32} {I : xI} {J : xJ} : SG (fun o => o.2.1) I (f_X7_hasBlock_2 x1 x2 I J) := by
  unfold f_X7_hasBlock_2; exact (sg_at sx_rf (s_f_X7_hasBlock_4))
theorem s_f_X7_hasBlock_1 {x1 : Int32} {x2 : Int32} {I : xI} {J : xJ} : SG (fun o => o.2.1) I (f_X7_hasBlock_1 x1 x2 I J) := by
  unfold f_X7_hasBlock_1; exact (sg_ite sg_none (sg_ite (sg_at sx_rf (s_f_X7_hasBlock_3)) (sg_at sx_rf (s_f_X7_hasBlock_2))))
theorem s_f_X7_hasBlock_0 {x1 : Int32} {x2 : Int32} {I : xI} {J : xJ} : SG (fun o => o.2.1) I (f_X7_hasBlock_0 x1 x2 I J) := by
  unfold f_X7_hasBlock_0; exact (sg_ite (sg_at sx_rf (s_f_X7_hasBlock_3)) (sg_at sx_rf (s_f_X7_hasBlock_1)))
theorem s_f_X7_hasBlock {x1 : Int32} {x2 : Int32} {I : xI} {J : xJ} : SG (fun o => o.2.1) I (f_X7_hasBlock x1 x2 I J) := by
  unfold f_X7_hasBlock; exact (sg_at sx_rf (s_f_X7_hasBlock_0))
theorem s_f_X7_statesOf_6 {x1 : Int32} {x2 : Int32} {x3 : Int32} {x4 : Int32} {I : xI} {J : xJ} : SG (fun o => o.2.1) I (f_X7_statesOf_6 x1 x2 x3 x4 I J) := by
  unfold f_X7_statesOf_6; exact (sg_some sx_rf)
theorem s_f_X7_statesOf_5 {x1 : Int32} {x2 : Int32} {x3 : Int32} {x4 : Int32} {I : xI} {J : xJ} : SG (Sum.elim (fun o => o.2.2.2.2.1) (fun o => o.2.1)) I (f_X7_statesOf_5 x1 x2 x3 x4 I J) := by
  unfold f_X7_statesOf_5; exact (sg_some sx_rf)
theorem s_f_X7_statesOf_4 {x1 : Int32} {x2 : Int32} {x3 : Int32} {x4 : Int32} {I : xI} {J : xJ} : SG (Sum.elim (fun o => o.2.2.2.2.1) (fun o => o.2.1)) I (f_X7_statesOf_4 x1 x2 x3 x4 I J) := by
  unfold f_X7_statesOf_4; exact (sg_at sx_rf (s_f_X7_statesOf_5))
theorem s_f_X7_statesOf_3 {x1 : Int32} {x2 : Int32} {x3 : Int32} {x4 : Int32} {s0 : Int32} {I : xI} {J : xJ} : SG (Sum.elim (fun o => o.2.2.2.2.1) (fun o => o.2.1)) I (f_X7_statesOf_3 x1 x2 x3 x4 s0 I J) := by
  unfold f_X7_statesOf_3; exact (sg_ite (sg_at sx_rf (s_f_X7_statesOf_4)) (sg_at sx_rf (s_f_X7_statesOf_5)))
theorem s_f_X7_statesOf_2 {x1 : Int32} {x2 : Int32} {x3 : Int32} {x4 : Int32} {I : xI} {J : xJ} : SG (Sum.elim (fun o => o.2.2.2.2.1) (fun o => o.2.1)) I (f_X7_statesOf_2 x1 x2 x3 x4 I J) := by
  unfold f_X7_statesOf_2; exact (sg_bind (sg_at sx_rf (s_f_X7_blockOf)) (fun o ho => (sg_at ho (s_f_X7_statesOf_3))))
theorem s_b_X7_statesOf_1 {x1 : Int32} {x2 : Int32} {x3 : Int32} {x4 : Int32} {I : xI} {J : xJ} : SG (Sum.elim (fun o => o.2.2.2.2.1) (fun o => o.2.1)) I (b_X7_statesOf_1 x1 x2 x3 x4 I J) := by
  unfold b_X7_statesOf_1; exact (sg_ite (sg_map (sg_at sx_rf (s_f_X7_statesOf_6))) (sg_at sx_rf (s_f_X7_statesOf_2)))
theorem s_f_X7_statesOf_1 {x1 : Int32} {x2 : Int32} {x3 : Int32} {x4 : Int32} {I : xI} {J : xJ} : SG (fun o => o.2.1) I (f_X7_statesOf_1 x1 x2 x3 x4 I J) := by
  unfold f_X7_statesOf_1; exact (sg_loop (gs := (fun o => o.2.2.2.2.1)) (fun s => s_b_X7_statesOf_1) sx_rf)
theorem s_f_X7_statesOf_0 {x1 : Int32} {x2 : Int32} {I : xI} {J : xJ} : SG (fun o => o.2.1) I (f_X7_statesOf_0 x1 x2 I J) := by
  unfold f_X7_statesOf_0; exact (sg_at sx_rf (s_f_X7_statesOf_1))
theorem s_f_X7_statesOf {x1 : Int32} {x2 : Int32} {I : xI} {J : xJ} : SG (fun o => o.2.1) I (f_X7_statesOf x1 x2 I J) := by
  unfold f_X7_statesOf; exact (sg_at sx_rf (s_f_X7_statesOf_0))
theorem s_f_X7_blockBehind_6 {x1 : Int32} {x2 : Int32} {x3 : Int32} {x4 : Int32} {s0 : Int32} {I : xI} {J : xJ} : SG (fun o => o.2.1) I (f_X7_blockBehind_6 x1 x2 x3 x4 s0 I J) := by
  unfold f_X7_blockBehind_6; exact (sg_some sx_rf)
theorem s_f_X7_blockBehind_3 {x1 : Int32} {x2 : Int32} {x3 : Int32} {x4 : Int32} {I : xI} {J : xJ} : SG (fun o => o.2.1) I (f_X7_blockBehind_3 x1 x2 x3 x4 I J) := by
  unfold f_X7_blockBehind_3; exact (sg_at sx_rf (s_f_X7_blockBehind_6))
theorem s_f_X7_blockBehind_5 {x1 : Int32} {x2 : Int32} {x3 : Int32} {x4 : Int32} {s1 : Int32} {s2 : Int32} {I : xI} {J : xJ} : SG (fun o => o.2.1) I (f_X7_blockBehind_5 x1 x2 x3 x4 s1 s2 I J) := by
  unfold f_X7_blockBehind_5; exact (sg_bind (sg_at sx_rf (s_f_X7_blockOf)) (fun o ho => (sg_at ho (s_f_X7_blockBehind_6))))
theorem s_f_X7_blockBehind_4 {x1 : Int32} {x2 : Int32} {x3 : Int32} {x4 : Int32} {I : xI} {J : xJ} : SG (fun o => o.2.1) I (f_X7_blockBehind_4 x1 x2 x3 x4 I J) := by
  unfold f_X7_blockBehind_4; exact (sg_bind (sg_at sx_rf (s_f_J6_numberOfTrailingZeros_0f7a4)) (fun o ho => (sg_at ho (s_f_X7_blockBehind_5))))
theorem s_f_X7_blockBehind_2 {x1 : Int32} {x2 : Int32} {x3 : Int32} {s0 : Int32} {I : xI} {J : xJ} : SG (fun o => o.2.1) I (f_X7_blockBehind_2 x1 x2 x3 s0 I J) := by
  unfold f_X7_blockBehind_2; exact (sg_ite (sg_at sx_rf (s_f_X7_blockBehind_3)) (sg_at sx_rf (s_f_X7_blockBehind_4)))
theorem s_f_X7_blockBehind_1 {x1 : Int32} {x2 : Int32} {x3 : Int32} {s1 : Int32} {I : xI} {J : xJ} : SG (fun o => o.2.1) I (f_X7_blockBehind_1 x1 x2 x3 s1 I J) := by
  unfold f_X7_blockBehind_1; exact (sg_bind (sg_at sx_rf (s_f_X5_leadOf)) (fun o ho => (sg_at ho (s_f_X7_blockBehind_2))))
theorem s_f_X7_blockBehind_0 {x1 : Int32} {x2 : Int32} {x3 : Int32} {I : xI} {J : xJ} : SG (fun o => o.2.1) I (f_X7_blockBehind_0 x1 x2 x3 I J) := by
  unfold f_X7_blockBehind_0; exact (sg_bind (sg_at sx_rf (s_f_X7_statesOf)) (fun o ho => (sg_at ho (s_f_X7_blockBehind_1))))
theorem s_f_X7_blockBehind {x1 : Int32} {x2 : Int32} {x3 : Int32} {I : xI} {J : xJ} : SG (fun o => o.2.1) I (f_X7_blockBehind x1 x2 x3 I J) := by
  unfold f_X7_blockBehind; exact (sg_at sx_rf (s_f_X7_blockBehind_0))
theorem s_f_X11_part_9 {x1 : Int32} {x2 : Int32} {x3 : Int32} {x4 : Int32} {s0 : Int32} {I : xI} {J : xJ} : SG (fun o => o.2.1) I (f_X11_part_9 x1 x2 x3 x4 s0 I J) := by
  unfold f_X11_part_9; exact (sg_some sx_rf)
theorem s_f_X11_part_8 {x1 : Int32} {x2 : Int32} {x3 : Int32} {x4 : Int32} {I : xI} {J : xJ} : SG (fun o => o.2.1) I (f_X11_part_8 x1 x2 x3 x4 I J) := by
  unfold f_X11_part_8; exact (sg_bind (sg_at sx_rf (s_f_X7_blockBehind)) (fun o ho => (sg_at ho (s_f_X11_part_9))))
theorem s_f_X11_part_6 {x1 : Int32} {x2 : Int32} {x3 : Int32} {x4 : Int32} {s0 : Int32} {I : xI} {J : xJ} : SG (fun o => o.2.1) I (f_X11_part_6 x1 x2 x3 x4 s0 I J) := by
  unfold f_X11_part_6; exact (sg_ite (sg_at sx_rf (s_f_X11_part_7)) (sg_at sx_rf (s_f_X11_part_8)))
theorem s_f_X11_part_5 {x1 : Int32} {x2 : Int32} {x3 : Int32} {x4 : Int32} {I : xI} {J : xJ} : SG (fun o => o.2.1) I (f_X11_part_5 x1 x2 x3 x4 I J) := by
  unfold f_X11_part_5; exact (sg_bind (sg_at sx_rf (s_f_X5_hasInput)) (fun o ho => (sg_at ho (s_f_X11_part_6))))
theorem s_f_X11_part_4 {x1 : Int32} {x2 : Int32} {x3 : Int32} {x4 : Int32} {s0 : Int32} {I : xI} {J : xJ} : SG (fun o => o.2.1) I (f_X11_part_4 x1 x2 x3 x4 s0 I J) := by
  unfold f_X11_part_4; exact (sg_ite (sg_at sx_rf (s_f_X11_part_7)) (sg_at sx_rf (s_f_X11_part_5)))
theorem s_f_X11_part_3 {x1 : Int32} {x2 : Int32} {x3 : Int32} {x4 : Int32} {I : xI} {J : xJ} : SG (fun o => o.2.1) I (f_X11_part_3 x1 x2 x3 x4 I J) := by
  unfold f_X11_part_3; exact (sg_bind (sg_at sx_rf (s_f_X7_hasBlock)) (fun o ho => (sg_at ho (s_f_X11_part_4))))
theorem s_f_X11_part_2 {x1 : Int32} {x2 : Int32} {x3 : Int32} {s0 : Int32} {I : xI} {J : xJ} : SG (fun o => o.2.1) I (f_X11_part_2 x1 x2 x3 s0 I J) := by
  unfold f_X11_part_2; exact (sg_ite (sg_at sx_rf (s_f_X11_part_7)) (sg_at sx_rf (s_f_X11_part_3)))
theorem s_f_X11_part_1 {x1 : Int32} {x2 : Int32} {x3 : Int32} {I : xI} {J : xJ} : SG (fun o => o.2.1) I (f_X11_part_1 x1 x2 x3 I J) := by
  unfold f_X11_part_1; exact (sg_bind (sg_at sx_rf (s_f_X7_goingIndexOf)) (fun o ho => (sg_at ho (s_f_X11_part_2))))
theorem s_f_X11_part_0 {x1 : Int32} {x2 : Int32} {x3 : Int32} {I : xI} {J : xJ} : SG (fun o => o.2.1) I (f_X11_part_0 x1 x2 x3 I J) := by
  unfold f_X11_part_0; exact (sg_bind (sg_at sx_rf (s_f_X11_partitionsNow)) (fun o ho => (sg_at ho (s_f_X11_part_1))))
theorem s_f_X11_part {x1 : Int32} {x2 : Int32} {x3 : Int32} {I : xI} {J : xJ} : SG (fun o => o.2.1) I (f_X11_part x1 x2 x3 I J) := by
  unfold f_X11_part; exact (sg_at sx_rf (s_f_X11_part_0))
theorem s_f_X11_series_9 {x1 : Int32} {x2 : Int32} {x3 : Int32} {x4 : Int32} {x5 : Int32} {x6 : Int32} {I : xI} {J : xJ} : SG (fun o => o.2.1) I (f_X11_series_9 x1 x2 x3 x4 x5 x6 I J) := by
  unfold f_X11_series_9; exact (sg_some sx_rf)
theorem s_f_X11_series_13 {x1 : Int32} {x2 : Int32} {x3 : Int32} {x4 : Int32} {x5 : Int32} {x6 : Int32} {x7 : Int32} {I : xI} {J : xJ} : SG (fun o => o.2.1) I (f_X11_series_13 x1 x2 x3 x4 x5 x6 x7 I J) := by
  unfold f_X11_series_13; exact (sg_some sx_rf)
theorem s_f_X11_series_16 {x1 : Int32} {x2 : Int32} {x3 : Int32} {x4 : Int32} {x5 : Int32} {x6 : Int32} {x7 : Int32} {s0 : Int32} {I : xI} {J : xJ} : SG (fun o => o.2.1) I (f_X11_series_16 x1 x2 x3 x4 x5 x6 x7 s0 I J) := by
  unfold f_X11_series_16; exact (sg_some sx_rf)
theorem s_f_X11_series_15 {x1 : Int32} {x2 : Int32} {x3 : Int32} {x4 : Int32} {x5 : Int32} {x6 : Int32} {x7 : Int32} {I : xI} {J : xJ} : SG (fun o => o.2.1) I (f_X11_series_15 x1 x2 x3 x4 x5 x6 x7 I J) := by
  unfold f_X11_series_15; exact (sg_bind (sg_at sx_rf (s_f_X7_blockBehind)) (fun o ho => (sg_at ho (s_f_X11_series_16))))
theorem s_f_X11_series_26 {x1 : Int32} {x2 : Int32} {x3 : Int32} {x4 : Int32} {x5 : Int32} {x6 : Int32} {x7 : Int32} {x8 : Int32} {x9 : Int32} {s0 : Int32} {I : xI} {J : xJ} : SG (fun o => o.2.1) I (f_X11_series_26 x1 x2 x3 x4 x5 x6 x7 x8 x9 s0 I J) := by
  unfold f_X11_series_26; exact (sg_some sx_rf)
theorem s_f_X11_series_23 {x1 : Int32} {x2 : Int32} {x3 : Int32} {x4 : Int32} {x5 : Int32} {x6 : Int32} {x7 : Int32} {x8 : Int32} {x9 : Int32} {I : xI} {J : xJ} : SG (fun o => o.2.1) I (f_X11_series_23 x1 x2 x3 x4 x5 x6 x7 x8 x9 I J) := by
  unfold f_X11_series_23; exact (sg_at sx_rf (s_f_X11_series_26))
theorem s_f_X11_series_25 {x1 : Int32} {x2 : Int32} {x3 : Int32} {x4 : Int32} {x5 : Int32} {x6 : Int32} {x7 : Int32} {x8 : Int32} {x9 : Int32} {s1 : Int32} {s2 : Int32} {I : xI} {J : xJ} : SG (fun o => o.2.1) I (f_X11_series_25 x1 x2 x3 x4 x5 x6 x7 x8 x9 s1 s2 I J) := by
  unfold f_X11_series_25; exact (sg_bind (sg_at sx_rf (s_f_X7_blockOf)) (fun o ho => (sg_at ho (s_f_X11_series_26))))
theorem s_f_X11_series_24 {x1 : Int32} {x2 : Int32} {x3 : Int32} {x4 : Int32} {x5 : Int32} {x6 : Int32} {x7 : Int32} {x8 : Int32} {x9 : Int32} {I : xI} {J : xJ} : SG (fun o => o.2.1) I (f_X11_series_24 x1 x2 x3 x4 x5 x6 x7 x8 x9 I J) := by
  unfold f_X11_series_24; exact (sg_bind (sg_at sx_rf (s_f_J6_numberOfTrailingZeros_0f7a4)) (fun o ho => (sg_at ho (s_f_X11_series_25))))
theorem s_f_X11_series_22 {x1 : Int32} {x2 : Int32} {x3 : Int32} {x4 : Int32} {x5 : Int32} {x6 : Int32} {x7 : Int32} {x8 : Int32} {s0 : Int32} {I : xI} {J : xJ} : SG (fun o => o.2.1) I (f_X11_series_22 x1 x2 x3 x4 x5 x6 x7 x8 s0 I J) := by
  unfold f_X11_series_22; exact (sg_ite (sg_at sx_rf (s_f_X11_series_23)) (sg_at sx_rf (s_f_X11_series_24)))
theorem s_f_X11_series_20 {x1 : Int32} {x2 : Int32} {x3 : Int32} {x4 : Int32} {x5 : Int32} {x6 : Int32} {x7 : Int32} {x8 : Int32} {I : xI} {J : xJ} : SG (fun o => o.2.1) I (f_X11_series_20 x1 x2 x3 x4 x5 x6 x7 x8 I J) := by
  unfold f_X11_series_20; exact (sg_at sx_rf (s_f_X11_series_22))
theorem s_f_X11_series_21 {x1 : Int32} {x2 : Int32} {x3 : Int32} {x4 : Int32} {x5 : Int32} {x6 : Int32} {x7 : Int32} {x8 : Int32} {I : xI} {J : xJ} : SG (fun o => o.2.1) I (f_X11_series_21 x1 x2 x3 x4 x5 x6 x7 x8 I J) := by
  unfold f_X11_series_21; exact (sg_bind (sg_at sx_rf (s_f_X5_leadOf)) (fun o ho => (sg_at ho (s_f_X11_series_22))))
theorem s_f_X11_series_19 {x1 : Int32} {x2 : Int32} {x3 : Int32} {x4 : Int32} {x5 : Int32} {x6 : Int32} {x7 : Int32} {s0 : Int32} {s1 : Int32} {I : xI} {J : xJ} : SG (fun o => o.2.1) I (f_X11_series_19 x1 x2 x3 x4 x5 x6 x7 s0 s1 I J) := by
  unfold f_X11_series_19; exact (sg_ite (sg_at sx_rf (s_f_X11_series_20)) (sg_at sx_rf (s_f_X11_series_21)))
theorem s_f_X11_series_18 {x1 : Int32} {x2 : Int32} {x3 : Int32} {x4 : Int32} {x5 : Int32} {x6 : Int32} {x7 : Int32} {s0 : Int32} {I : xI} {J : xJ} : SG (fun o => o.2.1) I (f_X11_series_18 x1 x2 x3 x4 x5 x6 x7 s0 I J) := by
  unfold f_X11_series_18; exact (sg_bind (sg_at sx_rf (s_f_X7_statesOf)) (fun o ho => (sg_at ho (s_f_X11_series_19))))
theorem s_f_X11_series_17 {x1 : Int32} {x2 : Int32} {x3 : Int32} {x4 : Int32} {x5 : Int32} {x6 : Int32} {x7 : Int32} {I : xI} {J : xJ} : SG (fun o => o.2.1) I (f_X11_series_17 x1 x2 x3 x4 x5 x6 x7 I J) := by
  unfold f_X11_series_17; exact (sg_bind (sg_at sx_rf (s_f_X7_statesOf)) (fun o ho => (sg_at ho (s_f_X11_series_18))))
theorem s_f_X11_series_14 {x1 : Int32} {x2 : Int32} {x3 : Int32} {x4 : Int32} {x5 : Int32} {x6 : Int32} {x7 : Int32} {I : xI} {J : xJ} : SG (fun o => o.2.1) I (f_X11_series_14 x1 x2 x3 x4 x5 x6 x7 I J) := by
  unfold f_X11_series_14; exact (sg_ite (sg_at sx_rf (s_f_X11_series_15)) (sg_at sx_rf (s_f_X11_series_17)))
theorem s_f_X11_series_12 {x1 : Int32} {x2 : Int32} {x3 : Int32} {x4 : Int32} {x5 : Int32} {x6 : Int32} {x7 : Int32} {s0 : Int32} {I : xI} {J : xJ} : SG (fun o => o.2.1) I (f_X11_series_12 x1 x2 x3 x4 x5 x6 x7 s0 I J) := by
  unfold f_X11_series_12; exact (sg_ite (sg_at sx_rf (s_f_X11_series_13)) (sg_at sx_rf (s_f_X11_series_14)))
theorem s_f_X11_series_11 {x1 : Int32} {x2 : Int32} {x3 : Int32} {x4 : Int32} {x5 : Int32} {x6 : Int32} {s0 : Int32} {I : xI} {J : xJ} : SG (fun o => o.2.1) I (f_X11_series_11 x1 x2 x3 x4 x5 x6 s0 I J) := by
  unfold f_X11_series_11; exact (sg_bind (sg_at sx_rf (s_f_X7_hasBlock)) (fun o ho => (sg_at ho (s_f_X11_series_12))))
theorem s_f_X11_series_10 {x1 : Int32} {x2 : Int32} {x3 : Int32} {x4 : Int32} {x5 : Int32} {x6 : Int32} {I : xI} {J : xJ} : SG (fun o => o.2.1) I (f_X11_series_10 x1 x2 x3 x4 x5 x6 I J) := by
  unfold f_X11_series_10; exact (sg_bind (sg_at sx_rf (s_f_X7_tailOf)) (fun o ho => (sg_at ho (s_f_X11_series_11))))
theorem s_f_X11_series_8 {x1 : Int32} {x2 : Int32} {x3 : Int32} {x4 : Int32} {x5 : Int32} {x6 : Int32} {I : xI} {J : xJ} : SG (fun o => o.2.1) I (f_X11_series_8 x1 x2 x3 x4 x5 x6 I J) := by
  unfold f_X11_series_8; exact (sg_ite (sg_at sx_rf (s_f_X11_series_10)) (sg_at sx_rf (s_f_X11_series_9)))
theorem s_f_X11_series_7 {x1 : Int32} {x2 : Int32} {x3 : Int32} {x4 : Int32} {x5 : Int32} {x6 : Int32} {I : xI} {J : xJ} : SG (fun o => o.2.1) I (f_X11_series_7 x1 x2 x3 x4 x5 x6 I J) := by
  unfold f_X11_series_7; exact (sg_ite (sg_at sx_rf (s_f_X11_series_9)) (sg_at sx_rf (s_f_X11_series_8)))
theorem s_f_X11_series_6 {x1 : Int32} {x2 : Int32} {x3 : Int32} {x4 : Int32} {x5 : Int32} {x6 : Int32} {s0 : Int32} {I : xI} {J : xJ} : SG (fun o => o.2.1) I (f_X11_series_6 x1 x2 x3 x4 x5 x6 s0 I J) := by
  unfold f_X11_series_6; exact (sg_ite (sg_at sx_rf (s_f_X11_series_9)) (sg_at sx_rf (s_f_X11_series_7)))
theorem s_f_X11_series_5 {x1 : Int32} {x2 : Int32} {x3 : Int32} {x4 : Int32} {x5 : Int32} {x6 : Int32} {I : xI} {J : xJ} : SG (fun o => o.2.1) I (f_X11_series_5 x1 x2 x3 x4 x5 x6 I J) := by
  unfold f_X11_series_5; exact (sg_bind (sg_at sx_rf (s_f_X5_hasInput)) (fun o ho => (sg_at ho (s_f_X11_series_6))))
theorem s_f_X11_series_4 {x1 : Int32} {x2 : Int32} {x3 : Int32} {x4 : Int32} {x5 : Int32} {x6 : Int32} {s0 : Int32} {I : xI} {J : xJ} : SG (fun o => o.2.1) I (f_X11_series_4 x1 x2 x3 x4 x5 x6 s0 I J) := by
  unfold f_X11_series_4; exact (sg_ite (sg_at sx_rf (s_f_X11_series_9)) (sg_at sx_rf (s_f_X11_series_5)))
theorem s_f_X11_series_3 {x1 : Int32} {x2 : Int32} {x3 : Int32} {x4 : Int32} {x5 : Int32} {x6 : Int32} {I : xI} {J : xJ} : SG (fun o => o.2.1) I (f_X11_series_3 x1 x2 x3 x4 x5 x6 I J) := by
  unfold f_X11_series_3; exact (sg_bind (sg_at sx_rf (s_f_X7_hasBlock)) (fun o ho => (sg_at ho (s_f_X11_series_4))))
theorem s_f_X11_series_2 {x1 : Int32} {x2 : Int32} {x3 : Int32} {x4 : Int32} {x5 : Int32} {s0 : Int32} {I : xI} {J : xJ} : SG (fun o => o.2.1) I (f_X11_series_2 x1 x2 x3 x4 x5 s0 I J) := by
  unfold f_X11_series_2; exact (sg_ite (sg_at sx_rf (s_f_X11_series_9)) (sg_at sx_rf (s_f_X11_series_3)))
theorem s_f_X11_series_1 {x1 : Int32} {x2 : Int32} {x3 : Int32} {x4 : Int32} {x5 : Int32} {I : xI} {J : xJ} : SG (fun o => o.2.1) I (f_X11_series_1 x1 x2 x3 x4 x5 I J) := by
  unfold f_X11_series_1; exact (sg_bind (sg_at sx_rf (s_f_X7_goingIndexOf)) (fun o ho => (sg_at ho (s_f_X11_series_2))))
theorem s_f_X11_series_0 {x1 : Int32} {x2 : Int32} {x3 : Int32} {x4 : Int32} {x5 : Int32} {I : xI} {J : xJ} : SG (fun o => o.2.1) I (f_X11_series_0 x1 x2 x3 x4 x5 I J) := by
  unfold f_X11_series_0; exact (sg_bind (sg_at sx_rf (s_f_X11_partitionsNow)) (fun o ho => (sg_at ho (s_f_X11_series_1))))
theorem s_f_X11_series {x1 : Int32} {x2 : Int32} {x3 : Int32} {x4 : Int32} {x5 : Int32} {I : xI} {J : xJ} : SG (fun o => o.2.1) I (f_X11_series x1 x2 x3 x4 x5 I J) := by
  unfold f_X11_series; exact (sg_at sx_rf (s_f_X11_series_0))
theorem s_f_X11_beside_9 {x1 : Int32} {x2 : Int32} {x3 : Int32} {x4 : Int32} {x5 : Int32} {x6 : Int32} {x7 : Int32} {I : xI} {J : xJ} : SG (fun o => o.2.1) I (f_X11_beside_9 x1 x2 x3 x4 x5 x6 x7 I J) := by
  unfold f_X11_beside_9; exact (sg_some sx_rf)
theorem s_f_X11_beside_23 {x1 : Int32} {x2 : Int32} {x3 : Int32} {x4 : Int32} {x5 : Int32} {x6 : Int32} {x7 : Int32} {x8 : Int32} {x9 : Int32} {x10 : Int32} {z11 : Option Value} {z12 : Option Value} {z13 : Option Value} {s0 : Int32} {s1 : Int32} {I : xI} {J : xJ} : SG (fun o => o.2.1) I (f_X11_beside_23 x1 x2 x3 x4 x5 x6 x7 x8 x9 x10 z11 z12 z13 s0 s1 I J) := by
  unfold f_X11_beside_23; exact (sg_some sx_rf)
theorem s_f_X11_beside_22 {x1 : Int32} {x2 : Int32} {x3 : Int32} {x4 : Int32} {x5 : Int32} {x6 : Int32} {x7 : Int32} {x8 : Int32} {x9 : Int32} {x10 : Int32} {z11 : Option Value} {z12 : Option Value} {z13 : Option Value} {s0 : Int32} {I : xI} {J : xJ} : SG (fun o => o.2.1) I (f_X11_beside_22 x1 x2 x3 x4 x5 x6 x7 x8 x9 x10 z11 z12 z13 s0 I J) := by
  unfold f_X11_beside_22; exact (sg_bind (sg_at sx_rf (s_f_X7_statesOf)) (fun o ho => (sg_at ho (s_f_X11_beside_23))))
theorem s_f_X11_beside_21 {x1 : Int32} {x2 : Int32} {x3 : Int32} {x4 : Int32} {x5 : Int32} {x6 : Int32} {x7 : Int32} {x8 : Int32} {x9 : Int32} {x10 : Int32} {z11 : Option Value} {z12 : Option Value} {z13 : Option Value} {I : xI} {J : xJ} : SG (fun o => o.2.1) I (f_X11_beside_21 x1 x2 x3 x4 x5 x6 x7 x8 x9 x10 z11 z12 z13 I J) := by
  unfold f_X11_beside_21; exact (sg_bind (sg_at sx_rf (s_f_X7_statesOf)) (fun o ho => (sg_at ho (s_f_X11_beside_22))))
theorem s_f_X11_beside_19 {x1 : Int32} {x2 : Int32} {x3 : Int32} {x4 : Int32} {x5 : Int32} {x6 : Int32} {x7 : Int32} {x8 : Int32} {x9 : Int32} {x10 : Int32} {x11 : Int32} {x12 : Int32} {x13 : Int32} {I : xI} {J : xJ} : SG (fun o => o.2.1) I (f_X11_beside_19 x1 x2 x3 x4 x5 x6 x7 x8 x9 x10 x11 x12 x13 I J) := by
  unfold f_X11_beside_19; exact (sg_at sx_rf (s_f_X11_beside_21))
theorem s_f_X11_beside_20 {x1 : Int32} {x2 : Int32} {x3 : Int32} {x4 : Int32} {x5 : Int32} {x6 : Int32} {x7 : Int32} {x8 : Int32} {x9 : Int32} {x10 : Int32} {x11 : Int32} {x12 : Int32} {x13 : Int32} {I : xI} {J : xJ} : SG (Sum.elim (fun o => o.2.2.2.2.2.2.2.2.2.2.2.2.2.1) (fun o => o.2.1)) I (f_X11_beside_20 x1 x2 x3 x4 x5 x6 x7 x8 x9 x10 x11 x12 x13 I J) := by
  unfold f_X11_beside_20; exact (sg_some sx_rf)
theorem s_f_X11_beside_18 {x1 : Int32} {x2 : Int32} {x3 : Int32} {x4 : Int32} {x5 : Int32} {x6 : Int32} {x7 : Int32} {x8 : Int32} {x9 : Int32} {x10 : Int32} {x11 : Int32} {x12 : Int32} {x13 : Int32} {I : xI} {J : xJ} : SG (Sum.elim (fun o => o.2.2.2.2.2.2.2.2.2.2.2.2.2.1) (fun o => o.2.1)) I (f_X11_beside_18 x1 x2 x3 x4 x5 x6 x7 x8 x9 x10 x11 x12 x13 I J) := by
  unfold f_X11_beside_18; exact (sg_ite (sg_map (sg_at sx_rf (s_f_X11_beside_19))) (sg_at sx_rf (s_f_X11_beside_20)))
theorem s_f_X11_beside_17 {x1 : Int32} {x2 : Int32} {x3 : Int32} {x4 : Int32} {x5 : Int32} {x6 : Int32} {x7 : Int32} {x8 : Int32} {x9 : Int32} {x10 : Int32} {x11 : Int32} {x12 : Int32} {z13 : Option Value} {s0 : Int32} {I : xI} {J : xJ} : SG (Sum.elim (fun o => o.2.2.2.2.2.2.2.2.2.2.2.2.2.1) (fun o => o.2.1)) I (f_X11_beside_17 x1 x2 x3 x4 x5 x6 x7 x8 x9 x10 x11 x12 z13 s0 I J) := by
  unfold f_X11_beside_17; exact (sg_ite (sg_map (sg_at sx_rf (s_f_X11_beside_21))) (sg_at sx_rf (s_f_X11_beside_18)))
theorem s_f_X11_beside_16 {x1 : Int32} {x2 : Int32} {x3 : Int32} {x4 : Int32} {x5 : Int32} {x6 : Int32} {x7 : Int32} {x8 : Int32} {x9 : Int32} {x10 : Int32} {x11 : Int32} {z12 : Option Value} {z13 : Option Value} {s0 : Int32} {I : xI} {J : xJ} : SG (Sum.elim (fun o => o.2.2.2.2.2.2.2.2.2.2.2.2.2.1) (fun o => o.2.1)) I (f_X11_beside_16 x1 x2 x3 x4 x5 x6 x7 x8 x9 x10 x11 z12 z13 s0 I J) := by
  unfold f_X11_beside_16; exact (sg_bind (sg_at sx_rf (s_f_X7_blockBehind)) (fun o ho => (sg_at ho (s_f_X11_beside_17))))
theorem s_f_X11_beside_15 {x1 : Int32} {x2 : Int32} {x3 : Int32} {x4 : Int32} {x5 : Int32} {x6 : Int32} {x7 : Int32} {x8 : Int32} {x9 : Int32} {x10 : Int32} {z11 : Option Value} {z12 : Option Value} {z13 : Option Value} {s0 : Int32} {I : xI} {J : xJ} : SG (Sum.elim (fun o => o.2.2.2.2.2.2.2.2.2.2.2.2.2.1) (fun o => o.2.1)) I (f_X11_beside_15 x1 x2 x3 x4 x5 x6 x7 x8 x9 x10 z11 z12 z13 s0 I J) := by
  unfold f_X11_beside_15; exact (sg_bind (sg_at sx_rf (s_f_X7_blockBehind)) (fun o ho => (sg_at ho (s_f_X11_beside_16))))
theorem s_f_X11_beside_14 {x1 : Int32} {x2 : Int32} {x3 : Int32} {x4 : Int32} {x5 : Int32} {x6 : Int32} {x7 : Int32} {x8 : Int32} {x9 : Int32} {x10 : Int32} {z11 : Option Value} {z12 : Option Value} {z13 : Option Value} {I : xI} {J : xJ} : SG (Sum.elim (fun o => o.2.2.2.2.2.2.2.2.2.2.2.2.2.1) (fun o => o.2.1)) I (f_X11_beside_14 x1 x2 x3 x4 x5 x6 x7 x8 x9 x10 z11 z12 z13 I J) := by
  unfold f_X11_beside_14; exact (sg_bind (sg_at sx_rf (s_f_X5_digitOf)) (fun o ho => (sg_at ho (s_f_X11_beside_15))))
theorem s_b_X11_beside_13 {x1 : Int32} {x2 : Int32} {x3 : Int32} {x4 : Int32} {x5 : Int32} {x6 : Int32} {x7 : Int32} {x8 : Int32} {x9 : Int32} {x10 : Int32} {z11 : Option Value} {z12 : Option Value} {z13 : Option Value} {I : xI} {J : xJ} : SG (Sum.elim (fun o => o.2.2.2.2.2.2.2.2.2.2.2.2.2.1) (fun o => o.2.1)) I (b_X11_beside_13 x1 x2 x3 x4 x5 x6 x7 x8 x9 x10 z11 z12 z13 I J) := by
  unfold b_X11_beside_13; exact (sg_ite (sg_map (sg_at sx_rf (s_f_X11_beside_21))) (sg_at sx_rf (s_f_X11_beside_14)))
theorem s_f_X11_beside_13 {x1 : Int32} {x2 : Int32} {x3 : Int32} {x4 : Int32} {x5 : Int32} {x6 : Int32} {x7 : Int32} {x8 : Int32} {x9 : Int32} {x10 : Int32} {z11 : Option Value} {z12 : Option Value} {z13 : Option Value} {I : xI} {J : xJ} : SG (fun o => o.2.1) I (f_X11_beside_13 x1 x2 x3 x4 x5 x6 x7 x8 x9 x10 z11 z12 z13 I J) := by
  unfold f_X11_beside_13; exact (sg_loop (gs := (fun o => o.2.2.2.2.2.2.2.2.2.2.2.2.2.1)) (fun s => s_b_X11_beside_13) sx_rf)
theorem s_f_X11_beside_12 {x1 : Int32} {x2 : Int32} {x3 : Int32} {x4 : Int32} {x5 : Int32} {x6 : Int32} {x7 : Int32} {x8 : Int32} {s0 : Int32} {I : xI} {J : xJ} : SG (fun o => o.2.1) I (f_X11_beside_12 x1 x2 x3 x4 x5 x6 x7 x8 s0 I J) := by
  unfold f_X11_beside_12; exact (sg_at sx_rf (s_f_X11_beside_13))
theorem s_f_X11_beside_11 {x1 : Int32} {x2 : Int32} {x3 : Int32} {x4 : Int32} {x5 : Int32} {x6 : Int32} {x7 : Int32} {s0 : Int32} {I : xI} {J : xJ} : SG (fun o => o.2.1) I (f_X11_beside_11 x1 x2 x3 x4 x5 x6 x7 s0 I J) := by
  unfold f_X11_beside_11; exact (sg_bind (sg_at sx_rf (s_f_X7_blockOf)) (fun o ho => (sg_at ho (s_f_X11_beside_12))))
theorem s_f_X11_beside_10 {x1 : Int32} {x2 : Int32} {x3 : Int32} {x4 : Int32} {x5 : Int32} {x6 : Int32} {x7 : Int32} {I : xI} {J : xJ} : SG (fun o => o.2.1) I (f_X11_beside_10 x1 x2 x3 x4 x5 x6 x7 I J) := by
  unfold f_X11_beside_10; exact (sg_bind (sg_at sx_rf (s_f_X7_blockOf)) (fun o ho => (sg_at ho (s_f_X11_beside_11))))
theorem s_f_X11_beside_8 {x1 : Int32} {x2 : Int32} {x3 : Int32} {x4 : Int32} {x5 : Int32} {x6 : Int32} {x7 : Int32} {s0 : Int32} {I : xI} {J : xJ} : SG (fun o => o.2.1) I (f_X11_beside_8 x1 x2 x3 x4 x5 x6 x7 s0 I J) := by
  unfold f_X11_beside_8; exact (sg_ite (sg_at sx_rf (s_f_X11_beside_9)) (sg_at sx_rf (s_f_X11_beside_10)))
theorem s_f_X11_beside_7 {x1 : Int32} {x2 : Int32} {x3 : Int32} {x4 : Int32} {x5 : Int32} {x6 : Int32} {x7 : Int32} {I : xI} {J : xJ} : SG (fun o => o.2.1) I (f_X11_beside_7 x1 x2 x3 x4 x5 x6 x7 I J) := by
  unfold f_X11_beside_7; exact (sg_bind (sg_at sx_rf (s_f_X5_hasWord)) (fun o ho => (sg_at ho (s_f_X11_beside_8))))
theorem s_f_X11_beside_6 {x1 : Int32} {x2 : Int32} {x3 : Int32} {x4 : Int32} {x5 : Int32} {x6 : Int32} {x7 : Int32} {s0 : Int32} {I : xI} {J : xJ} : SG (fun o => o.2.1) I (f_X11_beside_6 x1 x2 x3 x4 x5 x6 x7 s0 I J) := by
  unfold f_X11_beside_6; exact (sg_ite (sg_at sx_rf (s_f_X11_beside_9)) (sg_at sx_rf (s_f_X11_beside_7)))
theorem s_f_X11_beside_5 {x1 : Int32} {x2 : Int32} {x3 : Int32} {x4 : Int32} {x5 : Int32} {x6 : Int32} {x7 : Int32} {I : xI} {J : xJ} : SG (fun o => o.2.1) I (f_X11_beside_5 x1 x2 x3 x4 x5 x6 x7 I J) := by
  unfold f_X11_beside_5; exact (sg_bind (sg_at sx_rf (s_f_X5_hasState)) (fun o ho => (sg_at ho (s_f_X11_beside_6))))
theorem s_f_X11_beside_4 {x1 : Int32} {x2 : Int32} {x3 : Int32} {x4 : Int32} {x5 : Int32} {x6 : Int32} {x7 : Int32} {I : xI} {J : xJ} : SG (fun o => o.2.1) I (f_X11_beside_4 x1 x2 x3 x4 x5 x6 x7 I J) := by
  unfold f_X11_beside_4; exact (sg_ite (sg_at sx_rf (s_f_X11_beside_9)) (sg_at sx_rf (s_f_X11_beside_5)))
theorem s_f_X11_beside_3 {x1 : Int32} {x2 : Int32} {x3 : Int32} {x4 : Int32} {x5 : Int32} {x6 : Int32} {s0 : Int32} {I : xI} {J : xJ} : SG (fun o => o.2.1) I (f_X11_beside_3 x1 x2 x3 x4 x5 x6 s0 I J) := by
  unfold f_X11_beside_3; exact (sg_ite (sg_at sx_rf (s_f_X11_beside_9)) (sg_at sx_rf (s_f_X11_beside_4)))
theorem s_f_X11_beside_2 {x1 : Int32} {x2 : Int32} {x3 : Int32} {x4 : Int32} {x5 : Int32} {s0 : Int32} {I : xI} {J : xJ} : SG (fun o => o.2.1) I (f_X11_beside_2 x1 x2 x3 x4 x5 s0 I J) := by
  unfold f_X11_beside_2; exact (sg_bind (sg_at sx_rf (s_f_X7_goingIndexOf)) (fun o ho => (sg_at ho (s_f_X11_beside_3))))
theorem s_f_X11_beside_1 {x1 : Int32} {x2 : Int32} {x3 : Int32} {x4 : Int32} {x5 : Int32} {I : xI} {J : xJ} : SG (fun o => o.2.1) I (f_X11_beside_1 x1 x2 x3 x4 x5 I J) := by
  unfold f_X11_beside_1; exact (sg_bind (sg_at sx_rf (s_f_X7_goingIndexOf)) (fun o ho => (sg_at ho (s_f_X11_beside_2))))
theorem s_f_X11_beside_0 {x1 : Int32} {x2 : Int32} {x3 : Int32} {x4 : Int32} {x5 : Int32} {I : xI} {J : xJ} : SG (fun o => o.2.1) I (f_X11_beside_0 x1 x2 x3 x4 x5 I J) := by
  unfold f_X11_beside_0; exact (sg_bind (sg_at sx_rf (s_f_X11_partitionsNow)) (fun o ho => (sg_at ho (s_f_X11_beside_1))))
theorem s_f_X11_beside {x1 : Int32} {x2 : Int32} {x3 : Int32} {x4 : Int32} {x5 : Int32} {I : xI} {J : xJ} : SG (fun o => o.2.1) I (f_X11_beside x1 x2 x3 x4 x5 I J) := by
  unfold f_X11_beside; exact (sg_at sx_rf (s_f_X11_beside_0))
theorem s_f_X5_hasBit_5 {x1 : Int32} {s0 : Int32} {I : xI} {J : xJ} : SG (fun o => o.2.1) I (f_X5_hasBit_5 x1 s0 I J) := by
  unfold f_X5_hasBit_5; exact (sg_ite (sg_some sx_rf) sg_none)
theorem s_f_X5_hasBit_4 {x1 : Int32} {I : xI} {J : xJ} : SG (fun o => o.2.1) I (f_X5_hasBit_4 x1 I J) := by
  unfold f_X5_hasBit_4; exact (sg_at sx_rf (s_f_X5_hasBit_5))
theorem s_f_X5_bits_7 {s0 : Int32} {I : xI} {J : xJ} : SG (fun o => o.2.1) I (f_X5_bits_7 s0 I J) := by
  unfold f_X5_bits_7; exact (sg_some sx_rf)
theorem s_f_X5_bits_3 {I : xI} {J : xJ} : SG (fun o => o.2.1) I (f_X5_bits_3 I J) := by
  unfold f_X5_bits_3; exact (sg_at sx_rf (s_f_X5_bits_7))
theorem s_f_X5_bits_6 {I : xI} {J : xJ} : SG (fun o => o.2.1) I (f_X5_bits_6 I J) := by
  unfold f_X5_bits_6; exact (sg_at sx_rf (s_f_X5_bits_7))
theorem s_f_X5_bits_5 {I : xI} {J : xJ} : SG (fun o => o.2.1) I (f_X5_bits_5 I J) := by
  unfold f_X5_bits_5; exact (sg_at sx_rf (s_f_X5_bits_7))
theorem s_f_X5_bits_4 {I : xI} {J : xJ} : SG (fun o => o.2.1) I (f_X5_bits_4 I J) := by
  unfold f_X5_bits_4; exact (sg_ite (sg_at sx_rf (s_f_X5_bits_6)) (sg_at sx_rf (s_f_X5_bits_5)))
theorem s_f_X5_bits_2 {I : xI} {J : xJ} : SG (fun o => o.2.1) I (f_X5_bits_2 I J) := by
  unfold f_X5_bits_2; exact (sg_ite (sg_at sx_rf (s_f_X5_bits_3)) (sg_at sx_rf (s_f_X5_bits_4)))
theorem s_f_X5_bits_1 {I : xI} {J : xJ} : SG (fun o => o.2.1) I (f_X5_bits_1 I J) := by
  unfold f_X5_bits_1; exact (sg_some sx_rf)
theorem s_f_X5_bits_0 {I : xI} {J : xJ} : SG (fun o => o.2.1) I (f_X5_bits_0 I J) := by
  unfold f_X5_bits_0; exact (sg_ite (sg_at sx_rf (s_f_X5_bits_2)) (sg_at sx_rf (s_f_X5_bits_1)))
theorem s_f_X5_bits {I : xI} {J : xJ} : SG (fun o => o.2.1) I (f_X5_bits I J) := by
  unfold f_X5_bits; exact (sg_at sx_rf (s_f_X5_bits_0))
theorem s_f_X5_hasBit_3 {x1 : Int32} {I : xI} {J : xJ} : SG (fun o => o.2.1) I (f_X5_hasBit_3 x1 I J) := by
  unfold f_X5_hasBit_3; exact (sg_at sx_rf (s_f_X5_hasBit_5))
theorem s_f_X5_hasBit_2 {x1 : Int32} {s0 : Int32} {s1 : Int32} {I : xI} {J : xJ} : SG (fun o => o.2.1) I (f_X5_hasBit_2 x1 s0 s1 I J) := by
  unfold f_X5_hasBit_2; exact (sg_ite (sg_at sx_rf (s_f_X5_hasBit_4)) (sg_at sx_rf (s_f_X5_hasBit_3)))
theorem s_f_X5_hasBit_1 {x1 : Int32} {I : xI} {J : xJ} : SG (fun o => o.2.1) I (f_X5_hasBit_1 x1 I J) := by
  unfold f_X5_hasBit_1; exact (sg_bind (sg_at sx_rf (s_f_X5_bits)) (fun o ho => (sg_at ho (s_f_X5_hasBit_2))))
theorem s_f_X5_hasBit_0 {x1 : Int32} {I : xI} {J : xJ} : SG (fun o => o.2.1) I (f_X5_hasBit_0 x1 I J) := by
  unfold f_X5_hasBit_0; exact (sg_ite (sg_at sx_rf (s_f_X5_hasBit_4)) (sg_at sx_rf (s_f_X5_hasBit_1)))
theorem s_f_X5_hasBit {x1 : Int32} {I : xI} {J : xJ} : SG (fun o => o.2.1) I (f_X5_hasBit x1 I J) := by
  unfold f_X5_hasBit; exact (sg_at sx_rf (s_f_X5_hasBit_0))
theorem s_f_X11_hangs_4 {x1 : Int32} {x2 : Int32} {I : xI} {J : xJ} : SG (fun o => o.2.1) I (f_X11_hangs_4 x1 x2 I J) := by
  unfold f_X11_hangs_4; exact (sg_some sx_rf)
theorem s_f_X3_alikePairs_4_9 {x2 : Int32} {x3 : Int32} {x4 : Int32} {z5 : Option Value} {I : xI} {J : xJ} : SG (fun o => o.2.1) I (f_X3_alikePairs_4_9 x2 x3 x4 z5 I J) := by
  unfold f_X3_alikePairs_4_9; exact (sg_some sx_rf)
theorem s_f_X3_alikePairs_4_8 {x2 : Int32} {x3 : Int32} {x4 : Int32} {x5 : Int32} {I : xI} {J : xJ} : SG (Sum.elim (fun o => o.2.2.2.2.1) (fun o => o.2.1)) I (f_X3_alikePairs_4_8 x2 x3 x4 x5 I J) := by
  unfold f_X3_alikePairs_4_8; exact (sg_some sx_rf)
theorem s_f_X3_alikePairs_4_7 {x2 : Int32} {x3 : Int32} {x4 : Int32} {x5 : Int32} {I : xI} {J : xJ} : SG (Sum.elim (fun o => o.2.2.2.2.1) (Sum.elim (fun o => o.2.2.2.2.1) (fun o => o.2.1))) I (f_X3_alikePairs_4_7 x2 x3 x4 x5 I J) := by
  unfold f_X3_alikePairs_4_7; exact (sg_some sx_rf)
theorem s_f_X3_alikePairs_4_6 {x2 : Int32} {x3 : Int32} {x4 : Int32} {x5 : Int32} {s0 : Int32} {s1 : Int32} {I : xI} {J : xJ} : SG (Sum.elim (fun o => o.2.2.2.2.1) (Sum.elim (fun o => o.2.2.2.2.1) (fun o => o.2.1))) I (f_X3_alikePairs_4_6 x2 x3 x4 x5 s0 s1 I J) := by
  unfold f_X3_alikePairs_4_6; exact (sg_at sx_rf (s_f_X3_alikePairs_4_7))
theorem s_f_X3_alikePairs_4_5 {x2 : Int32} {x3 : Int32} {x4 : Int32} {x5 : Int32} {I : xI} {J : xJ} : SG (Sum.elim (fun o => o.2.2.2.2.1) (Sum.elim (fun o => o.2.2.2.2.1) (fun o => o.2.1))) I (f_X3_alikePairs_4_5 x2 x3 x4 x5 I J) := by
  unfold f_X3_alikePairs_4_5; exact (sg_bind (sg_at sx_rf (s_f_X11_pairOf)) (fun o ho => (sg_at ho (s_f_X3_alikePairs_4_6))))
theorem s_f_X3_alikePairs_4_4 {x2 : Int32} {x3 : Int32} {x4 : Int32} {x5 : Int32} {I : xI} {J : xJ} : SG (Sum.elim (fun o => o.2.2.2.2.1) (Sum.elim (fun o => o.2.2.2.2.1) (fun o => o.2.1))) I (f_X3_alikePairs_4_4 x2 x3 x4 x5 I J) := by
  unfold f_X3_alikePairs_4_4; exact (sg_ite sg_none (sg_ite sg_none (sg_ite (sg_at sx_rf (s_f_X3_alikePairs_4_5)) (sg_at sx_rf (s_f_X3_alikePairs_4_7)))))
theorem s_b_X3_alikePairs_4_3 {x2 : Int32} {x3 : Int32} {x4 : Int32} {x5 : Int32} {I : xI} {J : xJ} : SG (Sum.elim (fun o => o.2.2.2.2.1) (Sum.elim (fun o => o.2.2.2.2.1) (fun o => o.2.1))) I (b_X3_alikePairs_4_3 x2 x3 x4 x5 I J) := by
  unfold b_X3_alikePairs_4_3; exact (sg_ite (sg_map (sg_at sx_rf (s_f_X3_alikePairs_4_8))) (sg_at sx_rf (s_f_X3_alikePairs_4_4)))
theorem s_f_X3_alikePairs_4_3 {x2 : Int32} {x3 : Int32} {x4 : Int32} {x5 : Int32} {I : xI} {J : xJ} : SG (Sum.elim (fun o => o.2.2.2.2.1) (fun o => o.2.1)) I (f_X3_alikePairs_4_3 x2 x3 x4 x5 I J) := by
  unfold f_X3_alikePairs_4_3; exact (sg_loop (gs := (fun o => o.2.2.2.2.1)) (fun s => s_b_X3_alikePairs_4_3) sx_rf)
theorem s_f_X3_alikePairs_4_2 {x2 : Int32} {x3 : Int32} {x4 : Int32} {z5 : Option Value} {I : xI} {J : xJ} : SG (Sum.elim (fun o => o.2.2.2.2.1) (fun o => o.2.1)) I (f_X3_alikePairs_4_2 x2 x3 x4 z5 I J) := by
  unfold f_X3_alikePairs_4_2; exact (sg_at sx_rf (s_f_X3_alikePairs_4_3))
theorem s_b_X3_alikePairs_4_1 {x2 : Int32} {x3 : Int32} {x4 : Int32} {z5 : Option Value} {I : xI} {J : xJ} : SG (Sum.elim (fun o => o.2.2.2.2.1) (fun o => o.2.1)) I (b_X3_alikePairs_4_1 x2 x3 x4 z5 I J) := by
  unfold b_X3_alikePairs_4_1; exact (sg_ite (sg_map (sg_at sx_rf (s_f_X3_alikePairs_4_9))) (sg_at sx_rf (s_f_X3_alikePairs_4_2)))
theorem s_f_X3_alikePairs_4_1 {x2 : Int32} {x3 : Int32} {x4 : Int32} {z5 : Option Value} {I : xI} {J : xJ} : SG (fun o => o.2.1) I (f_X3_alikePairs_4_1 x2 x3 x4 z5 I J) := by
  unfold f_X3_alikePairs_4_1; exact (sg_loop (gs := (fun o => o.2.2.2.2.1)) (fun s => s_b_X3_alikePairs_4_1) sx_rf)
theorem s_f_X3_alikePairs_4_0 {x2 : Int32} {I : xI} {J : xJ} : SG (fun o => o.2.1) I (f_X3_alikePairs_4_0 x2 I J) := by
  unfold f_X3_alikePairs_4_0; exact (sg_at sx_rf (s_f_X3_alikePairs_4_1))
theorem s_f_X3_alikePairs_4 {x2 : Int32} {I : xI} {J : xJ} : SG (fun o => o.2.1) I (f_X3_alikePairs_4 x2 I J) := by
  unfold f_X3_alikePairs_4; exact (sg_at sx_rf (s_f_X3_alikePairs_4_0))
theorem s_f_X3_load_4_18 {x2 : Int32} {x3 : Int32} {z4 : Option Value} {z5 : Option Value} {I : xI} {J : xJ} : SG (fun o => o.2.1) I (f_X3_load_4_18 x2 x3 z4 z5 I J) := by
  unfold f_X3_load_4_18; exact (sg_some sx_rf)
theorem s_f_X3_load_4_17 {x2 : Int32} {x3 : Int32} {x4 : Int32} {x5 : Int32} {s1 : Int32} {s2 : Int32} {I : xI} {J : xJ} : SG (Sum.elim (fun o => o.2.2.2.2.1) (fun o => o.2.1)) I (f_X3_load_4_17 x2 x3 x4 x5 s1 s2 I J) := by
  unfold f_X3_load_4_17; exact (sg_ite sg_none (sg_some (sx_upc sx_rf rfl)))
