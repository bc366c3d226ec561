theorem xr_0_0 : xc_X0_init.all (xrow 0 RX0 cX0_init) = true := by decide +kernel
theorem xm_0 : xokm 0 := ⟨by decide +kernel, xr_0_0⟩
theorem xr_1_0 : xc_X0_refresh.all (xrow 0 RX0 cX0_refresh) = true := by decide +kernel
theorem xm_1 : xokm 1 := ⟨by decide +kernel, xr_1_0⟩
theorem xr_2_0 : (xc_X0_assign.take 60).all (xrow 0 RX0 cX0_assign) = true := by decide +kernel
theorem xr_2_1 : (xc_X0_assign.drop 60).all (xrow 0 RX0 cX0_assign) = true := by decide +kernel
theorem xrj_2_0 : xc_X0_assign.all (xrow 0 RX0 cX0_assign) = true := xall_join 60 xr_2_0 xr_2_1
theorem xm_2 : xokm 2 := ⟨by decide +kernel, xrj_2_0⟩
theorem xr_3_0 : xc_X0_areBitsInOrder.all (xrow 0 RX0 cX0_areBitsInOrder) = true := by decide +kernel
theorem xm_3 : xokm 3 := ⟨by decide +kernel, xr_3_0⟩
theorem xr_4_0 : xc_X0_isFirstIn.all (xrow 0 RX0 cX0_isFirstIn) = true := by decide +kernel
theorem xm_4 : xokm 4 := ⟨by decide +kernel, xr_4_0⟩
theorem xr_5_0 : xc_X0_canBeLess.all (xrow 0 RX0 cX0_canBeLess) = true := by decide +kernel
theorem xm_5 : xokm 5 := ⟨by decide +kernel, xr_5_0⟩
theorem xr_6_0 : xc_X0_weigh.all (xrow 0 RX0 cX0_weigh) = true := by decide +kernel
theorem xm_6 : xokm 6 := ⟨by decide +kernel, xr_6_0⟩
theorem xr_7_0 : xc_X1_init.all (xrow 1 RX1 cX1_init) = true := by decide +kernel
theorem xm_7 : xokm 7 := ⟨by decide +kernel, xr_7_0⟩
theorem xr_8_0 : xc_X1_refresh.all (xrow 1 RX1 cX1_refresh) = true := by decide +kernel
theorem xm_8 : xokm 8 := ⟨by decide +kernel, xr_8_0⟩
theorem xr_9_0 : xc_X1_pairsIn.all (xrow 1 RX1 cX1_pairsIn) = true := by decide +kernel
theorem xm_9 : xokm 9 := ⟨by decide +kernel, xr_9_0⟩
theorem xr_10_0 : xc_X1_addClass.all (xrow 1 RX1 cX1_addClass) = true := by decide +kernel
theorem xm_10 : xokm 10 := ⟨by decide +kernel, xr_10_0⟩
theorem xr_11_0 : xc_X1_gatherGreatest.all (xrow 1 RX1 cX1_gatherGreatest) = true := by decide +kernel
theorem xm_11 : xokm 11 := ⟨by decide +kernel, xr_11_0⟩
theorem xr_12_0 : xc_X1_isGreatest.all (xrow 1 RX1 cX1_isGreatest) = true := by decide +kernel
theorem xm_12 : xokm 12 := ⟨by decide +kernel, xr_12_0⟩
theorem xr_13_0 : xc_X1_refreshFewest.all (xrow 1 RX1 cX1_refreshFewest) = true := by decide +kernel
theorem xm_13 : xokm 13 := ⟨by decide +kernel, xr_13_0⟩
theorem xr_14_0 : (xc_X1_choose.take 60).all (xrow 1 RX1 cX1_choose) = true := by decide +kernel
theorem xr_14_1 : (xc_X1_choose.drop 60).all (xrow 1 RX1 cX1_choose) = true := by decide +kernel
theorem xrj_14_0 : xc_X1_choose.all (xrow 1 RX1 cX1_choose) = true := xall_join 60 xr_14_0 xr_14_1
theorem xm_14 : xokm 14 := ⟨by decide +kernel, xrj_14_0⟩
theorem xr_15_0 : xc_X1_isClosed.all (xrow 1 RX1 cX1_isClosed) = true := by decide +kernel
theorem xm_15 : xokm 15 := ⟨by decide +kernel, xr_15_0⟩
theorem xr_16_0 : xc_X1_isInChosen.all (xrow 1 RX1 cX1_isInChosen) = true := by decide +kernel
theorem xm_16 : xokm 16 := ⟨by decide +kernel, xr_16_0⟩
theorem xr_17_0 : xc_X1_hasFewest.all (xrow 1 RX1 cX1_hasFewest) = true := by decide +kernel
theorem xm_17 : xokm 17 := ⟨by decide +kernel, xr_17_0⟩
theorem xr_18_0 : xc_X1_smallTarget.all (xrow 1 RX1 cX1_smallTarget) = true := by decide +kernel
theorem xm_18 : xokm 18 := ⟨by decide +kernel, xr_18_0⟩
theorem xr_19_0 : xc_X1_firstHolding.all (xrow 1 RX1 cX1_firstHolding) = true := by decide +kernel
theorem xm_19 : xokm 19 := ⟨by decide +kernel, xr_19_0⟩
theorem xr_20_0 : xc_X1_smallAnswer.all (xrow 1 RX1 cX1_smallAnswer) = true := by decide +kernel
theorem xm_20 : xokm 20 := ⟨by decide +kernel, xr_20_0⟩
theorem xr_21_0 : xc_X1_homeOf.all (xrow 1 RX1 cX1_homeOf) = true := by decide +kernel
theorem xm_21 : xokm 21 := ⟨by decide +kernel, xr_21_0⟩
theorem xr_22_0 : xc_X1_metBy.all (xrow 1 RX1 cX1_metBy) = true := by decide +kernel
theorem xm_22 : xokm 22 := ⟨by decide +kernel, xr_22_0⟩
theorem xr_23_0 : xc_X1_metCount.all (xrow 1 RX1 cX1_metCount) = true := by decide +kernel
theorem xm_23 : xokm 23 := ⟨by decide +kernel, xr_23_0⟩
theorem xr_24_0 : (xc_X2_init.take 60).all (xrow 2 RX2 cX2_init) = true := by decide +kernel
theorem xr_24_1 : (xc_X2_init.drop 60).all (xrow 2 RX2 cX2_init) = true := by decide +kernel
theorem xrj_24_0 : xc_X2_init.all (xrow 2 RX2 cX2_init) = true := xall_join 60 xr_24_0 xr_24_1
theorem xm_24 : xokm 24 := ⟨by decide +kernel, xrj_24_0⟩
theorem xr_25_0 : xc_X2_isIn.all (xrow 2 RX2 cX2_isIn) = true := by decide +kernel
theorem xm_25 : xokm 25 := ⟨by decide +kernel, xr_25_0⟩
theorem xr_26_0 : xc_X2_look.all (xrow 2 RX2 cX2_look) = true := by decide +kernel
theorem xm_26 : xokm 26 := ⟨by decide +kernel, xr_26_0⟩
theorem xr_27_0 : xc_X2_aim.all (xrow 2 RX2 cX2_aim) = true := by decide +kernel
theorem xm_27 : xokm 27 := ⟨by decide +kernel, xr_27_0⟩
theorem xr_28_0 : (xc_X2_least.take 60).all (xrow 2 RX2 cX2_least) = true := by decide +kernel
theorem xr_28_1 : (xc_X2_least.drop 60).all (xrow 2 RX2 cX2_least) = true := by decide +kernel
theorem xrj_28_0 : xc_X2_least.all (xrow 2 RX2 cX2_least) = true := xall_join 60 xr_28_0 xr_28_1
theorem xm_28 : xokm 28 := ⟨by decide +kernel, xrj_28_0⟩
theorem xr_29_0 : xc_X2_list.all (xrow 2 RX2 cX2_list) = true := by decide +kernel
theorem xm_29 : xokm 29 := ⟨by decide +kernel, xr_29_0⟩
theorem xr_30_0 : (xc_X2_choose.take 60).all (xrow 2 RX2 cX2_choose) = true := by decide +kernel
theorem xr_30_1 : (xc_X2_choose.drop 60).all (xrow 2 RX2 cX2_choose) = true := by decide +kernel
theorem xrj_30_0 : xc_X2_choose.all (xrow 2 RX2 cX2_choose) = true := xall_join 60 xr_30_0 xr_30_1
theorem xm_30 : xokm 30 := ⟨by decide +kernel, xrj_30_0⟩
theorem xr_31_0 : xc_X2_total.all (xrow 2 RX2 cX2_total) = true := by decide +kernel
theorem xm_31 : xokm 31 := ⟨by decide +kernel, xr_31_0⟩
theorem xr_32_0 : xc_X2_nextCode.all (xrow 2 RX2 cX2_nextCode) = true := by decide +kernel
theorem xm_32 : xokm 32 := ⟨by decide +kernel, xr_32_0⟩
theorem xr_33_0 : xc_X3_init.all (xrow 3 RX3 cX3_init) = true := by decide +kernel
theorem xm_33 : xokm 33 := ⟨by decide +kernel, xr_33_0⟩
theorem xr_34_0 : (xc_X3_load.take 60).all (xrow 3 RX3 cX3_load) = true := by decide +kernel
theorem xr_34_1 : (xc_X3_load.drop 60).all (xrow 3 RX3 cX3_load) = true := by decide +kernel
theorem xrj_34_0 : xc_X3_load.all (xrow 3 RX3 cX3_load) = true := xall_join 60 xr_34_0 xr_34_1
theorem xm_34 : xokm 34 := ⟨by decide +kernel, xrj_34_0⟩
theorem xr_35_0 : xc_X3_alikePairs.all (xrow 3 RX3 cX3_alikePairs) = true := by decide +kernel
theorem xm_35 : xokm 35 := ⟨by decide +kernel, xr_35_0⟩
theorem xr_36_0 : xc_X3_leastSet.all (xrow 3 RX3 cX3_leastSet) = true := by decide +kernel
theorem xm_36 : xokm 36 := ⟨by decide +kernel, xr_36_0⟩
theorem xr_37_0 : xc_X3_total.all (xrow 3 RX3 cX3_total) = true := by decide +kernel
theorem xm_37 : xokm 37 := ⟨by decide +kernel, xr_37_0⟩
theorem xr_38_0 : xc_X4_init.all (xrow 4 RX4 cX4_init) = true := by decide +kernel
theorem xm_38 : xokm 38 := ⟨by decide +kernel, xr_38_0⟩
theorem xr_39_0 : xc_X4_keepMove.all (xrow 4 RX4 cX4_keepMove) = true := by decide +kernel
theorem xm_39 : xokm 39 := ⟨by decide +kernel, xr_39_0⟩
theorem xr_40_0 : xc_X4_keepCode.all (xrow 4 RX4 cX4_keepCode) = true := by decide +kernel
theorem xm_40 : xokm 40 := ⟨by decide +kernel, xr_40_0⟩
theorem xr_41_0 : xc_X4_keep.all (xrow 4 RX4 cX4_keep) = true := by decide +kernel
theorem xm_41 : xokm 41 := ⟨by decide +kernel, xr_41_0⟩
theorem xr_42_0 : (xc_X4_takeBack.take 60).all (xrow 4 RX4 cX4_takeBack) = true := by decide +kernel
theorem xr_42_1 : (xc_X4_takeBack.drop 60).all (xrow 4 RX4 cX4_takeBack) = true := by decide +kernel
theorem xrj_42_0 : xc_X4_takeBack.all (xrow 4 RX4 cX4_takeBack) = true := xall_join 60 xr_42_0 xr_42_1
theorem xm_42 : xokm 42 := ⟨by decide +kernel, xrj_42_0⟩
theorem xr_43_0 : xc_X4_forgetDeeds.all (xrow 4 RX4 cX4_forgetDeeds) = true := by decide +kernel
theorem xm_43 : xokm 43 := ⟨by decide +kernel, xr_43_0⟩
theorem xr_44_0 : xc_X4_emptySlots.all (xrow 4 RX4 cX4_emptySlots) = true := by decide +kernel
theorem xm_44 : xokm 44 := ⟨by decide +kernel, xr_44_0⟩
theorem xr_45_0 : xc_X4_keepSlot.all (xrow 4 RX4 cX4_keepSlot) = true := by decide +kernel
theorem xm_45 : xokm 45 := ⟨by decide +kernel, xr_45_0⟩
theorem xr_46_0 : xc_X4_takeSlot.all (xrow 4 RX4 cX4_takeSlot) = true := by decide +kernel
theorem xm_46 : xokm 46 := ⟨by decide +kernel, xr_46_0⟩
theorem xr_47_0 : xc_X4_slotCount.all (xrow 4 RX4 cX4_slotCount) = true := by decide +kernel
theorem xm_47 : xokm 47 := ⟨by decide +kernel, xr_47_0⟩
theorem xr_48_0 : xc_X5_init.all (xrow 5 RX5 cX5_init) = true := by decide +kernel
theorem xm_48 : xokm 48 := ⟨by decide +kernel, xr_48_0⟩
theorem xr_49_0 : xc_X5_begin.all (xrow 5 RX5 cX5_begin) = true := by decide +kernel
theorem xm_49 : xokm 49 := ⟨by decide +kernel, xr_49_0⟩
theorem xr_50_0 : xc_X5_copyFrom.all (xrow 5 RX5 cX5_copyFrom) = true := by decide +kernel
theorem xm_50 : xokm 50 := ⟨by decide +kernel, xr_50_0⟩
theorem xr_51_0 : xc_X5_hasState.all (xrow 5 RX5 cX5_hasState) = true := by decide +kernel
theorem xm_51 : xokm 51 := ⟨by decide +kernel, xr_51_0⟩
theorem xr_52_0 : xc_X5_hasInput.all (xrow 5 RX5 cX5_hasInput) = true := by decide +kernel
theorem xm_52 : xokm 52 := ⟨by decide +kernel, xr_52_0⟩
theorem xr_53_0 : xc_X5_hasSet.all (xrow 5 RX5 cX5_hasSet) = true := by decide +kernel
theorem xm_53 : xokm 53 := ⟨by decide +kernel, xr_53_0⟩
theorem xr_54_0 : xc_X5_hasBit.all (xrow 5 RX5 cX5_hasBit) = true := by decide +kernel
theorem xm_54 : xokm 54 := ⟨by decide +kernel, xr_54_0⟩
theorem xr_55_0 : xc_X5_hasWord.all (xrow 5 RX5 cX5_hasWord) = true := by decide +kernel
theorem xm_55 : xokm 55 := ⟨by decide +kernel, xr_55_0⟩
theorem xr_56_0 : xc_X5_digitOf.all (xrow 5 RX5 cX5_digitOf) = true := by decide +kernel
theorem xm_56 : xokm 56 := ⟨by decide +kernel, xr_56_0⟩
theorem xr_57_0 : xc_X5_targetOf.all (xrow 5 RX5 cX5_targetOf) = true := by decide +kernel
theorem xm_57 : xokm 57 := ⟨by decide +kernel, xr_57_0⟩
theorem xr_58_0 : xc_X5_answerOf.all (xrow 5 RX5 cX5_answerOf) = true := by decide +kernel
theorem xm_58 : xokm 58 := ⟨by decide +kernel, xr_58_0⟩
