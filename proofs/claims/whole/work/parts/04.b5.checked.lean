theorem xr_284_0 : xc_X12_howFew.all (xrow 12 RX12 cX12_howFew) = true := by decide +kernel
theorem xm_284 : xokm 284 := ⟨by decide +kernel, xr_284_0⟩
theorem xr_285_0 : xc_X12_sumNow.all (xrow 12 RX12 cX12_sumNow) = true := by decide +kernel
theorem xm_285 : xokm 285 := ⟨by decide +kernel, xr_285_0⟩
theorem xr_286_0 : (xc_X12_laysCubes.take 60).all (xrow 12 RX12 cX12_laysCubes) = true := by decide +kernel
theorem xr_286_1 : (xc_X12_laysCubes.drop 60).all (xrow 12 RX12 cX12_laysCubes) = true := by decide +kernel
theorem xrj_286_0 : xc_X12_laysCubes.all (xrow 12 RX12 cX12_laysCubes) = true := xall_join 60 xr_286_0 xr_286_1
theorem xm_286 : xokm 286 := ⟨by decide +kernel, xrj_286_0⟩
theorem xr_287_0 : xc_X12_isBit.all (xrow 12 RX12 cX12_isBit) = true := by decide +kernel
theorem xm_287 : xokm 287 := ⟨by decide +kernel, xr_287_0⟩
theorem xr_288_0 : xc_X12_cube.all (xrow 12 RX12 cX12_cube) = true := by decide +kernel
theorem xm_288 : xokm 288 := ⟨by decide +kernel, xr_288_0⟩
theorem xr_289_0 : xc_X12_sum.all (xrow 12 RX12 cX12_sum) = true := by decide +kernel
theorem xm_289 : xokm 289 := ⟨by decide +kernel, xr_289_0⟩
theorem xr_290_0 : (xc_X12_coded.take 60).all (xrow 12 RX12 cX12_coded) = true := by decide +kernel
theorem xr_290_1 : (xc_X12_coded.drop 60).all (xrow 12 RX12 cX12_coded) = true := by decide +kernel
theorem xrj_290_0 : xc_X12_coded.all (xrow 12 RX12 cX12_coded) = true := xall_join 60 xr_290_0 xr_290_1
theorem xm_290 : xokm 290 := ⟨by decide +kernel, xrj_290_0⟩
theorem xr_291_0 : (xc_X12_laysBest.take 60).all (xrow 12 RX12 cX12_laysBest) = true := by decide +kernel
theorem xr_291_1 : (xc_X12_laysBest.drop 60).all (xrow 12 RX12 cX12_laysBest) = true := by decide +kernel
theorem xrj_291_0 : xc_X12_laysBest.all (xrow 12 RX12 cX12_laysBest) = true := xall_join 60 xr_291_0 xr_291_1
theorem xm_291 : xokm 291 := ⟨by decide +kernel, xrj_291_0⟩
theorem xr_292_0 : xc_X12_isTaken.all (xrow 12 RX12 cX12_isTaken) = true := by decide +kernel
theorem xm_292 : xokm 292 := ⟨by decide +kernel, xr_292_0⟩
theorem xr_293_0 : xc_X12_weighs.all (xrow 12 RX12 cX12_weighs) = true := by decide +kernel
theorem xm_293 : xokm 293 := ⟨by decide +kernel, xr_293_0⟩
theorem xr_294_0 : xc_X12_best.all (xrow 12 RX12 cX12_best) = true := by decide +kernel
theorem xm_294 : xokm 294 := ⟨by decide +kernel, xr_294_0⟩
theorem xr_295_0 : xc_X12_untold.all (xrow 12 RX12 cX12_untold) = true := by decide +kernel
theorem xm_295 : xokm 295 := ⟨by decide +kernel, xr_295_0⟩
theorem xr_296_0 : xc_X12_unreached.all (xrow 12 RX12 cX12_unreached) = true := by decide +kernel
theorem xm_296 : xokm 296 := ⟨by decide +kernel, xr_296_0⟩
theorem xr_297_0 : (xc_X12_count.take 60).all (xrow 12 RX12 cX12_count) = true := by decide +kernel
theorem xr_297_1 : ((xc_X12_count.drop 60).take 60).all (xrow 12 RX12 cX12_count) = true := by decide +kernel
theorem xr_297_2 : ((xc_X12_count.drop 120).take 60).all (xrow 12 RX12 cX12_count) = true := by decide +kernel
theorem xr_297_3 : (xc_X12_count.drop 180).all (xrow 12 RX12 cX12_count) = true := by decide +kernel
theorem xrj_297_2 : (xc_X12_count.drop 120).all (xrow 12 RX12 cX12_count) = true := xall_join 60 xr_297_2 (by rw [List.drop_drop]; exact xr_297_3)
theorem xrj_297_1 : (xc_X12_count.drop 60).all (xrow 12 RX12 cX12_count) = true := xall_join 60 xr_297_1 (by rw [List.drop_drop]; exact xrj_297_2)
theorem xrj_297_0 : xc_X12_count.all (xrow 12 RX12 cX12_count) = true := xall_join 60 xr_297_0 xrj_297_1
theorem xm_297 : xokm 297 := ⟨by decide +kernel, xrj_297_0⟩
theorem xr_298_0 : xc_J6_numberOfTrailingZeros_0f7a4.all (xrow 24 RJ6 cJ6_numberOfTrailingZeros_0f7a4) = true := by decide +kernel
theorem xm_298 : xokm 298 := ⟨by decide +kernel, xr_298_0⟩
theorem xr_299_0 : xc_J6_bitCount_0f7a4.all (xrow 24 RJ6 cJ6_bitCount_0f7a4) = true := by decide +kernel
theorem xm_299 : xokm 299 := ⟨by decide +kernel, xr_299_0⟩
theorem xr_300_0 : xc_J0_length_8abf5.all (xrow 20 RJ0 cJ0_length_8abf5) = true := by decide +kernel
theorem xm_300 : xokm 300 := ⟨by decide +kernel, xr_300_0⟩
theorem xr_301_0 : xc_J0_isEmpty_aae02.all (xrow 20 RJ0 cJ0_isEmpty_aae02) = true := by decide +kernel
theorem xm_301 : xokm 301 := ⟨by decide +kernel, xr_301_0⟩
theorem xr_302_0 : xc_J0_charAt_5068e.all (xrow 20 RJ0 cJ0_charAt_5068e) = true := by decide +kernel
theorem xm_302 : xokm 302 := ⟨by decide +kernel, xr_302_0⟩
theorem xr_303_0 : xc_J0_coder_7d493.all (xrow 20 RJ0 cJ0_coder_7d493) = true := by decide +kernel
theorem xm_303 : xokm 303 := ⟨by decide +kernel, xr_303_0⟩
theorem xr_304_0 : xc_J0_isLatin1_aae02.all (xrow 20 RJ0 cJ0_isLatin1_aae02) = true := by decide +kernel
theorem xm_304 : xokm 304 := ⟨by decide +kernel, xr_304_0⟩
theorem xr_305_0 : xc_J0_checkIndex_df160.all (xrow 20 RJ0 cJ0_checkIndex_df160) = true := by decide +kernel
theorem xm_305 : xokm 305 := ⟨by decide +kernel, xr_305_0⟩
theorem xr_306_0 : xc_J1_charAt_3b067.all (xrow 21 RJ1 cJ1_charAt_3b067) = true := by decide +kernel
theorem xm_306 : xokm 306 := ⟨by decide +kernel, xr_306_0⟩
theorem xr_307_0 : xc_J7_fill_53178.all (xrow 26 RJ7 cJ7_fill_53178) = true := by decide +kernel
theorem xm_307 : xokm 307 := ⟨by decide +kernel, xr_307_0⟩
theorem xr_308_0 : xc_J3_checkIndex_8e157.all (xrow 23 RJ3 cJ3_checkIndex_8e157) = true := by decide +kernel
theorem xm_308 : xokm 308 := ⟨by decide +kernel, xr_308_0⟩
theorem xr_309_0 : (xc_L_law.take 60).all (xrow 27 RL cL_law) = true := by decide +kernel
theorem xr_309_1 : ((xc_L_law.drop 60).take 60).all (xrow 27 RL cL_law) = true := by decide +kernel
theorem xr_309_2 : ((xc_L_law.drop 120).take 60).all (xrow 27 RL cL_law) = true := by decide +kernel
theorem xr_309_3 : ((xc_L_law.drop 180).take 60).all (xrow 27 RL cL_law) = true := by decide +kernel
theorem xr_309_4 : ((xc_L_law.drop 240).take 60).all (xrow 27 RL cL_law) = true := by decide +kernel
theorem xr_309_5 : ((xc_L_law.drop 300).take 60).all (xrow 27 RL cL_law) = true := by decide +kernel
theorem xr_309_6 : ((xc_L_law.drop 360).take 60).all (xrow 27 RL cL_law) = true := by decide +kernel
theorem xr_309_7 : ((xc_L_law.drop 420).take 60).all (xrow 27 RL cL_law) = true := by decide +kernel
theorem xr_309_8 : ((xc_L_law.drop 480).take 60).all (xrow 27 RL cL_law) = true := by decide +kernel
theorem xr_309_9 : ((xc_L_law.drop 540).take 60).all (xrow 27 RL cL_law) = true := by decide +kernel
theorem xr_309_10 : ((xc_L_law.drop 600).take 60).all (xrow 27 RL cL_law) = true := by decide +kernel
theorem xr_309_11 : ((xc_L_law.drop 660).take 60).all (xrow 27 RL cL_law) = true := by decide +kernel
theorem xr_309_12 : ((xc_L_law.drop 720).take 60).all (xrow 27 RL cL_law) = true := by decide +kernel
theorem xr_309_13 : ((xc_L_law.drop 780).take 60).all (xrow 27 RL cL_law) = true := by decide +kernel
theorem xr_309_14 : ((xc_L_law.drop 840).take 60).all (xrow 27 RL cL_law) = true := by decide +kernel
theorem xr_309_15 : ((xc_L_law.drop 900).take 60).all (xrow 27 RL cL_law) = true := by decide +kernel
theorem xr_309_16 : (xc_L_law.drop 960).all (xrow 27 RL cL_law) = true := by decide +kernel
theorem xrj_309_15 : (xc_L_law.drop 900).all (xrow 27 RL cL_law) = true := xall_join 60 xr_309_15 (by rw [List.drop_drop]; exact xr_309_16)
theorem xrj_309_14 : (xc_L_law.drop 840).all (xrow 27 RL cL_law) = true := xall_join 60 xr_309_14 (by rw [List.drop_drop]; exact xrj_309_15)
theorem xrj_309_13 : (xc_L_law.drop 780).all (xrow 27 RL cL_law) = true := xall_join 60 xr_309_13 (by rw [List.drop_drop]; exact xrj_309_14)
theorem xrj_309_12 : (xc_L_law.drop 720).all (xrow 27 RL cL_law) = true := xall_join 60 xr_309_12 (by rw [List.drop_drop]; exact xrj_309_13)
theorem xrj_309_11 : (xc_L_law.drop 660).all (xrow 27 RL cL_law) = true := xall_join 60 xr_309_11 (by rw [List.drop_drop]; exact xrj_309_12)
theorem xrj_309_10 : (xc_L_law.drop 600).all (xrow 27 RL cL_law) = true := xall_join 60 xr_309_10 (by rw [List.drop_drop]; exact xrj_309_11)
theorem xrj_309_9 : (xc_L_law.drop 540).all (xrow 27 RL cL_law) = true := xall_join 60 xr_309_9 (by rw [List.drop_drop]; exact xrj_309_10)
theorem xrj_309_8 : (xc_L_law.drop 480).all (xrow 27 RL cL_law) = true := xall_join 60 xr_309_8 (by rw [List.drop_drop]; exact xrj_309_9)
theorem xrj_309_7 : (xc_L_law.drop 420).all (xrow 27 RL cL_law) = true := xall_join 60 xr_309_7 (by rw [List.drop_drop]; exact xrj_309_8)
theorem xrj_309_6 : (xc_L_law.drop 360).all (xrow 27 RL cL_law) = true := xall_join 60 xr_309_6 (by rw [List.drop_drop]; exact xrj_309_7)
theorem xrj_309_5 : (xc_L_law.drop 300).all (xrow 27 RL cL_law) = true := xall_join 60 xr_309_5 (by rw [List.drop_drop]; exact xrj_309_6)
theorem xrj_309_4 : (xc_L_law.drop 240).all (xrow 27 RL cL_law) = true := xall_join 60 xr_309_4 (by rw [List.drop_drop]; exact xrj_309_5)
theorem xrj_309_3 : (xc_L_law.drop 180).all (xrow 27 RL cL_law) = true := xall_join 60 xr_309_3 (by rw [List.drop_drop]; exact xrj_309_4)
theorem xrj_309_2 : (xc_L_law.drop 120).all (xrow 27 RL cL_law) = true := xall_join 60 xr_309_2 (by rw [List.drop_drop]; exact xrj_309_3)
theorem xrj_309_1 : (xc_L_law.drop 60).all (xrow 27 RL cL_law) = true := xall_join 60 xr_309_1 (by rw [List.drop_drop]; exact xrj_309_2)
theorem xrj_309_0 : xc_L_law.all (xrow 27 RL cL_law) = true := xall_join 60 xr_309_0 xrj_309_1
theorem xm_309 : xokm 309 := ⟨by decide +kernel, xrj_309_0⟩
