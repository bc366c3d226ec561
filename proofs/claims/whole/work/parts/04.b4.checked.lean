theorem xr_235_0 : xc_X12_classes.all (xrow 12 RX12 cX12_classes) = true := by decide +kernel
theorem xm_235 : xokm 235 := ⟨by decide +kernel, xr_235_0⟩
theorem xr_236_0 : xc_X12_ofRow.all (xrow 12 RX12 cX12_ofRow) = true := by decide +kernel
theorem xm_236 : xokm 236 := ⟨by decide +kernel, xr_236_0⟩
theorem xr_237_0 : xc_X12_greatest.all (xrow 12 RX12 cX12_greatest) = true := by decide +kernel
theorem xm_237 : xokm 237 := ⟨by decide +kernel, xr_237_0⟩
theorem xr_238_0 : xc_X12_isSet.all (xrow 12 RX12 cX12_isSet) = true := by decide +kernel
theorem xm_238 : xokm 238 := ⟨by decide +kernel, xr_238_0⟩
theorem xr_239_0 : xc_X12_isClass.all (xrow 12 RX12 cX12_isClass) = true := by decide +kernel
theorem xm_239 : xokm 239 := ⟨by decide +kernel, xr_239_0⟩
theorem xr_240_0 : xc_X12_ledTo.all (xrow 12 RX12 cX12_ledTo) = true := by decide +kernel
theorem xm_240 : xokm 240 := ⟨by decide +kernel, xr_240_0⟩
theorem xr_241_0 : xc_X12_leads.all (xrow 12 RX12 cX12_leads) = true := by decide +kernel
theorem xm_241 : xokm 241 := ⟨by decide +kernel, xr_241_0⟩
theorem xr_242_0 : xc_X12_firstWith.all (xrow 12 RX12 cX12_firstWith) = true := by decide +kernel
theorem xm_242 : xokm 242 := ⟨by decide +kernel, xr_242_0⟩
theorem xr_243_0 : xc_X12_isCover.all (xrow 12 RX12 cX12_isCover) = true := by decide +kernel
theorem xm_243 : xokm 243 := ⟨by decide +kernel, xr_243_0⟩
theorem xr_244_0 : xc_X12_firstPick.all (xrow 12 RX12 cX12_firstPick) = true := by decide +kernel
theorem xm_244 : xokm 244 := ⟨by decide +kernel, xr_244_0⟩
theorem xr_245_0 : xc_X12_nextPick.all (xrow 12 RX12 cX12_nextPick) = true := by decide +kernel
theorem xm_245 : xokm 245 := ⟨by decide +kernel, xr_245_0⟩
theorem xr_246_0 : xc_X12_laysFewest.all (xrow 12 RX12 cX12_laysFewest) = true := by decide +kernel
theorem xm_246 : xokm 246 := ⟨by decide +kernel, xr_246_0⟩
theorem xr_247_0 : (xc_X12_hasCover.take 60).all (xrow 12 RX12 cX12_hasCover) = true := by decide +kernel
theorem xr_247_1 : (xc_X12_hasCover.drop 60).all (xrow 12 RX12 cX12_hasCover) = true := by decide +kernel
theorem xrj_247_0 : xc_X12_hasCover.all (xrow 12 RX12 cX12_hasCover) = true := xall_join 60 xr_247_0 xr_247_1
theorem xm_247 : xokm 247 := ⟨by decide +kernel, xrj_247_0⟩
theorem xr_248_0 : xc_X12_fewest.all (xrow 12 RX12 cX12_fewest) = true := by decide +kernel
theorem xm_248 : xokm 248 := ⟨by decide +kernel, xr_248_0⟩
theorem xr_249_0 : xc_X12_smallTo.all (xrow 12 RX12 cX12_smallTo) = true := by decide +kernel
theorem xm_249 : xokm 249 := ⟨by decide +kernel, xr_249_0⟩
theorem xr_250_0 : xc_X12_smallAnswer.all (xrow 12 RX12 cX12_smallAnswer) = true := by decide +kernel
theorem xm_250 : xokm 250 := ⟨by decide +kernel, xr_250_0⟩
theorem xr_251_0 : xc_X12_small.all (xrow 12 RX12 cX12_small) = true := by decide +kernel
theorem xm_251 : xokm 251 := ⟨by decide +kernel, xr_251_0⟩
theorem xr_252_0 : xc_X12_home.all (xrow 12 RX12 cX12_home) = true := by decide +kernel
theorem xm_252 : xokm 252 := ⟨by decide +kernel, xr_252_0⟩
theorem xr_253_0 : (xc_X12_laysMet.take 60).all (xrow 12 RX12 cX12_laysMet) = true := by decide +kernel
theorem xr_253_1 : (xc_X12_laysMet.drop 60).all (xrow 12 RX12 cX12_laysMet) = true := by decide +kernel
theorem xrj_253_0 : xc_X12_laysMet.all (xrow 12 RX12 cX12_laysMet) = true := xall_join 60 xr_253_0 xr_253_1
theorem xm_253 : xokm 253 := ⟨by decide +kernel, xrj_253_0⟩
theorem xr_254_0 : xc_X12_met.all (xrow 12 RX12 cX12_met) = true := by decide +kernel
theorem xm_254 : xokm 254 := ⟨by decide +kernel, xr_254_0⟩
theorem xr_255_0 : (xc_X12_run.take 60).all (xrow 12 RX12 cX12_run) = true := by decide +kernel
theorem xr_255_1 : (xc_X12_run.drop 60).all (xrow 12 RX12 cX12_run) = true := by decide +kernel
theorem xrj_255_0 : xc_X12_run.all (xrow 12 RX12 cX12_run) = true := xall_join 60 xr_255_0 xr_255_1
theorem xm_255 : xokm 255 := ⟨by decide +kernel, xrj_255_0⟩
theorem xr_256_0 : (xc_X12_listsPartitions.take 60).all (xrow 12 RX12 cX12_listsPartitions) = true := by decide +kernel
theorem xr_256_1 : (xc_X12_listsPartitions.drop 60).all (xrow 12 RX12 cX12_listsPartitions) = true := by decide +kernel
theorem xrj_256_0 : xc_X12_listsPartitions.all (xrow 12 RX12 cX12_listsPartitions) = true := xall_join 60 xr_256_0 xr_256_1
theorem xm_256 : xokm 256 := ⟨by decide +kernel, xrj_256_0⟩
theorem xr_257_0 : (xc_X12_hasNext.take 60).all (xrow 12 RX12 cX12_hasNext) = true := by decide +kernel
theorem xr_257_1 : (xc_X12_hasNext.drop 60).all (xrow 12 RX12 cX12_hasNext) = true := by decide +kernel
theorem xrj_257_0 : xc_X12_hasNext.all (xrow 12 RX12 cX12_hasNext) = true := xall_join 60 xr_257_0 xr_257_1
theorem xm_257 : xokm 257 := ⟨by decide +kernel, xrj_257_0⟩
theorem xr_258_0 : (xc_X12_doesGo.take 60).all (xrow 12 RX12 cX12_doesGo) = true := by decide +kernel
theorem xr_258_1 : (xc_X12_doesGo.drop 60).all (xrow 12 RX12 cX12_doesGo) = true := by decide +kernel
theorem xrj_258_0 : xc_X12_doesGo.all (xrow 12 RX12 cX12_doesGo) = true := xall_join 60 xr_258_0 xr_258_1
theorem xm_258 : xokm 258 := ⟨by decide +kernel, xrj_258_0⟩
theorem xr_259_0 : xc_X12_placeOf.all (xrow 12 RX12 cX12_placeOf) = true := by decide +kernel
theorem xm_259 : xokm 259 := ⟨by decide +kernel, xr_259_0⟩
theorem xr_260_0 : xc_X12_goesOn.all (xrow 12 RX12 cX12_goesOn) = true := by decide +kernel
theorem xm_260 : xokm 260 := ⟨by decide +kernel, xr_260_0⟩
theorem xr_261_0 : (xc_X12_together.take 60).all (xrow 12 RX12 cX12_together) = true := by decide +kernel
theorem xr_261_1 : (xc_X12_together.drop 60).all (xrow 12 RX12 cX12_together) = true := by decide +kernel
theorem xrj_261_0 : xc_X12_together.all (xrow 12 RX12 cX12_together) = true := xall_join 60 xr_261_0 xr_261_1
theorem xm_261 : xokm 261 := ⟨by decide +kernel, xrj_261_0⟩
theorem xr_262_0 : xc_X12_partition.all (xrow 12 RX12 cX12_partition) = true := by decide +kernel
theorem xm_262 : xokm 262 := ⟨by decide +kernel, xr_262_0⟩
theorem xr_263_0 : xc_X12_into.all (xrow 12 RX12 cX12_into) = true := by decide +kernel
theorem xm_263 : xokm 263 := ⟨by decide +kernel, xr_263_0⟩
theorem xr_264_0 : xc_X12_areAll.all (xrow 12 RX12 cX12_areAll) = true := by decide +kernel
theorem xm_264 : xokm 264 := ⟨by decide +kernel, xr_264_0⟩
theorem xr_265_0 : (xc_X12_split.take 60).all (xrow 12 RX12 cX12_split) = true := by decide +kernel
theorem xr_265_1 : (xc_X12_split.drop 60).all (xrow 12 RX12 cX12_split) = true := by decide +kernel
theorem xrj_265_0 : xc_X12_split.all (xrow 12 RX12 cX12_split) = true := xall_join 60 xr_265_0 xr_265_1
theorem xm_265 : xokm 265 := ⟨by decide +kernel, xrj_265_0⟩
theorem xr_266_0 : xc_X12_tailAt.all (xrow 12 RX12 cX12_tailAt) = true := by decide +kernel
theorem xm_266 : xokm 266 := ⟨by decide +kernel, xr_266_0⟩
theorem xr_267_0 : xc_X12_tail.all (xrow 12 RX12 cX12_tail) = true := by decide +kernel
theorem xm_267 : xokm 267 := ⟨by decide +kernel, xr_267_0⟩
theorem xr_268_0 : xc_X12_partTo.all (xrow 12 RX12 cX12_partTo) = true := by decide +kernel
theorem xm_268 : xokm 268 := ⟨by decide +kernel, xr_268_0⟩
theorem xr_269_0 : xc_X12_part.all (xrow 12 RX12 cX12_part) = true := by decide +kernel
theorem xm_269 : xokm 269 := ⟨by decide +kernel, xr_269_0⟩
theorem xr_270_0 : (xc_X12_series.take 60).all (xrow 12 RX12 cX12_series) = true := by decide +kernel
theorem xr_270_1 : (xc_X12_series.drop 60).all (xrow 12 RX12 cX12_series) = true := by decide +kernel
theorem xrj_270_0 : xc_X12_series.all (xrow 12 RX12 cX12_series) = true := xall_join 60 xr_270_0 xr_270_1
theorem xm_270 : xokm 270 := ⟨by decide +kernel, xrj_270_0⟩
theorem xr_271_0 : (xc_X12_beside.take 60).all (xrow 12 RX12 cX12_beside) = true := by decide +kernel
theorem xr_271_1 : ((xc_X12_beside.drop 60).take 60).all (xrow 12 RX12 cX12_beside) = true := by decide +kernel
theorem xr_271_2 : (xc_X12_beside.drop 120).all (xrow 12 RX12 cX12_beside) = true := by decide +kernel
theorem xrj_271_1 : (xc_X12_beside.drop 60).all (xrow 12 RX12 cX12_beside) = true := xall_join 60 xr_271_1 (by rw [List.drop_drop]; exact xr_271_2)
theorem xrj_271_0 : xc_X12_beside.all (xrow 12 RX12 cX12_beside) = true := xall_join 60 xr_271_0 xrj_271_1
theorem xm_271 : xokm 271 := ⟨by decide +kernel, xrj_271_0⟩
theorem xr_272_0 : xc_X12_bits.all (xrow 12 RX12 cX12_bits) = true := by decide +kernel
theorem xm_272 : xokm 272 := ⟨by decide +kernel, xr_272_0⟩
theorem xr_273_0 : xc_X12_asTheyAre.all (xrow 12 RX12 cX12_asTheyAre) = true := by decide +kernel
theorem xm_273 : xokm 273 := ⟨by decide +kernel, xr_273_0⟩
theorem xr_274_0 : xc_X12_isProper.all (xrow 12 RX12 cX12_isProper) = true := by decide +kernel
theorem xm_274 : xokm 274 := ⟨by decide +kernel, xr_274_0⟩
theorem xr_275_0 : (xc_X12_doesHang.take 60).all (xrow 12 RX12 cX12_doesHang) = true := by decide +kernel
theorem xr_275_1 : (xc_X12_doesHang.drop 60).all (xrow 12 RX12 cX12_doesHang) = true := by decide +kernel
theorem xrj_275_0 : xc_X12_doesHang.all (xrow 12 RX12 cX12_doesHang) = true := xall_join 60 xr_275_0 xr_275_1
theorem xm_275 : xokm 275 := ⟨by decide +kernel, xrj_275_0⟩
theorem xr_276_0 : xc_X12_hangsOn.all (xrow 12 RX12 cX12_hangsOn) = true := by decide +kernel
theorem xm_276 : xokm 276 := ⟨by decide +kernel, xr_276_0⟩
theorem xr_277_0 : xc_X12_hangs.all (xrow 12 RX12 cX12_hangs) = true := by decide +kernel
theorem xm_277 : xokm 277 := ⟨by decide +kernel, xr_277_0⟩
theorem xr_278_0 : xc_X12_costNow.all (xrow 12 RX12 cX12_costNow) = true := by decide +kernel
theorem xm_278 : xokm 278 := ⟨by decide +kernel, xr_278_0⟩
theorem xr_279_0 : xc_X12_cost.all (xrow 12 RX12 cX12_cost) = true := by decide +kernel
theorem xm_279 : xokm 279 := ⟨by decide +kernel, xr_279_0⟩
theorem xr_280_0 : xc_X12_heldBy.all (xrow 12 RX12 cX12_heldBy) = true := by decide +kernel
theorem xm_280 : xokm 280 := ⟨by decide +kernel, xr_280_0⟩
theorem xr_281_0 : xc_X12_fillsCubes.all (xrow 12 RX12 cX12_fillsCubes) = true := by decide +kernel
theorem xm_281 : xokm 281 := ⟨by decide +kernel, xr_281_0⟩
theorem xr_282_0 : xc_X12_laysCodes.all (xrow 12 RX12 cX12_laysCodes) = true := by decide +kernel
theorem xm_282 : xokm 282 := ⟨by decide +kernel, xr_282_0⟩
theorem xr_283_0 : (xc_X12_fewOf.take 60).all (xrow 12 RX12 cX12_fewOf) = true := by decide +kernel
theorem xr_283_1 : (xc_X12_fewOf.drop 60).all (xrow 12 RX12 cX12_fewOf) = true := by decide +kernel
theorem xrj_283_0 : xc_X12_fewOf.all (xrow 12 RX12 cX12_fewOf) = true := xall_join 60 xr_283_0 xr_283_1
theorem xm_283 : xokm 283 := ⟨by decide +kernel, xrj_283_0⟩
