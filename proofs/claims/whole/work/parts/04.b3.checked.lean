theorem xr_183_0 : xc_X12_feed.all (xrow 12 RX12 cX12_feed) = true := by decide +kernel
theorem xm_183 : xokm 183 := ⟨by decide +kernel, xr_183_0⟩
theorem xr_184_0 : xc_X12_lays.all (xrow 12 RX12 cX12_lays) = true := by decide +kernel
theorem xm_184 : xokm 184 := ⟨by decide +kernel, xr_184_0⟩
theorem xr_185_0 : xc_X12_back.all (xrow 12 RX12 cX12_back) = true := by decide +kernel
theorem xm_185 : xokm 185 := ⟨by decide +kernel, xr_185_0⟩
theorem xr_186_0 : xc_X12_byteAt.all (xrow 12 RX12 cX12_byteAt) = true := by decide +kernel
theorem xm_186 : xokm 186 := ⟨by decide +kernel, xr_186_0⟩
theorem xr_187_0 : xc_X12_isDigit.all (xrow 12 RX12 cX12_isDigit) = true := by decide +kernel
theorem xm_187 : xokm 187 := ⟨by decide +kernel, xr_187_0⟩
theorem xr_188_0 : xc_X12_isLetter.all (xrow 12 RX12 cX12_isLetter) = true := by decide +kernel
theorem xm_188 : xokm 188 := ⟨by decide +kernel, xr_188_0⟩
theorem xr_189_0 : xc_X12_appends.all (xrow 12 RX12 cX12_appends) = true := by decide +kernel
theorem xm_189 : xokm 189 := ⟨by decide +kernel, xr_189_0⟩
theorem xr_190_0 : xc_X12_letters.all (xrow 12 RX12 cX12_letters) = true := by decide +kernel
theorem xm_190 : xokm 190 := ⟨by decide +kernel, xr_190_0⟩
theorem xr_191_0 : xc_X12_token.all (xrow 12 RX12 cX12_token) = true := by decide +kernel
theorem xm_191 : xokm 191 := ⟨by decide +kernel, xr_191_0⟩
theorem xr_192_0 : (xc_X12_parts.take 60).all (xrow 12 RX12 cX12_parts) = true := by decide +kernel
theorem xr_192_1 : ((xc_X12_parts.drop 60).take 60).all (xrow 12 RX12 cX12_parts) = true := by decide +kernel
theorem xr_192_2 : (xc_X12_parts.drop 120).all (xrow 12 RX12 cX12_parts) = true := by decide +kernel
theorem xrj_192_1 : (xc_X12_parts.drop 60).all (xrow 12 RX12 cX12_parts) = true := xall_join 60 xr_192_1 (by rw [List.drop_drop]; exact xr_192_2)
theorem xrj_192_0 : xc_X12_parts.all (xrow 12 RX12 cX12_parts) = true := xall_join 60 xr_192_0 xrj_192_1
theorem xm_192 : xokm 192 := ⟨by decide +kernel, xrj_192_0⟩
theorem xr_193_0 : xc_X12_sign.all (xrow 12 RX12 cX12_sign) = true := by decide +kernel
theorem xm_193 : xokm 193 := ⟨by decide +kernel, xr_193_0⟩
theorem xr_194_0 : xc_X12_is.all (xrow 12 RX12 cX12_is) = true := by decide +kernel
theorem xm_194 : xokm 194 := ⟨by decide +kernel, xr_194_0⟩
theorem xr_195_0 : xc_X12_fail.all (xrow 12 RX12 cX12_fail) = true := by decide +kernel
theorem xm_195 : xokm 195 := ⟨by decide +kernel, xr_195_0⟩
theorem xr_196_0 : xc_X12_wrong.all (xrow 12 RX12 cX12_wrong) = true := by decide +kernel
theorem xm_196 : xokm 196 := ⟨by decide +kernel, xr_196_0⟩
theorem xr_197_0 : xc_X12_passes.all (xrow 12 RX12 cX12_passes) = true := by decide +kernel
theorem xm_197 : xokm 197 := ⟨by decide +kernel, xr_197_0⟩
theorem xr_198_0 : xc_X12_must.all (xrow 12 RX12 cX12_must) = true := by decide +kernel
theorem xm_198 : xokm 198 := ⟨by decide +kernel, xr_198_0⟩
theorem xr_199_0 : (xc_X12_read.take 60).all (xrow 12 RX12 cX12_read) = true := by decide +kernel
theorem xr_199_1 : ((xc_X12_read.drop 60).take 60).all (xrow 12 RX12 cX12_read) = true := by decide +kernel
theorem xr_199_2 : (xc_X12_read.drop 120).all (xrow 12 RX12 cX12_read) = true := by decide +kernel
theorem xrj_199_1 : (xc_X12_read.drop 60).all (xrow 12 RX12 cX12_read) = true := xall_join 60 xr_199_1 (by rw [List.drop_drop]; exact xr_199_2)
theorem xrj_199_0 : xc_X12_read.all (xrow 12 RX12 cX12_read) = true := xall_join 60 xr_199_0 xrj_199_1
theorem xm_199 : xokm 199 := ⟨by decide +kernel, xrj_199_0⟩
theorem xr_200_0 : xc_X12_place.all (xrow 12 RX12 cX12_place) = true := by decide +kernel
theorem xm_200 : xokm 200 := ⟨by decide +kernel, xr_200_0⟩
theorem xr_201_0 : xc_X12_either.all (xrow 12 RX12 cX12_either) = true := by decide +kernel
theorem xm_201 : xokm 201 := ⟨by decide +kernel, xr_201_0⟩
theorem xr_202_0 : (xc_X12_line.take 60).all (xrow 12 RX12 cX12_line) = true := by decide +kernel
theorem xr_202_1 : (xc_X12_line.drop 60).all (xrow 12 RX12 cX12_line) = true := by decide +kernel
theorem xrj_202_0 : xc_X12_line.all (xrow 12 RX12 cX12_line) = true := xall_join 60 xr_202_0 xr_202_1
theorem xm_202 : xokm 202 := ⟨by decide +kernel, xrj_202_0⟩
theorem xr_203_0 : xc_X12_named.all (xrow 12 RX12 cX12_named) = true := by decide +kernel
theorem xm_203 : xokm 203 := ⟨by decide +kernel, xr_203_0⟩
theorem xr_204_0 : xc_X12_bounded.all (xrow 12 RX12 cX12_bounded) = true := by decide +kernel
theorem xm_204 : xokm 204 := ⟨by decide +kernel, xr_204_0⟩
theorem xr_205_0 : (xc_X12_means.take 60).all (xrow 12 RX12 cX12_means) = true := by decide +kernel
theorem xr_205_1 : ((xc_X12_means.drop 60).take 60).all (xrow 12 RX12 cX12_means) = true := by decide +kernel
theorem xr_205_2 : (xc_X12_means.drop 120).all (xrow 12 RX12 cX12_means) = true := by decide +kernel
theorem xrj_205_1 : (xc_X12_means.drop 60).all (xrow 12 RX12 cX12_means) = true := xall_join 60 xr_205_1 (by rw [List.drop_drop]; exact xr_205_2)
theorem xrj_205_0 : xc_X12_means.all (xrow 12 RX12 cX12_means) = true := xall_join 60 xr_205_0 xrj_205_1
theorem xm_205 : xokm 205 := ⟨by decide +kernel, xrj_205_0⟩
theorem xr_206_0 : xc_X12_in.all (xrow 12 RX12 cX12_in) = true := by decide +kernel
theorem xm_206 : xokm 206 := ⟨by decide +kernel, xr_206_0⟩
theorem xr_207_0 : xc_X12_isState.all (xrow 12 RX12 cX12_isState) = true := by decide +kernel
theorem xm_207 : xokm 207 := ⟨by decide +kernel, xr_207_0⟩
theorem xr_208_0 : xc_X12_isInput.all (xrow 12 RX12 cX12_isInput) = true := by decide +kernel
theorem xm_208 : xokm 208 := ⟨by decide +kernel, xr_208_0⟩
theorem xr_209_0 : xc_X12_isMove.all (xrow 12 RX12 cX12_isMove) = true := by decide +kernel
theorem xm_209 : xokm 209 := ⟨by decide +kernel, xr_209_0⟩
theorem xr_210_0 : xc_X12_to.all (xrow 12 RX12 cX12_to) = true := by decide +kernel
theorem xm_210 : xokm 210 := ⟨by decide +kernel, xr_210_0⟩
theorem xr_211_0 : xc_X12_answer.all (xrow 12 RX12 cX12_answer) = true := by decide +kernel
theorem xm_211 : xokm 211 := ⟨by decide +kernel, xr_211_0⟩
theorem xr_212_0 : xc_X12_codeOf.all (xrow 12 RX12 cX12_codeOf) = true := by decide +kernel
theorem xm_212 : xokm 212 := ⟨by decide +kernel, xr_212_0⟩
theorem xr_213_0 : xc_X12_bitsOf.all (xrow 12 RX12 cX12_bitsOf) = true := by decide +kernel
theorem xm_213 : xokm 213 := ⟨by decide +kernel, xr_213_0⟩
theorem xr_214_0 : xc_X12_has.all (xrow 12 RX12 cX12_has) = true := by decide +kernel
theorem xm_214 : xokm 214 := ⟨by decide +kernel, xr_214_0⟩
theorem xr_215_0 : xc_X12_marks.all (xrow 12 RX12 cX12_marks) = true := by decide +kernel
theorem xm_215 : xokm 215 := ⟨by decide +kernel, xr_215_0⟩
theorem xr_216_0 : xc_X12_set.all (xrow 12 RX12 cX12_set) = true := by decide +kernel
theorem xm_216 : xokm 216 := ⟨by decide +kernel, xr_216_0⟩
theorem xr_217_0 : xc_X12_code.all (xrow 12 RX12 cX12_code) = true := by decide +kernel
theorem xm_217 : xokm 217 := ⟨by decide +kernel, xr_217_0⟩
theorem xr_218_0 : xc_X12_undo.all (xrow 12 RX12 cX12_undo) = true := by decide +kernel
theorem xm_218 : xokm 218 := ⟨by decide +kernel, xr_218_0⟩
theorem xr_219_0 : xc_X12_hold.all (xrow 12 RX12 cX12_hold) = true := by decide +kernel
theorem xm_219 : xokm 219 := ⟨by decide +kernel, xr_219_0⟩
theorem xr_220_0 : xc_X12_restore.all (xrow 12 RX12 cX12_restore) = true := by decide +kernel
theorem xm_220 : xokm 220 := ⟨by decide +kernel, xr_220_0⟩
theorem xr_221_0 : xc_X12_move.all (xrow 12 RX12 cX12_move) = true := by decide +kernel
theorem xm_221 : xokm 221 := ⟨by decide +kernel, xr_221_0⟩
theorem xr_222_0 : xc_X12_changes.all (xrow 12 RX12 cX12_changes) = true := by decide +kernel
theorem xm_222 : xokm 222 := ⟨by decide +kernel, xr_222_0⟩
theorem xr_223_0 : xc_X12_knows.all (xrow 12 RX12 cX12_knows) = true := by decide +kernel
theorem xm_223 : xokm 223 := ⟨by decide +kernel, xr_223_0⟩
theorem xr_224_0 : xc_X12_areUnlike.all (xrow 12 RX12 cX12_areUnlike) = true := by decide +kernel
theorem xm_224 : xokm 224 := ⟨by decide +kernel, xr_224_0⟩
theorem xr_225_0 : (xc_X12_finds.take 60).all (xrow 12 RX12 cX12_finds) = true := by decide +kernel
theorem xr_225_1 : ((xc_X12_finds.drop 60).take 60).all (xrow 12 RX12 cX12_finds) = true := by decide +kernel
theorem xr_225_2 : (xc_X12_finds.drop 120).all (xrow 12 RX12 cX12_finds) = true := by decide +kernel
theorem xrj_225_1 : (xc_X12_finds.drop 60).all (xrow 12 RX12 cX12_finds) = true := xall_join 60 xr_225_1 (by rw [List.drop_drop]; exact xr_225_2)
theorem xrj_225_0 : xc_X12_finds.all (xrow 12 RX12 cX12_finds) = true := xall_join 60 xr_225_0 xrj_225_1
theorem xm_225 : xokm 225 := ⟨by decide +kernel, xrj_225_0⟩
theorem xr_226_0 : xc_X12_apart.all (xrow 12 RX12 cX12_apart) = true := by decide +kernel
theorem xm_226 : xokm 226 := ⟨by decide +kernel, xr_226_0⟩
theorem xr_227_0 : (xc_X12_word.take 60).all (xrow 12 RX12 cX12_word) = true := by decide +kernel
theorem xr_227_1 : (xc_X12_word.drop 60).all (xrow 12 RX12 cX12_word) = true := by decide +kernel
theorem xrj_227_0 : xc_X12_word.all (xrow 12 RX12 cX12_word) = true := xall_join 60 xr_227_0 xr_227_1
theorem xm_227 : xokm 227 := ⟨by decide +kernel, xrj_227_0⟩
theorem xr_228_0 : xc_X12_nextInput.all (xrow 12 RX12 cX12_nextInput) = true := by decide +kernel
theorem xm_228 : xokm 228 := ⟨by decide +kernel, xr_228_0⟩
theorem xr_229_0 : xc_X12_doesTell.all (xrow 12 RX12 cX12_doesTell) = true := by decide +kernel
theorem xm_229 : xokm 229 := ⟨by decide +kernel, xr_229_0⟩
theorem xr_230_0 : xc_X12_isWord.all (xrow 12 RX12 cX12_isWord) = true := by decide +kernel
theorem xm_230 : xokm 230 := ⟨by decide +kernel, xr_230_0⟩
theorem xr_231_0 : xc_X12_doesShow.all (xrow 12 RX12 cX12_doesShow) = true := by decide +kernel
theorem xm_231 : xokm 231 := ⟨by decide +kernel, xr_231_0⟩
theorem xr_232_0 : xc_X12_shown.all (xrow 12 RX12 cX12_shown) = true := by decide +kernel
theorem xm_232 : xokm 232 := ⟨by decide +kernel, xr_232_0⟩
theorem xr_233_0 : xc_X12_isAlike.all (xrow 12 RX12 cX12_isAlike) = true := by decide +kernel
theorem xm_233 : xokm 233 := ⟨by decide +kernel, xr_233_0⟩
theorem xr_234_0 : (xc_X12_listsClasses.take 60).all (xrow 12 RX12 cX12_listsClasses) = true := by decide +kernel
theorem xr_234_1 : (xc_X12_listsClasses.drop 60).all (xrow 12 RX12 cX12_listsClasses) = true := by decide +kernel
theorem xrj_234_0 : xc_X12_listsClasses.all (xrow 12 RX12 cX12_listsClasses) = true := xall_join 60 xr_234_0 xr_234_1
theorem xm_234 : xokm 234 := ⟨by decide +kernel, xrj_234_0⟩
