theorem xr_117_0 : xc_X9_init.all (xrow 9 RX9 cX9_init) = true := by decide +kernel
theorem xm_117 : xokm 117 := ⟨by decide +kernel, xr_117_0⟩
theorem xr_118_0 : xc_X9_hasRoom.all (xrow 9 RX9 cX9_hasRoom) = true := by decide +kernel
theorem xm_118 : xokm 118 := ⟨by decide +kernel, xr_118_0⟩
theorem xr_119_0 : xc_X9_put.all (xrow 9 RX9 cX9_put) = true := by decide +kernel
theorem xm_119 : xokm 119 := ⟨by decide +kernel, xr_119_0⟩
theorem xr_120_0 : xc_X9_byteAt.all (xrow 9 RX9 cX9_byteAt) = true := by decide +kernel
theorem xm_120 : xokm 120 := ⟨by decide +kernel, xr_120_0⟩
theorem xr_121_0 : xc_X9_isLetter.all (xrow 9 RX9 cX9_isLetter) = true := by decide +kernel
theorem xm_121 : xokm 121 := ⟨by decide +kernel, xr_121_0⟩
theorem xr_122_0 : xc_X9_isDigit.all (xrow 9 RX9 cX9_isDigit) = true := by decide +kernel
theorem xm_122 : xokm 122 := ⟨by decide +kernel, xr_122_0⟩
theorem xr_123_0 : xc_X9_isBlank.all (xrow 9 RX9 cX9_isBlank) = true := by decide +kernel
theorem xm_123 : xokm 123 := ⟨by decide +kernel, xr_123_0⟩
theorem xr_124_0 : xc_X9_skipBlanks.all (xrow 9 RX9 cX9_skipBlanks) = true := by decide +kernel
theorem xm_124 : xokm 124 := ⟨by decide +kernel, xr_124_0⟩
theorem xr_125_0 : xc_X9_endOfRun.all (xrow 9 RX9 cX9_endOfRun) = true := by decide +kernel
theorem xm_125 : xokm 125 := ⟨by decide +kernel, xr_125_0⟩
theorem xr_126_0 : xc_X9_says.all (xrow 9 RX9 cX9_says) = true := by decide +kernel
theorem xm_126 : xokm 126 := ⟨by decide +kernel, xr_126_0⟩
theorem xr_127_0 : xc_X9_saysAlike.all (xrow 9 RX9 cX9_saysAlike) = true := by decide +kernel
theorem xm_127 : xokm 127 := ⟨by decide +kernel, xr_127_0⟩
theorem xr_128_0 : xc_X9_numberAt.all (xrow 9 RX9 cX9_numberAt) = true := by decide +kernel
theorem xm_128 : xokm 128 := ⟨by decide +kernel, xr_128_0⟩
theorem xr_129_0 : xc_X10_init.all (xrow 10 RX10 cX10_init) = true := by decide +kernel
theorem xm_129 : xokm 129 := ⟨by decide +kernel, xr_129_0⟩
theorem xr_130_0 : (xc_X10_scan.take 60).all (xrow 10 RX10 cX10_scan) = true := by decide +kernel
theorem xr_130_1 : (xc_X10_scan.drop 60).all (xrow 10 RX10 cX10_scan) = true := by decide +kernel
theorem xrj_130_0 : xc_X10_scan.all (xrow 10 RX10 cX10_scan) = true := xall_join 60 xr_130_0 xr_130_1
theorem xm_130 : xokm 130 := ⟨by decide +kernel, xrj_130_0⟩
theorem xr_131_0 : xc_X10_fail.all (xrow 10 RX10 cX10_fail) = true := by decide +kernel
theorem xm_131 : xokm 131 := ⟨by decide +kernel, xr_131_0⟩
theorem xr_132_0 : xc_X10_keep.all (xrow 10 RX10 cX10_keep) = true := by decide +kernel
theorem xm_132 : xokm 132 := ⟨by decide +kernel, xr_132_0⟩
theorem xr_133_0 : xc_X10_beginning.all (xrow 10 RX10 cX10_beginning) = true := by decide +kernel
theorem xm_133 : xokm 133 := ⟨by decide +kernel, xr_133_0⟩
theorem xr_134_0 : (xc_X10_kindOf.take 60).all (xrow 10 RX10 cX10_kindOf) = true := by decide +kernel
theorem xr_134_1 : (xc_X10_kindOf.drop 60).all (xrow 10 RX10 cX10_kindOf) = true := by decide +kernel
theorem xrj_134_0 : xc_X10_kindOf.all (xrow 10 RX10 cX10_kindOf) = true := xall_join 60 xr_134_0 xr_134_1
theorem xm_134 : xokm 134 := ⟨by decide +kernel, xrj_134_0⟩
theorem xr_135_0 : xc_X10_shapeOf.all (xrow 10 RX10 cX10_shapeOf) = true := by decide +kernel
theorem xm_135 : xokm 135 := ⟨by decide +kernel, xr_135_0⟩
theorem xr_136_0 : xc_X10_fits.all (xrow 10 RX10 cX10_fits) = true := by decide +kernel
theorem xm_136 : xokm 136 := ⟨by decide +kernel, xr_136_0⟩
theorem xr_137_0 : (xc_X11_init.take 60).all (xrow 11 RX11 cX11_init) = true := by decide +kernel
theorem xr_137_1 : (xc_X11_init.drop 60).all (xrow 11 RX11 cX11_init) = true := by decide +kernel
theorem xrj_137_0 : xc_X11_init.all (xrow 11 RX11 cX11_init) = true := xall_join 60 xr_137_0 xr_137_1
theorem xm_137 : xokm 137 := ⟨by decide +kernel, xrj_137_0⟩
theorem xr_138_0 : xc_X11_feed.all (xrow 11 RX11 cX11_feed) = true := by decide +kernel
theorem xm_138 : xokm 138 := ⟨by decide +kernel, xr_138_0⟩
theorem xr_139_0 : xc_X11_back.all (xrow 11 RX11 cX11_back) = true := by decide +kernel
theorem xm_139 : xokm 139 := ⟨by decide +kernel, xr_139_0⟩
theorem xr_140_0 : xc_X11_read.all (xrow 11 RX11 cX11_read) = true := by decide +kernel
theorem xm_140 : xokm 140 := ⟨by decide +kernel, xr_140_0⟩
theorem xr_141_0 : xc_X11_place.all (xrow 11 RX11 cX11_place) = true := by decide +kernel
theorem xm_141 : xokm 141 := ⟨by decide +kernel, xr_141_0⟩
theorem xr_142_0 : (xc_X11_set.take 60).all (xrow 11 RX11 cX11_set) = true := by decide +kernel
theorem xr_142_1 : (xc_X11_set.drop 60).all (xrow 11 RX11 cX11_set) = true := by decide +kernel
theorem xrj_142_0 : xc_X11_set.all (xrow 11 RX11 cX11_set) = true := xall_join 60 xr_142_0 xr_142_1
theorem xm_142 : xokm 142 := ⟨by decide +kernel, xrj_142_0⟩
theorem xr_143_0 : xc_X11_code.all (xrow 11 RX11 cX11_code) = true := by decide +kernel
theorem xm_143 : xokm 143 := ⟨by decide +kernel, xr_143_0⟩
theorem xr_144_0 : xc_X11_undo.all (xrow 11 RX11 cX11_undo) = true := by decide +kernel
theorem xm_144 : xokm 144 := ⟨by decide +kernel, xr_144_0⟩
theorem xr_145_0 : xc_X11_move.all (xrow 11 RX11 cX11_move) = true := by decide +kernel
theorem xm_145 : xokm 145 := ⟨by decide +kernel, xr_145_0⟩
theorem xr_146_0 : xc_X11_apart.all (xrow 11 RX11 cX11_apart) = true := by decide +kernel
theorem xm_146 : xokm 146 := ⟨by decide +kernel, xr_146_0⟩
theorem xr_147_0 : xc_X11_word.all (xrow 11 RX11 cX11_word) = true := by decide +kernel
theorem xm_147 : xokm 147 := ⟨by decide +kernel, xr_147_0⟩
theorem xr_148_0 : xc_X11_shown.all (xrow 11 RX11 cX11_shown) = true := by decide +kernel
theorem xm_148 : xokm 148 := ⟨by decide +kernel, xr_148_0⟩
theorem xr_149_0 : xc_X11_classes.all (xrow 11 RX11 cX11_classes) = true := by decide +kernel
theorem xm_149 : xokm 149 := ⟨by decide +kernel, xr_149_0⟩
theorem xr_150_0 : xc_X11_greatest.all (xrow 11 RX11 cX11_greatest) = true := by decide +kernel
theorem xm_150 : xokm 150 := ⟨by decide +kernel, xr_150_0⟩
theorem xr_151_0 : xc_X11_fewest.all (xrow 11 RX11 cX11_fewest) = true := by decide +kernel
theorem xm_151 : xokm 151 := ⟨by decide +kernel, xr_151_0⟩
theorem xr_152_0 : xc_X11_isClass.all (xrow 11 RX11 cX11_isClass) = true := by decide +kernel
theorem xm_152 : xokm 152 := ⟨by decide +kernel, xr_152_0⟩
theorem xr_153_0 : xc_X11_leads.all (xrow 11 RX11 cX11_leads) = true := by decide +kernel
theorem xm_153 : xokm 153 := ⟨by decide +kernel, xr_153_0⟩
theorem xr_154_0 : xc_X11_small.all (xrow 11 RX11 cX11_small) = true := by decide +kernel
theorem xm_154 : xokm 154 := ⟨by decide +kernel, xr_154_0⟩
theorem xr_155_0 : xc_X11_home.all (xrow 11 RX11 cX11_home) = true := by decide +kernel
theorem xm_155 : xokm 155 := ⟨by decide +kernel, xr_155_0⟩
theorem xr_156_0 : xc_X11_met.all (xrow 11 RX11 cX11_met) = true := by decide +kernel
theorem xm_156 : xokm 156 := ⟨by decide +kernel, xr_156_0⟩
theorem xr_157_0 : (xc_X11_run.take 60).all (xrow 11 RX11 cX11_run) = true := by decide +kernel
theorem xr_157_1 : (xc_X11_run.drop 60).all (xrow 11 RX11 cX11_run) = true := by decide +kernel
theorem xrj_157_0 : xc_X11_run.all (xrow 11 RX11 cX11_run) = true := xall_join 60 xr_157_0 xr_157_1
theorem xm_157 : xokm 157 := ⟨by decide +kernel, xrj_157_0⟩
theorem xr_158_0 : xc_X11_goesOn.all (xrow 11 RX11 cX11_goesOn) = true := by decide +kernel
theorem xm_158 : xokm 158 := ⟨by decide +kernel, xr_158_0⟩
theorem xr_159_0 : xc_X11_together.all (xrow 11 RX11 cX11_together) = true := by decide +kernel
theorem xm_159 : xokm 159 := ⟨by decide +kernel, xr_159_0⟩
theorem xr_160_0 : xc_X11_partition.all (xrow 11 RX11 cX11_partition) = true := by decide +kernel
theorem xm_160 : xokm 160 := ⟨by decide +kernel, xr_160_0⟩
theorem xr_161_0 : xc_X11_into.all (xrow 11 RX11 cX11_into) = true := by decide +kernel
theorem xm_161 : xokm 161 := ⟨by decide +kernel, xr_161_0⟩
theorem xr_162_0 : xc_X11_split.all (xrow 11 RX11 cX11_split) = true := by decide +kernel
theorem xm_162 : xokm 162 := ⟨by decide +kernel, xr_162_0⟩
theorem xr_163_0 : xc_X11_tail.all (xrow 11 RX11 cX11_tail) = true := by decide +kernel
theorem xm_163 : xokm 163 := ⟨by decide +kernel, xr_163_0⟩
theorem xr_164_0 : xc_X11_part.all (xrow 11 RX11 cX11_part) = true := by decide +kernel
theorem xm_164 : xokm 164 := ⟨by decide +kernel, xr_164_0⟩
theorem xr_165_0 : (xc_X11_series.take 60).all (xrow 11 RX11 cX11_series) = true := by decide +kernel
theorem xr_165_1 : (xc_X11_series.drop 60).all (xrow 11 RX11 cX11_series) = true := by decide +kernel
theorem xrj_165_0 : xc_X11_series.all (xrow 11 RX11 cX11_series) = true := xall_join 60 xr_165_0 xr_165_1
theorem xm_165 : xokm 165 := ⟨by decide +kernel, xrj_165_0⟩
theorem xr_166_0 : (xc_X11_beside.take 60).all (xrow 11 RX11 cX11_beside) = true := by decide +kernel
theorem xr_166_1 : (xc_X11_beside.drop 60).all (xrow 11 RX11 cX11_beside) = true := by decide +kernel
theorem xrj_166_0 : xc_X11_beside.all (xrow 11 RX11 cX11_beside) = true := xall_join 60 xr_166_0 xr_166_1
theorem xm_166 : xokm 166 := ⟨by decide +kernel, xrj_166_0⟩
theorem xr_167_0 : xc_X11_hangs.all (xrow 11 RX11 cX11_hangs) = true := by decide +kernel
theorem xm_167 : xokm 167 := ⟨by decide +kernel, xr_167_0⟩
theorem xr_168_0 : xc_X11_cost.all (xrow 11 RX11 cX11_cost) = true := by decide +kernel
theorem xm_168 : xokm 168 := ⟨by decide +kernel, xr_168_0⟩
theorem xr_169_0 : xc_X11_cube.all (xrow 11 RX11 cX11_cube) = true := by decide +kernel
theorem xm_169 : xokm 169 := ⟨by decide +kernel, xr_169_0⟩
theorem xr_170_0 : xc_X11_sum.all (xrow 11 RX11 cX11_sum) = true := by decide +kernel
theorem xm_170 : xokm 170 := ⟨by decide +kernel, xr_170_0⟩
theorem xr_171_0 : xc_X11_coded.all (xrow 11 RX11 cX11_coded) = true := by decide +kernel
theorem xm_171 : xokm 171 := ⟨by decide +kernel, xr_171_0⟩
theorem xr_172_0 : xc_X11_best.all (xrow 11 RX11 cX11_best) = true := by decide +kernel
theorem xm_172 : xokm 172 := ⟨by decide +kernel, xr_172_0⟩
theorem xr_173_0 : xc_X11_hold.all (xrow 11 RX11 cX11_hold) = true := by decide +kernel
theorem xm_173 : xokm 173 := ⟨by decide +kernel, xr_173_0⟩
theorem xr_174_0 : xc_X11_restore.all (xrow 11 RX11 cX11_restore) = true := by decide +kernel
theorem xm_174 : xokm 174 := ⟨by decide +kernel, xr_174_0⟩
theorem xr_175_0 : (xc_X11_count.take 60).all (xrow 11 RX11 cX11_count) = true := by decide +kernel
theorem xr_175_1 : (xc_X11_count.drop 60).all (xrow 11 RX11 cX11_count) = true := by decide +kernel
theorem xrj_175_0 : xc_X11_count.all (xrow 11 RX11 cX11_count) = true := xall_join 60 xr_175_0 xr_175_1
theorem xm_175 : xokm 175 := ⟨by decide +kernel, xrj_175_0⟩
theorem xr_176_0 : xc_X11_pairsNow.all (xrow 11 RX11 cX11_pairsNow) = true := by decide +kernel
theorem xm_176 : xokm 176 := ⟨by decide +kernel, xr_176_0⟩
theorem xr_177_0 : xc_X11_coverNow.all (xrow 11 RX11 cX11_coverNow) = true := by decide +kernel
theorem xm_177 : xokm 177 := ⟨by decide +kernel, xr_177_0⟩
theorem xr_178_0 : xc_X11_fewestNow.all (xrow 11 RX11 cX11_fewestNow) = true := by decide +kernel
theorem xm_178 : xokm 178 := ⟨by decide +kernel, xr_178_0⟩
theorem xr_179_0 : xc_X11_partitionsNow.all (xrow 11 RX11 cX11_partitionsNow) = true := by decide +kernel
theorem xm_179 : xokm 179 := ⟨by decide +kernel, xr_179_0⟩
theorem xr_180_0 : xc_X11_hangingNow.all (xrow 11 RX11 cX11_hangingNow) = true := by decide +kernel
theorem xm_180 : xokm 180 := ⟨by decide +kernel, xr_180_0⟩
theorem xr_181_0 : xc_X11_pairOf.all (xrow 11 RX11 cX11_pairOf) = true := by decide +kernel
theorem xm_181 : xokm 181 := ⟨by decide +kernel, xr_181_0⟩
theorem xr_182_0 : (xc_X12_init.take 60).all (xrow 12 RX12 cX12_init) = true := by decide +kernel
theorem xr_182_1 : ((xc_X12_init.drop 60).take 60).all (xrow 12 RX12 cX12_init) = true := by decide +kernel
theorem xr_182_2 : ((xc_X12_init.drop 120).take 60).all (xrow 12 RX12 cX12_init) = true := by decide +kernel
theorem xr_182_3 : (xc_X12_init.drop 180).all (xrow 12 RX12 cX12_init) = true := by decide +kernel
theorem xrj_182_2 : (xc_X12_init.drop 120).all (xrow 12 RX12 cX12_init) = true := xall_join 60 xr_182_2 (by rw [List.drop_drop]; exact xr_182_3)
theorem xrj_182_1 : (xc_X12_init.drop 60).all (xrow 12 RX12 cX12_init) = true := xall_join 60 xr_182_1 (by rw [List.drop_drop]; exact xrj_182_2)
theorem xrj_182_0 : xc_X12_init.all (xrow 12 RX12 cX12_init) = true := xall_join 60 xr_182_0 xrj_182_1
theorem xm_182 : xokm 182 := ⟨by decide +kernel, xrj_182_0⟩
