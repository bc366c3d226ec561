theorem xr_59_0 : xc_X5_putMove.all (xrow 5 RX5 cX5_putMove) = true := by decide +kernel
theorem xm_59 : xokm 59 := ⟨by decide +kernel, xr_59_0⟩
theorem xr_60_0 : xc_X5_putCode.all (xrow 5 RX5 cX5_putCode) = true := by decide +kernel
theorem xm_60 : xokm 60 := ⟨by decide +kernel, xr_60_0⟩
theorem xr_61_0 : xc_X5_leadOf.all (xrow 5 RX5 cX5_leadOf) = true := by decide +kernel
theorem xm_61 : xokm 61 := ⟨by decide +kernel, xr_61_0⟩
theorem xr_62_0 : xc_X5_bits.all (xrow 5 RX5 cX5_bits) = true := by decide +kernel
theorem xm_62 : xokm 62 := ⟨by decide +kernel, xr_62_0⟩
theorem xr_63_0 : xc_X5_isProper.all (xrow 5 RX5 cX5_isProper) = true := by decide +kernel
theorem xm_63 : xokm 63 := ⟨by decide +kernel, xr_63_0⟩
theorem xr_64_0 : xc_X5_codeNumber.all (xrow 5 RX5 cX5_codeNumber) = true := by decide +kernel
theorem xm_64 : xokm 64 := ⟨by decide +kernel, xr_64_0⟩
theorem xr_65_0 : xc_X5_openMoves.all (xrow 5 RX5 cX5_openMoves) = true := by decide +kernel
theorem xm_65 : xokm 65 := ⟨by decide +kernel, xr_65_0⟩
theorem xr_66_0 : xc_X5_toldAnswers.all (xrow 5 RX5 cX5_toldAnswers) = true := by decide +kernel
theorem xm_66 : xokm 66 := ⟨by decide +kernel, xr_66_0⟩
theorem xr_67_0 : xc_X5_unreached.all (xrow 5 RX5 cX5_unreached) = true := by decide +kernel
theorem xm_67 : xokm 67 := ⟨by decide +kernel, xr_67_0⟩
theorem xr_68_0 : xc_X6_init.all (xrow 6 RX6 cX6_init) = true := by decide +kernel
theorem xm_68 : xokm 68 := ⟨by decide +kernel, xr_68_0⟩
theorem xr_69_0 : xc_X6_refresh.all (xrow 6 RX6 cX6_refresh) = true := by decide +kernel
theorem xm_69 : xokm 69 := ⟨by decide +kernel, xr_69_0⟩
theorem xr_70_0 : xc_X6_look.all (xrow 6 RX6 cX6_look) = true := by decide +kernel
theorem xm_70 : xokm 70 := ⟨by decide +kernel, xr_70_0⟩
theorem xr_71_0 : xc_X6_goRound.all (xrow 6 RX6 cX6_goRound) = true := by decide +kernel
theorem xm_71 : xokm 71 := ⟨by decide +kernel, xr_71_0⟩
theorem xr_72_0 : xc_X6_stepOf.all (xrow 6 RX6 cX6_stepOf) = true := by decide +kernel
theorem xm_72 : xokm 72 := ⟨by decide +kernel, xr_72_0⟩
theorem xr_73_0 : xc_X6_isUnlike.all (xrow 6 RX6 cX6_isUnlike) = true := by decide +kernel
theorem xm_73 : xokm 73 := ⟨by decide +kernel, xr_73_0⟩
theorem xr_74_0 : xc_X6_apartCount.all (xrow 6 RX6 cX6_apartCount) = true := by decide +kernel
theorem xm_74 : xokm 74 := ⟨by decide +kernel, xr_74_0⟩
theorem xr_75_0 : xc_X6_greatestRound.all (xrow 6 RX6 cX6_greatestRound) = true := by decide +kernel
theorem xm_75 : xokm 75 := ⟨by decide +kernel, xr_75_0⟩
theorem xr_76_0 : xc_X6_roundOf.all (xrow 6 RX6 cX6_roundOf) = true := by decide +kernel
theorem xm_76 : xokm 76 := ⟨by decide +kernel, xr_76_0⟩
theorem xr_77_0 : xc_X6_roundIn.all (xrow 6 RX6 cX6_roundIn) = true := by decide +kernel
theorem xm_77 : xokm 77 := ⟨by decide +kernel, xr_77_0⟩
theorem xr_78_0 : xc_X6_followed.all (xrow 6 RX6 cX6_followed) = true := by decide +kernel
theorem xm_78 : xokm 78 := ⟨by decide +kernel, xr_78_0⟩
theorem xr_79_0 : xc_X6_wordInput.all (xrow 6 RX6 cX6_wordInput) = true := by decide +kernel
theorem xm_79 : xokm 79 := ⟨by decide +kernel, xr_79_0⟩
theorem xr_80_0 : xc_X6_firstInput.all (xrow 6 RX6 cX6_firstInput) = true := by decide +kernel
theorem xm_80 : xokm 80 := ⟨by decide +kernel, xr_80_0⟩
theorem xr_81_0 : xc_X6_lengthShown.all (xrow 6 RX6 cX6_lengthShown) = true := by decide +kernel
theorem xm_81 : xokm 81 := ⟨by decide +kernel, xr_81_0⟩
theorem xr_82_0 : xc_X6_startStand.all (xrow 6 RX6 cX6_startStand) = true := by decide +kernel
theorem xm_82 : xokm 82 := ⟨by decide +kernel, xr_82_0⟩
theorem xr_83_0 : xc_X6_seek.all (xrow 6 RX6 cX6_seek) = true := by decide +kernel
theorem xm_83 : xokm 83 := ⟨by decide +kernel, xr_83_0⟩
theorem xr_84_0 : xc_X6_canTell.all (xrow 6 RX6 cX6_canTell) = true := by decide +kernel
theorem xm_84 : xokm 84 := ⟨by decide +kernel, xr_84_0⟩
theorem xr_85_0 : xc_X6_roundBetween.all (xrow 6 RX6 cX6_roundBetween) = true := by decide +kernel
theorem xm_85 : xokm 85 := ⟨by decide +kernel, xr_85_0⟩
theorem xr_86_0 : xc_X6_standBehind.all (xrow 6 RX6 cX6_standBehind) = true := by decide +kernel
theorem xm_86 : xokm 86 := ⟨by decide +kernel, xr_86_0⟩
theorem xr_87_0 : xc_X6_toldBy.all (xrow 6 RX6 cX6_toldBy) = true := by decide +kernel
theorem xm_87 : xokm 87 := ⟨by decide +kernel, xr_87_0⟩
theorem xr_88_0 : xc_X7_init.all (xrow 7 RX7 cX7_init) = true := by decide +kernel
theorem xm_88 : xokm 88 := ⟨by decide +kernel, xr_88_0⟩
theorem xr_89_0 : (xc_X7_refresh.take 60).all (xrow 7 RX7 cX7_refresh) = true := by decide +kernel
theorem xr_89_1 : (xc_X7_refresh.drop 60).all (xrow 7 RX7 cX7_refresh) = true := by decide +kernel
theorem xrj_89_0 : xc_X7_refresh.all (xrow 7 RX7 cX7_refresh) = true := xall_join 60 xr_89_0 xr_89_1
theorem xm_89 : xokm 89 := ⟨by decide +kernel, xrj_89_0⟩
theorem xr_90_0 : xc_X7_grow.all (xrow 7 RX7 cX7_grow) = true := by decide +kernel
theorem xm_90 : xokm 90 := ⟨by decide +kernel, xr_90_0⟩
theorem xr_91_0 : xc_X7_joinsOf.all (xrow 7 RX7 cX7_joinsOf) = true := by decide +kernel
theorem xm_91 : xokm 91 := ⟨by decide +kernel, xr_91_0⟩
theorem xr_92_0 : xc_X7_blockOf.all (xrow 7 RX7 cX7_blockOf) = true := by decide +kernel
theorem xm_92 : xokm 92 := ⟨by decide +kernel, xr_92_0⟩
theorem xr_93_0 : xc_X7_indexOf.all (xrow 7 RX7 cX7_indexOf) = true := by decide +kernel
theorem xm_93 : xokm 93 := ⟨by decide +kernel, xr_93_0⟩
theorem xr_94_0 : xc_X7_goingIndexOf.all (xrow 7 RX7 cX7_goingIndexOf) = true := by decide +kernel
theorem xm_94 : xokm 94 := ⟨by decide +kernel, xr_94_0⟩
theorem xr_95_0 : xc_X7_stays.all (xrow 7 RX7 cX7_stays) = true := by decide +kernel
theorem xm_95 : xokm 95 := ⟨by decide +kernel, xr_95_0⟩
theorem xr_96_0 : xc_X7_hasBlock.all (xrow 7 RX7 cX7_hasBlock) = true := by decide +kernel
theorem xm_96 : xokm 96 := ⟨by decide +kernel, xr_96_0⟩
theorem xr_97_0 : xc_X7_statesOf.all (xrow 7 RX7 cX7_statesOf) = true := by decide +kernel
theorem xm_97 : xokm 97 := ⟨by decide +kernel, xr_97_0⟩
theorem xr_98_0 : xc_X7_blockBehind.all (xrow 7 RX7 cX7_blockBehind) = true := by decide +kernel
theorem xm_98 : xokm 98 := ⟨by decide +kernel, xr_98_0⟩
theorem xr_99_0 : xc_X7_joined.all (xrow 7 RX7 cX7_joined) = true := by decide +kernel
theorem xm_99 : xokm 99 := ⟨by decide +kernel, xr_99_0⟩
theorem xr_100_0 : xc_X7_intoOf.all (xrow 7 RX7 cX7_intoOf) = true := by decide +kernel
theorem xm_100 : xokm 100 := ⟨by decide +kernel, xr_100_0⟩
theorem xr_101_0 : xc_X7_tailOf.all (xrow 7 RX7 cX7_tailOf) = true := by decide +kernel
theorem xm_101 : xokm 101 := ⟨by decide +kernel, xr_101_0⟩
theorem xr_102_0 : xc_X7_refreshSplit.all (xrow 7 RX7 cX7_refreshSplit) = true := by decide +kernel
theorem xm_102 : xokm 102 := ⟨by decide +kernel, xr_102_0⟩
theorem xr_103_0 : (xc_X7_trySplit.take 60).all (xrow 7 RX7 cX7_trySplit) = true := by decide +kernel
theorem xr_103_1 : (xc_X7_trySplit.drop 60).all (xrow 7 RX7 cX7_trySplit) = true := by decide +kernel
theorem xrj_103_0 : xc_X7_trySplit.all (xrow 7 RX7 cX7_trySplit) = true := xall_join 60 xr_103_0 xr_103_1
theorem xm_103 : xokm 103 := ⟨by decide +kernel, xrj_103_0⟩
theorem xr_104_0 : xc_X7_leastBlocks.all (xrow 7 RX7 cX7_leastBlocks) = true := by decide +kernel
theorem xm_104 : xokm 104 := ⟨by decide +kernel, xr_104_0⟩
theorem xr_105_0 : xc_X8_init.all (xrow 8 RX8 cX8_init) = true := by decide +kernel
theorem xm_105 : xokm 105 := ⟨by decide +kernel, xr_105_0⟩
theorem xr_106_0 : xc_X8_check.all (xrow 8 RX8 cX8_check) = true := by decide +kernel
theorem xm_106 : xokm 106 := ⟨by decide +kernel, xr_106_0⟩
theorem xr_107_0 : (xc_X8_gather.take 60).all (xrow 8 RX8 cX8_gather) = true := by decide +kernel
theorem xr_107_1 : (xc_X8_gather.drop 60).all (xrow 8 RX8 cX8_gather) = true := by decide +kernel
theorem xrj_107_0 : xc_X8_gather.all (xrow 8 RX8 cX8_gather) = true := xall_join 60 xr_107_0 xr_107_1
theorem xm_107 : xokm 107 := ⟨by decide +kernel, xrj_107_0⟩
theorem xr_108_0 : xc_X8_isInputs.all (xrow 8 RX8 cX8_isInputs) = true := by decide +kernel
theorem xm_108 : xokm 108 := ⟨by decide +kernel, xr_108_0⟩
theorem xr_109_0 : xc_X8_lengthOf.all (xrow 8 RX8 cX8_lengthOf) = true := by decide +kernel
theorem xm_109 : xokm 109 := ⟨by decide +kernel, xr_109_0⟩
theorem xr_110_0 : (xc_X8_checkLine.take 60).all (xrow 8 RX8 cX8_checkLine) = true := by decide +kernel
theorem xr_110_1 : ((xc_X8_checkLine.drop 60).take 60).all (xrow 8 RX8 cX8_checkLine) = true := by decide +kernel
theorem xr_110_2 : (xc_X8_checkLine.drop 120).all (xrow 8 RX8 cX8_checkLine) = true := by decide +kernel
theorem xrj_110_1 : (xc_X8_checkLine.drop 60).all (xrow 8 RX8 cX8_checkLine) = true := xall_join 60 xr_110_1 (by rw [List.drop_drop]; exact xr_110_2)
theorem xrj_110_0 : xc_X8_checkLine.all (xrow 8 RX8 cX8_checkLine) = true := xall_join 60 xr_110_0 xrj_110_1
theorem xm_110 : xokm 110 := ⟨by decide +kernel, xrj_110_0⟩
theorem xr_111_0 : xc_X8_failIf.all (xrow 8 RX8 cX8_failIf) = true := by decide +kernel
theorem xm_111 : xokm 111 := ⟨by decide +kernel, xr_111_0⟩
theorem xr_112_0 : xc_X8_isToken.all (xrow 8 RX8 cX8_isToken) = true := by decide +kernel
theorem xm_112 : xokm 112 := ⟨by decide +kernel, xr_112_0⟩
theorem xr_113_0 : xc_X8_isOpen.all (xrow 8 RX8 cX8_isOpen) = true := by decide +kernel
theorem xm_113 : xokm 113 := ⟨by decide +kernel, xr_113_0⟩
theorem xr_114_0 : xc_X8_valueOf.all (xrow 8 RX8 cX8_valueOf) = true := by decide +kernel
theorem xm_114 : xokm 114 := ⟨by decide +kernel, xr_114_0⟩
theorem xr_115_0 : xc_X8_stateIn.all (xrow 8 RX8 cX8_stateIn) = true := by decide +kernel
theorem xm_115 : xokm 115 := ⟨by decide +kernel, xr_115_0⟩
theorem xr_116_0 : (xc_X8_apply.take 60).all (xrow 8 RX8 cX8_apply) = true := by decide +kernel
theorem xr_116_1 : (xc_X8_apply.drop 60).all (xrow 8 RX8 cX8_apply) = true := by decide +kernel
theorem xrj_116_0 : xc_X8_apply.all (xrow 8 RX8 cX8_apply) = true := xall_join 60 xr_116_0 xr_116_1
theorem xm_116 : xokm 116 := ⟨by decide +kernel, xrj_116_0⟩
