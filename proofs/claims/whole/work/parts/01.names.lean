-- ===== PART A: goes FIRST, ahead of the names: the tables' words, and 'selects' of the private methods out of them =====
/-- a private method of a class that the tables say can be made, by its rows of tables_1 -/
def lw_okq (q : MethodName × Nat) : Prop := (q.1.cls ≠ "java/lang/invoke/MethodHandle" ∧ q.1.cls ≠ "java/lang/invoke/VarHandle") ∧ Cond.instantiable q.1.cls q.2 ∈ tables_1 ∧ Cond.privateMethod q.1 ∈ tables_1 ∧ Cond.instanceMethod q.1 ∈ tables_1
theorem lw_p0 : lw_okq (⟨"StateMill$Tape", "isBlank", "(I)Z"⟩, 2) := ⟨⟨by decide +kernel, by decide +kernel⟩, List.mem_of_getElem? (i := 121) (by decide +kernel), List.mem_of_getElem? (i := 503) (by decide +kernel), List.mem_of_getElem? (i := 504) (by decide +kernel)⟩
theorem lw_p1 : lw_okq (⟨"StateMill$Tokens", "kindOf", "(II)I"⟩, 8) := ⟨⟨by decide +kernel, by decide +kernel⟩, List.mem_of_getElem? (i := 137) (by decide +kernel), List.mem_of_getElem? (i := 523) (by decide +kernel), List.mem_of_getElem? (i := 524) (by decide +kernel)⟩
theorem lw_p2 : lw_okq (⟨"StateMill$Tokens", "fail", "(II)V"⟩, 8) := ⟨⟨by decide +kernel, by decide +kernel⟩, List.mem_of_getElem? (i := 137) (by decide +kernel), List.mem_of_getElem? (i := 592) (by decide +kernel), List.mem_of_getElem? (i := 593) (by decide +kernel)⟩
theorem lw_p3 : lw_okq (⟨"StateMill$Tokens", "beginning", "(I)I"⟩, 8) := ⟨⟨by decide +kernel, by decide +kernel⟩, List.mem_of_getElem? (i := 137) (by decide +kernel), List.mem_of_getElem? (i := 596) (by decide +kernel), List.mem_of_getElem? (i := 597) (by decide +kernel)⟩
theorem lw_p4 : lw_okq (⟨"StateMill$Tokens", "keep", "(III)V"⟩, 8) := ⟨⟨by decide +kernel, by decide +kernel⟩, List.mem_of_getElem? (i := 137) (by decide +kernel), List.mem_of_getElem? (i := 611) (by decide +kernel), List.mem_of_getElem? (i := 612) (by decide +kernel)⟩
theorem lw_p5 : lw_okq (⟨"StateMill$Reader", "gather", "()V"⟩, 7) := ⟨⟨by decide +kernel, by decide +kernel⟩, List.mem_of_getElem? (i := 174) (by decide +kernel), List.mem_of_getElem? (i := 615) (by decide +kernel), List.mem_of_getElem? (i := 616) (by decide +kernel)⟩
theorem lw_p6 : lw_okq (⟨"StateMill$Reader", "valueOf", "(I)I"⟩, 7) := ⟨⟨by decide +kernel, by decide +kernel⟩, List.mem_of_getElem? (i := 174) (by decide +kernel), List.mem_of_getElem? (i := 619) (by decide +kernel), List.mem_of_getElem? (i := 620) (by decide +kernel)⟩
theorem lw_p7 : lw_okq (⟨"StateMill$Reader", "isToken", "(I)Z"⟩, 7) := ⟨⟨by decide +kernel, by decide +kernel⟩, List.mem_of_getElem? (i := 174) (by decide +kernel), List.mem_of_getElem? (i := 623) (by decide +kernel), List.mem_of_getElem? (i := 624) (by decide +kernel)⟩
theorem lw_p8 : lw_okq (⟨"StateMill$Reader", "lengthOf", "(I)I"⟩, 7) := ⟨⟨by decide +kernel, by decide +kernel⟩, List.mem_of_getElem? (i := 174) (by decide +kernel), List.mem_of_getElem? (i := 634) (by decide +kernel), List.mem_of_getElem? (i := 635) (by decide +kernel)⟩
theorem lw_p9 : lw_okq (⟨"StateMill$Reader", "checkLine", "(I)V"⟩, 7) := ⟨⟨by decide +kernel, by decide +kernel⟩, List.mem_of_getElem? (i := 174) (by decide +kernel), List.mem_of_getElem? (i := 640) (by decide +kernel), List.mem_of_getElem? (i := 641) (by decide +kernel)⟩
theorem lw_p10 : lw_okq (⟨"StateMill$Reader", "stateIn", "(I)I"⟩, 7) := ⟨⟨by decide +kernel, by decide +kernel⟩, List.mem_of_getElem? (i := 174) (by decide +kernel), List.mem_of_getElem? (i := 644) (by decide +kernel), List.mem_of_getElem? (i := 645) (by decide +kernel)⟩
theorem lw_p11 : lw_okq (⟨"StateMill$Reader", "failIf", "(ZII)V"⟩, 7) := ⟨⟨by decide +kernel, by decide +kernel⟩, List.mem_of_getElem? (i := 174) (by decide +kernel), List.mem_of_getElem? (i := 652) (by decide +kernel), List.mem_of_getElem? (i := 653) (by decide +kernel)⟩
theorem lw_p12 : lw_okq (⟨"StateMill$Reader", "isOpen", "(I)Z"⟩, 7) := ⟨⟨by decide +kernel, by decide +kernel⟩, List.mem_of_getElem? (i := 174) (by decide +kernel), List.mem_of_getElem? (i := 656) (by decide +kernel), List.mem_of_getElem? (i := 657) (by decide +kernel)⟩
theorem lw_p13 : lw_okq (⟨"StateMill$History", "keep", "(IIII)V"⟩, 9) := ⟨⟨by decide +kernel, by decide +kernel⟩, List.mem_of_getElem? (i := 82) (by decide +kernel), List.mem_of_getElem? (i := 713) (by decide +kernel), List.mem_of_getElem? (i := 714) (by decide +kernel)⟩
theorem lw_p14 : lw_okq (⟨"StateMill", "pairsNow", "()LStateMill$Pairs;"⟩, 12) := ⟨⟨by decide +kernel, by decide +kernel⟩, List.mem_of_getElem? (i := 23) (by decide +kernel), List.mem_of_getElem? (i := 749) (by decide +kernel), List.mem_of_getElem? (i := 750) (by decide +kernel)⟩
theorem lw_p15 : lw_okq (⟨"StateMill$Pairs", "look", "(II)V"⟩, 8) := ⟨⟨by decide +kernel, by decide +kernel⟩, List.mem_of_getElem? (i := 203) (by decide +kernel), List.mem_of_getElem? (i := 758) (by decide +kernel), List.mem_of_getElem? (i := 759) (by decide +kernel)⟩
def lw_privs_1 : List (MethodName × Nat) := [(⟨"StateMill$Tape", "isBlank", "(I)Z"⟩, 2), (⟨"StateMill$Tokens", "kindOf", "(II)I"⟩, 8), (⟨"StateMill$Tokens", "fail", "(II)V"⟩, 8), (⟨"StateMill$Tokens", "beginning", "(I)I"⟩, 8), (⟨"StateMill$Tokens", "keep", "(III)V"⟩, 8), (⟨"StateMill$Reader", "gather", "()V"⟩, 7), (⟨"StateMill$Reader", "valueOf", "(I)I"⟩, 7), (⟨"StateMill$Reader", "isToken", "(I)Z"⟩, 7), (⟨"StateMill$Reader", "lengthOf", "(I)I"⟩, 7), (⟨"StateMill$Reader", "checkLine", "(I)V"⟩, 7), (⟨"StateMill$Reader", "stateIn", "(I)I"⟩, 7), (⟨"StateMill$Reader", "failIf", "(ZII)V"⟩, 7), (⟨"StateMill$Reader", "isOpen", "(I)Z"⟩, 7), (⟨"StateMill$History", "keep", "(IIII)V"⟩, 9), (⟨"StateMill", "pairsNow", "()LStateMill$Pairs;"⟩, 12), (⟨"StateMill$Pairs", "look", "(II)V"⟩, 8)]
theorem lw_r1 : ∀ q ∈ lw_privs_1, lw_okq q := List.forall_mem_cons.mpr ⟨lw_p0, List.forall_mem_cons.mpr ⟨lw_p1, List.forall_mem_cons.mpr ⟨lw_p2, List.forall_mem_cons.mpr ⟨lw_p3, List.forall_mem_cons.mpr ⟨lw_p4, List.forall_mem_cons.mpr ⟨lw_p5, List.forall_mem_cons.mpr ⟨lw_p6, List.forall_mem_cons.mpr ⟨lw_p7, List.forall_mem_cons.mpr ⟨lw_p8, List.forall_mem_cons.mpr ⟨lw_p9, List.forall_mem_cons.mpr ⟨lw_p10, List.forall_mem_cons.mpr ⟨lw_p11, List.forall_mem_cons.mpr ⟨lw_p12, List.forall_mem_cons.mpr ⟨lw_p13, List.forall_mem_cons.mpr ⟨lw_p14, List.forall_mem_cons.mpr ⟨lw_p15, fun _ h => absurd h List.not_mem_nil⟩⟩⟩⟩⟩⟩⟩⟩⟩⟩⟩⟩⟩⟩⟩⟩
theorem lw_p16 : lw_okq (⟨"StateMill$Pairs", "stepOf", "(III)I"⟩, 8) := ⟨⟨by decide +kernel, by decide +kernel⟩, List.mem_of_getElem? (i := 203) (by decide +kernel), List.mem_of_getElem? (i := 771) (by decide +kernel), List.mem_of_getElem? (i := 772) (by decide +kernel)⟩
theorem lw_p17 : lw_okq (⟨"StateMill$Pairs", "isUnlike", "(III)Z"⟩, 8) := ⟨⟨by decide +kernel, by decide +kernel⟩, List.mem_of_getElem? (i := 203) (by decide +kernel), List.mem_of_getElem? (i := 776) (by decide +kernel), List.mem_of_getElem? (i := 777) (by decide +kernel)⟩
theorem lw_p18 : lw_okq (⟨"StateMill$Pairs", "goRound", "(I)V"⟩, 8) := ⟨⟨by decide +kernel, by decide +kernel⟩, List.mem_of_getElem? (i := 203) (by decide +kernel), List.mem_of_getElem? (i := 781) (by decide +kernel), List.mem_of_getElem? (i := 782) (by decide +kernel)⟩
theorem lw_p19 : lw_okq (⟨"StateMill$Pairs", "roundIn", "(I)I"⟩, 8) := ⟨⟨by decide +kernel, by decide +kernel⟩, List.mem_of_getElem? (i := 203) (by decide +kernel), List.mem_of_getElem? (i := 789) (by decide +kernel), List.mem_of_getElem? (i := 790) (by decide +kernel)⟩
theorem lw_p20 : lw_okq (⟨"StateMill$Pairs", "firstInput", "(II)I"⟩, 8) := ⟨⟨by decide +kernel, by decide +kernel⟩, List.mem_of_getElem? (i := 203) (by decide +kernel), List.mem_of_getElem? (i := 801) (by decide +kernel), List.mem_of_getElem? (i := 802) (by decide +kernel)⟩
theorem lw_p21 : lw_okq (⟨"StateMill$Pairs", "seek", "(IIII)Z"⟩, 8) := ⟨⟨by decide +kernel, by decide +kernel⟩, List.mem_of_getElem? (i := 203) (by decide +kernel), List.mem_of_getElem? (i := 818) (by decide +kernel), List.mem_of_getElem? (i := 819) (by decide +kernel)⟩
theorem lw_p22 : lw_okq (⟨"StateMill$Pairs", "canTell", "(III)Z"⟩, 8) := ⟨⟨by decide +kernel, by decide +kernel⟩, List.mem_of_getElem? (i := 203) (by decide +kernel), List.mem_of_getElem? (i := 822) (by decide +kernel), List.mem_of_getElem? (i := 823) (by decide +kernel)⟩
theorem lw_p23 : lw_okq (⟨"StateMill$Pairs", "roundBetween", "(II)I"⟩, 8) := ⟨⟨by decide +kernel, by decide +kernel⟩, List.mem_of_getElem? (i := 203) (by decide +kernel), List.mem_of_getElem? (i := 826) (by decide +kernel), List.mem_of_getElem? (i := 827) (by decide +kernel)⟩
theorem lw_p24 : lw_okq (⟨"StateMill$Pairs", "standBehind", "(II)I"⟩, 8) := ⟨⟨by decide +kernel, by decide +kernel⟩, List.mem_of_getElem? (i := 203) (by decide +kernel), List.mem_of_getElem? (i := 830) (by decide +kernel), List.mem_of_getElem? (i := 831) (by decide +kernel)⟩
theorem lw_p25 : lw_okq (⟨"StateMill$Pairs", "toldBy", "(II)I"⟩, 8) := ⟨⟨by decide +kernel, by decide +kernel⟩, List.mem_of_getElem? (i := 203) (by decide +kernel), List.mem_of_getElem? (i := 834) (by decide +kernel), List.mem_of_getElem? (i := 835) (by decide +kernel)⟩
theorem lw_p26 : lw_okq (⟨"StateMill", "coverNow", "()LStateMill$Cover;"⟩, 12) := ⟨⟨by decide +kernel, by decide +kernel⟩, List.mem_of_getElem? (i := 23) (by decide +kernel), List.mem_of_getElem? (i := 842) (by decide +kernel), List.mem_of_getElem? (i := 843) (by decide +kernel)⟩
theorem lw_p27 : lw_okq (⟨"StateMill$Cover", "pairsIn", "(I)I"⟩, 14) := ⟨⟨by decide +kernel, by decide +kernel⟩, List.mem_of_getElem? (i := 236) (by decide +kernel), List.mem_of_getElem? (i := 850) (by decide +kernel), List.mem_of_getElem? (i := 851) (by decide +kernel)⟩
theorem lw_p28 : lw_okq (⟨"StateMill$Cover", "addClass", "(I)V"⟩, 14) := ⟨⟨by decide +kernel, by decide +kernel⟩, List.mem_of_getElem? (i := 236) (by decide +kernel), List.mem_of_getElem? (i := 855) (by decide +kernel), List.mem_of_getElem? (i := 856) (by decide +kernel)⟩
theorem lw_p29 : lw_okq (⟨"StateMill$Cover", "gatherGreatest", "()V"⟩, 14) := ⟨⟨by decide +kernel, by decide +kernel⟩, List.mem_of_getElem? (i := 236) (by decide +kernel), List.mem_of_getElem? (i := 873) (by decide +kernel), List.mem_of_getElem? (i := 874) (by decide +kernel)⟩
theorem lw_p30 : lw_okq (⟨"StateMill$Cover", "isGreatest", "(I)Z"⟩, 14) := ⟨⟨by decide +kernel, by decide +kernel⟩, List.mem_of_getElem? (i := 236) (by decide +kernel), List.mem_of_getElem? (i := 877) (by decide +kernel), List.mem_of_getElem? (i := 878) (by decide +kernel)⟩
theorem lw_p31 : lw_okq (⟨"StateMill", "fewestNow", "()LStateMill$Cover;"⟩, 12) := ⟨⟨by decide +kernel, by decide +kernel⟩, List.mem_of_getElem? (i := 23) (by decide +kernel), List.mem_of_getElem? (i := 889) (by decide +kernel), List.mem_of_getElem? (i := 890) (by decide +kernel)⟩
def lw_privs_2 : List (MethodName × Nat) := [(⟨"StateMill$Pairs", "stepOf", "(III)I"⟩, 8), (⟨"StateMill$Pairs", "isUnlike", "(III)Z"⟩, 8), (⟨"StateMill$Pairs", "goRound", "(I)V"⟩, 8), (⟨"StateMill$Pairs", "roundIn", "(I)I"⟩, 8), (⟨"StateMill$Pairs", "firstInput", "(II)I"⟩, 8), (⟨"StateMill$Pairs", "seek", "(IIII)Z"⟩, 8), (⟨"StateMill$Pairs", "canTell", "(III)Z"⟩, 8), (⟨"StateMill$Pairs", "roundBetween", "(II)I"⟩, 8), (⟨"StateMill$Pairs", "standBehind", "(II)I"⟩, 8), (⟨"StateMill$Pairs", "toldBy", "(II)I"⟩, 8), (⟨"StateMill", "coverNow", "()LStateMill$Cover;"⟩, 12), (⟨"StateMill$Cover", "pairsIn", "(I)I"⟩, 14), (⟨"StateMill$Cover", "addClass", "(I)V"⟩, 14), (⟨"StateMill$Cover", "gatherGreatest", "()V"⟩, 14), (⟨"StateMill$Cover", "isGreatest", "(I)Z"⟩, 14), (⟨"StateMill", "fewestNow", "()LStateMill$Cover;"⟩, 12)]
theorem lw_r2 : ∀ q ∈ lw_privs_2, lw_okq q := List.forall_mem_cons.mpr ⟨lw_p16, List.forall_mem_cons.mpr ⟨lw_p17, List.forall_mem_cons.mpr ⟨lw_p18, List.forall_mem_cons.mpr ⟨lw_p19, List.forall_mem_cons.mpr ⟨lw_p20, List.forall_mem_cons.mpr ⟨lw_p21, List.forall_mem_cons.mpr ⟨lw_p22, List.forall_mem_cons.mpr ⟨lw_p23, List.forall_mem_cons.mpr ⟨lw_p24, List.forall_mem_cons.mpr ⟨lw_p25, List.forall_mem_cons.mpr ⟨lw_p26, List.forall_mem_cons.mpr ⟨lw_p27, List.forall_mem_cons.mpr ⟨lw_p28, List.forall_mem_cons.mpr ⟨lw_p29, List.forall_mem_cons.mpr ⟨lw_p30, List.forall_mem_cons.mpr ⟨lw_p31, fun _ h => absurd h List.not_mem_nil⟩⟩⟩⟩⟩⟩⟩⟩⟩⟩⟩⟩⟩⟩⟩⟩
theorem lw_p32 : lw_okq (⟨"StateMill$Cover", "choose", "(IIII)Z"⟩, 14) := ⟨⟨by decide +kernel, by decide +kernel⟩, List.mem_of_getElem? (i := 236) (by decide +kernel), List.mem_of_getElem? (i := 897) (by decide +kernel), List.mem_of_getElem? (i := 898) (by decide +kernel)⟩
theorem lw_p33 : lw_okq (⟨"StateMill$Cover", "isClosed", "(I)Z"⟩, 14) := ⟨⟨by decide +kernel, by decide +kernel⟩, List.mem_of_getElem? (i := 236) (by decide +kernel), List.mem_of_getElem? (i := 901) (by decide +kernel), List.mem_of_getElem? (i := 902) (by decide +kernel)⟩
theorem lw_p34 : lw_okq (⟨"StateMill$Cover", "isInChosen", "(II)Z"⟩, 14) := ⟨⟨by decide +kernel, by decide +kernel⟩, List.mem_of_getElem? (i := 236) (by decide +kernel), List.mem_of_getElem? (i := 905) (by decide +kernel), List.mem_of_getElem? (i := 906) (by decide +kernel)⟩
theorem lw_p35 : lw_okq (⟨"StateMill$Cover", "firstHolding", "(I)I"⟩, 14) := ⟨⟨by decide +kernel, by decide +kernel⟩, List.mem_of_getElem? (i := 236) (by decide +kernel), List.mem_of_getElem? (i := 935) (by decide +kernel), List.mem_of_getElem? (i := 936) (by decide +kernel)⟩
theorem lw_p36 : lw_okq (⟨"StateMill", "partitionsNow", "()LStateMill$Partitions;"⟩, 12) := ⟨⟨by decide +kernel, by decide +kernel⟩, List.mem_of_getElem? (i := 23) (by decide +kernel), List.mem_of_getElem? (i := 976) (by decide +kernel), List.mem_of_getElem? (i := 977) (by decide +kernel)⟩
theorem lw_p37 : lw_okq (⟨"StateMill$Partitions", "grow", "(III)V"⟩, 14) := ⟨⟨by decide +kernel, by decide +kernel⟩, List.mem_of_getElem? (i := 291) (by decide +kernel), List.mem_of_getElem? (i := 984) (by decide +kernel), List.mem_of_getElem? (i := 985) (by decide +kernel)⟩
theorem lw_p38 : lw_okq (⟨"StateMill$Partitions", "joinsOf", "(I)I"⟩, 14) := ⟨⟨by decide +kernel, by decide +kernel⟩, List.mem_of_getElem? (i := 291) (by decide +kernel), List.mem_of_getElem? (i := 988) (by decide +kernel), List.mem_of_getElem? (i := 989) (by decide +kernel)⟩
theorem lw_p39 : lw_okq (⟨"StateMill$Partitions", "trySplit", "(II)V"⟩, 14) := ⟨⟨by decide +kernel, by decide +kernel⟩, List.mem_of_getElem? (i := 291) (by decide +kernel), List.mem_of_getElem? (i := 1041) (by decide +kernel), List.mem_of_getElem? (i := 1042) (by decide +kernel)⟩
theorem lw_p40 : lw_okq (⟨"StateMill", "hangingNow", "()LStateMill$Hanging;"⟩, 12) := ⟨⟨by decide +kernel, by decide +kernel⟩, List.mem_of_getElem? (i := 23) (by decide +kernel), List.mem_of_getElem? (i := 1099) (by decide +kernel), List.mem_of_getElem? (i := 1100) (by decide +kernel)⟩
theorem lw_p41 : lw_okq (⟨"StateMill$Hanging", "alikePairs", "([II)I"⟩, 4) := ⟨⟨by decide +kernel, by decide +kernel⟩, List.mem_of_getElem? (i := 346) (by decide +kernel), List.mem_of_getElem? (i := 1107) (by decide +kernel), List.mem_of_getElem? (i := 1108) (by decide +kernel)⟩
theorem lw_p42 : lw_okq (⟨"StateMill$Cubes", "look", "([III)V"⟩, 9) := ⟨⟨by decide +kernel, by decide +kernel⟩, List.mem_of_getElem? (i := 365) (by decide +kernel), List.mem_of_getElem? (i := 1143) (by decide +kernel), List.mem_of_getElem? (i := 1144) (by decide +kernel)⟩
theorem lw_p43 : lw_okq (⟨"StateMill$Cubes", "aim", "(I)V"⟩, 9) := ⟨⟨by decide +kernel, by decide +kernel⟩, List.mem_of_getElem? (i := 365) (by decide +kernel), List.mem_of_getElem? (i := 1150) (by decide +kernel), List.mem_of_getElem? (i := 1151) (by decide +kernel)⟩
theorem lw_p44 : lw_okq (⟨"StateMill$Cubes", "least", "(II)I"⟩, 9) := ⟨⟨by decide +kernel, by decide +kernel⟩, List.mem_of_getElem? (i := 365) (by decide +kernel), List.mem_of_getElem? (i := 1154) (by decide +kernel), List.mem_of_getElem? (i := 1155) (by decide +kernel)⟩
theorem lw_p45 : lw_okq (⟨"StateMill$Cubes", "choose", "(IIII)Z"⟩, 9) := ⟨⟨by decide +kernel, by decide +kernel⟩, List.mem_of_getElem? (i := 365) (by decide +kernel), List.mem_of_getElem? (i := 1160) (by decide +kernel), List.mem_of_getElem? (i := 1161) (by decide +kernel)⟩
theorem lw_p46 : lw_okq (⟨"StateMill$Best", "assign", "(III)V"⟩, 7) := ⟨⟨by decide +kernel, by decide +kernel⟩, List.mem_of_getElem? (i := 403) (by decide +kernel), List.mem_of_getElem? (i := 1193) (by decide +kernel), List.mem_of_getElem? (i := 1194) (by decide +kernel)⟩
theorem lw_p47 : lw_okq (⟨"StateMill$Best", "weigh", "(I)V"⟩, 7) := ⟨⟨by decide +kernel, by decide +kernel⟩, List.mem_of_getElem? (i := 403) (by decide +kernel), List.mem_of_getElem? (i := 1197) (by decide +kernel), List.mem_of_getElem? (i := 1198) (by decide +kernel)⟩
def lw_privs_3 : List (MethodName × Nat) := [(⟨"StateMill$Cover", "choose", "(IIII)Z"⟩, 14), (⟨"StateMill$Cover", "isClosed", "(I)Z"⟩, 14), (⟨"StateMill$Cover", "isInChosen", "(II)Z"⟩, 14), (⟨"StateMill$Cover", "firstHolding", "(I)I"⟩, 14), (⟨"StateMill", "partitionsNow", "()LStateMill$Partitions;"⟩, 12), (⟨"StateMill$Partitions", "grow", "(III)V"⟩, 14), (⟨"StateMill$Partitions", "joinsOf", "(I)I"⟩, 14), (⟨"StateMill$Partitions", "trySplit", "(II)V"⟩, 14), (⟨"StateMill", "hangingNow", "()LStateMill$Hanging;"⟩, 12), (⟨"StateMill$Hanging", "alikePairs", "([II)I"⟩, 4), (⟨"StateMill$Cubes", "look", "([III)V"⟩, 9), (⟨"StateMill$Cubes", "aim", "(I)V"⟩, 9), (⟨"StateMill$Cubes", "least", "(II)I"⟩, 9), (⟨"StateMill$Cubes", "choose", "(IIII)Z"⟩, 9), (⟨"StateMill$Best", "assign", "(III)V"⟩, 7), (⟨"StateMill$Best", "weigh", "(I)V"⟩, 7)]
theorem lw_r3 : ∀ q ∈ lw_privs_3, lw_okq q := List.forall_mem_cons.mpr ⟨lw_p32, List.forall_mem_cons.mpr ⟨lw_p33, List.forall_mem_cons.mpr ⟨lw_p34, List.forall_mem_cons.mpr ⟨lw_p35, List.forall_mem_cons.mpr ⟨lw_p36, List.forall_mem_cons.mpr ⟨lw_p37, List.forall_mem_cons.mpr ⟨lw_p38, List.forall_mem_cons.mpr ⟨lw_p39, List.forall_mem_cons.mpr ⟨lw_p40, List.forall_mem_cons.mpr ⟨lw_p41, List.forall_mem_cons.mpr ⟨lw_p42, List.forall_mem_cons.mpr ⟨lw_p43, List.forall_mem_cons.mpr ⟨lw_p44, List.forall_mem_cons.mpr ⟨lw_p45, List.forall_mem_cons.mpr ⟨lw_p46, List.forall_mem_cons.mpr ⟨lw_p47, fun _ h => absurd h List.not_mem_nil⟩⟩⟩⟩⟩⟩⟩⟩⟩⟩⟩⟩⟩⟩⟩⟩
theorem lw_p48 : lw_okq (⟨"StateMill$Best", "areBitsInOrder", "(I)Z"⟩, 7) := ⟨⟨by decide +kernel, by decide +kernel⟩, List.mem_of_getElem? (i := 403) (by decide +kernel), List.mem_of_getElem? (i := 1208) (by decide +kernel), List.mem_of_getElem? (i := 1209) (by decide +kernel)⟩
theorem lw_p49 : lw_okq (⟨"StateMill$Best", "isFirstIn", "(III)Z"⟩, 7) := ⟨⟨by decide +kernel, by decide +kernel⟩, List.mem_of_getElem? (i := 403) (by decide +kernel), List.mem_of_getElem? (i := 1212) (by decide +kernel), List.mem_of_getElem? (i := 1213) (by decide +kernel)⟩
theorem lw_p50 : lw_okq (⟨"StateMill$Best", "canBeLess", "(II)Z"⟩, 7) := ⟨⟨by decide +kernel, by decide +kernel⟩, List.mem_of_getElem? (i := 403) (by decide +kernel), List.mem_of_getElem? (i := 1216) (by decide +kernel), List.mem_of_getElem? (i := 1217) (by decide +kernel)⟩
theorem lw_p51 : lw_okq (⟨"StateMillModel", "fillsCubes", "()V"⟩, 57) := ⟨⟨by decide +kernel, by decide +kernel⟩, List.mem_of_getElem? (i := 1287) (by decide +kernel), List.mem_of_getElem? (i := 1300) (by decide +kernel), List.mem_of_getElem? (i := 1301) (by decide +kernel)⟩
theorem lw_p52 : lw_okq (⟨"StateMillModel", "changes", "()V"⟩, 57) := ⟨⟨by decide +kernel, by decide +kernel⟩, List.mem_of_getElem? (i := 1287) (by decide +kernel), List.mem_of_getElem? (i := 1307) (by decide +kernel), List.mem_of_getElem? (i := 1308) (by decide +kernel)⟩
theorem lw_p53 : lw_okq (⟨"StateMillModel", "lays", "(I)V"⟩, 57) := ⟨⟨by decide +kernel, by decide +kernel⟩, List.mem_of_getElem? (i := 1287) (by decide +kernel), List.mem_of_getElem? (i := 1487) (by decide +kernel), List.mem_of_getElem? (i := 1488) (by decide +kernel)⟩
theorem lw_p54 : lw_okq (⟨"StateMillModel", "parts", "()V"⟩, 57) := ⟨⟨by decide +kernel, by decide +kernel⟩, List.mem_of_getElem? (i := 1287) (by decide +kernel), List.mem_of_getElem? (i := 1499) (by decide +kernel), List.mem_of_getElem? (i := 1500) (by decide +kernel)⟩
theorem lw_p55 : lw_okq (⟨"StateMillModel", "byteAt", "(I)I"⟩, 57) := ⟨⟨by decide +kernel, by decide +kernel⟩, List.mem_of_getElem? (i := 1287) (by decide +kernel), List.mem_of_getElem? (i := 1503) (by decide +kernel), List.mem_of_getElem? (i := 1504) (by decide +kernel)⟩
theorem lw_p56 : lw_okq (⟨"StateMillModel", "token", "(IIIJ)V"⟩, 57) := ⟨⟨by decide +kernel, by decide +kernel⟩, List.mem_of_getElem? (i := 1287) (by decide +kernel), List.mem_of_getElem? (i := 1507) (by decide +kernel), List.mem_of_getElem? (i := 1508) (by decide +kernel)⟩
theorem lw_p57 : lw_okq (⟨"StateMillModel", "sign", "(III)I"⟩, 57) := ⟨⟨by decide +kernel, by decide +kernel⟩, List.mem_of_getElem? (i := 1287) (by decide +kernel), List.mem_of_getElem? (i := 1517) (by decide +kernel), List.mem_of_getElem? (i := 1518) (by decide +kernel)⟩
theorem lw_p58 : lw_okq (⟨"StateMillModel", "is", "(I)Z"⟩, 57) := ⟨⟨by decide +kernel, by decide +kernel⟩, List.mem_of_getElem? (i := 1287) (by decide +kernel), List.mem_of_getElem? (i := 1521) (by decide +kernel), List.mem_of_getElem? (i := 1522) (by decide +kernel)⟩
theorem lw_p59 : lw_okq (⟨"StateMillModel", "line", "()V"⟩, 57) := ⟨⟨by decide +kernel, by decide +kernel⟩, List.mem_of_getElem? (i := 1287) (by decide +kernel), List.mem_of_getElem? (i := 1525) (by decide +kernel), List.mem_of_getElem? (i := 1526) (by decide +kernel)⟩
theorem lw_p60 : lw_okq (⟨"StateMillModel", "fail", "(I)V"⟩, 57) := ⟨⟨by decide +kernel, by decide +kernel⟩, List.mem_of_getElem? (i := 1287) (by decide +kernel), List.mem_of_getElem? (i := 1529) (by decide +kernel), List.mem_of_getElem? (i := 1530) (by decide +kernel)⟩
theorem lw_p61 : lw_okq (⟨"StateMillModel", "passes", "()V"⟩, 57) := ⟨⟨by decide +kernel, by decide +kernel⟩, List.mem_of_getElem? (i := 1287) (by decide +kernel), List.mem_of_getElem? (i := 1533) (by decide +kernel), List.mem_of_getElem? (i := 1534) (by decide +kernel)⟩
theorem lw_p62 : lw_okq (⟨"StateMillModel", "must", "(I)V"⟩, 57) := ⟨⟨by decide +kernel, by decide +kernel⟩, List.mem_of_getElem? (i := 1287) (by decide +kernel), List.mem_of_getElem? (i := 1537) (by decide +kernel), List.mem_of_getElem? (i := 1538) (by decide +kernel)⟩
theorem lw_p63 : lw_okq (⟨"StateMillModel", "either", "(II)V"⟩, 57) := ⟨⟨by decide +kernel, by decide +kernel⟩, List.mem_of_getElem? (i := 1287) (by decide +kernel), List.mem_of_getElem? (i := 1544) (by decide +kernel), List.mem_of_getElem? (i := 1545) (by decide +kernel)⟩
def lw_privs_4 : List (MethodName × Nat) := [(⟨"StateMill$Best", "areBitsInOrder", "(I)Z"⟩, 7), (⟨"StateMill$Best", "isFirstIn", "(III)Z"⟩, 7), (⟨"StateMill$Best", "canBeLess", "(II)Z"⟩, 7), (⟨"StateMillModel", "fillsCubes", "()V"⟩, 57), (⟨"StateMillModel", "changes", "()V"⟩, 57), (⟨"StateMillModel", "lays", "(I)V"⟩, 57), (⟨"StateMillModel", "parts", "()V"⟩, 57), (⟨"StateMillModel", "byteAt", "(I)I"⟩, 57), (⟨"StateMillModel", "token", "(IIIJ)V"⟩, 57), (⟨"StateMillModel", "sign", "(III)I"⟩, 57), (⟨"StateMillModel", "is", "(I)Z"⟩, 57), (⟨"StateMillModel", "line", "()V"⟩, 57), (⟨"StateMillModel", "fail", "(I)V"⟩, 57), (⟨"StateMillModel", "passes", "()V"⟩, 57), (⟨"StateMillModel", "must", "(I)V"⟩, 57), (⟨"StateMillModel", "either", "(II)V"⟩, 57)]
theorem lw_r4 : ∀ q ∈ lw_privs_4, lw_okq q := List.forall_mem_cons.mpr ⟨lw_p48, List.forall_mem_cons.mpr ⟨lw_p49, List.forall_mem_cons.mpr ⟨lw_p50, List.forall_mem_cons.mpr ⟨lw_p51, List.forall_mem_cons.mpr ⟨lw_p52, List.forall_mem_cons.mpr ⟨lw_p53, List.forall_mem_cons.mpr ⟨lw_p54, List.forall_mem_cons.mpr ⟨lw_p55, List.forall_mem_cons.mpr ⟨lw_p56, List.forall_mem_cons.mpr ⟨lw_p57, List.forall_mem_cons.mpr ⟨lw_p58, List.forall_mem_cons.mpr ⟨lw_p59, List.forall_mem_cons.mpr ⟨lw_p60, List.forall_mem_cons.mpr ⟨lw_p61, List.forall_mem_cons.mpr ⟨lw_p62, List.forall_mem_cons.mpr ⟨lw_p63, fun _ h => absurd h List.not_mem_nil⟩⟩⟩⟩⟩⟩⟩⟩⟩⟩⟩⟩⟩⟩⟩⟩
theorem lw_p64 : lw_okq (⟨"StateMillModel", "means", "()V"⟩, 57) := ⟨⟨by decide +kernel, by decide +kernel⟩, List.mem_of_getElem? (i := 1287) (by decide +kernel), List.mem_of_getElem? (i := 1548) (by decide +kernel), List.mem_of_getElem? (i := 1549) (by decide +kernel)⟩
theorem lw_p65 : lw_okq (⟨"StateMillModel", "wrong", "(II)V"⟩, 57) := ⟨⟨by decide +kernel, by decide +kernel⟩, List.mem_of_getElem? (i := 1287) (by decide +kernel), List.mem_of_getElem? (i := 1552) (by decide +kernel), List.mem_of_getElem? (i := 1553) (by decide +kernel)⟩
theorem lw_p66 : lw_okq (⟨"StateMillModel", "bounded", "(III)I"⟩, 57) := ⟨⟨by decide +kernel, by decide +kernel⟩, List.mem_of_getElem? (i := 1287) (by decide +kernel), List.mem_of_getElem? (i := 1556) (by decide +kernel), List.mem_of_getElem? (i := 1557) (by decide +kernel)⟩
theorem lw_p67 : lw_okq (⟨"StateMillModel", "named", "(I)I"⟩, 57) := ⟨⟨by decide +kernel, by decide +kernel⟩, List.mem_of_getElem? (i := 1287) (by decide +kernel), List.mem_of_getElem? (i := 1560) (by decide +kernel), List.mem_of_getElem? (i := 1561) (by decide +kernel)⟩
theorem lw_p68 : lw_okq (⟨"StateMillModel", "isMove", "(II)Z"⟩, 57) := ⟨⟨by decide +kernel, by decide +kernel⟩, List.mem_of_getElem? (i := 1287) (by decide +kernel), List.mem_of_getElem? (i := 1572) (by decide +kernel), List.mem_of_getElem? (i := 1573) (by decide +kernel)⟩
theorem lw_p69 : lw_okq (⟨"StateMillModel", "isState", "(I)Z"⟩, 57) := ⟨⟨by decide +kernel, by decide +kernel⟩, List.mem_of_getElem? (i := 1287) (by decide +kernel), List.mem_of_getElem? (i := 1576) (by decide +kernel), List.mem_of_getElem? (i := 1577) (by decide +kernel)⟩
theorem lw_p70 : lw_okq (⟨"StateMillModel", "isInput", "(I)Z"⟩, 57) := ⟨⟨by decide +kernel, by decide +kernel⟩, List.mem_of_getElem? (i := 1287) (by decide +kernel), List.mem_of_getElem? (i := 1580) (by decide +kernel), List.mem_of_getElem? (i := 1581) (by decide +kernel)⟩
theorem lw_p71 : lw_okq (⟨"StateMillModel", "to", "(II)I"⟩, 57) := ⟨⟨by decide +kernel, by decide +kernel⟩, List.mem_of_getElem? (i := 1287) (by decide +kernel), List.mem_of_getElem? (i := 1584) (by decide +kernel), List.mem_of_getElem? (i := 1585) (by decide +kernel)⟩
theorem lw_p72 : lw_okq (⟨"StateMillModel", "answer", "(II)I"⟩, 57) := ⟨⟨by decide +kernel, by decide +kernel⟩, List.mem_of_getElem? (i := 1287) (by decide +kernel), List.mem_of_getElem? (i := 1588) (by decide +kernel), List.mem_of_getElem? (i := 1589) (by decide +kernel)⟩
theorem lw_p73 : lw_okq (⟨"StateMillModel", "marks", "()V"⟩, 57) := ⟨⟨by decide +kernel, by decide +kernel⟩, List.mem_of_getElem? (i := 1287) (by decide +kernel), List.mem_of_getElem? (i := 1592) (by decide +kernel), List.mem_of_getElem? (i := 1593) (by decide +kernel)⟩
theorem lw_p74 : lw_okq (⟨"StateMillModel", "codeOf", "(I)I"⟩, 57) := ⟨⟨by decide +kernel, by decide +kernel⟩, List.mem_of_getElem? (i := 1287) (by decide +kernel), List.mem_of_getElem? (i := 1600) (by decide +kernel), List.mem_of_getElem? (i := 1601) (by decide +kernel)⟩
theorem lw_p75 : lw_okq (⟨"StateMillModel", "knows", "()V"⟩, 57) := ⟨⟨by decide +kernel, by decide +kernel⟩, List.mem_of_getElem? (i := 1287) (by decide +kernel), List.mem_of_getElem? (i := 1624) (by decide +kernel), List.mem_of_getElem? (i := 1625) (by decide +kernel)⟩
theorem lw_p76 : lw_okq (⟨"StateMillModel", "finds", "()V"⟩, 57) := ⟨⟨by decide +kernel, by decide +kernel⟩, List.mem_of_getElem? (i := 1287) (by decide +kernel), List.mem_of_getElem? (i := 1628) (by decide +kernel), List.mem_of_getElem? (i := 1629) (by decide +kernel)⟩
theorem lw_p77 : lw_okq (⟨"StateMillModel", "areUnlike", "(III)Z"⟩, 57) := ⟨⟨by decide +kernel, by decide +kernel⟩, List.mem_of_getElem? (i := 1287) (by decide +kernel), List.mem_of_getElem? (i := 1632) (by decide +kernel), List.mem_of_getElem? (i := 1633) (by decide +kernel)⟩
theorem lw_p78 : lw_okq (⟨"StateMillModel", "listsClasses", "()V"⟩, 57) := ⟨⟨by decide +kernel, by decide +kernel⟩, List.mem_of_getElem? (i := 1287) (by decide +kernel), List.mem_of_getElem? (i := 1636) (by decide +kernel), List.mem_of_getElem? (i := 1637) (by decide +kernel)⟩
theorem lw_p79 : lw_okq (⟨"StateMillModel", "isAlike", "(I)Z"⟩, 57) := ⟨⟨by decide +kernel, by decide +kernel⟩, List.mem_of_getElem? (i := 1287) (by decide +kernel), List.mem_of_getElem? (i := 1640) (by decide +kernel), List.mem_of_getElem? (i := 1641) (by decide +kernel)⟩
def lw_privs_5 : List (MethodName × Nat) := [(⟨"StateMillModel", "means", "()V"⟩, 57), (⟨"StateMillModel", "wrong", "(II)V"⟩, 57), (⟨"StateMillModel", "bounded", "(III)I"⟩, 57), (⟨"StateMillModel", "named", "(I)I"⟩, 57), (⟨"StateMillModel", "isMove", "(II)Z"⟩, 57), (⟨"StateMillModel", "isState", "(I)Z"⟩, 57), (⟨"StateMillModel", "isInput", "(I)Z"⟩, 57), (⟨"StateMillModel", "to", "(II)I"⟩, 57), (⟨"StateMillModel", "answer", "(II)I"⟩, 57), (⟨"StateMillModel", "marks", "()V"⟩, 57), (⟨"StateMillModel", "codeOf", "(I)I"⟩, 57), (⟨"StateMillModel", "knows", "()V"⟩, 57), (⟨"StateMillModel", "finds", "()V"⟩, 57), (⟨"StateMillModel", "areUnlike", "(III)Z"⟩, 57), (⟨"StateMillModel", "listsClasses", "()V"⟩, 57), (⟨"StateMillModel", "isAlike", "(I)Z"⟩, 57)]
theorem lw_r5 : ∀ q ∈ lw_privs_5, lw_okq q := List.forall_mem_cons.mpr ⟨lw_p64, List.forall_mem_cons.mpr ⟨lw_p65, List.forall_mem_cons.mpr ⟨lw_p66, List.forall_mem_cons.mpr ⟨lw_p67, List.forall_mem_cons.mpr ⟨lw_p68, List.forall_mem_cons.mpr ⟨lw_p69, List.forall_mem_cons.mpr ⟨lw_p70, List.forall_mem_cons.mpr ⟨lw_p71, List.forall_mem_cons.mpr ⟨lw_p72, List.forall_mem_cons.mpr ⟨lw_p73, List.forall_mem_cons.mpr ⟨lw_p74, List.forall_mem_cons.mpr ⟨lw_p75, List.forall_mem_cons.mpr ⟨lw_p76, List.forall_mem_cons.mpr ⟨lw_p77, List.forall_mem_cons.mpr ⟨lw_p78, List.forall_mem_cons.mpr ⟨lw_p79, fun _ h => absurd h List.not_mem_nil⟩⟩⟩⟩⟩⟩⟩⟩⟩⟩⟩⟩⟩⟩⟩⟩
theorem lw_p80 : lw_okq (⟨"StateMillModel", "laysFewest", "()V"⟩, 57) := ⟨⟨by decide +kernel, by decide +kernel⟩, List.mem_of_getElem? (i := 1287) (by decide +kernel), List.mem_of_getElem? (i := 1647) (by decide +kernel), List.mem_of_getElem? (i := 1648) (by decide +kernel)⟩
theorem lw_p81 : lw_okq (⟨"StateMillModel", "hasCover", "()Z"⟩, 57) := ⟨⟨by decide +kernel, by decide +kernel⟩, List.mem_of_getElem? (i := 1287) (by decide +kernel), List.mem_of_getElem? (i := 1651) (by decide +kernel), List.mem_of_getElem? (i := 1652) (by decide +kernel)⟩
theorem lw_p82 : lw_okq (⟨"StateMillModel", "firstPick", "(I)V"⟩, 57) := ⟨⟨by decide +kernel, by decide +kernel⟩, List.mem_of_getElem? (i := 1287) (by decide +kernel), List.mem_of_getElem? (i := 1655) (by decide +kernel), List.mem_of_getElem? (i := 1656) (by decide +kernel)⟩
theorem lw_p83 : lw_okq (⟨"StateMillModel", "isCover", "()Z"⟩, 57) := ⟨⟨by decide +kernel, by decide +kernel⟩, List.mem_of_getElem? (i := 1287) (by decide +kernel), List.mem_of_getElem? (i := 1659) (by decide +kernel), List.mem_of_getElem? (i := 1660) (by decide +kernel)⟩
theorem lw_p84 : lw_okq (⟨"StateMillModel", "ledTo", "(II)I"⟩, 57) := ⟨⟨by decide +kernel, by decide +kernel⟩, List.mem_of_getElem? (i := 1287) (by decide +kernel), List.mem_of_getElem? (i := 1663) (by decide +kernel), List.mem_of_getElem? (i := 1664) (by decide +kernel)⟩
theorem lw_p85 : lw_okq (⟨"StateMillModel", "firstWith", "(I)I"⟩, 57) := ⟨⟨by decide +kernel, by decide +kernel⟩, List.mem_of_getElem? (i := 1287) (by decide +kernel), List.mem_of_getElem? (i := 1667) (by decide +kernel), List.mem_of_getElem? (i := 1668) (by decide +kernel)⟩
theorem lw_p86 : lw_okq (⟨"StateMillModel", "nextPick", "(II)Z"⟩, 57) := ⟨⟨by decide +kernel, by decide +kernel⟩, List.mem_of_getElem? (i := 1287) (by decide +kernel), List.mem_of_getElem? (i := 1671) (by decide +kernel), List.mem_of_getElem? (i := 1672) (by decide +kernel)⟩
theorem lw_p87 : lw_okq (⟨"StateMillModel", "laysMet", "()V"⟩, 57) := ⟨⟨by decide +kernel, by decide +kernel⟩, List.mem_of_getElem? (i := 1287) (by decide +kernel), List.mem_of_getElem? (i := 1675) (by decide +kernel), List.mem_of_getElem? (i := 1676) (by decide +kernel)⟩
theorem lw_p88 : lw_okq (⟨"StateMillModel", "smallTo", "(II)I"⟩, 57) := ⟨⟨by decide +kernel, by decide +kernel⟩, List.mem_of_getElem? (i := 1287) (by decide +kernel), List.mem_of_getElem? (i := 1679) (by decide +kernel), List.mem_of_getElem? (i := 1680) (by decide +kernel)⟩
theorem lw_p89 : lw_okq (⟨"StateMillModel", "listsPartitions", "()V"⟩, 57) := ⟨⟨by decide +kernel, by decide +kernel⟩, List.mem_of_getElem? (i := 1287) (by decide +kernel), List.mem_of_getElem? (i := 1683) (by decide +kernel), List.mem_of_getElem? (i := 1684) (by decide +kernel)⟩
theorem lw_p90 : lw_okq (⟨"StateMillModel", "doesGo", "(II)Z"⟩, 57) := ⟨⟨by decide +kernel, by decide +kernel⟩, List.mem_of_getElem? (i := 1287) (by decide +kernel), List.mem_of_getElem? (i := 1687) (by decide +kernel), List.mem_of_getElem? (i := 1688) (by decide +kernel)⟩
theorem lw_p91 : lw_okq (⟨"StateMillModel", "hasNext", "(I)Z"⟩, 57) := ⟨⟨by decide +kernel, by decide +kernel⟩, List.mem_of_getElem? (i := 1287) (by decide +kernel), List.mem_of_getElem? (i := 1691) (by decide +kernel), List.mem_of_getElem? (i := 1692) (by decide +kernel)⟩
theorem lw_p92 : lw_okq (⟨"StateMillModel", "nextInput", "(II)I"⟩, 57) := ⟨⟨by decide +kernel, by decide +kernel⟩, List.mem_of_getElem? (i := 1287) (by decide +kernel), List.mem_of_getElem? (i := 1699) (by decide +kernel), List.mem_of_getElem? (i := 1700) (by decide +kernel)⟩
theorem lw_p93 : lw_okq (⟨"StateMillModel", "isWord", "(II)Z"⟩, 57) := ⟨⟨by decide +kernel, by decide +kernel⟩, List.mem_of_getElem? (i := 1287) (by decide +kernel), List.mem_of_getElem? (i := 1707) (by decide +kernel), List.mem_of_getElem? (i := 1708) (by decide +kernel)⟩
theorem lw_p94 : lw_okq (⟨"StateMillModel", "doesShow", "(II)Z"⟩, 57) := ⟨⟨by decide +kernel, by decide +kernel⟩, List.mem_of_getElem? (i := 1287) (by decide +kernel), List.mem_of_getElem? (i := 1711) (by decide +kernel), List.mem_of_getElem? (i := 1712) (by decide +kernel)⟩
theorem lw_p95 : lw_okq (⟨"StateMillModel", "doesTell", "(IIII)Z"⟩, 57) := ⟨⟨by decide +kernel, by decide +kernel⟩, List.mem_of_getElem? (i := 1287) (by decide +kernel), List.mem_of_getElem? (i := 1715) (by decide +kernel), List.mem_of_getElem? (i := 1716) (by decide +kernel)⟩
def lw_privs_6 : List (MethodName × Nat) := [(⟨"StateMillModel", "laysFewest", "()V"⟩, 57), (⟨"StateMillModel", "hasCover", "()Z"⟩, 57), (⟨"StateMillModel", "firstPick", "(I)V"⟩, 57), (⟨"StateMillModel", "isCover", "()Z"⟩, 57), (⟨"StateMillModel", "ledTo", "(II)I"⟩, 57), (⟨"StateMillModel", "firstWith", "(I)I"⟩, 57), (⟨"StateMillModel", "nextPick", "(II)Z"⟩, 57), (⟨"StateMillModel", "laysMet", "()V"⟩, 57), (⟨"StateMillModel", "smallTo", "(II)I"⟩, 57), (⟨"StateMillModel", "listsPartitions", "()V"⟩, 57), (⟨"StateMillModel", "doesGo", "(II)Z"⟩, 57), (⟨"StateMillModel", "hasNext", "(I)Z"⟩, 57), (⟨"StateMillModel", "nextInput", "(II)I"⟩, 57), (⟨"StateMillModel", "isWord", "(II)Z"⟩, 57), (⟨"StateMillModel", "doesShow", "(II)Z"⟩, 57), (⟨"StateMillModel", "doesTell", "(IIII)Z"⟩, 57)]
theorem lw_r6 : ∀ q ∈ lw_privs_6, lw_okq q := List.forall_mem_cons.mpr ⟨lw_p80, List.forall_mem_cons.mpr ⟨lw_p81, List.forall_mem_cons.mpr ⟨lw_p82, List.forall_mem_cons.mpr ⟨lw_p83, List.forall_mem_cons.mpr ⟨lw_p84, List.forall_mem_cons.mpr ⟨lw_p85, List.forall_mem_cons.mpr ⟨lw_p86, List.forall_mem_cons.mpr ⟨lw_p87, List.forall_mem_cons.mpr ⟨lw_p88, List.forall_mem_cons.mpr ⟨lw_p89, List.forall_mem_cons.mpr ⟨lw_p90, List.forall_mem_cons.mpr ⟨lw_p91, List.forall_mem_cons.mpr ⟨lw_p92, List.forall_mem_cons.mpr ⟨lw_p93, List.forall_mem_cons.mpr ⟨lw_p94, List.forall_mem_cons.mpr ⟨lw_p95, fun _ h => absurd h List.not_mem_nil⟩⟩⟩⟩⟩⟩⟩⟩⟩⟩⟩⟩⟩⟩⟩⟩
theorem lw_p96 : lw_okq (⟨"StateMillModel", "isSet", "(II)Z"⟩, 57) := ⟨⟨by decide +kernel, by decide +kernel⟩, List.mem_of_getElem? (i := 1287) (by decide +kernel), List.mem_of_getElem? (i := 1734) (by decide +kernel), List.mem_of_getElem? (i := 1735) (by decide +kernel)⟩
theorem lw_p97 : lw_okq (⟨"StateMillModel", "smallAnswer", "(II)I"⟩, 57) := ⟨⟨by decide +kernel, by decide +kernel⟩, List.mem_of_getElem? (i := 1287) (by decide +kernel), List.mem_of_getElem? (i := 1750) (by decide +kernel), List.mem_of_getElem? (i := 1751) (by decide +kernel)⟩
theorem lw_p98 : lw_okq (⟨"StateMillModel", "placeOf", "(I)I"⟩, 57) := ⟨⟨by decide +kernel, by decide +kernel⟩, List.mem_of_getElem? (i := 1287) (by decide +kernel), List.mem_of_getElem? (i := 1770) (by decide +kernel), List.mem_of_getElem? (i := 1771) (by decide +kernel)⟩
theorem lw_p99 : lw_okq (⟨"StateMillModel", "areAll", "(II)Z"⟩, 57) := ⟨⟨by decide +kernel, by decide +kernel⟩, List.mem_of_getElem? (i := 1287) (by decide +kernel), List.mem_of_getElem? (i := 1790) (by decide +kernel), List.mem_of_getElem? (i := 1791) (by decide +kernel)⟩
theorem lw_p100 : lw_okq (⟨"StateMillModel", "tailAt", "(I)I"⟩, 57) := ⟨⟨by decide +kernel, by decide +kernel⟩, List.mem_of_getElem? (i := 1287) (by decide +kernel), List.mem_of_getElem? (i := 1798) (by decide +kernel), List.mem_of_getElem? (i := 1799) (by decide +kernel)⟩
theorem lw_p101 : lw_okq (⟨"StateMillModel", "partTo", "(III)I"⟩, 57) := ⟨⟨by decide +kernel, by decide +kernel⟩, List.mem_of_getElem? (i := 1287) (by decide +kernel), List.mem_of_getElem? (i := 1806) (by decide +kernel), List.mem_of_getElem? (i := 1807) (by decide +kernel)⟩
theorem lw_p102 : lw_okq (⟨"StateMillModel", "bits", "()I"⟩, 57) := ⟨⟨by decide +kernel, by decide +kernel⟩, List.mem_of_getElem? (i := 1287) (by decide +kernel), List.mem_of_getElem? (i := 1822) (by decide +kernel), List.mem_of_getElem? (i := 1823) (by decide +kernel)⟩
theorem lw_p103 : lw_okq (⟨"StateMillModel", "asTheyAre", "()V"⟩, 57) := ⟨⟨by decide +kernel, by decide +kernel⟩, List.mem_of_getElem? (i := 1287) (by decide +kernel), List.mem_of_getElem? (i := 1826) (by decide +kernel), List.mem_of_getElem? (i := 1827) (by decide +kernel)⟩
theorem lw_p104 : lw_okq (⟨"StateMillModel", "hangsOn", "(I)I"⟩, 57) := ⟨⟨by decide +kernel, by decide +kernel⟩, List.mem_of_getElem? (i := 1287) (by decide +kernel), List.mem_of_getElem? (i := 1830) (by decide +kernel), List.mem_of_getElem? (i := 1831) (by decide +kernel)⟩
theorem lw_p105 : lw_okq (⟨"StateMillModel", "doesHang", "(II)Z"⟩, 57) := ⟨⟨by decide +kernel, by decide +kernel⟩, List.mem_of_getElem? (i := 1287) (by decide +kernel), List.mem_of_getElem? (i := 1837) (by decide +kernel), List.mem_of_getElem? (i := 1838) (by decide +kernel)⟩
theorem lw_p106 : lw_okq (⟨"StateMillModel", "costNow", "()I"⟩, 57) := ⟨⟨by decide +kernel, by decide +kernel⟩, List.mem_of_getElem? (i := 1287) (by decide +kernel), List.mem_of_getElem? (i := 1845) (by decide +kernel), List.mem_of_getElem? (i := 1846) (by decide +kernel)⟩
theorem lw_p107 : lw_okq (⟨"StateMillModel", "isBit", "(I)Z"⟩, 57) := ⟨⟨by decide +kernel, by decide +kernel⟩, List.mem_of_getElem? (i := 1287) (by decide +kernel), List.mem_of_getElem? (i := 1853) (by decide +kernel), List.mem_of_getElem? (i := 1854) (by decide +kernel)⟩
theorem lw_p108 : lw_okq (⟨"StateMillModel", "isProper", "()Z"⟩, 57) := ⟨⟨by decide +kernel, by decide +kernel⟩, List.mem_of_getElem? (i := 1287) (by decide +kernel), List.mem_of_getElem? (i := 1857) (by decide +kernel), List.mem_of_getElem? (i := 1858) (by decide +kernel)⟩
theorem lw_p109 : lw_okq (⟨"StateMillModel", "laysCubes", "(II)V"⟩, 57) := ⟨⟨by decide +kernel, by decide +kernel⟩, List.mem_of_getElem? (i := 1287) (by decide +kernel), List.mem_of_getElem? (i := 1861) (by decide +kernel), List.mem_of_getElem? (i := 1862) (by decide +kernel)⟩
theorem lw_p110 : lw_okq (⟨"StateMillModel", "laysCodes", "(II)V"⟩, 57) := ⟨⟨by decide +kernel, by decide +kernel⟩, List.mem_of_getElem? (i := 1287) (by decide +kernel), List.mem_of_getElem? (i := 1865) (by decide +kernel), List.mem_of_getElem? (i := 1866) (by decide +kernel)⟩
theorem lw_p111 : lw_okq (⟨"StateMillModel", "howFew", "()I"⟩, 57) := ⟨⟨by decide +kernel, by decide +kernel⟩, List.mem_of_getElem? (i := 1287) (by decide +kernel), List.mem_of_getElem? (i := 1869) (by decide +kernel), List.mem_of_getElem? (i := 1870) (by decide +kernel)⟩
def lw_privs_7 : List (MethodName × Nat) := [(⟨"StateMillModel", "isSet", "(II)Z"⟩, 57), (⟨"StateMillModel", "smallAnswer", "(II)I"⟩, 57), (⟨"StateMillModel", "placeOf", "(I)I"⟩, 57), (⟨"StateMillModel", "areAll", "(II)Z"⟩, 57), (⟨"StateMillModel", "tailAt", "(I)I"⟩, 57), (⟨"StateMillModel", "partTo", "(III)I"⟩, 57), (⟨"StateMillModel", "bits", "()I"⟩, 57), (⟨"StateMillModel", "asTheyAre", "()V"⟩, 57), (⟨"StateMillModel", "hangsOn", "(I)I"⟩, 57), (⟨"StateMillModel", "doesHang", "(II)Z"⟩, 57), (⟨"StateMillModel", "costNow", "()I"⟩, 57), (⟨"StateMillModel", "isBit", "(I)Z"⟩, 57), (⟨"StateMillModel", "isProper", "()Z"⟩, 57), (⟨"StateMillModel", "laysCubes", "(II)V"⟩, 57), (⟨"StateMillModel", "laysCodes", "(II)V"⟩, 57), (⟨"StateMillModel", "howFew", "()I"⟩, 57)]
theorem lw_r7 : ∀ q ∈ lw_privs_7, lw_okq q := List.forall_mem_cons.mpr ⟨lw_p96, List.forall_mem_cons.mpr ⟨lw_p97, List.forall_mem_cons.mpr ⟨lw_p98, List.forall_mem_cons.mpr ⟨lw_p99, List.forall_mem_cons.mpr ⟨lw_p100, List.forall_mem_cons.mpr ⟨lw_p101, List.forall_mem_cons.mpr ⟨lw_p102, List.forall_mem_cons.mpr ⟨lw_p103, List.forall_mem_cons.mpr ⟨lw_p104, List.forall_mem_cons.mpr ⟨lw_p105, List.forall_mem_cons.mpr ⟨lw_p106, List.forall_mem_cons.mpr ⟨lw_p107, List.forall_mem_cons.mpr ⟨lw_p108, List.forall_mem_cons.mpr ⟨lw_p109, List.forall_mem_cons.mpr ⟨lw_p110, List.forall_mem_cons.mpr ⟨lw_p111, fun _ h => absurd h List.not_mem_nil⟩⟩⟩⟩⟩⟩⟩⟩⟩⟩⟩⟩⟩⟩⟩⟩
theorem lw_p112 : lw_okq (⟨"StateMillModel", "fewOf", "()I"⟩, 57) := ⟨⟨by decide +kernel, by decide +kernel⟩, List.mem_of_getElem? (i := 1287) (by decide +kernel), List.mem_of_getElem? (i := 1873) (by decide +kernel), List.mem_of_getElem? (i := 1874) (by decide +kernel)⟩
theorem lw_p113 : lw_okq (⟨"StateMillModel", "sumNow", "()I"⟩, 57) := ⟨⟨by decide +kernel, by decide +kernel⟩, List.mem_of_getElem? (i := 1287) (by decide +kernel), List.mem_of_getElem? (i := 1881) (by decide +kernel), List.mem_of_getElem? (i := 1882) (by decide +kernel)⟩
theorem lw_p114 : lw_okq (⟨"StateMillModel", "laysBest", "(I)V"⟩, 57) := ⟨⟨by decide +kernel, by decide +kernel⟩, List.mem_of_getElem? (i := 1287) (by decide +kernel), List.mem_of_getElem? (i := 1893) (by decide +kernel), List.mem_of_getElem? (i := 1894) (by decide +kernel)⟩
theorem lw_p115 : lw_okq (⟨"StateMillModel", "isTaken", "(I)Z"⟩, 57) := ⟨⟨by decide +kernel, by decide +kernel⟩, List.mem_of_getElem? (i := 1287) (by decide +kernel), List.mem_of_getElem? (i := 1897) (by decide +kernel), List.mem_of_getElem? (i := 1898) (by decide +kernel)⟩
theorem lw_p116 : lw_okq (⟨"StateMillModel", "weighs", "(I)V"⟩, 57) := ⟨⟨by decide +kernel, by decide +kernel⟩, List.mem_of_getElem? (i := 1287) (by decide +kernel), List.mem_of_getElem? (i := 1901) (by decide +kernel), List.mem_of_getElem? (i := 1902) (by decide +kernel)⟩
theorem lw_p117 : lw_okq (⟨"StateMillModel", "untold", "(I)I"⟩, 57) := ⟨⟨by decide +kernel, by decide +kernel⟩, List.mem_of_getElem? (i := 1287) (by decide +kernel), List.mem_of_getElem? (i := 1909) (by decide +kernel), List.mem_of_getElem? (i := 1910) (by decide +kernel)⟩
theorem lw_p118 : lw_okq (⟨"StateMillModel", "unreached", "()I"⟩, 57) := ⟨⟨by decide +kernel, by decide +kernel⟩, List.mem_of_getElem? (i := 1287) (by decide +kernel), List.mem_of_getElem? (i := 1913) (by decide +kernel), List.mem_of_getElem? (i := 1914) (by decide +kernel)⟩
def lw_privs_8 : List (MethodName × Nat) := [(⟨"StateMillModel", "fewOf", "()I"⟩, 57), (⟨"StateMillModel", "sumNow", "()I"⟩, 57), (⟨"StateMillModel", "laysBest", "(I)V"⟩, 57), (⟨"StateMillModel", "isTaken", "(I)Z"⟩, 57), (⟨"StateMillModel", "weighs", "(I)V"⟩, 57), (⟨"StateMillModel", "untold", "(I)I"⟩, 57), (⟨"StateMillModel", "unreached", "()I"⟩, 57)]
theorem lw_r8 : ∀ q ∈ lw_privs_8, lw_okq q := List.forall_mem_cons.mpr ⟨lw_p112, List.forall_mem_cons.mpr ⟨lw_p113, List.forall_mem_cons.mpr ⟨lw_p114, List.forall_mem_cons.mpr ⟨lw_p115, List.forall_mem_cons.mpr ⟨lw_p116, List.forall_mem_cons.mpr ⟨lw_p117, List.forall_mem_cons.mpr ⟨lw_p118, fun _ h => absurd h List.not_mem_nil⟩⟩⟩⟩⟩⟩⟩
def lw_privs : List (MethodName × Nat) := lw_privs_1 ++ (lw_privs_2 ++ (lw_privs_3 ++ (lw_privs_4 ++ (lw_privs_5 ++ (lw_privs_6 ++ (lw_privs_7 ++ (lw_privs_8)))))))
def lw_tbl : List Cond := k2_sels lw_privs ++ tables_1
theorem lw_privs_ok : ∀ q ∈ lw_privs, lw_okq q := by
  show ∀ q ∈ lw_privs_1 ++ (lw_privs_2 ++ (lw_privs_3 ++ (lw_privs_4 ++ (lw_privs_5 ++ (lw_privs_6 ++ (lw_privs_7 ++ (lw_privs_8))))))), lw_okq q
  exact List.forall_mem_append.mpr ⟨lw_r1, List.forall_mem_append.mpr ⟨lw_r2, List.forall_mem_append.mpr ⟨lw_r3, List.forall_mem_append.mpr ⟨lw_r4, List.forall_mem_append.mpr ⟨lw_r5, List.forall_mem_append.mpr ⟨lw_r6, List.forall_mem_append.mpr ⟨lw_r7, lw_r8⟩⟩⟩⟩⟩⟩⟩
def RX0 : String := "StateMill$Best"
def TX0 : u_T := fun k => match k with
  | 0 => ("StateMill$Best", "machine", "LStateMill$Machine;", true)
  | 1 => ("StateMill$Best", "hanging", "LStateMill$Hanging;", true)
  | 2 => ("StateMill$Best", "cubes", "LStateMill$Cubes;", true)
  | 3 => ("StateMill$Best", "trial", "[I", true)
  | 4 => ("StateMill$Best", "codes", "[I", true)
  | 5 => ("StateMill$Best", "values", "[I", true)
  | _ => ("StateMill$Best", "seen", "[I", true)
def tyX0 : Nat → FieldType := fun k => match k with
  | 0 => .object "StateMill$Machine"
  | 1 => .object "StateMill$Hanging"
  | 2 => .object "StateMill$Cubes"
  | 3 => .array .int
  | 4 => .array .int
  | 5 => .array .int
  | _ => .array .int
abbrev wsX00 : List Cond := u_ws RX0 TX0 7
theorem nmX0 : ∀ a, a < 7 → ∀ b, b < 7 → a ≠ b → (TX0 a).2.1 ≠ (TX0 b).2.1 := by decide +kernel
theorem tyX0_ok : ∀ k, k < 7 → parseFieldDescriptor (TX0 k).2.2.1 = some (tyX0 k) := by decide +kernel
abbrev cX0_init : ByteArray := prog_2_method_1_code
def yX0_init : MethodName := ⟨RX0, "<init>", "(LStateMill$Machine;LStateMill$Hanging;LStateMill$Cubes;)V"⟩
abbrev cX0_refresh : ByteArray := prog_2_method_2_code
def yX0_refresh : MethodName := ⟨RX0, "refresh", "(I)V"⟩
abbrev cX0_assign : ByteArray := prog_2_method_3_code
def yX0_assign : MethodName := ⟨RX0, "assign", "(III)V"⟩
abbrev cX0_areBitsInOrder : ByteArray := prog_2_method_4_code
def yX0_areBitsInOrder : MethodName := ⟨RX0, "areBitsInOrder", "(I)Z"⟩
abbrev cX0_isFirstIn : ByteArray := prog_2_method_5_code
def yX0_isFirstIn : MethodName := ⟨RX0, "isFirstIn", "(III)Z"⟩
abbrev cX0_canBeLess : ByteArray := prog_2_method_6_code
def yX0_canBeLess : MethodName := ⟨RX0, "canBeLess", "(II)Z"⟩
abbrev cX0_weigh : ByteArray := prog_2_method_7_code
def yX0_weigh : MethodName := ⟨RX0, "weigh", "(I)V"⟩
def RX1 : String := "StateMill$Cover"
def TX1 : u_T := fun k => match k with
  | 0 => ("StateMill$Cover", "machine", "LStateMill$Machine;", true)
  | 1 => ("StateMill$Cover", "pairs", "LStateMill$Pairs;", true)
  | 2 => ("StateMill$Cover", "alike", "[Z", true)
  | 3 => ("StateMill$Cover", "sets", "[I", true)
  | 4 => ("StateMill$Cover", "setCount", "I", false)
  | 5 => ("StateMill$Cover", "widest", "I", false)
  | 6 => ("StateMill$Cover", "greatestSets", "[I", true)
  | 7 => ("StateMill$Cover", "greatestCount", "I", false)
  | 8 => ("StateMill$Cover", "seen", "I", false)
  | 9 => ("StateMill$Cover", "wants", "[I", true)
  | 10 => ("StateMill$Cover", "chosen", "[I", true)
  | 11 => ("StateMill$Cover", "fewestSets", "[I", true)
  | 12 => ("StateMill$Cover", "fewestCount", "I", false)
  | _ => ("StateMill$Cover", "fewestSeen", "I", false)
def tyX1 : Nat → FieldType := fun k => match k with
  | 0 => .object "StateMill$Machine"
  | 1 => .object "StateMill$Pairs"
  | 2 => .array .boolean
  | 3 => .array .int
  | 4 => .int
  | 5 => .int
  | 6 => .array .int
  | 7 => .int
  | 8 => .int
  | 9 => .array .int
  | 10 => .array .int
  | 11 => .array .int
  | 12 => .int
  | _ => .int
abbrev wsX10 : List Cond := u_ws RX1 TX1 14
theorem nmX1 : ∀ a, a < 14 → ∀ b, b < 14 → a ≠ b → (TX1 a).2.1 ≠ (TX1 b).2.1 := by decide +kernel
theorem tyX1_ok : ∀ k, k < 14 → parseFieldDescriptor (TX1 k).2.2.1 = some (tyX1 k) := by decide +kernel
abbrev cX1_init : ByteArray := prog_3_method_1_code
def yX1_init : MethodName := ⟨RX1, "<init>", "(LStateMill$Machine;LStateMill$Pairs;)V"⟩
abbrev cX1_refresh : ByteArray := prog_3_method_2_code
def yX1_refresh : MethodName := ⟨RX1, "refresh", "()V"⟩
abbrev cX1_pairsIn : ByteArray := prog_3_method_3_code
def yX1_pairsIn : MethodName := ⟨RX1, "pairsIn", "(I)I"⟩
abbrev cX1_addClass : ByteArray := prog_3_method_4_code
def yX1_addClass : MethodName := ⟨RX1, "addClass", "(I)V"⟩
abbrev cX1_gatherGreatest : ByteArray := prog_3_method_5_code
def yX1_gatherGreatest : MethodName := ⟨RX1, "gatherGreatest", "()V"⟩
abbrev cX1_isGreatest : ByteArray := prog_3_method_6_code
def yX1_isGreatest : MethodName := ⟨RX1, "isGreatest", "(I)Z"⟩
abbrev cX1_refreshFewest : ByteArray := prog_3_method_7_code
def yX1_refreshFewest : MethodName := ⟨RX1, "refreshFewest", "()V"⟩
abbrev cX1_choose : ByteArray := prog_3_method_8_code
def yX1_choose : MethodName := ⟨RX1, "choose", "(IIII)Z"⟩
abbrev cX1_isClosed : ByteArray := prog_3_method_9_code
def yX1_isClosed : MethodName := ⟨RX1, "isClosed", "(I)Z"⟩
abbrev cX1_isInChosen : ByteArray := prog_3_method_10_code
def yX1_isInChosen : MethodName := ⟨RX1, "isInChosen", "(II)Z"⟩
abbrev cX1_hasFewest : ByteArray := prog_3_method_11_code
def yX1_hasFewest : MethodName := ⟨RX1, "hasFewest", "(I)Z"⟩
abbrev cX1_smallTarget : ByteArray := prog_3_method_12_code
def yX1_smallTarget : MethodName := ⟨RX1, "smallTarget", "(II)I"⟩
abbrev cX1_firstHolding : ByteArray := prog_3_method_13_code
def yX1_firstHolding : MethodName := ⟨RX1, "firstHolding", "(I)I"⟩
abbrev cX1_smallAnswer : ByteArray := prog_3_method_14_code
def yX1_smallAnswer : MethodName := ⟨RX1, "smallAnswer", "(II)I"⟩
abbrev cX1_homeOf : ByteArray := prog_3_method_15_code
def yX1_homeOf : MethodName := ⟨RX1, "homeOf", "(I)I"⟩
abbrev cX1_metBy : ByteArray := prog_3_method_16_code
def yX1_metBy : MethodName := ⟨RX1, "metBy", "(I)I"⟩
abbrev cX1_metCount : ByteArray := prog_3_method_17_code
def yX1_metCount : MethodName := ⟨RX1, "metCount", "()I"⟩
def RX2 : String := "StateMill$Cubes"
def TX2 : u_T := fun k => match k with
  | 0 => ("StateMill$Cubes", "machine", "LStateMill$Machine;", true)
  | 1 => ("StateMill$Cubes", "holds", "[I", true)
  | 2 => ("StateMill$Cubes", "threes", "[I", true)
  | 3 => ("StateMill$Cubes", "known", "[B", true)
  | 4 => ("StateMill$Cubes", "listed", "[I", true)
  | 5 => ("StateMill$Cubes", "leading", "I", false)
  | 6 => ("StateMill$Cubes", "wanting", "I", false)
  | 7 => ("StateMill$Cubes", "on", "I", false)
  | _ => ("StateMill$Cubes", "off", "I", false)
def tyX2 : Nat → FieldType := fun k => match k with
  | 0 => .object "StateMill$Machine"
  | 1 => .array .int
  | 2 => .array .int
  | 3 => .array .byte
  | 4 => .array .int
  | 5 => .int
  | 6 => .int
  | 7 => .int
  | _ => .int
abbrev wsX20 : List Cond := u_ws RX2 TX2 9
theorem nmX2 : ∀ a, a < 9 → ∀ b, b < 9 → a ≠ b → (TX2 a).2.1 ≠ (TX2 b).2.1 := by decide +kernel
theorem tyX2_ok : ∀ k, k < 9 → parseFieldDescriptor (TX2 k).2.2.1 = some (tyX2 k) := by decide +kernel
abbrev cX2_init : ByteArray := prog_4_method_1_code
def yX2_init : MethodName := ⟨RX2, "<init>", "(LStateMill$Machine;)V"⟩
abbrev cX2_isIn : ByteArray := prog_4_method_2_code
def yX2_isIn : MethodName := ⟨RX2, "isIn", "(II)Z"⟩
abbrev cX2_look : ByteArray := prog_4_method_3_code
def yX2_look : MethodName := ⟨RX2, "look", "([III)V"⟩
abbrev cX2_aim : ByteArray := prog_4_method_4_code
def yX2_aim : MethodName := ⟨RX2, "aim", "(I)V"⟩
abbrev cX2_least : ByteArray := prog_4_method_5_code
def yX2_least : MethodName := ⟨RX2, "least", "(II)I"⟩
abbrev cX2_list : ByteArray := prog_4_method_6_code
def yX2_list : MethodName := ⟨RX2, "list", "(II)I"⟩
abbrev cX2_choose : ByteArray := prog_4_method_7_code
def yX2_choose : MethodName := ⟨RX2, "choose", "(IIII)Z"⟩
abbrev cX2_total : ByteArray := prog_4_method_8_code
def yX2_total : MethodName := ⟨RX2, "total", "([III)I"⟩
abbrev cX2_nextCode : ByteArray := prog_4_method_9_code
def yX2_nextCode : MethodName := ⟨RX2, "nextCode", "(II)I"⟩
def RX3 : String := "StateMill$Hanging"
def TX3 : u_T := fun k => match k with
  | 0 => ("StateMill$Hanging", "machine", "LStateMill$Machine;", true)
  | 1 => ("StateMill$Hanging", "pairs", "LStateMill$Pairs;", true)
  | 2 => ("StateMill$Hanging", "alikeIn", "[I", true)
  | _ => ("StateMill$Hanging", "ledFrom", "[I", true)
def tyX3 : Nat → FieldType := fun k => match k with
  | 0 => .object "StateMill$Machine"
  | 1 => .object "StateMill$Pairs"
  | 2 => .array .int
  | _ => .array .int
abbrev wsX30 : List Cond := u_ws RX3 TX3 4
theorem nmX3 : ∀ a, a < 4 → ∀ b, b < 4 → a ≠ b → (TX3 a).2.1 ≠ (TX3 b).2.1 := by decide +kernel
theorem tyX3_ok : ∀ k, k < 4 → parseFieldDescriptor (TX3 k).2.2.1 = some (tyX3 k) := by decide +kernel
abbrev cX3_init : ByteArray := prog_5_method_1_code
def yX3_init : MethodName := ⟨RX3, "<init>", "(LStateMill$Machine;LStateMill$Pairs;)V"⟩
abbrev cX3_load : ByteArray := prog_5_method_2_code
def yX3_load : MethodName := ⟨RX3, "load", "([I)V"⟩
abbrev cX3_alikePairs : ByteArray := prog_5_method_3_code
def yX3_alikePairs : MethodName := ⟨RX3, "alikePairs", "([II)I"⟩
abbrev cX3_leastSet : ByteArray := prog_5_method_4_code
def yX3_leastSet : MethodName := ⟨RX3, "leastSet", "(I)I"⟩
abbrev cX3_total : ByteArray := prog_5_method_5_code
def yX3_total : MethodName := ⟨RX3, "total", "()I"⟩
def RX4 : String := "StateMill$History"
def TX4 : u_T := fun k => match k with
  | 0 => ("StateMill$History", "machine", "LStateMill$Machine;", true)
  | 1 => ("StateMill$History", "states", "[I", true)
  | 2 => ("StateMill$History", "inputs", "[I", true)
  | 3 => ("StateMill$History", "targetsOrCodes", "[I", true)
  | 4 => ("StateMill$History", "answers", "[I", true)
  | 5 => ("StateMill$History", "nextDeed", "I", false)
  | 6 => ("StateMill$History", "deedCount", "I", false)
  | 7 => ("StateMill$History", "slots", "[LStateMill$Machine;", true)
  | _ => ("StateMill$History", "full", "[Z", true)
def tyX4 : Nat → FieldType := fun k => match k with
  | 0 => .object "StateMill$Machine"
  | 1 => .array .int
  | 2 => .array .int
  | 3 => .array .int
  | 4 => .array .int
  | 5 => .int
  | 6 => .int
  | 7 => .array (.object "StateMill$Machine")
  | _ => .array .boolean
abbrev wsX40 : List Cond := u_ws RX4 TX4 9
theorem nmX4 : ∀ a, a < 9 → ∀ b, b < 9 → a ≠ b → (TX4 a).2.1 ≠ (TX4 b).2.1 := by decide +kernel
theorem tyX4_ok : ∀ k, k < 9 → parseFieldDescriptor (TX4 k).2.2.1 = some (tyX4 k) := by decide +kernel
abbrev cX4_init : ByteArray := prog_6_method_1_code
def yX4_init : MethodName := ⟨RX4, "<init>", "(LStateMill$Machine;)V"⟩
abbrev cX4_keepMove : ByteArray := prog_6_method_2_code
def yX4_keepMove : MethodName := ⟨RX4, "keepMove", "(II)V"⟩
abbrev cX4_keepCode : ByteArray := prog_6_method_3_code
def yX4_keepCode : MethodName := ⟨RX4, "keepCode", "(I)V"⟩
abbrev cX4_keep : ByteArray := prog_6_method_4_code
def yX4_keep : MethodName := ⟨RX4, "keep", "(IIII)V"⟩
abbrev cX4_takeBack : ByteArray := prog_6_method_5_code
def yX4_takeBack : MethodName := ⟨RX4, "takeBack", "()Z"⟩
abbrev cX4_forgetDeeds : ByteArray := prog_6_method_6_code
def yX4_forgetDeeds : MethodName := ⟨RX4, "forgetDeeds", "()V"⟩
abbrev cX4_emptySlots : ByteArray := prog_6_method_7_code
def yX4_emptySlots : MethodName := ⟨RX4, "emptySlots", "()V"⟩
abbrev cX4_keepSlot : ByteArray := prog_6_method_8_code
def yX4_keepSlot : MethodName := ⟨RX4, "keepSlot", "(I)Z"⟩
abbrev cX4_takeSlot : ByteArray := prog_6_method_9_code
def yX4_takeSlot : MethodName := ⟨RX4, "takeSlot", "(I)Z"⟩
abbrev cX4_slotCount : ByteArray := prog_6_method_10_code
def yX4_slotCount : MethodName := ⟨RX4, "slotCount", "()I"⟩
def RX5 : String := "StateMill$Machine"
def TX5 : u_T := fun k => match k with
  | 0 => ("StateMill$Machine", "states", "I", false)
  | 1 => ("StateMill$Machine", "inputs", "I", false)
  | 2 => ("StateMill$Machine", "age", "I", false)
  | 3 => ("StateMill$Machine", "targets", "[I", true)
  | 4 => ("StateMill$Machine", "answers", "[I", true)
  | _ => ("StateMill$Machine", "codes", "[I", true)
def tyX5 : Nat → FieldType := fun k => match k with
  | 0 => .int
  | 1 => .int
  | 2 => .int
  | 3 => .array .int
  | 4 => .array .int
  | _ => .array .int
abbrev wsX50 : List Cond := u_ws RX5 TX5 6
theorem nmX5 : ∀ a, a < 6 → ∀ b, b < 6 → a ≠ b → (TX5 a).2.1 ≠ (TX5 b).2.1 := by decide +kernel
theorem tyX5_ok : ∀ k, k < 6 → parseFieldDescriptor (TX5 k).2.2.1 = some (tyX5 k) := by decide +kernel
abbrev cX5_init : ByteArray := prog_7_method_1_code
def yX5_init : MethodName := ⟨RX5, "<init>", "()V"⟩
abbrev cX5_begin : ByteArray := prog_7_method_2_code
def yX5_begin : MethodName := ⟨RX5, "begin", "(II)V"⟩
abbrev cX5_copyFrom : ByteArray := prog_7_method_3_code
def yX5_copyFrom : MethodName := ⟨RX5, "copyFrom", "(LStateMill$Machine;)V"⟩
abbrev cX5_hasState : ByteArray := prog_7_method_4_code
def yX5_hasState : MethodName := ⟨RX5, "hasState", "(I)Z"⟩
abbrev cX5_hasInput : ByteArray := prog_7_method_5_code
def yX5_hasInput : MethodName := ⟨RX5, "hasInput", "(I)Z"⟩
abbrev cX5_hasSet : ByteArray := prog_7_method_6_code
def yX5_hasSet : MethodName := ⟨RX5, "hasSet", "(I)Z"⟩
abbrev cX5_hasBit : ByteArray := prog_7_method_7_code
def yX5_hasBit : MethodName := ⟨RX5, "hasBit", "(I)Z"⟩
abbrev cX5_hasWord : ByteArray := prog_7_method_8_code
def yX5_hasWord : MethodName := ⟨RX5, "hasWord", "(II)Z"⟩
abbrev cX5_digitOf : ByteArray := prog_7_method_9_code
def yX5_digitOf : MethodName := ⟨RX5, "digitOf", "(III)I"⟩
abbrev cX5_targetOf : ByteArray := prog_7_method_10_code
def yX5_targetOf : MethodName := ⟨RX5, "targetOf", "(II)I"⟩
abbrev cX5_answerOf : ByteArray := prog_7_method_11_code
def yX5_answerOf : MethodName := ⟨RX5, "answerOf", "(II)I"⟩
abbrev cX5_putMove : ByteArray := prog_7_method_12_code
def yX5_putMove : MethodName := ⟨RX5, "putMove", "(IIII)V"⟩
abbrev cX5_putCode : ByteArray := prog_7_method_13_code
def yX5_putCode : MethodName := ⟨RX5, "putCode", "(II)V"⟩
abbrev cX5_leadOf : ByteArray := prog_7_method_14_code
def yX5_leadOf : MethodName := ⟨RX5, "leadOf", "(II)I"⟩
abbrev cX5_bits : ByteArray := prog_7_method_15_code
def yX5_bits : MethodName := ⟨RX5, "bits", "()I"⟩
abbrev cX5_isProper : ByteArray := prog_7_method_16_code
def yX5_isProper : MethodName := ⟨RX5, "isProper", "()Z"⟩
abbrev cX5_codeNumber : ByteArray := prog_7_method_17_code
def yX5_codeNumber : MethodName := ⟨RX5, "codeNumber", "()I"⟩
abbrev cX5_openMoves : ByteArray := prog_7_method_18_code
def yX5_openMoves : MethodName := ⟨RX5, "openMoves", "()I"⟩
abbrev cX5_toldAnswers : ByteArray := prog_7_method_19_code
def yX5_toldAnswers : MethodName := ⟨RX5, "toldAnswers", "()I"⟩
abbrev cX5_unreached : ByteArray := prog_7_method_20_code
def yX5_unreached : MethodName := ⟨RX5, "unreached", "()I"⟩
def RX6 : String := "StateMill$Pairs"
def TX6 : u_T := fun k => match k with
  | 0 => ("StateMill$Pairs", "machine", "LStateMill$Machine;", true)
  | 1 => ("StateMill$Pairs", "follows", "[I", true)
  | 2 => ("StateMill$Pairs", "rounds", "[I", true)
  | 3 => ("StateMill$Pairs", "apartMask", "I", false)
  | 4 => ("StateMill$Pairs", "seen", "I", false)
  | 5 => ("StateMill$Pairs", "shownWord", "[I", true)
  | 6 => ("StateMill$Pairs", "shownLength", "I", false)
  | _ => ("StateMill$Pairs", "shownSeen", "I", false)
def tyX6 : Nat → FieldType := fun k => match k with
  | 0 => .object "StateMill$Machine"
  | 1 => .array .int
  | 2 => .array .int
  | 3 => .int
  | 4 => .int
  | 5 => .array .int
  | 6 => .int
  | _ => .int
abbrev wsX60 : List Cond := u_ws RX6 TX6 8
theorem nmX6 : ∀ a, a < 8 → ∀ b, b < 8 → a ≠ b → (TX6 a).2.1 ≠ (TX6 b).2.1 := by decide +kernel
theorem tyX6_ok : ∀ k, k < 8 → parseFieldDescriptor (TX6 k).2.2.1 = some (tyX6 k) := by decide +kernel
abbrev cX6_init : ByteArray := prog_8_method_1_code
def yX6_init : MethodName := ⟨RX6, "<init>", "(LStateMill$Machine;)V"⟩
abbrev cX6_refresh : ByteArray := prog_8_method_2_code
def yX6_refresh : MethodName := ⟨RX6, "refresh", "()V"⟩
abbrev cX6_look : ByteArray := prog_8_method_3_code
def yX6_look : MethodName := ⟨RX6, "look", "(II)V"⟩
abbrev cX6_goRound : ByteArray := prog_8_method_4_code
def yX6_goRound : MethodName := ⟨RX6, "goRound", "(I)V"⟩
abbrev cX6_stepOf : ByteArray := prog_8_method_5_code
def yX6_stepOf : MethodName := ⟨RX6, "stepOf", "(III)I"⟩
abbrev cX6_isUnlike : ByteArray := prog_8_method_6_code
def yX6_isUnlike : MethodName := ⟨RX6, "isUnlike", "(III)Z"⟩
abbrev cX6_apartCount : ByteArray := prog_8_method_7_code
def yX6_apartCount : MethodName := ⟨RX6, "apartCount", "()I"⟩
abbrev cX6_greatestRound : ByteArray := prog_8_method_8_code
def yX6_greatestRound : MethodName := ⟨RX6, "greatestRound", "()I"⟩
abbrev cX6_roundOf : ByteArray := prog_8_method_9_code
def yX6_roundOf : MethodName := ⟨RX6, "roundOf", "(II)I"⟩
abbrev cX6_roundIn : ByteArray := prog_8_method_10_code
def yX6_roundIn : MethodName := ⟨RX6, "roundIn", "(I)I"⟩
abbrev cX6_followed : ByteArray := prog_8_method_11_code
def yX6_followed : MethodName := ⟨RX6, "followed", "(I)I"⟩
abbrev cX6_wordInput : ByteArray := prog_8_method_12_code
def yX6_wordInput : MethodName := ⟨RX6, "wordInput", "(III)I"⟩
abbrev cX6_firstInput : ByteArray := prog_8_method_13_code
def yX6_firstInput : MethodName := ⟨RX6, "firstInput", "(II)I"⟩
abbrev cX6_lengthShown : ByteArray := prog_8_method_14_code
def yX6_lengthShown : MethodName := ⟨RX6, "lengthShown", "()I"⟩
abbrev cX6_startStand : ByteArray := prog_8_method_15_code
def yX6_startStand : MethodName := ⟨RX6, "startStand", "()I"⟩
abbrev cX6_seek : ByteArray := prog_8_method_16_code
def yX6_seek : MethodName := ⟨RX6, "seek", "(IIII)Z"⟩
abbrev cX6_canTell : ByteArray := prog_8_method_17_code
def yX6_canTell : MethodName := ⟨RX6, "canTell", "(III)Z"⟩
abbrev cX6_roundBetween : ByteArray := prog_8_method_18_code
def yX6_roundBetween : MethodName := ⟨RX6, "roundBetween", "(II)I"⟩
abbrev cX6_standBehind : ByteArray := prog_8_method_19_code
def yX6_standBehind : MethodName := ⟨RX6, "standBehind", "(II)I"⟩
abbrev cX6_toldBy : ByteArray := prog_8_method_20_code
def yX6_toldBy : MethodName := ⟨RX6, "toldBy", "(II)I"⟩
def RX7 : String := "StateMill$Partitions"
def TX7 : u_T := fun k => match k with
  | 0 => ("StateMill$Partitions", "machine", "LStateMill$Machine;", true)
  | 1 => ("StateMill$Partitions", "pairs", "LStateMill$Pairs;", true)
  | 2 => ("StateMill$Partitions", "numbers", "[I", true)
  | 3 => ("StateMill$Partitions", "joins", "[I", true)
  | 4 => ("StateMill$Partitions", "blocks", "[I", true)
  | 5 => ("StateMill$Partitions", "total", "I", false)
  | 6 => ("StateMill$Partitions", "listedStates", "I", false)
  | 7 => ("StateMill$Partitions", "going", "[I", true)
  | 8 => ("StateMill$Partitions", "goingCount", "I", false)
  | 9 => ("StateMill$Partitions", "seen", "I", false)
  | 10 => ("StateMill$Partitions", "splitOne", "I", false)
  | 11 => ("StateMill$Partitions", "splitOther", "I", false)
  | 12 => ("StateMill$Partitions", "splitBlocks", "I", false)
  | _ => ("StateMill$Partitions", "splitSeen", "I", false)
def tyX7 : Nat → FieldType := fun k => match k with
  | 0 => .object "StateMill$Machine"
  | 1 => .object "StateMill$Pairs"
  | 2 => .array .int
  | 3 => .array .int
  | 4 => .array .int
  | 5 => .int
  | 6 => .int
  | 7 => .array .int
  | 8 => .int
  | 9 => .int
  | 10 => .int
  | 11 => .int
  | 12 => .int
  | _ => .int
abbrev wsX70 : List Cond := u_ws RX7 TX7 14
theorem nmX7 : ∀ a, a < 14 → ∀ b, b < 14 → a ≠ b → (TX7 a).2.1 ≠ (TX7 b).2.1 := by decide +kernel
theorem tyX7_ok : ∀ k, k < 14 → parseFieldDescriptor (TX7 k).2.2.1 = some (tyX7 k) := by decide +kernel
abbrev cX7_init : ByteArray := prog_9_method_1_code
def yX7_init : MethodName := ⟨RX7, "<init>", "(LStateMill$Machine;LStateMill$Pairs;)V"⟩
abbrev cX7_refresh : ByteArray := prog_9_method_2_code
def yX7_refresh : MethodName := ⟨RX7, "refresh", "()V"⟩
abbrev cX7_grow : ByteArray := prog_9_method_3_code
def yX7_grow : MethodName := ⟨RX7, "grow", "(III)V"⟩
abbrev cX7_joinsOf : ByteArray := prog_9_method_4_code
def yX7_joinsOf : MethodName := ⟨RX7, "joinsOf", "(I)I"⟩
abbrev cX7_blockOf : ByteArray := prog_9_method_5_code
def yX7_blockOf : MethodName := ⟨RX7, "blockOf", "(II)I"⟩
abbrev cX7_indexOf : ByteArray := prog_9_method_6_code
def yX7_indexOf : MethodName := ⟨RX7, "indexOf", "(I)I"⟩
abbrev cX7_goingIndexOf : ByteArray := prog_9_method_7_code
def yX7_goingIndexOf : MethodName := ⟨RX7, "goingIndexOf", "(I)I"⟩
abbrev cX7_stays : ByteArray := prog_9_method_8_code
def yX7_stays : MethodName := ⟨RX7, "stays", "(I)Z"⟩
abbrev cX7_hasBlock : ByteArray := prog_9_method_9_code
def yX7_hasBlock : MethodName := ⟨RX7, "hasBlock", "(II)Z"⟩
abbrev cX7_statesOf : ByteArray := prog_9_method_10_code
def yX7_statesOf : MethodName := ⟨RX7, "statesOf", "(II)I"⟩
abbrev cX7_blockBehind : ByteArray := prog_9_method_11_code
def yX7_blockBehind : MethodName := ⟨RX7, "blockBehind", "(III)I"⟩
abbrev cX7_joined : ByteArray := prog_9_method_12_code
def yX7_joined : MethodName := ⟨RX7, "joined", "(II)I"⟩
abbrev cX7_intoOf : ByteArray := prog_9_method_13_code
def yX7_intoOf : MethodName := ⟨RX7, "intoOf", "(I)I"⟩
abbrev cX7_tailOf : ByteArray := prog_9_method_14_code
def yX7_tailOf : MethodName := ⟨RX7, "tailOf", "(I)I"⟩
abbrev cX7_refreshSplit : ByteArray := prog_9_method_15_code
def yX7_refreshSplit : MethodName := ⟨RX7, "refreshSplit", "()V"⟩
abbrev cX7_trySplit : ByteArray := prog_9_method_16_code
def yX7_trySplit : MethodName := ⟨RX7, "trySplit", "(II)V"⟩
abbrev cX7_leastBlocks : ByteArray := prog_9_method_17_code
def yX7_leastBlocks : MethodName := ⟨RX7, "leastBlocks", "()I"⟩
def RX8 : String := "StateMill$Reader"
def TX8 : u_T := fun k => match k with
  | 0 => ("StateMill$Reader", "tape", "LStateMill$Tape;", true)
  | 1 => ("StateMill$Reader", "tokens", "LStateMill$Tokens;", true)
  | 2 => ("StateMill$Reader", "names", "[I", true)
  | 3 => ("StateMill$Reader", "nameCount", "I", false)
  | 4 => ("StateMill$Reader", "inputs", "I", false)
  | 5 => ("StateMill$Reader", "fault", "I", false)
  | _ => ("StateMill$Reader", "place", "I", false)
def tyX8 : Nat → FieldType := fun k => match k with
  | 0 => .object "StateMill$Tape"
  | 1 => .object "StateMill$Tokens"
  | 2 => .array .int
  | 3 => .int
  | 4 => .int
  | 5 => .int
  | _ => .int
abbrev wsX80 : List Cond := u_ws RX8 TX8 7
theorem nmX8 : ∀ a, a < 7 → ∀ b, b < 7 → a ≠ b → (TX8 a).2.1 ≠ (TX8 b).2.1 := by decide +kernel
theorem tyX8_ok : ∀ k, k < 7 → parseFieldDescriptor (TX8 k).2.2.1 = some (tyX8 k) := by decide +kernel
abbrev cX8_init : ByteArray := prog_10_method_1_code
def yX8_init : MethodName := ⟨RX8, "<init>", "(LStateMill$Tape;LStateMill$Tokens;)V"⟩
abbrev cX8_check : ByteArray := prog_10_method_2_code
def yX8_check : MethodName := ⟨RX8, "check", "()I"⟩
abbrev cX8_gather : ByteArray := prog_10_method_3_code
def yX8_gather : MethodName := ⟨RX8, "gather", "()V"⟩
abbrev cX8_isInputs : ByteArray := prog_10_method_4_code
def yX8_isInputs : MethodName := ⟨RX8, "isInputs", "(I)Z"⟩
abbrev cX8_lengthOf : ByteArray := prog_10_method_5_code
def yX8_lengthOf : MethodName := ⟨RX8, "lengthOf", "(I)I"⟩
abbrev cX8_checkLine : ByteArray := prog_10_method_6_code
def yX8_checkLine : MethodName := ⟨RX8, "checkLine", "(I)V"⟩
abbrev cX8_failIf : ByteArray := prog_10_method_7_code
def yX8_failIf : MethodName := ⟨RX8, "failIf", "(ZII)V"⟩
abbrev cX8_isToken : ByteArray := prog_10_method_8_code
def yX8_isToken : MethodName := ⟨RX8, "isToken", "(I)Z"⟩
abbrev cX8_isOpen : ByteArray := prog_10_method_9_code
def yX8_isOpen : MethodName := ⟨RX8, "isOpen", "(I)Z"⟩
abbrev cX8_valueOf : ByteArray := prog_10_method_10_code
def yX8_valueOf : MethodName := ⟨RX8, "valueOf", "(I)I"⟩
abbrev cX8_stateIn : ByteArray := prog_10_method_11_code
def yX8_stateIn : MethodName := ⟨RX8, "stateIn", "(I)I"⟩
abbrev cX8_apply : ByteArray := prog_10_method_12_code
def yX8_apply : MethodName := ⟨RX8, "apply", "(LStateMill$Machine;)V"⟩
def RX9 : String := "StateMill$Tape"
def TX9 : u_T := fun k => match k with
  | 0 => ("StateMill$Tape", "bytes", "[B", true)
  | _ => ("StateMill$Tape", "length", "I", false)
def tyX9 : Nat → FieldType := fun k => match k with
  | 0 => .array .byte
  | _ => .int
abbrev wsX90 : List Cond := u_ws RX9 TX9 2
theorem nmX9 : ∀ a, a < 2 → ∀ b, b < 2 → a ≠ b → (TX9 a).2.1 ≠ (TX9 b).2.1 := by decide +kernel
theorem tyX9_ok : ∀ k, k < 2 → parseFieldDescriptor (TX9 k).2.2.1 = some (tyX9 k) := by decide +kernel
abbrev cX9_init : ByteArray := prog_11_method_1_code
def yX9_init : MethodName := ⟨RX9, "<init>", "()V"⟩
abbrev cX9_hasRoom : ByteArray := prog_11_method_2_code
def yX9_hasRoom : MethodName := ⟨RX9, "hasRoom", "()Z"⟩
abbrev cX9_put : ByteArray := prog_11_method_3_code
def yX9_put : MethodName := ⟨RX9, "put", "(I)V"⟩
abbrev cX9_byteAt : ByteArray := prog_11_method_4_code
def yX9_byteAt : MethodName := ⟨RX9, "byteAt", "(I)I"⟩
abbrev cX9_isLetter : ByteArray := prog_11_method_5_code
def yX9_isLetter : MethodName := ⟨RX9, "isLetter", "(I)Z"⟩
abbrev cX9_isDigit : ByteArray := prog_11_method_6_code
def yX9_isDigit : MethodName := ⟨RX9, "isDigit", "(I)Z"⟩
abbrev cX9_isBlank : ByteArray := prog_11_method_7_code
def yX9_isBlank : MethodName := ⟨RX9, "isBlank", "(I)Z"⟩
abbrev cX9_skipBlanks : ByteArray := prog_11_method_8_code
def yX9_skipBlanks : MethodName := ⟨RX9, "skipBlanks", "(I)I"⟩
abbrev cX9_endOfRun : ByteArray := prog_11_method_9_code
def yX9_endOfRun : MethodName := ⟨RX9, "endOfRun", "(I)I"⟩
abbrev cX9_says : ByteArray := prog_11_method_10_code
def yX9_says : MethodName := ⟨RX9, "says", "(IILjava/lang/String;)Z"⟩
abbrev cX9_saysAlike : ByteArray := prog_11_method_11_code
def yX9_saysAlike : MethodName := ⟨RX9, "saysAlike", "(III)Z"⟩
abbrev cX9_numberAt : ByteArray := prog_11_method_12_code
def yX9_numberAt : MethodName := ⟨RX9, "numberAt", "(II)I"⟩
def RX10 : String := "StateMill$Tokens"
def TX10 : u_T := fun k => match k with
  | 0 => ("StateMill$Tokens", "tape", "LStateMill$Tape;", true)
  | 1 => ("StateMill$Tokens", "kinds", "[I", true)
  | 2 => ("StateMill$Tokens", "starts", "[I", true)
  | 3 => ("StateMill$Tokens", "sizes", "[I", true)
  | 4 => ("StateMill$Tokens", "count", "I", false)
  | 5 => ("StateMill$Tokens", "fault", "I", false)
  | 6 => ("StateMill$Tokens", "place", "I", false)
  | _ => ("StateMill$Tokens", "stateLines", "I", false)
def tyX10 : Nat → FieldType := fun k => match k with
  | 0 => .object "StateMill$Tape"
  | 1 => .array .int
  | 2 => .array .int
  | 3 => .array .int
  | 4 => .int
  | 5 => .int
  | 6 => .int
  | _ => .int
abbrev wsX100 : List Cond := u_ws RX10 TX10 8
theorem nmX10 : ∀ a, a < 8 → ∀ b, b < 8 → a ≠ b → (TX10 a).2.1 ≠ (TX10 b).2.1 := by decide +kernel
theorem tyX10_ok : ∀ k, k < 8 → parseFieldDescriptor (TX10 k).2.2.1 = some (tyX10 k) := by decide +kernel
abbrev cX10_init : ByteArray := prog_12_method_1_code
def yX10_init : MethodName := ⟨RX10, "<init>", "(LStateMill$Tape;)V"⟩
abbrev cX10_scan : ByteArray := prog_12_method_2_code
def yX10_scan : MethodName := ⟨RX10, "scan", "()V"⟩
abbrev cX10_fail : ByteArray := prog_12_method_3_code
def yX10_fail : MethodName := ⟨RX10, "fail", "(II)V"⟩
abbrev cX10_keep : ByteArray := prog_12_method_4_code
def yX10_keep : MethodName := ⟨RX10, "keep", "(III)V"⟩
abbrev cX10_beginning : ByteArray := prog_12_method_5_code
def yX10_beginning : MethodName := ⟨RX10, "beginning", "(I)I"⟩
abbrev cX10_kindOf : ByteArray := prog_12_method_6_code
def yX10_kindOf : MethodName := ⟨RX10, "kindOf", "(II)I"⟩
abbrev cX10_shapeOf : ByteArray := prog_12_method_7_code
def yX10_shapeOf : MethodName := ⟨RX10, "shapeOf", "(I)Ljava/lang/String;"⟩
abbrev cX10_fits : ByteArray := prog_12_method_8_code
def yX10_fits : MethodName := ⟨RX10, "fits", "(CI)Z"⟩
def RX11 : String := "StateMill"
def TX11 : u_T := fun k => match k with
  | 0 => ("StateMill", "machine", "LStateMill$Machine;", true)
  | 1 => ("StateMill", "history", "LStateMill$History;", true)
  | 2 => ("StateMill", "tape", "LStateMill$Tape;", true)
  | 3 => ("StateMill", "tokens", "LStateMill$Tokens;", true)
  | 4 => ("StateMill", "reader", "LStateMill$Reader;", true)
  | 5 => ("StateMill", "pairs", "LStateMill$Pairs;", true)
  | 6 => ("StateMill", "cover", "LStateMill$Cover;", true)
  | 7 => ("StateMill", "partitions", "LStateMill$Partitions;", true)
  | 8 => ("StateMill", "hanging", "LStateMill$Hanging;", true)
  | 9 => ("StateMill", "cubes", "LStateMill$Cubes;", true)
  | 10 => ("StateMill", "finest", "LStateMill$Best;", true)
  | _ => ("StateMill", "faultPlace", "I", false)
def tyX11 : Nat → FieldType := fun k => match k with
  | 0 => .object "StateMill$Machine"
  | 1 => .object "StateMill$History"
  | 2 => .object "StateMill$Tape"
  | 3 => .object "StateMill$Tokens"
  | 4 => .object "StateMill$Reader"
  | 5 => .object "StateMill$Pairs"
  | 6 => .object "StateMill$Cover"
  | 7 => .object "StateMill$Partitions"
  | 8 => .object "StateMill$Hanging"
  | 9 => .object "StateMill$Cubes"
  | 10 => .object "StateMill$Best"
  | _ => .int
abbrev wsX110 : List Cond := u_ws RX11 TX11 12
theorem nmX11 : ∀ a, a < 12 → ∀ b, b < 12 → a ≠ b → (TX11 a).2.1 ≠ (TX11 b).2.1 := by decide +kernel
theorem tyX11_ok : ∀ k, k < 12 → parseFieldDescriptor (TX11 k).2.2.1 = some (tyX11 k) := by decide +kernel
abbrev cX11_init : ByteArray := prog_1_method_1_code
def yX11_init : MethodName := ⟨RX11, "<init>", "()V"⟩
abbrev cX11_feed : ByteArray := prog_1_method_2_code
def yX11_feed : MethodName := ⟨RX11, "feed", "(IIIII)I"⟩
abbrev cX11_back : ByteArray := prog_1_method_3_code
def yX11_back : MethodName := ⟨RX11, "back", "(I)I"⟩
abbrev cX11_read : ByteArray := prog_1_method_4_code
def yX11_read : MethodName := ⟨RX11, "read", "()I"⟩
abbrev cX11_place : ByteArray := prog_1_method_5_code
def yX11_place : MethodName := ⟨RX11, "place", "()I"⟩
abbrev cX11_set : ByteArray := prog_1_method_6_code
def yX11_set : MethodName := ⟨RX11, "set", "(IIII)Z"⟩
abbrev cX11_code : ByteArray := prog_1_method_7_code
def yX11_code : MethodName := ⟨RX11, "code", "(II)Z"⟩
abbrev cX11_undo : ByteArray := prog_1_method_8_code
def yX11_undo : MethodName := ⟨RX11, "undo", "()Z"⟩
abbrev cX11_move : ByteArray := prog_1_method_9_code
def yX11_move : MethodName := ⟨RX11, "move", "(III)I"⟩
abbrev cX11_apart : ByteArray := prog_1_method_10_code
def yX11_apart : MethodName := ⟨RX11, "apart", "(III)I"⟩
abbrev cX11_word : ByteArray := prog_1_method_11_code
def yX11_word : MethodName := ⟨RX11, "word", "(III)I"⟩
abbrev cX11_shown : ByteArray := prog_1_method_12_code
def yX11_shown : MethodName := ⟨RX11, "shown", "(I)I"⟩
abbrev cX11_classes : ByteArray := prog_1_method_13_code
def yX11_classes : MethodName := ⟨RX11, "classes", "()I"⟩
abbrev cX11_greatest : ByteArray := prog_1_method_14_code
def yX11_greatest : MethodName := ⟨RX11, "greatest", "(I)I"⟩
abbrev cX11_fewest : ByteArray := prog_1_method_15_code
def yX11_fewest : MethodName := ⟨RX11, "fewest", "(I)I"⟩
abbrev cX11_isClass : ByteArray := prog_1_method_16_code
def yX11_isClass : MethodName := ⟨RX11, "isClass", "(I)I"⟩
abbrev cX11_leads : ByteArray := prog_1_method_17_code
def yX11_leads : MethodName := ⟨RX11, "leads", "(II)I"⟩
abbrev cX11_small : ByteArray := prog_1_method_18_code
def yX11_small : MethodName := ⟨RX11, "small", "(III)I"⟩
abbrev cX11_home : ByteArray := prog_1_method_19_code
def yX11_home : MethodName := ⟨RX11, "home", "(I)I"⟩
abbrev cX11_met : ByteArray := prog_1_method_20_code
def yX11_met : MethodName := ⟨RX11, "met", "(I)I"⟩
abbrev cX11_run : ByteArray := prog_1_method_21_code
def yX11_run : MethodName := ⟨RX11, "run", "(IIII)I"⟩
abbrev cX11_goesOn : ByteArray := prog_1_method_22_code
def yX11_goesOn : MethodName := ⟨RX11, "goesOn", "(I)I"⟩
abbrev cX11_together : ByteArray := prog_1_method_23_code
def yX11_together : MethodName := ⟨RX11, "together", "(II)I"⟩
abbrev cX11_partition : ByteArray := prog_1_method_24_code
def yX11_partition : MethodName := ⟨RX11, "partition", "(I)I"⟩
abbrev cX11_into : ByteArray := prog_1_method_25_code
def yX11_into : MethodName := ⟨RX11, "into", "(I)I"⟩
abbrev cX11_split : ByteArray := prog_1_method_26_code
def yX11_split : MethodName := ⟨RX11, "split", "(I)I"⟩
abbrev cX11_tail : ByteArray := prog_1_method_27_code
def yX11_tail : MethodName := ⟨RX11, "tail", "(I)I"⟩
abbrev cX11_part : ByteArray := prog_1_method_28_code
def yX11_part : MethodName := ⟨RX11, "part", "(III)I"⟩
abbrev cX11_series : ByteArray := prog_1_method_29_code
def yX11_series : MethodName := ⟨RX11, "series", "(IIIII)I"⟩
abbrev cX11_beside : ByteArray := prog_1_method_30_code
def yX11_beside : MethodName := ⟨RX11, "beside", "(IIIII)I"⟩
abbrev cX11_hangs : ByteArray := prog_1_method_31_code
def yX11_hangs : MethodName := ⟨RX11, "hangs", "(II)I"⟩
abbrev cX11_cost : ByteArray := prog_1_method_32_code
def yX11_cost : MethodName := ⟨RX11, "cost", "()I"⟩
abbrev cX11_cube : ByteArray := prog_1_method_33_code
def yX11_cube : MethodName := ⟨RX11, "cube", "(III)I"⟩
abbrev cX11_sum : ByteArray := prog_1_method_34_code
def yX11_sum : MethodName := ⟨RX11, "sum", "()I"⟩
abbrev cX11_coded : ByteArray := prog_1_method_35_code
def yX11_coded : MethodName := ⟨RX11, "coded", "(II)I"⟩
abbrev cX11_best : ByteArray := prog_1_method_36_code
def yX11_best : MethodName := ⟨RX11, "best", "(II)I"⟩
abbrev cX11_hold : ByteArray := prog_1_method_37_code
def yX11_hold : MethodName := ⟨RX11, "hold", "(I)Z"⟩
abbrev cX11_restore : ByteArray := prog_1_method_38_code
def yX11_restore : MethodName := ⟨RX11, "restore", "(I)Z"⟩
abbrev cX11_count : ByteArray := prog_1_method_39_code
def yX11_count : MethodName := ⟨RX11, "count", "(I)I"⟩
abbrev cX11_pairsNow : ByteArray := prog_1_method_40_code
def yX11_pairsNow : MethodName := ⟨RX11, "pairsNow", "()LStateMill$Pairs;"⟩
abbrev cX11_coverNow : ByteArray := prog_1_method_41_code
def yX11_coverNow : MethodName := ⟨RX11, "coverNow", "()LStateMill$Cover;"⟩
abbrev cX11_fewestNow : ByteArray := prog_1_method_42_code
def yX11_fewestNow : MethodName := ⟨RX11, "fewestNow", "()LStateMill$Cover;"⟩
abbrev cX11_partitionsNow : ByteArray := prog_1_method_43_code
def yX11_partitionsNow : MethodName := ⟨RX11, "partitionsNow", "()LStateMill$Partitions;"⟩
abbrev cX11_hangingNow : ByteArray := prog_1_method_44_code
def yX11_hangingNow : MethodName := ⟨RX11, "hangingNow", "()LStateMill$Hanging;"⟩
abbrev cX11_pairOf : ByteArray := prog_1_method_45_code
def yX11_pairOf : MethodName := ⟨RX11, "pairOf", "(II)I"⟩
def RX12 : String := "StateMillModel"
def TX12 : u_T := fun k => match k with
  | 0 => ("StateMillModel", "thrown", "I", false)
  | 1 => ("StateMillModel", "tape", "[B", true)
  | 2 => ("StateMillModel", "taped", "I", false)
  | 3 => ("StateMillModel", "text", "[B", true)
  | 4 => ("StateMillModel", "size", "I", false)
  | 5 => ("StateMillModel", "tKind", "[I", true)
  | 6 => ("StateMillModel", "tPlace", "[I", true)
  | 7 => ("StateMillModel", "tValue", "[I", true)
  | 8 => ("StateMillModel", "tName", "[J", true)
  | 9 => ("StateMillModel", "keys", "[J", true)
  | 10 => ("StateMillModel", "tokens", "I", false)
  | 11 => ("StateMillModel", "t", "I", false)
  | 12 => ("StateMillModel", "fault", "I", false)
  | 13 => ("StateMillModel", "faultPlace", "I", false)
  | 14 => ("StateMillModel", "worst", "I", false)
  | 15 => ("StateMillModel", "worstPlace", "I", false)
  | 16 => ("StateMillModel", "place", "I", false)
  | 17 => ("StateMillModel", "states", "I", false)
  | 18 => ("StateMillModel", "inputs", "I", false)
  | 19 => ("StateMillModel", "newStates", "I", false)
  | 20 => ("StateMillModel", "newInputs", "I", false)
  | 21 => ("StateMillModel", "names", "[J", true)
  | 22 => ("StateMillModel", "now", "[I", true)
  | 23 => ("StateMillModel", "fresh", "[I", true)
  | 24 => ("StateMillModel", "earlier", "[I", true)
  | 25 => ("StateMillModel", "earliest", "I", false)
  | 26 => ("StateMillModel", "undos", "I", false)
  | 27 => ("StateMillModel", "held", "[I", true)
  | 28 => ("StateMillModel", "isHeld", "[Z", true)
  | 29 => ("StateMillModel", "isKnown", "Z", false)
  | 30 => ("StateMillModel", "isBest", "[Z", true)
  | 31 => ("StateMillModel", "rounds", "[I", true)
  | 32 => ("StateMillModel", "classList", "[I", true)
  | 33 => ("StateMillModel", "classMany", "I", false)
  | 34 => ("StateMillModel", "greatestList", "[I", true)
  | 35 => ("StateMillModel", "greatestMany", "I", false)
  | 36 => ("StateMillModel", "fewestList", "[I", true)
  | 37 => ("StateMillModel", "fewestMany", "I", false)
  | 38 => ("StateMillModel", "picked", "[I", true)
  | 39 => ("StateMillModel", "metWith", "[I", true)
  | 40 => ("StateMillModel", "listed", "I", false)
  | 41 => ("StateMillModel", "numbers", "[I", true)
  | 42 => ("StateMillModel", "blocksOf", "[I", true)
  | 43 => ("StateMillModel", "isOn", "[Z", true)
  | 44 => ("StateMillModel", "blockOf", "[I", true)
  | 45 => ("StateMillModel", "coding", "[I", true)
  | 46 => ("StateMillModel", "cubeSet", "[I", true)
  | 47 => ("StateMillModel", "fewKept", "[B", true)
  | 48 => ("StateMillModel", "onCodes", "I", false)
  | 49 => ("StateMillModel", "offCodes", "I", false)
  | 50 => ("StateMillModel", "least", "[I", true)
  | 51 => ("StateMillModel", "cubeRow", "[I", true)
  | 52 => ("StateMillModel", "cubeMany", "I", false)
  | 53 => ("StateMillModel", "mayCubes", "[I", true)
  | 54 => ("StateMillModel", "mayMany", "I", false)
  | 55 => ("StateMillModel", "bestCodes", "[I", true)
  | _ => ("StateMillModel", "bestWorth", "[I", true)
def tyX12 : Nat → FieldType := fun k => match k with
  | 0 => .int
  | 1 => .array .byte
  | 2 => .int
  | 3 => .array .byte
  | 4 => .int
  | 5 => .array .int
  | 6 => .array .int
  | 7 => .array .int
  | 8 => .array .long
  | 9 => .array .long
  | 10 => .int
  | 11 => .int
  | 12 => .int
  | 13 => .int
  | 14 => .int
  | 15 => .int
  | 16 => .int
  | 17 => .int
  | 18 => .int
  | 19 => .int
  | 20 => .int
  | 21 => .array .long
  | 22 => .array .int
  | 23 => .array .int
  | 24 => .array .int
  | 25 => .int
  | 26 => .int
  | 27 => .array .int
  | 28 => .array .boolean
  | 29 => .boolean
  | 30 => .array .boolean
  | 31 => .array .int
  | 32 => .array .int
  | 33 => .int
  | 34 => .array .int
  | 35 => .int
  | 36 => .array .int
  | 37 => .int
  | 38 => .array .int
  | 39 => .array .int
  | 40 => .int
  | 41 => .array .int
  | 42 => .array .int
  | 43 => .array .boolean
  | 44 => .array .int
  | 45 => .array .int
  | 46 => .array .int
  | 47 => .array .byte
  | 48 => .int
  | 49 => .int
  | 50 => .array .int
  | 51 => .array .int
  | 52 => .int
  | 53 => .array .int
  | 54 => .int
  | 55 => .array .int
  | _ => .array .int
abbrev wsX120 : List Cond := u_ws RX12 TX12 57
theorem nmX12 : ∀ a, a < 57 → ∀ b, b < 57 → a ≠ b → (TX12 a).2.1 ≠ (TX12 b).2.1 := by decide +kernel
theorem tyX12_ok : ∀ k, k < 57 → parseFieldDescriptor (TX12 k).2.2.1 = some (tyX12 k) := by decide +kernel
abbrev cX12_init : ByteArray := prog_14_method_2_code
def yX12_init : MethodName := ⟨RX12, "<init>", "()V"⟩
abbrev cX12_feed : ByteArray := prog_14_method_3_code
def yX12_feed : MethodName := ⟨RX12, "feed", "(IIIII)I"⟩
abbrev cX12_lays : ByteArray := prog_14_method_4_code
def yX12_lays : MethodName := ⟨RX12, "lays", "(I)V"⟩
abbrev cX12_back : ByteArray := prog_14_method_5_code
def yX12_back : MethodName := ⟨RX12, "back", "(I)I"⟩
abbrev cX12_byteAt : ByteArray := prog_14_method_6_code
def yX12_byteAt : MethodName := ⟨RX12, "byteAt", "(I)I"⟩
abbrev cX12_isDigit : ByteArray := prog_14_method_7_code
def yX12_isDigit : MethodName := ⟨RX12, "isDigit", "(I)Z"⟩
abbrev cX12_isLetter : ByteArray := prog_14_method_8_code
def yX12_isLetter : MethodName := ⟨RX12, "isLetter", "(I)Z"⟩
abbrev cX12_appends : ByteArray := prog_14_method_9_code
def yX12_appends : MethodName := ⟨RX12, "appends", "(JI)J"⟩
abbrev cX12_letters : ByteArray := prog_14_method_10_code
def yX12_letters : MethodName := ⟨RX12, "letters", "(IIIIIII)J"⟩
abbrev cX12_token : ByteArray := prog_14_method_11_code
def yX12_token : MethodName := ⟨RX12, "token", "(IIIJ)V"⟩
abbrev cX12_parts : ByteArray := prog_14_method_12_code
def yX12_parts : MethodName := ⟨RX12, "parts", "()V"⟩
abbrev cX12_sign : ByteArray := prog_14_method_13_code
def yX12_sign : MethodName := ⟨RX12, "sign", "(III)I"⟩
abbrev cX12_is : ByteArray := prog_14_method_14_code
def yX12_is : MethodName := ⟨RX12, "is", "(I)Z"⟩
abbrev cX12_fail : ByteArray := prog_14_method_15_code
def yX12_fail : MethodName := ⟨RX12, "fail", "(I)V"⟩
abbrev cX12_wrong : ByteArray := prog_14_method_16_code
def yX12_wrong : MethodName := ⟨RX12, "wrong", "(II)V"⟩
abbrev cX12_passes : ByteArray := prog_14_method_17_code
def yX12_passes : MethodName := ⟨RX12, "passes", "()V"⟩
abbrev cX12_must : ByteArray := prog_14_method_18_code
def yX12_must : MethodName := ⟨RX12, "must", "(I)V"⟩
abbrev cX12_read : ByteArray := prog_14_method_19_code
def yX12_read : MethodName := ⟨RX12, "read", "()I"⟩
abbrev cX12_place : ByteArray := prog_14_method_20_code
def yX12_place : MethodName := ⟨RX12, "place", "()I"⟩
abbrev cX12_either : ByteArray := prog_14_method_21_code
def yX12_either : MethodName := ⟨RX12, "either", "(II)V"⟩
abbrev cX12_line : ByteArray := prog_14_method_22_code
def yX12_line : MethodName := ⟨RX12, "line", "()V"⟩
abbrev cX12_named : ByteArray := prog_14_method_23_code
def yX12_named : MethodName := ⟨RX12, "named", "(I)I"⟩
abbrev cX12_bounded : ByteArray := prog_14_method_24_code
def yX12_bounded : MethodName := ⟨RX12, "bounded", "(III)I"⟩
abbrev cX12_means : ByteArray := prog_14_method_25_code
def yX12_means : MethodName := ⟨RX12, "means", "()V"⟩
abbrev cX12_in : ByteArray := prog_14_method_26_code
def yX12_in : MethodName := ⟨RX12, "in", "(III)Z"⟩
abbrev cX12_isState : ByteArray := prog_14_method_27_code
def yX12_isState : MethodName := ⟨RX12, "isState", "(I)Z"⟩
abbrev cX12_isInput : ByteArray := prog_14_method_28_code
def yX12_isInput : MethodName := ⟨RX12, "isInput", "(I)Z"⟩
abbrev cX12_isMove : ByteArray := prog_14_method_29_code
def yX12_isMove : MethodName := ⟨RX12, "isMove", "(II)Z"⟩
abbrev cX12_to : ByteArray := prog_14_method_30_code
def yX12_to : MethodName := ⟨RX12, "to", "(II)I"⟩
abbrev cX12_answer : ByteArray := prog_14_method_31_code
def yX12_answer : MethodName := ⟨RX12, "answer", "(II)I"⟩
abbrev cX12_codeOf : ByteArray := prog_14_method_32_code
def yX12_codeOf : MethodName := ⟨RX12, "codeOf", "(I)I"⟩
abbrev cX12_bitsOf : ByteArray := prog_14_method_33_code
def yX12_bitsOf : MethodName := ⟨RX12, "bitsOf", "(I)I"⟩
abbrev cX12_has : ByteArray := prog_14_method_34_code
def yX12_has : MethodName := ⟨RX12, "has", "(II)Z"⟩
abbrev cX12_marks : ByteArray := prog_14_method_35_code
def yX12_marks : MethodName := ⟨RX12, "marks", "()V"⟩
abbrev cX12_set : ByteArray := prog_14_method_36_code
def yX12_set : MethodName := ⟨RX12, "set", "(IIII)Z"⟩
abbrev cX12_code : ByteArray := prog_14_method_37_code
def yX12_code : MethodName := ⟨RX12, "code", "(II)Z"⟩
abbrev cX12_undo : ByteArray := prog_14_method_38_code
def yX12_undo : MethodName := ⟨RX12, "undo", "()Z"⟩
abbrev cX12_hold : ByteArray := prog_14_method_39_code
def yX12_hold : MethodName := ⟨RX12, "hold", "(I)Z"⟩
abbrev cX12_restore : ByteArray := prog_14_method_40_code
def yX12_restore : MethodName := ⟨RX12, "restore", "(I)Z"⟩
abbrev cX12_move : ByteArray := prog_14_method_41_code
def yX12_move : MethodName := ⟨RX12, "move", "(III)I"⟩
abbrev cX12_changes : ByteArray := prog_14_method_42_code
def yX12_changes : MethodName := ⟨RX12, "changes", "()V"⟩
abbrev cX12_knows : ByteArray := prog_14_method_43_code
def yX12_knows : MethodName := ⟨RX12, "knows", "()V"⟩
abbrev cX12_areUnlike : ByteArray := prog_14_method_44_code
def yX12_areUnlike : MethodName := ⟨RX12, "areUnlike", "(III)Z"⟩
abbrev cX12_finds : ByteArray := prog_14_method_45_code
def yX12_finds : MethodName := ⟨RX12, "finds", "()V"⟩
abbrev cX12_apart : ByteArray := prog_14_method_46_code
def yX12_apart : MethodName := ⟨RX12, "apart", "(III)I"⟩
abbrev cX12_word : ByteArray := prog_14_method_47_code
def yX12_word : MethodName := ⟨RX12, "word", "(III)I"⟩
abbrev cX12_nextInput : ByteArray := prog_14_method_48_code
def yX12_nextInput : MethodName := ⟨RX12, "nextInput", "(II)I"⟩
abbrev cX12_doesTell : ByteArray := prog_14_method_49_code
def yX12_doesTell : MethodName := ⟨RX12, "doesTell", "(IIII)Z"⟩
abbrev cX12_isWord : ByteArray := prog_14_method_50_code
def yX12_isWord : MethodName := ⟨RX12, "isWord", "(II)Z"⟩
abbrev cX12_doesShow : ByteArray := prog_14_method_51_code
def yX12_doesShow : MethodName := ⟨RX12, "doesShow", "(II)Z"⟩
abbrev cX12_shown : ByteArray := prog_14_method_52_code
def yX12_shown : MethodName := ⟨RX12, "shown", "(I)I"⟩
abbrev cX12_isAlike : ByteArray := prog_14_method_53_code
def yX12_isAlike : MethodName := ⟨RX12, "isAlike", "(I)Z"⟩
abbrev cX12_listsClasses : ByteArray := prog_14_method_54_code
def yX12_listsClasses : MethodName := ⟨RX12, "listsClasses", "()V"⟩
abbrev cX12_classes : ByteArray := prog_14_method_55_code
def yX12_classes : MethodName := ⟨RX12, "classes", "()I"⟩
abbrev cX12_ofRow : ByteArray := prog_14_method_56_code
def yX12_ofRow : MethodName := ⟨RX12, "ofRow", "([III)I"⟩
abbrev cX12_greatest : ByteArray := prog_14_method_57_code
def yX12_greatest : MethodName := ⟨RX12, "greatest", "(I)I"⟩
abbrev cX12_isSet : ByteArray := prog_14_method_58_code
def yX12_isSet : MethodName := ⟨RX12, "isSet", "(II)Z"⟩
abbrev cX12_isClass : ByteArray := prog_14_method_59_code
def yX12_isClass : MethodName := ⟨RX12, "isClass", "(I)I"⟩
abbrev cX12_ledTo : ByteArray := prog_14_method_60_code
def yX12_ledTo : MethodName := ⟨RX12, "ledTo", "(II)I"⟩
abbrev cX12_leads : ByteArray := prog_14_method_61_code
def yX12_leads : MethodName := ⟨RX12, "leads", "(II)I"⟩
abbrev cX12_firstWith : ByteArray := prog_14_method_62_code
def yX12_firstWith : MethodName := ⟨RX12, "firstWith", "(I)I"⟩
abbrev cX12_isCover : ByteArray := prog_14_method_63_code
def yX12_isCover : MethodName := ⟨RX12, "isCover", "()Z"⟩
abbrev cX12_firstPick : ByteArray := prog_14_method_64_code
def yX12_firstPick : MethodName := ⟨RX12, "firstPick", "(I)V"⟩
abbrev cX12_nextPick : ByteArray := prog_14_method_65_code
def yX12_nextPick : MethodName := ⟨RX12, "nextPick", "(II)Z"⟩
abbrev cX12_laysFewest : ByteArray := prog_14_method_66_code
def yX12_laysFewest : MethodName := ⟨RX12, "laysFewest", "()V"⟩
abbrev cX12_hasCover : ByteArray := prog_14_method_67_code
def yX12_hasCover : MethodName := ⟨RX12, "hasCover", "()Z"⟩
abbrev cX12_fewest : ByteArray := prog_14_method_68_code
def yX12_fewest : MethodName := ⟨RX12, "fewest", "(I)I"⟩
abbrev cX12_smallTo : ByteArray := prog_14_method_69_code
def yX12_smallTo : MethodName := ⟨RX12, "smallTo", "(II)I"⟩
abbrev cX12_smallAnswer : ByteArray := prog_14_method_70_code
def yX12_smallAnswer : MethodName := ⟨RX12, "smallAnswer", "(II)I"⟩
abbrev cX12_small : ByteArray := prog_14_method_71_code
def yX12_small : MethodName := ⟨RX12, "small", "(III)I"⟩
abbrev cX12_home : ByteArray := prog_14_method_72_code
def yX12_home : MethodName := ⟨RX12, "home", "(I)I"⟩
abbrev cX12_laysMet : ByteArray := prog_14_method_73_code
def yX12_laysMet : MethodName := ⟨RX12, "laysMet", "()V"⟩
abbrev cX12_met : ByteArray := prog_14_method_74_code
def yX12_met : MethodName := ⟨RX12, "met", "(I)I"⟩
abbrev cX12_run : ByteArray := prog_14_method_75_code
def yX12_run : MethodName := ⟨RX12, "run", "(IIII)I"⟩
abbrev cX12_listsPartitions : ByteArray := prog_14_method_76_code
def yX12_listsPartitions : MethodName := ⟨RX12, "listsPartitions", "()V"⟩
abbrev cX12_hasNext : ByteArray := prog_14_method_77_code
def yX12_hasNext : MethodName := ⟨RX12, "hasNext", "(I)Z"⟩
abbrev cX12_doesGo : ByteArray := prog_14_method_78_code
def yX12_doesGo : MethodName := ⟨RX12, "doesGo", "(II)Z"⟩
abbrev cX12_placeOf : ByteArray := prog_14_method_79_code
def yX12_placeOf : MethodName := ⟨RX12, "placeOf", "(I)I"⟩
abbrev cX12_goesOn : ByteArray := prog_14_method_80_code
def yX12_goesOn : MethodName := ⟨RX12, "goesOn", "(I)I"⟩
abbrev cX12_together : ByteArray := prog_14_method_81_code
def yX12_together : MethodName := ⟨RX12, "together", "(II)I"⟩
abbrev cX12_partition : ByteArray := prog_14_method_82_code
def yX12_partition : MethodName := ⟨RX12, "partition", "(I)I"⟩
abbrev cX12_into : ByteArray := prog_14_method_83_code
def yX12_into : MethodName := ⟨RX12, "into", "(I)I"⟩
abbrev cX12_areAll : ByteArray := prog_14_method_84_code
def yX12_areAll : MethodName := ⟨RX12, "areAll", "(II)Z"⟩
abbrev cX12_split : ByteArray := prog_14_method_85_code
def yX12_split : MethodName := ⟨RX12, "split", "(I)I"⟩
abbrev cX12_tailAt : ByteArray := prog_14_method_86_code
def yX12_tailAt : MethodName := ⟨RX12, "tailAt", "(I)I"⟩
abbrev cX12_tail : ByteArray := prog_14_method_87_code
def yX12_tail : MethodName := ⟨RX12, "tail", "(I)I"⟩
abbrev cX12_partTo : ByteArray := prog_14_method_88_code
def yX12_partTo : MethodName := ⟨RX12, "partTo", "(III)I"⟩
abbrev cX12_part : ByteArray := prog_14_method_89_code
def yX12_part : MethodName := ⟨RX12, "part", "(III)I"⟩
abbrev cX12_series : ByteArray := prog_14_method_90_code
def yX12_series : MethodName := ⟨RX12, "series", "(IIIII)I"⟩
abbrev cX12_beside : ByteArray := prog_14_method_91_code
def yX12_beside : MethodName := ⟨RX12, "beside", "(IIIII)I"⟩
abbrev cX12_bits : ByteArray := prog_14_method_92_code
def yX12_bits : MethodName := ⟨RX12, "bits", "()I"⟩
abbrev cX12_asTheyAre : ByteArray := prog_14_method_93_code
def yX12_asTheyAre : MethodName := ⟨RX12, "asTheyAre", "()V"⟩
abbrev cX12_isProper : ByteArray := prog_14_method_94_code
def yX12_isProper : MethodName := ⟨RX12, "isProper", "()Z"⟩
abbrev cX12_doesHang : ByteArray := prog_14_method_95_code
def yX12_doesHang : MethodName := ⟨RX12, "doesHang", "(II)Z"⟩
abbrev cX12_hangsOn : ByteArray := prog_14_method_96_code
def yX12_hangsOn : MethodName := ⟨RX12, "hangsOn", "(I)I"⟩
abbrev cX12_hangs : ByteArray := prog_14_method_97_code
def yX12_hangs : MethodName := ⟨RX12, "hangs", "(II)I"⟩
abbrev cX12_costNow : ByteArray := prog_14_method_98_code
def yX12_costNow : MethodName := ⟨RX12, "costNow", "()I"⟩
abbrev cX12_cost : ByteArray := prog_14_method_99_code
def yX12_cost : MethodName := ⟨RX12, "cost", "()I"⟩
abbrev cX12_heldBy : ByteArray := prog_14_method_100_code
def yX12_heldBy : MethodName := ⟨RX12, "heldBy", "(II)I"⟩
abbrev cX12_fillsCubes : ByteArray := prog_14_method_101_code
def yX12_fillsCubes : MethodName := ⟨RX12, "fillsCubes", "()V"⟩
abbrev cX12_laysCodes : ByteArray := prog_14_method_102_code
def yX12_laysCodes : MethodName := ⟨RX12, "laysCodes", "(II)V"⟩
abbrev cX12_fewOf : ByteArray := prog_14_method_103_code
def yX12_fewOf : MethodName := ⟨RX12, "fewOf", "()I"⟩
abbrev cX12_howFew : ByteArray := prog_14_method_104_code
def yX12_howFew : MethodName := ⟨RX12, "howFew", "()I"⟩
abbrev cX12_sumNow : ByteArray := prog_14_method_105_code
def yX12_sumNow : MethodName := ⟨RX12, "sumNow", "()I"⟩
abbrev cX12_laysCubes : ByteArray := prog_14_method_106_code
def yX12_laysCubes : MethodName := ⟨RX12, "laysCubes", "(II)V"⟩
abbrev cX12_isBit : ByteArray := prog_14_method_107_code
def yX12_isBit : MethodName := ⟨RX12, "isBit", "(I)Z"⟩
abbrev cX12_cube : ByteArray := prog_14_method_108_code
def yX12_cube : MethodName := ⟨RX12, "cube", "(III)I"⟩
abbrev cX12_sum : ByteArray := prog_14_method_109_code
def yX12_sum : MethodName := ⟨RX12, "sum", "()I"⟩
abbrev cX12_coded : ByteArray := prog_14_method_110_code
def yX12_coded : MethodName := ⟨RX12, "coded", "(II)I"⟩
abbrev cX12_laysBest : ByteArray := prog_14_method_111_code
def yX12_laysBest : MethodName := ⟨RX12, "laysBest", "(I)V"⟩
abbrev cX12_isTaken : ByteArray := prog_14_method_112_code
def yX12_isTaken : MethodName := ⟨RX12, "isTaken", "(I)Z"⟩
abbrev cX12_weighs : ByteArray := prog_14_method_113_code
def yX12_weighs : MethodName := ⟨RX12, "weighs", "(I)V"⟩
abbrev cX12_best : ByteArray := prog_14_method_114_code
def yX12_best : MethodName := ⟨RX12, "best", "(II)I"⟩
abbrev cX12_untold : ByteArray := prog_14_method_115_code
def yX12_untold : MethodName := ⟨RX12, "untold", "(I)I"⟩
abbrev cX12_unreached : ByteArray := prog_14_method_116_code
def yX12_unreached : MethodName := ⟨RX12, "unreached", "()I"⟩
abbrev cX12_count : ByteArray := prog_14_method_117_code
def yX12_count : MethodName := ⟨RX12, "count", "(I)I"⟩
def RJ6 : String := "java/lang/Integer"
abbrev cJ6_numberOfTrailingZeros_0f7a4 : ByteArray := prog_15_method_48_code
def yJ6_numberOfTrailingZeros_0f7a4 : MethodName := ⟨RJ6, "numberOfTrailingZeros", "(I)I"⟩
abbrev cJ6_bitCount_0f7a4 : ByteArray := prog_15_method_49_code
def yJ6_bitCount_0f7a4 : MethodName := ⟨RJ6, "bitCount", "(I)I"⟩
def RJ9 : String := "java/lang/Math"
abbrev cJ9_max_7cf53 : ByteArray := prog_16_method_65_code
def yJ9_max_7cf53 : MethodName := ⟨RJ9, "max", "(II)I"⟩
abbrev cJ9_min_7cf53 : ByteArray := prog_16_method_69_code
def yJ9_min_7cf53 : MethodName := ⟨RJ9, "min", "(II)I"⟩
def RJ0 : String := "java/lang/String"
abbrev cJ0_length_8abf5 : ByteArray := prog_17_method_54_code
def yJ0_length_8abf5 : MethodName := ⟨RJ0, "length", "()I"⟩
abbrev cJ0_isEmpty_aae02 : ByteArray := prog_17_method_55_code
def yJ0_isEmpty_aae02 : MethodName := ⟨RJ0, "isEmpty", "()Z"⟩
abbrev cJ0_charAt_5068e : ByteArray := prog_17_method_56_code
def yJ0_charAt_5068e : MethodName := ⟨RJ0, "charAt", "(I)C"⟩
abbrev cJ0_coder_7d493 : ByteArray := prog_17_method_152_code
def yJ0_coder_7d493 : MethodName := ⟨RJ0, "coder", "()B"⟩
abbrev cJ0_isLatin1_aae02 : ByteArray := prog_17_method_154_code
def yJ0_isLatin1_aae02 : MethodName := ⟨RJ0, "isLatin1", "()Z"⟩
abbrev cJ0_checkIndex_df160 : ByteArray := prog_17_method_155_code
def yJ0_checkIndex_df160 : MethodName := ⟨RJ0, "checkIndex", "(II)V"⟩
def RJ1 : String := "java/lang/StringLatin1"
abbrev cJ1_charAt_3b067 : ByteArray := prog_18_method_2_code
def yJ1_charAt_3b067 : MethodName := ⟨RJ1, "charAt", "([BI)C"⟩
def RJ2 : String := "java/lang/StringUTF16"
abbrev cJ2_getChar_3b067 : ByteArray := prog_19_method_5_code
def yJ2_getChar_3b067 : MethodName := ⟨RJ2, "getChar", "([BI)C"⟩
abbrev cJ2_length_9d52b : ByteArray := prog_19_method_6_code
def yJ2_length_9d52b : MethodName := ⟨RJ2, "length", "([B)I"⟩
abbrev cJ2_charAt_3b067 : ByteArray := prog_19_method_83_code
def yJ2_charAt_3b067 : MethodName := ⟨RJ2, "charAt", "([BI)C"⟩
abbrev cJ2_checkIndex_2214a : ByteArray := prog_19_method_91_code
def yJ2_checkIndex_2214a : MethodName := ⟨RJ2, "checkIndex", "(I[B)V"⟩
def RJ10 : String := "java/lang/System"
def RJ7 : String := "java/util/Arrays"
abbrev cJ7_fill_53178 : ByteArray := prog_21_method_103_code
def yJ7_fill_53178 : MethodName := ⟨RJ7, "fill", "([II)V"⟩
def RJ3 : String := "jdk/internal/util/Preconditions"
abbrev cJ3_checkIndex_8e157 : ByteArray := prog_22_method_11_code
def yJ3_checkIndex_8e157 : MethodName := ⟨RJ3, "checkIndex", "(IILjava/util/function/BiFunction;)I"⟩
def RL : String := "StateMillLaw"
abbrev cL_law : ByteArray := code
def yL_law : MethodName := ⟨RL, "law", "([I)Z"⟩
abbrev vwCl : List vw_C := [(RX0, TX0, 7), (RX1, TX1, 14), (RX2, TX2, 9), (RX3, TX3, 4), (RX4, TX4, 9), (RX5, TX5, 6), (RX6, TX6, 8), (RX7, TX7, 14), (RX8, TX8, 7), (RX9, TX9, 2), (RX10, TX10, 8), (RX11, TX11, 12), (RX12, TX12, 57)]
