-- ===== PART A: goes FIRST, ahead of the names: the tables' words, and 'selects' of the private methods out of them =====
/-- a private method of a class that the tables say can be made, by its rows of tables_1 -/
def lw_okq (q : MethodName × Nat) : Prop := (q.1.cls ≠ "java/lang/invoke/MethodHandle" ∧ q.1.cls ≠ "java/lang/invoke/VarHandle") ∧ Cond.instantiable q.1.cls q.2 ∈ tables_1 ∧ Cond.privateMethod q.1 ∈ tables_1 ∧ Cond.instanceMethod q.1 ∈ tables_1
theorem lw_p0 : lw_okq (⟨"ConvoyTown$Trials", "setUnknown", "()V"⟩, 8) := ⟨⟨by decide +kernel, by decide +kernel⟩, List.mem_of_getElem? (i := 461) (by decide +kernel), List.mem_of_getElem? (i := 469) (by decide +kernel), List.mem_of_getElem? (i := 470) (by decide +kernel)⟩
theorem lw_p1 : lw_okq (⟨"ConvoyTown$Reader", "step", "()V"⟩, 12) := ⟨⟨by decide +kernel, by decide +kernel⟩, List.mem_of_getElem? (i := 183) (by decide +kernel), List.mem_of_getElem? (i := 579) (by decide +kernel), List.mem_of_getElem? (i := 580) (by decide +kernel)⟩
theorem lw_p2 : lw_okq (⟨"ConvoyTown$Reader", "readLine", "()V"⟩, 12) := ⟨⟨by decide +kernel, by decide +kernel⟩, List.mem_of_getElem? (i := 183) (by decide +kernel), List.mem_of_getElem? (i := 589) (by decide +kernel), List.mem_of_getElem? (i := 590) (by decide +kernel)⟩
theorem lw_p3 : lw_okq (⟨"ConvoyTown$Reader", "isWord", "(Ljava/lang/String;)Z"⟩, 12) := ⟨⟨by decide +kernel, by decide +kernel⟩, List.mem_of_getElem? (i := 183) (by decide +kernel), List.mem_of_getElem? (i := 594) (by decide +kernel), List.mem_of_getElem? (i := 595) (by decide +kernel)⟩
theorem lw_p4 : lw_okq (⟨"ConvoyTown$Reader", "fail", "(II)V"⟩, 12) := ⟨⟨by decide +kernel, by decide +kernel⟩, List.mem_of_getElem? (i := 183) (by decide +kernel), List.mem_of_getElem? (i := 646) (by decide +kernel), List.mem_of_getElem? (i := 647) (by decide +kernel)⟩
theorem lw_p5 : lw_okq (⟨"ConvoyTown$Reader", "takeOnce", "(III)I"⟩, 12) := ⟨⟨by decide +kernel, by decide +kernel⟩, List.mem_of_getElem? (i := 183) (by decide +kernel), List.mem_of_getElem? (i := 650) (by decide +kernel), List.mem_of_getElem? (i := 651) (by decide +kernel)⟩
theorem lw_p6 : lw_okq (⟨"ConvoyTown$Reader", "takeNumber", "(II)I"⟩, 12) := ⟨⟨by decide +kernel, by decide +kernel⟩, List.mem_of_getElem? (i := 183) (by decide +kernel), List.mem_of_getElem? (i := 654) (by decide +kernel), List.mem_of_getElem? (i := 655) (by decide +kernel)⟩
theorem lw_p7 : lw_okq (⟨"ConvoyTown$Reader", "readOther", "()V"⟩, 12) := ⟨⟨by decide +kernel, by decide +kernel⟩, List.mem_of_getElem? (i := 183) (by decide +kernel), List.mem_of_getElem? (i := 661) (by decide +kernel), List.mem_of_getElem? (i := 662) (by decide +kernel)⟩
theorem lw_p8 : lw_okq (⟨"ConvoyTown$Reader", "readCross", "()V"⟩, 12) := ⟨⟨by decide +kernel, by decide +kernel⟩, List.mem_of_getElem? (i := 183) (by decide +kernel), List.mem_of_getElem? (i := 666) (by decide +kernel), List.mem_of_getElem? (i := 667) (by decide +kernel)⟩
theorem lw_p9 : lw_okq (⟨"ConvoyTown$Reader", "takeWord", "(Ljava/lang/String;)V"⟩, 12) := ⟨⟨by decide +kernel, by decide +kernel⟩, List.mem_of_getElem? (i := 183) (by decide +kernel), List.mem_of_getElem? (i := 671) (by decide +kernel), List.mem_of_getElem? (i := 672) (by decide +kernel)⟩
theorem lw_p10 : lw_okq (⟨"ConvoyTown$Reader", "readColumn", "()V"⟩, 12) := ⟨⟨by decide +kernel, by decide +kernel⟩, List.mem_of_getElem? (i := 183) (by decide +kernel), List.mem_of_getElem? (i := 681) (by decide +kernel), List.mem_of_getElem? (i := 682) (by decide +kernel)⟩
theorem lw_p11 : lw_okq (⟨"ConvoyTown$Reader", "readSplit", "()V"⟩, 12) := ⟨⟨by decide +kernel, by decide +kernel⟩, List.mem_of_getElem? (i := 183) (by decide +kernel), List.mem_of_getElem? (i := 691) (by decide +kernel), List.mem_of_getElem? (i := 692) (by decide +kernel)⟩
theorem lw_p12 : lw_okq (⟨"ConvoyTown$Reader", "readGather", "()V"⟩, 12) := ⟨⟨by decide +kernel, by decide +kernel⟩, List.mem_of_getElem? (i := 183) (by decide +kernel), List.mem_of_getElem? (i := 696) (by decide +kernel), List.mem_of_getElem? (i := 697) (by decide +kernel)⟩
theorem lw_p13 : lw_okq (⟨"ConvoyTown$Reader", "readBroken", "()V"⟩, 12) := ⟨⟨by decide +kernel, by decide +kernel⟩, List.mem_of_getElem? (i := 183) (by decide +kernel), List.mem_of_getElem? (i := 701) (by decide +kernel), List.mem_of_getElem? (i := 702) (by decide +kernel)⟩
theorem lw_p14 : lw_okq (⟨"ConvoyTown$Reader", "takeLineEnd", "()V"⟩, 12) := ⟨⟨by decide +kernel, by decide +kernel⟩, List.mem_of_getElem? (i := 183) (by decide +kernel), List.mem_of_getElem? (i := 711) (by decide +kernel), List.mem_of_getElem? (i := 712) (by decide +kernel)⟩
theorem lw_p15 : lw_okq (⟨"ConvoyTown", "beginAnew", "()V"⟩, 8) := ⟨⟨by decide +kernel, by decide +kernel⟩, List.mem_of_getElem? (i := 21) (by decide +kernel), List.mem_of_getElem? (i := 723) (by decide +kernel), List.mem_of_getElem? (i := 724) (by decide +kernel)⟩
def lw_privs_1 : List (MethodName × Nat) := [(⟨"ConvoyTown$Trials", "setUnknown", "()V"⟩, 8), (⟨"ConvoyTown$Reader", "step", "()V"⟩, 12), (⟨"ConvoyTown$Reader", "readLine", "()V"⟩, 12), (⟨"ConvoyTown$Reader", "isWord", "(Ljava/lang/String;)Z"⟩, 12), (⟨"ConvoyTown$Reader", "fail", "(II)V"⟩, 12), (⟨"ConvoyTown$Reader", "takeOnce", "(III)I"⟩, 12), (⟨"ConvoyTown$Reader", "takeNumber", "(II)I"⟩, 12), (⟨"ConvoyTown$Reader", "readOther", "()V"⟩, 12), (⟨"ConvoyTown$Reader", "readCross", "()V"⟩, 12), (⟨"ConvoyTown$Reader", "takeWord", "(Ljava/lang/String;)V"⟩, 12), (⟨"ConvoyTown$Reader", "readColumn", "()V"⟩, 12), (⟨"ConvoyTown$Reader", "readSplit", "()V"⟩, 12), (⟨"ConvoyTown$Reader", "readGather", "()V"⟩, 12), (⟨"ConvoyTown$Reader", "readBroken", "()V"⟩, 12), (⟨"ConvoyTown$Reader", "takeLineEnd", "()V"⟩, 12), (⟨"ConvoyTown", "beginAnew", "()V"⟩, 8)]
theorem lw_r1 : ∀ q ∈ lw_privs_1, lw_okq q := List.forall_mem_cons.mpr ⟨lw_p0, List.forall_mem_cons.mpr ⟨lw_p1, List.forall_mem_cons.mpr ⟨lw_p2, List.forall_mem_cons.mpr ⟨lw_p3, List.forall_mem_cons.mpr ⟨lw_p4, List.forall_mem_cons.mpr ⟨lw_p5, List.forall_mem_cons.mpr ⟨lw_p6, List.forall_mem_cons.mpr ⟨lw_p7, List.forall_mem_cons.mpr ⟨lw_p8, List.forall_mem_cons.mpr ⟨lw_p9, List.forall_mem_cons.mpr ⟨lw_p10, List.forall_mem_cons.mpr ⟨lw_p11, List.forall_mem_cons.mpr ⟨lw_p12, List.forall_mem_cons.mpr ⟨lw_p13, List.forall_mem_cons.mpr ⟨lw_p14, List.forall_mem_cons.mpr ⟨lw_p15, fun _ h => absurd h List.not_mem_nil⟩⟩⟩⟩⟩⟩⟩⟩⟩⟩⟩⟩⟩⟩⟩⟩
theorem lw_p16 : lw_okq (⟨"ConvoyTown$Acts", "dropOldest", "()V"⟩, 5) := ⟨⟨by decide +kernel, by decide +kernel⟩, List.mem_of_getElem? (i := 232) (by decide +kernel), List.mem_of_getElem? (i := 748) (by decide +kernel), List.mem_of_getElem? (i := 749) (by decide +kernel)⟩
theorem lw_p17 : lw_okq (⟨"ConvoyTown", "isCar", "(I)Z"⟩, 8) := ⟨⟨by decide +kernel, by decide +kernel⟩, List.mem_of_getElem? (i := 21) (by decide +kernel), List.mem_of_getElem? (i := 760) (by decide +kernel), List.mem_of_getElem? (i := 761) (by decide +kernel)⟩
theorem lw_p18 : lw_okq (⟨"ConvoyTown$Cross", "inCycle", "(I)I"⟩, 7) := ⟨⟨by decide +kernel, by decide +kernel⟩, List.mem_of_getElem? (i := 36) (by decide +kernel), List.mem_of_getElem? (i := 799) (by decide +kernel), List.mem_of_getElem? (i := 800) (by decide +kernel)⟩
theorem lw_p19 : lw_okq (⟨"ConvoyTown$Run", "moveCars", "()V"⟩, 13) := ⟨⟨by decide +kernel, by decide +kernel⟩, List.mem_of_getElem? (i := 255) (by decide +kernel), List.mem_of_getElem? (i := 803) (by decide +kernel), List.mem_of_getElem? (i := 804) (by decide +kernel)⟩
theorem lw_p20 : lw_okq (⟨"ConvoyTown$Run", "isClosed", "()Z"⟩, 13) := ⟨⟨by decide +kernel, by decide +kernel⟩, List.mem_of_getElem? (i := 255) (by decide +kernel), List.mem_of_getElem? (i := 811) (by decide +kernel), List.mem_of_getElem? (i := 812) (by decide +kernel)⟩
theorem lw_p21 : lw_okq (⟨"ConvoyTown$Run", "moveCar", "(IZ)V"⟩, 13) := ⟨⟨by decide +kernel, by decide +kernel⟩, List.mem_of_getElem? (i := 255) (by decide +kernel), List.mem_of_getElem? (i := 819) (by decide +kernel), List.mem_of_getElem? (i := 820) (by decide +kernel)⟩
theorem lw_p22 : lw_okq (⟨"ConvoyTown$Run", "putForward", "(III)V"⟩, 13) := ⟨⟨by decide +kernel, by decide +kernel⟩, List.mem_of_getElem? (i := 255) (by decide +kernel), List.mem_of_getElem? (i := 835) (by decide +kernel), List.mem_of_getElem? (i := 836) (by decide +kernel)⟩
theorem lw_p23 : lw_okq (⟨"ConvoyTown", "isCrossing", "(I)Z"⟩, 8) := ⟨⟨by decide +kernel, by decide +kernel⟩, List.mem_of_getElem? (i := 21) (by decide +kernel), List.mem_of_getElem? (i := 857) (by decide +kernel), List.mem_of_getElem? (i := 858) (by decide +kernel)⟩
theorem lw_p24 : lw_okq (⟨"ConvoyTown", "isSection", "(I)Z"⟩, 8) := ⟨⟨by decide +kernel, by decide +kernel⟩, List.mem_of_getElem? (i := 21) (by decide +kernel), List.mem_of_getElem? (i := 869) (by decide +kernel), List.mem_of_getElem? (i := 870) (by decide +kernel)⟩
theorem lw_p25 : lw_okq (⟨"ConvoyTown$Facts", "clear", "()V"⟩, 10) := ⟨⟨by decide +kernel, by decide +kernel⟩, List.mem_of_getElem? (i := 416) (by decide +kernel), List.mem_of_getElem? (i := 926) (by decide +kernel), List.mem_of_getElem? (i := 927) (by decide +kernel)⟩
theorem lw_p26 : lw_okq (⟨"ConvoyTown$Facts", "seeStretch", "(LConvoyTown$Town;LConvoyTown$Run;)V"⟩, 10) := ⟨⟨by decide +kernel, by decide +kernel⟩, List.mem_of_getElem? (i := 416) (by decide +kernel), List.mem_of_getElem? (i := 931) (by decide +kernel), List.mem_of_getElem? (i := 932) (by decide +kernel)⟩
theorem lw_p27 : lw_okq (⟨"ConvoyTown$Facts", "seeHeld", "(LConvoyTown$Town;LConvoyTown$Run;)V"⟩, 10) := ⟨⟨by decide +kernel, by decide +kernel⟩, List.mem_of_getElem? (i := 416) (by decide +kernel), List.mem_of_getElem? (i := 936) (by decide +kernel), List.mem_of_getElem? (i := 937) (by decide +kernel)⟩
theorem lw_p28 : lw_okq (⟨"ConvoyTown$Run", "nextStir", "()I"⟩, 13) := ⟨⟨by decide +kernel, by decide +kernel⟩, List.mem_of_getElem? (i := 255) (by decide +kernel), List.mem_of_getElem? (i := 958) (by decide +kernel), List.mem_of_getElem? (i := 959) (by decide +kernel)⟩
theorem lw_p29 : lw_okq (⟨"ConvoyTown$Town", "canPass", "(I)Z"⟩, 15) := ⟨⟨by decide +kernel, by decide +kernel⟩, List.mem_of_getElem? (i := 29) (by decide +kernel), List.mem_of_getElem? (i := 982) (by decide +kernel), List.mem_of_getElem? (i := 983) (by decide +kernel)⟩
theorem lw_p30 : lw_okq (⟨"ConvoyTown$Trials", "beginBest", "(I)V"⟩, 8) := ⟨⟨by decide +kernel, by decide +kernel⟩, List.mem_of_getElem? (i := 461) (by decide +kernel), List.mem_of_getElem? (i := 1007) (by decide +kernel), List.mem_of_getElem? (i := 1008) (by decide +kernel)⟩
theorem lw_p31 : lw_okq (⟨"ConvoyTown$Trials", "keepIfSooner", "(III)V"⟩, 8) := ⟨⟨by decide +kernel, by decide +kernel⟩, List.mem_of_getElem? (i := 461) (by decide +kernel), List.mem_of_getElem? (i := 1026) (by decide +kernel), List.mem_of_getElem? (i := 1027) (by decide +kernel)⟩
def lw_privs_2 : List (MethodName × Nat) := [(⟨"ConvoyTown$Acts", "dropOldest", "()V"⟩, 5), (⟨"ConvoyTown", "isCar", "(I)Z"⟩, 8), (⟨"ConvoyTown$Cross", "inCycle", "(I)I"⟩, 7), (⟨"ConvoyTown$Run", "moveCars", "()V"⟩, 13), (⟨"ConvoyTown$Run", "isClosed", "()Z"⟩, 13), (⟨"ConvoyTown$Run", "moveCar", "(IZ)V"⟩, 13), (⟨"ConvoyTown$Run", "putForward", "(III)V"⟩, 13), (⟨"ConvoyTown", "isCrossing", "(I)Z"⟩, 8), (⟨"ConvoyTown", "isSection", "(I)Z"⟩, 8), (⟨"ConvoyTown$Facts", "clear", "()V"⟩, 10), (⟨"ConvoyTown$Facts", "seeStretch", "(LConvoyTown$Town;LConvoyTown$Run;)V"⟩, 10), (⟨"ConvoyTown$Facts", "seeHeld", "(LConvoyTown$Town;LConvoyTown$Run;)V"⟩, 10), (⟨"ConvoyTown$Run", "nextStir", "()I"⟩, 13), (⟨"ConvoyTown$Town", "canPass", "(I)Z"⟩, 15), (⟨"ConvoyTown$Trials", "beginBest", "(I)V"⟩, 8), (⟨"ConvoyTown$Trials", "keepIfSooner", "(III)V"⟩, 8)]
theorem lw_r2 : ∀ q ∈ lw_privs_2, lw_okq q := List.forall_mem_cons.mpr ⟨lw_p16, List.forall_mem_cons.mpr ⟨lw_p17, List.forall_mem_cons.mpr ⟨lw_p18, List.forall_mem_cons.mpr ⟨lw_p19, List.forall_mem_cons.mpr ⟨lw_p20, List.forall_mem_cons.mpr ⟨lw_p21, List.forall_mem_cons.mpr ⟨lw_p22, List.forall_mem_cons.mpr ⟨lw_p23, List.forall_mem_cons.mpr ⟨lw_p24, List.forall_mem_cons.mpr ⟨lw_p25, List.forall_mem_cons.mpr ⟨lw_p26, List.forall_mem_cons.mpr ⟨lw_p27, List.forall_mem_cons.mpr ⟨lw_p28, List.forall_mem_cons.mpr ⟨lw_p29, List.forall_mem_cons.mpr ⟨lw_p30, List.forall_mem_cons.mpr ⟨lw_p31, fun _ h => absurd h List.not_mem_nil⟩⟩⟩⟩⟩⟩⟩⟩⟩⟩⟩⟩⟩⟩⟩⟩
theorem lw_p32 : lw_okq (⟨"ConvoyTown$Trials", "soonerThanBest", "()I"⟩, 8) := ⟨⟨by decide +kernel, by decide +kernel⟩, List.mem_of_getElem? (i := 461) (by decide +kernel), List.mem_of_getElem? (i := 1030) (by decide +kernel), List.mem_of_getElem? (i := 1031) (by decide +kernel)⟩
theorem lw_p33 : lw_okq (⟨"ConvoyTown$Trials", "waitsByStart", "(LConvoyTown$Run;I)I"⟩, 8) := ⟨⟨by decide +kernel, by decide +kernel⟩, List.mem_of_getElem? (i := 461) (by decide +kernel), List.mem_of_getElem? (i := 1042) (by decide +kernel), List.mem_of_getElem? (i := 1043) (by decide +kernel)⟩
theorem lw_p34 : lw_okq (⟨"ConvoyTown$Trials", "isSmooth", "(LConvoyTown$Run;I)Z"⟩, 8) := ⟨⟨by decide +kernel, by decide +kernel⟩, List.mem_of_getElem? (i := 461) (by decide +kernel), List.mem_of_getElem? (i := 1068) (by decide +kernel), List.mem_of_getElem? (i := 1069) (by decide +kernel)⟩
theorem lw_p35 : lw_okq (⟨"ConvoyTown$Marshals", "findNext", "(II)Z"⟩, 3) := ⟨⟨by decide +kernel, by decide +kernel⟩, List.mem_of_getElem? (i := 502) (by decide +kernel), List.mem_of_getElem? (i := 1103) (by decide +kernel), List.mem_of_getElem? (i := 1104) (by decide +kernel)⟩
theorem lw_p36 : lw_okq (⟨"ConvoyTownModel", "plain", "()V"⟩, 28) := ⟨⟨by decide +kernel, by decide +kernel⟩, List.mem_of_getElem? (i := 1122) (by decide +kernel), List.mem_of_getElem? (i := 1128) (by decide +kernel), List.mem_of_getElem? (i := 1129) (by decide +kernel)⟩
theorem lw_p37 : lw_okq (⟨"ConvoyTownModel", "begins", "(I)V"⟩, 28) := ⟨⟨by decide +kernel, by decide +kernel⟩, List.mem_of_getElem? (i := 1122) (by decide +kernel), List.mem_of_getElem? (i := 1132) (by decide +kernel), List.mem_of_getElem? (i := 1133) (by decide +kernel)⟩
theorem lw_p38 : lw_okq (⟨"ConvoyTownModel", "laysSections", "()V"⟩, 28) := ⟨⟨by decide +kernel, by decide +kernel⟩, List.mem_of_getElem? (i := 1122) (by decide +kernel), List.mem_of_getElem? (i := 1136) (by decide +kernel), List.mem_of_getElem? (i := 1137) (by decide +kernel)⟩
theorem lw_p39 : lw_okq (⟨"ConvoyTownModel", "cars", "()I"⟩, 28) := ⟨⟨by decide +kernel, by decide +kernel⟩, List.mem_of_getElem? (i := 1122) (by decide +kernel), List.mem_of_getElem? (i := 1140) (by decide +kernel), List.mem_of_getElem? (i := 1141) (by decide +kernel)⟩
theorem lw_p40 : lw_okq (⟨"ConvoyTownModel", "tail", "(II)I"⟩, 28) := ⟨⟨by decide +kernel, by decide +kernel⟩, List.mem_of_getElem? (i := 1122) (by decide +kernel), List.mem_of_getElem? (i := 1144) (by decide +kernel), List.mem_of_getElem? (i := 1145) (by decide +kernel)⟩
theorem lw_p41 : lw_okq (⟨"ConvoyTownModel", "peek", "()I"⟩, 28) := ⟨⟨by decide +kernel, by decide +kernel⟩, List.mem_of_getElem? (i := 1122) (by decide +kernel), List.mem_of_getElem? (i := 1244) (by decide +kernel), List.mem_of_getElem? (i := 1245) (by decide +kernel)⟩
theorem lw_p42 : lw_okq (⟨"ConvoyTownModel", "lineRead", "()V"⟩, 28) := ⟨⟨by decide +kernel, by decide +kernel⟩, List.mem_of_getElem? (i := 1122) (by decide +kernel), List.mem_of_getElem? (i := 1248) (by decide +kernel), List.mem_of_getElem? (i := 1249) (by decide +kernel)⟩
theorem lw_p43 : lw_okq (⟨"ConvoyTownModel", "wordHere", "()I"⟩, 28) := ⟨⟨by decide +kernel, by decide +kernel⟩, List.mem_of_getElem? (i := 1122) (by decide +kernel), List.mem_of_getElem? (i := 1252) (by decide +kernel), List.mem_of_getElem? (i := 1253) (by decide +kernel)⟩
theorem lw_p44 : lw_okq (⟨"ConvoyTownModel", "fails", "(II)V"⟩, 28) := ⟨⟨by decide +kernel, by decide +kernel⟩, List.mem_of_getElem? (i := 1122) (by decide +kernel), List.mem_of_getElem? (i := 1264) (by decide +kernel), List.mem_of_getElem? (i := 1265) (by decide +kernel)⟩
theorem lw_p45 : lw_okq (⟨"ConvoyTownModel", "passesWord", "()V"⟩, 28) := ⟨⟨by decide +kernel, by decide +kernel⟩, List.mem_of_getElem? (i := 1122) (by decide +kernel), List.mem_of_getElem? (i := 1268) (by decide +kernel), List.mem_of_getElem? (i := 1269) (by decide +kernel)⟩
theorem lw_p46 : lw_okq (⟨"ConvoyTownModel", "numeral", "(II)I"⟩, 28) := ⟨⟨by decide +kernel, by decide +kernel⟩, List.mem_of_getElem? (i := 1122) (by decide +kernel), List.mem_of_getElem? (i := 1272) (by decide +kernel), List.mem_of_getElem? (i := 1273) (by decide +kernel)⟩
theorem lw_p47 : lw_okq (⟨"ConvoyTownModel", "crossRead", "(I)V"⟩, 28) := ⟨⟨by decide +kernel, by decide +kernel⟩, List.mem_of_getElem? (i := 1122) (by decide +kernel), List.mem_of_getElem? (i := 1281) (by decide +kernel), List.mem_of_getElem? (i := 1282) (by decide +kernel)⟩
def lw_privs_3 : List (MethodName × Nat) := [(⟨"ConvoyTown$Trials", "soonerThanBest", "()I"⟩, 8), (⟨"ConvoyTown$Trials", "waitsByStart", "(LConvoyTown$Run;I)I"⟩, 8), (⟨"ConvoyTown$Trials", "isSmooth", "(LConvoyTown$Run;I)Z"⟩, 8), (⟨"ConvoyTown$Marshals", "findNext", "(II)Z"⟩, 3), (⟨"ConvoyTownModel", "plain", "()V"⟩, 28), (⟨"ConvoyTownModel", "begins", "(I)V"⟩, 28), (⟨"ConvoyTownModel", "laysSections", "()V"⟩, 28), (⟨"ConvoyTownModel", "cars", "()I"⟩, 28), (⟨"ConvoyTownModel", "tail", "(II)I"⟩, 28), (⟨"ConvoyTownModel", "peek", "()I"⟩, 28), (⟨"ConvoyTownModel", "lineRead", "()V"⟩, 28), (⟨"ConvoyTownModel", "wordHere", "()I"⟩, 28), (⟨"ConvoyTownModel", "fails", "(II)V"⟩, 28), (⟨"ConvoyTownModel", "passesWord", "()V"⟩, 28), (⟨"ConvoyTownModel", "numeral", "(II)I"⟩, 28), (⟨"ConvoyTownModel", "crossRead", "(I)V"⟩, 28)]
theorem lw_r3 : ∀ q ∈ lw_privs_3, lw_okq q := List.forall_mem_cons.mpr ⟨lw_p32, List.forall_mem_cons.mpr ⟨lw_p33, List.forall_mem_cons.mpr ⟨lw_p34, List.forall_mem_cons.mpr ⟨lw_p35, List.forall_mem_cons.mpr ⟨lw_p36, List.forall_mem_cons.mpr ⟨lw_p37, List.forall_mem_cons.mpr ⟨lw_p38, List.forall_mem_cons.mpr ⟨lw_p39, List.forall_mem_cons.mpr ⟨lw_p40, List.forall_mem_cons.mpr ⟨lw_p41, List.forall_mem_cons.mpr ⟨lw_p42, List.forall_mem_cons.mpr ⟨lw_p43, List.forall_mem_cons.mpr ⟨lw_p44, List.forall_mem_cons.mpr ⟨lw_p45, List.forall_mem_cons.mpr ⟨lw_p46, List.forall_mem_cons.mpr ⟨lw_p47, fun _ h => absurd h List.not_mem_nil⟩⟩⟩⟩⟩⟩⟩⟩⟩⟩⟩⟩⟩⟩⟩⟩
theorem lw_p48 : lw_okq (⟨"ConvoyTownModel", "behind", "(III)I"⟩, 28) := ⟨⟨by decide +kernel, by decide +kernel⟩, List.mem_of_getElem? (i := 1122) (by decide +kernel), List.mem_of_getElem? (i := 1285) (by decide +kernel), List.mem_of_getElem? (i := 1286) (by decide +kernel)⟩
theorem lw_p49 : lw_okq (⟨"ConvoyTownModel", "mustWord", "(I)V"⟩, 28) := ⟨⟨by decide +kernel, by decide +kernel⟩, List.mem_of_getElem? (i := 1122) (by decide +kernel), List.mem_of_getElem? (i := 1289) (by decide +kernel), List.mem_of_getElem? (i := 1290) (by decide +kernel)⟩
theorem lw_p50 : lw_okq (⟨"ConvoyTownModel", "columnRead", "()V"⟩, 28) := ⟨⟨by decide +kernel, by decide +kernel⟩, List.mem_of_getElem? (i := 1122) (by decide +kernel), List.mem_of_getElem? (i := 1293) (by decide +kernel), List.mem_of_getElem? (i := 1294) (by decide +kernel)⟩
theorem lw_p51 : lw_okq (⟨"ConvoyTownModel", "splitRead", "()V"⟩, 28) := ⟨⟨by decide +kernel, by decide +kernel⟩, List.mem_of_getElem? (i := 1122) (by decide +kernel), List.mem_of_getElem? (i := 1297) (by decide +kernel), List.mem_of_getElem? (i := 1298) (by decide +kernel)⟩
theorem lw_p52 : lw_okq (⟨"ConvoyTownModel", "gatherRead", "(I)V"⟩, 28) := ⟨⟨by decide +kernel, by decide +kernel⟩, List.mem_of_getElem? (i := 1122) (by decide +kernel), List.mem_of_getElem? (i := 1301) (by decide +kernel), List.mem_of_getElem? (i := 1302) (by decide +kernel)⟩
theorem lw_p53 : lw_okq (⟨"ConvoyTownModel", "brokenRead", "(I)V"⟩, 28) := ⟨⟨by decide +kernel, by decide +kernel⟩, List.mem_of_getElem? (i := 1122) (by decide +kernel), List.mem_of_getElem? (i := 1305) (by decide +kernel), List.mem_of_getElem? (i := 1306) (by decide +kernel)⟩
theorem lw_p54 : lw_okq (⟨"ConvoyTownModel", "keeps", "()V"⟩, 28) := ⟨⟨by decide +kernel, by decide +kernel⟩, List.mem_of_getElem? (i := 1122) (by decide +kernel), List.mem_of_getElem? (i := 1317) (by decide +kernel), List.mem_of_getElem? (i := 1318) (by decide +kernel)⟩
theorem lw_p55 : lw_okq (⟨"ConvoyTownModel", "isCar", "(I)Z"⟩, 28) := ⟨⟨by decide +kernel, by decide +kernel⟩, List.mem_of_getElem? (i := 1122) (by decide +kernel), List.mem_of_getElem? (i := 1330) (by decide +kernel), List.mem_of_getElem? (i := 1331) (by decide +kernel)⟩
theorem lw_p56 : lw_okq (⟨"ConvoyTownModel", "breaks", "(III)V"⟩, 28) := ⟨⟨by decide +kernel, by decide +kernel⟩, List.mem_of_getElem? (i := 1122) (by decide +kernel), List.mem_of_getElem? (i := 1339) (by decide +kernel), List.mem_of_getElem? (i := 1340) (by decide +kernel)⟩
theorem lw_p57 : lw_okq (⟨"ConvoyTownModel", "tick", "(I)V"⟩, 28) := ⟨⟨by decide +kernel, by decide +kernel⟩, List.mem_of_getElem? (i := 1122) (by decide +kernel), List.mem_of_getElem? (i := 1356) (by decide +kernel), List.mem_of_getElem? (i := 1357) (by decide +kernel)⟩
theorem lw_p58 : lw_okq (⟨"ConvoyTownModel", "streets", "(II)V"⟩, 28) := ⟨⟨by decide +kernel, by decide +kernel⟩, List.mem_of_getElem? (i := 1122) (by decide +kernel), List.mem_of_getElem? (i := 1360) (by decide +kernel), List.mem_of_getElem? (i := 1361) (by decide +kernel)⟩
theorem lw_p59 : lw_okq (⟨"ConvoyTownModel", "holder", "(II)I"⟩, 28) := ⟨⟨by decide +kernel, by decide +kernel⟩, List.mem_of_getElem? (i := 1122) (by decide +kernel), List.mem_of_getElem? (i := 1364) (by decide +kernel), List.mem_of_getElem? (i := 1365) (by decide +kernel)⟩
theorem lw_p60 : lw_okq (⟨"ConvoyTownModel", "place", "(I)I"⟩, 28) := ⟨⟨by decide +kernel, by decide +kernel⟩, List.mem_of_getElem? (i := 1122) (by decide +kernel), List.mem_of_getElem? (i := 1368) (by decide +kernel), List.mem_of_getElem? (i := 1369) (by decide +kernel)⟩
theorem lw_p61 : lw_okq (⟨"ConvoyTownModel", "wide", "(I)I"⟩, 28) := ⟨⟨by decide +kernel, by decide +kernel⟩, List.mem_of_getElem? (i := 1122) (by decide +kernel), List.mem_of_getElem? (i := 1372) (by decide +kernel), List.mem_of_getElem? (i := 1373) (by decide +kernel)⟩
theorem lw_p62 : lw_okq (⟨"ConvoyTownModel", "isOpen", "(II)Z"⟩, 28) := ⟨⟨by decide +kernel, by decide +kernel⟩, List.mem_of_getElem? (i := 1122) (by decide +kernel), List.mem_of_getElem? (i := 1376) (by decide +kernel), List.mem_of_getElem? (i := 1377) (by decide +kernel)⟩
theorem lw_p63 : lw_okq (⟨"ConvoyTownModel", "isClosed", "(I)Z"⟩, 28) := ⟨⟨by decide +kernel, by decide +kernel⟩, List.mem_of_getElem? (i := 1122) (by decide +kernel), List.mem_of_getElem? (i := 1380) (by decide +kernel), List.mem_of_getElem? (i := 1381) (by decide +kernel)⟩
def lw_privs_4 : List (MethodName × Nat) := [(⟨"ConvoyTownModel", "behind", "(III)I"⟩, 28), (⟨"ConvoyTownModel", "mustWord", "(I)V"⟩, 28), (⟨"ConvoyTownModel", "columnRead", "()V"⟩, 28), (⟨"ConvoyTownModel", "splitRead", "()V"⟩, 28), (⟨"ConvoyTownModel", "gatherRead", "(I)V"⟩, 28), (⟨"ConvoyTownModel", "brokenRead", "(I)V"⟩, 28), (⟨"ConvoyTownModel", "keeps", "()V"⟩, 28), (⟨"ConvoyTownModel", "isCar", "(I)Z"⟩, 28), (⟨"ConvoyTownModel", "breaks", "(III)V"⟩, 28), (⟨"ConvoyTownModel", "tick", "(I)V"⟩, 28), (⟨"ConvoyTownModel", "streets", "(II)V"⟩, 28), (⟨"ConvoyTownModel", "holder", "(II)I"⟩, 28), (⟨"ConvoyTownModel", "place", "(I)I"⟩, 28), (⟨"ConvoyTownModel", "wide", "(I)I"⟩, 28), (⟨"ConvoyTownModel", "isOpen", "(II)Z"⟩, 28), (⟨"ConvoyTownModel", "isClosed", "(I)Z"⟩, 28)]
theorem lw_r4 : ∀ q ∈ lw_privs_4, lw_okq q := List.forall_mem_cons.mpr ⟨lw_p48, List.forall_mem_cons.mpr ⟨lw_p49, List.forall_mem_cons.mpr ⟨lw_p50, List.forall_mem_cons.mpr ⟨lw_p51, List.forall_mem_cons.mpr ⟨lw_p52, List.forall_mem_cons.mpr ⟨lw_p53, List.forall_mem_cons.mpr ⟨lw_p54, List.forall_mem_cons.mpr ⟨lw_p55, List.forall_mem_cons.mpr ⟨lw_p56, List.forall_mem_cons.mpr ⟨lw_p57, List.forall_mem_cons.mpr ⟨lw_p58, List.forall_mem_cons.mpr ⟨lw_p59, List.forall_mem_cons.mpr ⟨lw_p60, List.forall_mem_cons.mpr ⟨lw_p61, List.forall_mem_cons.mpr ⟨lw_p62, List.forall_mem_cons.mpr ⟨lw_p63, fun _ h => absurd h List.not_mem_nil⟩⟩⟩⟩⟩⟩⟩⟩⟩⟩⟩⟩⟩⟩⟩⟩
theorem lw_p64 : lw_okq (⟨"ConvoyTownModel", "isOut", "(II)Z"⟩, 28) := ⟨⟨by decide +kernel, by decide +kernel⟩, List.mem_of_getElem? (i := 1122) (by decide +kernel), List.mem_of_getElem? (i := 1384) (by decide +kernel), List.mem_of_getElem? (i := 1385) (by decide +kernel)⟩
theorem lw_p65 : lw_okq (⟨"ConvoyTownModel", "isBroken", "(II)Z"⟩, 28) := ⟨⟨by decide +kernel, by decide +kernel⟩, List.mem_of_getElem? (i := 1122) (by decide +kernel), List.mem_of_getElem? (i := 1388) (by decide +kernel), List.mem_of_getElem? (i := 1389) (by decide +kernel)⟩
theorem lw_p66 : lw_okq (⟨"ConvoyTownModel", "goes", "(IIIZ)V"⟩, 28) := ⟨⟨by decide +kernel, by decide +kernel⟩, List.mem_of_getElem? (i := 1122) (by decide +kernel), List.mem_of_getElem? (i := 1392) (by decide +kernel), List.mem_of_getElem? (i := 1393) (by decide +kernel)⟩
theorem lw_p67 : lw_okq (⟨"ConvoyTownModel", "bounds", "(II)V"⟩, 28) := ⟨⟨by decide +kernel, by decide +kernel⟩, List.mem_of_getElem? (i := 1122) (by decide +kernel), List.mem_of_getElem? (i := 1396) (by decide +kernel), List.mem_of_getElem? (i := 1397) (by decide +kernel)⟩
theorem lw_p68 : lw_okq (⟨"ConvoyTownModel", "mayEnter", "(III)Z"⟩, 28) := ⟨⟨by decide +kernel, by decide +kernel⟩, List.mem_of_getElem? (i := 1122) (by decide +kernel), List.mem_of_getElem? (i := 1400) (by decide +kernel), List.mem_of_getElem? (i := 1401) (by decide +kernel)⟩
theorem lw_p69 : lw_okq (⟨"ConvoyTownModel", "isAlways", "(I)Z"⟩, 28) := ⟨⟨by decide +kernel, by decide +kernel⟩, List.mem_of_getElem? (i := 1122) (by decide +kernel), List.mem_of_getElem? (i := 1404) (by decide +kernel), List.mem_of_getElem? (i := 1405) (by decide +kernel)⟩
theorem lw_p70 : lw_okq (⟨"ConvoyTownModel", "needOf", "(II)I"⟩, 28) := ⟨⟨by decide +kernel, by decide +kernel⟩, List.mem_of_getElem? (i := 1122) (by decide +kernel), List.mem_of_getElem? (i := 1408) (by decide +kernel), List.mem_of_getElem? (i := 1409) (by decide +kernel)⟩
theorem lw_p71 : lw_okq (⟨"ConvoyTownModel", "tells", "(III)V"⟩, 28) := ⟨⟨by decide +kernel, by decide +kernel⟩, List.mem_of_getElem? (i := 1122) (by decide +kernel), List.mem_of_getElem? (i := 1412) (by decide +kernel), List.mem_of_getElem? (i := 1413) (by decide +kernel)⟩
theorem lw_p72 : lw_okq (⟨"ConvoyTownModel", "happens", "(IIII)V"⟩, 28) := ⟨⟨by decide +kernel, by decide +kernel⟩, List.mem_of_getElem? (i := 1122) (by decide +kernel), List.mem_of_getElem? (i := 1416) (by decide +kernel), List.mem_of_getElem? (i := 1417) (by decide +kernel)⟩
theorem lw_p73 : lw_okq (⟨"ConvoyTownModel", "isCrossing", "(I)Z"⟩, 28) := ⟨⟨by decide +kernel, by decide +kernel⟩, List.mem_of_getElem? (i := 1122) (by decide +kernel), List.mem_of_getElem? (i := 1433) (by decide +kernel), List.mem_of_getElem? (i := 1434) (by decide +kernel)⟩
theorem lw_p74 : lw_okq (⟨"ConvoyTownModel", "isSection", "(I)Z"⟩, 28) := ⟨⟨by decide +kernel, by decide +kernel⟩, List.mem_of_getElem? (i := 1122) (by decide +kernel), List.mem_of_getElem? (i := 1441) (by decide +kernel), List.mem_of_getElem? (i := 1442) (by decide +kernel)⟩
theorem lw_p75 : lw_okq (⟨"ConvoyTownModel", "wholeRun", "()I"⟩, 28) := ⟨⟨by decide +kernel, by decide +kernel⟩, List.mem_of_getElem? (i := 1122) (by decide +kernel), List.mem_of_getElem? (i := 1473) (by decide +kernel), List.mem_of_getElem? (i := 1474) (by decide +kernel)⟩
theorem lw_p76 : lw_okq (⟨"ConvoyTownModel", "goesOn", "()Z"⟩, 28) := ⟨⟨by decide +kernel, by decide +kernel⟩, List.mem_of_getElem? (i := 1122) (by decide +kernel), List.mem_of_getElem? (i := 1477) (by decide +kernel), List.mem_of_getElem? (i := 1478) (by decide +kernel)⟩
theorem lw_p77 : lw_okq (⟨"ConvoyTownModel", "endNow", "()I"⟩, 28) := ⟨⟨by decide +kernel, by decide +kernel⟩, List.mem_of_getElem? (i := 1122) (by decide +kernel), List.mem_of_getElem? (i := 1481) (by decide +kernel), List.mem_of_getElem? (i := 1482) (by decide +kernel)⟩
theorem lw_p78 : lw_okq (⟨"ConvoyTownModel", "runsFor", "(I)V"⟩, 28) := ⟨⟨by decide +kernel, by decide +kernel⟩, List.mem_of_getElem? (i := 1122) (by decide +kernel), List.mem_of_getElem? (i := 1489) (by decide +kernel), List.mem_of_getElem? (i := 1490) (by decide +kernel)⟩
theorem lw_p79 : lw_okq (⟨"ConvoyTownModel", "waitsOf", "(I)I"⟩, 28) := ⟨⟨by decide +kernel, by decide +kernel⟩, List.mem_of_getElem? (i := 1122) (by decide +kernel), List.mem_of_getElem? (i := 1497) (by decide +kernel), List.mem_of_getElem? (i := 1498) (by decide +kernel)⟩
def lw_privs_5 : List (MethodName × Nat) := [(⟨"ConvoyTownModel", "isOut", "(II)Z"⟩, 28), (⟨"ConvoyTownModel", "isBroken", "(II)Z"⟩, 28), (⟨"ConvoyTownModel", "goes", "(IIIZ)V"⟩, 28), (⟨"ConvoyTownModel", "bounds", "(II)V"⟩, 28), (⟨"ConvoyTownModel", "mayEnter", "(III)Z"⟩, 28), (⟨"ConvoyTownModel", "isAlways", "(I)Z"⟩, 28), (⟨"ConvoyTownModel", "needOf", "(II)I"⟩, 28), (⟨"ConvoyTownModel", "tells", "(III)V"⟩, 28), (⟨"ConvoyTownModel", "happens", "(IIII)V"⟩, 28), (⟨"ConvoyTownModel", "isCrossing", "(I)Z"⟩, 28), (⟨"ConvoyTownModel", "isSection", "(I)Z"⟩, 28), (⟨"ConvoyTownModel", "wholeRun", "()I"⟩, 28), (⟨"ConvoyTownModel", "goesOn", "()Z"⟩, 28), (⟨"ConvoyTownModel", "endNow", "()I"⟩, 28), (⟨"ConvoyTownModel", "runsFor", "(I)V"⟩, 28), (⟨"ConvoyTownModel", "waitsOf", "(I)I"⟩, 28)]
theorem lw_r5 : ∀ q ∈ lw_privs_5, lw_okq q := List.forall_mem_cons.mpr ⟨lw_p64, List.forall_mem_cons.mpr ⟨lw_p65, List.forall_mem_cons.mpr ⟨lw_p66, List.forall_mem_cons.mpr ⟨lw_p67, List.forall_mem_cons.mpr ⟨lw_p68, List.forall_mem_cons.mpr ⟨lw_p69, List.forall_mem_cons.mpr ⟨lw_p70, List.forall_mem_cons.mpr ⟨lw_p71, List.forall_mem_cons.mpr ⟨lw_p72, List.forall_mem_cons.mpr ⟨lw_p73, List.forall_mem_cons.mpr ⟨lw_p74, List.forall_mem_cons.mpr ⟨lw_p75, List.forall_mem_cons.mpr ⟨lw_p76, List.forall_mem_cons.mpr ⟨lw_p77, List.forall_mem_cons.mpr ⟨lw_p78, List.forall_mem_cons.mpr ⟨lw_p79, fun _ h => absurd h List.not_mem_nil⟩⟩⟩⟩⟩⟩⟩⟩⟩⟩⟩⟩⟩⟩⟩⟩
theorem lw_p80 : lw_okq (⟨"ConvoyTownModel", "canBeOne", "(II)Z"⟩, 28) := ⟨⟨by decide +kernel, by decide +kernel⟩, List.mem_of_getElem? (i := 1122) (by decide +kernel), List.mem_of_getElem? (i := 1509) (by decide +kernel), List.mem_of_getElem? (i := 1510) (by decide +kernel)⟩
theorem lw_p81 : lw_okq (⟨"ConvoyTownModel", "putsAside", "()V"⟩, 28) := ⟨⟨by decide +kernel, by decide +kernel⟩, List.mem_of_getElem? (i := 1122) (by decide +kernel), List.mem_of_getElem? (i := 1518) (by decide +kernel), List.mem_of_getElem? (i := 1519) (by decide +kernel)⟩
theorem lw_p82 : lw_okq (⟨"ConvoyTownModel", "endBy", "(II)I"⟩, 28) := ⟨⟨by decide +kernel, by decide +kernel⟩, List.mem_of_getElem? (i := 1122) (by decide +kernel), List.mem_of_getElem? (i := 1522) (by decide +kernel), List.mem_of_getElem? (i := 1523) (by decide +kernel)⟩
theorem lw_p83 : lw_okq (⟨"ConvoyTownModel", "comesBack", "()V"⟩, 28) := ⟨⟨by decide +kernel, by decide +kernel⟩, List.mem_of_getElem? (i := 1122) (by decide +kernel), List.mem_of_getElem? (i := 1526) (by decide +kernel), List.mem_of_getElem? (i := 1527) (by decide +kernel)⟩
theorem lw_p84 : lw_okq (⟨"ConvoyTownModel", "isHeldAtStreet", "()Z"⟩, 28) := ⟨⟨by decide +kernel, by decide +kernel⟩, List.mem_of_getElem? (i := 1122) (by decide +kernel), List.mem_of_getElem? (i := 1539) (by decide +kernel), List.mem_of_getElem? (i := 1540) (by decide +kernel)⟩
theorem lw_p85 : lw_okq (⟨"ConvoyTownModel", "findsNext", "(II)Z"⟩, 28) := ⟨⟨by decide +kernel, by decide +kernel⟩, List.mem_of_getElem? (i := 1122) (by decide +kernel), List.mem_of_getElem? (i := 1561) (by decide +kernel), List.mem_of_getElem? (i := 1562) (by decide +kernel)⟩
def lw_privs_6 : List (MethodName × Nat) := [(⟨"ConvoyTownModel", "canBeOne", "(II)Z"⟩, 28), (⟨"ConvoyTownModel", "putsAside", "()V"⟩, 28), (⟨"ConvoyTownModel", "endBy", "(II)I"⟩, 28), (⟨"ConvoyTownModel", "comesBack", "()V"⟩, 28), (⟨"ConvoyTownModel", "isHeldAtStreet", "()Z"⟩, 28), (⟨"ConvoyTownModel", "findsNext", "(II)Z"⟩, 28)]
theorem lw_r6 : ∀ q ∈ lw_privs_6, lw_okq q := List.forall_mem_cons.mpr ⟨lw_p80, List.forall_mem_cons.mpr ⟨lw_p81, List.forall_mem_cons.mpr ⟨lw_p82, List.forall_mem_cons.mpr ⟨lw_p83, List.forall_mem_cons.mpr ⟨lw_p84, List.forall_mem_cons.mpr ⟨lw_p85, fun _ h => absurd h List.not_mem_nil⟩⟩⟩⟩⟩⟩
def lw_privs : List (MethodName × Nat) := lw_privs_1 ++ (lw_privs_2 ++ (lw_privs_3 ++ (lw_privs_4 ++ (lw_privs_5 ++ (lw_privs_6)))))
def lw_tbl : List Cond := k2_sels lw_privs ++ tables_1
theorem lw_privs_ok : ∀ q ∈ lw_privs, lw_okq q := by
  show ∀ q ∈ lw_privs_1 ++ (lw_privs_2 ++ (lw_privs_3 ++ (lw_privs_4 ++ (lw_privs_5 ++ (lw_privs_6))))), lw_okq q
  exact List.forall_mem_append.mpr ⟨lw_r1, List.forall_mem_append.mpr ⟨lw_r2, List.forall_mem_append.mpr ⟨lw_r3, List.forall_mem_append.mpr ⟨lw_r4, List.forall_mem_append.mpr ⟨lw_r5, lw_r6⟩⟩⟩⟩⟩

def RX0 : String := "ConvoyTown$Acts"
def TX0 : u_T := fun k => match k with
  | 0 => ("ConvoyTown$Acts", "count", "I", false)
  | 1 => ("ConvoyTown$Acts", "kind", "[I", true)
  | 2 => ("ConvoyTown$Acts", "first", "[I", true)
  | 3 => ("ConvoyTown$Acts", "second", "[I", true)
  | _ => ("ConvoyTown$Acts", "third", "[I", true)
def tyX0 : Nat → FieldType := fun k => match k with
  | 0 => .int
  | 1 => .array .int
  | 2 => .array .int
  | 3 => .array .int
  | _ => .array .int
abbrev wsX00 : List Cond := u_ws RX0 TX0 5
theorem nmX0 : ∀ a, a < 5 → ∀ b, b < 5 → a ≠ b → (TX0 a).2.1 ≠ (TX0 b).2.1 := by decide +kernel
theorem tyX0_ok : ∀ k, k < 5 → parseFieldDescriptor (TX0 k).2.2.1 = some (tyX0 k) := by decide +kernel
abbrev cX0_init : ByteArray := prog_2_method_1_code
def yX0_init : MethodName := ⟨RX0, "<init>", "()V"⟩
abbrev cX0_forget : ByteArray := prog_2_method_2_code
def yX0_forget : MethodName := ⟨RX0, "forget", "()V"⟩
abbrev cX0_keep : ByteArray := prog_2_method_3_code
def yX0_keep : MethodName := ⟨RX0, "keep", "(IIII)V"⟩
abbrev cX0_dropOldest : ByteArray := prog_2_method_4_code
def yX0_dropOldest : MethodName := ⟨RX0, "dropOldest", "()V"⟩
abbrev cX0_takeBack : ByteArray := prog_2_method_5_code
def yX0_takeBack : MethodName := ⟨RX0, "takeBack", "(LConvoyTown$Town;)V"⟩
def RX1 : String := "ConvoyTown$Cross"
def TX1 : u_T := fun k => match k with
  | 0 => ("ConvoyTown$Cross", "place", "I", false)
  | 1 => ("ConvoyTown$Cross", "end", "I", false)
  | 2 => ("ConvoyTown$Cross", "cycle", "I", false)
  | 3 => ("ConvoyTown$Cross", "from", "I", false)
  | 4 => ("ConvoyTown$Cross", "to", "I", false)
  | 5 => ("ConvoyTown$Cross", "every", "I", false)
  | _ => ("ConvoyTown$Cross", "serve", "I", false)
def tyX1 : Nat → FieldType := fun k => match k with
  | 0 => .int
  | 1 => .int
  | 2 => .int
  | 3 => .int
  | 4 => .int
  | 5 => .int
  | _ => .int
abbrev wsX10 : List Cond := u_ws RX1 TX1 7
theorem nmX1 : ∀ a, a < 7 → ∀ b, b < 7 → a ≠ b → (TX1 a).2.1 ≠ (TX1 b).2.1 := by decide +kernel
theorem tyX1_ok : ∀ k, k < 7 → parseFieldDescriptor (TX1 k).2.2.1 = some (tyX1 k) := by decide +kernel
abbrev cX1_init : ByteArray := prog_3_method_1_code
def yX1_init : MethodName := ⟨RX1, "<init>", "()V"⟩
abbrev cX1_take : ByteArray := prog_3_method_2_code
def yX1_take : MethodName := ⟨RX1, "take", "(LConvoyTown$Cross;)V"⟩
abbrev cX1_isAlwaysOpen : ByteArray := prog_3_method_3_code
def yX1_isAlwaysOpen : MethodName := ⟨RX1, "isAlwaysOpen", "()Z"⟩
abbrev cX1_inCycle : ByteArray := prog_3_method_4_code
def yX1_inCycle : MethodName := ⟨RX1, "inCycle", "(I)I"⟩
abbrev cX1_isOpen : ByteArray := prog_3_method_5_code
def yX1_isOpen : MethodName := ⟨RX1, "isOpen", "(I)Z"⟩
abbrev cX1_everLets : ByteArray := prog_3_method_6_code
def yX1_everLets : MethodName := ⟨RX1, "everLets", "(I)Z"⟩
abbrev cX1_lets : ByteArray := prog_3_method_7_code
def yX1_lets : MethodName := ⟨RX1, "lets", "(II)Z"⟩
abbrev cX1_nextEntry : ByteArray := prog_3_method_8_code
def yX1_nextEntry : MethodName := ⟨RX1, "nextEntry", "(II)I"⟩
abbrev cX1_windows : ByteArray := prog_3_method_9_code
def yX1_windows : MethodName := ⟨RX1, "windows", "()I"⟩
abbrev cX1_windowBegins : ByteArray := prog_3_method_10_code
def yX1_windowBegins : MethodName := ⟨RX1, "windowBegins", "(I)I"⟩
abbrev cX1_windowTicks : ByteArray := prog_3_method_11_code
def yX1_windowTicks : MethodName := ⟨RX1, "windowTicks", "(I)I"⟩
def RX2 : String := "ConvoyTown$Events"
def TX2 : u_T := fun k => match k with
  | 0 => ("ConvoyTown$Events", "count", "I", false)
  | 1 => ("ConvoyTown$Events", "kind", "[I", true)
  | 2 => ("ConvoyTown$Events", "tick", "[I", true)
  | 3 => ("ConvoyTown$Events", "crossing", "[I", true)
  | _ => ("ConvoyTown$Events", "who", "[I", true)
def tyX2 : Nat → FieldType := fun k => match k with
  | 0 => .int
  | 1 => .array .int
  | 2 => .array .int
  | 3 => .array .int
  | _ => .array .int
abbrev wsX20 : List Cond := u_ws RX2 TX2 5
theorem nmX2 : ∀ a, a < 5 → ∀ b, b < 5 → a ≠ b → (TX2 a).2.1 ≠ (TX2 b).2.1 := by decide +kernel
theorem tyX2_ok : ∀ k, k < 5 → parseFieldDescriptor (TX2 k).2.2.1 = some (tyX2 k) := by decide +kernel
abbrev cX2_init : ByteArray := prog_4_method_1_code
def yX2_init : MethodName := ⟨RX2, "<init>", "(I)V"⟩
abbrev cX2_keep : ByteArray := prog_4_method_2_code
def yX2_keep : MethodName := ⟨RX2, "keep", "(IIII)V"⟩
def RX3 : String := "ConvoyTown$Facts"
def TX3 : u_T := fun k => match k with
  | 0 => ("ConvoyTown$Facts", "known", "Z", false)
  | 1 => ("ConvoyTown$Facts", "end", "I", false)
  | 2 => ("ConvoyTown$Facts", "waits", "I", false)
  | 3 => ("ConvoyTown$Facts", "stretchMost", "I", false)
  | 4 => ("ConvoyTown$Facts", "stretchAt", "I", false)
  | 5 => ("ConvoyTown$Facts", "heldTicks", "[I", true)
  | 6 => ("ConvoyTown$Facts", "longestHeld", "[I", true)
  | 7 => ("ConvoyTown$Facts", "heldNow", "[I", true)
  | 8 => ("ConvoyTown$Facts", "firstHeld", "[I", true)
  | _ => ("ConvoyTown$Facts", "lastHeld", "[I", true)
def tyX3 : Nat → FieldType := fun k => match k with
  | 0 => .boolean
  | 1 => .int
  | 2 => .int
  | 3 => .int
  | 4 => .int
  | 5 => .array .int
  | 6 => .array .int
  | 7 => .array .int
  | 8 => .array .int
  | _ => .array .int
abbrev wsX30 : List Cond := u_ws RX3 TX3 10
theorem nmX3 : ∀ a, a < 10 → ∀ b, b < 10 → a ≠ b → (TX3 a).2.1 ≠ (TX3 b).2.1 := by decide +kernel
theorem tyX3_ok : ∀ k, k < 10 → parseFieldDescriptor (TX3 k).2.2.1 = some (tyX3 k) := by decide +kernel
abbrev cX3_init : ByteArray := prog_5_method_1_code
def yX3_init : MethodName := ⟨RX3, "<init>", "()V"⟩
abbrev cX3_forget : ByteArray := prog_5_method_2_code
def yX3_forget : MethodName := ⟨RX3, "forget", "()V"⟩
abbrev cX3_find : ByteArray := prog_5_method_3_code
def yX3_find : MethodName := ⟨RX3, "find", "(LConvoyTown$Town;LConvoyTown$Run;)V"⟩
abbrev cX3_clear : ByteArray := prog_5_method_4_code
def yX3_clear : MethodName := ⟨RX3, "clear", "()V"⟩
abbrev cX3_seeStretch : ByteArray := prog_5_method_5_code
def yX3_seeStretch : MethodName := ⟨RX3, "seeStretch", "(LConvoyTown$Town;LConvoyTown$Run;)V"⟩
abbrev cX3_seeHeld : ByteArray := prog_5_method_6_code
def yX3_seeHeld : MethodName := ⟨RX3, "seeHeld", "(LConvoyTown$Town;LConvoyTown$Run;)V"⟩
def RX4 : String := "ConvoyTown$Marshals"
def TX4 : u_T := fun k => match k with
  | 0 => ("ConvoyTown$Marshals", "canReach", "[I", true)
  | 1 => ("ConvoyTown$Marshals", "comesFrom", "[I", true)
  | _ => ("ConvoyTown$Marshals", "looked", "I", false)
def tyX4 : Nat → FieldType := fun k => match k with
  | 0 => .array .int
  | 1 => .array .int
  | _ => .int
abbrev wsX40 : List Cond := u_ws RX4 TX4 3
theorem nmX4 : ∀ a, a < 3 → ∀ b, b < 3 → a ≠ b → (TX4 a).2.1 ≠ (TX4 b).2.1 := by decide +kernel
theorem tyX4_ok : ∀ k, k < 3 → parseFieldDescriptor (TX4 k).2.2.1 = some (tyX4 k) := by decide +kernel
abbrev cX4_init : ByteArray := prog_6_method_1_code
def yX4_init : MethodName := ⟨RX4, "<init>", "()V"⟩
abbrev cX4_fewestFor : ByteArray := prog_6_method_2_code
def yX4_fewestFor : MethodName := ⟨RX4, "fewestFor", "(LConvoyTown$Town;LConvoyTown$Facts;I)I"⟩
abbrev cX4_findNext : ByteArray := prog_6_method_3_code
def yX4_findNext : MethodName := ⟨RX4, "findNext", "(II)Z"⟩
def RX5 : String := "ConvoyTown$Reader"
def TX5 : u_T := fun k => match k with
  | 0 => ("ConvoyTown$Reader", "taped", "I", false)
  | 1 => ("ConvoyTown$Reader", "fault", "I", false)
  | 2 => ("ConvoyTown$Reader", "faultPlace", "I", false)
  | 3 => ("ConvoyTown$Reader", "lines", "I", false)
  | 4 => ("ConvoyTown$Reader", "tape", "[I", true)
  | 5 => ("ConvoyTown$Reader", "town", "LConvoyTown$Town;", false)
  | 6 => ("ConvoyTown$Reader", "size", "I", false)
  | 7 => ("ConvoyTown$Reader", "seen", "I", false)
  | 8 => ("ConvoyTown$Reader", "kind", "I", false)
  | 9 => ("ConvoyTown$Reader", "place", "I", false)
  | 10 => ("ConvoyTown$Reader", "value", "I", false)
  | _ => ("ConvoyTown$Reader", "at", "I", false)
def tyX5 : Nat → FieldType := fun k => match k with
  | 0 => .int
  | 1 => .int
  | 2 => .int
  | 3 => .int
  | 4 => .array .int
  | 5 => .object "ConvoyTown$Town"
  | 6 => .int
  | 7 => .int
  | 8 => .int
  | 9 => .int
  | 10 => .int
  | _ => .int
abbrev wsX50 : List Cond := u_ws RX5 TX5 12
theorem nmX5 : ∀ a, a < 12 → ∀ b, b < 12 → a ≠ b → (TX5 a).2.1 ≠ (TX5 b).2.1 := by decide +kernel
theorem tyX5_ok : ∀ k, k < 12 → parseFieldDescriptor (TX5 k).2.2.1 = some (tyX5 k) := by decide +kernel
abbrev cX5_init : ByteArray := prog_7_method_1_code
def yX5_init : MethodName := ⟨RX5, "<init>", "()V"⟩
abbrev cX5_putFour : ByteArray := prog_7_method_2_code
def yX5_putFour : MethodName := ⟨RX5, "putFour", "(I)V"⟩
abbrev cX5_read : ByteArray := prog_7_method_3_code
def yX5_read : MethodName := ⟨RX5, "read", "(I)V"⟩
abbrev cX5_handOver : ByteArray := prog_7_method_4_code
def yX5_handOver : MethodName := ⟨RX5, "handOver", "(LConvoyTown$Town;)LConvoyTown$Town;"⟩
abbrev cX5_fail : ByteArray := prog_7_method_5_code
def yX5_fail : MethodName := ⟨RX5, "fail", "(II)V"⟩
abbrev cX5_step : ByteArray := prog_7_method_6_code
def yX5_step : MethodName := ⟨RX5, "step", "()V"⟩
abbrev cX5_isDigit : ByteArray := prog_7_method_7_code
def yX5_isDigit : MethodName := ⟨RX5, "isDigit", "(I)Z"⟩
abbrev cX5_isLetter : ByteArray := prog_7_method_8_code
def yX5_isLetter : MethodName := ⟨RX5, "isLetter", "(I)Z"⟩
abbrev cX5_isWord : ByteArray := prog_7_method_9_code
def yX5_isWord : MethodName := ⟨RX5, "isWord", "(Ljava/lang/String;)Z"⟩
abbrev cX5_takeWord : ByteArray := prog_7_method_10_code
def yX5_takeWord : MethodName := ⟨RX5, "takeWord", "(Ljava/lang/String;)V"⟩
abbrev cX5_takeNumber : ByteArray := prog_7_method_11_code
def yX5_takeNumber : MethodName := ⟨RX5, "takeNumber", "(II)I"⟩
abbrev cX5_takeLineEnd : ByteArray := prog_7_method_12_code
def yX5_takeLineEnd : MethodName := ⟨RX5, "takeLineEnd", "()V"⟩
abbrev cX5_readLine : ByteArray := prog_7_method_13_code
def yX5_readLine : MethodName := ⟨RX5, "readLine", "()V"⟩
abbrev cX5_takeOnce : ByteArray := prog_7_method_14_code
def yX5_takeOnce : MethodName := ⟨RX5, "takeOnce", "(III)I"⟩
abbrev cX5_readOther : ByteArray := prog_7_method_15_code
def yX5_readOther : MethodName := ⟨RX5, "readOther", "()V"⟩
abbrev cX5_readCross : ByteArray := prog_7_method_16_code
def yX5_readCross : MethodName := ⟨RX5, "readCross", "()V"⟩
abbrev cX5_readColumn : ByteArray := prog_7_method_17_code
def yX5_readColumn : MethodName := ⟨RX5, "readColumn", "()V"⟩
abbrev cX5_readSplit : ByteArray := prog_7_method_18_code
def yX5_readSplit : MethodName := ⟨RX5, "readSplit", "()V"⟩
abbrev cX5_readGather : ByteArray := prog_7_method_19_code
def yX5_readGather : MethodName := ⟨RX5, "readGather", "()V"⟩
abbrev cX5_readBroken : ByteArray := prog_7_method_20_code
def yX5_readBroken : MethodName := ⟨RX5, "readBroken", "()V"⟩
def RX6 : String := "ConvoyTown$Run"
def TX6 : u_T := fun k => match k with
  | 0 => ("ConvoyTown$Run", "town", "LConvoyTown$Town;", false)
  | 1 => ("ConvoyTown$Run", "sections", "LConvoyTown$Sections;", true)
  | 2 => ("ConvoyTown$Run", "tick", "I", false)
  | 3 => ("ConvoyTown$Run", "out", "I", false)
  | 4 => ("ConvoyTown$Run", "moved", "Z", false)
  | 5 => ("ConvoyTown$Run", "stopped", "Z", false)
  | 6 => ("ConvoyTown$Run", "front", "[I", true)
  | 7 => ("ConvoyTown$Run", "why", "[I", true)
  | 8 => ("ConvoyTown$Run", "entered", "[I", true)
  | 9 => ("ConvoyTown$Run", "left", "[I", true)
  | 10 => ("ConvoyTown$Run", "holders", "[I", true)
  | 11 => ("ConvoyTown$Run", "street", "[LConvoyTown$Street;", true)
  | _ => ("ConvoyTown$Run", "events", "LConvoyTown$Events;", true)
def tyX6 : Nat → FieldType := fun k => match k with
  | 0 => .object "ConvoyTown$Town"
  | 1 => .object "ConvoyTown$Sections"
  | 2 => .int
  | 3 => .int
  | 4 => .boolean
  | 5 => .boolean
  | 6 => .array .int
  | 7 => .array .int
  | 8 => .array .int
  | 9 => .array .int
  | 10 => .array .int
  | 11 => .array (.object "ConvoyTown$Street")
  | _ => .object "ConvoyTown$Events"
abbrev wsX60 : List Cond := u_ws RX6 TX6 13
theorem nmX6 : ∀ a, a < 13 → ∀ b, b < 13 → a ≠ b → (TX6 a).2.1 ≠ (TX6 b).2.1 := by decide +kernel
theorem tyX6_ok : ∀ k, k < 13 → parseFieldDescriptor (TX6 k).2.2.1 = some (tyX6 k) := by decide +kernel
abbrev cX6_init : ByteArray := prog_8_method_1_code
def yX6_init : MethodName := ⟨RX6, "<init>", "(LConvoyTown$Town;I)V"⟩
abbrev cX6_begin : ByteArray := prog_8_method_2_code
def yX6_begin : MethodName := ⟨RX6, "begin", "(LConvoyTown$Town;)V"⟩
abbrev cX6_tailOf : ByteArray := prog_8_method_3_code
def yX6_tailOf : MethodName := ⟨RX6, "tailOf", "(I)I"⟩
abbrev cX6_isHeld : ByteArray := prog_8_method_4_code
def yX6_isHeld : MethodName := ⟨RX6, "isHeld", "(I)Z"⟩
abbrev cX6_firstHolder : ByteArray := prog_8_method_5_code
def yX6_firstHolder : MethodName := ⟨RX6, "firstHolder", "(I)I"⟩
abbrev cX6_allWaits : ByteArray := prog_8_method_6_code
def yX6_allWaits : MethodName := ⟨RX6, "allWaits", "()I"⟩
abbrev cX6_goOn : ByteArray := prog_8_method_7_code
def yX6_goOn : MethodName := ⟨RX6, "goOn", "()V"⟩
abbrev cX6_moveOn : ByteArray := prog_8_method_8_code
def yX6_moveOn : MethodName := ⟨RX6, "moveOn", "()V"⟩
abbrev cX6_goOnQuietly : ByteArray := prog_8_method_9_code
def yX6_goOnQuietly : MethodName := ⟨RX6, "goOnQuietly", "(I)V"⟩
abbrev cX6_nextStir : ByteArray := prog_8_method_10_code
def yX6_nextStir : MethodName := ⟨RX6, "nextStir", "()I"⟩
abbrev cX6_runToEnd : ByteArray := prog_8_method_11_code
def yX6_runToEnd : MethodName := ⟨RX6, "runToEnd", "(LConvoyTown$Town;I)I"⟩
abbrev cX6_isTooLate : ByteArray := prog_8_method_12_code
def yX6_isTooLate : MethodName := ⟨RX6, "isTooLate", "(I)Z"⟩
abbrev cX6_isHopeless : ByteArray := prog_8_method_13_code
def yX6_isHopeless : MethodName := ⟨RX6, "isHopeless", "()Z"⟩
abbrev cX6_moveCars : ByteArray := prog_8_method_14_code
def yX6_moveCars : MethodName := ⟨RX6, "moveCars", "()V"⟩
abbrev cX6_isClosed : ByteArray := prog_8_method_15_code
def yX6_isClosed : MethodName := ⟨RX6, "isClosed", "()Z"⟩
abbrev cX6_moveCar : ByteArray := prog_8_method_16_code
def yX6_moveCar : MethodName := ⟨RX6, "moveCar", "(IZ)V"⟩
abbrev cX6_putForward : ByteArray := prog_8_method_17_code
def yX6_putForward : MethodName := ⟨RX6, "putForward", "(III)V"⟩
def RX7 : String := "ConvoyTown$Sections"
def TX7 : u_T := fun k => match k with
  | 0 => ("ConvoyTown$Sections", "count", "I", false)
  | 1 => ("ConvoyTown$Sections", "lead", "[I", true)
  | 2 => ("ConvoyTown$Sections", "last", "[I", true)
  | 3 => ("ConvoyTown$Sections", "extent", "[I", true)
  | 4 => ("ConvoyTown$Sections", "of", "[I", true)
  | _ => ("ConvoyTown$Sections", "need", "[I", true)
def tyX7 : Nat → FieldType := fun k => match k with
  | 0 => .int
  | 1 => .array .int
  | 2 => .array .int
  | 3 => .array .int
  | 4 => .array .int
  | _ => .array .int
abbrev wsX70 : List Cond := u_ws RX7 TX7 6
theorem nmX7 : ∀ a, a < 6 → ∀ b, b < 6 → a ≠ b → (TX7 a).2.1 ≠ (TX7 b).2.1 := by decide +kernel
theorem tyX7_ok : ∀ k, k < 6 → parseFieldDescriptor (TX7 k).2.2.1 = some (tyX7 k) := by decide +kernel
abbrev cX7_init : ByteArray := prog_9_method_1_code
def yX7_init : MethodName := ⟨RX7, "<init>", "()V"⟩
abbrev cX7_layOut : ByteArray := prog_9_method_2_code
def yX7_layOut : MethodName := ⟨RX7, "layOut", "(LConvoyTown$Town;)V"⟩
abbrev cX7_needAt : ByteArray := prog_9_method_3_code
def yX7_needAt : MethodName := ⟨RX7, "needAt", "(II)I"⟩
def RX8 : String := "ConvoyTown$Street"
def TX8 : u_T := fun k => match k with
  | 0 => ("ConvoyTown$Street", "waiting", "I", false)
  | 1 => ("ConvoyTown$Street", "waits", "I", false)
  | 2 => ("ConvoyTown$Street", "served", "I", false)
  | 3 => ("ConvoyTown$Street", "most", "I", false)
  | 4 => ("ConvoyTown$Street", "heldTicks", "I", false)
  | 5 => ("ConvoyTown$Street", "overrun", "I", false)
  | _ => ("ConvoyTown$Street", "longestWait", "I", false)
def tyX8 : Nat → FieldType := fun k => match k with
  | 0 => .int
  | 1 => .int
  | 2 => .int
  | 3 => .int
  | 4 => .int
  | 5 => .int
  | _ => .int
abbrev wsX80 : List Cond := u_ws RX8 TX8 7
theorem nmX8 : ∀ a, a < 7 → ∀ b, b < 7 → a ≠ b → (TX8 a).2.1 ≠ (TX8 b).2.1 := by decide +kernel
theorem tyX8_ok : ∀ k, k < 7 → parseFieldDescriptor (TX8 k).2.2.1 = some (tyX8 k) := by decide +kernel
abbrev cX8_init : ByteArray := prog_10_method_1_code
def yX8_init : MethodName := ⟨RX8, "<init>", "()V"⟩
abbrev cX8_clear : ByteArray := prog_10_method_2_code
def yX8_clear : MethodName := ⟨RX8, "clear", "()V"⟩
abbrev cX8_goOn : ByteArray := prog_10_method_3_code
def yX8_goOn : MethodName := ⟨RX8, "goOn", "(LConvoyTown$Cross;IZ)V"⟩
def RX9 : String := "ConvoyTown$Town"
def TX9 : u_T := fun k => match k with
  | 0 => ("ConvoyTown$Town", "length", "I", false)
  | 1 => ("ConvoyTown$Town", "speed", "I", false)
  | 2 => ("ConvoyTown$Town", "gap", "I", false)
  | 3 => ("ConvoyTown$Town", "start", "I", false)
  | 4 => ("ConvoyTown$Town", "crossings", "I", false)
  | 5 => ("ConvoyTown$Town", "cross", "[LConvoyTown$Cross;", true)
  | 6 => ("ConvoyTown$Town", "cars", "I", false)
  | 7 => ("ConvoyTown$Town", "size", "[I", true)
  | 8 => ("ConvoyTown$Town", "splits", "I", false)
  | 9 => ("ConvoyTown$Town", "gathers", "I", false)
  | 10 => ("ConvoyTown$Town", "gatherAt", "[I", true)
  | 11 => ("ConvoyTown$Town", "brokens", "I", false)
  | 12 => ("ConvoyTown$Town", "brokenCar", "[I", true)
  | 13 => ("ConvoyTown$Town", "brokenFrom", "[I", true)
  | _ => ("ConvoyTown$Town", "brokenMany", "[I", true)
def tyX9 : Nat → FieldType := fun k => match k with
  | 0 => .int
  | 1 => .int
  | 2 => .int
  | 3 => .int
  | 4 => .int
  | 5 => .array (.object "ConvoyTown$Cross")
  | 6 => .int
  | 7 => .array .int
  | 8 => .int
  | 9 => .int
  | 10 => .array .int
  | 11 => .int
  | 12 => .array .int
  | 13 => .array .int
  | _ => .array .int
abbrev wsX90 : List Cond := u_ws RX9 TX9 15
theorem nmX9 : ∀ a, a < 15 → ∀ b, b < 15 → a ≠ b → (TX9 a).2.1 ≠ (TX9 b).2.1 := by decide +kernel
theorem tyX9_ok : ∀ k, k < 15 → parseFieldDescriptor (TX9 k).2.2.1 = some (tyX9 k) := by decide +kernel
abbrev cX9_init : ByteArray := prog_11_method_1_code
def yX9_init : MethodName := ⟨RX9, "<init>", "()V"⟩
abbrev cX9_clear : ByteArray := prog_11_method_2_code
def yX9_clear : MethodName := ⟨RX9, "clear", "()V"⟩
abbrev cX9_take : ByteArray := prog_11_method_3_code
def yX9_take : MethodName := ⟨RX9, "take", "(LConvoyTown$Town;)V"⟩
abbrev cX9_addCars : ByteArray := prog_11_method_4_code
def yX9_addCars : MethodName := ⟨RX9, "addCars", "(II)V"⟩
abbrev cX9_addBroken : ByteArray := prog_11_method_5_code
def yX9_addBroken : MethodName := ⟨RX9, "addBroken", "(III)V"⟩
abbrev cX9_brokenIn : ByteArray := prog_11_method_6_code
def yX9_brokenIn : MethodName := ⟨RX9, "brokenIn", "(I)I"⟩
abbrev cX9_needOf : ByteArray := prog_11_method_7_code
def yX9_needOf : MethodName := ⟨RX9, "needOf", "(II)I"⟩
abbrev cX9_canPass : ByteArray := prog_11_method_8_code
def yX9_canPass : MethodName := ⟨RX9, "canPass", "(I)Z"⟩
abbrev cX9_fewestSplits : ByteArray := prog_11_method_9_code
def yX9_fewestSplits : MethodName := ⟨RX9, "fewestSplits", "()I"⟩
def RX10 : String := "ConvoyTown$Trials"
def TX10 : u_T := fun k => match k with
  | 0 => ("ConvoyTown$Trials", "plan", "LConvoyTown$Town;", true)
  | 1 => ("ConvoyTown$Trials", "bestKnown", "I", false)
  | 2 => ("ConvoyTown$Trials", "bestEnd", "[I", true)
  | 3 => ("ConvoyTown$Trials", "bestFirst", "[I", true)
  | 4 => ("ConvoyTown$Trials", "bestSecond", "[I", true)
  | 5 => ("ConvoyTown$Trials", "startWaits", "[I", true)
  | 6 => ("ConvoyTown$Trials", "startSmooth", "[I", true)
  | _ => ("ConvoyTown$Trials", "speedEnd", "[I", true)
def tyX10 : Nat → FieldType := fun k => match k with
  | 0 => .object "ConvoyTown$Town"
  | 1 => .int
  | 2 => .array .int
  | 3 => .array .int
  | 4 => .array .int
  | 5 => .array .int
  | 6 => .array .int
  | _ => .array .int
abbrev wsX100 : List Cond := u_ws RX10 TX10 8
theorem nmX10 : ∀ a, a < 8 → ∀ b, b < 8 → a ≠ b → (TX10 a).2.1 ≠ (TX10 b).2.1 := by decide +kernel
theorem tyX10_ok : ∀ k, k < 8 → parseFieldDescriptor (TX10 k).2.2.1 = some (tyX10 k) := by decide +kernel
abbrev cX10_init : ByteArray := prog_12_method_1_code
def yX10_init : MethodName := ⟨RX10, "<init>", "()V"⟩
abbrev cX10_setUnknown : ByteArray := prog_12_method_2_code
def yX10_setUnknown : MethodName := ⟨RX10, "setUnknown", "()V"⟩
abbrev cX10_forget : ByteArray := prog_12_method_3_code
def yX10_forget : MethodName := ⟨RX10, "forget", "()V"⟩
abbrev cX10_findBestSplits : ByteArray := prog_12_method_4_code
def yX10_findBestSplits : MethodName := ⟨RX10, "findBestSplits", "(LConvoyTown$Town;LConvoyTown$Run;I)V"⟩
abbrev cX10_beginBest : ByteArray := prog_12_method_5_code
def yX10_beginBest : MethodName := ⟨RX10, "beginBest", "(I)V"⟩
abbrev cX10_soonerThanBest : ByteArray := prog_12_method_6_code
def yX10_soonerThanBest : MethodName := ⟨RX10, "soonerThanBest", "()I"⟩
abbrev cX10_keepIfSooner : ByteArray := prog_12_method_7_code
def yX10_keepIfSooner : MethodName := ⟨RX10, "keepIfSooner", "(III)V"⟩
abbrev cX10_bestStartUpTo : ByteArray := prog_12_method_8_code
def yX10_bestStartUpTo : MethodName := ⟨RX10, "bestStartUpTo", "(LConvoyTown$Town;LConvoyTown$Run;I)I"⟩
abbrev cX10_waitsByStart : ByteArray := prog_12_method_9_code
def yX10_waitsByStart : MethodName := ⟨RX10, "waitsByStart", "(LConvoyTown$Run;I)I"⟩
abbrev cX10_endIfBroken : ByteArray := prog_12_method_10_code
def yX10_endIfBroken : MethodName := ⟨RX10, "endIfBroken", "(LConvoyTown$Town;LConvoyTown$Run;III)I"⟩
abbrev cX10_smoothStartUpTo : ByteArray := prog_12_method_11_code
def yX10_smoothStartUpTo : MethodName := ⟨RX10, "smoothStartUpTo", "(LConvoyTown$Town;LConvoyTown$Run;I)I"⟩
abbrev cX10_isSmooth : ByteArray := prog_12_method_12_code
def yX10_isSmooth : MethodName := ⟨RX10, "isSmooth", "(LConvoyTown$Run;I)Z"⟩
abbrev cX10_slowestFor : ByteArray := prog_12_method_13_code
def yX10_slowestFor : MethodName := ⟨RX10, "slowestFor", "(LConvoyTown$Town;LConvoyTown$Run;I)I"⟩
def RX11 : String := "ConvoyTown"
def TX11 : u_T := fun k => match k with
  | 0 => ("ConvoyTown", "told", "LConvoyTown$Town;", false)
  | 1 => ("ConvoyTown", "reader", "LConvoyTown$Reader;", true)
  | 2 => ("ConvoyTown", "acts", "LConvoyTown$Acts;", true)
  | 3 => ("ConvoyTown", "run", "LConvoyTown$Run;", true)
  | 4 => ("ConvoyTown", "aside", "LConvoyTown$Run;", true)
  | 5 => ("ConvoyTown", "facts", "LConvoyTown$Facts;", true)
  | 6 => ("ConvoyTown", "trials", "LConvoyTown$Trials;", true)
  | _ => ("ConvoyTown", "guard", "LConvoyTown$Marshals;", true)
def tyX11 : Nat → FieldType := fun k => match k with
  | 0 => .object "ConvoyTown$Town"
  | 1 => .object "ConvoyTown$Reader"
  | 2 => .object "ConvoyTown$Acts"
  | 3 => .object "ConvoyTown$Run"
  | 4 => .object "ConvoyTown$Run"
  | 5 => .object "ConvoyTown$Facts"
  | 6 => .object "ConvoyTown$Trials"
  | _ => .object "ConvoyTown$Marshals"
abbrev wsX110 : List Cond := u_ws RX11 TX11 8
theorem nmX11 : ∀ a, a < 8 → ∀ b, b < 8 → a ≠ b → (TX11 a).2.1 ≠ (TX11 b).2.1 := by decide +kernel
theorem tyX11_ok : ∀ k, k < 8 → parseFieldDescriptor (TX11 k).2.2.1 = some (tyX11 k) := by decide +kernel
abbrev cX11_init : ByteArray := prog_1_method_1_code
def yX11_init : MethodName := ⟨RX11, "<init>", "()V"⟩
abbrev cX11_feed : ByteArray := prog_1_method_2_code
def yX11_feed : MethodName := ⟨RX11, "feed", "(IIIII)I"⟩
abbrev cX11_tell : ByteArray := prog_1_method_3_code
def yX11_tell : MethodName := ⟨RX11, "tell", "(I)I"⟩
abbrev cX11_fault : ByteArray := prog_1_method_4_code
def yX11_fault : MethodName := ⟨RX11, "fault", "(I)I"⟩
abbrev cX11_beginAnew : ByteArray := prog_1_method_5_code
def yX11_beginAnew : MethodName := ⟨RX11, "beginAnew", "()V"⟩
abbrev cX11_split : ByteArray := prog_1_method_6_code
def yX11_split : MethodName := ⟨RX11, "split", "(I)I"⟩
abbrev cX11_start : ByteArray := prog_1_method_7_code
def yX11_start : MethodName := ⟨RX11, "start", "(I)I"⟩
abbrev cX11_broken : ByteArray := prog_1_method_8_code
def yX11_broken : MethodName := ⟨RX11, "broken", "(III)I"⟩
abbrev cX11_mended : ByteArray := prog_1_method_9_code
def yX11_mended : MethodName := ⟨RX11, "mended", "()I"⟩
abbrev cX11_undo : ByteArray := prog_1_method_10_code
def yX11_undo : MethodName := ⟨RX11, "undo", "()I"⟩
abbrev cX11_go : ByteArray := prog_1_method_11_code
def yX11_go : MethodName := ⟨RX11, "go", "(I)I"⟩
abbrev cX11_again : ByteArray := prog_1_method_12_code
def yX11_again : MethodName := ⟨RX11, "again", "()I"⟩
abbrev cX11_car : ByteArray := prog_1_method_13_code
def yX11_car : MethodName := ⟨RX11, "car", "(II)I"⟩
abbrev cX11_crossing : ByteArray := prog_1_method_14_code
def yX11_crossing : MethodName := ⟨RX11, "crossing", "(II)I"⟩
abbrev cX11_section : ByteArray := prog_1_method_15_code
def yX11_section : MethodName := ⟨RX11, "section", "(II)I"⟩
abbrev cX11_event : ByteArray := prog_1_method_16_code
def yX11_event : MethodName := ⟨RX11, "event", "(II)I"⟩
abbrev cX11_need : ByteArray := prog_1_method_17_code
def yX11_need : MethodName := ⟨RX11, "need", "(II)I"⟩
abbrev cX11_pass : ByteArray := prog_1_method_18_code
def yX11_pass : MethodName := ⟨RX11, "pass", "(III)I"⟩
abbrev cX11_open : ByteArray := prog_1_method_19_code
def yX11_open : MethodName := ⟨RX11, "open", "(II)I"⟩
abbrev cX11_window : ByteArray := prog_1_method_20_code
def yX11_window : MethodName := ⟨RX11, "window", "(III)I"⟩
abbrev cX11_end : ByteArray := prog_1_method_21_code
def yX11_end : MethodName := ⟨RX11, "end", "()I"⟩
abbrev cX11_where : ByteArray := prog_1_method_22_code
def yX11_where : MethodName := ⟨RX11, "where", "(II)I"⟩
abbrev cX11_waits : ByteArray := prog_1_method_23_code
def yX11_waits : MethodName := ⟨RX11, "waits", "(I)I"⟩
abbrev cX11_stretch : ByteArray := prog_1_method_24_code
def yX11_stretch : MethodName := ⟨RX11, "stretch", "(I)I"⟩
abbrev cX11_fewest : ByteArray := prog_1_method_25_code
def yX11_fewest : MethodName := ⟨RX11, "fewest", "()I"⟩
abbrev cX11_best : ByteArray := prog_1_method_26_code
def yX11_best : MethodName := ⟨RX11, "best", "(II)I"⟩
abbrev cX11_bestStart : ByteArray := prog_1_method_27_code
def yX11_bestStart : MethodName := ⟨RX11, "bestStart", "(II)I"⟩
abbrev cX11_harm : ByteArray := prog_1_method_28_code
def yX11_harm : MethodName := ⟨RX11, "harm", "(III)I"⟩
abbrev cX11_smooth : ByteArray := prog_1_method_29_code
def yX11_smooth : MethodName := ⟨RX11, "smooth", "(I)I"⟩
abbrev cX11_held : ByteArray := prog_1_method_30_code
def yX11_held : MethodName := ⟨RX11, "held", "(II)I"⟩
abbrev cX11_slowest : ByteArray := prog_1_method_31_code
def yX11_slowest : MethodName := ⟨RX11, "slowest", "(I)I"⟩
abbrev cX11_longest : ByteArray := prog_1_method_32_code
def yX11_longest : MethodName := ⟨RX11, "longest", "(I)I"⟩
abbrev cX11_marshals : ByteArray := prog_1_method_33_code
def yX11_marshals : MethodName := ⟨RX11, "marshals", "(I)I"⟩
abbrev cX11_price : ByteArray := prog_1_method_34_code
def yX11_price : MethodName := ⟨RX11, "price", "(JJ)J"⟩
abbrev cX11_isTooMuch : ByteArray := prog_1_method_35_code
def yX11_isTooMuch : MethodName := ⟨RX11, "isTooMuch", "(JI)Z"⟩
abbrev cX11_count : ByteArray := prog_1_method_36_code
def yX11_count : MethodName := ⟨RX11, "count", "(I)I"⟩
abbrev cX11_isCar : ByteArray := prog_1_method_37_code
def yX11_isCar : MethodName := ⟨RX11, "isCar", "(I)Z"⟩
abbrev cX11_isCrossing : ByteArray := prog_1_method_38_code
def yX11_isCrossing : MethodName := ⟨RX11, "isCrossing", "(I)Z"⟩
abbrev cX11_isSection : ByteArray := prog_1_method_39_code
def yX11_isSection : MethodName := ⟨RX11, "isSection", "(I)Z"⟩
abbrev cX11_isTick : ByteArray := prog_1_method_40_code
def yX11_isTick : MethodName := ⟨RX11, "isTick", "(I)Z"⟩
def RX12 : String := "ConvoyTownModel"
def TX12 : u_T := fun k => match k with
  | 0 => ("ConvoyTownModel", "thrown", "I", false)
  | 1 => ("ConvoyTownModel", "told", "[I", true)
  | 2 => ("ConvoyTownModel", "read", "[I", true)
  | 3 => ("ConvoyTownModel", "tape", "[B", true)
  | 4 => ("ConvoyTownModel", "taped", "I", false)
  | 5 => ("ConvoyTownModel", "size", "I", false)
  | 6 => ("ConvoyTownModel", "spot", "I", false)
  | 7 => ("ConvoyTownModel", "wrong", "I", false)
  | 8 => ("ConvoyTownModel", "wrongAt", "I", false)
  | 9 => ("ConvoyTownModel", "seen", "I", false)
  | 10 => ("ConvoyTownModel", "numberAt", "I", false)
  | 11 => ("ConvoyTownModel", "acts", "[I", true)
  | 12 => ("ConvoyTownModel", "actMany", "I", false)
  | 13 => ("ConvoyTownModel", "sectionOf", "[I", true)
  | 14 => ("ConvoyTownModel", "lead", "[I", true)
  | 15 => ("ConvoyTownModel", "last", "[I", true)
  | 16 => ("ConvoyTownModel", "extent", "[I", true)
  | 17 => ("ConvoyTownModel", "sections", "I", false)
  | 18 => ("ConvoyTownModel", "run", "[I", true)
  | 19 => ("ConvoyTownModel", "events", "[I", true)
  | 20 => ("ConvoyTownModel", "eventMany", "I", false)
  | 21 => ("ConvoyTownModel", "goesBy", "I", false)
  | 22 => ("ConvoyTownModel", "heldBy", "I", false)
  | 23 => ("ConvoyTownModel", "aside", "[I", true)
  | 24 => ("ConvoyTownModel", "firstHeld", "[I", true)
  | 25 => ("ConvoyTownModel", "lastHeld", "[I", true)
  | 26 => ("ConvoyTownModel", "after", "[I", true)
  | _ => ("ConvoyTownModel", "asked", "I", false)
def tyX12 : Nat → FieldType := fun k => match k with
  | 0 => .int
  | 1 => .array .int
  | 2 => .array .int
  | 3 => .array .byte
  | 4 => .int
  | 5 => .int
  | 6 => .int
  | 7 => .int
  | 8 => .int
  | 9 => .int
  | 10 => .int
  | 11 => .array .int
  | 12 => .int
  | 13 => .array .int
  | 14 => .array .int
  | 15 => .array .int
  | 16 => .array .int
  | 17 => .int
  | 18 => .array .int
  | 19 => .array .int
  | 20 => .int
  | 21 => .int
  | 22 => .int
  | 23 => .array .int
  | 24 => .array .int
  | 25 => .array .int
  | 26 => .array .int
  | _ => .int
abbrev wsX120 : List Cond := u_ws RX12 TX12 28
theorem nmX12 : ∀ a, a < 28 → ∀ b, b < 28 → a ≠ b → (TX12 a).2.1 ≠ (TX12 b).2.1 := by decide +kernel
theorem tyX12_ok : ∀ k, k < 28 → parseFieldDescriptor (TX12 k).2.2.1 = some (tyX12 k) := by decide +kernel
abbrev cX12_isIn : ByteArray := prog_14_method_2_code
def yX12_isIn : MethodName := ⟨RX12, "isIn", "(JJJ)Z"⟩
abbrev cX12_init : ByteArray := prog_14_method_3_code
def yX12_init : MethodName := ⟨RX12, "<init>", "()V"⟩
abbrev cX12_plain : ByteArray := prog_14_method_4_code
def yX12_plain : MethodName := ⟨RX12, "plain", "()V"⟩
abbrev cX12_feed : ByteArray := prog_14_method_5_code
def yX12_feed : MethodName := ⟨RX12, "feed", "(IIIII)I"⟩
abbrev cX12_peek : ByteArray := prog_14_method_6_code
def yX12_peek : MethodName := ⟨RX12, "peek", "()I"⟩
abbrev cX12_fails : ByteArray := prog_14_method_7_code
def yX12_fails : MethodName := ⟨RX12, "fails", "(II)V"⟩
abbrev cX12_isLetter : ByteArray := prog_14_method_8_code
def yX12_isLetter : MethodName := ⟨RX12, "isLetter", "(I)Z"⟩
abbrev cX12_isDigit : ByteArray := prog_14_method_9_code
def yX12_isDigit : MethodName := ⟨RX12, "isDigit", "(I)Z"⟩
abbrev cX12_wordHere : ByteArray := prog_14_method_10_code
def yX12_wordHere : MethodName := ⟨RX12, "wordHere", "()I"⟩
abbrev cX12_passesWord : ByteArray := prog_14_method_11_code
def yX12_passesWord : MethodName := ⟨RX12, "passesWord", "()V"⟩
abbrev cX12_mustWord : ByteArray := prog_14_method_12_code
def yX12_mustWord : MethodName := ⟨RX12, "mustWord", "(I)V"⟩
abbrev cX12_numeral : ByteArray := prog_14_method_13_code
def yX12_numeral : MethodName := ⟨RX12, "numeral", "(II)I"⟩
abbrev cX12_behind : ByteArray := prog_14_method_14_code
def yX12_behind : MethodName := ⟨RX12, "behind", "(III)I"⟩
abbrev cX12_crossRead : ByteArray := prog_14_method_15_code
def yX12_crossRead : MethodName := ⟨RX12, "crossRead", "(I)V"⟩
abbrev cX12_columnRead : ByteArray := prog_14_method_16_code
def yX12_columnRead : MethodName := ⟨RX12, "columnRead", "()V"⟩
abbrev cX12_splitRead : ByteArray := prog_14_method_17_code
def yX12_splitRead : MethodName := ⟨RX12, "splitRead", "()V"⟩
abbrev cX12_gatherRead : ByteArray := prog_14_method_18_code
def yX12_gatherRead : MethodName := ⟨RX12, "gatherRead", "(I)V"⟩
abbrev cX12_brokenRead : ByteArray := prog_14_method_19_code
def yX12_brokenRead : MethodName := ⟨RX12, "brokenRead", "(I)V"⟩
abbrev cX12_lineRead : ByteArray := prog_14_method_20_code
def yX12_lineRead : MethodName := ⟨RX12, "lineRead", "()V"⟩
abbrev cX12_tell : ByteArray := prog_14_method_21_code
def yX12_tell : MethodName := ⟨RX12, "tell", "(I)I"⟩
abbrev cX12_fault : ByteArray := prog_14_method_22_code
def yX12_fault : MethodName := ⟨RX12, "fault", "(I)I"⟩
abbrev cX12_keeps : ByteArray := prog_14_method_23_code
def yX12_keeps : MethodName := ⟨RX12, "keeps", "()V"⟩
abbrev cX12_cars : ByteArray := prog_14_method_24_code
def yX12_cars : MethodName := ⟨RX12, "cars", "()I"⟩
abbrev cX12_isCar : ByteArray := prog_14_method_25_code
def yX12_isCar : MethodName := ⟨RX12, "isCar", "(I)Z"⟩
abbrev cX12_split : ByteArray := prog_14_method_26_code
def yX12_split : MethodName := ⟨RX12, "split", "(I)I"⟩
abbrev cX12_start : ByteArray := prog_14_method_27_code
def yX12_start : MethodName := ⟨RX12, "start", "(I)I"⟩
abbrev cX12_breaks : ByteArray := prog_14_method_28_code
def yX12_breaks : MethodName := ⟨RX12, "breaks", "(III)V"⟩
abbrev cX12_canBreak : ByteArray := prog_14_method_29_code
def yX12_canBreak : MethodName := ⟨RX12, "canBreak", "(II)Z"⟩
abbrev cX12_broken : ByteArray := prog_14_method_30_code
def yX12_broken : MethodName := ⟨RX12, "broken", "(III)I"⟩
abbrev cX12_mended : ByteArray := prog_14_method_31_code
def yX12_mended : MethodName := ⟨RX12, "mended", "()I"⟩
abbrev cX12_undo : ByteArray := prog_14_method_32_code
def yX12_undo : MethodName := ⟨RX12, "undo", "()I"⟩
abbrev cX12_laysSections : ByteArray := prog_14_method_33_code
def yX12_laysSections : MethodName := ⟨RX12, "laysSections", "()V"⟩
abbrev cX12_place : ByteArray := prog_14_method_34_code
def yX12_place : MethodName := ⟨RX12, "place", "(I)I"⟩
abbrev cX12_wide : ByteArray := prog_14_method_35_code
def yX12_wide : MethodName := ⟨RX12, "wide", "(I)I"⟩
abbrev cX12_needOf : ByteArray := prog_14_method_36_code
def yX12_needOf : MethodName := ⟨RX12, "needOf", "(II)I"⟩
abbrev cX12_isOpen : ByteArray := prog_14_method_37_code
def yX12_isOpen : MethodName := ⟨RX12, "isOpen", "(II)Z"⟩
abbrev cX12_isAlways : ByteArray := prog_14_method_38_code
def yX12_isAlways : MethodName := ⟨RX12, "isAlways", "(I)Z"⟩
abbrev cX12_mayEnter : ByteArray := prog_14_method_39_code
def yX12_mayEnter : MethodName := ⟨RX12, "mayEnter", "(III)Z"⟩
abbrev cX12_begins : ByteArray := prog_14_method_40_code
def yX12_begins : MethodName := ⟨RX12, "begins", "(I)V"⟩
abbrev cX12_tail : ByteArray := prog_14_method_41_code
def yX12_tail : MethodName := ⟨RX12, "tail", "(II)I"⟩
abbrev cX12_isOut : ByteArray := prog_14_method_42_code
def yX12_isOut : MethodName := ⟨RX12, "isOut", "(II)Z"⟩
abbrev cX12_holder : ByteArray := prog_14_method_43_code
def yX12_holder : MethodName := ⟨RX12, "holder", "(II)I"⟩
abbrev cX12_isBroken : ByteArray := prog_14_method_44_code
def yX12_isBroken : MethodName := ⟨RX12, "isBroken", "(II)Z"⟩
abbrev cX12_isClosed : ByteArray := prog_14_method_45_code
def yX12_isClosed : MethodName := ⟨RX12, "isClosed", "(I)Z"⟩
abbrev cX12_streets : ByteArray := prog_14_method_46_code
def yX12_streets : MethodName := ⟨RX12, "streets", "(II)V"⟩
abbrev cX12_bounds : ByteArray := prog_14_method_47_code
def yX12_bounds : MethodName := ⟨RX12, "bounds", "(II)V"⟩
abbrev cX12_goes : ByteArray := prog_14_method_48_code
def yX12_goes : MethodName := ⟨RX12, "goes", "(IIIZ)V"⟩
abbrev cX12_happens : ByteArray := prog_14_method_49_code
def yX12_happens : MethodName := ⟨RX12, "happens", "(IIII)V"⟩
abbrev cX12_tells : ByteArray := prog_14_method_50_code
def yX12_tells : MethodName := ⟨RX12, "tells", "(III)V"⟩
abbrev cX12_tick : ByteArray := prog_14_method_51_code
def yX12_tick : MethodName := ⟨RX12, "tick", "(I)V"⟩
abbrev cX12_go : ByteArray := prog_14_method_52_code
def yX12_go : MethodName := ⟨RX12, "go", "(I)I"⟩
abbrev cX12_again : ByteArray := prog_14_method_53_code
def yX12_again : MethodName := ⟨RX12, "again", "()I"⟩
abbrev cX12_car : ByteArray := prog_14_method_54_code
def yX12_car : MethodName := ⟨RX12, "car", "(II)I"⟩
abbrev cX12_isCrossing : ByteArray := prog_14_method_55_code
def yX12_isCrossing : MethodName := ⟨RX12, "isCrossing", "(I)Z"⟩
abbrev cX12_crossing : ByteArray := prog_14_method_56_code
def yX12_crossing : MethodName := ⟨RX12, "crossing", "(II)I"⟩
abbrev cX12_isSection : ByteArray := prog_14_method_57_code
def yX12_isSection : MethodName := ⟨RX12, "isSection", "(I)Z"⟩
abbrev cX12_section : ByteArray := prog_14_method_58_code
def yX12_section : MethodName := ⟨RX12, "section", "(II)I"⟩
abbrev cX12_event : ByteArray := prog_14_method_59_code
def yX12_event : MethodName := ⟨RX12, "event", "(II)I"⟩
abbrev cX12_need : ByteArray := prog_14_method_60_code
def yX12_need : MethodName := ⟨RX12, "need", "(II)I"⟩
abbrev cX12_isTick : ByteArray := prog_14_method_61_code
def yX12_isTick : MethodName := ⟨RX12, "isTick", "(I)Z"⟩
abbrev cX12_pass : ByteArray := prog_14_method_62_code
def yX12_pass : MethodName := ⟨RX12, "pass", "(III)I"⟩
abbrev cX12_open : ByteArray := prog_14_method_63_code
def yX12_open : MethodName := ⟨RX12, "open", "(II)I"⟩
abbrev cX12_window : ByteArray := prog_14_method_64_code
def yX12_window : MethodName := ⟨RX12, "window", "(III)I"⟩
abbrev cX12_waitsOf : ByteArray := prog_14_method_65_code
def yX12_waitsOf : MethodName := ⟨RX12, "waitsOf", "(I)I"⟩
abbrev cX12_goesOn : ByteArray := prog_14_method_66_code
def yX12_goesOn : MethodName := ⟨RX12, "goesOn", "()Z"⟩
abbrev cX12_endNow : ByteArray := prog_14_method_67_code
def yX12_endNow : MethodName := ⟨RX12, "endNow", "()I"⟩
abbrev cX12_wholeRun : ByteArray := prog_14_method_68_code
def yX12_wholeRun : MethodName := ⟨RX12, "wholeRun", "()I"⟩
abbrev cX12_end : ByteArray := prog_14_method_69_code
def yX12_end : MethodName := ⟨RX12, "end", "()I"⟩
abbrev cX12_runsFor : ByteArray := prog_14_method_70_code
def yX12_runsFor : MethodName := ⟨RX12, "runsFor", "(I)V"⟩
abbrev cX12_where : ByteArray := prog_14_method_71_code
def yX12_where : MethodName := ⟨RX12, "where", "(II)I"⟩
abbrev cX12_waits : ByteArray := prog_14_method_72_code
def yX12_waits : MethodName := ⟨RX12, "waits", "(I)I"⟩
abbrev cX12_stretch : ByteArray := prog_14_method_73_code
def yX12_stretch : MethodName := ⟨RX12, "stretch", "(I)I"⟩
abbrev cX12_canBeOne : ByteArray := prog_14_method_74_code
def yX12_canBeOne : MethodName := ⟨RX12, "canBeOne", "(II)Z"⟩
abbrev cX12_fewest : ByteArray := prog_14_method_75_code
def yX12_fewest : MethodName := ⟨RX12, "fewest", "()I"⟩
abbrev cX12_putsAside : ByteArray := prog_14_method_76_code
def yX12_putsAside : MethodName := ⟨RX12, "putsAside", "()V"⟩
abbrev cX12_comesBack : ByteArray := prog_14_method_77_code
def yX12_comesBack : MethodName := ⟨RX12, "comesBack", "()V"⟩
abbrev cX12_endBy : ByteArray := prog_14_method_78_code
def yX12_endBy : MethodName := ⟨RX12, "endBy", "(II)I"⟩
abbrev cX12_best : ByteArray := prog_14_method_79_code
def yX12_best : MethodName := ⟨RX12, "best", "(II)I"⟩
abbrev cX12_bestStart : ByteArray := prog_14_method_80_code
def yX12_bestStart : MethodName := ⟨RX12, "bestStart", "(II)I"⟩
abbrev cX12_isHeldAtStreet : ByteArray := prog_14_method_81_code
def yX12_isHeldAtStreet : MethodName := ⟨RX12, "isHeldAtStreet", "()Z"⟩
abbrev cX12_smooth : ByteArray := prog_14_method_82_code
def yX12_smooth : MethodName := ⟨RX12, "smooth", "(I)I"⟩
abbrev cX12_held : ByteArray := prog_14_method_83_code
def yX12_held : MethodName := ⟨RX12, "held", "(II)I"⟩
abbrev cX12_slowest : ByteArray := prog_14_method_84_code
def yX12_slowest : MethodName := ⟨RX12, "slowest", "(I)I"⟩
abbrev cX12_longest : ByteArray := prog_14_method_85_code
def yX12_longest : MethodName := ⟨RX12, "longest", "(I)I"⟩
abbrev cX12_findsNext : ByteArray := prog_14_method_86_code
def yX12_findsNext : MethodName := ⟨RX12, "findsNext", "(II)Z"⟩
abbrev cX12_marshals : ByteArray := prog_14_method_87_code
def yX12_marshals : MethodName := ⟨RX12, "marshals", "(I)I"⟩
abbrev cX12_harm : ByteArray := prog_14_method_88_code
def yX12_harm : MethodName := ⟨RX12, "harm", "(III)I"⟩
abbrev cX12_price : ByteArray := prog_14_method_89_code
def yX12_price : MethodName := ⟨RX12, "price", "(JJ)J"⟩
abbrev cX12_count : ByteArray := prog_14_method_90_code
def yX12_count : MethodName := ⟨RX12, "count", "(I)I"⟩
def RJ9 : String := "java/lang/Math"
abbrev cJ9_abs_0f7a4 : ByteArray := prog_15_method_59_code
def yJ9_abs_0f7a4 : MethodName := ⟨RJ9, "abs", "(I)I"⟩
abbrev cJ9_max_7cf53 : ByteArray := prog_15_method_65_code
def yJ9_max_7cf53 : MethodName := ⟨RJ9, "max", "(II)I"⟩
abbrev cJ9_min_7cf53 : ByteArray := prog_15_method_69_code
def yJ9_min_7cf53 : MethodName := ⟨RJ9, "min", "(II)I"⟩
def RJ0 : String := "java/lang/String"
abbrev cJ0_length_8abf5 : ByteArray := prog_16_method_54_code
def yJ0_length_8abf5 : MethodName := ⟨RJ0, "length", "()I"⟩
abbrev cJ0_charAt_5068e : ByteArray := prog_16_method_56_code
def yJ0_charAt_5068e : MethodName := ⟨RJ0, "charAt", "(I)C"⟩
abbrev cJ0_coder_7d493 : ByteArray := prog_16_method_152_code
def yJ0_coder_7d493 : MethodName := ⟨RJ0, "coder", "()B"⟩
abbrev cJ0_isLatin1_aae02 : ByteArray := prog_16_method_154_code
def yJ0_isLatin1_aae02 : MethodName := ⟨RJ0, "isLatin1", "()Z"⟩
abbrev cJ0_checkIndex_df160 : ByteArray := prog_16_method_155_code
def yJ0_checkIndex_df160 : MethodName := ⟨RJ0, "checkIndex", "(II)V"⟩
def RJ1 : String := "java/lang/StringLatin1"
abbrev cJ1_charAt_3b067 : ByteArray := prog_17_method_2_code
def yJ1_charAt_3b067 : MethodName := ⟨RJ1, "charAt", "([BI)C"⟩
def RJ2 : String := "java/lang/StringUTF16"
abbrev cJ2_getChar_3b067 : ByteArray := prog_18_method_5_code
def yJ2_getChar_3b067 : MethodName := ⟨RJ2, "getChar", "([BI)C"⟩
abbrev cJ2_length_9d52b : ByteArray := prog_18_method_6_code
def yJ2_length_9d52b : MethodName := ⟨RJ2, "length", "([B)I"⟩
abbrev cJ2_charAt_3b067 : ByteArray := prog_18_method_83_code
def yJ2_charAt_3b067 : MethodName := ⟨RJ2, "charAt", "([BI)C"⟩
abbrev cJ2_checkIndex_2214a : ByteArray := prog_18_method_91_code
def yJ2_checkIndex_2214a : MethodName := ⟨RJ2, "checkIndex", "(I[B)V"⟩
def RJ10 : String := "java/lang/System"
def RJ3 : String := "jdk/internal/util/Preconditions"
abbrev cJ3_checkIndex_8e157 : ByteArray := prog_20_method_11_code
def yJ3_checkIndex_8e157 : MethodName := ⟨RJ3, "checkIndex", "(IILjava/util/function/BiFunction;)I"⟩
def RL : String := "ConvoyTownLaw"
abbrev cL_law : ByteArray := code
def yL_law : MethodName := ⟨RL, "law", "([I)Z"⟩
abbrev vwCl : List vw_C := [(RX0, TX0, 5), (RX1, TX1, 7), (RX2, TX2, 5), (RX3, TX3, 10), (RX4, TX4, 3), (RX5, TX5, 12), (RX6, TX6, 13), (RX7, TX7, 6), (RX8, TX8, 7), (RX9, TX9, 15), (RX10, TX10, 8), (RX11, TX11, 8), (RX12, TX12, 28)]
