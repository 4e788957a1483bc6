-- ===== PART A: goes FIRST, ahead of the names: the tables' words, and 'selects' of the private methods out of them =====
/-- a private method of a class that the tables say can be made, by its rows of tables_1 -/
def lw_okq (q : MethodName × Nat) : Prop := (q.1.cls ≠ "java/lang/invoke/MethodHandle" ∧ q.1.cls ≠ "java/lang/invoke/VarHandle") ∧ Cond.instantiable q.1.cls q.2 ∈ tables_1 ∧ Cond.privateMethod q.1 ∈ tables_1 ∧ Cond.instanceMethod q.1 ∈ tables_1
theorem lw_p0 : lw_okq (⟨"GridColours$Reader", "step", "(LGridColours$Tape;)V"⟩, 8) := ⟨⟨by decide +kernel, by decide +kernel⟩, List.mem_of_getElem? (i := 63) (by decide +kernel), List.mem_of_getElem? (i := 223) (by decide +kernel), List.mem_of_getElem? (i := 224) (by decide +kernel)⟩
theorem lw_p1 : lw_okq (⟨"GridColours$Reader", "readRun", "(LGridColours$Tape;)V"⟩, 8) := ⟨⟨by decide +kernel, by decide +kernel⟩, List.mem_of_getElem? (i := 63) (by decide +kernel), List.mem_of_getElem? (i := 238) (by decide +kernel), List.mem_of_getElem? (i := 239) (by decide +kernel)⟩
theorem lw_p2 : lw_okq (⟨"GridColours$Reader", "refuse", "(I)Z"⟩, 8) := ⟨⟨by decide +kernel, by decide +kernel⟩, List.mem_of_getElem? (i := 63) (by decide +kernel), List.mem_of_getElem? (i := 248) (by decide +kernel), List.mem_of_getElem? (i := 249) (by decide +kernel)⟩
theorem lw_p3 : lw_okq (⟨"GridColours$Reader", "readGrid", "(LGridColours$Tape;)Z"⟩, 8) := ⟨⟨by decide +kernel, by decide +kernel⟩, List.mem_of_getElem? (i := 63) (by decide +kernel), List.mem_of_getElem? (i := 252) (by decide +kernel), List.mem_of_getElem? (i := 253) (by decide +kernel)⟩
theorem lw_p4 : lw_okq (⟨"GridColours$Reader", "isWord", "(LGridColours$Tape;Ljava/lang/String;)Z"⟩, 8) := ⟨⟨by decide +kernel, by decide +kernel⟩, List.mem_of_getElem? (i := 63) (by decide +kernel), List.mem_of_getElem? (i := 257) (by decide +kernel), List.mem_of_getElem? (i := 258) (by decide +kernel)⟩
theorem lw_p5 : lw_okq (⟨"GridColours$Reader", "readNumber", "(LGridColours$Tape;II)Z"⟩, 8) := ⟨⟨by decide +kernel, by decide +kernel⟩, List.mem_of_getElem? (i := 63) (by decide +kernel), List.mem_of_getElem? (i := 309) (by decide +kernel), List.mem_of_getElem? (i := 310) (by decide +kernel)⟩
theorem lw_p6 : lw_okq (⟨"GridColours$Reader", "readRow", "(LGridColours$Tape;)Z"⟩, 8) := ⟨⟨by decide +kernel, by decide +kernel⟩, List.mem_of_getElem? (i := 63) (by decide +kernel), List.mem_of_getElem? (i := 313) (by decide +kernel), List.mem_of_getElem? (i := 314) (by decide +kernel)⟩
theorem lw_p7 : lw_okq (⟨"GridColours$Grid", "rectangleIn", "(J)J"⟩, 4) := ⟨⟨by decide +kernel, by decide +kernel⟩, List.mem_of_getElem? (i := 43) (by decide +kernel), List.mem_of_getElem? (i := 401) (by decide +kernel), List.mem_of_getElem? (i := 402) (by decide +kernel)⟩
theorem lw_p8 : lw_okq (⟨"GridColours$Grid", "columnsOf", "(JI)I"⟩, 4) := ⟨⟨by decide +kernel, by decide +kernel⟩, List.mem_of_getElem? (i := 43) (by decide +kernel), List.mem_of_getElem? (i := 405) (by decide +kernel), List.mem_of_getElem? (i := 406) (by decide +kernel)⟩
theorem lw_p9 : lw_okq (⟨"GridColours$Grid", "countBetween", "(II)I"⟩, 4) := ⟨⟨by decide +kernel, by decide +kernel⟩, List.mem_of_getElem? (i := 43) (by decide +kernel), List.mem_of_getElem? (i := 453) (by decide +kernel), List.mem_of_getElem? (i := 454) (by decide +kernel)⟩
theorem lw_p10 : lw_okq (⟨"GridColours$Grid", "columnBetween", "(IIIZ)I"⟩, 4) := ⟨⟨by decide +kernel, by decide +kernel⟩, List.mem_of_getElem? (i := 43) (by decide +kernel), List.mem_of_getElem? (i := 457) (by decide +kernel), List.mem_of_getElem? (i := 458) (by decide +kernel)⟩
theorem lw_p11 : lw_okq (⟨"GridColours$Grid", "columnsBetween", "(III)I"⟩, 4) := ⟨⟨by decide +kernel, by decide +kernel⟩, List.mem_of_getElem? (i := 43) (by decide +kernel), List.mem_of_getElem? (i := 461) (by decide +kernel), List.mem_of_getElem? (i := 462) (by decide +kernel)⟩
theorem lw_p12 : lw_okq (⟨"GridColours$Seeker", "goThrough", "()I"⟩, 6) := ⟨⟨by decide +kernel, by decide +kernel⟩, List.mem_of_getElem? (i := 96) (by decide +kernel), List.mem_of_getElem? (i := 523) (by decide +kernel), List.mem_of_getElem? (i := 524) (by decide +kernel)⟩
theorem lw_p13 : lw_okq (⟨"GridColours$Seeker", "listBlanks", "()V"⟩, 6) := ⟨⟨by decide +kernel, by decide +kernel⟩, List.mem_of_getElem? (i := 96) (by decide +kernel), List.mem_of_getElem? (i := 527) (by decide +kernel), List.mem_of_getElem? (i := 528) (by decide +kernel)⟩
theorem lw_p14 : lw_okq (⟨"GridColours$Seeker", "colourBlank", "(I)I"⟩, 6) := ⟨⟨by decide +kernel, by decide +kernel⟩, List.mem_of_getElem? (i := 96) (by decide +kernel), List.mem_of_getElem? (i := 534) (by decide +kernel), List.mem_of_getElem? (i := 535) (by decide +kernel)⟩
theorem lw_p15 : lw_okq (⟨"GridColours", "isFillable", "()Z"⟩, 8) := ⟨⟨by decide +kernel, by decide +kernel⟩, List.mem_of_getElem? (i := 21) (by decide +kernel), List.mem_of_getElem? (i := 553) (by decide +kernel), List.mem_of_getElem? (i := 554) (by decide +kernel)⟩
def lw_privs_1 : List (MethodName × Nat) := [(⟨"GridColours$Reader", "step", "(LGridColours$Tape;)V"⟩, 8), (⟨"GridColours$Reader", "readRun", "(LGridColours$Tape;)V"⟩, 8), (⟨"GridColours$Reader", "refuse", "(I)Z"⟩, 8), (⟨"GridColours$Reader", "readGrid", "(LGridColours$Tape;)Z"⟩, 8), (⟨"GridColours$Reader", "isWord", "(LGridColours$Tape;Ljava/lang/String;)Z"⟩, 8), (⟨"GridColours$Reader", "readNumber", "(LGridColours$Tape;II)Z"⟩, 8), (⟨"GridColours$Reader", "readRow", "(LGridColours$Tape;)Z"⟩, 8), (⟨"GridColours$Grid", "rectangleIn", "(J)J"⟩, 4), (⟨"GridColours$Grid", "columnsOf", "(JI)I"⟩, 4), (⟨"GridColours$Grid", "countBetween", "(II)I"⟩, 4), (⟨"GridColours$Grid", "columnBetween", "(IIIZ)I"⟩, 4), (⟨"GridColours$Grid", "columnsBetween", "(III)I"⟩, 4), (⟨"GridColours$Seeker", "goThrough", "()I"⟩, 6), (⟨"GridColours$Seeker", "listBlanks", "()V"⟩, 6), (⟨"GridColours$Seeker", "colourBlank", "(I)I"⟩, 6), (⟨"GridColours", "isFillable", "()Z"⟩, 8)]
theorem lw_r1 : ∀ q ∈ lw_privs_1, lw_okq q := List.forall_mem_cons.mpr ⟨lw_p0, List.forall_mem_cons.mpr ⟨lw_p1, List.forall_mem_cons.mpr ⟨lw_p2, List.forall_mem_cons.mpr ⟨lw_p3, List.forall_mem_cons.mpr ⟨lw_p4, List.forall_mem_cons.mpr ⟨lw_p5, List.forall_mem_cons.mpr ⟨lw_p6, List.forall_mem_cons.mpr ⟨lw_p7, List.forall_mem_cons.mpr ⟨lw_p8, List.forall_mem_cons.mpr ⟨lw_p9, List.forall_mem_cons.mpr ⟨lw_p10, List.forall_mem_cons.mpr ⟨lw_p11, List.forall_mem_cons.mpr ⟨lw_p12, List.forall_mem_cons.mpr ⟨lw_p13, List.forall_mem_cons.mpr ⟨lw_p14, List.forall_mem_cons.mpr ⟨lw_p15, fun _ h => absurd h List.not_mem_nil⟩⟩⟩⟩⟩⟩⟩⟩⟩⟩⟩⟩⟩⟩⟩⟩
theorem lw_p16 : lw_okq (⟨"GridColours$Shelf", "hasPlace", "(I)Z"⟩, 2) := ⟨⟨by decide +kernel, by decide +kernel⟩, List.mem_of_getElem? (i := 129) (by decide +kernel), List.mem_of_getElem? (i := 573) (by decide +kernel), List.mem_of_getElem? (i := 574) (by decide +kernel)⟩
theorem lw_p17 : lw_okq (⟨"GridColours", "likesByRows", "(I)I"⟩, 8) := ⟨⟨by decide +kernel, by decide +kernel⟩, List.mem_of_getElem? (i := 21) (by decide +kernel), List.mem_of_getElem? (i := 586) (by decide +kernel), List.mem_of_getElem? (i := 587) (by decide +kernel)⟩
theorem lw_p18 : lw_okq (⟨"GridColours$Grid", "moved", "(JII)J"⟩, 4) := ⟨⟨by decide +kernel, by decide +kernel⟩, List.mem_of_getElem? (i := 43) (by decide +kernel), List.mem_of_getElem? (i := 594) (by decide +kernel), List.mem_of_getElem? (i := 595) (by decide +kernel)⟩
theorem lw_p19 : lw_okq (⟨"GridColours$Grid", "isOfOneColour", "(J)Z"⟩, 4) := ⟨⟨by decide +kernel, by decide +kernel⟩, List.mem_of_getElem? (i := 43) (by decide +kernel), List.mem_of_getElem? (i := 598) (by decide +kernel), List.mem_of_getElem? (i := 599) (by decide +kernel)⟩
theorem lw_p20 : lw_okq (⟨"GridColours", "layTape", "()V"⟩, 8) := ⟨⟨by decide +kernel, by decide +kernel⟩, List.mem_of_getElem? (i := 21) (by decide +kernel), List.mem_of_getElem? (i := 611) (by decide +kernel), List.mem_of_getElem? (i := 612) (by decide +kernel)⟩
theorem lw_p21 : lw_okq (⟨"GridColours", "liesApart", "(I)Z"⟩, 8) := ⟨⟨by decide +kernel, by decide +kernel⟩, List.mem_of_getElem? (i := 21) (by decide +kernel), List.mem_of_getElem? (i := 622) (by decide +kernel), List.mem_of_getElem? (i := 623) (by decide +kernel)⟩
theorem lw_p22 : lw_okq (⟨"java/lang/Throwable", "fillInStackTrace", "(I)Ljava/lang/Throwable;"⟩, 6) := ⟨⟨by decide +kernel, by decide +kernel⟩, List.mem_of_getElem? (i := 739) (by decide +kernel), List.mem_of_getElem? (i := 737) (by decide +kernel), List.mem_of_getElem? (i := 738) (by decide +kernel)⟩
theorem lw_p23 : lw_okq (⟨"GridColoursModel", "lay", "(I)V"⟩, 34) := ⟨⟨by decide +kernel, by decide +kernel⟩, List.mem_of_getElem? (i := 795) (by decide +kernel), List.mem_of_getElem? (i := 793) (by decide +kernel), List.mem_of_getElem? (i := 794) (by decide +kernel)⟩
theorem lw_p24 : lw_okq (⟨"GridColoursModel", "next", "()V"⟩, 34) := ⟨⟨by decide +kernel, by decide +kernel⟩, List.mem_of_getElem? (i := 795) (by decide +kernel), List.mem_of_getElem? (i := 915) (by decide +kernel), List.mem_of_getElem? (i := 916) (by decide +kernel)⟩
theorem lw_p25 : lw_okq (⟨"GridColoursModel", "tapeAt", "(I)I"⟩, 34) := ⟨⟨by decide +kernel, by decide +kernel⟩, List.mem_of_getElem? (i := 795) (by decide +kernel), List.mem_of_getElem? (i := 925) (by decide +kernel), List.mem_of_getElem? (i := 926) (by decide +kernel)⟩
theorem lw_p26 : lw_okq (⟨"GridColoursModel", "readLine", "()Z"⟩, 34) := ⟨⟨by decide +kernel, by decide +kernel⟩, List.mem_of_getElem? (i := 795) (by decide +kernel), List.mem_of_getElem? (i := 931) (by decide +kernel), List.mem_of_getElem? (i := 932) (by decide +kernel)⟩
theorem lw_p27 : lw_okq (⟨"GridColoursModel", "isWord", "(J)Z"⟩, 34) := ⟨⟨by decide +kernel, by decide +kernel⟩, List.mem_of_getElem? (i := 795) (by decide +kernel), List.mem_of_getElem? (i := 938) (by decide +kernel), List.mem_of_getElem? (i := 939) (by decide +kernel)⟩
theorem lw_p28 : lw_okq (⟨"GridColoursModel", "readGrid", "()Z"⟩, 34) := ⟨⟨by decide +kernel, by decide +kernel⟩, List.mem_of_getElem? (i := 795) (by decide +kernel), List.mem_of_getElem? (i := 942) (by decide +kernel), List.mem_of_getElem? (i := 943) (by decide +kernel)⟩
theorem lw_p29 : lw_okq (⟨"GridColoursModel", "told", "(II)I"⟩, 34) := ⟨⟨by decide +kernel, by decide +kernel⟩, List.mem_of_getElem? (i := 795) (by decide +kernel), List.mem_of_getElem? (i := 946) (by decide +kernel), List.mem_of_getElem? (i := 947) (by decide +kernel)⟩
theorem lw_p30 : lw_okq (⟨"GridColoursModel", "bad", "(I)Z"⟩, 34) := ⟨⟨by decide +kernel, by decide +kernel⟩, List.mem_of_getElem? (i := 795) (by decide +kernel), List.mem_of_getElem? (i := 950) (by decide +kernel), List.mem_of_getElem? (i := 951) (by decide +kernel)⟩
theorem lw_p31 : lw_okq (⟨"GridColoursModel", "readCells", "()Z"⟩, 34) := ⟨⟨by decide +kernel, by decide +kernel⟩, List.mem_of_getElem? (i := 795) (by decide +kernel), List.mem_of_getElem? (i := 957) (by decide +kernel), List.mem_of_getElem? (i := 958) (by decide +kernel)⟩
def lw_privs_2 : List (MethodName × Nat) := [(⟨"GridColours$Shelf", "hasPlace", "(I)Z"⟩, 2), (⟨"GridColours", "likesByRows", "(I)I"⟩, 8), (⟨"GridColours$Grid", "moved", "(JII)J"⟩, 4), (⟨"GridColours$Grid", "isOfOneColour", "(J)Z"⟩, 4), (⟨"GridColours", "layTape", "()V"⟩, 8), (⟨"GridColours", "liesApart", "(I)Z"⟩, 8), (⟨"java/lang/Throwable", "fillInStackTrace", "(I)Ljava/lang/Throwable;"⟩, 6), (⟨"GridColoursModel", "lay", "(I)V"⟩, 34), (⟨"GridColoursModel", "next", "()V"⟩, 34), (⟨"GridColoursModel", "tapeAt", "(I)I"⟩, 34), (⟨"GridColoursModel", "readLine", "()Z"⟩, 34), (⟨"GridColoursModel", "isWord", "(J)Z"⟩, 34), (⟨"GridColoursModel", "readGrid", "()Z"⟩, 34), (⟨"GridColoursModel", "told", "(II)I"⟩, 34), (⟨"GridColoursModel", "bad", "(I)Z"⟩, 34), (⟨"GridColoursModel", "readCells", "()Z"⟩, 34)]
theorem lw_r2 : ∀ q ∈ lw_privs_2, lw_okq q := List.forall_mem_cons.mpr ⟨lw_p16, List.forall_mem_cons.mpr ⟨lw_p17, List.forall_mem_cons.mpr ⟨lw_p18, List.forall_mem_cons.mpr ⟨lw_p19, List.forall_mem_cons.mpr ⟨lw_p20, List.forall_mem_cons.mpr ⟨lw_p21, List.forall_mem_cons.mpr ⟨lw_p22, List.forall_mem_cons.mpr ⟨lw_p23, List.forall_mem_cons.mpr ⟨lw_p24, List.forall_mem_cons.mpr ⟨lw_p25, List.forall_mem_cons.mpr ⟨lw_p26, List.forall_mem_cons.mpr ⟨lw_p27, List.forall_mem_cons.mpr ⟨lw_p28, List.forall_mem_cons.mpr ⟨lw_p29, List.forall_mem_cons.mpr ⟨lw_p30, List.forall_mem_cons.mpr ⟨lw_p31, fun _ h => absurd h List.not_mem_nil⟩⟩⟩⟩⟩⟩⟩⟩⟩⟩⟩⟩⟩⟩⟩⟩
theorem lw_p32 : lw_okq (⟨"GridColoursModel", "readEnd", "()Z"⟩, 34) := ⟨⟨by decide +kernel, by decide +kernel⟩, List.mem_of_getElem? (i := 795) (by decide +kernel), List.mem_of_getElem? (i := 961) (by decide +kernel), List.mem_of_getElem? (i := 962) (by decide +kernel)⟩
theorem lw_p33 : lw_okq (⟨"GridColoursModel", "high", "()I"⟩, 34) := ⟨⟨by decide +kernel, by decide +kernel⟩, List.mem_of_getElem? (i := 795) (by decide +kernel), List.mem_of_getElem? (i := 976) (by decide +kernel), List.mem_of_getElem? (i := 977) (by decide +kernel)⟩
theorem lw_p34 : lw_okq (⟨"GridColoursModel", "broad", "()I"⟩, 34) := ⟨⟨by decide +kernel, by decide +kernel⟩, List.mem_of_getElem? (i := 795) (by decide +kernel), List.mem_of_getElem? (i := 980) (by decide +kernel), List.mem_of_getElem? (i := 981) (by decide +kernel)⟩
theorem lw_p35 : lw_okq (⟨"GridColoursModel", "blanks", "([I)I"⟩, 34) := ⟨⟨by decide +kernel, by decide +kernel⟩, List.mem_of_getElem? (i := 795) (by decide +kernel), List.mem_of_getElem? (i := 984) (by decide +kernel), List.mem_of_getElem? (i := 985) (by decide +kernel)⟩
theorem lw_p36 : lw_okq (⟨"GridColoursModel", "isGood", "()Z"⟩, 34) := ⟨⟨by decide +kernel, by decide +kernel⟩, List.mem_of_getElem? (i := 795) (by decide +kernel), List.mem_of_getElem? (i := 988) (by decide +kernel), List.mem_of_getElem? (i := 989) (by decide +kernel)⟩
theorem lw_p37 : lw_okq (⟨"GridColoursModel", "laysFours", "(I)V"⟩, 34) := ⟨⟨by decide +kernel, by decide +kernel⟩, List.mem_of_getElem? (i := 795) (by decide +kernel), List.mem_of_getElem? (i := 992) (by decide +kernel), List.mem_of_getElem? (i := 993) (by decide +kernel)⟩
theorem lw_p38 : lw_okq (⟨"GridColoursModel", "cellBit", "(II)J"⟩, 34) := ⟨⟨by decide +kernel, by decide +kernel⟩, List.mem_of_getElem? (i := 795) (by decide +kernel), List.mem_of_getElem? (i := 1002) (by decide +kernel), List.mem_of_getElem? (i := 1003) (by decide +kernel)⟩
theorem lw_p39 : lw_okq (⟨"GridColoursModel", "isCell", "(I)Z"⟩, 34) := ⟨⟨by decide +kernel, by decide +kernel⟩, List.mem_of_getElem? (i := 795) (by decide +kernel), List.mem_of_getElem? (i := 1010) (by decide +kernel), List.mem_of_getElem? (i := 1011) (by decide +kernel)⟩
theorem lw_p40 : lw_okq (⟨"GridColoursModel", "cellMany", "()I"⟩, 34) := ⟨⟨by decide +kernel, by decide +kernel⟩, List.mem_of_getElem? (i := 795) (by decide +kernel), List.mem_of_getElem? (i := 1014) (by decide +kernel), List.mem_of_getElem? (i := 1015) (by decide +kernel)⟩
theorem lw_p41 : lw_okq (⟨"GridColoursModel", "isColour", "(II)Z"⟩, 34) := ⟨⟨by decide +kernel, by decide +kernel⟩, List.mem_of_getElem? (i := 795) (by decide +kernel), List.mem_of_getElem? (i := 1022) (by decide +kernel), List.mem_of_getElem? (i := 1023) (by decide +kernel)⟩
theorem lw_p42 : lw_okq (⟨"GridColoursModel", "refuse", "()I"⟩, 34) := ⟨⟨by decide +kernel, by decide +kernel⟩, List.mem_of_getElem? (i := 795) (by decide +kernel), List.mem_of_getElem? (i := 1026) (by decide +kernel), List.mem_of_getElem? (i := 1027) (by decide +kernel)⟩
theorem lw_p43 : lw_okq (⟨"GridColoursModel", "meets", "(J)Z"⟩, 34) := ⟨⟨by decide +kernel, by decide +kernel⟩, List.mem_of_getElem? (i := 795) (by decide +kernel), List.mem_of_getElem? (i := 1057) (by decide +kernel), List.mem_of_getElem? (i := 1058) (by decide +kernel)⟩
theorem lw_p44 : lw_okq (⟨"GridColoursModel", "laysMost", "(II)I"⟩, 34) := ⟨⟨by decide +kernel, by decide +kernel⟩, List.mem_of_getElem? (i := 795) (by decide +kernel), List.mem_of_getElem? (i := 1068) (by decide +kernel), List.mem_of_getElem? (i := 1069) (by decide +kernel)⟩
theorem lw_p45 : lw_okq (⟨"GridColoursModel", "searches", "()V"⟩, 34) := ⟨⟨by decide +kernel, by decide +kernel⟩, List.mem_of_getElem? (i := 795) (by decide +kernel), List.mem_of_getElem? (i := 1090) (by decide +kernel), List.mem_of_getElem? (i := 1091) (by decide +kernel)⟩
theorem lw_p46 : lw_okq (⟨"GridColoursModel", "snap", "()V"⟩, 34) := ⟨⟨by decide +kernel, by decide +kernel⟩, List.mem_of_getElem? (i := 795) (by decide +kernel), List.mem_of_getElem? (i := 1102) (by decide +kernel), List.mem_of_getElem? (i := 1103) (by decide +kernel)⟩
theorem lw_p47 : lw_okq (⟨"GridColoursModel", "ordersOn", "(IZI)I"⟩, 34) := ⟨⟨by decide +kernel, by decide +kernel⟩, List.mem_of_getElem? (i := 795) (by decide +kernel), List.mem_of_getElem? (i := 1110) (by decide +kernel), List.mem_of_getElem? (i := 1111) (by decide +kernel)⟩
def lw_privs_3 : List (MethodName × Nat) := [(⟨"GridColoursModel", "readEnd", "()Z"⟩, 34), (⟨"GridColoursModel", "high", "()I"⟩, 34), (⟨"GridColoursModel", "broad", "()I"⟩, 34), (⟨"GridColoursModel", "blanks", "([I)I"⟩, 34), (⟨"GridColoursModel", "isGood", "()Z"⟩, 34), (⟨"GridColoursModel", "laysFours", "(I)V"⟩, 34), (⟨"GridColoursModel", "cellBit", "(II)J"⟩, 34), (⟨"GridColoursModel", "isCell", "(I)Z"⟩, 34), (⟨"GridColoursModel", "cellMany", "()I"⟩, 34), (⟨"GridColoursModel", "isColour", "(II)Z"⟩, 34), (⟨"GridColoursModel", "refuse", "()I"⟩, 34), (⟨"GridColoursModel", "meets", "(J)Z"⟩, 34), (⟨"GridColoursModel", "laysMost", "(II)I"⟩, 34), (⟨"GridColoursModel", "searches", "()V"⟩, 34), (⟨"GridColoursModel", "snap", "()V"⟩, 34), (⟨"GridColoursModel", "ordersOn", "(IZI)I"⟩, 34)]
theorem lw_r3 : ∀ q ∈ lw_privs_3, lw_okq q := List.forall_mem_cons.mpr ⟨lw_p32, List.forall_mem_cons.mpr ⟨lw_p33, List.forall_mem_cons.mpr ⟨lw_p34, List.forall_mem_cons.mpr ⟨lw_p35, List.forall_mem_cons.mpr ⟨lw_p36, List.forall_mem_cons.mpr ⟨lw_p37, List.forall_mem_cons.mpr ⟨lw_p38, List.forall_mem_cons.mpr ⟨lw_p39, List.forall_mem_cons.mpr ⟨lw_p40, List.forall_mem_cons.mpr ⟨lw_p41, List.forall_mem_cons.mpr ⟨lw_p42, List.forall_mem_cons.mpr ⟨lw_p43, List.forall_mem_cons.mpr ⟨lw_p44, List.forall_mem_cons.mpr ⟨lw_p45, List.forall_mem_cons.mpr ⟨lw_p46, List.forall_mem_cons.mpr ⟨lw_p47, fun _ h => absurd h List.not_mem_nil⟩⟩⟩⟩⟩⟩⟩⟩⟩⟩⟩⟩⟩⟩⟩⟩
theorem lw_p48 : lw_okq (⟨"GridColoursModel", "isLike", "()Z"⟩, 34) := ⟨⟨by decide +kernel, by decide +kernel⟩, List.mem_of_getElem? (i := 795) (by decide +kernel), List.mem_of_getElem? (i := 1114) (by decide +kernel), List.mem_of_getElem? (i := 1115) (by decide +kernel)⟩
theorem lw_p49 : lw_okq (⟨"GridColoursModel", "isApart", "(II)Z"⟩, 34) := ⟨⟨by decide +kernel, by decide +kernel⟩, List.mem_of_getElem? (i := 795) (by decide +kernel), List.mem_of_getElem? (i := 1126) (by decide +kernel), List.mem_of_getElem? (i := 1127) (by decide +kernel)⟩
theorem lw_p50 : lw_okq (⟨"GridColoursModel", "swap", "(II)V"⟩, 34) := ⟨⟨by decide +kernel, by decide +kernel⟩, List.mem_of_getElem? (i := 795) (by decide +kernel), List.mem_of_getElem? (i := 1138) (by decide +kernel), List.mem_of_getElem? (i := 1139) (by decide +kernel)⟩
theorem lw_p51 : lw_okq (⟨"GridColoursModel", "does", "()Z"⟩, 34) := ⟨⟨by decide +kernel, by decide +kernel⟩, List.mem_of_getElem? (i := 795) (by decide +kernel), List.mem_of_getElem? (i := 1158) (by decide +kernel), List.mem_of_getElem? (i := 1159) (by decide +kernel)⟩
theorem lw_p52 : lw_okq (⟨"GridColoursModel", "draw", "(I)I"⟩, 34) := ⟨⟨by decide +kernel, by decide +kernel⟩, List.mem_of_getElem? (i := 795) (by decide +kernel), List.mem_of_getElem? (i := 1162) (by decide +kernel), List.mem_of_getElem? (i := 1163) (by decide +kernel)⟩
theorem lw_p53 : lw_okq (⟨"GridColoursModel", "stay", "()V"⟩, 34) := ⟨⟨by decide +kernel, by decide +kernel⟩, List.mem_of_getElem? (i := 795) (by decide +kernel), List.mem_of_getElem? (i := 1167) (by decide +kernel), List.mem_of_getElem? (i := 1168) (by decide +kernel)⟩
def lw_privs_4 : List (MethodName × Nat) := [(⟨"GridColoursModel", "isLike", "()Z"⟩, 34), (⟨"GridColoursModel", "isApart", "(II)Z"⟩, 34), (⟨"GridColoursModel", "swap", "(II)V"⟩, 34), (⟨"GridColoursModel", "does", "()Z"⟩, 34), (⟨"GridColoursModel", "draw", "(I)I"⟩, 34), (⟨"GridColoursModel", "stay", "()V"⟩, 34)]
theorem lw_r4 : ∀ q ∈ lw_privs_4, lw_okq q := List.forall_mem_cons.mpr ⟨lw_p48, List.forall_mem_cons.mpr ⟨lw_p49, List.forall_mem_cons.mpr ⟨lw_p50, List.forall_mem_cons.mpr ⟨lw_p51, List.forall_mem_cons.mpr ⟨lw_p52, List.forall_mem_cons.mpr ⟨lw_p53, fun _ h => absurd h List.not_mem_nil⟩⟩⟩⟩⟩⟩
def lw_privs : List (MethodName × Nat) := lw_privs_1 ++ (lw_privs_2 ++ (lw_privs_3 ++ (lw_privs_4)))
def lw_tbl : List Cond := k2_sels lw_privs ++ tables_1
theorem lw_privs_ok : ∀ q ∈ lw_privs, lw_okq q := by
  show ∀ q ∈ lw_privs_1 ++ (lw_privs_2 ++ (lw_privs_3 ++ (lw_privs_4))), lw_okq q
  exact List.forall_mem_append.mpr ⟨lw_r1, List.forall_mem_append.mpr ⟨lw_r2, List.forall_mem_append.mpr ⟨lw_r3, lw_r4⟩⟩⟩
def cR_C : String := "GridColours"
def cF_C : u_T := fun k => match k with
  | 0 => ("GridColours", "tape", "LGridColours$Tape;", true)
  | 1 => ("GridColours", "grid", "LGridColours$Grid;", true)
  | 2 => ("GridColours", "spare", "LGridColours$Grid;", true)
  | 3 => ("GridColours", "reader", "LGridColours$Reader;", true)
  | 4 => ("GridColours", "seeker", "LGridColours$Seeker;", true)
  | 5 => ("GridColours", "history", "LGridColours$History;", true)
  | 6 => ("GridColours", "images", "LGridColours$Shelf;", true)
  | _ => ("GridColours", "latestFault", "I", false)
def cT_C : Nat → FieldType := fun k => match k with
  | 0 => (.object "GridColours$Tape")
  | 1 => (.object "GridColours$Grid")
  | 2 => (.object "GridColours$Grid")
  | 3 => (.object "GridColours$Reader")
  | 4 => (.object "GridColours$Seeker")
  | 5 => (.object "GridColours$History")
  | 6 => (.object "GridColours$Shelf")
  | _ => .int
def cR_G : String := "GridColours$Grid"
def cF_G : u_T := fun k => match k with
  | 0 => ("GridColours$Grid", "sets", "[J", true)
  | 1 => ("GridColours$Grid", "high", "I", false)
  | 2 => ("GridColours$Grid", "wide", "I", false)
  | _ => ("GridColours$Grid", "shades", "I", false)
def cT_G : Nat → FieldType := fun k => match k with
  | 0 => (.array .long)
  | 1 => .int
  | 2 => .int
  | _ => .int
def cR_H : String := "GridColours$History"
def cF_H : u_T := fun k => match k with
  | 0 => ("GridColours$History", "shelf", "LGridColours$Shelf;", true)
  | 1 => ("GridColours$History", "latest", "I", false)
  | _ => ("GridColours$History", "size", "I", false)
def cT_H : Nat → FieldType := fun k => match k with
  | 0 => (.object "GridColours$Shelf")
  | 1 => .int
  | _ => .int
def cR_R : String := "GridColours$Reader"
def cF_R : u_T := fun k => match k with
  | 0 => ("GridColours$Reader", "grid", "LGridColours$Grid;", true)
  | 1 => ("GridColours$Reader", "kind", "I", false)
  | 2 => ("GridColours$Reader", "place", "I", false)
  | 3 => ("GridColours$Reader", "next", "I", false)
  | 4 => ("GridColours$Reader", "value", "I", false)
  | 5 => ("GridColours$Reader", "faultKind", "I", false)
  | 6 => ("GridColours$Reader", "lines", "I", false)
  | _ => ("GridColours$Reader", "rowsTold", "I", false)
def cT_R : Nat → FieldType := fun k => match k with
  | 0 => (.object "GridColours$Grid")
  | 1 => .int
  | 2 => .int
  | 3 => .int
  | 4 => .int
  | 5 => .int
  | 6 => .int
  | _ => .int
def cR_S : String := "GridColours$Seeker"
def cF_S : u_T := fun k => match k with
  | 0 => ("GridColours$Seeker", "searched", "LGridColours$Grid;", true)
  | 1 => ("GridColours$Seeker", "result", "LGridColours$Grid;", true)
  | 2 => ("GridColours$Seeker", "blanks", "[I", true)
  | 3 => ("GridColours$Seeker", "blankCount", "I", false)
  | 4 => ("GridColours$Seeker", "tries", "I", false)
  | _ => ("GridColours$Seeker", "outcome", "I", false)
def cT_S : Nat → FieldType := fun k => match k with
  | 0 => (.object "GridColours$Grid")
  | 1 => (.object "GridColours$Grid")
  | 2 => (.array .int)
  | 3 => .int
  | 4 => .int
  | _ => .int
def cR_F : String := "GridColours$Shelf"
def cF_F : u_T := fun k => match k with
  | 0 => ("GridColours$Shelf", "grids", "[LGridColours$Grid;", true)
  | _ => ("GridColours$Shelf", "isKept", "[Z", true)
def cT_F : Nat → FieldType := fun k => match k with
  | 0 => (.array (.object "GridColours$Grid"))
  | _ => (.array .boolean)
def cR_T : String := "GridColours$Tape"
def cF_T : u_T := fun k => match k with
  | 0 => ("GridColours$Tape", "bytes", "[I", true)
  | _ => ("GridColours$Tape", "length", "I", false)
def cT_T : Nat → FieldType := fun k => match k with
  | 0 => (.array .int)
  | _ => .int
def cR_M : String := "GridColoursModel"
def cF_M : u_T := fun k => match k with
  | 0 => ("GridColoursModel", "thrown", "I", false)
  | 1 => ("GridColoursModel", "tape", "[I", true)
  | 2 => ("GridColoursModel", "taped", "I", false)
  | 3 => ("GridColoursModel", "size", "I", false)
  | 4 => ("GridColoursModel", "to", "I", false)
  | 5 => ("GridColoursModel", "from", "I", false)
  | 6 => ("GridColoursModel", "sort", "I", false)
  | 7 => ("GridColoursModel", "number", "I", false)
  | 8 => ("GridColoursModel", "fault", "I", false)
  | 9 => ("GridColoursModel", "place", "I", false)
  | 10 => ("GridColoursModel", "word", "J", false)
  | 11 => ("GridColoursModel", "now", "[I", true)
  | 12 => ("GridColoursModel", "read", "[I", true)
  | 13 => ("GridColoursModel", "kept", "[I", true)
  | 14 => ("GridColoursModel", "snaps", "[I", true)
  | 15 => ("GridColoursModel", "before", "[I", true)
  | 16 => ("GridColoursModel", "live", "[I", true)
  | 17 => ("GridColoursModel", "tried", "[I", true)
  | 18 => ("GridColoursModel", "isKept", "[Z", true)
  | 19 => ("GridColoursModel", "snapMany", "I", false)
  | 20 => ("GridColoursModel", "rowsRead", "I", false)
  | 21 => ("GridColoursModel", "sides", "[I", true)
  | 22 => ("GridColoursModel", "fours", "[J", true)
  | 23 => ("GridColoursModel", "fourMany", "I", false)
  | 24 => ("GridColoursModel", "mostBy", "[I", true)
  | 25 => ("GridColoursModel", "mostKnown", "[I", true)
  | 26 => ("GridColoursModel", "pairsOf", "[I", true)
  | 27 => ("GridColoursModel", "blank", "[I", true)
  | 28 => ("GridColoursModel", "tries", "I", false)
  | 29 => ("GridColoursModel", "ended", "I", false)
  | 30 => ("GridColoursModel", "rowOrder", "[I", true)
  | 31 => ("GridColoursModel", "columnOrder", "[I", true)
  | 32 => ("GridColoursModel", "named", "[I", true)
  | _ => ("GridColoursModel", "seed", "I", false)
def cT_M : Nat → FieldType := fun k => match k with
  | 0 => .int
  | 1 => (.array .int)
  | 2 => .int
  | 3 => .int
  | 4 => .int
  | 5 => .int
  | 6 => .int
  | 7 => .int
  | 8 => .int
  | 9 => .int
  | 10 => .long
  | 11 => (.array .int)
  | 12 => (.array .int)
  | 13 => (.array .int)
  | 14 => (.array .int)
  | 15 => (.array .int)
  | 16 => (.array .int)
  | 17 => (.array .int)
  | 18 => (.array .boolean)
  | 19 => .int
  | 20 => .int
  | 21 => (.array .int)
  | 22 => (.array .long)
  | 23 => .int
  | 24 => (.array .int)
  | 25 => (.array .int)
  | 26 => (.array .int)
  | 27 => (.array .int)
  | 28 => .int
  | 29 => .int
  | 30 => (.array .int)
  | 31 => (.array .int)
  | 32 => (.array .int)
  | _ => .int
abbrev classes : List vw_C := [(cR_C, cF_C, 8), (cR_G, cF_G, 4), (cR_H, cF_H, 3), (cR_R, cF_R, 8), (cR_S, cF_S, 6), (cR_F, cF_F, 2), (cR_T, cF_T, 2), (cR_M, cF_M, 34)]
theorem cN_C : ∀ a, a < 8 → ∀ b, b < 8 → a ≠ b → (cF_C a).2.1 ≠ (cF_C b).2.1 := by decide +kernel
theorem cT_C_ok : ∀ k, k < 8 → parseFieldDescriptor (cF_C k).2.2.1 = some (cT_C k) := by decide +kernel
theorem cN_G : ∀ a, a < 4 → ∀ b, b < 4 → a ≠ b → (cF_G a).2.1 ≠ (cF_G b).2.1 := by decide +kernel
theorem cT_G_ok : ∀ k, k < 4 → parseFieldDescriptor (cF_G k).2.2.1 = some (cT_G k) := by decide +kernel
theorem cN_H : ∀ a, a < 3 → ∀ b, b < 3 → a ≠ b → (cF_H a).2.1 ≠ (cF_H b).2.1 := by decide +kernel
theorem cT_H_ok : ∀ k, k < 3 → parseFieldDescriptor (cF_H k).2.2.1 = some (cT_H k) := by decide +kernel
theorem cN_R : ∀ a, a < 8 → ∀ b, b < 8 → a ≠ b → (cF_R a).2.1 ≠ (cF_R b).2.1 := by decide +kernel
theorem cT_R_ok : ∀ k, k < 8 → parseFieldDescriptor (cF_R k).2.2.1 = some (cT_R k) := by decide +kernel
theorem cN_S : ∀ a, a < 6 → ∀ b, b < 6 → a ≠ b → (cF_S a).2.1 ≠ (cF_S b).2.1 := by decide +kernel
theorem cT_S_ok : ∀ k, k < 6 → parseFieldDescriptor (cF_S k).2.2.1 = some (cT_S k) := by decide +kernel
theorem cN_F : ∀ a, a < 2 → ∀ b, b < 2 → a ≠ b → (cF_F a).2.1 ≠ (cF_F b).2.1 := by decide +kernel
theorem cT_F_ok : ∀ k, k < 2 → parseFieldDescriptor (cF_F k).2.2.1 = some (cT_F k) := by decide +kernel
theorem cN_T : ∀ a, a < 2 → ∀ b, b < 2 → a ≠ b → (cF_T a).2.1 ≠ (cF_T b).2.1 := by decide +kernel
theorem cT_T_ok : ∀ k, k < 2 → parseFieldDescriptor (cF_T k).2.2.1 = some (cT_T k) := by decide +kernel
theorem cN_M : ∀ a, a < 34 → ∀ b, b < 34 → a ≠ b → (cF_M a).2.1 ≠ (cF_M b).2.1 := by decide +kernel
theorem cT_M_ok : ∀ k, k < 34 → parseFieldDescriptor (cF_M k).2.2.1 = some (cT_M k) := by decide +kernel
/-- the words that a call may hand on -/
def am_tbl : List Cond := lw_tbl.filter goodWord
theorem cI_C : ∀ w ∈ u_ws cR_C cF_C 8, w ∈ am_tbl := by decide +kernel
theorem cI_G : ∀ w ∈ u_ws cR_G cF_G 4, w ∈ am_tbl := by decide +kernel
theorem cI_H : ∀ w ∈ u_ws cR_H cF_H 3, w ∈ am_tbl := by decide +kernel
theorem cI_R : ∀ w ∈ u_ws cR_R cF_R 8, w ∈ am_tbl := by decide +kernel
theorem cI_S : ∀ w ∈ u_ws cR_S cF_S 6, w ∈ am_tbl := by decide +kernel
theorem cI_F : ∀ w ∈ u_ws cR_F cF_F 2, w ∈ am_tbl := by decide +kernel
theorem cI_T : ∀ w ∈ u_ws cR_T cF_T 2, w ∈ am_tbl := by decide +kernel
theorem cI_M : ∀ w ∈ u_ws cR_M cF_M 34, w ∈ am_tbl := by decide +kernel
/-- class names by number -/
def am_cn (k : Nat) : String := match k with
  | 0 => "GridColours"
  | 1 => "GridColours$Grid"
  | 2 => "GridColours$History"
  | 3 => "GridColours$Reader"
  | 4 => "GridColours$Seeker"
  | 5 => "GridColours$Shelf"
  | 6 => "GridColours$Tape"
  | 7 => "GridColoursModel"
  | 8 => "GridColoursLaw"
  | 9 => "java/lang/Integer"
  | 10 => "java/lang/Long"
  | _ => "java/lang/Math"
theorem am_cn_lt : ∀ k : Nat, k < 8 → (classes[k]?).map (fun q => q.1) = some (am_cn k) := by decide +kernel
