section
-- ===== PART A: goes FIRST, ahead of the names: the tables' words, and 'selects' of the private methods out of them =====
/-- a private method of a class that the tables say can be made, by its rows of tables_1 -/
def lw_okq (q : MethodName × Nat) : Prop := (q.1.cls ≠ "java/lang/invoke/MethodHandle" ∧ q.1.cls ≠ "java/lang/invoke/VarHandle") ∧ Cond.instantiable q.1.cls q.2 ∈ tables_1 ∧ Cond.privateMethod q.1 ∈ tables_1 ∧ Cond.instanceMethod q.1 ∈ tables_1
theorem lw_p0 : lw_okq (⟨"GridColours$Reader", "step", "(LGridColours$Tape;)V"⟩, 8) := ⟨⟨by decide +kernel, by decide +kernel⟩, List.mem_of_getElem? (i := 63) (by decide +kernel), List.mem_of_getElem? (i := 223) (by decide +kernel), List.mem_of_getElem? (i := 224) (by decide +kernel)⟩
theorem lw_p1 : lw_okq (⟨"GridColours$Reader", "readRun", "(LGridColours$Tape;)V"⟩, 8) := ⟨⟨by decide +kernel, by decide +kernel⟩, List.mem_of_getElem? (i := 63) (by decide +kernel), List.mem_of_getElem? (i := 238) (by decide +kernel), List.mem_of_getElem? (i := 239) (by decide +kernel)⟩
theorem lw_p2 : lw_okq (⟨"GridColours$Reader", "refuse", "(I)Z"⟩, 8) := ⟨⟨by decide +kernel, by decide +kernel⟩, List.mem_of_getElem? (i := 63) (by decide +kernel), List.mem_of_getElem? (i := 248) (by decide +kernel), List.mem_of_getElem? (i := 249) (by decide +kernel)⟩
theorem lw_p3 : lw_okq (⟨"GridColours$Reader", "readGrid", "(LGridColours$Tape;)Z"⟩, 8) := ⟨⟨by decide +kernel, by decide +kernel⟩, List.mem_of_getElem? (i := 63) (by decide +kernel), List.mem_of_getElem? (i := 252) (by decide +kernel), List.mem_of_getElem? (i := 253) (by decide +kernel)⟩
theorem lw_p4 : lw_okq (⟨"GridColours$Reader", "isWord", "(LGridColours$Tape;Ljava/lang/String;)Z"⟩, 8) := ⟨⟨by decide +kernel, by decide +kernel⟩, List.mem_of_getElem? (i := 63) (by decide +kernel), List.mem_of_getElem? (i := 257) (by decide +kernel), List.mem_of_getElem? (i := 258) (by decide +kernel)⟩
theorem lw_p5 : lw_okq (⟨"GridColours$Reader", "readNumber", "(LGridColours$Tape;II)Z"⟩, 8) := ⟨⟨by decide +kernel, by decide +kernel⟩, List.mem_of_getElem? (i := 63) (by decide +kernel), List.mem_of_getElem? (i := 309) (by decide +kernel), List.mem_of_getElem? (i := 310) (by decide +kernel)⟩
theorem lw_p6 : lw_okq (⟨"GridColours$Reader", "readRow", "(LGridColours$Tape;)Z"⟩, 8) := ⟨⟨by decide +kernel, by decide +kernel⟩, List.mem_of_getElem? (i := 63) (by decide +kernel), List.mem_of_getElem? (i := 313) (by decide +kernel), List.mem_of_getElem? (i := 314) (by decide +kernel)⟩
theorem lw_p7 : lw_okq (⟨"GridColours$Grid", "rectangleIn", "(J)J"⟩, 4) := ⟨⟨by decide +kernel, by decide +kernel⟩, List.mem_of_getElem? (i := 43) (by decide +kernel), List.mem_of_getElem? (i := 401) (by decide +kernel), List.mem_of_getElem? (i := 402) (by decide +kernel)⟩
theorem lw_p8 : lw_okq (⟨"GridColours$Grid", "columnsOf", "(JI)I"⟩, 4) := ⟨⟨by decide +kernel, by decide +kernel⟩, List.mem_of_getElem? (i := 43) (by decide +kernel), List.mem_of_getElem? (i := 405) (by decide +kernel), List.mem_of_getElem? (i := 406) (by decide +kernel)⟩
theorem lw_p9 : lw_okq (⟨"GridColours$Grid", "countBetween", "(II)I"⟩, 4) := ⟨⟨by decide +kernel, by decide +kernel⟩, List.mem_of_getElem? (i := 43) (by decide +kernel), List.mem_of_getElem? (i := 453) (by decide +kernel), List.mem_of_getElem? (i := 454) (by decide +kernel)⟩
theorem lw_p10 : lw_okq (⟨"GridColours$Grid", "columnBetween", "(IIIZ)I"⟩, 4) := ⟨⟨by decide +kernel, by decide +kernel⟩, List.mem_of_getElem? (i := 43) (by decide +kernel), List.mem_of_getElem? (i := 457) (by decide +kernel), List.mem_of_getElem? (i := 458) (by decide +kernel)⟩
theorem lw_p11 : lw_okq (⟨"GridColours$Grid", "columnsBetween", "(III)I"⟩, 4) := ⟨⟨by decide +kernel, by decide +kernel⟩, List.mem_of_getElem? (i := 43) (by decide +kernel), List.mem_of_getElem? (i := 461) (by decide +kernel), List.mem_of_getElem? (i := 462) (by decide +kernel)⟩
theorem lw_p12 : lw_okq (⟨"GridColours$Seeker", "goThrough", "()I"⟩, 6) := ⟨⟨by decide +kernel, by decide +kernel⟩, List.mem_of_getElem? (i := 96) (by decide +kernel), List.mem_of_getElem? (i := 523) (by decide +kernel), List.mem_of_getElem? (i := 524) (by decide +kernel)⟩
theorem lw_p13 : lw_okq (⟨"GridColours$Seeker", "listBlanks", "()V"⟩, 6) := ⟨⟨by decide +kernel, by decide +kernel⟩, List.mem_of_getElem? (i := 96) (by decide +kernel), List.mem_of_getElem? (i := 527) (by decide +kernel), List.mem_of_getElem? (i := 528) (by decide +kernel)⟩
theorem lw_p14 : lw_okq (⟨"GridColours$Seeker", "colourBlank", "(I)I"⟩, 6) := ⟨⟨by decide +kernel, by decide +kernel⟩, List.mem_of_getElem? (i := 96) (by decide +kernel), List.mem_of_getElem? (i := 534) (by decide +kernel), List.mem_of_getElem? (i := 535) (by decide +kernel)⟩
theorem lw_p15 : lw_okq (⟨"GridColours", "isFillable", "()Z"⟩, 8) := ⟨⟨by decide +kernel, by decide +kernel⟩, List.mem_of_getElem? (i := 21) (by decide +kernel), List.mem_of_getElem? (i := 553) (by decide +kernel), List.mem_of_getElem? (i := 554) (by decide +kernel)⟩
def lw_privs_1 : List (MethodName × Nat) := [(⟨"GridColours$Reader", "step", "(LGridColours$Tape;)V"⟩, 8), (⟨"GridColours$Reader", "readRun", "(LGridColours$Tape;)V"⟩, 8), (⟨"GridColours$Reader", "refuse", "(I)Z"⟩, 8), (⟨"GridColours$Reader", "readGrid", "(LGridColours$Tape;)Z"⟩, 8), (⟨"GridColours$Reader", "isWord", "(LGridColours$Tape;Ljava/lang/String;)Z"⟩, 8), (⟨"GridColours$Reader", "readNumber", "(LGridColours$Tape;II)Z"⟩, 8), (⟨"GridColours$Reader", "readRow", "(LGridColours$Tape;)Z"⟩, 8), (⟨"GridColours$Grid", "rectangleIn", "(J)J"⟩, 4), (⟨"GridColours$Grid", "columnsOf", "(JI)I"⟩, 4), (⟨"GridColours$Grid", "countBetween", "(II)I"⟩, 4), (⟨"GridColours$Grid", "columnBetween", "(IIIZ)I"⟩, 4), (⟨"GridColours$Grid", "columnsBetween", "(III)I"⟩, 4), (⟨"GridColours$Seeker", "goThrough", "()I"⟩, 6), (⟨"GridColours$Seeker", "listBlanks", "()V"⟩, 6), (⟨"GridColours$Seeker", "colourBlank", "(I)I"⟩, 6), (⟨"GridColours", "isFillable", "()Z"⟩, 8)]
theorem lw_r1 : ∀ q ∈ lw_privs_1, lw_okq q := List.forall_mem_cons.mpr ⟨lw_p0, List.forall_mem_cons.mpr ⟨lw_p1, List.forall_mem_cons.mpr ⟨lw_p2, List.forall_mem_cons.mpr ⟨lw_p3, List.forall_mem_cons.mpr ⟨lw_p4, List.forall_mem_cons.mpr ⟨lw_p5, List.forall_mem_cons.mpr ⟨lw_p6, List.forall_mem_cons.mpr ⟨lw_p7, List.forall_mem_cons.mpr ⟨lw_p8, List.forall_mem_cons.mpr ⟨lw_p9, List.forall_mem_cons.mpr ⟨lw_p10, List.forall_mem_cons.mpr ⟨lw_p11, List.forall_mem_cons.mpr ⟨lw_p12, List.forall_mem_cons.mpr ⟨lw_p13, List.forall_mem_cons.mpr ⟨lw_p14, List.forall_mem_cons.mpr ⟨lw_p15, fun _ h => absurd h List.not_mem_nil⟩⟩⟩⟩⟩⟩⟩⟩⟩⟩⟩⟩⟩⟩⟩⟩
theorem lw_p16 : lw_okq (⟨"GridColours$Shelf", "hasPlace", "(I)Z"⟩, 2) := ⟨⟨by decide +kernel, by decide +kernel⟩, List.mem_of_getElem? (i := 129) (by decide +kernel), List.mem_of_getElem? (i := 573) (by decide +kernel), List.mem_of_getElem? (i := 574) (by decide +kernel)⟩
theorem lw_p17 : lw_okq (⟨"GridColours", "likesByRows", "(I)I"⟩, 8) := ⟨⟨by decide +kernel, by decide +kernel⟩, List.mem_of_getElem? (i := 21) (by decide +kernel), List.mem_of_getElem? (i := 586) (by decide +kernel), List.mem_of_getElem? (i := 587) (by decide +kernel)⟩
theorem lw_p18 : lw_okq (⟨"GridColours$Grid", "moved", "(JII)J"⟩, 4) := ⟨⟨by decide +kernel, by decide +kernel⟩, List.mem_of_getElem? (i := 43) (by decide +kernel), List.mem_of_getElem? (i := 594) (by decide +kernel), List.mem_of_getElem? (i := 595) (by decide +kernel)⟩
theorem lw_p19 : lw_okq (⟨"GridColours$Grid", "isOfOneColour", "(J)Z"⟩, 4) := ⟨⟨by decide +kernel, by decide +kernel⟩, List.mem_of_getElem? (i := 43) (by decide +kernel), List.mem_of_getElem? (i := 598) (by decide +kernel), List.mem_of_getElem? (i := 599) (by decide +kernel)⟩
theorem lw_p20 : lw_okq (⟨"GridColours", "layTape", "()V"⟩, 8) := ⟨⟨by decide +kernel, by decide +kernel⟩, List.mem_of_getElem? (i := 21) (by decide +kernel), List.mem_of_getElem? (i := 611) (by decide +kernel), List.mem_of_getElem? (i := 612) (by decide +kernel)⟩
theorem lw_p21 : lw_okq (⟨"GridColours", "liesApart", "(I)Z"⟩, 8) := ⟨⟨by decide +kernel, by decide +kernel⟩, List.mem_of_getElem? (i := 21) (by decide +kernel), List.mem_of_getElem? (i := 622) (by decide +kernel), List.mem_of_getElem? (i := 623) (by decide +kernel)⟩
theorem lw_p22 : lw_okq (⟨"java/lang/Throwable", "fillInStackTrace", "(I)Ljava/lang/Throwable;"⟩, 6) := ⟨⟨by decide +kernel, by decide +kernel⟩, List.mem_of_getElem? (i := 739) (by decide +kernel), List.mem_of_getElem? (i := 737) (by decide +kernel), List.mem_of_getElem? (i := 738) (by decide +kernel)⟩
theorem lw_p23 : lw_okq (⟨"GridColoursModel", "lay", "(I)V"⟩, 34) := ⟨⟨by decide +kernel, by decide +kernel⟩, List.mem_of_getElem? (i := 795) (by decide +kernel), List.mem_of_getElem? (i := 793) (by decide +kernel), List.mem_of_getElem? (i := 794) (by decide +kernel)⟩
theorem lw_p24 : lw_okq (⟨"GridColoursModel", "next", "()V"⟩, 34) := ⟨⟨by decide +kernel, by decide +kernel⟩, List.mem_of_getElem? (i := 795) (by decide +kernel), List.mem_of_getElem? (i := 915) (by decide +kernel), List.mem_of_getElem? (i := 916) (by decide +kernel)⟩
theorem lw_p25 : lw_okq (⟨"GridColoursModel", "tapeAt", "(I)I"⟩, 34) := ⟨⟨by decide +kernel, by decide +kernel⟩, List.mem_of_getElem? (i := 795) (by decide +kernel), List.mem_of_getElem? (i := 925) (by decide +kernel), List.mem_of_getElem? (i := 926) (by decide +kernel)⟩
theorem lw_p26 : lw_okq (⟨"GridColoursModel", "readLine", "()Z"⟩, 34) := ⟨⟨by decide +kernel, by decide +kernel⟩, List.mem_of_getElem? (i := 795) (by decide +kernel), List.mem_of_getElem? (i := 931) (by decide +kernel), List.mem_of_getElem? (i := 932) (by decide +kernel)⟩
theorem lw_p27 : lw_okq (⟨"GridColoursModel", "isWord", "(J)Z"⟩, 34) := ⟨⟨by decide +kernel, by decide +kernel⟩, List.mem_of_getElem? (i := 795) (by decide +kernel), List.mem_of_getElem? (i := 938) (by decide +kernel), List.mem_of_getElem? (i := 939) (by decide +kernel)⟩
theorem lw_p28 : lw_okq (⟨"GridColoursModel", "readGrid", "()Z"⟩, 34) := ⟨⟨by decide +kernel, by decide +kernel⟩, List.mem_of_getElem? (i := 795) (by decide +kernel), List.mem_of_getElem? (i := 942) (by decide +kernel), List.mem_of_getElem? (i := 943) (by decide +kernel)⟩
theorem lw_p29 : lw_okq (⟨"GridColoursModel", "told", "(II)I"⟩, 34) := ⟨⟨by decide +kernel, by decide +kernel⟩, List.mem_of_getElem? (i := 795) (by decide +kernel), List.mem_of_getElem? (i := 946) (by decide +kernel), List.mem_of_getElem? (i := 947) (by decide +kernel)⟩
theorem lw_p30 : lw_okq (⟨"GridColoursModel", "bad", "(I)Z"⟩, 34) := ⟨⟨by decide +kernel, by decide +kernel⟩, List.mem_of_getElem? (i := 795) (by decide +kernel), List.mem_of_getElem? (i := 950) (by decide +kernel), List.mem_of_getElem? (i := 951) (by decide +kernel)⟩
theorem lw_p31 : lw_okq (⟨"GridColoursModel", "readCells", "()Z"⟩, 34) := ⟨⟨by decide +kernel, by decide +kernel⟩, List.mem_of_getElem? (i := 795) (by decide +kernel), List.mem_of_getElem? (i := 957) (by decide +kernel), List.mem_of_getElem? (i := 958) (by decide +kernel)⟩
def lw_privs_2 : List (MethodName × Nat) := [(⟨"GridColours$Shelf", "hasPlace", "(I)Z"⟩, 2), (⟨"GridColours", "likesByRows", "(I)I"⟩, 8), (⟨"GridColours$Grid", "moved", "(JII)J"⟩, 4), (⟨"GridColours$Grid", "isOfOneColour", "(J)Z"⟩, 4), (⟨"GridColours", "layTape", "()V"⟩, 8), (⟨"GridColours", "liesApart", "(I)Z"⟩, 8), (⟨"java/lang/Throwable", "fillInStackTrace", "(I)Ljava/lang/Throwable;"⟩, 6), (⟨"GridColoursModel", "lay", "(I)V"⟩, 34), (⟨"GridColoursModel", "next", "()V"⟩, 34), (⟨"GridColoursModel", "tapeAt", "(I)I"⟩, 34), (⟨"GridColoursModel", "readLine", "()Z"⟩, 34), (⟨"GridColoursModel", "isWord", "(J)Z"⟩, 34), (⟨"GridColoursModel", "readGrid", "()Z"⟩, 34), (⟨"GridColoursModel", "told", "(II)I"⟩, 34), (⟨"GridColoursModel", "bad", "(I)Z"⟩, 34), (⟨"GridColoursModel", "readCells", "()Z"⟩, 34)]
theorem lw_r2 : ∀ q ∈ lw_privs_2, lw_okq q := List.forall_mem_cons.mpr ⟨lw_p16, List.forall_mem_cons.mpr ⟨lw_p17, List.forall_mem_cons.mpr ⟨lw_p18, List.forall_mem_cons.mpr ⟨lw_p19, List.forall_mem_cons.mpr ⟨lw_p20, List.forall_mem_cons.mpr ⟨lw_p21, List.forall_mem_cons.mpr ⟨lw_p22, List.forall_mem_cons.mpr ⟨lw_p23, List.forall_mem_cons.mpr ⟨lw_p24, List.forall_mem_cons.mpr ⟨lw_p25, List.forall_mem_cons.mpr ⟨lw_p26, List.forall_mem_cons.mpr ⟨lw_p27, List.forall_mem_cons.mpr ⟨lw_p28, List.forall_mem_cons.mpr ⟨lw_p29, List.forall_mem_cons.mpr ⟨lw_p30, List.forall_mem_cons.mpr ⟨lw_p31, fun _ h => absurd h List.not_mem_nil⟩⟩⟩⟩⟩⟩⟩⟩⟩⟩⟩⟩⟩⟩⟩⟩
theorem lw_p32 : lw_okq (⟨"GridColoursModel", "readEnd", "()Z"⟩, 34) := ⟨⟨by decide +kernel, by decide +kernel⟩, List.mem_of_getElem? (i := 795) (by decide +kernel), List.mem_of_getElem? (i := 961) (by decide +kernel), List.mem_of_getElem? (i := 962) (by decide +kernel)⟩
theorem lw_p33 : lw_okq (⟨"GridColoursModel", "high", "()I"⟩, 34) := ⟨⟨by decide +kernel, by decide +kernel⟩, List.mem_of_getElem? (i := 795) (by decide +kernel), List.mem_of_getElem? (i := 976) (by decide +kernel), List.mem_of_getElem? (i := 977) (by decide +kernel)⟩
theorem lw_p34 : lw_okq (⟨"GridColoursModel", "broad", "()I"⟩, 34) := ⟨⟨by decide +kernel, by decide +kernel⟩, List.mem_of_getElem? (i := 795) (by decide +kernel), List.mem_of_getElem? (i := 980) (by decide +kernel), List.mem_of_getElem? (i := 981) (by decide +kernel)⟩
theorem lw_p35 : lw_okq (⟨"GridColoursModel", "blanks", "([I)I"⟩, 34) := ⟨⟨by decide +kernel, by decide +kernel⟩, List.mem_of_getElem? (i := 795) (by decide +kernel), List.mem_of_getElem? (i := 984) (by decide +kernel), List.mem_of_getElem? (i := 985) (by decide +kernel)⟩
theorem lw_p36 : lw_okq (⟨"GridColoursModel", "isGood", "()Z"⟩, 34) := ⟨⟨by decide +kernel, by decide +kernel⟩, List.mem_of_getElem? (i := 795) (by decide +kernel), List.mem_of_getElem? (i := 988) (by decide +kernel), List.mem_of_getElem? (i := 989) (by decide +kernel)⟩
theorem lw_p37 : lw_okq (⟨"GridColoursModel", "laysFours", "(I)V"⟩, 34) := ⟨⟨by decide +kernel, by decide +kernel⟩, List.mem_of_getElem? (i := 795) (by decide +kernel), List.mem_of_getElem? (i := 992) (by decide +kernel), List.mem_of_getElem? (i := 993) (by decide +kernel)⟩
theorem lw_p38 : lw_okq (⟨"GridColoursModel", "cellBit", "(II)J"⟩, 34) := ⟨⟨by decide +kernel, by decide +kernel⟩, List.mem_of_getElem? (i := 795) (by decide +kernel), List.mem_of_getElem? (i := 1002) (by decide +kernel), List.mem_of_getElem? (i := 1003) (by decide +kernel)⟩
theorem lw_p39 : lw_okq (⟨"GridColoursModel", "isCell", "(I)Z"⟩, 34) := ⟨⟨by decide +kernel, by decide +kernel⟩, List.mem_of_getElem? (i := 795) (by decide +kernel), List.mem_of_getElem? (i := 1010) (by decide +kernel), List.mem_of_getElem? (i := 1011) (by decide +kernel)⟩
theorem lw_p40 : lw_okq (⟨"GridColoursModel", "cellMany", "()I"⟩, 34) := ⟨⟨by decide +kernel, by decide +kernel⟩, List.mem_of_getElem? (i := 795) (by decide +kernel), List.mem_of_getElem? (i := 1014) (by decide +kernel), List.mem_of_getElem? (i := 1015) (by decide +kernel)⟩
theorem lw_p41 : lw_okq (⟨"GridColoursModel", "isColour", "(II)Z"⟩, 34) := ⟨⟨by decide +kernel, by decide +kernel⟩, List.mem_of_getElem? (i := 795) (by decide +kernel), List.mem_of_getElem? (i := 1022) (by decide +kernel), List.mem_of_getElem? (i := 1023) (by decide +kernel)⟩
theorem lw_p42 : lw_okq (⟨"GridColoursModel", "refuse", "()I"⟩, 34) := ⟨⟨by decide +kernel, by decide +kernel⟩, List.mem_of_getElem? (i := 795) (by decide +kernel), List.mem_of_getElem? (i := 1026) (by decide +kernel), List.mem_of_getElem? (i := 1027) (by decide +kernel)⟩
theorem lw_p43 : lw_okq (⟨"GridColoursModel", "meets", "(J)Z"⟩, 34) := ⟨⟨by decide +kernel, by decide +kernel⟩, List.mem_of_getElem? (i := 795) (by decide +kernel), List.mem_of_getElem? (i := 1057) (by decide +kernel), List.mem_of_getElem? (i := 1058) (by decide +kernel)⟩
theorem lw_p44 : lw_okq (⟨"GridColoursModel", "laysMost", "(II)I"⟩, 34) := ⟨⟨by decide +kernel, by decide +kernel⟩, List.mem_of_getElem? (i := 795) (by decide +kernel), List.mem_of_getElem? (i := 1068) (by decide +kernel), List.mem_of_getElem? (i := 1069) (by decide +kernel)⟩
theorem lw_p45 : lw_okq (⟨"GridColoursModel", "searches", "()V"⟩, 34) := ⟨⟨by decide +kernel, by decide +kernel⟩, List.mem_of_getElem? (i := 795) (by decide +kernel), List.mem_of_getElem? (i := 1090) (by decide +kernel), List.mem_of_getElem? (i := 1091) (by decide +kernel)⟩
theorem lw_p46 : lw_okq (⟨"GridColoursModel", "snap", "()V"⟩, 34) := ⟨⟨by decide +kernel, by decide +kernel⟩, List.mem_of_getElem? (i := 795) (by decide +kernel), List.mem_of_getElem? (i := 1102) (by decide +kernel), List.mem_of_getElem? (i := 1103) (by decide +kernel)⟩
theorem lw_p47 : lw_okq (⟨"GridColoursModel", "ordersOn", "(IZI)I"⟩, 34) := ⟨⟨by decide +kernel, by decide +kernel⟩, List.mem_of_getElem? (i := 795) (by decide +kernel), List.mem_of_getElem? (i := 1110) (by decide +kernel), List.mem_of_getElem? (i := 1111) (by decide +kernel)⟩
def lw_privs_3 : List (MethodName × Nat) := [(⟨"GridColoursModel", "readEnd", "()Z"⟩, 34), (⟨"GridColoursModel", "high", "()I"⟩, 34), (⟨"GridColoursModel", "broad", "()I"⟩, 34), (⟨"GridColoursModel", "blanks", "([I)I"⟩, 34), (⟨"GridColoursModel", "isGood", "()Z"⟩, 34), (⟨"GridColoursModel", "laysFours", "(I)V"⟩, 34), (⟨"GridColoursModel", "cellBit", "(II)J"⟩, 34), (⟨"GridColoursModel", "isCell", "(I)Z"⟩, 34), (⟨"GridColoursModel", "cellMany", "()I"⟩, 34), (⟨"GridColoursModel", "isColour", "(II)Z"⟩, 34), (⟨"GridColoursModel", "refuse", "()I"⟩, 34), (⟨"GridColoursModel", "meets", "(J)Z"⟩, 34), (⟨"GridColoursModel", "laysMost", "(II)I"⟩, 34), (⟨"GridColoursModel", "searches", "()V"⟩, 34), (⟨"GridColoursModel", "snap", "()V"⟩, 34), (⟨"GridColoursModel", "ordersOn", "(IZI)I"⟩, 34)]
theorem lw_r3 : ∀ q ∈ lw_privs_3, lw_okq q := List.forall_mem_cons.mpr ⟨lw_p32, List.forall_mem_cons.mpr ⟨lw_p33, List.forall_mem_cons.mpr ⟨lw_p34, List.forall_mem_cons.mpr ⟨lw_p35, List.forall_mem_cons.mpr ⟨lw_p36, List.forall_mem_cons.mpr ⟨lw_p37, List.forall_mem_cons.mpr ⟨lw_p38, List.forall_mem_cons.mpr ⟨lw_p39, List.forall_mem_cons.mpr ⟨lw_p40, List.forall_mem_cons.mpr ⟨lw_p41, List.forall_mem_cons.mpr ⟨lw_p42, List.forall_mem_cons.mpr ⟨lw_p43, List.forall_mem_cons.mpr ⟨lw_p44, List.forall_mem_cons.mpr ⟨lw_p45, List.forall_mem_cons.mpr ⟨lw_p46, List.forall_mem_cons.mpr ⟨lw_p47, fun _ h => absurd h List.not_mem_nil⟩⟩⟩⟩⟩⟩⟩⟩⟩⟩⟩⟩⟩⟩⟩⟩
theorem lw_p48 : lw_okq (⟨"GridColoursModel", "isLike", "()Z"⟩, 34) := ⟨⟨by decide +kernel, by decide +kernel⟩, List.mem_of_getElem? (i := 795) (by decide +kernel), List.mem_of_getElem? (i := 1114) (by decide +kernel), List.mem_of_getElem? (i := 1115) (by decide +kernel)⟩
theorem lw_p49 : lw_okq (⟨"GridColoursModel", "isApart", "(II)Z"⟩, 34) := ⟨⟨by decide +kernel, by decide +kernel⟩, List.mem_of_getElem? (i := 795) (by decide +kernel), List.mem_of_getElem? (i := 1126) (by decide +kernel), List.mem_of_getElem? (i := 1127) (by decide +kernel)⟩
theorem lw_p50 : lw_okq (⟨"GridColoursModel", "swap", "(II)V"⟩, 34) := ⟨⟨by decide +kernel, by decide +kernel⟩, List.mem_of_getElem? (i := 795) (by decide +kernel), List.mem_of_getElem? (i := 1138) (by decide +kernel), List.mem_of_getElem? (i := 1139) (by decide +kernel)⟩
theorem lw_p51 : lw_okq (⟨"GridColoursModel", "does", "()Z"⟩, 34) := ⟨⟨by decide +kernel, by decide +kernel⟩, List.mem_of_getElem? (i := 795) (by decide +kernel), List.mem_of_getElem? (i := 1158) (by decide +kernel), List.mem_of_getElem? (i := 1159) (by decide +kernel)⟩
theorem lw_p52 : lw_okq (⟨"GridColoursModel", "draw", "(I)I"⟩, 34) := ⟨⟨by decide +kernel, by decide +kernel⟩, List.mem_of_getElem? (i := 795) (by decide +kernel), List.mem_of_getElem? (i := 1162) (by decide +kernel), List.mem_of_getElem? (i := 1163) (by decide +kernel)⟩
theorem lw_p53 : lw_okq (⟨"GridColoursModel", "stay", "()V"⟩, 34) := ⟨⟨by decide +kernel, by decide +kernel⟩, List.mem_of_getElem? (i := 795) (by decide +kernel), List.mem_of_getElem? (i := 1167) (by decide +kernel), List.mem_of_getElem? (i := 1168) (by decide +kernel)⟩
def lw_privs_4 : List (MethodName × Nat) := [(⟨"GridColoursModel", "isLike", "()Z"⟩, 34), (⟨"GridColoursModel", "isApart", "(II)Z"⟩, 34), (⟨"GridColoursModel", "swap", "(II)V"⟩, 34), (⟨"GridColoursModel", "does", "()Z"⟩, 34), (⟨"GridColoursModel", "draw", "(I)I"⟩, 34), (⟨"GridColoursModel", "stay", "()V"⟩, 34)]
theorem lw_r4 : ∀ q ∈ lw_privs_4, lw_okq q := List.forall_mem_cons.mpr ⟨lw_p48, List.forall_mem_cons.mpr ⟨lw_p49, List.forall_mem_cons.mpr ⟨lw_p50, List.forall_mem_cons.mpr ⟨lw_p51, List.forall_mem_cons.mpr ⟨lw_p52, List.forall_mem_cons.mpr ⟨lw_p53, fun _ h => absurd h List.not_mem_nil⟩⟩⟩⟩⟩⟩
def lw_privs : List (MethodName × Nat) := lw_privs_1 ++ (lw_privs_2 ++ (lw_privs_3 ++ (lw_privs_4)))
def lw_tbl : List Cond := k2_sels lw_privs ++ tables_1
theorem lw_privs_ok : ∀ q ∈ lw_privs, lw_okq q := by
  show ∀ q ∈ lw_privs_1 ++ (lw_privs_2 ++ (lw_privs_3 ++ (lw_privs_4))), lw_okq q
  exact List.forall_mem_append.mpr ⟨lw_r1, List.forall_mem_append.mpr ⟨lw_r2, List.forall_mem_append.mpr ⟨lw_r3, lw_r4⟩⟩⟩
def cR_C : String := "GridColours"
def cF_C : u_T := fun k => match k with
  | 0 => ("GridColours", "tape", "LGridColours$Tape;", true)
  | 1 => ("GridColours", "grid", "LGridColours$Grid;", true)
  | 2 => ("GridColours", "spare", "LGridColours$Grid;", true)
  | 3 => ("GridColours", "reader", "LGridColours$Reader;", true)
  | 4 => ("GridColours", "seeker", "LGridColours$Seeker;", true)
  | 5 => ("GridColours", "history", "LGridColours$History;", true)
  | 6 => ("GridColours", "images", "LGridColours$Shelf;", true)
  | _ => ("GridColours", "latestFault", "I", false)
def cT_C : Nat → FieldType := fun k => match k with
  | 0 => (.object "GridColours$Tape")
  | 1 => (.object "GridColours$Grid")
  | 2 => (.object "GridColours$Grid")
  | 3 => (.object "GridColours$Reader")
  | 4 => (.object "GridColours$Seeker")
  | 5 => (.object "GridColours$History")
  | 6 => (.object "GridColours$Shelf")
  | _ => .int
def cR_G : String := "GridColours$Grid"
def cF_G : u_T := fun k => match k with
  | 0 => ("GridColours$Grid", "sets", "[J", true)
  | 1 => ("GridColours$Grid", "high", "I", false)
  | 2 => ("GridColours$Grid", "wide", "I", false)
  | _ => ("GridColours$Grid", "shades", "I", false)
def cT_G : Nat → FieldType := fun k => match k with
  | 0 => (.array .long)
  | 1 => .int
  | 2 => .int
  | _ => .int
def cR_H : String := "GridColours$History"
def cF_H : u_T := fun k => match k with
  | 0 => ("GridColours$History", "shelf", "LGridColours$Shelf;", true)
  | 1 => ("GridColours$History", "latest", "I", false)
  | _ => ("GridColours$History", "size", "I", false)
def cT_H : Nat → FieldType := fun k => match k with
  | 0 => (.object "GridColours$Shelf")
  | 1 => .int
  | _ => .int
def cR_R : String := "GridColours$Reader"
def cF_R : u_T := fun k => match k with
  | 0 => ("GridColours$Reader", "grid", "LGridColours$Grid;", true)
  | 1 => ("GridColours$Reader", "kind", "I", false)
  | 2 => ("GridColours$Reader", "place", "I", false)
  | 3 => ("GridColours$Reader", "next", "I", false)
  | 4 => ("GridColours$Reader", "value", "I", false)
  | 5 => ("GridColours$Reader", "faultKind", "I", false)
  | 6 => ("GridColours$Reader", "lines", "I", false)
  | _ => ("GridColours$Reader", "rowsTold", "I", false)
def cT_R : Nat → FieldType := fun k => match k with
  | 0 => (.object "GridColours$Grid")
  | 1 => .int
  | 2 => .int
  | 3 => .int
  | 4 => .int
  | 5 => .int
  | 6 => .int
  | _ => .int
def cR_S : String := "GridColours$Seeker"
def cF_S : u_T := fun k => match k with
  | 0 => ("GridColours$Seeker", "searched", "LGridColours$Grid;", true)
  | 1 => ("GridColours$Seeker", "result", "LGridColours$Grid;", true)
  | 2 => ("GridColours$Seeker", "blanks", "[I", true)
  | 3 => ("GridColours$Seeker", "blankCount", "I", false)
  | 4 => ("GridColours$Seeker", "tries", "I", false)
  | _ => ("GridColours$Seeker", "outcome", "I", false)
def cT_S : Nat → FieldType := fun k => match k with
  | 0 => (.object "GridColours$Grid")
  | 1 => (.object "GridColours$Grid")
  | 2 => (.array .int)
  | 3 => .int
  | 4 => .int
  | _ => .int
def cR_F : String := "GridColours$Shelf"
def cF_F : u_T := fun k => match k with
  | 0 => ("GridColours$Shelf", "grids", "[LGridColours$Grid;", true)
  | _ => ("GridColours$Shelf", "isKept", "[Z", true)
def cT_F : Nat → FieldType := fun k => match k with
  | 0 => (.array (.object "GridColours$Grid"))
  | _ => (.array .boolean)
def cR_T : String := "GridColours$Tape"
def cF_T : u_T := fun k => match k with
  | 0 => ("GridColours$Tape", "bytes", "[I", true)
  | _ => ("GridColours$Tape", "length", "I", false)
def cT_T : Nat → FieldType := fun k => match k with
  | 0 => (.array .int)
  | _ => .int
def cR_M : String := "GridColoursModel"
def cF_M : u_T := fun k => match k with
  | 0 => ("GridColoursModel", "thrown", "I", false)
  | 1 => ("GridColoursModel", "tape", "[I", true)
  | 2 => ("GridColoursModel", "taped", "I", false)
  | 3 => ("GridColoursModel", "size", "I", false)
  | 4 => ("GridColoursModel", "to", "I", false)
  | 5 => ("GridColoursModel", "from", "I", false)
  | 6 => ("GridColoursModel", "sort", "I", false)
  | 7 => ("GridColoursModel", "number", "I", false)
  | 8 => ("GridColoursModel", "fault", "I", false)
  | 9 => ("GridColoursModel", "place", "I", false)
  | 10 => ("GridColoursModel", "word", "J", false)
  | 11 => ("GridColoursModel", "now", "[I", true)
  | 12 => ("GridColoursModel", "read", "[I", true)
  | 13 => ("GridColoursModel", "kept", "[I", true)
  | 14 => ("GridColoursModel", "snaps", "[I", true)
  | 15 => ("GridColoursModel", "before", "[I", true)
  | 16 => ("GridColoursModel", "live", "[I", true)
  | 17 => ("GridColoursModel", "tried", "[I", true)
  | 18 => ("GridColoursModel", "isKept", "[Z", true)
  | 19 => ("GridColoursModel", "snapMany", "I", false)
  | 20 => ("GridColoursModel", "rowsRead", "I", false)
  | 21 => ("GridColoursModel", "sides", "[I", true)
  | 22 => ("GridColoursModel", "fours", "[J", true)
  | 23 => ("GridColoursModel", "fourMany", "I", false)
  | 24 => ("GridColoursModel", "mostBy", "[I", true)
  | 25 => ("GridColoursModel", "mostKnown", "[I", true)
  | 26 => ("GridColoursModel", "pairsOf", "[I", true)
  | 27 => ("GridColoursModel", "blank", "[I", true)
  | 28 => ("GridColoursModel", "tries", "I", false)
  | 29 => ("GridColoursModel", "ended", "I", false)
  | 30 => ("GridColoursModel", "rowOrder", "[I", true)
  | 31 => ("GridColoursModel", "columnOrder", "[I", true)
  | 32 => ("GridColoursModel", "named", "[I", true)
  | _ => ("GridColoursModel", "seed", "I", false)
def cT_M : Nat → FieldType := fun k => match k with
  | 0 => .int
  | 1 => (.array .int)
  | 2 => .int
  | 3 => .int
  | 4 => .int
  | 5 => .int
  | 6 => .int
  | 7 => .int
  | 8 => .int
  | 9 => .int
  | 10 => .long
  | 11 => (.array .int)
  | 12 => (.array .int)
  | 13 => (.array .int)
  | 14 => (.array .int)
  | 15 => (.array .int)
  | 16 => (.array .int)
  | 17 => (.array .int)
  | 18 => (.array .boolean)
  | 19 => .int
  | 20 => .int
  | 21 => (.array .int)
  | 22 => (.array .long)
  | 23 => .int
  | 24 => (.array .int)
  | 25 => (.array .int)
  | 26 => (.array .int)
  | 27 => (.array .int)
  | 28 => .int
  | 29 => .int
  | 30 => (.array .int)
  | 31 => (.array .int)
  | 32 => (.array .int)
  | _ => .int
abbrev classes : List vw_C := [(cR_C, cF_C, 8), (cR_G, cF_G, 4), (cR_H, cF_H, 3), (cR_R, cF_R, 8), (cR_S, cF_S, 6), (cR_F, cF_F, 2), (cR_T, cF_T, 2), (cR_M, cF_M, 34)]
theorem cN_C : ∀ a, a < 8 → ∀ b, b < 8 → a ≠ b → (cF_C a).2.1 ≠ (cF_C b).2.1 := by decide +kernel
theorem cT_C_ok : ∀ k, k < 8 → parseFieldDescriptor (cF_C k).2.2.1 = some (cT_C k) := by decide +kernel
theorem cN_G : ∀ a, a < 4 → ∀ b, b < 4 → a ≠ b → (cF_G a).2.1 ≠ (cF_G b).2.1 := by decide +kernel
theorem cT_G_ok : ∀ k, k < 4 → parseFieldDescriptor (cF_G k).2.2.1 = some (cT_G k) := by decide +kernel
theorem cN_H : ∀ a, a < 3 → ∀ b, b < 3 → a ≠ b → (cF_H a).2.1 ≠ (cF_H b).2.1 := by decide +kernel
theorem cT_H_ok : ∀ k, k < 3 → parseFieldDescriptor (cF_H k).2.2.1 = some (cT_H k) := by decide +kernel
theorem cN_R : ∀ a, a < 8 → ∀ b, b < 8 → a ≠ b → (cF_R a).2.1 ≠ (cF_R b).2.1 := by decide +kernel
theorem cT_R_ok : ∀ k, k < 8 → parseFieldDescriptor (cF_R k).2.2.1 = some (cT_R k) := by decide +kernel
theorem cN_S : ∀ a, a < 6 → ∀ b, b < 6 → a ≠ b → (cF_S a).2.1 ≠ (cF_S b).2.1 := by decide +kernel
theorem cT_S_ok : ∀ k, k < 6 → parseFieldDescriptor (cF_S k).2.2.1 = some (cT_S k) := by decide +kernel
theorem cN_F : ∀ a, a < 2 → ∀ b, b < 2 → a ≠ b → (cF_F a).2.1 ≠ (cF_F b).2.1 := by decide +kernel
theorem cT_F_ok : ∀ k, k < 2 → parseFieldDescriptor (cF_F k).2.2.1 = some (cT_F k) := by decide +kernel
theorem cN_T : ∀ a, a < 2 → ∀ b, b < 2 → a ≠ b → (cF_T a).2.1 ≠ (cF_T b).2.1 := by decide +kernel
theorem cT_T_ok : ∀ k, k < 2 → parseFieldDescriptor (cF_T k).2.2.1 = some (cT_T k) := by decide +kernel
theorem cN_M : ∀ a, a < 34 → ∀ b, b < 34 → a ≠ b → (cF_M a).2.1 ≠ (cF_M b).2.1 := by decide +kernel
theorem cT_M_ok : ∀ k, k < 34 → parseFieldDescriptor (cF_M k).2.2.1 = some (cT_M k) := by decide +kernel
/-- the words that a call may hand on -/
def am_tbl : List Cond := lw_tbl.filter goodWord
theorem cI_C : ∀ w ∈ u_ws cR_C cF_C 8, w ∈ am_tbl := by decide +kernel
theorem cI_G : ∀ w ∈ u_ws cR_G cF_G 4, w ∈ am_tbl := by decide +kernel
theorem cI_H : ∀ w ∈ u_ws cR_H cF_H 3, w ∈ am_tbl := by decide +kernel
theorem cI_R : ∀ w ∈ u_ws cR_R cF_R 8, w ∈ am_tbl := by decide +kernel
theorem cI_S : ∀ w ∈ u_ws cR_S cF_S 6, w ∈ am_tbl := by decide +kernel
theorem cI_F : ∀ w ∈ u_ws cR_F cF_F 2, w ∈ am_tbl := by decide +kernel
theorem cI_T : ∀ w ∈ u_ws cR_T cF_T 2, w ∈ am_tbl := by decide +kernel
theorem cI_M : ∀ w ∈ u_ws cR_M cF_M 34, w ∈ am_tbl := by decide +kernel
/-- class names by number -/
def am_cn (k : Nat) : String := match k with
  | 0 => "GridColours"
  | 1 => "GridColours$Grid"
  | 2 => "GridColours$History"
  | 3 => "GridColours$Reader"
  | 4 => "GridColours$Seeker"
  | 5 => "GridColours$Shelf"
  | 6 => "GridColours$Tape"
  | 7 => "GridColoursModel"
  | 8 => "GridColoursLaw"
  | 9 => "java/lang/Integer"
  | 10 => "java/lang/Long"
  | _ => "java/lang/Math"
theorem am_cn_lt : ∀ k : Nat, k < 8 → (classes[k]?).map (fun q => q.1) = some (am_cn k) := by decide +kernel
end
section
/-! A SMALL MACHINE of our own: what the methods do to a list of cells; a reference is a place in that list (0 to 7: cells that were there before; they are only read). -/
abbrev am_E : Type := Option ((Nat × vp_A) ⊕ (Nat × List Value))
/-- cells made, slots made, the cells -/
abbrev am_W : Type := Nat × Nat × List am_E
/-- name, code, places of locals, result, number of its class, places of longs, a constructor or not -/
abbrev am_M : Type := MethodName × ByteArray × Nat × Option FieldType × Nat × List Nat × Bool
abbrev am_F : Type := Nat × List (Option Value) × List Value × am_W
def m_C_init : am_M := (⟨"GridColours", "<init>", "()V"⟩, prog_1_method_1_code, 1, none, 0, [], true)
def m_T_init : am_M := (⟨"GridColours$Tape", "<init>", "()V"⟩, prog_7_method_1_code, 1, none, 6, [], true)
def m_G_init : am_M := (⟨"GridColours$Grid", "<init>", "()V"⟩, prog_2_method_1_code, 1, none, 1, [], true)
def m_R_init : am_M := (⟨"GridColours$Reader", "<init>", "()V"⟩, prog_4_method_1_code, 1, none, 3, [], true)
def m_S_init : am_M := (⟨"GridColours$Seeker", "<init>", "()V"⟩, prog_5_method_1_code, 1, none, 4, [], true)
def m_H_init : am_M := (⟨"GridColours$History", "<init>", "()V"⟩, prog_3_method_1_code, 1, none, 2, [], true)
def m_F_init : am_M := (⟨"GridColours$Shelf", "<init>", "(I)V"⟩, prog_6_method_1_code, 4, none, 5, [], true)
def m_C_feed : am_M := (⟨"GridColours", "feed", "(IIIII)I"⟩, prog_1_method_2_code, 6, (some .int), 0, [], false)
def m_T_length : am_M := (⟨"GridColours$Tape", "length", "()I"⟩, prog_7_method_2_code, 1, (some .int), 6, [], false)
def m_T_append : am_M := (⟨"GridColours$Tape", "append", "(I)V"⟩, prog_7_method_3_code, 3, none, 6, [], false)
def m_C_end : am_M := (⟨"GridColours", "end", "(I)Z"⟩, prog_1_method_3_code, 2, (some .boolean), 0, [], false)
def m_T_cut : am_M := (⟨"GridColours$Tape", "cut", "(I)Z"⟩, prog_7_method_4_code, 2, (some .boolean), 6, [], false)
def m_C_text : am_M := (⟨"GridColours", "text", "()I"⟩, prog_1_method_4_code, 2, (some .int), 0, [], false)
def m_R_read : am_M := (⟨"GridColours$Reader", "read", "(LGridColours$Tape;)Z"⟩, prog_4_method_2_code, 4, (some .boolean), 3, [], false)
def m_G_start : am_M := (⟨"GridColours$Grid", "start", "(III)V"⟩, prog_2_method_10_code, 5, none, 1, [], false)
def m_G_size : am_M := (⟨"GridColours$Grid", "size", "()I"⟩, prog_2_method_5_code, 1, (some .int), 1, [], false)
def m_R_step : am_M := (⟨"GridColours$Reader", "step", "(LGridColours$Tape;)V"⟩, prog_4_method_11_code, 3, none, 3, [], false)
def m_T_byteAt : am_M := (⟨"GridColours$Tape", "byteAt", "(I)I"⟩, prog_7_method_5_code, 2, (some .int), 6, [], false)
def m_R_isBlank : am_M := (⟨"GridColours$Reader", "isBlank", "(I)Z"⟩, prog_4_method_14_code, 1, (some .boolean), 3, [], false)
def m_R_readRun : am_M := (⟨"GridColours$Reader", "readRun", "(LGridColours$Tape;)V"⟩, prog_4_method_12_code, 5, none, 3, [], false)
def m_R_isLetter : am_M := (⟨"GridColours$Reader", "isLetter", "(I)Z"⟩, prog_4_method_15_code, 1, (some .boolean), 3, [], false)
def m_R_isDigit : am_M := (⟨"GridColours$Reader", "isDigit", "(I)Z"⟩, prog_4_method_16_code, 1, (some .boolean), 3, [], false)
def m_R_refuse : am_M := (⟨"GridColours$Reader", "refuse", "(I)Z"⟩, prog_4_method_10_code, 2, (some .boolean), 3, [], false)
def m_R_readGrid : am_M := (⟨"GridColours$Reader", "readGrid", "(LGridColours$Tape;)Z"⟩, prog_4_method_7_code, 4, (some .boolean), 3, [], false)
def m_R_isWord : am_M := (⟨"GridColours$Reader", "isWord", "(LGridColours$Tape;Ljava/lang/String;)Z"⟩, prog_4_method_13_code, 4, (some .boolean), 3, [], false)
def m_R_readNumber : am_M := (⟨"GridColours$Reader", "readNumber", "(LGridColours$Tape;II)Z"⟩, prog_4_method_9_code, 4, (some .boolean), 3, [], false)
def m_R_readRow : am_M := (⟨"GridColours$Reader", "readRow", "(LGridColours$Tape;)Z"⟩, prog_4_method_8_code, 3, (some .boolean), 3, [], false)
def m_G_high : am_M := (⟨"GridColours$Grid", "high", "()I"⟩, prog_2_method_2_code, 1, (some .int), 1, [], false)
def m_G_wide : am_M := (⟨"GridColours$Grid", "wide", "()I"⟩, prog_2_method_3_code, 1, (some .int), 1, [], false)
def m_G_shades : am_M := (⟨"GridColours$Grid", "shades", "()I"⟩, prog_2_method_4_code, 1, (some .int), 1, [], false)
def m_G_cellAt : am_M := (⟨"GridColours$Grid", "cellAt", "(II)I"⟩, prog_2_method_9_code, 3, (some .int), 1, [], false)
def m_G_put : am_M := (⟨"GridColours$Grid", "put", "(II)V"⟩, prog_2_method_15_code, 6, none, 1, [3], false)
def m_G_hasCell : am_M := (⟨"GridColours$Grid", "hasCell", "(I)Z"⟩, prog_2_method_7_code, 2, (some .boolean), 1, [], false)
def m_G_hasColourOrBlank : am_M := (⟨"GridColours$Grid", "hasColourOrBlank", "(I)Z"⟩, prog_2_method_8_code, 2, (some .boolean), 1, [], false)
def m_R_faultKind : am_M := (⟨"GridColours$Reader", "faultKind", "()I"⟩, prog_4_method_3_code, 1, (some .int), 3, [], false)
def m_R_faultPlace : am_M := (⟨"GridColours$Reader", "faultPlace", "()I"⟩, prog_4_method_4_code, 1, (some .int), 3, [], false)
def m_R_told : am_M := (⟨"GridColours$Reader", "told", "()LGridColours$Grid;"⟩, prog_4_method_6_code, 1, (some (.object "GridColours$Grid")), 3, [], false)
def m_G_copy : am_M := (⟨"GridColours$Grid", "copy", "(LGridColours$Grid;)V"⟩, prog_2_method_11_code, 3, none, 1, [], false)
def m_G_cellsOf : am_M := (⟨"GridColours$Grid", "cellsOf", "(I)J"⟩, prog_2_method_13_code, 2, (some .long), 1, [], false)
def m_H_forget : am_M := (⟨"GridColours$History", "forget", "()V"⟩, prog_3_method_5_code, 1, none, 2, [], false)
def m_R_linesRead : am_M := (⟨"GridColours$Reader", "linesRead", "()I"⟩, prog_4_method_5_code, 1, (some .int), 3, [], false)
def m_C_fault : am_M := (⟨"GridColours", "fault", "()I"⟩, prog_1_method_5_code, 1, (some .int), 0, [], false)
def m_C_now : am_M := (⟨"GridColours", "now", "(I)I"⟩, prog_1_method_6_code, 2, (some .int), 0, [], false)
def m_J_bitCount : am_M := (⟨"java/lang/Long", "bitCount", "(J)I"⟩, prog_15_method_50_code, 2, (some .int), 10, [0], false)
def m_G_isGood : am_M := (⟨"GridColours$Grid", "isGood", "()Z"⟩, prog_2_method_21_code, 1, (some .boolean), 1, [], false)
def m_G_anyRectangle : am_M := (⟨"GridColours$Grid", "anyRectangle", "(J)J"⟩, prog_2_method_22_code, 6, (some .long), 1, [1, 4], false)
def m_G_rectangleIn : am_M := (⟨"GridColours$Grid", "rectangleIn", "(J)J"⟩, prog_2_method_23_code, 11, (some .long), 1, [1, 9], false)
def m_G_columnsOf : am_M := (⟨"GridColours$Grid", "columnsOf", "(JI)I"⟩, prog_2_method_18_code, 4, (some .int), 1, [1], false)
def m_H_size : am_M := (⟨"GridColours$History", "size", "()I"⟩, prog_3_method_2_code, 1, (some .int), 2, [], false)
def m_C_at : am_M := (⟨"GridColours", "at", "(I)I"⟩, prog_1_method_7_code, 2, (some .int), 0, [], false)
def m_G_colourOf : am_M := (⟨"GridColours$Grid", "colourOf", "(I)I"⟩, prog_2_method_14_code, 3, (some .int), 1, [], false)
def m_C_rectangles : am_M := (⟨"GridColours", "rectangles", "(I)I"⟩, prog_1_method_9_code, 2, (some .int), 0, [], false)
def m_G_countAll : am_M := (⟨"GridColours$Grid", "countAll", "()I"⟩, prog_2_method_20_code, 3, (some .int), 1, [], false)
def m_G_countOf : am_M := (⟨"GridColours$Grid", "countOf", "(I)I"⟩, prog_2_method_19_code, 8, (some .int), 1, [2], false)
def m_I_bitCount : am_M := (⟨"java/lang/Integer", "bitCount", "(I)I"⟩, prog_14_method_49_code, 1, (some .int), 9, [], false)
def m_C_pairsOf : am_M := (⟨"GridColours", "pairsOf", "(I)I"⟩, prog_1_method_37_code, 1, (some .int), 0, [], false)
def m_C_rectangle : am_M := (⟨"GridColours", "rectangle", "(II)I"⟩, prog_1_method_10_code, 3, (some .int), 0, [], false)
def m_G_sideOf : am_M := (⟨"GridColours$Grid", "sideOf", "(II)I"⟩, prog_2_method_25_code, 7, (some .int), 1, [], false)
def m_G_countBetween : am_M := (⟨"GridColours$Grid", "countBetween", "(II)I"⟩, prog_2_method_26_code, 7, (some .int), 1, [5], false)
def m_G_columnBetween : am_M := (⟨"GridColours$Grid", "columnBetween", "(IIIZ)I"⟩, prog_2_method_27_code, 9, (some .int), 1, [], false)
def m_G_columnsBetween : am_M := (⟨"GridColours$Grid", "columnsBetween", "(III)I"⟩, prog_2_method_28_code, 7, (some .int), 1, [5], false)
def m_C_through : am_M := (⟨"GridColours", "through", "(I)I"⟩, prog_1_method_11_code, 2, (some .int), 0, [], false)
def m_G_countThrough : am_M := (⟨"GridColours$Grid", "countThrough", "(II)I"⟩, prog_2_method_24_code, 11, (some .int), 1, [3], false)
def m_C_worst : am_M := (⟨"GridColours", "worst", "()I"⟩, prog_1_method_12_code, 5, (some .int), 0, [], false)
def m_C_may : am_M := (⟨"GridColours", "may", "(I)I"⟩, prog_1_method_13_code, 4, (some .int), 0, [], false)
def m_C_most : am_M := (⟨"GridColours", "most", "(II)I"⟩, prog_1_method_15_code, 3, (some .int), 0, [], false)
def m_C_isOpenSize : am_M := (⟨"GridColours", "isOpenSize", "(II)Z"⟩, prog_1_method_35_code, 2, (some .boolean), 0, [], false)
def m_C_openCells : am_M := (⟨"GridColours", "openCells", "(II)I"⟩, prog_1_method_36_code, 3, (some .int), 0, [], false)
def m_C_crowded : am_M := (⟨"GridColours", "crowded", "(III)I"⟩, prog_1_method_16_code, 4, (some .int), 0, [], false)
def m_C_paired : am_M := (⟨"GridColours", "paired", "(III)I"⟩, prog_1_method_17_code, 7, (some .int), 0, [], false)
def m_C_search : am_M := (⟨"GridColours", "search", "(I)I"⟩, prog_1_method_18_code, 2, (some .int), 0, [], false)
def m_G_exists : am_M := (⟨"GridColours$Grid", "exists", "()Z"⟩, prog_2_method_6_code, 1, (some .boolean), 1, [], false)
def m_S_seek : am_M := (⟨"GridColours$Seeker", "seek", "(LGridColours$Grid;)V"⟩, prog_5_method_5_code, 2, none, 4, [], false)
def m_G_isSame : am_M := (⟨"GridColours$Grid", "isSame", "(LGridColours$Grid;)Z"⟩, prog_2_method_12_code, 3, (some .boolean), 1, [], false)
def m_S_goThrough : am_M := (⟨"GridColours$Seeker", "goThrough", "()I"⟩, prog_5_method_6_code, 3, (some .int), 4, [], false)
def m_S_listBlanks : am_M := (⟨"GridColours$Seeker", "listBlanks", "()V"⟩, prog_5_method_7_code, 2, none, 4, [], false)
def m_S_colourBlank : am_M := (⟨"GridColours$Seeker", "colourBlank", "(I)I"⟩, prog_5_method_8_code, 5, (some .int), 4, [], false)
def m_S_triesMade : am_M := (⟨"GridColours$Seeker", "triesMade", "()I"⟩, prog_5_method_2_code, 1, (some .int), 4, [], false)
def m_S_outcome : am_M := (⟨"GridColours$Seeker", "outcome", "()I"⟩, prog_5_method_3_code, 1, (some .int), 4, [], false)
def m_C_found : am_M := (⟨"GridColours", "found", "(I)I"⟩, prog_1_method_19_code, 2, (some .int), 0, [], false)
def m_C_isFillable : am_M := (⟨"GridColours", "isFillable", "()Z"⟩, prog_1_method_39_code, 1, (some .boolean), 0, [], false)
def m_S_result : am_M := (⟨"GridColours$Seeker", "result", "()LGridColours$Grid;"⟩, prog_5_method_4_code, 1, (some (.object "GridColours$Grid")), 4, [], false)
def m_C_fill : am_M := (⟨"GridColours", "fill", "()I"⟩, prog_1_method_20_code, 2, (some .int), 0, [], false)
def m_H_keep : am_M := (⟨"GridColours$History", "keep", "(LGridColours$Grid;)V"⟩, prog_3_method_3_code, 2, none, 2, [], false)
def m_F_store : am_M := (⟨"GridColours$Shelf", "store", "(ILGridColours$Grid;)Z"⟩, prog_6_method_3_code, 3, (some .boolean), 5, [], false)
def m_F_hasPlace : am_M := (⟨"GridColours$Shelf", "hasPlace", "(I)Z"⟩, prog_6_method_2_code, 2, (some .boolean), 5, [], false)
def m_C_likes : am_M := (⟨"GridColours", "likes", "()I"⟩, prog_1_method_21_code, 4, (some .int), 0, [], false)
def m_C_isOrder : am_M := (⟨"GridColours", "isOrder", "(II)Z"⟩, prog_1_method_40_code, 4, (some .boolean), 0, [], false)
def m_C_likesByRows : am_M := (⟨"GridColours", "likesByRows", "(I)I"⟩, prog_1_method_41_code, 5, (some .int), 0, [], false)
def m_G_isLikeItself : am_M := (⟨"GridColours$Grid", "isLikeItself", "(II)Z"⟩, prog_2_method_29_code, 4, (some .boolean), 1, [], false)
def m_G_moved : am_M := (⟨"GridColours$Grid", "moved", "(JII)J"⟩, prog_2_method_31_code, 11, (some .long), 1, [1, 5], false)
def m_G_isOfOneColour : am_M := (⟨"GridColours$Grid", "isOfOneColour", "(J)Z"⟩, prog_2_method_30_code, 4, (some .boolean), 1, [1], false)
def m_C_lay : am_M := (⟨"GridColours", "lay", "()I"⟩, prog_1_method_22_code, 2, (some .int), 0, [], false)
def m_T_holdsOnly : am_M := (⟨"GridColours$Tape", "holdsOnly", "(II)Z"⟩, prog_7_method_6_code, 4, (some .boolean), 6, [], false)
def m_C_layTape : am_M := (⟨"GridColours", "layTape", "()V"⟩, prog_1_method_42_code, 5, none, 0, [], false)
def m_C_apart : am_M := (⟨"GridColours", "apart", "()I"⟩, prog_1_method_23_code, 4, (some .int), 0, [], false)
def m_C_liesApart : am_M := (⟨"GridColours", "liesApart", "(I)Z"⟩, prog_1_method_43_code, 7, (some .boolean), 0, [], false)
def m_C_paint : am_M := (⟨"GridColours", "paint", "(II)I"⟩, prog_1_method_24_code, 3, (some .int), 0, [], false)
def m_C_rows : am_M := (⟨"GridColours", "rows", "(II)Z"⟩, prog_1_method_25_code, 4, (some .boolean), 0, [], false)
def m_C_isPairBelow : am_M := (⟨"GridColours", "isPairBelow", "(III)Z"⟩, prog_1_method_38_code, 3, (some .boolean), 0, [], false)
def m_G_exchange : am_M := (⟨"GridColours$Grid", "exchange", "(II)V"⟩, prog_2_method_16_code, 4, none, 1, [], false)
def m_C_columns : am_M := (⟨"GridColours", "columns", "(II)Z"⟩, prog_1_method_26_code, 4, (some .boolean), 0, [], false)
def m_C_name : am_M := (⟨"GridColours", "name", "(II)I"⟩, prog_1_method_27_code, 3, (some .int), 0, [], false)
def m_G_exchangeColours : am_M := (⟨"GridColours$Grid", "exchangeColours", "(II)V"⟩, prog_2_method_17_code, 5, none, 1, [3], false)
def m_C_turn : am_M := (⟨"GridColours", "turn", "()I"⟩, prog_1_method_28_code, 3, (some .int), 0, [], false)
def m_C_drawn : am_M := (⟨"GridColours", "drawn", "(II)I"⟩, prog_1_method_29_code, 4, (some .int), 0, [], false)
def m_C_drawOn : am_M := (⟨"GridColours", "drawOn", "(LGridColours$Grid;II)I"⟩, prog_1_method_44_code, 8, (some .int), 0, [], false)
def m_C_nextState : am_M := (⟨"GridColours", "nextState", "(I)I"⟩, prog_1_method_45_code, 1, (some .int), 0, [], false)
def m_C_drawOf : am_M := (⟨"GridColours", "drawOf", "(II)I"⟩, prog_1_method_46_code, 2, (some .int), 0, [], false)
def m_C_undo : am_M := (⟨"GridColours", "undo", "()I"⟩, prog_1_method_30_code, 1, (some .int), 0, [], false)
def m_H_takeBack : am_M := (⟨"GridColours$History", "takeBack", "(LGridColours$Grid;)Z"⟩, prog_3_method_4_code, 2, (some .boolean), 2, [], false)
def m_F_fetch : am_M := (⟨"GridColours$Shelf", "fetch", "(ILGridColours$Grid;)Z"⟩, prog_6_method_4_code, 3, (some .boolean), 5, [], false)
def m_C_image : am_M := (⟨"GridColours", "image", "(I)Z"⟩, prog_1_method_31_code, 2, (some .boolean), 0, [], false)
def m_C_restore : am_M := (⟨"GridColours", "restore", "(I)Z"⟩, prog_1_method_32_code, 2, (some .boolean), 0, [], false)
def m_C_having : am_M := (⟨"GridColours", "having", "(I)J"⟩, prog_1_method_8_code, 2, (some .long), 0, [], false)
def m_C_mend : am_M := (⟨"GridColours", "mend", "()J"⟩, prog_1_method_14_code, 4, (some .long), 0, [2], false)
def m_C_leastMend : am_M := (⟨"GridColours", "leastMend", "(LGridColours$Grid;JI)J"⟩, prog_1_method_33_code, 11, (some .long), 0, [1, 4, 6, 9], false)
def m_C_isLess : am_M := (⟨"GridColours", "isLess", "(JJ)Z"⟩, prog_1_method_34_code, 4, (some .boolean), 0, [0, 2], false)
def m_M_thrown : am_M := (⟨"GridColoursModel", "thrown", "()I"⟩, prog_9_method_1_code, 1, (some .int), 7, [], false)
def m_M_feed : am_M := (⟨"GridColoursModel", "feed", "(IIIII)I"⟩, prog_9_method_6_code, 6, (some .int), 7, [], false)
def m_M_lay : am_M := (⟨"GridColoursModel", "lay", "(I)V"⟩, prog_9_method_5_code, 3, none, 7, [], false)
def m_M_end : am_M := (⟨"GridColoursModel", "end", "(I)Z"⟩, prog_9_method_7_code, 2, (some .boolean), 7, [], false)
def m_M_init : am_M := (⟨"GridColoursModel", "<init>", "()V"⟩, prog_9_method_15_code, 1, none, 7, [], true)
def m_M_text : am_M := (⟨"GridColoursModel", "text", "()I"⟩, prog_9_method_22_code, 3, (some .int), 7, [], false)
def m_M_next : am_M := (⟨"GridColoursModel", "next", "()V"⟩, prog_9_method_11_code, 5, none, 7, [], false)
def m_M_isLetter : am_M := (⟨"GridColoursModel", "isLetter", "(I)Z"⟩, prog_9_method_10_code, 1, (some .boolean), 7, [], false)
def m_M_isDigit : am_M := (⟨"GridColoursModel", "isDigit", "(I)Z"⟩, prog_9_method_9_code, 1, (some .boolean), 7, [], false)
def m_M_tapeAt : am_M := (⟨"GridColoursModel", "tapeAt", "(I)I"⟩, prog_9_method_8_code, 2, (some .int), 7, [], false)
def m_M_readLine : am_M := (⟨"GridColoursModel", "readLine", "()Z"⟩, prog_9_method_20_code, 1, (some .boolean), 7, [], false)
def m_M_spelt : am_M := (⟨"GridColoursModel", "spelt", "(IIII)J"⟩, prog_9_method_12_code, 6, (some .long), 7, [4], false)
def m_M_isWord : am_M := (⟨"GridColoursModel", "isWord", "(J)Z"⟩, prog_9_method_13_code, 3, (some .boolean), 7, [1], false)
def m_M_readGrid : am_M := (⟨"GridColoursModel", "readGrid", "()Z"⟩, prog_9_method_18_code, 3, (some .boolean), 7, [], false)
def m_M_told : am_M := (⟨"GridColoursModel", "told", "(II)I"⟩, prog_9_method_17_code, 4, (some .int), 7, [], false)
def m_M_bad : am_M := (⟨"GridColoursModel", "bad", "(I)Z"⟩, prog_9_method_14_code, 2, (some .boolean), 7, [], false)
def m_M_isIn : am_M := (⟨"GridColoursModel", "isIn", "(III)Z"⟩, prog_9_method_3_code, 3, (some .boolean), 7, [], false)
def m_M_readCells : am_M := (⟨"GridColoursModel", "readCells", "()Z"⟩, prog_9_method_19_code, 3, (some .boolean), 7, [], false)
def m_M_readEnd : am_M := (⟨"GridColoursModel", "readEnd", "()Z"⟩, prog_9_method_21_code, 1, (some .boolean), 7, [], false)
def m_M_copy : am_M := (⟨"GridColoursModel", "copy", "([II[II)V"⟩, prog_9_method_16_code, 5, none, 7, [], false)
def m_M_fault : am_M := (⟨"GridColoursModel", "fault", "()I"⟩, prog_9_method_23_code, 1, (some .int), 7, [], false)
def m_M_now : am_M := (⟨"GridColoursModel", "now", "(I)I"⟩, prog_9_method_35_code, 2, (some .int), 7, [], false)
def m_M_high : am_M := (⟨"GridColoursModel", "high", "()I"⟩, prog_9_method_24_code, 1, (some .int), 7, [], false)
def m_M_broad : am_M := (⟨"GridColoursModel", "broad", "()I"⟩, prog_9_method_25_code, 1, (some .int), 7, [], false)
def m_M_blanks : am_M := (⟨"GridColoursModel", "blanks", "([I)I"⟩, prog_9_method_34_code, 4, (some .int), 7, [], false)
def m_M_isGood : am_M := (⟨"GridColoursModel", "isGood", "()Z"⟩, prog_9_method_33_code, 1, (some .boolean), 7, [], false)
def m_M_laysFours : am_M := (⟨"GridColoursModel", "laysFours", "(I)V"⟩, prog_9_method_32_code, 7, none, 7, [], false)
def m_M_four : am_M := (⟨"GridColoursModel", "four", "([IIIII)I"⟩, prog_9_method_29_code, 6, (some .int), 7, [], false)
def m_M_colourAt : am_M := (⟨"GridColoursModel", "colourAt", "([III)I"⟩, prog_9_method_28_code, 3, (some .int), 7, [], false)
def m_M_cellBit : am_M := (⟨"GridColoursModel", "cellBit", "(II)J"⟩, prog_9_method_31_code, 3, (some .long), 7, [], false)
def m_M_at : am_M := (⟨"GridColoursModel", "at", "(I)I"⟩, prog_9_method_36_code, 2, (some .int), 7, [], false)
def m_M_isCell : am_M := (⟨"GridColoursModel", "isCell", "(I)Z"⟩, prog_9_method_27_code, 2, (some .boolean), 7, [], false)
def m_M_cellMany : am_M := (⟨"GridColoursModel", "cellMany", "()I"⟩, prog_9_method_26_code, 1, (some .int), 7, [], false)
def m_M_having : am_M := (⟨"GridColoursModel", "having", "(I)J"⟩, prog_9_method_38_code, 5, (some .long), 7, [2], false)
def m_M_isColour : am_M := (⟨"GridColoursModel", "isColour", "(II)Z"⟩, prog_9_method_37_code, 3, (some .boolean), 7, [], false)
def m_M_refuse : am_M := (⟨"GridColoursModel", "refuse", "()I"⟩, prog_9_method_2_code, 1, (some .int), 7, [], false)
def m_M_rectangles : am_M := (⟨"GridColoursModel", "rectangles", "(I)I"⟩, prog_9_method_39_code, 2, (some .int), 7, [], false)
def m_M_rectangle : am_M := (⟨"GridColoursModel", "rectangle", "(II)I"⟩, prog_9_method_40_code, 3, (some .int), 7, [], false)
def m_M_through : am_M := (⟨"GridColoursModel", "through", "(I)I"⟩, prog_9_method_41_code, 2, (some .int), 7, [], false)
def m_M_through_1 : am_M := (⟨"GridColoursModel", "through", "([II)I"⟩, prog_9_method_30_code, 7, (some .int), 7, [], false)
def m_M_worst : am_M := (⟨"GridColoursModel", "worst", "()I"⟩, prog_9_method_42_code, 6, (some .int), 7, [], false)
def m_M_may : am_M := (⟨"GridColoursModel", "may", "(I)I"⟩, prog_9_method_43_code, 4, (some .int), 7, [], false)
def m_M_mend : am_M := (⟨"GridColoursModel", "mend", "()J"⟩, prog_9_method_45_code, 5, (some .long), 7, [], false)
def m_M_meets : am_M := (⟨"GridColoursModel", "meets", "(J)Z"⟩, prog_9_method_44_code, 4, (some .boolean), 7, [1], false)
def m_M_most : am_M := (⟨"GridColoursModel", "most", "(II)I"⟩, prog_9_method_49_code, 3, (some .int), 7, [], false)
def m_M_isSize : am_M := (⟨"GridColoursModel", "isSize", "(II)Z"⟩, prog_9_method_48_code, 2, (some .boolean), 7, [], false)
def m_M_laysMost : am_M := (⟨"GridColoursModel", "laysMost", "(II)I"⟩, prog_9_method_47_code, 10, (some .int), 7, [], false)
def m_M_pairs : am_M := (⟨"GridColoursModel", "pairs", "(II)I"⟩, prog_9_method_46_code, 6, (some .int), 7, [], false)
def m_M_bits : am_M := (⟨"GridColoursModel", "bits", "(I)I"⟩, prog_9_method_4_code, 3, (some .int), 7, [], false)
def m_M_crowded : am_M := (⟨"GridColoursModel", "crowded", "(III)I"⟩, prog_9_method_50_code, 4, (some .int), 7, [], false)
def m_M_paired : am_M := (⟨"GridColoursModel", "paired", "(III)I"⟩, prog_9_method_51_code, 7, (some .int), 7, [], false)
def m_M_search : am_M := (⟨"GridColoursModel", "search", "(I)I"⟩, prog_9_method_53_code, 2, (some .int), 7, [], false)
def m_M_searches : am_M := (⟨"GridColoursModel", "searches", "()V"⟩, prog_9_method_52_code, 5, none, 7, [], false)
def m_M_found : am_M := (⟨"GridColoursModel", "found", "(I)I"⟩, prog_9_method_54_code, 2, (some .int), 7, [], false)
def m_M_fill : am_M := (⟨"GridColoursModel", "fill", "()I"⟩, prog_9_method_55_code, 2, (some .int), 7, [], false)
def m_M_snap : am_M := (⟨"GridColoursModel", "snap", "()V"⟩, prog_9_method_62_code, 2, none, 7, [], false)
def m_M_likes : am_M := (⟨"GridColoursModel", "likes", "()I"⟩, prog_9_method_58_code, 1, (some .int), 7, [], false)
def m_M_ordersOn : am_M := (⟨"GridColoursModel", "ordersOn", "(IZI)I"⟩, prog_9_method_57_code, 7, (some .int), 7, [], false)
def m_M_isLike : am_M := (⟨"GridColoursModel", "isLike", "()Z"⟩, prog_9_method_56_code, 6, (some .boolean), 7, [], false)
def m_M_lay_1 : am_M := (⟨"GridColoursModel", "lay", "()I"⟩, prog_9_method_59_code, 4, (some .int), 7, [], false)
def m_M_apart : am_M := (⟨"GridColoursModel", "apart", "()I"⟩, prog_9_method_61_code, 4, (some .int), 7, [], false)
def m_M_isApart : am_M := (⟨"GridColoursModel", "isApart", "(II)Z"⟩, prog_9_method_60_code, 7, (some .boolean), 7, [], false)
def m_M_paint : am_M := (⟨"GridColoursModel", "paint", "(II)I"⟩, prog_9_method_64_code, 3, (some .int), 7, [], false)
def m_M_rows : am_M := (⟨"GridColoursModel", "rows", "(II)Z"⟩, prog_9_method_66_code, 4, (some .boolean), 7, [], false)
def m_M_swap : am_M := (⟨"GridColoursModel", "swap", "(II)V"⟩, prog_9_method_65_code, 4, none, 7, [], false)
def m_M_columns : am_M := (⟨"GridColoursModel", "columns", "(II)Z"⟩, prog_9_method_67_code, 4, (some .boolean), 7, [], false)
def m_M_name : am_M := (⟨"GridColoursModel", "name", "(II)I"⟩, prog_9_method_68_code, 6, (some .int), 7, [], false)
def m_M_turn : am_M := (⟨"GridColoursModel", "turn", "()I"⟩, prog_9_method_69_code, 3, (some .int), 7, [], false)
def m_M_drawn : am_M := (⟨"GridColoursModel", "drawn", "(II)I"⟩, prog_9_method_72_code, 5, (some .int), 7, [], false)
def m_M_does : am_M := (⟨"GridColoursModel", "does", "()Z"⟩, prog_9_method_71_code, 4, (some .boolean), 7, [], false)
def m_M_draw : am_M := (⟨"GridColoursModel", "draw", "(I)I"⟩, prog_9_method_70_code, 2, (some .int), 7, [], false)
def m_M_stay : am_M := (⟨"GridColoursModel", "stay", "()V"⟩, prog_9_method_63_code, 1, none, 7, [], false)
def m_M_undo : am_M := (⟨"GridColoursModel", "undo", "()I"⟩, prog_9_method_73_code, 1, (some .int), 7, [], false)
def m_M_image : am_M := (⟨"GridColoursModel", "image", "(I)Z"⟩, prog_9_method_74_code, 2, (some .boolean), 7, [], false)
def m_M_restore : am_M := (⟨"GridColoursModel", "restore", "(I)Z"⟩, prog_9_method_75_code, 2, (some .boolean), 7, [], false)
def m_L_law : am_M := (⟨"GridColoursLaw", "law", "([I)Z"⟩, code, 8, some .boolean, 8, [], false)
/-- fields by the class that asks and the index: class, place, kind (0 int, 1 long, 2 reference) -/
def am_fls (own : Nat) : List (Nat × Nat × Nat × Nat) := match own with
  | 0 => [(10, 0, 0, 3), (19, 0, 1, 3), (23, 0, 2, 3), (29, 0, 3, 3), (36, 0, 4, 3), (43, 0, 5, 3), (52, 0, 6, 3), (56, 0, 7, 0)]
  | 1 => [(9, 1, 0, 3), (15, 1, 1, 0), (19, 1, 2, 0), (22, 1, 3, 0)]
  | 2 => [(14, 2, 0, 3), (20, 2, 1, 0), (24, 2, 2, 0)]
  | 3 => [(12, 3, 0, 3), (18, 3, 1, 0), (22, 3, 2, 0), (25, 3, 3, 0), (28, 3, 4, 0), (31, 3, 5, 0), (34, 3, 6, 0), (37, 3, 7, 0)]
  | 4 => [(12, 4, 0, 3), (18, 4, 1, 3), (21, 4, 2, 3), (25, 4, 3, 0), (29, 4, 4, 0), (32, 4, 5, 0)]
  | 5 => [(15, 5, 0, 3), (21, 5, 1, 3)]
  | 6 => [(9, 6, 0, 3), (15, 6, 1, 0)]
  | 7 => [(1, 7, 0, 0), (7, 7, 1, 3), (11, 7, 2, 0), (18, 7, 3, 0), (21, 7, 4, 0), (24, 7, 5, 0), (27, 7, 6, 0), (37, 7, 10, 1), (41, 7, 7, 0), (52, 7, 8, 0), (55, 7, 9, 0), (64, 7, 11, 3), (67, 7, 12, 3), (70, 7, 13, 3), (73, 7, 14, 3), (76, 7, 15, 3), (79, 7, 16, 3), (82, 7, 17, 3), (85, 7, 18, 3), (89, 7, 21, 3), (92, 7, 22, 3), (97, 7, 24, 3), (100, 7, 25, 3), (103, 7, 26, 3), (106, 7, 27, 3), (109, 7, 30, 3), (112, 7, 31, 3), (115, 7, 32, 3), (132, 7, 20, 0), (160, 7, 19, 0), (181, 7, 23, 0), (227, 7, 28, 0), (230, 7, 29, 0), (253, 7, 33, 0)]
  | _ => []
/-- methods by the class that asks and the index: kind (0 invokevirtual, 1 invokestatic, 2 invokespecial, 3 the same of a nest mate, 4 invokestatic of a nest mate, 5 Object(), 6 String.length, 7 String.charAt, 8 the law's having, 9 the law's mend), the method, its arguments -/
def am_mts (own : Nat) : List (Nat × Nat × am_M × Nat) := match own with
  | 0 => [(1, 5, m_C_init, 0), (9, 3, m_T_init, 0), (18, 3, m_G_init, 0), (28, 3, m_R_init, 0), (35, 3, m_S_init, 0), (42, 3, m_H_init, 0), (49, 2, m_F_init, 1), (60, 0, m_T_length, 0), (64, 0, m_T_append, 1), (67, 0, m_T_cut, 1), (71, 0, m_R_read, 1), (75, 0, m_R_faultKind, 0), (78, 0, m_R_faultPlace, 0), (81, 0, m_R_told, 0), (85, 0, m_G_copy, 1), (89, 0, m_H_forget, 0), (92, 0, m_R_linesRead, 0), (95, 0, m_G_high, 0), (98, 0, m_G_wide, 0), (101, 0, m_G_shades, 0), (104, 0, m_G_cellsOf, 1), (108, 1, m_J_bitCount, 1), (114, 0, m_G_isGood, 0), (118, 0, m_H_size, 0), (121, 0, m_G_hasCell, 1), (124, 0, m_G_colourOf, 1), (128, 0, m_G_hasColourOrBlank, 1), (138, 0, m_G_countAll, 0), (141, 0, m_G_countOf, 1), (144, 0, m_G_sideOf, 2), (148, 0, m_G_countThrough, 2), (151, 0, m_G_size, 0), (152, 1, m_C_leastMend, 3), (160, 1, m_C_isOpenSize, 2), (164, 1, m_C_openCells, 2), (167, 1, m_C_pairsOf, 1), (170, 0, m_G_exists, 0), (173, 0, m_S_seek, 1), (176, 0, m_S_triesMade, 0), (179, 0, m_S_outcome, 0), (182, 0, m_C_isFillable, 0), (185, 0, m_S_result, 0), (188, 0, m_H_keep, 1), (191, 1, m_C_isOrder, 2), (194, 0, m_C_likesByRows, 1), (197, 0, m_T_holdsOnly, 2), (200, 0, m_C_layTape, 0), (203, 0, m_C_liesApart, 1), (206, 0, m_G_put, 2), (210, 1, m_C_isPairBelow, 3), (214, 0, m_G_cellAt, 2), (217, 0, m_G_exchange, 2), (220, 0, m_G_exchangeColours, 2), (223, 0, m_G_start, 3), (227, 1, m_C_drawOn, 3), (231, 0, m_H_takeBack, 1), (235, 0, m_F_store, 2), (239, 0, m_F_fetch, 2), (242, 0, m_G_anyRectangle, 1), (246, 1, m_C_isLess, 2), (256, 0, m_G_isLikeItself, 2), (259, 0, m_T_byteAt, 1), (262, 1, m_C_nextState, 1), (265, 1, m_C_drawOf, 2)]
  | 1 => [(3, 5, m_C_init, 0), (25, 0, m_G_size, 0), (31, 0, m_G_cellsOf, 1), (35, 0, m_G_hasCell, 1), (39, 0, m_G_hasColourOrBlank, 1), (42, 0, m_G_colourOf, 1), (46, 0, m_G_put, 2), (50, 0, m_G_columnsOf, 2), (54, 1, m_I_bitCount, 1), (59, 4, m_C_pairsOf, 1), (62, 0, m_G_countOf, 1), (65, 0, m_G_anyRectangle, 1), (69, 0, m_G_rectangleIn, 1), (72, 0, m_G_countBetween, 2), (76, 0, m_G_columnBetween, 4), (80, 0, m_G_columnsBetween, 3), (84, 0, m_G_cellAt, 2), (87, 0, m_G_moved, 3), (91, 0, m_G_isOfOneColour, 1)]
  | 2 => [(3, 5, m_C_init, 0), (11, 2, m_F_init, 1), (27, 0, m_F_store, 2), (31, 10, m_C_init, 2), (37, 0, m_F_fetch, 2)]
  | 3 => [(3, 5, m_C_init, 0), (11, 3, m_G_init, 0), (40, 0, m_G_start, 3), (44, 0, m_R_step, 1), (48, 0, m_T_length, 0), (54, 0, m_R_refuse, 1), (58, 0, m_R_readGrid, 1), (62, 0, m_R_readRow, 1), (66, 0, m_R_isWord, 2), (70, 0, m_R_readNumber, 3), (76, 0, m_G_high, 0), (79, 0, m_G_wide, 0), (82, 0, m_G_shades, 0), (85, 0, m_G_cellAt, 2), (89, 0, m_G_put, 2), (93, 10, m_C_init, 2), (98, 0, m_T_byteAt, 1), (102, 1, m_R_isBlank, 1), (105, 0, m_R_readRun, 1), (108, 1, m_R_isLetter, 1), (111, 1, m_R_isDigit, 1), (114, 6, m_C_init, 0), (117, 7, m_C_init, 1)]
  | 4 => [(3, 5, m_C_init, 0), (11, 3, m_G_init, 0), (35, 0, m_G_isSame, 1), (39, 0, m_G_copy, 1), (43, 0, m_G_isGood, 0), (47, 0, m_S_goThrough, 0), (51, 0, m_S_listBlanks, 0), (55, 0, m_S_colourBlank, 1), (59, 0, m_G_size, 0), (62, 0, m_G_colourOf, 1), (65, 0, m_G_shades, 0), (68, 0, m_G_countThrough, 2), (72, 0, m_G_put, 2)]
  | 5 => [(1, 5, m_C_init, 0), (7, 11, m_C_init, 2), (25, 3, m_G_init, 0), (26, 0, m_F_hasPlace, 1), (30, 0, m_G_copy, 1)]
  | 6 => [(3, 5, m_C_init, 0), (19, 0, m_T_byteAt, 1)]
  | 7 => [(14, 0, m_M_lay, 1), (30, 1, m_M_isLetter, 1), (34, 1, m_M_isDigit, 1), (44, 0, m_M_tapeAt, 1), (58, 5, m_C_init, 0), (118, 0, m_M_bad, 1), (121, 1, m_M_isIn, 3), (125, 0, m_M_next, 0), (128, 0, m_M_told, 2), (135, 1, m_M_spelt, 4), (139, 0, m_M_isWord, 1), (143, 0, m_M_readGrid, 0), (147, 0, m_M_readCells, 0), (150, 0, m_M_readLine, 0), (153, 0, m_M_readEnd, 0), (156, 1, m_M_copy, 4), (163, 0, m_M_high, 0), (167, 0, m_M_broad, 0), (170, 0, m_M_cellMany, 0), (173, 1, m_M_colourAt, 3), (177, 1, m_M_four, 5), (184, 0, m_M_cellBit, 2), (188, 0, m_M_laysFours, 1), (191, 0, m_M_blanks, 1), (195, 0, m_M_isGood, 0), (198, 0, m_M_isCell, 1), (201, 0, m_M_isColour, 2), (205, 0, m_M_refuse, 0), (208, 1, m_M_through_1, 2), (212, 0, m_M_meets, 1), (215, 1, m_M_pairs, 2), (218, 1, m_M_bits, 1), (221, 1, m_M_isSize, 2), (224, 0, m_M_laysMost, 2), (233, 0, m_M_searches, 0), (236, 0, m_M_snap, 0), (239, 0, m_M_ordersOn, 3), (243, 0, m_M_isLike, 0), (246, 0, m_M_isApart, 2), (249, 0, m_M_swap, 2), (257, 0, m_M_draw, 1), (260, 0, m_M_does, 0), (263, 0, m_M_stay, 0)]
  | 8 => [(7, 0, m_C_having, 1), (15, 0, m_C_mend, 0), (19, 2, m_C_init, 0), (22, 2, m_M_init, 0), (23, 0, m_C_feed, 5), (27, 0, m_M_feed, 5), (28, 0, m_C_end, 1), (32, 0, m_M_end, 1), (33, 0, m_C_text, 0), (37, 0, m_M_text, 0), (38, 0, m_C_fault, 0), (41, 0, m_M_fault, 0), (42, 0, m_C_now, 1), (46, 0, m_M_now, 1), (47, 0, m_C_at, 1), (50, 0, m_M_at, 1), (51, 8, m_C_having, 3), (56, 0, m_M_having, 1), (57, 0, m_M_thrown, 0), (60, 0, m_C_rectangles, 1), (63, 0, m_M_rectangles, 1), (64, 0, m_C_rectangle, 2), (68, 0, m_M_rectangle, 2), (69, 0, m_C_through, 1), (72, 0, m_M_through, 1), (73, 0, m_C_worst, 0), (76, 0, m_M_worst, 0), (77, 0, m_C_may, 1), (80, 0, m_M_may, 1), (81, 9, m_C_mend, 2), (84, 0, m_M_mend, 0), (85, 0, m_C_most, 2), (88, 0, m_M_most, 2), (89, 0, m_C_crowded, 3), (93, 0, m_M_crowded, 3), (94, 0, m_C_paired, 3), (97, 0, m_M_paired, 3), (98, 0, m_C_search, 1), (101, 0, m_M_search, 1), (102, 0, m_C_found, 1), (105, 0, m_M_found, 1), (106, 0, m_C_fill, 0), (109, 0, m_M_fill, 0), (110, 0, m_C_likes, 0), (113, 0, m_M_likes, 0), (114, 0, m_C_lay, 0), (117, 0, m_M_lay_1, 0), (118, 0, m_C_apart, 0), (121, 0, m_M_apart, 0), (122, 0, m_C_paint, 2), (125, 0, m_M_paint, 2), (126, 0, m_C_rows, 2), (130, 0, m_M_rows, 2), (131, 0, m_C_columns, 2), (134, 0, m_M_columns, 2), (135, 0, m_C_name, 2), (138, 0, m_M_name, 2), (139, 0, m_C_turn, 0), (142, 0, m_M_turn, 0), (143, 0, m_C_drawn, 2), (146, 0, m_M_drawn, 2), (147, 0, m_C_undo, 0), (150, 0, m_M_undo, 0), (151, 0, m_C_image, 1), (154, 0, m_M_image, 1), (155, 0, m_C_restore, 1), (158, 0, m_M_restore, 1)]
  | _ => []
/-- classes that are made -/
def am_cls (own : Nat) : List (Nat × Nat) := match own with
  | 0 => [(7, 6), (16, 1), (26, 3), (33, 4), (40, 2), (47, 5)]
  | 2 => [(9, 5)]
  | 3 => [(9, 1)]
  | 4 => [(9, 1)]
  | 5 => [(13, 1)]
  | 8 => [(8, 0), (20, 7)]
  | _ => []
/-- constants; texts are special cells: 2 is "grid", 3 is "row" -/
def am_cts (own : Nat) : List (Nat × Value) := match own with
  | 0 => [(156, .long (-1)), (250, .long (-9223372036854775808)), (268, .int 1103515245)]
  | 1 => [(29, .long (-1))]
  | 3 => [(65, .ref 2), (74, .ref 3)]
  | 4 => [(54, .int 1000000)]
  | 7 => [(48, .long 27), (50, .long 96), (96, .int 32768), (256, .int 1103515245)]
  | 9 => [(265, .int 1431655765), (266, .int 858993459), (267, .int 252645135)]
  | 10 => [(314, .long 6148914691236517205), (316, .long 3689348814741910323), (318, .long 1085102592571150095)]
  | _ => []
def am_gs : Nat := 252
def am_fl (own idx : Nat) : Option (Nat × Nat × Nat) := (am_fls own).lookup idx
def am_mt (own idx : Nat) : Option (Nat × am_M × Nat) := (am_mts own).lookup idx
def am_cl (own idx : Nat) : Option Nat := (am_cls own).lookup idx
def am_ct (own idx : Nat) : Option Value := (am_cts own).lookup idx
-- cells
def am_ob (w : am_W) (i : Nat) : Option (Nat × List Value) := match w.2.2[i]? with
  | some (some (.inr o)) => some o
  | _ => none
def am_ar (w : am_W) (i : Nat) : Option (Nat × vp_A) := match w.2.2[i]? with
  | some (some (.inl a)) => some a
  | _ => none
def am_st1 (w : am_W) (i : Nat) (e : (Nat × vp_A) ⊕ (Nat × List Value)) : am_W := (w.1, w.2.1, w.2.2.set i (some e))
def am_gv (w : am_W) (i ci k : Nat) : Option Value := match am_ob w i with
  | some (c, fs) => if c = ci then fs[k]? else none
  | none => none
def am_gi (w : am_W) (i ci k : Nat) : Option Int32 := match am_gv w i ci k with
  | some (.int x) => some x
  | _ => none
def am_gl (w : am_W) (i ci k : Nat) : Option Int64 := match am_gv w i ci k with
  | some (.long x) => some x
  | _ => none
def am_gr (w : am_W) (i ci k : Nat) : Option Nat := match am_gv w i ci k with
  | some (.ref x) => some x
  | _ => none
def am_pv (w : am_W) (i ci k : Nat) (v : Value) : Option am_W := match am_ob w i with
  | some (c, fs) => if c = ci ∧ k < fs.length ∧ 8 ≤ i then some (am_st1 w i (.inr (c, fs.set k v))) else none
  | none => none
def am_al (w : am_W) (i : Nat) : Option Int32 := match am_ar w i with
  | some (t, n, _) => if t < 4 then some (Int32.ofNat n) else none
  | none => none
def am_ai (w : am_W) (i : Nat) (j : Int32) : Option Int32 := match am_ar w i with
  | some (0, n, .inl f) => if j < 0 ∨ n ≤ j.toNatClampNeg then none else some (f j.toNatClampNeg)
  | _ => none
def am_aj (w : am_W) (i : Nat) (j : Int32) : Option Int64 := match am_ar w i with
  | some (1, n, .inr (.inl f)) => if j < 0 ∨ n ≤ j.toNatClampNeg then none else some (f j.toNatClampNeg)
  | _ => none
def am_az (w : am_W) (i : Nat) (j : Int32) : Option Int32 := match am_ar w i with
  | some (2, n, .inl f) => if j < 0 ∨ n ≤ j.toNatClampNeg then none else some (f j.toNatClampNeg)
  | _ => none
def am_ax (w : am_W) (i : Nat) (j : Int32) : Option Nat := match am_ar w i with
  | some (3, n, .inr (.inr (.inr (.inr f)))) => if j < 0 ∨ n ≤ j.toNatClampNeg then none else f j.toNatClampNeg
  | _ => none
def am_si (w : am_W) (i : Nat) (j x : Int32) : Option am_W := match am_ar w i with
  | some (0, n, .inl f) => if j < 0 ∨ n ≤ j.toNatClampNeg ∨ i < 8 then none else some (am_st1 w i (.inl (0, n, .inl (upd f j.toNatClampNeg x))))
  | _ => none
def am_sj (w : am_W) (i : Nat) (j : Int32) (x : Int64) : Option am_W := match am_ar w i with
  | some (1, n, .inr (.inl f)) => if j < 0 ∨ n ≤ j.toNatClampNeg ∨ i < 8 then none else some (am_st1 w i (.inl (1, n, .inr (.inl (vp_updL f j.toNatClampNeg x)))))
  | _ => none
def am_sz (w : am_W) (i : Nat) (j x : Int32) : Option am_W := match am_ar w i with
  | some (2, n, .inl f) => if j < 0 ∨ n ≤ j.toNatClampNeg ∨ i < 8 then none else some (am_st1 w i (.inl (2, n, .inl (upd f j.toNatClampNeg (vp_nar .boolean x)))))
  | _ => none
def am_sx (w : am_W) (i : Nat) (j : Int32) (x : Nat) : Option am_W := match am_ar w i, am_ob w x with
  | some (3, n, .inr (.inr (.inr (.inr f)))), some (1, _) => if j < 0 ∨ n ≤ j.toNatClampNeg ∨ i < 8 ∨ x < 8 then none else some (am_st1 w i (.inl (3, n, .inr (.inr (.inr (.inr (va_up f j.toNatClampNeg (some x))))))))
  | _, _ => none
/-- what a new object holds -/
def am_df (ci : Nat) : Option (List Value) := match ci with
  | 0 => some [.null, .null, .null, .null, .null, .null, .null, .int 0]
  | 1 => some [.null, .int 0, .int 0, .int 0]
  | 2 => some [.null, .int 0, .int 0]
  | 3 => some [.null, .int 0, .int 0, .int 0, .int 0, .int 0, .int 0, .int 0]
  | 4 => some [.null, .null, .null, .int 0, .int 0, .int 0]
  | 5 => some [.null, .null]
  | 6 => some [.null, .int 0]
  | 7 => some [.int 0, .null, .int 0, .int 0, .int 0, .int 0, .int 0, .int 0, .int 0, .int 0, .long 0, .null, .null, .null, .null, .null, .null, .null, .null, .int 0, .int 0, .null, .null, .int 0, .null, .null, .null, .null, .int 0, .int 0, .null, .null, .null, .int 0]
  | _ => none
def am_nw (w : am_W) (e : (Nat × vp_A) ⊕ (Nat × List Value)) (n : Nat) : Option am_W := if w.1 + 8 = w.2.2.length then some (w.1 + 1, w.2.1 + n, w.2.2 ++ [some e]) else none
/-- a new array of n places: ints, longs, booleans, references -/
def am_na (w : am_W) (t : Nat) (n : Int32) : Option am_W := if n < 0 ∨ 100000 < n.toNatClampNeg then none else match t with
  | 0 => am_nw w (.inl (0, n.toNatClampNeg, .inl (fun _ => 0))) n.toNatClampNeg
  | 1 => am_nw w (.inl (1, n.toNatClampNeg, .inr (.inl (fun _ => 0)))) n.toNatClampNeg
  | 2 => am_nw w (.inl (2, n.toNatClampNeg, .inl (fun _ => 0))) n.toNatClampNeg
  | 3 => am_nw w (.inl (3, n.toNatClampNeg, .inr (.inr (.inr (.inr (fun _ => none)))))) n.toNatClampNeg
  | _ => none
/-- texts as rows of signs -/
def am_tl (w : am_W) (i : Nat) : Option Int32 := match am_ar w i with
  | some (9, n, .inl _) => if i < 8 then some (Int32.ofNat n) else none
  | _ => none
def am_tc (w : am_W) (i : Nat) (j : Int32) : Option Int32 := match am_ar w i with
  | some (9, n, .inl f) => if j < 0 ∨ n ≤ j.toNatClampNeg ∨ 8 ≤ i then none else some (f j.toNatClampNeg)
  | _ => none
-- steps
def am_tg (pc : Nat) (off : Int) : Option Nat := if 0 ≤ (pc : Int) + off then some ((pc : Int) + off).toNat else none
def am_br (c : Bool) (pc : Nat) (off : Int) (ls : List (Option Value)) (r : List Value) (w : am_W) : Option am_F := match am_tg pc off with
  | some t => (match c with
    | true => some (t, ls, r, w)
    | false => some (pc + 3, ls, r, w))
  | none => none
def am_b2 (f : Int32 → Int32 → Int32) (pc : Nat) (ls : List (Option Value)) (st : List Value) (w : am_W) : Option am_F := match st with
  | .int y :: .int x :: r => some (pc + 1, ls, .int (f x y) :: r, w)
  | _ => none
def am_l2 (f : Int64 → Int64 → Int64) (pc : Nat) (ls : List (Option Value)) (st : List Value) (w : am_W) : Option am_F := match st with
  | .long y :: .long x :: r => some (pc + 1, ls, .long (f x y) :: r, w)
  | _ => none
def am_ldi (k len pc : Nat) (ls : List (Option Value)) (st : List Value) (w : am_W) : Option am_F := match ls[k]? with
  | some (some (.int x)) => some (pc + len, ls, .int x :: st, w)
  | _ => none
def am_ldl (M : am_M) (k len pc : Nat) (ls : List (Option Value)) (st : List Value) (w : am_W) : Option am_F := match ls[k]? with
  | some (some (.long x)) => if k ∈ M.2.2.2.2.2.1 then some (pc + len, ls, .long x :: st, w) else none
  | _ => none
def am_lda (k len pc : Nat) (ls : List (Option Value)) (st : List Value) (w : am_W) : Option am_F := match ls[k]? with
  | some (some (.ref x)) => some (pc + len, ls, .ref x :: st, w)
  | _ => none
/-- may a value of one place, or of two, be stored at k -/
def am_ok1 (M : am_M) (k : Nat) : Bool := decide (k < M.2.2.1) && M.2.2.2.2.2.1.all (fun q => !(q + 1 == k))
def am_ok2 (M : am_M) (k : Nat) : Bool := decide (k + 1 < M.2.2.1) && M.2.2.2.2.2.1.all (fun q => !(q + 1 == k)) && M.2.2.2.2.2.1.contains k
def am_sti (M : am_M) (k len pc : Nat) (ls : List (Option Value)) (st : List Value) (w : am_W) : Option am_F := match st with
  | .int x :: r => if am_ok1 M k = true then some (pc + len, ls.set k (some (.int x)), r, w) else none
  | _ => none
def am_sta (M : am_M) (k len pc : Nat) (ls : List (Option Value)) (st : List Value) (w : am_W) : Option am_F := match st with
  | .ref x :: r => if am_ok1 M k = true then some (pc + len, ls.set k (some (.ref x)), r, w) else none
  | _ => none
def am_stl (M : am_M) (k len pc : Nat) (ls : List (Option Value)) (st : List Value) (w : am_W) : Option am_F := match st with
  | .long x :: r => if am_ok2 M k = true then some (pc + len, (ls.set k (some (.long x))).set (k + 1) none, r, w) else none
  | _ => none
def am_getf (own idx pc : Nat) (ls : List (Option Value)) (st : List Value) (w : am_W) : Option am_F := match am_fl own idx, st with
  | some (ci, k, 0), .ref i :: r => match am_gi w i ci k with
    | some x => some (pc + 3, ls, .int x :: r, w)
    | none => none
  | some (ci, k, 1), .ref i :: r => match am_gl w i ci k with
    | some x => some (pc + 3, ls, .long x :: r, w)
    | none => none
  | some (ci, k, 2), .ref i :: r => match am_gr w i ci k with
    | some x => some (pc + 3, ls, .ref x :: r, w)
    | none => none
  | some (ci, k, 3), .ref i :: r => match am_gr w i ci k with
    | some x => some (pc + 3, ls, .ref x :: r, w)
    | none => none
  | _, _ => none
def am_putf (ini : Bool) (own idx pc : Nat) (ls : List (Option Value)) (st : List Value) (w : am_W) : Option am_F := match am_fl own idx, st with
  | some (ci, k, 0), .int x :: .ref i :: r => match am_pv w i ci k (.int x) with
    | some w' => some (pc + 3, ls, r, w')
    | none => none
  | some (ci, k, 1), .long x :: .ref i :: r => match am_pv w i ci k (.long x) with
    | some w' => some (pc + 3, ls, r, w')
    | none => none
  | some (ci, k, 2), .ref x :: .ref i :: r => match am_pv w i ci k (.ref x) with
    | some w' => some (pc + 3, ls, r, w')
    | none => none
  | some (ci, k, 3), .ref x :: .ref i :: r => if ini = true then (match am_pv w i ci k (.ref x) with
    | some w' => some (pc + 3, ls, r, w')
    | none => none) else none
  | _, _ => none
/-- one step that stays in the method -/
def am_st (M : am_M) (i : Instr) (len pc : Nat) (ls : List (Option Value)) (st : List Value) (w : am_W) : Option am_F := match i with
  | .iconst n => if len = 1 then some (pc + 1, ls, .int (Int32.ofInt n) :: st, w) else none
  | .bipush n => if len = 2 then some (pc + 2, ls, .int (Int8.ofInt n).toInt32 :: st, w) else none
  | .sipush n => if len = 3 then some (pc + 3, ls, .int (Int16.ofInt n).toInt32 :: st, w) else none
  | .lconst n => if len = 1 then some (pc + 1, ls, .long (Int64.ofNat (n : Nat)) :: st, w) else none
  | .ldc k => if len = 2 then (match am_ct M.2.2.2.2.1 k with
    | some (.int x) => some (pc + 2, ls, .int x :: st, w)
    | some (.ref x) => some (pc + 2, ls, .ref x :: st, w)
    | _ => none) else none
  | .ldc_w k => if len = 3 then (match am_ct M.2.2.2.2.1 k with
    | some (.int x) => some (pc + 3, ls, .int x :: st, w)
    | _ => none) else none
  | .ldc2_w k => if len = 3 then (match am_ct M.2.2.2.2.1 k with
    | some (.long x) => some (pc + 3, ls, .long x :: st, w)
    | _ => none) else none
  | .iload_n k => if len = 1 then am_ldi k 1 pc ls st w else none
  | .iload k => if len = 2 then am_ldi k 2 pc ls st w else none
  | .lload_n k => if len = 1 then am_ldl M k 1 pc ls st w else none
  | .lload k => if len = 2 then am_ldl M k 2 pc ls st w else none
  | .aload_n k => if len = 1 then am_lda k 1 pc ls st w else none
  | .aload k => if len = 2 then am_lda k 2 pc ls st w else none
  | .istore_n k => if len = 1 then am_sti M k 1 pc ls st w else none
  | .istore k => if len = 2 then am_sti M k 2 pc ls st w else none
  | .lstore_n k => if len = 1 then am_stl M k 1 pc ls st w else none
  | .lstore k => if len = 2 then am_stl M k 2 pc ls st w else none
  | .astore_n k => if len = 1 then am_sta M k 1 pc ls st w else none
  | .astore k => if len = 2 then am_sta M k 2 pc ls st w else none
  | .iinc k n => if len = 3 then (match ls[k]? with
    | some (some (.int x)) => if am_ok1 M k = true then some (pc + 3, ls.set k (some (.int (x + Int32.ofInt n))), st, w) else none
    | _ => none) else none
  | .iadd => if len = 1 then am_b2 (· + ·) pc ls st w else none
  | .isub => if len = 1 then am_b2 (· - ·) pc ls st w else none
  | .imul => if len = 1 then am_b2 (· * ·) pc ls st w else none
  | .iand => if len = 1 then am_b2 (· &&& ·) pc ls st w else none
  | .ior => if len = 1 then am_b2 (· ||| ·) pc ls st w else none
  | .ixor => if len = 1 then am_b2 (· ^^^ ·) pc ls st w else none
  | .ishl => if len = 1 then am_b2 (fun x y => x <<< (y &&& 31)) pc ls st w else none
  | .ishr => if len = 1 then am_b2 (fun x y => x >>> (y &&& 31)) pc ls st w else none
  | .iushr => if len = 1 then am_b2 (fun x y => (x.toUInt32 >>> (y.toUInt32 &&& Int32.toUInt32 31)).toInt32) pc ls st w else none
  | .idiv => if len = 1 then (match st with
    | .int y :: .int x :: r => if y = 0 then none else some (pc + 1, ls, .int (x / y) :: r, w)
    | _ => none) else none
  | .irem => if len = 1 then (match st with
    | .int y :: .int x :: r => if y = 0 then none else some (pc + 1, ls, .int (x - x / y * y) :: r, w)
    | _ => none) else none
  | .ineg => if len = 1 then (match st with
    | .int x :: r => some (pc + 1, ls, .int (-x) :: r, w)
    | _ => none) else none
  | .ladd => if len = 1 then am_l2 (· + ·) pc ls st w else none
  | .lsub => if len = 1 then am_l2 (· - ·) pc ls st w else none
  | .lmul => if len = 1 then am_l2 (· * ·) pc ls st w else none
  | .land => if len = 1 then am_l2 (· &&& ·) pc ls st w else none
  | .lor => if len = 1 then am_l2 (· ||| ·) pc ls st w else none
  | .lxor => if len = 1 then am_l2 (· ^^^ ·) pc ls st w else none
  | .lshl => if len = 1 then (match st with
    | .int y :: .long x :: r => some (pc + 1, ls, .long (x <<< (y.toInt64 &&& 63)) :: r, w)
    | _ => none) else none
  | .lushr => if len = 1 then (match st with
    | .int y :: .long x :: r => some (pc + 1, ls, .long (x.toUInt64 >>> (y.toInt64.toUInt64 &&& Int64.toUInt64 63)).toInt64 :: r, w)
    | _ => none) else none
  | .lcmp => if len = 1 then (match st with
    | .long y :: .long x :: r => some (pc + 1, ls, .int (lg_cmp x y) :: r, w)
    | _ => none) else none
  | .i2l => if len = 1 then (match st with
    | .int x :: r => some (pc + 1, ls, .long x.toInt64 :: r, w)
    | _ => none) else none
  | .l2i => if len = 1 then (match st with
    | .long x :: r => some (pc + 1, ls, .int x.toInt32 :: r, w)
    | _ => none) else none
  | .dup => if len = 1 then (match st with
    | .int x :: r => some (pc + 1, ls, .int x :: .int x :: r, w)
    | .ref x :: r => some (pc + 1, ls, .ref x :: .ref x :: r, w)
    | _ => none) else none
  | .dup2 => if len = 1 then (match st with
    | .int y :: .ref x :: r => some (pc + 1, ls, .int y :: .ref x :: .int y :: .ref x :: r, w)
    | _ => none) else none
  | .pop => if len = 1 then (match st with
    | .int _ :: r => some (pc + 1, ls, r, w)
    | .ref _ :: r => some (pc + 1, ls, r, w)
    | _ => none) else none
  | .goto off => if len = 3 then (match am_tg pc off with
    | some t => some (t, ls, st, w)
    | none => none) else none
  | .ifCond c off => if len = 3 then (match st with
    | .int x :: r => (match c with
      | .eq => am_br (decide (x = 0)) pc off ls r w
      | .ne => am_br (decide (¬ x = 0)) pc off ls r w
      | .lt => am_br (decide (x < 0)) pc off ls r w
      | .ge => am_br (decide (0 ≤ x)) pc off ls r w
      | .gt => am_br (decide (0 < x)) pc off ls r w
      | .le => am_br (decide (x ≤ 0)) pc off ls r w)
    | _ => none) else none
  | .if_icmp c off => if len = 3 then (match st with
    | .int y :: .int x :: r => (match c with
      | .eq => am_br (decide (x = y)) pc off ls r w
      | .ne => am_br (decide (¬ x = y)) pc off ls r w
      | .lt => am_br (decide (x < y)) pc off ls r w
      | .ge => am_br (decide (y ≤ x)) pc off ls r w
      | .gt => am_br (decide (y < x)) pc off ls r w
      | .le => am_br (decide (x ≤ y)) pc off ls r w)
    | _ => none) else none
  | .ifnull _ => if len = 3 then (match st with
    | .ref _ :: r => some (pc + 3, ls, r, w)
    | _ => none) else none
  | .tableswitch d lo hi offs => match st with
    | .int x :: r => if x.toInt < lo ∨ hi < x.toInt then (match am_tg pc d with
        | some t => some (t, ls, r, w)
        | none => none) else (match offs[(x.toInt - lo).toNat]? with
        | some o => (match am_tg pc o with
          | some t => some (t, ls, r, w)
          | none => none)
        | none => none)
    | _ => none
  | .getfield k => if len = 3 then am_getf M.2.2.2.2.1 k pc ls st w else none
  | .putfield k => if len = 3 then am_putf M.2.2.2.2.2.2 M.2.2.2.2.1 k pc ls st w else none
  | .getstatic k => if len = 3 ∧ M.2.2.2.2.1 = 0 ∧ k = am_gs then some (pc + 3, ls, .ref 1 :: st, w) else none
  | .iaload => if len = 1 then (match st with
    | .int j :: .ref a :: r => (match am_ai w a j with
      | some x => some (pc + 1, ls, .int x :: r, w)
      | none => none)
    | _ => none) else none
  | .laload => if len = 1 then (match st with
    | .int j :: .ref a :: r => (match am_aj w a j with
      | some x => some (pc + 1, ls, .long x :: r, w)
      | none => none)
    | _ => none) else none
  | .baload => if len = 1 then (match st with
    | .int j :: .ref a :: r => (match am_az w a j with
      | some x => some (pc + 1, ls, .int x :: r, w)
      | none => none)
    | _ => none) else none
  | .aaload => if len = 1 then (match st with
    | .int j :: .ref a :: r => (match am_ax w a j with
      | some x => some (pc + 1, ls, .ref x :: r, w)
      | none => none)
    | _ => none) else none
  | .iastore => if len = 1 then (match st with
    | .int x :: .int j :: .ref a :: r => (match am_si w a j x with
      | some w' => some (pc + 1, ls, r, w')
      | none => none)
    | _ => none) else none
  | .lastore => if len = 1 then (match st with
    | .long x :: .int j :: .ref a :: r => (match am_sj w a j x with
      | some w' => some (pc + 1, ls, r, w')
      | none => none)
    | _ => none) else none
  | .bastore => if len = 1 then (match st with
    | .int x :: .int j :: .ref a :: r => (match am_sz w a j x with
      | some w' => some (pc + 1, ls, r, w')
      | none => none)
    | _ => none) else none
  | .aastore => if len = 1 then (match st with
    | .ref x :: .int j :: .ref a :: r => (match am_sx w a j x with
      | some w' => some (pc + 1, ls, r, w')
      | none => none)
    | _ => none) else none
  | .arraylength => if len = 1 then (match st with
    | .ref a :: r => (match am_al w a with
      | some x => some (pc + 1, ls, .int x :: r, w)
      | none => none)
    | _ => none) else none
  | .newarray t => if len = 2 then (match st with
    | .int n :: r => (match am_na w (match t with | .int => 0 | .long => 1 | .boolean => 2 | _ => 9) n with
      | some w' => some (pc + 2, ls, .ref w.2.2.length :: r, w')
      | none => none)
    | _ => none) else none
  | .anewarray k => if len = 3 ∧ am_cl M.2.2.2.2.1 k = some 1 then (match st with
    | .int n :: r => (match am_na w 3 n with
      | some w' => some (pc + 3, ls, .ref w.2.2.length :: r, w')
      | none => none)
    | _ => none) else none
  | .new k => if len = 3 then (match am_cl M.2.2.2.2.1 k with
    | some ci => (match am_df ci with
      | some fs => (match am_nw w (.inr (ci, fs)) fs.length with
        | some w' => some (pc + 3, ls, .ref w.2.2.length :: st, w')
        | none => none)
      | none => none)
    | none => none) else none
  | .invokespecial k => if len = 3 then (match am_mt M.2.2.2.2.1 k, st with
    | some (5, _, _), .ref _ :: r => if (r.map fun v => v.category).sum ≤ 8 then some (pc + 3, ls, r, w) else none
    | _, _ => none) else none
  | .invokestatic k => if len = 3 then (match am_mt M.2.2.2.2.1 k, st with
    | some (10, _, _), .int y :: .int x :: r => if (r.map fun v => v.category).sum ≤ 8 then some (pc + 3, ls, .int (if y < x then y else x) :: r, w) else none
    | some (11, _, _), .int y :: .int x :: r => if (r.map fun v => v.category).sum ≤ 8 then some (pc + 3, ls, .int (if x < y then y else x) :: r, w) else none
    | _, _ => none) else none
  | .invokevirtual k => if len = 3 then (match am_mt M.2.2.2.2.1 k, st with
    | some (6, _, _), .ref i :: r => if (r.map fun v => v.category).sum ≤ 8 then (match am_tl w i with
      | some x => some (pc + 3, ls, .int x :: r, w)
      | none => none) else none
    | some (7, _, _), .int j :: .ref i :: r => if (r.map fun v => v.category).sum ≤ 8 then (match am_tc w i j with
      | some x => some (pc + 3, ls, .int x :: r, w)
      | none => none) else none
    | _, _ => none) else none
  | _ => none
/-- a method's end; a new NoSuchElementException is the end, too: .retAddr 0 -/
def am_ret (M : am_M) (i : Instr) (len : Nat) (st : List Value) (w : am_W) : Option (am_W × Option Value) := if len = 1 then (match i with
  | .ireturn => (match M.2.2.2.1, st with
    | some .int, [.int v] => some (w, some (.int v))
    | some .boolean, [.int v] => if v = 0 ∨ v = 1 then some (w, some (.int v)) else none
    | _, _ => none)
  | .lreturn => (match M.2.2.2.1, st with
    | some .long, [.long v] => some (w, some (.long v))
    | _, _ => none)
  | .areturn => (match M.2.2.2.1, st with
    | some (.object _), [.ref v] => some (w, some (.ref v))
    | _, _ => none)
  | .return_ => (match M.2.2.2.1, st with
    | none, [] => some (w, none)
    | _, _ => none)
  | _ => none) else (match i with
  | .new k => if M.2.2.2.2.1 = 0 ∧ k = 131 ∧ st = [] then some ((w.1 + 1, w.2.1 + 6, w.2.2), some (.retAddr 0)) else none
  | _ => none)
/-- the locals at a method's entry -/
def am_en0 : List Value → List (Option Value)
  | [] => []
  | .long x :: r => some (.long x) :: none :: am_en0 r
  | .double x :: r => some (.double x) :: none :: am_en0 r
  | v :: r => some v :: am_en0 r
def am_en (M : am_M) (as : List Value) : List (Option Value) := am_en0 as ++ List.replicate (M.2.2.1 - (am_en0 as).length) none
/-- may these arguments come -/
def am_fit (M : am_M) (as rest : List Value) : Bool := decide ((am_en0 as).length ≤ M.2.2.1) && decide ((rest.map fun v => v.category).sum ≤ 8) && decide (M.2.2.1 ≤ 40)
/-- is it an object of the class -/
def am_is (w : am_W) (i ci : Nat) : Bool := match am_ob w i with
  | some (c, _) => decide (c = ci ∧ 8 ≤ i)
  | none => false
/-- a call: 0, or 1 more than the cell for the answer of having and mend; the method; its arguments; the rest of the stack -/
def am_inv (M : am_M) (i : Instr) (len : Nat) (st : List Value) (w : am_W) : Option (Nat × am_M × List Value × List Value) := if len = 3 then (match i with
  | .invokevirtual k => (match am_mt M.2.2.2.2.1 k with
    | some (0, M', n) => (match st.drop n with
      | .ref b :: rest => if am_is w b M'.2.2.2.2.1 = true ∧ am_fit M' (.ref b :: (st.take n).reverse) rest = true ∧ n ≤ st.length then some (0, M', .ref b :: (st.take n).reverse, rest) else none
      | _ => none)
    | _ => none)
  | .invokespecial k => (match am_mt M.2.2.2.2.1 k with
    | some (2, M', n) => (match st.drop n with
      | .ref b :: rest => if am_fit M' (.ref b :: (st.take n).reverse) rest = true ∧ n ≤ st.length then some (0, M', .ref b :: (st.take n).reverse, rest) else none
      | _ => none)
    | some (3, M', n) => (match st.drop n with
      | .ref b :: rest => if am_fit M' (.ref b :: (st.take n).reverse) rest = true ∧ n ≤ st.length then some (0, M', .ref b :: (st.take n).reverse, rest) else none
      | _ => none)
    | _ => none)
  | .invokestatic k => (match am_mt M.2.2.2.2.1 k with
    | some (1, M', n) => if am_fit M' (st.take n).reverse (st.drop n) = true ∧ n ≤ st.length then some (0, M', (st.take n).reverse, st.drop n) else none
    | some (4, M', n) => if am_fit M' (st.take n).reverse (st.drop n) = true ∧ n ≤ st.length then some (0, M', (st.take n).reverse, st.drop n) else none
    | some (8, _, _) => (match st with
      | .ref o :: .int p :: .ref b :: rest => if am_is w b 0 = true ∧ am_fit m_C_having [.ref b, .int p] rest = true ∧ 8 ≤ o then some (o + 1, m_C_having, [.ref b, .int p], rest) else none
      | _ => none)
    | some (9, _, _) => (match st with
      | .ref o :: .ref b :: rest => if am_is w b 0 = true ∧ am_fit m_C_mend [.ref b] rest = true ∧ 8 ≤ o then some (o + 1, m_C_mend, [.ref b], rest) else none
      | _ => none)
    | _ => none)
  | _ => none) else none
/-- what stands on the stack behind a call -/
def am_aft (kd : Nat) (v : Option Value) (w : am_W) : Option (am_W × List Value) := match kd, v with
  | 0, some (.retAddr _) => none
  | 0, v => some (w, v.toList)
  | _ + 1, some (.retAddr _) => some (w, [.int 1])
  | o + 1, some (.long x) => match am_sj w o 0 x with
    | some w' => some (w', [.int 0])
    | none => none
  | _ + 1, _ => none
/-- the machine: n steps at most, d calls deep at most -/
def am : Nat → Nat → am_M → Nat → List (Option Value) → List Value → am_W → Option (am_W × Option Value)
  | 0, _, _, _, _, _, _ => none
  | n + 1, d, M, pc, ls, st, w =>
    match decode M.2.1 pc with
    | .error _ => none
    | .ok (i, len) =>
      match am_ret M i len st w with
      | some r => some r
      | none =>
        match am_inv M i len st w with
        | some (kd, M', as, rest) =>
          match d with
          | 0 => none
          | d' + 1 =>
            match am n d' M' 0 (am_en M' as) [] w with
            | none => none
            | some (w', v) =>
              match am_aft kd v w' with
              | none => none
              | some (w'', vs) => am n (d' + 1) M (pc + 3) ls (vs ++ rest) w''
        | none =>
          match am_st M i len pc ls st w with
          | none => none
          | some (pc', ls', st', w') => am n d M pc' ls' st' w'
end
section
/-! THE SMALL MACHINE'S CELLS AND THE HEAP'S -/
def am_ad (sp : Nat → Nat) (base i : Nat) : Nat := if i < 8 then sp i else base + (i - 8)
def am_rv (sp : Nat → Nat) (base : Nat) (v : Value) : Value := match v with
  | .ref i => .ref (am_ad sp base i)
  | v => v
def am_re (dA : Nat → ClassId) (sp : Nat → Nat) (base : Nat) (x : (Nat × vp_A) ⊕ (Nat × List Value)) : va_E := match x with
  | .inl (t, n, .inl f) => .inl (dA t, n, .inl f)
  | .inl (t, n, .inr (.inl f)) => .inl (dA t, n, .inr (.inl f))
  | .inl (t, n, .inr (.inr (.inl f))) => .inl (dA t, n, .inr (.inr (.inl f)))
  | .inl (t, n, .inr (.inr (.inr (.inl f)))) => .inl (dA t, n, .inr (.inr (.inr (.inl f))))
  | .inl (t, n, .inr (.inr (.inr (.inr f)))) => .inl (dA t, n, .inr (.inr (.inr (.inr (fun j => (f j).map (am_ad sp base))))))
  | .inr (ci, fs) => .inr (ci, fs.map (am_rv sp base))
def am_ws (dA : Nat → ClassId) (sp : Nat → Nat) (base : Nat) (l : List am_E) : va_W := (List.range l.length).filterMap (fun i => match l[i]? with
  | some (some x) => if 8 ≤ i then some (am_ad sp base i, am_re dA sp base x) else none
  | _ => none)
theorem am_ad_ge {sp : Nat → Nat} {base i : Nat} (h : 8 ≤ i) : am_ad sp base i = base + (i - 8) := by
  unfold am_ad
  rw [if_neg (by omega)]
theorem am_ws_mem {dA : Nat → ClassId} {sp : Nat → Nat} {base : Nat} {l : List am_E} {q : Nat × va_E} : q ∈ am_ws dA sp base l ↔ ∃ i x, 8 ≤ i ∧ l[i]? = some (some x) ∧ q = (am_ad sp base i, am_re dA sp base x) := by
  unfold am_ws
  rw [List.mem_filterMap]
  constructor
  · rintro ⟨i, -, h⟩
    cases hl : l[i]? with
    | none => rw [hl] at h; cases h
    | some y =>
      cases y with
      | none => rw [hl] at h; cases h
      | some x =>
        rw [hl] at h
        dsimp only at h
        by_cases h8 : 8 ≤ i
        · rw [if_pos h8] at h
          exact ⟨i, x, h8, hl, (Option.some.inj h).symm⟩
        · rw [if_neg h8] at h; cases h
  · rintro ⟨i, x, h8, hl, rfl⟩
    refine ⟨i, List.mem_range.mpr (List.getElem?_eq_some_iff.mp hl).1, ?_⟩
    rw [hl]
    dsimp only
    rw [if_pos h8]
theorem am_ws_pw {dA : Nat → ClassId} {sp : Nat → Nat} {base : Nat} {l : List am_E} : (am_ws dA sp base l).Pairwise (fun a b => a.1 < b.1) := by
  unfold am_ws
  rw [List.pairwise_filterMap]
  refine List.Pairwise.imp ?_ List.pairwise_lt_range
  intro i j hij a ha b hb
  have key : ∀ (i : Nat) (a : Nat × va_E), (match l[i]? with
      | some (some x) => if 8 ≤ i then some (am_ad sp base i, am_re dA sp base x) else none
      | _ => none) = some a → 8 ≤ i ∧ a.1 = base + (i - 8) := by
    intro i a h
    cases hl : l[i]? with
    | none => rw [hl] at h; cases h
    | some y =>
      cases y with
      | none => rw [hl] at h; cases h
      | some x =>
        rw [hl] at h
        dsimp only at h
        by_cases h8 : 8 ≤ i
        · rw [if_pos h8] at h
          cases h
          exact ⟨h8, am_ad_ge h8⟩
        · rw [if_neg h8] at h; cases h
  obtain ⟨h1, h2⟩ := key i a ha
  obtain ⟨h3, h4⟩ := key j b hb
  omega
theorem am_ws_D {dA : Nat → ClassId} {sp : Nat → Nat} {base : Nat} {l : List am_E} : va_D (fun q => base ≤ q) (am_ws dA sp base l) := by
  refine ⟨fun i j a b ha hb h => ?_, fun k q hk => ?_⟩
  · have hp := List.pairwise_iff_getElem.mp (am_ws_pw (dA := dA) (sp := sp) (base := base) (l := l))
    obtain ⟨hi, hi2⟩ := List.getElem?_eq_some_iff.mp ha
    obtain ⟨hj, hj2⟩ := List.getElem?_eq_some_iff.mp hb
    rcases Nat.lt_trichotomy i j with q | q | q
    · have := hp i j hi hj q
      rw [hi2, hj2] at this
      omega
    · exact q
    · have := hp j i hj hi q
      rw [hi2, hj2] at this
      omega
  · obtain ⟨i, x, h8, -, rfl⟩ := am_ws_mem.mp (List.mem_of_getElem? hk)
    show base ≤ am_ad sp base i
    rw [am_ad_ge h8]
    omega
/-- the heap holds the cells -/
def am_P (D : va_G) (dA : Nat → ClassId) (sp : Nat → Nat) (base : Nat) (w : am_W) (H : Heap) : Prop := ∀ (i : Nat) (x : (Nat × vp_A) ⊕ (Nat × List Value)), 8 ≤ i → w.2.2[i]? = some (some x) → va_at D classes (am_ad sp base i, am_re dA sp base x) H
/-- how large the heap is -/
def am_Z (base : Nat) (w : am_W) (H : Heap) : Prop := 8 ≤ w.2.2.length ∧ base + w.2.2.length ≤ H.size + 8
/-- the most cells of an open set, as the class has them -/
def am_oc (j : Nat) : Int32 := [1, 2, 3, 4, 5, 6, 2, 3, 4, 5, 6, 7, 3, 4, 6, 7, 8, 9, 4, 5, 7, 9, 10, 12, 5, 6, 8, 10, 12, 14, 6, 7, 9, 12, 14, 16, 7, 8, 10, 13, 15, 18, 8, 9, 11, 14, 17, 19].getD j 0
def am_g4 (j : Nat) : Int32 := [103, 114, 105, 100].getD j 0
def am_g3 (j : Nat) : Int32 := [114, 111, 119].getD j 0
/-- the special cells -/
def am_sw (L : Nat) (xs : Nat → Int32) (w : am_W) : Prop := w.2.2[0]? = some (some (.inl (0, L, .inl xs))) ∧ w.2.2[1]? = some (some (.inl (0, 48, .inl am_oc))) ∧ w.2.2[2]? = some (some (.inl (9, 4, .inl am_g4))) ∧ w.2.2[3]? = some (some (.inl (9, 3, .inl am_g3))) ∧ ∀ i, 4 ≤ i → i < 8 → w.2.2[i]? = some none
def am_R (D : va_G) (dA : Nat → ClassId) (sp : Nat → Nat) (base L : Nat) (xs : Nat → Int32) (w : am_W) (H : Heap) : Prop := am_P D dA sp base w H ∧ am_Z base w H ∧ am_sw L xs w
theorem am_P.ws {D : va_G} {dA : Nat → ClassId} {sp : Nat → Nat} {base : Nat} {w : am_W} {H : Heap} (h : am_P D dA sp base w H) : va_P D classes (am_ws dA sp base w.2.2) H := by
  intro k q hk
  obtain ⟨i, x, h8, hl, rfl⟩ := am_ws_mem.mp (List.mem_of_getElem? hk)
  exact h i x h8 hl
theorem am_place {dA : Nat → ClassId} {sp : Nat → Nat} {base : Nat} {l : List am_E} {i : Nat} {x : (Nat × vp_A) ⊕ (Nat × List Value)} (h8 : 8 ≤ i) (hl : l[i]? = some (some x)) : ∃ q : Nat, (am_ws dA sp base l)[q]? = some (am_ad sp base i, am_re dA sp base x) :=
  List.getElem?_of_mem (am_ws_mem.mpr ⟨i, x, h8, hl, rfl⟩)
theorem am_P.put {D : va_G} {dA : Nat → ClassId} {sp : Nat → Nat} {base : Nat} {w : am_W} {H1 : Heap} {i q : Nat} {x y : (Nat × vp_A) ⊕ (Nat × List Value)} (h8 : 8 ≤ i) (hl : w.2.2[i]? = some (some x)) (hq : (am_ws dA sp base w.2.2)[q]? = some (am_ad sp base i, am_re dA sp base x))
    (h : va_P D classes ((am_ws dA sp base w.2.2).set q (am_ad sp base i, am_re dA sp base y)) H1) : am_P D dA sp base (am_st1 w i y) H1 := by
  intro j z h8j hz
  have hz : (w.2.2.set i (some y))[j]? = some (some z) := hz
  by_cases hij : i = j
  · subst hij
    rw [List.getElem?_set_self (List.getElem?_eq_some_iff.mp hl).1] at hz
    have hyz : y = z := Option.some.inj (Option.some.inj hz)
    subst hyz
    exact h q _ (List.getElem?_set_self (List.getElem?_eq_some_iff.mp hq).1)
  · rw [List.getElem?_set_ne hij] at hz
    obtain ⟨k, hk⟩ := am_place (dA := dA) (sp := sp) (base := base) h8j hz
    refine h k _ ?_
    rw [List.getElem?_set_ne]
    · exact hk
    · intro e
      subst e
      rw [hq] at hk
      have h1 := congrArg Prod.fst (Option.some.inj hk)
      have h1 : am_ad sp base i = am_ad sp base j := h1
      rw [am_ad_ge h8, am_ad_ge h8j] at h1
      omega
theorem am_Z.put {base : Nat} {w : am_W} {H H1 : Heap} {i : Nat} {y : (Nat × vp_A) ⊕ (Nat × List Value)} (h : am_Z base w H) (hz : H.size ≤ H1.size) : am_Z base (am_st1 w i y) H1 := by
  unfold am_Z am_st1 at *
  simp only [List.length_set]
  omega
theorem am_sw.put {L : Nat} {xs : Nat → Int32} {w : am_W} {i : Nat} {y : (Nat × vp_A) ⊕ (Nat × List Value)} (h : am_sw L xs w) (h8 : 8 ≤ i) : am_sw L xs (am_st1 w i y) := by
  have k : ∀ j, j < 8 → (w.2.2.set i (some y))[j]? = w.2.2[j]? := fun j hj => List.getElem?_set_ne (by omega)
  obtain ⟨h0, h1, h2, h3, h4⟩ := h
  exact ⟨(k 0 (by omega)).trans h0, (k 1 (by omega)).trans h1, (k 2 (by omega)).trans h2, (k 3 (by omega)).trans h3, fun j a b => (k j b).trans (h4 j a b)⟩
theorem am_ob_eq {w : am_W} {i : Nat} {o : Nat × List Value} (h : am_ob w i = some o) : w.2.2[i]? = some (some (.inr o)) := by
  unfold am_ob at h
  split at h
  · next o' ho => cases h; exact ho
  · cases h
theorem am_ar_eq {w : am_W} {i : Nat} {a : Nat × vp_A} (h : am_ar w i = some a) : w.2.2[i]? = some (some (.inl a)) := by
  unfold am_ar at h
  split at h
  · next o' ho => cases h; exact ho
  · cases h
theorem am_ob_ge {L : Nat} {xs : Nat → Int32} {w : am_W} {i : Nat} {o : Nat × List Value} (hs : am_sw L xs w) (h : am_ob w i = some o) : 8 ≤ i := by
  have h := am_ob_eq h
  obtain ⟨h0, h1, h2, h3, h4⟩ := hs
  rcases Nat.lt_or_ge i 8 with q | q
  · rcases Nat.lt_or_ge i 4 with r | r
    · have : i = 0 ∨ i = 1 ∨ i = 2 ∨ i = 3 := by omega
      rcases this with rfl | rfl | rfl | rfl
      · rw [h0] at h; cases h
      · rw [h1] at h; cases h
      · rw [h2] at h; cases h
      · rw [h3] at h; cases h
    · rw [h4 i r q] at h; cases h
  · exact q
theorem am_gv_eq {w : am_W} {i ci k : Nat} {v : Value} (h : am_gv w i ci k = some v) : ∃ fs, am_ob w i = some (ci, fs) ∧ fs[k]? = some v := by
  unfold am_gv at h
  split at h
  · next c fs ho =>
    split at h
    · next hc => subst hc; exact ⟨fs, ho, h⟩
    · cases h
  · cases h
theorem am_gi_eq {w : am_W} {i ci k : Nat} {x : Int32} (h : am_gi w i ci k = some x) : am_gv w i ci k = some (.int x) := by
  unfold am_gi at h
  split at h
  · next y hy => cases h; exact hy
  · cases h
theorem am_gl_eq {w : am_W} {i ci k : Nat} {x : Int64} (h : am_gl w i ci k = some x) : am_gv w i ci k = some (.long x) := by
  unfold am_gl at h
  split at h
  · next y hy => cases h; exact hy
  · cases h
theorem am_gr_eq {w : am_W} {i ci k : Nat} {x : Nat} (h : am_gr w i ci k = some x) : am_gv w i ci k = some (.ref x) := by
  unfold am_gr at h
  split at h
  · next y hy => cases h; exact hy
  · cases h
theorem am_pv_eq {w w' : am_W} {i ci k : Nat} {v : Value} (h : am_pv w i ci k v = some w') : ∃ fs, am_ob w i = some (ci, fs) ∧ k < fs.length ∧ 8 ≤ i ∧ w' = am_st1 w i (.inr (ci, fs.set k v)) := by
  unfold am_pv at h
  split at h
  · next c fs ho =>
    split at h
    · next hc => obtain ⟨rfl, h1, h2⟩ := hc; cases h; exact ⟨fs, ho, h1, h2, rfl⟩
    · cases h
  · cases h
end
section
def am_nst : List Cond := [.methodLinkNest "GridColours" 9 ⟨"GridColours$Tape", "<init>", "()V"⟩ "GridColours", .methodLinkNest "GridColours" 18 ⟨"GridColours$Grid", "<init>", "()V"⟩ "GridColours", .methodLinkNest "GridColours" 28 ⟨"GridColours$Reader", "<init>", "()V"⟩ "GridColours", .methodLinkNest "GridColours$Reader" 11 ⟨"GridColours$Grid", "<init>", "()V"⟩ "GridColours", .methodLinkNest "GridColours" 35 ⟨"GridColours$Seeker", "<init>", "()V"⟩ "GridColours", .methodLinkNest "GridColours$Seeker" 11 ⟨"GridColours$Grid", "<init>", "()V"⟩ "GridColours", .methodLinkNest "GridColours" 42 ⟨"GridColours$History", "<init>", "()V"⟩ "GridColours", .methodLinkNest "GridColours$Shelf" 25 ⟨"GridColours$Grid", "<init>", "()V"⟩ "GridColours", .methodLinkNest "GridColours$Grid" 59 ⟨"GridColours", "pairsOf", "(I)I"⟩ "GridColours"]
/-- texts and what throwing needs -/
def am_envX (sp : Nat → Nat) (base : Nat) (U : State) : Prop := True
theorem am_envX.warm {sp : Nat → Nat} {base : Nat} {s U : State} (h : am_envX sp base s) (hW : s.WarmedH U.vm) (hq : ∀ a : Nat, a < s.heap.size → ¬ base ≤ a → U.heap[a]? = s.heap[a]?) : am_envX sp base U := trivial
end
section
/-! THE SMALL MACHINE'S STEPS OVER THE HEAP: rows -/
def am_tys (dA : Nat → ClassId) : List (ClassId × FieldType) := [(dA 0, .int), (dA 1, .long), (dA 2, .boolean), (dA 3, .object "GridColours$Grid")]
/-- what holds of a state, whatever the method: the tables, the special cells -/
def am_env (D : va_G) (dA : Nat → ClassId) (sp : Nat → Nat) (base L : Nat) (xs : Nat → Int32) (U : State) : Prop :=
  va_K D classes (am_tys dA) U ∧ va_AO "GridColours$Grid" U ∧ (∀ w ∈ am_nst, va_Nw w U) ∧ (va_X (sp 0) L xs U U.heap ∧ sp 0 < base) ∧ (va_Z "GridColours" "OPEN_CELLS" "[I" (.ref (sp 1)) (fun q => base ≤ q) U U.heap ∧ va_T .int (sp 1) 48 (fun j => .int (am_oc j)) (fun q => base ≤ q) U U.heap) ∧ am_envX sp base U
theorem am_env.warm {D : va_G} {dA : Nat → ClassId} {sp : Nat → Nat} {base L : Nat} {xs : Nat → Int32} {s U : State} (h : am_env D dA sp base L xs s) (hW : s.WarmedH U.vm) (hq : ∀ a : Nat, a < s.heap.size → ¬ base ≤ a → U.heap[a]? = s.heap[a]?) : am_env D dA sp base L xs U := by
  obtain ⟨h1, h2, h3, ⟨h4, h5⟩, ⟨h6, h7⟩, h8⟩ := h
  refine ⟨va_K.moved hW.alike h1, va_AO.moved hW.alike h2, fun w hw => ?_, ⟨?_, h5⟩, ⟨va_Z.moved hW.alike (h6.kept hq), va_T.moved hW.alike (h7.kept hq)⟩, am_envX.warm h8 hW hq⟩
  · have hw0 := h3 w hw
    simp only [am_nst, List.mem_cons, List.not_mem_nil, or_false] at hw
    rcases hw with rfl | rfl | rfl | rfl | rfl | rfl | rfl | rfl | rfl <;> exact va_Nw.warmM hW hw0
  · refine va_X.moved hW.alike (va_X.kept h4 (hq _ ?_ (by omega)))
    obtain ⟨scr, hs, -⟩ := h4
    exact (Array.getElem?_eq_some_iff.mp hs).1
theorem va_S.tr {A : Nat → Prop} {H0 H H1 : Heap} {l0 l1 : List Loc} (h : va_S A H0 H l0) (h1 : va_S A H H1 l1) : va_S A H0 H1 l1 := ⟨Nat.le_trans h.1 h1.1, fun q a b => (h1.2.1 q (Nat.lt_of_lt_of_le a h.1) b).trans (h.2.1 q a b), h1.2.2⟩
theorem va_S.me {A : Nat → Prop} {H0 H : Heap} {l0 : List Loc} (h : va_S A H0 H l0) : va_S A H H l0 := ⟨Nat.le_refl _, fun _ _ _ => rfl, h.2.2⟩
theorem am_ar_ge {L : Nat} {xs : Nat → Int32} {w : am_W} {i : Nat} {t : Nat} {a : vp_A} (hs : am_sw L xs w) (h : am_ar w i = some (t, a)) (ht : 0 < t ∧ t < 9) : 8 ≤ i := by
  have h := am_ar_eq h
  obtain ⟨h0, h1, h2, h3, h4⟩ := hs
  rcases Nat.lt_or_ge i 8 with q | q
  · rcases Nat.lt_or_ge i 4 with r | r
    · have : i = 0 ∨ i = 1 ∨ i = 2 ∨ i = 3 := by omega
      rcases this with rfl | rfl | rfl | rfl
      · rw [h0] at h; cases h; omega
      · rw [h1] at h; cases h; omega
      · rw [h2] at h; cases h; omega
      · rw [h3] at h; cases h; omega
    · rw [h4 i r q] at h; cases h
  · exact q
section AMR
variable {p : Program} {l : Launch} {e : Env} {R : Room} {s : State} {m : MethodId} {args : Array Value} {below : List Frame} {meth : Method} {c : Code} {H : Heap} {locs : List Loc} {cells slots : Nat} {Q : State → Prop}
variable {D : va_G} {dA : Nat → ClassId} {sp : Nat → Nat} {base L : Nat} {xs : Nat → Int32} {w : am_W} {cc : ByteArray} {pc : Nat} {ls : Array Slot} {rest : List Value}
theorem am_rget (hx : p.tables.exec = Jvm.exec) (hb : c.code = cc) (hts : ∀ w ∈ am_tbl, w.before args s = true) {own C : String} {T : u_T} {N ci index k : Nat} (hin : ∀ w ∈ u_ws C T N, w ∈ am_tbl) (hown : s.vm.findClass own = some m.cls) (hK : va_K D classes (am_tys dA) s) (hR : am_R D dA sp base L xs w H)
    (hc : classes[ci]? = some (C, T, N)) (hk : k < N) (hlink : (Cond.fieldLink own index (T k).1 (T k).2.1 (T k).2.2.1) ∈ am_tbl) {i : Nat} {v : Value} (hv : am_gv w i ci k = some v) (hdg : decode cc pc = .ok (.getfield index, 3))
    (kk : W p l e R s m args below meth c H locs cells slots Q (F0 m (pc + 3) ls (am_rv sp base v :: rest))) : W p l e R s m args below meth c H locs cells slots Q (F0 m pc ls (.ref (am_ad sp base i) :: rest)) := by
  obtain ⟨fs, h1, h2⟩ := am_gv_eq hv
  obtain ⟨q, hq⟩ := am_place (dA := dA) (sp := sp) (base := base) (am_ob_ge hR.2.2 h1) (am_ob_eq h1)
  exact va_get (ref := (T k).1) hx hb hts hin hown hK hR.1.ws q hq hc k hk (hts _ hlink) (fun _ h9 => h9) (v := am_rv sp base v) (by rw [List.getElem?_map, h2]; rfl) hdg kk
theorem am_fits {sp : Nat → Nat} {base : Nat} {v : Value} {ty : FieldType} (h : (ty = .int ∧ ∃ x, v = .int x) ∨ (ty = .long ∧ ∃ x, v = .long x) ∨ (((∃ n, ty = .object n) ∨ ∃ t, ty = .array t) ∧ ∃ x, v = .ref x)) : narrow ty (am_rv sp base v) = am_rv sp base v ∧ fits ty (am_rv sp base v) = true := by
  rcases h with ⟨rfl, x, rfl⟩ | ⟨rfl, x, rfl⟩ | ⟨⟨n, rfl⟩ | ⟨n, rfl⟩, x, rfl⟩ <;> exact ⟨rfl, rfl⟩
theorem am_rput (hx : p.tables.exec = Jvm.exec) (hb : c.code = cc) (hts : ∀ w ∈ am_tbl, w.before args s = true) {own C : String} {T : u_T} {N ci index k : Nat} (hin : ∀ w ∈ u_ws C T N, w ∈ am_tbl) (ty0 : Nat → FieldType) (hty : ∀ k, k < N → parseFieldDescriptor (T k).2.2.1 = some (ty0 k)) (hnm : ∀ a, a < N → ∀ b, b < N → a ≠ b → (T a).2.1 ≠ (T b).2.1) (hown : s.vm.findClass own = some m.cls) (hK : va_K D classes (am_tys dA) s) (hR : am_R D dA sp base L xs w H) (hS : va_S (fun q => base ≤ q) s.heap H locs)
    (hc : classes[ci]? = some (C, T, N)) (hk : k < N) (hlink : (Cond.fieldLink own index (T k).1 (T k).2.1 (T k).2.2.1) ∈ am_tbl) (hfin : (T k).2.2.2 = false ∨ ((T k).2.2.2 = true ∧ meth.name = "<init>" ∧ (T k).1 = own)) {i : Nat} {v : Value} {w' : am_W} (hv : am_pv w i ci k v = some w')
    (hf : (ty0 k = .int ∧ ∃ x, v = .int x) ∨ (ty0 k = .long ∧ ∃ x, v = .long x) ∨ (((∃ n, ty0 k = .object n) ∨ ∃ t, ty0 k = .array t) ∧ ∃ x, v = .ref x)) (hdg : decode cc pc = .ok (.putfield index, 3))
    (kk : ∀ (H1 : Heap) (locs1 : List Loc), am_R D dA sp base L xs w' H1 → va_S (fun q => base ≤ q) s.heap H1 locs1 → W p l e R s m args below meth c H1 locs1 cells slots Q (F0 m (pc + 3) ls rest)) : W p l e R s m args below meth c H locs cells slots Q (F0 m pc ls (am_rv sp base v :: .ref (am_ad sp base i) :: rest)) := by
  obtain ⟨fs, h1, h2, h8, rfl⟩ := am_pv_eq hv
  obtain ⟨q, hq⟩ := am_place (dA := dA) (sp := sp) (base := base) h8 (am_ob_eq h1)
  have hnf := am_fits (sp := sp) (base := base) hf
  have key : ∀ (H1 : Heap) (locs1 : List Loc), va_P D classes ((am_ws dA sp base w.2.2).set q (am_ad sp base i, .inr (ci, (fs.map (am_rv sp base)).set k (am_rv sp base v)))) H1 → va_D (fun q => base ≤ q) ((am_ws dA sp base w.2.2).set q (am_ad sp base i, .inr (ci, (fs.map (am_rv sp base)).set k (am_rv sp base v)))) → va_S (fun q => base ≤ q) H H1 locs1 → W p l e R s m args below meth c H1 locs1 cells slots Q (F0 m (pc + 3) ls rest) := by
    intro H1 locs1 hP1 _ hS1
    refine kk H1 locs1 ⟨am_P.put h8 (am_ob_eq h1) hq ?_, hR.2.1.put hS1.1, hR.2.2.put h8⟩ (hS.tr hS1)
    show va_P D classes ((am_ws dA sp base w.2.2).set q (am_ad sp base i, .inr (ci, (fs.set k v).map (am_rv sp base)))) H1
    rw [List.map_set]
    exact hP1
  rcases hfin with hfin | ⟨hfin, hini, hd⟩
  · exact va_put (ref := (T k).1) hx hb hts hin ty0 hty hnm hown hK hR.1.ws am_ws_D hS.me q hq hc k hk (hts _ hlink) (fun _ h9 => h9) hfin (hty k hk) hnf.1 hnf.2 (by rw [List.length_map]; exact h2) hdg key
  · exact va_putF (ref := (T k).1) hx hb hts hin ty0 hty hnm hown hK hR.1.ws am_ws_D hS.me q hq hc k hk (hts _ hlink) (fun _ h9 => h9) hfin hini hd (hty k hk) hnf.1 hnf.2 (by rw [List.length_map]; exact h2) hdg key
theorem am_rsz {g : JFrame} (k : H.size ≤ s.heap.size + cells → W p l e R s m args below meth c H locs cells slots Q g) : W p l e R s m args below meth c H locs cells slots Q g := fun T hT X => k (by rw [← hT]; exact X.heapSize) T hT X
/-- arrays: a place, or a special one -/
theorem am_rai (hx : p.tables.exec = Jvm.exec) (hb : c.code = cc) (hE : am_env D dA sp base L xs s) (hb0 : base ≤ s.heap.size) (hR : am_R D dA sp base L xs w H) (hS : va_S (fun q => base ≤ q) s.heap H locs) {a : Nat} {j x : Int32} (h : am_ai w a j = some x) (hdg : decode cc pc = .ok (.iaload, 1))
    (kk : W p l e R s m args below meth c H locs cells slots Q (F0 m (pc + 1) ls (.int x :: rest))) : W p l e R s m args below meth c H locs cells slots Q (F0 m pc ls (.int j :: .ref (am_ad sp base a) :: rest)) := by
  unfold am_ai at h
  split at h
  · next n f ha =>
    split at h
    · cases h
    · next hj =>
      cases h
      have ha := am_ar_eq ha
      by_cases h8 : 8 ≤ a
      · obtain ⟨q, hq⟩ := am_place (dA := dA) (sp := sp) (base := base) h8 ha
        exact va_iald hx hb hE.1 hR.1.ws q 0 hq rfl hj hdg kk
      · obtain ⟨h0, h1, h2, h3, h4⟩ := hR.2.2
        have h5 : a = 0 ∨ a = 1 ∨ a = 2 ∨ a = 3 ∨ 4 ≤ a := by omega
        rcases h5 with rfl | rfl | rfl | rfl | h5
        · rw [h0] at ha
          cases ha
          exact va_sld (b := sp 0) hx hb hE.2.2.2.1.1 (Nat.lt_of_lt_of_le hE.2.2.2.1.2 hb0) (Nat.not_le.mpr hE.2.2.2.1.2) hS hj hdg kk
        · rw [h1] at ha
          cases ha
          obtain ⟨cell, g1, g2, g3, g4, g5, g6, g7⟩ := hE.2.2.2.2.1.2.kept hS.2.1
          have hlt : j.toNatClampNeg < 48 := Nat.not_le.mp fun q => hj (Or.inr q)
          exact W.iald (v := .int (am_oc j.toNatClampNeg)) hx hb (a := sp 1) g1 g2 g3 (fun q => q.elim (fun z => hj (Or.inl z)) (fun z => hj (Or.inr (Nat.le_trans g4 z)))) (g6 _ hlt) rfl rfl hdg kk
        · rw [h2] at ha; cases ha
        · rw [h3] at ha; cases ha
        · rw [h4 a h5 (by omega)] at ha; cases ha
  · cases h
theorem am_raj (hx : p.tables.exec = Jvm.exec) (hb : c.code = cc) (hK : va_K D classes (am_tys dA) s) (hR : am_R D dA sp base L xs w H) {a : Nat} {j : Int32} {x : Int64} (h : am_aj w a j = some x) (hdg : decode cc pc = .ok (.laload, 1))
    (kk : W p l e R s m args below meth c H locs cells slots Q (F0 m (pc + 1) ls (.long x :: rest))) : W p l e R s m args below meth c H locs cells slots Q (F0 m pc ls (.int j :: .ref (am_ad sp base a) :: rest)) := by
  unfold am_aj at h
  split at h
  · next n f ha =>
    split at h
    · cases h
    · next hj =>
      cases h
      obtain ⟨q, hq⟩ := am_place (dA := dA) (sp := sp) (base := base) (am_ar_ge hR.2.2 ha (by decide)) (am_ar_eq ha)
      exact va_lald hx hb hK hR.1.ws q 1 hq rfl hj hdg kk
  · cases h
theorem am_raz (hx : p.tables.exec = Jvm.exec) (hb : c.code = cc) (hK : va_K D classes (am_tys dA) s) (hR : am_R D dA sp base L xs w H) {a : Nat} {j x : Int32} (h : am_az w a j = some x) (hdg : decode cc pc = .ok (.baload, 1))
    (kk : W p l e R s m args below meth c H locs cells slots Q (F0 m (pc + 1) ls (.int x :: rest))) : W p l e R s m args below meth c H locs cells slots Q (F0 m pc ls (.int j :: .ref (am_ad sp base a) :: rest)) := by
  unfold am_az at h
  split at h
  · next n f ha =>
    split at h
    · cases h
    · next hj =>
      cases h
      obtain ⟨q, hq⟩ := am_place (dA := dA) (sp := sp) (base := base) (am_ar_ge hR.2.2 ha (by decide)) (am_ar_eq ha)
      exact va_zald hx hb hK hR.1.ws q 2 hq rfl hj hdg kk
  · cases h
theorem am_rax (hx : p.tables.exec = Jvm.exec) (hb : c.code = cc) (hK : va_K D classes (am_tys dA) s) (hR : am_R D dA sp base L xs w H) {a : Nat} {j : Int32} {x : Nat} (h : am_ax w a j = some x) (hdg : decode cc pc = .ok (.aaload, 1))
    (kk : W p l e R s m args below meth c H locs cells slots Q (F0 m (pc + 1) ls (.ref (am_ad sp base x) :: rest))) : W p l e R s m args below meth c H locs cells slots Q (F0 m pc ls (.int j :: .ref (am_ad sp base a) :: rest)) := by
  unfold am_ax at h
  split at h
  · next n f ha =>
    split at h
    · cases h
    · next hj =>
      obtain ⟨q, hq⟩ := am_place (dA := dA) (sp := sp) (base := base) (am_ar_ge hR.2.2 ha (by decide)) (am_ar_eq ha)
      refine va_aldq hx hb hK hR.1.ws q 3 hq rfl hj hdg ?_
      rw [h]
      exact kk
  · cases h
theorem am_ral (hx : p.tables.exec = Jvm.exec) (hb : c.code = cc) (hE : am_env D dA sp base L xs s) (hb0 : base ≤ s.heap.size) (hR : am_R D dA sp base L xs w H) (hS : va_S (fun q => base ≤ q) s.heap H locs) {a : Nat} {x : Int32} (h : am_al w a = some x) (hdg : decode cc pc = .ok (.arraylength, 1))
    (kk : W p l e R s m args below meth c H locs cells slots Q (F0 m (pc + 1) ls (.int x :: rest))) : W p l e R s m args below meth c H locs cells slots Q (F0 m pc ls (.ref (am_ad sp base a) :: rest)) := by
  unfold am_al at h
  split at h
  · next t n f ha =>
    split at h
    · next ht =>
      cases h
      have ha := am_ar_eq ha
      by_cases h8 : 8 ≤ a
      · obtain ⟨q, hq⟩ := am_place (dA := dA) (sp := sp) (base := base) h8 ha
        have h5 : t = 0 ∨ t = 1 ∨ t = 2 ∨ t = 3 := by omega
        rcases h5 with rfl | rfl | rfl | rfl
        · rcases f with f | f | f | f | f <;> exact va_alen hx hb hE.1 hR.1.ws q 0 hq (ty := .int) rfl rfl hdg kk
        · rcases f with f | f | f | f | f <;> exact va_alen hx hb hE.1 hR.1.ws q 1 hq (ty := .long) rfl rfl hdg kk
        · rcases f with f | f | f | f | f <;> exact va_alen hx hb hE.1 hR.1.ws q 2 hq (ty := .boolean) rfl rfl hdg kk
        · rcases f with f | f | f | f | f <;> exact va_alen hx hb hE.1 hR.1.ws q 3 hq (ty := .object "GridColours$Grid") rfl rfl hdg kk
      · obtain ⟨h0, h1, h2, h3, h4⟩ := hR.2.2
        have h5 : a = 0 ∨ a = 1 ∨ a = 2 ∨ a = 3 ∨ 4 ≤ a := by omega
        rcases h5 with rfl | rfl | rfl | rfl | h5
        · rw [h0] at ha
          cases ha
          exact va_slen (b := sp 0) hx hb hE.2.2.2.1.1 (Nat.lt_of_lt_of_le hE.2.2.2.1.2 hb0) (Nat.not_le.mpr hE.2.2.2.1.2) hS hdg kk
        · rw [h1] at ha
          cases ha
          obtain ⟨cell, g1, g2, g3, g4, g5, g6, g7⟩ := hE.2.2.2.2.1.2.kept hS.2.1
          exact W.alen (n := Int32.ofNat 48) hx hb (a := sp 1) g1 g2 g5 rfl rfl hdg kk
        · rw [h2] at ha; cases ha; exact absurd ht (by decide)
        · rw [h3] at ha; cases ha; exact absurd ht (by decide)
        · rw [h4 a h5 (by omega)] at ha; cases ha
    · cases h
  · cases h
theorem am_rsi (hx : p.tables.exec = Jvm.exec) (hb : c.code = cc) (hK : va_K D classes (am_tys dA) s) (hR : am_R D dA sp base L xs w H) (hS : va_S (fun q => base ≤ q) s.heap H locs) {a : Nat} {j x : Int32} {w' : am_W} (h : am_si w a j x = some w') (hdg : decode cc pc = .ok (.iastore, 1))
    (kk : ∀ (H1 : Heap) (locs1 : List Loc), am_R D dA sp base L xs w' H1 → va_S (fun q => base ≤ q) s.heap H1 locs1 → W p l e R s m args below meth c H1 locs1 cells slots Q (F0 m (pc + 1) ls rest)) : W p l e R s m args below meth c H locs cells slots Q (F0 m pc ls (.int x :: .int j :: .ref (am_ad sp base a) :: rest)) := by
  unfold am_si at h
  split at h
  · next n f ha =>
    split at h
    · cases h
    · next hj =>
      cases h
      have h8 : 8 ≤ a := Nat.not_lt.mp fun z => hj (Or.inr (Or.inr z))
      obtain ⟨q, hq⟩ := am_place (dA := dA) (sp := sp) (base := base) h8 (am_ar_eq ha)
      refine va_iast hx hb hK hR.1.ws am_ws_D hS.me q 0 hq rfl (fun z => hj (z.elim Or.inl (fun y => Or.inr (Or.inl y)))) hdg (fun H1 locs1 hP1 _ hS1 => ?_)
      exact kk H1 locs1 ⟨am_P.put h8 (am_ar_eq ha) hq hP1, hR.2.1.put hS1.1, hR.2.2.put h8⟩ (hS.tr hS1)
  · cases h
theorem am_rsj (hx : p.tables.exec = Jvm.exec) (hb : c.code = cc) (hK : va_K D classes (am_tys dA) s) (hR : am_R D dA sp base L xs w H) (hS : va_S (fun q => base ≤ q) s.heap H locs) {a : Nat} {j : Int32} {x : Int64} {w' : am_W} (h : am_sj w a j x = some w') (hdg : decode cc pc = .ok (.lastore, 1))
    (kk : ∀ (H1 : Heap) (locs1 : List Loc), am_R D dA sp base L xs w' H1 → va_S (fun q => base ≤ q) s.heap H1 locs1 → W p l e R s m args below meth c H1 locs1 cells slots Q (F0 m (pc + 1) ls rest)) : W p l e R s m args below meth c H locs cells slots Q (F0 m pc ls (.long x :: .int j :: .ref (am_ad sp base a) :: rest)) := by
  unfold am_sj at h
  split at h
  · next n f ha =>
    split at h
    · cases h
    · next hj =>
      cases h
      have h8 : 8 ≤ a := Nat.not_lt.mp fun z => hj (Or.inr (Or.inr z))
      obtain ⟨q, hq⟩ := am_place (dA := dA) (sp := sp) (base := base) h8 (am_ar_eq ha)
      refine va_last hx hb hK hR.1.ws am_ws_D hS.me q 1 hq rfl (fun z => hj (z.elim Or.inl (fun y => Or.inr (Or.inl y)))) hdg (fun H1 locs1 hP1 _ hS1 => ?_)
      exact kk H1 locs1 ⟨am_P.put h8 (am_ar_eq ha) hq hP1, hR.2.1.put hS1.1, hR.2.2.put h8⟩ (hS.tr hS1)
  · cases h
theorem am_rsz1 (hx : p.tables.exec = Jvm.exec) (hb : c.code = cc) (hK : va_K D classes (am_tys dA) s) (hR : am_R D dA sp base L xs w H) (hS : va_S (fun q => base ≤ q) s.heap H locs) {a : Nat} {j x : Int32} {w' : am_W} (h : am_sz w a j x = some w') (hdg : decode cc pc = .ok (.bastore, 1))
    (kk : ∀ (H1 : Heap) (locs1 : List Loc), am_R D dA sp base L xs w' H1 → va_S (fun q => base ≤ q) s.heap H1 locs1 → W p l e R s m args below meth c H1 locs1 cells slots Q (F0 m (pc + 1) ls rest)) : W p l e R s m args below meth c H locs cells slots Q (F0 m pc ls (.int x :: .int j :: .ref (am_ad sp base a) :: rest)) := by
  unfold am_sz at h
  split at h
  · next n f ha =>
    split at h
    · cases h
    · next hj =>
      cases h
      have h8 : 8 ≤ a := Nat.not_lt.mp fun z => hj (Or.inr (Or.inr z))
      obtain ⟨q, hq⟩ := am_place (dA := dA) (sp := sp) (base := base) h8 (am_ar_eq ha)
      refine va_zast hx hb hK hR.1.ws am_ws_D hS.me q 2 hq rfl (fun z => hj (z.elim Or.inl (fun y => Or.inr (Or.inl y)))) hdg (fun H1 locs1 hP1 _ hS1 => ?_)
      exact kk H1 locs1 ⟨am_P.put h8 (am_ar_eq ha) hq hP1, hR.2.1.put hS1.1, hR.2.2.put h8⟩ (hS.tr hS1)
  · cases h
theorem am_rsx (hx : p.tables.exec = Jvm.exec) (hb : c.code = cc) (hK : va_K D classes (am_tys dA) s) (hR : am_R D dA sp base L xs w H) (hS : va_S (fun q => base ≤ q) s.heap H locs) {a : Nat} {j : Int32} {x : Nat} {w' : am_W} (h : am_sx w a j x = some w') (hdg : decode cc pc = .ok (.aastore, 1))
    (kk : ∀ (H1 : Heap) (locs1 : List Loc), am_R D dA sp base L xs w' H1 → va_S (fun q => base ≤ q) s.heap H1 locs1 → W p l e R s m args below meth c H1 locs1 cells slots Q (F0 m (pc + 1) ls rest)) : W p l e R s m args below meth c H locs cells slots Q (F0 m pc ls (.ref (am_ad sp base x) :: .int j :: .ref (am_ad sp base a) :: rest)) := by
  unfold am_sx at h
  split at h
  · next n f fs ha hv =>
    split at h
    · cases h
    · next hj =>
      cases h
      have h8 : 8 ≤ a := Nat.not_lt.mp fun z => hj (Or.inr (Or.inr (Or.inl z)))
      have h8x : 8 ≤ x := Nat.not_lt.mp fun z => hj (Or.inr (Or.inr (Or.inr z)))
      obtain ⟨q, hq⟩ := am_place (dA := dA) (sp := sp) (base := base) h8 (am_ar_eq ha)
      obtain ⟨qk, hqk⟩ := am_place (dA := dA) (sp := sp) (base := base) h8x (am_ob_eq hv)
      refine va_astq (r := (cR_G, cF_G, 4)) hx hb hK hR.1.ws am_ws_D hS.me q 3 qk 1 hq rfl hqk rfl (fun z => hj (z.elim Or.inl (fun y => Or.inr (Or.inl y)))) hdg (fun H1 locs1 hP1 _ hS1 => ?_)
      refine kk H1 locs1 ⟨am_P.put h8 (am_ar_eq ha) hq ?_, hR.2.1.put hS1.1, hR.2.2.put h8⟩ (hS.tr hS1)
      have e9 : (fun k => (va_up f j.toNatClampNeg (some x) k).map (am_ad sp base)) = va_up (fun k => (f k).map (am_ad sp base)) j.toNatClampNeg (some (am_ad sp base x)) := by
        funext k
        by_cases hk : k = j.toNatClampNeg
        · simp [va_up, hk]
        · simp [va_up, hk]
      show va_P D classes ((am_ws dA sp base w.2.2).set q (am_ad sp base a, .inl (dA 3, n, .inr (.inr (.inr (.inr (fun k => (va_up f j.toNatClampNeg (some x) k).map (am_ad sp base)))))))) H1
      rw [e9]
      exact hP1
  · cases h
end AMR
end
section
/-! THE TABLES OF THE SMALL MACHINE say what the Statement's tables say -/
def am_FT (ci : Nat) : u_T := match ci with
  | 0 => cF_C
  | 1 => cF_G
  | 2 => cF_H
  | 3 => cF_R
  | 4 => cF_S
  | 5 => cF_F
  | 6 => cF_T
  | _ => cF_M
def am_FN (ci : Nat) : Nat := match ci with
  | 0 => 8
  | 1 => 4
  | 2 => 3
  | 3 => 8
  | 4 => 6
  | 5 => 2
  | 6 => 2
  | _ => 34
def am_Fy (ci : Nat) : Nat → FieldType := match ci with
  | 0 => cT_C
  | 1 => cT_G
  | 2 => cT_H
  | 3 => cT_R
  | 4 => cT_S
  | 5 => cT_F
  | 6 => cT_T
  | _ => cT_M
theorem am_by8 {P : Nat → Prop} (h0 : P 0) (h1 : P 1) (h2 : P 2) (h3 : P 3) (h4 : P 4) (h5 : P 5) (h6 : P 6) (h7 : P 7) {i : Nat} (hi : i < 8) : P i := by
  have h : i = 0 ∨ i = 1 ∨ i = 2 ∨ i = 3 ∨ i = 4 ∨ i = 5 ∨ i = 6 ∨ i = 7 := by omega
  rcases h with rfl | rfl | rfl | rfl | rfl | rfl | rfl | rfl <;> assumption
theorem am_ci {ci : Nat} (h : ci < 8) : classes[ci]? = some (am_cn ci, am_FT ci, am_FN ci) := am_by8 (P := fun ci => classes[ci]? = some (am_cn ci, am_FT ci, am_FN ci)) rfl rfl rfl rfl rfl rfl rfl rfl h
theorem am_ci_in {ci : Nat} (h : ci < 8) : ∀ w ∈ u_ws (am_cn ci) (am_FT ci) (am_FN ci), w ∈ am_tbl := am_by8 (P := fun ci => ∀ w ∈ u_ws (am_cn ci) (am_FT ci) (am_FN ci), w ∈ am_tbl) cI_C cI_G cI_H cI_R cI_S cI_F cI_T cI_M h
theorem am_ci_ty {ci : Nat} (h : ci < 8) : ∀ k, k < am_FN ci → parseFieldDescriptor (am_FT ci k).2.2.1 = some (am_Fy ci k) := am_by8 (P := fun ci => ∀ k, k < am_FN ci → parseFieldDescriptor (am_FT ci k).2.2.1 = some (am_Fy ci k)) cT_C_ok cT_G_ok cT_H_ok cT_R_ok cT_S_ok cT_F_ok cT_T_ok cT_M_ok h
theorem am_ci_nm {ci : Nat} (h : ci < 8) : ∀ a, a < am_FN ci → ∀ b, b < am_FN ci → a ≠ b → (am_FT ci a).2.1 ≠ (am_FT ci b).2.1 := am_by8 (P := fun ci => ∀ a, a < am_FN ci → ∀ b, b < am_FN ci → a ≠ b → (am_FT ci a).2.1 ≠ (am_FT ci b).2.1) cN_C cN_G cN_H cN_R cN_S cN_F cN_T cN_M h
theorem am_mem {w : Cond} (h : (decide (w ∈ lw_tbl) && goodWord w) = true) : w ∈ am_tbl := by
  simp only [Bool.and_eq_true, decide_eq_true_eq] at h
  exact List.mem_filter.mpr h
theorem am_lookup {α : Type} {l : List (Nat × α)} {k : Nat} {v : α} (h : l.lookup k = some v) : (k, v) ∈ l := by
  induction l with
  | nil => simp at h
  | cons a l ih =>
    obtain ⟨k', v'⟩ := a
    rw [List.lookup_cons] at h
    by_cases hk : k = k'
    · subst hk
      simp at h
      subst h
      exact List.mem_cons_self
    · rw [show (k == k') = false from beq_eq_false_iff_ne.mpr hk] at h
      exact List.mem_cons_of_mem _ (ih h)
def am_flok (own : Nat) (q : Nat × Nat × Nat × Nat) : Bool := decide (q.2.1 < 8) && decide (q.2.2.1 < am_FN q.2.1) && (decide ((Cond.fieldLink (am_cn own) q.1 (am_FT q.2.1 q.2.2.1).1 (am_FT q.2.1 q.2.2.1).2.1 (am_FT q.2.1 q.2.2.1).2.2.1) ∈ lw_tbl) && goodWord (Cond.fieldLink (am_cn own) q.1 (am_FT q.2.1 q.2.2.1).1 (am_FT q.2.1 q.2.2.1).2.1 (am_FT q.2.1 q.2.2.1).2.2.1)) &&
  (match q.2.2.2 with
    | 0 => decide (am_Fy q.2.1 q.2.2.1 = .int) && !(am_FT q.2.1 q.2.2.1).2.2.2
    | 1 => decide (am_Fy q.2.1 q.2.2.1 = .long) && !(am_FT q.2.1 q.2.2.1).2.2.2
    | 2 => (match am_Fy q.2.1 q.2.2.1 with | .object _ => true | .array _ => true | _ => false) && !(am_FT q.2.1 q.2.2.1).2.2.2
    | 3 => (match am_Fy q.2.1 q.2.2.1 with | .object _ => true | .array _ => true | _ => false) && (am_FT q.2.1 q.2.2.1).2.2.2 && decide ((am_FT q.2.1 q.2.2.1).1 = am_cn own)
    | _ => false)
theorem am_fl0 : (am_fls 0).all (am_flok 0) = true := by decide +kernel
theorem am_fl1 : (am_fls 1).all (am_flok 1) = true := by decide +kernel
theorem am_fl2 : (am_fls 2).all (am_flok 2) = true := by decide +kernel
theorem am_fl3 : (am_fls 3).all (am_flok 3) = true := by decide +kernel
theorem am_fl4 : (am_fls 4).all (am_flok 4) = true := by decide +kernel
theorem am_fl5 : (am_fls 5).all (am_flok 5) = true := by decide +kernel
theorem am_fl6 : (am_fls 6).all (am_flok 6) = true := by decide +kernel
theorem am_fl7 : (am_fls 7).all (am_flok 7) = true := by decide +kernel
theorem am_fl8 (own : Nat) (h : 8 ≤ own) : am_fls own = [] := by
  unfold am_fls
  split <;> first | omega | rfl
theorem am_flx {own idx : Nat} {r : Nat × Nat × Nat} (h : am_fl own idx = some r) : am_flok own (idx, r) = true := by
  have hm : (idx, r) ∈ am_fls own := am_lookup h
  by_cases ho : own < 8
  · exact List.all_eq_true.mp (am_by8 (P := fun own => (am_fls own).all (am_flok own) = true) am_fl0 am_fl1 am_fl2 am_fl3 am_fl4 am_fl5 am_fl6 am_fl7 ho) _ hm
  · rw [am_fl8 own (by omega)] at hm
    cases hm
/-- a class that is made -/
def am_clok (own : Nat) (q : Nat × Nat) : Bool := decide (q.2 < 8) && (decide ((Cond.classLink (am_cn own) q.1 (am_cn q.2)) ∈ lw_tbl) && goodWord (Cond.classLink (am_cn own) q.1 (am_cn q.2))) && (decide ((Cond.instantiable (am_cn q.2) (am_FN q.2)) ∈ lw_tbl) && goodWord (Cond.instantiable (am_cn q.2) (am_FN q.2))) && (decide ((Cond.initialized (am_cn q.2)) ∈ lw_tbl) && goodWord (Cond.initialized (am_cn q.2)))
theorem am_cl_all : ∀ own, own < 12 → (am_cls own).all (am_clok own) = true := by decide +kernel
theorem am_cl12 (own : Nat) (h : 12 ≤ own) : am_cls own = [] := by
  unfold am_cls
  split <;> first | omega | rfl
theorem am_clx {own idx ci : Nat} (h : am_cl own idx = some ci) : am_clok own (idx, ci) = true := by
  have hm : (idx, ci) ∈ am_cls own := am_lookup h
  by_cases ho : own < 12
  · exact List.all_eq_true.mp (am_cl_all own ho) _ hm
  · rw [am_cl12 own (by omega)] at hm
    cases hm
theorem am_df_ok {ci : Nat} {fs : List Value} (h : am_df ci = some fs) (hc : ci < 8) (sp : Nat → Nat) (base : Nat) : fs.length = am_FN ci ∧ fs.map (am_rv sp base) = fs ∧ ∀ j, j < am_FN ci → defaultValue (am_Fy ci j) = vp_V fs j := by
  have k : ∀ ci, ci < 8 → ∀ j, j < am_FN ci → (am_df ci).map (fun fs => vp_V fs j) = some (defaultValue (am_Fy ci j)) := by decide +kernel
  refine ⟨?_, ?_, fun j hj => ?_⟩
  · exact am_by8 (P := fun ci => am_df ci = some fs → fs.length = am_FN ci) (fun h => by cases h; rfl) (fun h => by cases h; rfl) (fun h => by cases h; rfl) (fun h => by cases h; rfl) (fun h => by cases h; rfl) (fun h => by cases h; rfl) (fun h => by cases h; rfl) (fun h => by cases h; rfl) hc h
  · exact am_by8 (P := fun ci => am_df ci = some fs → fs.map (am_rv sp base) = fs) (fun h => by cases h; rfl) (fun h => by cases h; rfl) (fun h => by cases h; rfl) (fun h => by cases h; rfl) (fun h => by cases h; rfl) (fun h => by cases h; rfl) (fun h => by cases h; rfl) (fun h => by cases h; rfl) hc h
  · have := k ci hc j hj
    rw [h] at this
    exact (Option.some.inj this).symm
/-- constants -/
def am_ctok (own : Nat) (q : Nat × Value) : Bool := match q.2 with
  | .int x => decide ((Cond.constant (am_cn own) q.1 x) ∈ lw_tbl) && goodWord (Cond.constant (am_cn own) q.1 x)
  | .long x => decide ((Cond.constantLong (am_cn own) q.1 x) ∈ lw_tbl) && goodWord (Cond.constantLong (am_cn own) q.1 x)
  | .ref x => decide ((own = 3 ∧ q.1 = 65 ∧ x = 2) ∨ (own = 3 ∧ q.1 = 74 ∧ x = 3))
  | _ => false
theorem am_ct_all : ∀ own, own < 12 → (am_cts own).all (am_ctok own) = true := by decide +kernel
theorem am_ct12 (own : Nat) (h : 12 ≤ own) : am_cts own = [] := by
  unfold am_cts
  split <;> first | omega | rfl
theorem am_ctx {own idx : Nat} {v : Value} (h : am_ct own idx = some v) : am_ctok own (idx, v) = true := by
  have hm : (idx, v) ∈ am_cts own := am_lookup h
  by_cases ho : own < 12
  · exact List.all_eq_true.mp (am_ct_all own ho) _ hm
  · rw [am_ct12 own (by omega)] at hm
    cases hm
-- methods
/-- where the words stand: the code, the class initialised, the link, instance or static, selects -/
def am_mps (own : Nat) : List (List Nat) := match own with
  | 0 => [[79], [86, 56, 0, 85], [100, 57, 0, 99], [120, 58, 0, 119], [153, 59, 0, 152], [180, 60, 0, 179], [186, 61, 213, 185], [246, 56, 243, 244, 245], [250, 56, 247, 248, 249], [258, 56, 255, 256, 257], [266, 58, 263, 264, 265], [402, 58, 399, 400, 401], [406, 58, 403, 404, 405], [410, 58, 407, 408, 409], [414, 57, 411, 412, 413], [422, 60, 419, 420, 421], [426, 58, 423, 424, 425], [374, 57, 436, 372, 373], [378, 57, 437, 376, 377], [382, 57, 438, 380, 381], [418, 57, 439, 416, 417], [442, 68, 440, 441], [449, 57, 446, 447, 448], [465, 60, 462, 463, 464], [394, 57, 470, 392, 393], [474, 57, 471, 472, 473], [398, 57, 479, 396, 397], [483, 57, 480, 481, 482], [487, 57, 497, 485, 486], [505, 57, 502, 503, 504], [527, 57, 524, 525, 526], [274, 57, 532, 272, 273], [830, 55, 828, 829], [543, 55, 541, 542], [546, 55, 544, 545], [496, 55, 557, 495], [565, 57, 562, 563, 564], [569, 59, 566, 567, 568], [597, 59, 594, 595, 596], [601, 59, 598, 599, 600], [609, 55, 606, 608, 15], [613, 59, 610, 611, 612], [621, 60, 618, 619, 620], [638, 55, 636, 637], [642, 55, 639, 641, 17], [662, 56, 659, 660, 661], [667, 55, 664, 666, 20], [678, 55, 675, 677, 21], [390, 57, 670, 388, 389], [689, 55, 687, 688], [386, 57, 668, 384, 385], [693, 57, 690, 691, 692], [706, 57, 703, 704, 705], [270, 57, 711, 268, 269], [718, 55, 716, 717], [733, 60, 730, 731, 732], [625, 61, 742, 623, 624], [737, 61, 747, 735, 736], [453, 57, 831, 451, 452], [835, 55, 833, 834], [646, 57, 643, 644, 645], [287, 56, 669, 285, 286], [721, 55, 719, 720], [725, 55, 723, 724]]
  | 1 => [[101], [274, 57, 271, 272, 273], [418, 57, 415, 416, 417], [394, 57, 391, 392, 393], [398, 57, 395, 396, 397], [474, 57, 519, 472, 473], [390, 57, 694, 388, 389], [461, 57, 458, 460, 8], [490, 73, 488, 489], [496, 55, 0, 495], [487, 57, 484, 485, 486], [453, 57, 450, 451, 452], [457, 57, 454, 456, 7], [509, 57, 506, 508, 9], [513, 57, 510, 512, 10], [517, 57, 514, 516, 11], [386, 57, 518, 384, 385], [650, 57, 647, 649, 18], [654, 57, 651, 653, 19]]
  | 2 => [[181], [186, 61, 184, 185], [625, 61, 622, 623, 624], [631], [737, 61, 734, 735, 736]]
  | 3 => [[121], [100, 57, 0, 99], [270, 57, 267, 268, 269], [279, 58, 276, 278, 0], [246, 56, 280, 244, 245], [304, 58, 301, 303, 2], [308, 58, 305, 307, 3], [369, 58, 366, 368, 6], [313, 58, 310, 312, 4], [365, 58, 362, 364, 5], [374, 57, 371, 372, 373], [378, 57, 375, 376, 377], [382, 57, 379, 380, 381], [386, 57, 383, 384, 385], [390, 57, 387, 388, 389], [281], [287, 56, 284, 285, 286], [290, 58, 288, 289], [294, 58, 291, 293, 1], [297, 58, 295, 296], [300, 58, 298, 299], [], []]
  | 4 => [[154], [100, 57, 0, 99], [573, 57, 570, 571, 572], [414, 57, 574, 412, 413], [449, 57, 575, 447, 448], [579, 59, 576, 578, 12], [583, 59, 580, 582, 13], [590, 59, 587, 589, 14], [274, 57, 584, 272, 273], [474, 57, 585, 472, 473], [382, 57, 591, 380, 381], [527, 57, 592, 525, 526], [390, 57, 593, 388, 389]]
  | 5 => [[187], [188], [100, 57, 0, 99], [629, 61, 626, 628, 16], [414, 57, 630, 412, 413]]
  | 6 => [[87], [287, 56, 663, 285, 286]]
  | 7 => [[850, 63, 846, 848, 23], [974, 63, 972, 973], [977, 63, 975, 976], [981, 63, 978, 980, 25], [859], [1006, 63, 1003, 1005, 30], [1009, 63, 1007, 1008], [971, 63, 968, 970, 24], [1002, 63, 999, 1001, 29], [990, 63, 988, 989], [994, 63, 991, 993, 27], [998, 63, 995, 997, 28], [1013, 63, 1010, 1012, 31], [987, 63, 984, 986, 26], [1017, 63, 1014, 1016, 32], [1020, 63, 1018, 1019], [1032, 63, 1029, 1031, 33], [1036, 63, 1033, 1035, 34], [1070, 63, 1067, 1069, 40], [1054, 63, 1052, 1053], [1051, 63, 1049, 1050], [1058, 63, 1055, 1057, 38], [1048, 63, 1045, 1047, 37], [1040, 63, 1037, 1039, 35], [1044, 63, 1041, 1043, 36], [1066, 63, 1063, 1065, 39], [1078, 63, 1075, 1077, 41], [1082, 63, 1079, 1081, 42], [1097, 63, 1095, 1096], [1113, 63, 1110, 1112, 43], [1127, 63, 1125, 1126], [1130, 63, 1128, 1129], [1120, 63, 1118, 1119], [1124, 63, 1121, 1123, 44], [1146, 63, 1143, 1145, 45], [1158, 63, 1155, 1157, 46], [1166, 63, 1163, 1165, 47], [1170, 63, 1167, 1169, 48], [1182, 63, 1179, 1181, 49], [1194, 63, 1191, 1193, 50], [1218, 63, 1215, 1217, 52], [1214, 63, 1211, 1213, 51], [1223, 63, 1220, 1222, 53]]
  | 8 => [[755, 55, 752, 753, 754], [827, 55, 824, 825, 826], [78, 55, 76, 77], [858, 63, 856, 857], [242, 55, 239, 240, 241], [845, 63, 842, 843, 844], [254, 55, 251, 252, 253], [854, 63, 851, 852, 853], [262, 55, 259, 260, 261], [967, 63, 964, 965, 966], [431, 55, 428, 429, 430], [1024, 63, 1021, 1022, 1023], [435, 55, 432, 433, 434], [1028, 63, 1025, 1026, 1027], [469, 55, 466, 467, 468], [1062, 63, 1059, 1060, 1061], [], [1074, 63, 1071, 1072, 1073], [841, 63, 838, 839, 840], [478, 55, 475, 476, 477], [1086, 63, 1083, 1084, 1085], [501, 55, 498, 499, 500], [1090, 63, 1087, 1088, 1089], [523, 55, 520, 521, 522], [1094, 63, 1091, 1092, 1093], [531, 55, 528, 529, 530], [1101, 63, 1098, 1099, 1100], [536, 55, 533, 534, 535], [1105, 63, 1102, 1103, 1104], [], [1109, 63, 1106, 1107, 1108], [540, 55, 537, 538, 539], [1117, 63, 1114, 1115, 1116], [552, 55, 549, 550, 551], [1134, 63, 1131, 1132, 1133], [556, 55, 553, 554, 555], [1138, 63, 1135, 1136, 1137], [561, 55, 558, 559, 560], [1142, 63, 1139, 1140, 1141], [605, 55, 602, 603, 604], [1150, 63, 1147, 1148, 1149], [617, 55, 614, 615, 616], [1154, 63, 1151, 1152, 1153], [635, 55, 632, 633, 634], [1162, 63, 1159, 1160, 1161], [658, 55, 655, 656, 657], [1174, 63, 1171, 1172, 1173], [674, 55, 671, 672, 673], [1178, 63, 1175, 1176, 1177], [682, 55, 679, 680, 681], [1186, 63, 1183, 1184, 1185], [686, 55, 683, 684, 685], [1190, 63, 1187, 1188, 1189], [698, 55, 695, 696, 697], [1198, 63, 1195, 1196, 1197], [702, 55, 699, 700, 701], [1202, 63, 1199, 1200, 1201], [710, 55, 707, 708, 709], [1206, 63, 1203, 1204, 1205], [715, 55, 712, 713, 714], [1210, 63, 1207, 1208, 1209], [729, 55, 726, 727, 728], [1227, 63, 1224, 1225, 1226], [741, 55, 738, 739, 740], [1231, 63, 1228, 1229, 1230], [746, 55, 743, 744, 745], [1235, 63, 1232, 1233, 1234]]
  | _ => []
def am_at (ps : List Nat) (j : Nat) (w : Cond) : Bool := match ps[j]? with
  | some i => decide (lw_tbl[i]? = some w) && goodWord w
  | none => false
theorem am_at_mem {ps : List Nat} {j : Nat} {w : Cond} (h : am_at ps j w = true) : w ∈ am_tbl := by
  unfold am_at at h
  split at h
  · next i hi =>
    simp only [Bool.and_eq_true, decide_eq_true_eq] at h
    exact List.mem_filter.mpr ⟨List.mem_of_getElem? h.1, h.2⟩
  · cases h
def am_mok (ps : List Nat) (M : am_M) : Bool := am_at ps 0 (.code M.1 M.2.1 M.2.2.1 M.2.2.2.1) && decide (M.1.cls = am_cn M.2.2.2.2.1) && am_at ps 1 (.initialized M.1.cls) && plainName M.1.cls && decide (M.1.cls ≠ "java/lang/invoke/MethodHandle") && decide (M.1.cls ≠ "java/lang/invoke/VarHandle") && (!M.2.2.2.2.2.2 || decide (M.1.name = "<init>"))
def am_pn (y : MethodName) : Option Nat := (parseMethodDescriptor y.desc).map (fun d => d.parameters.length)
def am_mtok (own : Nat) (x : (Nat × Nat × am_M × Nat) × List Nat) : Bool := match x.1.2.1 with
  | 0 => am_mok x.2 x.1.2.2.1 && decide (am_pn x.1.2.2.1.1 = some x.1.2.2.2) && am_at x.2 2 (.methodLink (am_cn own) x.1.1 x.1.2.2.1.1) && am_at x.2 3 (.instanceMethod x.1.2.2.1.1) && am_at x.2 4 (.selects x.1.2.2.1.1.cls x.1.2.2.1.1 x.1.2.2.1.1) && decide (x.1.2.2.1.2.2.2.2.1 < 8)
  | 1 => am_mok x.2 x.1.2.2.1 && decide (am_pn x.1.2.2.1.1 = some x.1.2.2.2) && am_at x.2 2 (.methodLink (am_cn own) x.1.1 x.1.2.2.1.1) && am_at x.2 3 (.static x.1.2.2.1.1)
  | 2 => am_mok x.2 x.1.2.2.1 && decide (am_pn x.1.2.2.1.1 = some x.1.2.2.2) && am_at x.2 2 (.methodLink (am_cn own) x.1.1 x.1.2.2.1.1) && am_at x.2 3 (.instanceMethod x.1.2.2.1.1) && decide (x.1.2.2.1.1.name = "<init>") && decide (x.1.2.2.1.2.2.2.1 = none)
  | 3 => am_mok x.2 x.1.2.2.1 && decide (am_pn x.1.2.2.1.1 = some x.1.2.2.2) && decide ((Cond.methodLinkNest (am_cn own) x.1.1 x.1.2.2.1.1 "GridColours") ∈ am_nst) && am_at x.2 3 (.instanceMethod x.1.2.2.1.1) && decide (x.1.2.2.1.1.name = "<init>") && decide (x.1.2.2.1.2.2.2.1 = none)
  | 4 => am_mok x.2 x.1.2.2.1 && decide (am_pn x.1.2.2.1.1 = some x.1.2.2.2) && decide ((Cond.methodLinkNest (am_cn own) x.1.1 x.1.2.2.1.1 "GridColours") ∈ am_nst) && am_at x.2 3 (.static x.1.2.2.1.1)
  | 5 => am_at x.2 0 (.methodLink (am_cn own) x.1.1 Lib.objectInit)
  | 6 => decide (own = 3 ∧ x.1.1 = 114)
  | 7 => decide (own = 3 ∧ x.1.1 = 117)
  | 8 => decide (own = 8 ∧ x.1.1 = 51)
  | 9 => decide (own = 8 ∧ x.1.1 = 81)
  | 10 => am_at x.2 0 (.methodLink (am_cn own) x.1.1 Lib.Math.min.name)
  | 11 => am_at x.2 0 (.methodLink (am_cn own) x.1.1 Lib.Math.max.name)
  | _ => false
/-- n of the rows from k on -/
def am_mtz (own k n : Nat) : Bool := ((((am_mts own).zip (am_mps own)).drop k).take n).all (am_mtok own)

theorem am_mt_0_0 : am_mtz 0 0 8 = true := by decide +kernel
theorem am_mt_0_8 : am_mtz 0 8 8 = true := by decide +kernel
theorem am_mt_0_16 : am_mtz 0 16 8 = true := by decide +kernel
theorem am_mt_0_24 : am_mtz 0 24 8 = true := by decide +kernel
theorem am_mt_0_32 : am_mtz 0 32 8 = true := by decide +kernel
theorem am_mt_0_40 : am_mtz 0 40 8 = true := by decide +kernel
theorem am_mt_0_48 : am_mtz 0 48 8 = true := by decide +kernel
theorem am_mt_0_56 : am_mtz 0 56 8 = true := by decide +kernel
theorem am_mt_1_0 : am_mtz 1 0 8 = true := by decide +kernel
theorem am_mt_1_8 : am_mtz 1 8 8 = true := by decide +kernel
theorem am_mt_1_16 : am_mtz 1 16 8 = true := by decide +kernel
theorem am_mt_2_0 : am_mtz 2 0 8 = true := by decide +kernel
theorem am_mt_3_0 : am_mtz 3 0 8 = true := by decide +kernel
theorem am_mt_3_8 : am_mtz 3 8 8 = true := by decide +kernel
theorem am_mt_3_16 : am_mtz 3 16 8 = true := by decide +kernel
theorem am_mt_4_0 : am_mtz 4 0 8 = true := by decide +kernel
theorem am_mt_4_8 : am_mtz 4 8 8 = true := by decide +kernel
theorem am_mt_5_0 : am_mtz 5 0 8 = true := by decide +kernel
theorem am_mt_6_0 : am_mtz 6 0 8 = true := by decide +kernel
theorem am_mt_7_0 : am_mtz 7 0 8 = true := by decide +kernel
theorem am_mt_7_8 : am_mtz 7 8 8 = true := by decide +kernel
theorem am_mt_7_16 : am_mtz 7 16 8 = true := by decide +kernel
theorem am_mt_7_24 : am_mtz 7 24 8 = true := by decide +kernel
theorem am_mt_7_32 : am_mtz 7 32 8 = true := by decide +kernel
theorem am_mt_7_40 : am_mtz 7 40 8 = true := by decide +kernel
theorem am_mt_8_0 : am_mtz 8 0 8 = true := by decide +kernel
theorem am_mt_8_8 : am_mtz 8 8 8 = true := by decide +kernel
theorem am_mt_8_16 : am_mtz 8 16 8 = true := by decide +kernel
theorem am_mt_8_24 : am_mtz 8 24 8 = true := by decide +kernel
theorem am_mt_8_32 : am_mtz 8 32 8 = true := by decide +kernel
theorem am_mt_8_40 : am_mtz 8 40 8 = true := by decide +kernel
theorem am_mt_8_48 : am_mtz 8 48 8 = true := by decide +kernel
theorem am_mt_8_56 : am_mtz 8 56 8 = true := by decide +kernel
theorem am_mt_8_64 : am_mtz 8 64 8 = true := by decide +kernel
theorem am_mt_len : ∀ own, own < 12 → (am_mts own).length = (am_mps own).length := by decide +kernel
theorem am_all_cut {α : Type} {l : List α} {f : α → Bool} (k n : Nat) (h1 : (l.take k).all f = true) (h2 : ((l.drop k).take n).all f = true) : (l.take (k + n)).all f = true := by
  rw [List.take_add, List.all_append, h1, h2]
  rfl
theorem am_mt_0 : ((am_mts 0).zip (am_mps 0)).all (am_mtok 0) = true := by
  have h := (am_all_cut 56 8 (am_all_cut 48 8 (am_all_cut 40 8 (am_all_cut 32 8 (am_all_cut 24 8 (am_all_cut 16 8 (am_all_cut 8 8 (am_all_cut 0 8 (by rfl) am_mt_0_0) am_mt_0_8) am_mt_0_16) am_mt_0_24) am_mt_0_32) am_mt_0_40) am_mt_0_48) am_mt_0_56)
  rw [List.take_of_length_le (by decide +kernel)] at h
  exact h
theorem am_mt_1 : ((am_mts 1).zip (am_mps 1)).all (am_mtok 1) = true := by
  have h := (am_all_cut 16 8 (am_all_cut 8 8 (am_all_cut 0 8 (by rfl) am_mt_1_0) am_mt_1_8) am_mt_1_16)
  rw [List.take_of_length_le (by decide +kernel)] at h
  exact h
theorem am_mt_2 : ((am_mts 2).zip (am_mps 2)).all (am_mtok 2) = true := by
  have h := (am_all_cut 0 8 (by rfl) am_mt_2_0)
  rw [List.take_of_length_le (by decide +kernel)] at h
  exact h
theorem am_mt_3 : ((am_mts 3).zip (am_mps 3)).all (am_mtok 3) = true := by
  have h := (am_all_cut 16 8 (am_all_cut 8 8 (am_all_cut 0 8 (by rfl) am_mt_3_0) am_mt_3_8) am_mt_3_16)
  rw [List.take_of_length_le (by decide +kernel)] at h
  exact h
theorem am_mt_4 : ((am_mts 4).zip (am_mps 4)).all (am_mtok 4) = true := by
  have h := (am_all_cut 8 8 (am_all_cut 0 8 (by rfl) am_mt_4_0) am_mt_4_8)
  rw [List.take_of_length_le (by decide +kernel)] at h
  exact h
theorem am_mt_5 : ((am_mts 5).zip (am_mps 5)).all (am_mtok 5) = true := by
  have h := (am_all_cut 0 8 (by rfl) am_mt_5_0)
  rw [List.take_of_length_le (by decide +kernel)] at h
  exact h
theorem am_mt_6 : ((am_mts 6).zip (am_mps 6)).all (am_mtok 6) = true := by
  have h := (am_all_cut 0 8 (by rfl) am_mt_6_0)
  rw [List.take_of_length_le (by decide +kernel)] at h
  exact h
theorem am_mt_7 : ((am_mts 7).zip (am_mps 7)).all (am_mtok 7) = true := by
  have h := (am_all_cut 40 8 (am_all_cut 32 8 (am_all_cut 24 8 (am_all_cut 16 8 (am_all_cut 8 8 (am_all_cut 0 8 (by rfl) am_mt_7_0) am_mt_7_8) am_mt_7_16) am_mt_7_24) am_mt_7_32) am_mt_7_40)
  rw [List.take_of_length_le (by decide +kernel)] at h
  exact h
theorem am_mt_8 : ((am_mts 8).zip (am_mps 8)).all (am_mtok 8) = true := by
  have h := (am_all_cut 64 8 (am_all_cut 56 8 (am_all_cut 48 8 (am_all_cut 40 8 (am_all_cut 32 8 (am_all_cut 24 8 (am_all_cut 16 8 (am_all_cut 8 8 (am_all_cut 0 8 (by rfl) am_mt_8_0) am_mt_8_8) am_mt_8_16) am_mt_8_24) am_mt_8_32) am_mt_8_40) am_mt_8_48) am_mt_8_56) am_mt_8_64)
  rw [List.take_of_length_le (by decide +kernel)] at h
  exact h
theorem am_mt_9 : ((am_mts 9).zip (am_mps 9)).all (am_mtok 9) = true := by
  rfl
theorem am_mt_10 : ((am_mts 10).zip (am_mps 10)).all (am_mtok 10) = true := by
  rfl
theorem am_mt_11 : ((am_mts 11).zip (am_mps 11)).all (am_mtok 11) = true := by
  rfl
theorem am_mt_all (own : Nat) (h : own < 12) : ((am_mts own).zip (am_mps own)).all (am_mtok own) = true := by
  have h : own = 0 ∨ own = 1 ∨ own = 2 ∨ own = 3 ∨ own = 4 ∨ own = 5 ∨ own = 6 ∨ own = 7 ∨ own = 8 ∨ own = 9 ∨ own = 10 ∨ own = 11 := by omega
  rcases h with rfl | rfl | rfl | rfl | rfl | rfl | rfl | rfl | rfl | rfl | rfl | rfl
  · exact am_mt_0
  · exact am_mt_1
  · exact am_mt_2
  · exact am_mt_3
  · exact am_mt_4
  · exact am_mt_5
  · exact am_mt_6
  · exact am_mt_7
  · exact am_mt_8
  · exact am_mt_9
  · exact am_mt_10
  · exact am_mt_11
theorem am_mt12 (own : Nat) (h : 12 ≤ own) : am_mts own = [] := by
  unfold am_mts
  split <;> first | omega | rfl
theorem am_zip_mem {α β : Type} : ∀ (l : List α) (r : List β), l.length = r.length → ∀ x ∈ l, ∃ y, (x, y) ∈ l.zip r
  | [], _, _, _, h => by cases h
  | a :: l, [], h, _, _ => by simp at h
  | a :: l, b :: r, h, x, hx => by
    rcases List.mem_cons.mp hx with rfl | hx
    · exact ⟨b, List.mem_cons_self⟩
    · obtain ⟨y, hy⟩ := am_zip_mem l r (by simpa using h) x hx
      exact ⟨y, List.mem_cons_of_mem _ hy⟩
theorem am_mtx {own idx : Nat} {r : Nat × am_M × Nat} (h : am_mt own idx = some r) : ∃ ps, am_mtok own ((idx, r), ps) = true := by
  have hm : (idx, r) ∈ am_mts own := am_lookup h
  by_cases ho : own < 12
  · obtain ⟨ps, hps⟩ := am_zip_mem _ _ (am_mt_len own ho) _ hm
    exact ⟨ps, List.all_eq_true.mp (am_mt_all own ho) _ hps⟩
  · rw [am_mt12 own (by omega)] at hm
    cases hm
theorem am_objm : (Cond.instanceMethod Lib.objectInit) ∈ am_tbl := am_at_mem (ps := [80]) (j := 0) (by decide +kernel)
theorem am_objc : (Cond.code Lib.objectInit ⟨#[0xb1]⟩ 1 none) ∈ am_tbl := am_at_mem (ps := [81]) (j := 0) (by decide +kernel)
theorem am_min_s : (Cond.static Lib.Math.min.name) ∈ am_tbl := am_at_mem (ps := [282]) (j := 0) (by decide +kernel)
theorem am_min_c : (Cond.code Lib.Math.min.name Lib.Math.min.code 2 (some .int)) ∈ am_tbl := am_at_mem (ps := [283]) (j := 0) (by decide +kernel)
theorem am_max_s : (Cond.static Lib.Math.max.name) ∈ am_tbl := am_at_mem (ps := [189]) (j := 0) (by decide +kernel)
theorem am_max_c : (Cond.code Lib.Math.max.name Lib.Math.max.code 2 (some .int)) ∈ am_tbl := am_at_mem (ps := [190]) (j := 0) (by decide +kernel)
theorem am_math_i : (Cond.initialized "java/lang/Math") ∈ am_tbl := am_at_mem (ps := [62]) (j := 0) (by decide +kernel)
theorem am_arr_i : (Cond.arrayClass .int) ∈ am_tbl := am_at_mem (ps := [95]) (j := 0) (by decide +kernel)
theorem am_arr_l : (Cond.arrayClass .long) ∈ am_tbl := am_at_mem (ps := [115]) (j := 0) (by decide +kernel)
theorem am_arr_z : (Cond.arrayClass .boolean) ∈ am_tbl := am_at_mem (ps := [201]) (j := 0) (by decide +kernel)
end
section
/-! LOCALS, NEW CELLS -/
/-- what the small machine knows of the locals is so -/
def am_lv (sp : Nat → Nat) (base : Nat) (M : am_M) (ls : List (Option Value)) (as : Array Slot) : Prop := as.size = M.2.2.1 ∧ lv_wf as ∧ ls.length = M.2.2.1 ∧ ∀ (k : Nat) (v : Value), ls[k]? = some (some v) → (v.category = 2 → k ∈ M.2.2.2.2.2.1) → as[k]? = some (.val (am_rv sp base v))
theorem am_rv_cat (sp : Nat → Nat) (base : Nat) (v : Value) : (am_rv sp base v).category = v.category := by cases v <;> rfl
theorem am_lv.has {sp : Nat → Nat} {base : Nat} {M : am_M} {ls : List (Option Value)} {as : Array Slot} (h : am_lv sp base M ls as) : ∃ lv, lv_has as M.2.2.1 lv ∧ ∀ (k : Nat) (v : Value), ls[k]? = some (some v) → (v.category = 2 → k ∈ M.2.2.2.2.2.1) → (k, am_rv sp base v) ∈ lv := by
  obtain ⟨h1, h2, h3, h4⟩ := h
  refine ⟨(List.range ls.length).filterMap (fun k => match ls[k]? with
    | some (some v) => if v.category = 2 → k ∈ M.2.2.2.2.2.1 then some (k, am_rv sp base v) else none
    | _ => none), ⟨h1, h2, fun q hq => ?_⟩, fun k v hk hv => ?_⟩
  · obtain ⟨k, -, hk⟩ := List.mem_filterMap.mp hq
    split at hk
    · next v hv =>
      split at hk
      · next hc => cases hk; exact h4 k v hv hc
      · cases hk
    · cases hk
  · refine List.mem_filterMap.mpr ⟨k, List.mem_range.mpr (List.getElem?_eq_some_iff.mp hk).1, ?_⟩
    rw [hk]
    dsimp only
    rw [if_pos hv]
theorem am_lv.at {sp : Nat → Nat} {base : Nat} {M : am_M} {ls : List (Option Value)} {as : Array Slot} (h : am_lv sp base M ls as) {k : Nat} {v : Value} (hk : ls[k]? = some (some v)) (hv : v.category = 2 → k ∈ M.2.2.2.2.2.1) : as[k]? = some (.val (am_rv sp base v)) := h.2.2.2 k v hk hv
theorem am_ok1_eq {M : am_M} {k : Nat} (h : am_ok1 M k = true) : k < M.2.2.1 ∧ ∀ q ∈ M.2.2.2.2.2.1, q + 1 ≠ k := by
  simp only [am_ok1, Bool.and_eq_true, decide_eq_true_eq, List.all_eq_true] at h
  refine ⟨h.1, fun q hq => ?_⟩
  have := h.2 q hq
  simpa using this
theorem am_ok2_eq {M : am_M} {k : Nat} (h : am_ok2 M k = true) : k + 1 < M.2.2.1 ∧ (∀ q ∈ M.2.2.2.2.2.1, q + 1 ≠ k) ∧ k ∈ M.2.2.2.2.2.1 := by
  simp only [am_ok2, Bool.and_eq_true, decide_eq_true_eq, List.all_eq_true, List.contains_iff_mem] at h
  refine ⟨h.1.1, fun q hq => ?_, h.2⟩
  have := h.1.2 q hq
  simpa using this
/-- behind a store of one place -/
theorem am_lv.put1 {sp : Nat → Nat} {base : Nat} {M : am_M} {ls : List (Option Value)} {as as' : Array Slot} (h : am_lv sp base M ls as) {lv : List (Nat × Value)} (hlv : ∀ (k : Nat) (v : Value), ls[k]? = some (some v) → (v.category = 2 → k ∈ M.2.2.2.2.2.1) → (k, am_rv sp base v) ∈ lv) {i : Nat} {x : Value} (ho : am_ok1 M i = true)
    (h' : lv_has as' M.2.2.1 ((i, am_rv sp base x) :: lv.filter (fun q => !(q.1 == i) && !(q.1 + 1 == i && q.2.category == 2)))) : am_lv sp base M (ls.set i (some x)) as' := by
  obtain ⟨ho1, ho2⟩ := am_ok1_eq ho
  refine ⟨h'.1, h'.2.1, by rw [List.length_set]; exact h.2.2.1, fun k v hk hv => ?_⟩
  by_cases hki : i = k
  · subst hki
    rw [List.getElem?_set_self (by rw [h.2.2.1]; exact ho1)] at hk
    cases hk
    exact h'.2.2 _ List.mem_cons_self
  · rw [List.getElem?_set_ne hki] at hk
    refine h'.2.2 (k, am_rv sp base v) (List.mem_cons_of_mem _ (List.mem_filter.mpr ⟨hlv k v hk hv, ?_⟩))
    simp only [Bool.and_eq_true, Bool.not_eq_true', beq_eq_false_iff_ne, ne_eq, Bool.and_eq_false_iff, am_rv_cat]
    refine ⟨fun e => hki e.symm, ?_⟩
    by_cases hc : v.category = 2
    · exact Or.inl (ho2 k (hv hc))
    · exact Or.inr hc
/-- behind a store of two -/
theorem am_lv.put2 {sp : Nat → Nat} {base : Nat} {M : am_M} {ls : List (Option Value)} {as as' : Array Slot} (h : am_lv sp base M ls as) {lv : List (Nat × Value)} (hlv : ∀ (k : Nat) (v : Value), ls[k]? = some (some v) → (v.category = 2 → k ∈ M.2.2.2.2.2.1) → (k, am_rv sp base v) ∈ lv) {i : Nat} {x : Value} (ho : am_ok2 M i = true)
    (h' : lv_has as' M.2.2.1 ((i, am_rv sp base x) :: lv.filter (fun q => !(q.1 == i) && (!(q.1 == i + 1) && !(q.1 + 1 == i && q.2.category == 2))))) : am_lv sp base M ((ls.set i (some x)).set (i + 1) none) as' := by
  obtain ⟨ho1, ho2, ho3⟩ := am_ok2_eq ho
  refine ⟨h'.1, h'.2.1, by rw [List.length_set, List.length_set]; exact h.2.2.1, fun k v hk hv => ?_⟩
  by_cases hk1 : i + 1 = k
  · subst hk1
    rw [List.getElem?_set_self (by rw [List.length_set, h.2.2.1]; exact ho1)] at hk
    cases hk
  · rw [List.getElem?_set_ne hk1] at hk
    by_cases hki : i = k
    · subst hki
      rw [List.getElem?_set_self (by rw [h.2.2.1]; omega)] at hk
      cases hk
      exact h'.2.2 _ List.mem_cons_self
    · rw [List.getElem?_set_ne hki] at hk
      refine h'.2.2 (k, am_rv sp base v) (List.mem_cons_of_mem _ (List.mem_filter.mpr ⟨hlv k v hk hv, ?_⟩))
      simp only [Bool.and_eq_true, Bool.not_eq_true', beq_eq_false_iff_ne, ne_eq, Bool.and_eq_false_iff, am_rv_cat]
      refine ⟨fun e => hki e.symm, fun e => hk1 e.symm, ?_⟩
      by_cases hc : v.category = 2
      · exact Or.inl (ho2 k (hv hc))
      · exact Or.inr hc
/-- a new cell -/
theorem am_R.push {D : va_G} {dA : Nat → ClassId} {sp : Nat → Nat} {base L : Nat} {xs : Nat → Int32} {w w' : am_W} {H H1 : Heap} {x : (Nat × vp_A) ⊕ (Nat × List Value)} {n : Nat} (h : am_R D dA sp base L xs w H) (hn : am_nw w x n = some w') (hsz : H.size ≤ base + w.1) (z : H1.size = H.size + 1) (o : ∀ q, q < H.size → H1[q]? = H[q]?) (hx : va_at D classes (H.size, am_re dA sp base x) H1) :
    am_R D dA sp base L xs w' H1 ∧ am_ad sp base w.2.2.length = H.size ∧ w' = (w.1 + 1, w.2.1 + n, w.2.2 ++ [some x]) := by
  unfold am_nw at hn
  split at hn
  · next h8 =>
    cases hn
    obtain ⟨hP, ⟨hZ1, hZ2⟩, hs⟩ := h
    have e1 : am_ad sp base w.2.2.length = H.size := by
      rw [am_ad_ge hZ1]
      omega
    refine ⟨⟨fun i y h8i hy => ?_, ⟨?_, ?_⟩, ?_⟩, e1, rfl⟩
    · have hy : (w.2.2 ++ [some x])[i]? = some (some y) := hy
      by_cases hi : i < w.2.2.length
      · rw [List.getElem?_append_left hi] at hy
        have h9 := hP i y h8i hy
        exact h9.kept (o _ h9.lt)
      · rw [List.getElem?_append_right (by omega)] at hy
        have hz : i - w.2.2.length < 1 := (List.getElem?_eq_some_iff.mp hy).1
        have hi2 : i = w.2.2.length := by omega
        subst hi2
        rw [Nat.sub_self] at hy
        cases hy
        rw [e1]
        exact hx
    · show 8 ≤ (w.2.2 ++ [some x]).length
      simp
      omega
    · show base + (w.2.2 ++ [some x]).length ≤ H1.size + 8
      simp
      omega
    · have k : ∀ j, j < 8 → (w.2.2 ++ [some x])[j]? = w.2.2[j]? := fun j hj => List.getElem?_append_left (by omega)
      obtain ⟨h0, h1, h2, h3, h4⟩ := hs
      exact ⟨(k 0 (by omega)).trans h0, (k 1 (by omega)).trans h1, (k 2 (by omega)).trans h2, (k 3 (by omega)).trans h3, fun j a b => (k j b).trans (h4 j a b)⟩
  · cases hn
theorem va_S.push1 {A : Nat → Prop} {H0 H H1 : Heap} {locs : List Loc} (h : va_S A H0 H locs) (z : H1.size = H.size + 1) (o : ∀ q, q < H.size → H1[q]? = H[q]?) : va_S A H0 H1 locs := ⟨by have := h.1; omega, fun q a b => (o q (Nat.lt_of_lt_of_le a h.1)).trans (h.2.1 q a b), h.2.2⟩
section AMN
variable {p : Program} {l : Launch} {e : Env} {R : Room} {s : State} {m : MethodId} {args : Array Value} {below : List Frame} {meth : Method} {c : Code} {H : Heap} {locs : List Loc} {cells slots : Nat} {Q : State → Prop}
variable {D : va_G} {dA : Nat → ClassId} {sp : Nat → Nat} {base L : Nat} {xs : Nat → Int32} {w : am_W} {cc : ByteArray} {pc : Nat} {ls : Array Slot} {rest : List Value}
theorem am_rnew (hx : p.tables.exec = Jvm.exec) (hb : c.code = cc) (hts : ∀ w ∈ am_tbl, w.before args s = true) {own index ci : Nat} (hown : s.vm.findClass (am_cn own) = some m.cls) (hK : va_K D classes (am_tys dA) s) (hR : am_R D dA sp base L xs w H) (hS : va_S (fun q => base ≤ q) s.heap H locs) (hsz : H.size ≤ base + w.1)
    (hc : am_cl own index = some ci) {fs : List Value} (hf : am_df ci = some fs) {w' : am_W} (hn : am_nw w (.inr (ci, fs)) fs.length = some w') (hcells : cells + 1 ≤ R.cells) (hslots : slots + fs.length ≤ R.slots) (hdg : decode cc pc = .ok (.new index, 3))
    (kk : ∀ (H1 : Heap), am_R D dA sp base L xs w' H1 → va_S (fun q => base ≤ q) s.heap H1 locs → W p l e R s m args below meth c H1 locs (cells + 1) (slots + fs.length) Q (F0 m (pc + 3) ls (.ref (am_ad sp base w.2.2.length) :: rest))) : W p l e R s m args below meth c H locs cells slots Q (F0 m pc ls rest) := by
  have ho := am_clx hc
  simp only [am_clok, Bool.and_eq_true, decide_eq_true_eq] at ho
  obtain ⟨⟨⟨h8, h1, g1⟩, h2, g2⟩, h3, g3⟩ := ho
  obtain ⟨f1, f2, f3⟩ := am_df_ok hf h8 sp base
  have hKn := hK.1 ci _ (am_ci h8)
  rw [f1] at hslots
  refine W.newcK hx hb hown (hts _ (List.mem_filter.mpr ⟨h1, g1⟩)) (hts _ (List.mem_filter.mpr ⟨h2, g2⟩)) (hts _ (List.mem_filter.mpr ⟨h3, g3⟩)) rfl hdg hcells hslots hKn.2.1 rfl fun H1 kC hkC e1 z1 o1 => ?_
  have hat : va_at D classes (H.size, am_re dA sp base (.inr (ci, fs))) H1 := by
    refine ⟨_, am_ci h8, ?_⟩
    show t_OB _ _ _ _ _ (vp_V (fs.map (am_rv sp base)))
    rw [f2]
    exact (u_born (am_Fy ci) hts (am_ci_in h8) hKn hkC e1 (am_ci_ty h8)).to f3
  obtain ⟨hR1, e9, rfl⟩ := hR.push hn hsz z1 o1 hat
  have hk := kk H1 hR1 (hS.push1 z1 o1)
  rw [e9, f1] at hk
  exact hk
theorem am_rna0 {t : Nat} {atype : ArrayType} {a0 : vp_A} {ty : FieldType} (hty : newarray.typeOf atype = ty) (hx : p.tables.exec = Jvm.exec) (hb : c.code = cc) (harr : (Cond.arrayClass (newarray.typeOf atype)).before args s = true) (hK : va_K D classes (am_tys dA) s) (ht : (am_tys dA)[t]? = some (dA t, ty)) (hRA : va_RA s (dA t) ty = (s.vm.findClass ("[" ++ ty.toString) = some (dA t))) (hR : am_R D dA sp base L xs w H) (hS : va_S (fun q => base ≤ q) s.heap H locs) (hsz : H.size ≤ base + w.1)
    {n : Int32} (hn0 : ¬ n < 0) (hn1 : n.toNatClampNeg ≤ 100000) (hcb : componentBytes ty ≤ 8) (ha : vp_cell (dA t) a0 = arrV (dA t) n.toNatClampNeg (fun _ => defaultValue ty)) (hre : am_re dA sp base (.inl (t, a0)) = .inl (dA t, a0)) {w' : am_W} (hn : am_nw w (.inl (t, a0)) n.toNatClampNeg = some w') (hcells : cells + 1 ≤ R.cells) (hslots : slots + n.toNatClampNeg ≤ R.slots) (hdg : decode cc pc = .ok (.newarray atype, 2))
    (kk : ∀ (H1 : Heap), am_R D dA sp base L xs w' H1 → va_S (fun q => base ≤ q) s.heap H1 locs → W p l e R s m args below meth c H1 locs (cells + 1) (slots + n.toNatClampNeg) Q (F0 m (pc + 2) ls (.ref (am_ad sp base w.2.2.length) :: rest))) : W p l e R s m args below meth c H locs cells slots Q (F0 m pc ls (.int n :: rest)) := by
  subst hty
  refine va_newaK (rest := rest) hx hb harr rfl hdg rfl hn0 rfl (Nat.le_trans (Nat.mul_le_mul hn1 hcb) (Nat.le_of_ble_eq_true rfl)) hcells hslots rfl fun H1 cA e1 z1 o1 hAr hNm => ?_
  have hra := (hK.2 t _ ht).2
  rw [hRA] at hra
  have ec : cA = dA t := Option.some.inj (hNm.symm.trans hra)
  subst ec
  have hat : va_at D classes (H.size, am_re dA sp base (.inl (t, a0))) H1 := by
    rw [hre]
    show H1[H.size]? = some (vp_cell _ _)
    rw [ha]
    exact e1
  obtain ⟨hR1, e9, rfl⟩ := hR.push hn hsz z1 o1 hat
  have hk := kk H1 hR1 (hS.push1 z1 o1)
  rw [e9] at hk
  exact hk
theorem am_rnq (hx : p.tables.exec = Jvm.exec) (hb : c.code = cc) (hts : ∀ w ∈ am_tbl, w.before args s = true) {own index : Nat} (hown : s.vm.findClass (am_cn own) = some m.cls) (hE : am_env D dA sp base L xs s) (hR : am_R D dA sp base L xs w H) (hS : va_S (fun q => base ≤ q) s.heap H locs) (hsz : H.size ≤ base + w.1)
    (hc : am_cl own index = some 1) {n : Int32} (hn0 : ¬ n < 0) (hn1 : n.toNatClampNeg ≤ 100000) {w' : am_W} (hn : am_nw w (.inl (3, n.toNatClampNeg, .inr (.inr (.inr (.inr (fun _ => none)))))) n.toNatClampNeg = some w') (hcells : cells + 1 ≤ R.cells) (hslots : slots + n.toNatClampNeg ≤ R.slots) (hdg : decode cc pc = .ok (.anewarray index, 3))
    (kk : ∀ (H1 : Heap), am_R D dA sp base L xs w' H1 → va_S (fun q => base ≤ q) s.heap H1 locs → W p l e R s m args below meth c H1 locs (cells + 1) (slots + n.toNatClampNeg) Q (F0 m (pc + 3) ls (.ref (am_ad sp base w.2.2.length) :: rest))) : W p l e R s m args below meth c H locs cells slots Q (F0 m pc ls (.int n :: rest)) := by
  have ho := am_clx hc
  simp only [am_clok, Bool.and_eq_true, decide_eq_true_eq] at ho
  obtain ⟨⟨⟨h8, h1, g1⟩, h2, g2⟩, h3, g3⟩ := ho
  refine W.anew (C := "GridColours$Grid") (rest := rest) hx hb hown (hts _ (List.mem_filter.mpr ⟨h1, g1⟩)) (va_AO.use hE.2.1) rfl hdg rfl hn0 (Nat.le_trans (Nat.mul_le_mul_right 4 hn1) (Nat.le_of_ble_eq_true rfl)) hcells hslots fun cA kA comp f1 f2 f3 f4 => ?_
  generalize hH1 : H.push ({ cls := cA, slots := Array.replicate n.toNatClampNeg .null, vm := .none } : Cell) = H1
  have z1 : H1.size = H.size + 1 := by rw [← hH1, Array.size_push]
  have e1 : H1[H.size]? = some (arrV cA n.toNatClampNeg (fun _ => .null)) := by rw [← hH1, Array.getElem?_push_size, ← arrV_new]
  have o1 : ∀ q : Nat, q < H.size → H1[q]? = H[q]? := fun q hq => by rw [← hH1, Array.getElem?_push, if_neg (Nat.ne_of_lt hq)]
  obtain ⟨kA', comp', k1, k2, k3, k4⟩ := (hE.1.2 3 (dA 3, .object "GridColours$Grid") rfl).2
  have ec : cA = dA 3 := Option.some.inj (f1.symm.trans k4)
  subst ec
  have hat : va_at D classes (H.size, am_re dA sp base (.inl (3, n.toNatClampNeg, .inr (.inr (.inr (.inr (fun _ => none))))))) H1 := by
    show H1[H.size]? = some (vp_cell _ _)
    rw [vp_cell_q]
    exact e1
  obtain ⟨hR1, e9, rfl⟩ := hR.push hn hsz z1 o1 hat
  have hk := kk H1 hR1 (hS.push1 z1 o1)
  rw [e9] at hk
  exact hk
end AMN
end
section
/-! TEXTS: what String.length and String.charAt do with the two texts of the reader -/
theorem am_gsl : (Cond.fieldLink (am_cn 0) am_gs "GridColours" "OPEN_CELLS" "[I") ∈ am_tbl := am_at_mem (ps := [547]) (j := 0) (by decide +kernel)
theorem am_cats (sp : Nat → Nat) (base : Nat) (r : List Value) : ((r.map (am_rv sp base)).map fun v => v.category).sum = (r.map fun v => v.category).sum := by
  rw [List.map_map]
  congr 1
  exact List.map_congr_left (fun v _ => am_rv_cat sp base v)
section AMT
variable {p : Program} {l : Launch} {e : Env} {R : Room} {s : State} {m : MethodId} {args : Array Value} {below : List Frame} {meth : Method} {c : Code} {H : Heap} {locs : List Loc} {cells slots : Nat} {Q : State → Prop}
variable {D : va_G} {dA : Nat → ClassId} {sp : Nat → Nat} {base L : Nat} {xs : Nat → Int32} {w : am_W} {M : am_M} {pc : Nat} {ls : Array Slot} {rest : List Value}
theorem am_rldc (hx : p.tables.exec = Jvm.exec) (hb : c.code = M.2.1) (hown : s.vm.findClass (am_cn M.2.2.2.2.1) = some m.cls) (hE : am_env D dA sp base L xs s) {k x : Nat} (ho : (M.2.2.2.2.1 = 3 ∧ k = 65 ∧ x = 2) ∨ (M.2.2.2.2.1 = 3 ∧ k = 74 ∧ x = 3)) (hdg : decode M.2.1 pc = .ok (.ldc k, 2))
    (kk : W p l e R s m args below meth c H locs cells slots Q (F0 m (pc + 2) ls (.ref (am_ad sp base x) :: rest))) : W p l e R s m args below meth c H locs cells slots Q (F0 m pc ls rest) := by
  sorry
theorem am_rtl (hx : p.tables.exec = Jvm.exec) (hb : c.code = M.2.1) (hml : c.maxLocals = M.2.2.1) (hown : s.vm.findClass (am_cn M.2.2.2.2.1) = some m.cls) (hts : ∀ w ∈ am_tbl, w.before args s = true) (hE : am_env D dA sp base L xs s) (hb0 : base ≤ s.heap.size) {k : Nat} (ho : M.2.2.2.2.1 = 3 ∧ k = 114) (hls : ls.size = M.2.2.1) (hrf : 16 ≤ R.frames) (hrl : 1024 ≤ R.locals) (hrc : cells ≤ R.cells) (hrs : slots ≤ R.slots) (hR : am_R D dA sp base L xs w H) (hS : va_S (fun q => base ≤ q) s.heap H locs) (hr : (rest.map fun v => v.category).sum ≤ 8) {i : Nat} {x : Int32} (h : am_tl w i = some x) (hdg : decode M.2.1 pc = .ok (.invokevirtual k, 3))
    (kk : W p l e R s m args below meth c H locs cells slots Q (F0 m (pc + 3) ls (.int x :: rest))) : W p l e R s m args below meth c H locs cells slots Q (F0 m pc ls (.ref (am_ad sp base i) :: rest)) := by
  sorry
theorem am_rtc (hx : p.tables.exec = Jvm.exec) (hb : c.code = M.2.1) (hml : c.maxLocals = M.2.2.1) (hown : s.vm.findClass (am_cn M.2.2.2.2.1) = some m.cls) (hts : ∀ w ∈ am_tbl, w.before args s = true) (hE : am_env D dA sp base L xs s) (hb0 : base ≤ s.heap.size) {k : Nat} (ho : M.2.2.2.2.1 = 3 ∧ k = 117) (hls : ls.size = M.2.2.1) (hrf : 16 ≤ R.frames) (hrl : 1024 ≤ R.locals) (hrc : cells ≤ R.cells) (hrs : slots ≤ R.slots) (hR : am_R D dA sp base L xs w H) (hS : va_S (fun q => base ≤ q) s.heap H locs) (hr : (rest.map fun v => v.category).sum ≤ 8) {i : Nat} {j x : Int32} (h : am_tc w i j = some x) (hdg : decode M.2.1 pc = .ok (.invokevirtual k, 3))
    (kk : W p l e R s m args below meth c H locs cells slots Q (F0 m (pc + 3) ls (.int x :: rest))) : W p l e R s m args below meth c H locs cells slots Q (F0 m pc ls (.int j :: .ref (am_ad sp base i) :: rest)) := by
  sorry
end AMT
end
section
/-! ONE STEP OF THE SMALL MACHINE is one of the machine's -/
theorem am_b2_eq {f : Int32 → Int32 → Int32} {pc : Nat} {ls : List (Option Value)} {st : List Value} {w : am_W} {q : am_F} (h : am_b2 f pc ls st w = some q) : ∃ x y r, st = .int y :: .int x :: r ∧ q = (pc + 1, ls, .int (f x y) :: r, w) := by
  unfold am_b2 at h
  split at h
  · next y x r => exact ⟨x, y, r, rfl, (Option.some.inj h).symm⟩
  · cases h
theorem am_l2_eq {f : Int64 → Int64 → Int64} {pc : Nat} {ls : List (Option Value)} {st : List Value} {w : am_W} {q : am_F} (h : am_l2 f pc ls st w = some q) : ∃ x y r, st = .long y :: .long x :: r ∧ q = (pc + 1, ls, .long (f x y) :: r, w) := by
  unfold am_l2 at h
  split at h
  · next y x r => exact ⟨x, y, r, rfl, (Option.some.inj h).symm⟩
  · cases h
theorem am_tg_eq {pc t : Nat} {off : Int} (h : am_tg pc off = some t) : (pc : Int) + off = (t : Int) := by
  unfold am_tg at h
  split at h
  · next h0 =>
    cases h
    exact (Int.toNat_of_nonneg h0).symm
  · cases h
theorem am_br_eq {c : Bool} {pc : Nat} {off : Int} {ls : List (Option Value)} {r : List Value} {w : am_W} {q : am_F} (h : am_br c pc off ls r w = some q) : ∃ t : Nat, (pc : Int) + off = (t : Int) ∧ ((c = true ∧ q = (t, ls, r, w)) ∨ (c = false ∧ q = (pc + 3, ls, r, w))) := by
  unfold am_br at h
  split at h
  · next t ht =>
    refine ⟨t, am_tg_eq ht, ?_⟩
    cases c
    · exact Or.inr ⟨rfl, (Option.some.inj h).symm⟩
    · exact Or.inl ⟨rfl, (Option.some.inj h).symm⟩
  · cases h
theorem am_ldi_eq {k len pc : Nat} {ls : List (Option Value)} {st : List Value} {w : am_W} {q : am_F} (h : am_ldi k len pc ls st w = some q) : ∃ x, ls[k]? = some (some (.int x)) ∧ q = (pc + len, ls, .int x :: st, w) := by
  unfold am_ldi at h
  split at h
  · next x hx => exact ⟨x, hx, (Option.some.inj h).symm⟩
  · cases h
theorem am_lda_eq {k len pc : Nat} {ls : List (Option Value)} {st : List Value} {w : am_W} {q : am_F} (h : am_lda k len pc ls st w = some q) : ∃ x, ls[k]? = some (some (.ref x)) ∧ q = (pc + len, ls, .ref x :: st, w) := by
  unfold am_lda at h
  split at h
  · next x hx => exact ⟨x, hx, (Option.some.inj h).symm⟩
  · cases h
theorem am_ldl_eq {M : am_M} {k len pc : Nat} {ls : List (Option Value)} {st : List Value} {w : am_W} {q : am_F} (h : am_ldl M k len pc ls st w = some q) : ∃ x, ls[k]? = some (some (.long x)) ∧ k ∈ M.2.2.2.2.2.1 ∧ q = (pc + len, ls, .long x :: st, w) := by
  unfold am_ldl at h
  split at h
  · next x hx =>
    split at h
    · next hk => exact ⟨x, hx, hk, (Option.some.inj h).symm⟩
    · cases h
  · cases h
theorem am_sti_eq {M : am_M} {k len pc : Nat} {ls : List (Option Value)} {st : List Value} {w : am_W} {q : am_F} (h : am_sti M k len pc ls st w = some q) : ∃ x r, st = .int x :: r ∧ am_ok1 M k = true ∧ q = (pc + len, ls.set k (some (.int x)), r, w) := by
  unfold am_sti at h
  split at h
  · next x r =>
    split at h
    · next hk => exact ⟨x, r, rfl, hk, (Option.some.inj h).symm⟩
    · cases h
  · cases h
theorem am_sta_eq {M : am_M} {k len pc : Nat} {ls : List (Option Value)} {st : List Value} {w : am_W} {q : am_F} (h : am_sta M k len pc ls st w = some q) : ∃ x r, st = .ref x :: r ∧ am_ok1 M k = true ∧ q = (pc + len, ls.set k (some (.ref x)), r, w) := by
  unfold am_sta at h
  split at h
  · next x r =>
    split at h
    · next hk => exact ⟨x, r, rfl, hk, (Option.some.inj h).symm⟩
    · cases h
  · cases h
theorem am_stl_eq {M : am_M} {k len pc : Nat} {ls : List (Option Value)} {st : List Value} {w : am_W} {q : am_F} (h : am_stl M k len pc ls st w = some q) : ∃ x r, st = .long x :: r ∧ am_ok2 M k = true ∧ q = (pc + len, (ls.set k (some (.long x))).set (k + 1) none, r, w) := by
  unfold am_stl at h
  split at h
  · next x r =>
    split at h
    · next hk => exact ⟨x, r, rfl, hk, (Option.some.inj h).symm⟩
    · cases h
  · cases h
theorem am_getf_eq {own idx pc : Nat} {ls : List (Option Value)} {st : List Value} {w : am_W} {q : am_F} (h : am_getf own idx pc ls st w = some q) : ∃ ci k t i r v, am_fl own idx = some (ci, k, t) ∧ st = .ref i :: r ∧ am_gv w i ci k = some v ∧ q = (pc + 3, ls, v :: r, w) := by
  unfold am_getf at h
  split at h
  · next ci k i r hf =>
    split at h
    · next x hg => exact ⟨ci, k, _, i, r, _, hf, rfl, am_gi_eq hg, (Option.some.inj h).symm⟩
    · cases h
  · next ci k i r hf =>
    split at h
    · next x hg => exact ⟨ci, k, _, i, r, _, hf, rfl, am_gl_eq hg, (Option.some.inj h).symm⟩
    · cases h
  · next ci k i r hf =>
    split at h
    · next x hg => exact ⟨ci, k, _, i, r, _, hf, rfl, am_gr_eq hg, (Option.some.inj h).symm⟩
    · cases h
  · next ci k i r hf =>
    split at h
    · next x hg => exact ⟨ci, k, _, i, r, _, hf, rfl, am_gr_eq hg, (Option.some.inj h).symm⟩
    · cases h
  · cases h
theorem am_putf_eq {ini : Bool} {own idx pc : Nat} {ls : List (Option Value)} {st : List Value} {w : am_W} {q : am_F} (h : am_putf ini own idx pc ls st w = some q) : ∃ ci k t i r v w', am_fl own idx = some (ci, k, t) ∧ st = v :: .ref i :: r ∧ am_pv w i ci k v = some w' ∧ q = (pc + 3, ls, r, w') ∧ ((t = 0 ∧ ∃ x, v = .int x) ∨ (t = 1 ∧ ∃ x, v = .long x) ∨ (t = 2 ∧ ∃ x, v = .ref x) ∨ (t = 3 ∧ ini = true ∧ ∃ x, v = .ref x)) := by
  unfold am_putf at h
  split at h
  · next ci k x i r hf =>
    split at h
    · next w' hg => exact ⟨ci, k, _, i, r, _, w', hf, rfl, hg, (Option.some.inj h).symm, Or.inl ⟨rfl, x, rfl⟩⟩
    · cases h
  · next ci k x i r hf =>
    split at h
    · next w' hg => exact ⟨ci, k, _, i, r, _, w', hf, rfl, hg, (Option.some.inj h).symm, Or.inr (Or.inl ⟨rfl, x, rfl⟩)⟩
    · cases h
  · next ci k x i r hf =>
    split at h
    · next w' hg => exact ⟨ci, k, _, i, r, _, w', hf, rfl, hg, (Option.some.inj h).symm, Or.inr (Or.inr (Or.inl ⟨rfl, x, rfl⟩))⟩
    · cases h
  · next ci k x i r hf =>
    split at h
    · next hi =>
      split at h
      · next w' hg => exact ⟨ci, k, _, i, r, _, w', hf, rfl, hg, (Option.some.inj h).symm, Or.inr (Or.inr (Or.inr ⟨rfl, hi, x, rfl⟩))⟩
      · cases h
    · cases h
  · cases h
theorem am_na_eq {w w' : am_W} {t : Nat} {n : Int32} (h : am_na w t n = some w') : ¬ n < 0 ∧ n.toNatClampNeg ≤ 100000 ∧ ((t = 0 ∧ am_nw w (.inl (0, n.toNatClampNeg, .inl (fun _ => 0))) n.toNatClampNeg = some w') ∨ (t = 1 ∧ am_nw w (.inl (1, n.toNatClampNeg, .inr (.inl (fun _ => 0)))) n.toNatClampNeg = some w') ∨ (t = 2 ∧ am_nw w (.inl (2, n.toNatClampNeg, .inl (fun _ => 0))) n.toNatClampNeg = some w') ∨ (t = 3 ∧ am_nw w (.inl (3, n.toNatClampNeg, .inr (.inr (.inr (.inr (fun _ => none)))))) n.toNatClampNeg = some w')) := by
  unfold am_na at h
  split at h
  · cases h
  · next hn =>
    refine ⟨fun z => hn (Or.inl z), Nat.not_lt.mp fun z => hn (Or.inr z), ?_⟩
    split at h
    · exact Or.inl ⟨rfl, h⟩
    · exact Or.inr (Or.inl ⟨rfl, h⟩)
    · exact Or.inr (Or.inr (Or.inl ⟨rfl, h⟩))
    · exact Or.inr (Or.inr (Or.inr ⟨rfl, h⟩))
    · cases h
theorem am_nw_eq {w w' : am_W} {x : (Nat × vp_A) ⊕ (Nat × List Value)} {n : Nat} (h : am_nw w x n = some w') : w'.1 = w.1 + 1 ∧ w'.2.1 = w.2.1 + n := by
  unfold am_nw at h
  split at h
  · cases h; exact ⟨rfl, rfl⟩
  · cases h
theorem am_si_cs {w w' : am_W} {a : Nat} {j x : Int32} (h : am_si w a j x = some w') : w'.1 = w.1 ∧ w'.2.1 = w.2.1 := by
  unfold am_si at h
  split at h
  · split at h
    · cases h
    · cases h; exact ⟨rfl, rfl⟩
  · cases h
theorem am_sj_cs {w w' : am_W} {a : Nat} {j : Int32} {x : Int64} (h : am_sj w a j x = some w') : w'.1 = w.1 ∧ w'.2.1 = w.2.1 := by
  unfold am_sj at h
  split at h
  · split at h
    · cases h
    · cases h; exact ⟨rfl, rfl⟩
  · cases h
theorem am_sz_cs {w w' : am_W} {a : Nat} {j x : Int32} (h : am_sz w a j x = some w') : w'.1 = w.1 ∧ w'.2.1 = w.2.1 := by
  unfold am_sz at h
  split at h
  · split at h
    · cases h
    · cases h; exact ⟨rfl, rfl⟩
  · cases h
theorem am_sx_cs {w w' : am_W} {a : Nat} {j : Int32} {x : Nat} (h : am_sx w a j x = some w') : w'.1 = w.1 ∧ w'.2.1 = w.2.1 := by
  unfold am_sx at h
  split at h
  · split at h
    · cases h
    · cases h; exact ⟨rfl, rfl⟩
  · cases h
section AMS
variable {p : Program} {l : Launch} {e : Env} {R : Room} {s : State} {m : MethodId} {args : Array Value} {below : List Frame} {meth : Method} {c : Code} {H : Heap} {locs : List Loc} {Q : State → Prop}
variable {D : va_G} {dA : Nat → ClassId} {sp : Nat → Nat} {base L : Nat} {xs : Nat → Int32} {ls : Array Slot}
set_option maxHeartbeats 4000000 in
theorem am_step1 {M : am_M} {i : Instr} {len pc pc' : Nat} {als als' : List (Option Value)} {st st' : List Value} {w w' : am_W} {c0 s0 : Nat}
    (h : am_st M i len pc als st w = some (pc', als', st', w')) (hdg : decode M.2.1 pc = .ok (i, len))
    (hx : p.tables.exec = Jvm.exec) (hb : c.code = M.2.1) (hml : c.maxLocals = M.2.2.1) (hown : s.vm.findClass (am_cn M.2.2.2.2.1) = some m.cls) (hts : ∀ w ∈ am_tbl, w.before args s = true) (hE : am_env D dA sp base L xs s) (hb0 : base ≤ s.heap.size) (hini : M.2.2.2.2.2.2 = true → meth.name = "<init>")
    (hc0 : c0 ≤ w.1) (hs0 : s0 ≤ w.2.1) (hcz : s.heap.size ≤ base + c0) (hrc : w'.1 ≤ R.cells + c0) (hrs : w'.2.1 ≤ R.slots + s0) (hrf : 16 ≤ R.frames) (hrl : 1024 ≤ R.locals)
    (hl : am_lv sp base M als ls) (hR : am_R D dA sp base L xs w H) (hS : va_S (fun q => base ≤ q) s.heap H locs)
    (kk : ∀ (H1 : Heap) (locs1 : List Loc) (ls1 : Array Slot), am_lv sp base M als' ls1 → am_R D dA sp base L xs w' H1 → va_S (fun q => base ≤ q) s.heap H1 locs1 → W p l e R s m args below meth c H1 locs1 (w'.1 - c0) (w'.2.1 - s0) Q (F0 m pc' ls1 (st'.map (am_rv sp base)))) :
    W p l e R s m args below meth c H locs (w.1 - c0) (w.2.1 - s0) Q (F0 m pc ls (st.map (am_rv sp base))) := by
  have hK := hE.1
  cases i
  all_goals first
    | (cases h; done)
    | skip
  case iconst n =>
    simp only [am_st] at h
    split at h
    · next hlen =>
      subst hlen
      cases h
      exact lv_iconst hx hb hdg rfl (kk H locs ls hl hR hS)
    · cases h
  case bipush n =>
    simp only [am_st] at h
    split at h
    · next hlen =>
      subst hlen
      cases h
      exact lv_bipush hx hb hdg rfl (kk H locs ls hl hR hS)
    · cases h
  case sipush n =>
    simp only [am_st] at h
    split at h
    · next hlen =>
      subst hlen
      cases h
      exact lv_sipush hx hb hdg rfl (kk H locs ls hl hR hS)
    · cases h
  case lconst n =>
    simp only [am_st] at h
    split at h
    · next hlen =>
      subst hlen
      cases h
      exact lv_lconst hx hb hdg rfl (kk H locs ls hl hR hS)
    · cases h
  case iload_n k =>
    simp only [am_st] at h
    split at h
    · next hlen =>
      subst hlen
      obtain ⟨x, hk, e9⟩ := am_ldi_eq h
      cases e9
      exact lv_iload_n hx hb hdg rfl (hl.at hk (fun z => by cases z)) (kk H locs ls hl hR hS)
    · cases h
  case iload k =>
    simp only [am_st] at h
    split at h
    · next hlen =>
      subst hlen
      obtain ⟨x, hk, e9⟩ := am_ldi_eq h
      cases e9
      exact lv_iload hx hb hdg (hl.at hk (fun z => by cases z)) (kk H locs ls hl hR hS)
    · cases h
  case aload_n k =>
    simp only [am_st] at h
    split at h
    · next hlen =>
      subst hlen
      obtain ⟨x, hk, e9⟩ := am_lda_eq h
      cases e9
      exact lv_aload_n hx hb hdg rfl (hl.at hk (fun z => by cases z)) (kk H locs ls hl hR hS)
    · cases h
  case aload k =>
    simp only [am_st] at h
    split at h
    · next hlen =>
      subst hlen
      obtain ⟨x, hk, e9⟩ := am_lda_eq h
      cases e9
      exact lv_aload hx hb hdg (hl.at hk (fun z => by cases z)) (kk H locs ls hl hR hS)
    · cases h
  case lload_n k =>
    simp only [am_st] at h
    split at h
    · next hlen =>
      subst hlen
      obtain ⟨x, hk, hm, e9⟩ := am_ldl_eq h
      cases e9
      exact lv_lload_n hx hb hdg rfl (hl.at hk (fun _ => hm)) (kk H locs ls hl hR hS)
    · cases h
  case lload k =>
    simp only [am_st] at h
    split at h
    · next hlen =>
      subst hlen
      obtain ⟨x, hk, hm, e9⟩ := am_ldl_eq h
      cases e9
      exact lv_lload hx hb hdg (hl.at hk (fun _ => hm)) (kk H locs ls hl hR hS)
    · cases h
  case istore_n k =>
    simp only [am_st] at h
    split at h
    · next hlen =>
      subst hlen
      obtain ⟨x, r, e8, ho, e9⟩ := am_sti_eq h
      subst e8
      cases e9
      obtain ⟨lv, h1, h2⟩ := hl.has
      exact lv_istore_n hx hb hdg rfl h1 (am_ok1_eq ho).1 rfl (fun ls' h' => kk H locs ls' (hl.put1 h2 (x := .int x) ho h') hR hS)
    · cases h
  case istore k =>
    simp only [am_st] at h
    split at h
    · next hlen =>
      subst hlen
      obtain ⟨x, r, e8, ho, e9⟩ := am_sti_eq h
      subst e8
      cases e9
      obtain ⟨lv, h1, h2⟩ := hl.has
      exact lv_istore hx hb hdg h1 (am_ok1_eq ho).1 rfl (fun ls' h' => kk H locs ls' (hl.put1 h2 (x := .int x) ho h') hR hS)
    · cases h
  case astore_n k =>
    simp only [am_st] at h
    split at h
    · next hlen =>
      subst hlen
      obtain ⟨x, r, e8, ho, e9⟩ := am_sta_eq h
      subst e8
      cases e9
      obtain ⟨lv, h1, h2⟩ := hl.has
      exact lv_astore_n hx hb hdg rfl h1 (am_ok1_eq ho).1 rfl (fun ls' h' => kk H locs ls' (hl.put1 h2 (x := .ref x) ho h') hR hS)
    · cases h
  case astore k =>
    simp only [am_st] at h
    split at h
    · next hlen =>
      subst hlen
      obtain ⟨x, r, e8, ho, e9⟩ := am_sta_eq h
      subst e8
      cases e9
      obtain ⟨lv, h1, h2⟩ := hl.has
      exact lv_astore hx hb hdg h1 (am_ok1_eq ho).1 rfl (fun ls' h' => kk H locs ls' (hl.put1 h2 (x := .ref x) ho h') hR hS)
    · cases h
  case lstore_n k =>
    simp only [am_st] at h
    split at h
    · next hlen =>
      subst hlen
      obtain ⟨x, r, e8, ho, e9⟩ := am_stl_eq h
      subst e8
      cases e9
      obtain ⟨lv, h1, h2⟩ := hl.has
      exact lv_lstore_n hx hb hdg rfl h1 (am_ok2_eq ho).1 rfl (fun ls' h' => kk H locs ls' (hl.put2 h2 (x := .long x) ho h') hR hS)
    · cases h
  case lstore k =>
    simp only [am_st] at h
    split at h
    · next hlen =>
      subst hlen
      obtain ⟨x, r, e8, ho, e9⟩ := am_stl_eq h
      subst e8
      cases e9
      obtain ⟨lv, h1, h2⟩ := hl.has
      exact lv_lstore hx hb hdg h1 (am_ok2_eq ho).1 rfl (fun ls' h' => kk H locs ls' (hl.put2 h2 (x := .long x) ho h') hR hS)
    · cases h
  case iinc k n =>
    simp only [am_st] at h
    split at h
    · next hlen =>
      subst hlen
      split at h
      · next x hk =>
        split at h
        · next ho =>
          cases h
          obtain ⟨lv, h1, h2⟩ := hl.has
          obtain ⟨j, hj⟩ := List.getElem?_of_mem (h2 k _ hk (fun z => by cases z))
          exact lv_iinc hx hb hdg h1 hj rfl (am_ok1_eq ho).1 rfl (fun ls' h' => kk H locs ls' (hl.put1 h2 (x := .int (x + Int32.ofInt n)) ho h') hR hS)
        · cases h
      · cases h
    · cases h
  case iadd =>
    simp only [am_st] at h
    split at h
    · next hlen =>
      subst hlen
      obtain ⟨x, y, r, e8, e9⟩ := am_b2_eq h
      subst e8
      cases e9
      exact lv_iadd hx hb hdg (kk H locs ls hl hR hS)
    · cases h
  case isub =>
    simp only [am_st] at h
    split at h
    · next hlen =>
      subst hlen
      obtain ⟨x, y, r, e8, e9⟩ := am_b2_eq h
      subst e8
      cases e9
      exact lv_isub hx hb hdg (kk H locs ls hl hR hS)
    · cases h
  case imul =>
    simp only [am_st] at h
    split at h
    · next hlen =>
      subst hlen
      obtain ⟨x, y, r, e8, e9⟩ := am_b2_eq h
      subst e8
      cases e9
      exact lv_imul hx hb hdg (kk H locs ls hl hR hS)
    · cases h
  case iand =>
    simp only [am_st] at h
    split at h
    · next hlen =>
      subst hlen
      obtain ⟨x, y, r, e8, e9⟩ := am_b2_eq h
      subst e8
      cases e9
      exact lv_iand hx hb hdg (kk H locs ls hl hR hS)
    · cases h
  case ior =>
    simp only [am_st] at h
    split at h
    · next hlen =>
      subst hlen
      obtain ⟨x, y, r, e8, e9⟩ := am_b2_eq h
      subst e8
      cases e9
      exact lv_ior hx hb hdg (kk H locs ls hl hR hS)
    · cases h
  case ixor =>
    simp only [am_st] at h
    split at h
    · next hlen =>
      subst hlen
      obtain ⟨x, y, r, e8, e9⟩ := am_b2_eq h
      subst e8
      cases e9
      exact lv_ixor hx hb hdg (kk H locs ls hl hR hS)
    · cases h
  case ishl =>
    simp only [am_st] at h
    split at h
    · next hlen =>
      subst hlen
      obtain ⟨x, y, r, e8, e9⟩ := am_b2_eq h
      subst e8
      cases e9
      exact lv_ishl hx hb hdg (kk H locs ls hl hR hS)
    · cases h
  case ishr =>
    simp only [am_st] at h
    split at h
    · next hlen =>
      subst hlen
      obtain ⟨x, y, r, e8, e9⟩ := am_b2_eq h
      subst e8
      cases e9
      exact lv_ishr hx hb hdg (kk H locs ls hl hR hS)
    · cases h
  case iushr =>
    simp only [am_st] at h
    split at h
    · next hlen =>
      subst hlen
      obtain ⟨x, y, r, e8, e9⟩ := am_b2_eq h
      subst e8
      cases e9
      exact lv_iushr hx hb hdg rfl (kk H locs ls hl hR hS)
    · cases h
  case idiv =>
    simp only [am_st] at h
    split at h
    · next hlen =>
      subst hlen
      split at h
      · next y x r =>
        split at h
        · cases h
        · next hy =>
          cases h
          exact lv_idiv hx hb hdg hy (kk H locs ls hl hR hS)
      · cases h
    · cases h
  case irem =>
    simp only [am_st] at h
    split at h
    · next hlen =>
      subst hlen
      split at h
      · next y x r =>
        split at h
        · cases h
        · next hy =>
          cases h
          exact lv_irem hx hb hdg hy (kk H locs ls hl hR hS)
      · cases h
    · cases h
  case ineg =>
    simp only [am_st] at h
    split at h
    · next hlen =>
      subst hlen
      split at h
      · next x r =>
        cases h
        exact lv_ineg hx hb hdg (kk H locs ls hl hR hS)
      · cases h
    · cases h
  case ladd =>
    simp only [am_st] at h
    split at h
    · next hlen =>
      subst hlen
      obtain ⟨x, y, r, e8, e9⟩ := am_l2_eq h
      subst e8
      cases e9
      exact lv_ladd hx hb hdg (kk H locs ls hl hR hS)
    · cases h
  case lsub =>
    simp only [am_st] at h
    split at h
    · next hlen =>
      subst hlen
      obtain ⟨x, y, r, e8, e9⟩ := am_l2_eq h
      subst e8
      cases e9
      exact lv_lsub hx hb hdg (kk H locs ls hl hR hS)
    · cases h
  case lmul =>
    simp only [am_st] at h
    split at h
    · next hlen =>
      subst hlen
      obtain ⟨x, y, r, e8, e9⟩ := am_l2_eq h
      subst e8
      cases e9
      exact lv_lmul hx hb hdg (kk H locs ls hl hR hS)
    · cases h
  case land =>
    simp only [am_st] at h
    split at h
    · next hlen =>
      subst hlen
      obtain ⟨x, y, r, e8, e9⟩ := am_l2_eq h
      subst e8
      cases e9
      exact lv_land hx hb hdg (kk H locs ls hl hR hS)
    · cases h
  case lor =>
    simp only [am_st] at h
    split at h
    · next hlen =>
      subst hlen
      obtain ⟨x, y, r, e8, e9⟩ := am_l2_eq h
      subst e8
      cases e9
      exact lv_lor hx hb hdg (kk H locs ls hl hR hS)
    · cases h
  case lxor =>
    simp only [am_st] at h
    split at h
    · next hlen =>
      subst hlen
      obtain ⟨x, y, r, e8, e9⟩ := am_l2_eq h
      subst e8
      cases e9
      exact lv_lxor hx hb hdg (kk H locs ls hl hR hS)
    · cases h
  case lshl =>
    simp only [am_st] at h
    split at h
    · next hlen =>
      subst hlen
      split at h
      · next y x r =>
        cases h
        exact lv_lshl hx hb hdg rfl (kk H locs ls hl hR hS)
      · cases h
    · cases h
  case lushr =>
    simp only [am_st] at h
    split at h
    · next hlen =>
      subst hlen
      split at h
      · next y x r =>
        cases h
        exact lv_lushr hx hb hdg rfl (kk H locs ls hl hR hS)
      · cases h
    · cases h
  case lcmp =>
    simp only [am_st] at h
    split at h
    · next hlen =>
      subst hlen
      split at h
      · next y x r =>
        cases h
        exact W.lcmp hx hb hdg (kk H locs ls hl hR hS)
      · cases h
    · cases h
  case i2l =>
    simp only [am_st] at h
    split at h
    · next hlen =>
      subst hlen
      split at h
      · next x r =>
        cases h
        exact lv_i2l hx hb hdg rfl (kk H locs ls hl hR hS)
      · cases h
    · cases h
  case l2i =>
    simp only [am_st] at h
    split at h
    · next hlen =>
      subst hlen
      split at h
      · next x r =>
        cases h
        exact lv_l2i hx hb hdg rfl (kk H locs ls hl hR hS)
      · cases h
    · cases h
  case dup =>
    simp only [am_st] at h
    split at h
    · next hlen =>
      subst hlen
      split at h
      · next x r =>
        cases h
        exact lv_dup (va := .int x) hx hb hdg rfl (kk H locs ls hl hR hS)
      · next x r =>
        cases h
        exact lv_dup (va := .ref (am_ad sp base x)) hx hb hdg rfl (kk H locs ls hl hR hS)
      · cases h
    · cases h
  case dup2 =>
    simp only [am_st] at h
    split at h
    · next hlen =>
      subst hlen
      split at h
      · next y x r =>
        cases h
        exact lv_dup2_11 (va := .int y) (vb := .ref (am_ad sp base x)) hx hb hdg rfl rfl (kk H locs ls hl hR hS)
      · cases h
    · cases h
  case pop =>
    simp only [am_st] at h
    split at h
    · next hlen =>
      subst hlen
      split at h
      · next x r =>
        cases h
        exact lv_pop (va := .int x) hx hb hdg rfl (kk H locs ls hl hR hS)
      · next x r =>
        cases h
        exact lv_pop (va := .ref (am_ad sp base x)) hx hb hdg rfl (kk H locs ls hl hR hS)
      · cases h
    · cases h
  case goto off =>
    simp only [am_st] at h
    split at h
    · next hlen =>
      subst hlen
      split at h
      · next t ht =>
        cases h
        exact lv_goto hx hb hdg (am_tg_eq ht) (kk H locs ls hl hR hS)
      · cases h
    · cases h
  case ifCond cnd off =>
    simp only [am_st] at h
    split at h
    · next hlen =>
      subst hlen
      split at h
      · next x r =>
        cases cnd <;> (simp only at h; obtain ⟨t, ht, hc⟩ := am_br_eq h; rcases hc with ⟨hc, e9⟩ | ⟨hc, e9⟩ <;> cases e9)
        · exact lv_if_eq hx hb hdg ht (fun _ => kk H locs ls hl hR hS) (fun hn => absurd (of_decide_eq_true hc) hn)
        · exact lv_if_eq hx hb hdg ht (fun hn => absurd hn (of_decide_eq_false hc)) (fun _ => kk H locs ls hl hR hS)
        · exact lv_if_ne hx hb hdg ht (fun _ => kk H locs ls hl hR hS) (fun hn => absurd hn (of_decide_eq_true hc))
        · exact lv_if_ne hx hb hdg ht (fun hn => absurd hn (of_decide_eq_false hc)) (fun _ => kk H locs ls hl hR hS)
        · exact lv_if_lt hx hb hdg ht (fun _ => kk H locs ls hl hR hS) (fun hn => absurd (of_decide_eq_true hc) hn)
        · exact lv_if_lt hx hb hdg ht (fun hn => absurd hn (of_decide_eq_false hc)) (fun _ => kk H locs ls hl hR hS)
        · exact lv_if_ge hx hb hdg ht (fun _ => kk H locs ls hl hR hS) (fun hn => absurd (of_decide_eq_true hc) hn)
        · exact lv_if_ge hx hb hdg ht (fun hn => absurd hn (of_decide_eq_false hc)) (fun _ => kk H locs ls hl hR hS)
        · exact lv_if_gt hx hb hdg ht (fun _ => kk H locs ls hl hR hS) (fun hn => absurd (of_decide_eq_true hc) hn)
        · exact lv_if_gt hx hb hdg ht (fun hn => absurd hn (of_decide_eq_false hc)) (fun _ => kk H locs ls hl hR hS)
        · exact lv_if_le hx hb hdg ht (fun _ => kk H locs ls hl hR hS) (fun hn => absurd (of_decide_eq_true hc) hn)
        · exact lv_if_le hx hb hdg ht (fun hn => absurd hn (of_decide_eq_false hc)) (fun _ => kk H locs ls hl hR hS)
      · cases h
    · cases h
  case if_icmp cnd off =>
    simp only [am_st] at h
    split at h
    · next hlen =>
      subst hlen
      split at h
      · next y x r =>
        cases cnd <;> (simp only at h; obtain ⟨t, ht, hc⟩ := am_br_eq h; rcases hc with ⟨hc, e9⟩ | ⟨hc, e9⟩ <;> cases e9)
        · exact lv_icmp_eq hx hb hdg ht (fun _ => kk H locs ls hl hR hS) (fun hn => absurd (of_decide_eq_true hc) hn)
        · exact lv_icmp_eq hx hb hdg ht (fun hn => absurd hn (of_decide_eq_false hc)) (fun _ => kk H locs ls hl hR hS)
        · exact lv_icmp_ne hx hb hdg ht (fun _ => kk H locs ls hl hR hS) (fun hn => absurd hn (of_decide_eq_true hc))
        · exact lv_icmp_ne hx hb hdg ht (fun hn => absurd hn (of_decide_eq_false hc)) (fun _ => kk H locs ls hl hR hS)
        · exact lv_icmp_lt hx hb hdg ht (fun _ => kk H locs ls hl hR hS) (fun hn => absurd (of_decide_eq_true hc) hn)
        · exact lv_icmp_lt hx hb hdg ht (fun hn => absurd hn (of_decide_eq_false hc)) (fun _ => kk H locs ls hl hR hS)
        · exact lv_icmp_ge hx hb hdg ht (fun _ => kk H locs ls hl hR hS) (fun hn => absurd (of_decide_eq_true hc) hn)
        · exact lv_icmp_ge hx hb hdg ht (fun hn => absurd hn (of_decide_eq_false hc)) (fun _ => kk H locs ls hl hR hS)
        · exact lv_icmp_gt hx hb hdg ht (fun _ => kk H locs ls hl hR hS) (fun hn => absurd (of_decide_eq_true hc) hn)
        · exact lv_icmp_gt hx hb hdg ht (fun hn => absurd hn (of_decide_eq_false hc)) (fun _ => kk H locs ls hl hR hS)
        · exact lv_icmp_le hx hb hdg ht (fun _ => kk H locs ls hl hR hS) (fun hn => absurd (of_decide_eq_true hc) hn)
        · exact lv_icmp_le hx hb hdg ht (fun hn => absurd hn (of_decide_eq_false hc)) (fun _ => kk H locs ls hl hR hS)
      · cases h
    · cases h
  case ifnull off =>
    simp only [am_st] at h
    split at h
    · next hlen =>
      subst hlen
      split at h
      · next x r =>
        cases h
        exact lv_ifnull hx hb hdg (kk H locs ls hl hR hS)
      · cases h
    · cases h
  case getfield k =>
    simp only [am_st] at h
    split at h
    · next hlen =>
      subst hlen
      obtain ⟨ci, f, t, i0, r, v, hf, e8, hg, e9⟩ := am_getf_eq h
      subst e8
      cases e9
      have ho := am_flx hf
      simp only [am_flok, Bool.and_eq_true, decide_eq_true_eq] at ho
      obtain ⟨⟨⟨h8, hk⟩, h1, g1⟩, -⟩ := ho
      exact am_rget hx hb hts (am_ci_in h8) hown hK hR (am_ci h8) hk (List.mem_filter.mpr ⟨h1, g1⟩) hg hdg (kk H locs ls hl hR hS)
    · cases h
  case putfield k =>
    simp only [am_st] at h
    split at h
    · next hlen =>
      subst hlen
      obtain ⟨ci, f, t, i0, r, v, w2, hf, e8, hg, e9, hv⟩ := am_putf_eq h
      subst e8
      cases e9
      have ho := am_flx hf
      simp only [am_flok, Bool.and_eq_true, decide_eq_true_eq] at ho
      obtain ⟨⟨⟨h8, hk⟩, h1, g1⟩, h2⟩ := ho
      obtain ⟨fs, -, -, -, ew⟩ := am_pv_eq hg
      have hcs : w'.1 - c0 = w.1 - c0 ∧ w'.2.1 - s0 = w.2.1 - s0 := by subst ew; exact ⟨rfl, rfl⟩
      rw [hcs.1, hcs.2] at kk
      refine am_rput hx hb hts (am_ci_in h8) (am_Fy ci) (am_ci_ty h8) (am_ci_nm h8) hown hK hR hS (am_ci h8) hk (List.mem_filter.mpr ⟨h1, g1⟩) ?_ hg ?_ hdg (fun H1 locs1 hR1 hS1 => kk H1 locs1 ls hl hR1 hS1)
      · rcases hv with ⟨rfl, hv⟩ | ⟨rfl, hv⟩ | ⟨rfl, hv⟩ | ⟨rfl, hi, hv⟩ <;> simp only [Bool.and_eq_true, decide_eq_true_eq, Bool.not_eq_true'] at h2
        · exact Or.inl h2.2
        · exact Or.inl h2.2
        · exact Or.inl h2.2
        · exact Or.inr ⟨h2.1.2, hini hi, h2.2⟩
      · rcases hv with ⟨rfl, hv⟩ | ⟨rfl, hv⟩ | ⟨rfl, hv⟩ | ⟨rfl, hi, hv⟩ <;> simp only [Bool.and_eq_true, decide_eq_true_eq, Bool.not_eq_true'] at h2
        · exact Or.inl ⟨h2.1, hv⟩
        · exact Or.inr (Or.inl ⟨h2.1, hv⟩)
        · refine Or.inr (Or.inr ⟨?_, hv⟩)
          have h3 := h2.1
          split at h3
          · next n hn => exact Or.inl ⟨n, hn⟩
          · next n hn => exact Or.inr ⟨n, hn⟩
          · cases h3
        · refine Or.inr (Or.inr ⟨?_, hv⟩)
          have h3 := h2.1.1
          split at h3
          · next n hn => exact Or.inl ⟨n, hn⟩
          · next n hn => exact Or.inr ⟨n, hn⟩
          · cases h3
    · cases h
  case iaload =>
    simp only [am_st] at h
    split at h
    · next hlen =>
      subst hlen
      split at h
      · next j a r =>
        split at h
        · next x ha =>
          cases h
          exact am_rai hx hb hE hb0 hR hS ha hdg (kk H locs ls hl hR hS)
        · cases h
      · cases h
    · cases h
  case laload =>
    simp only [am_st] at h
    split at h
    · next hlen =>
      subst hlen
      split at h
      · next j a r =>
        split at h
        · next x ha =>
          cases h
          exact am_raj hx hb hK hR ha hdg (kk H locs ls hl hR hS)
        · cases h
      · cases h
    · cases h
  case baload =>
    simp only [am_st] at h
    split at h
    · next hlen =>
      subst hlen
      split at h
      · next j a r =>
        split at h
        · next x ha =>
          cases h
          exact am_raz hx hb hK hR ha hdg (kk H locs ls hl hR hS)
        · cases h
      · cases h
    · cases h
  case aaload =>
    simp only [am_st] at h
    split at h
    · next hlen =>
      subst hlen
      split at h
      · next j a r =>
        split at h
        · next x ha =>
          cases h
          exact am_rax hx hb hK hR ha hdg (kk H locs ls hl hR hS)
        · cases h
      · cases h
    · cases h
  case arraylength =>
    simp only [am_st] at h
    split at h
    · next hlen =>
      subst hlen
      split at h
      · next a r =>
        split at h
        · next x ha =>
          cases h
          exact am_ral hx hb hE hb0 hR hS ha hdg (kk H locs ls hl hR hS)
        · cases h
      · cases h
    · cases h
  case iastore =>
    simp only [am_st] at h
    split at h
    · next hlen =>
      subst hlen
      split at h
      · next x j a r =>
        split at h
        · next w2 ha =>
          cases h
          have hcs := am_si_cs ha
          rw [hcs.1, hcs.2] at kk
          exact am_rsi hx hb hK hR hS ha hdg (fun H1 locs1 hR1 hS1 => kk H1 locs1 ls hl hR1 hS1)
        · cases h
      · cases h
    · cases h
  case lastore =>
    simp only [am_st] at h
    split at h
    · next hlen =>
      subst hlen
      split at h
      · next x j a r =>
        split at h
        · next w2 ha =>
          cases h
          have hcs := am_sj_cs ha
          rw [hcs.1, hcs.2] at kk
          exact am_rsj hx hb hK hR hS ha hdg (fun H1 locs1 hR1 hS1 => kk H1 locs1 ls hl hR1 hS1)
        · cases h
      · cases h
    · cases h
  case bastore =>
    simp only [am_st] at h
    split at h
    · next hlen =>
      subst hlen
      split at h
      · next x j a r =>
        split at h
        · next w2 ha =>
          cases h
          have hcs := am_sz_cs ha
          rw [hcs.1, hcs.2] at kk
          exact am_rsz1 hx hb hK hR hS ha hdg (fun H1 locs1 hR1 hS1 => kk H1 locs1 ls hl hR1 hS1)
        · cases h
      · cases h
    · cases h
  case aastore =>
    simp only [am_st] at h
    split at h
    · next hlen =>
      subst hlen
      split at h
      · next x j a r =>
        split at h
        · next w2 ha =>
          cases h
          have hcs := am_sx_cs ha
          rw [hcs.1, hcs.2] at kk
          exact am_rsx hx hb hK hR hS ha hdg (fun H1 locs1 hR1 hS1 => kk H1 locs1 ls hl hR1 hS1)
        · cases h
      · cases h
    · cases h
  case newarray t =>
    simp only [am_st] at h
    split at h
    · next hlen =>
      subst hlen
      split at h
      · next n r =>
        split at h
        · next w2 ha =>
          cases h
          obtain ⟨hn0, hn1, hcase⟩ := am_na_eq ha
          refine am_rsz (fun hsz => ?_)
          have hcs : w'.1 = w.1 + 1 ∧ w'.2.1 = w.2.1 + n.toNatClampNeg := by
            rcases hcase with ⟨-, q⟩ | ⟨-, q⟩ | ⟨-, q⟩ | ⟨-, q⟩ <;> exact am_nw_eq q
          have k2 : ∀ (H1 : Heap), am_R D dA sp base L xs w' H1 → va_S (fun q => base ≤ q) s.heap H1 locs → W p l e R s m args below meth c H1 locs (w.1 - c0 + 1) (w.2.1 - s0 + n.toNatClampNeg) Q (F0 m (pc + 2) ls (.ref (am_ad sp base w.2.2.length) :: r.map (am_rv sp base))) := by
            intro H1 hR1 hS1
            have h9 := kk H1 locs ls hl hR1 hS1
            rw [hcs.1, hcs.2, show w.1 + 1 - c0 = w.1 - c0 + 1 by omega, show w.2.1 + n.toNatClampNeg - s0 = w.2.1 - s0 + n.toNatClampNeg by omega] at h9
            exact h9
          cases t
          case int =>
            rcases hcase with ⟨-, q⟩ | ⟨q, -⟩ | ⟨q, -⟩ | ⟨q, -⟩
            · exact am_rna0 (t := 0) (atype := .int) (ty := .int) rfl hx hb (hts _ am_arr_i) hK rfl rfl hR hS (by omega) hn0 hn1 (by decide) rfl rfl q (by omega) (by omega) hdg k2
            · cases q
            · cases q
            · cases q
          case long =>
            rcases hcase with ⟨q, -⟩ | ⟨-, q⟩ | ⟨q, -⟩ | ⟨q, -⟩
            · cases q
            · exact am_rna0 (t := 1) (atype := .long) (ty := .long) rfl hx hb (hts _ am_arr_l) hK rfl rfl hR hS (by omega) hn0 hn1 (by decide) rfl rfl q (by omega) (by omega) hdg k2
            · cases q
            · cases q
          case boolean =>
            rcases hcase with ⟨q, -⟩ | ⟨q, -⟩ | ⟨-, q⟩ | ⟨q, -⟩
            · cases q
            · cases q
            · exact am_rna0 (t := 2) (atype := .boolean) (ty := .boolean) rfl hx hb (hts _ am_arr_z) hK rfl rfl hR hS (by omega) hn0 hn1 (by decide) rfl rfl q (by omega) (by omega) hdg k2
            · cases q
          all_goals (rcases hcase with ⟨q, -⟩ | ⟨q, -⟩ | ⟨q, -⟩ | ⟨q, -⟩ <;> cases q)
        · cases h
      · cases h
    · cases h
  case new k =>
    simp only [am_st] at h
    split at h
    · next hlen =>
      subst hlen
      split at h
      · next ci hc =>
        split at h
        · next fs hf =>
          split at h
          · next w2 hn =>
            cases h
            refine am_rsz (fun hsz => ?_)
            have hcs := am_nw_eq hn
            refine am_rnew hx hb hts hown hK hR hS (by omega) hc hf hn (by omega) (by omega) hdg (fun H1 hR1 hS1 => ?_)
            have h9 := kk H1 locs ls hl hR1 hS1
            rw [hcs.1, hcs.2, show w.1 + 1 - c0 = w.1 - c0 + 1 by omega, show w.2.1 + fs.length - s0 = w.2.1 - s0 + fs.length by omega] at h9
            exact h9
          · cases h
        · cases h
      · cases h
    · cases h
  case getstatic k =>
    simp only [am_st] at h
    split at h
    · next hlen =>
      obtain ⟨rfl, h1, rfl⟩ := hlen
      cases h
      rw [h1] at hown
      exact va_gets (ref := "GridColours") hx hb hE.2.2.2.2.1.1 hS hown (hts _ am_gsl) (fun _ h9 => h9) hdg (kk H locs ls hl hR hS)
    · cases h
  case anewarray k =>
    simp only [am_st] at h
    split at h
    · next hlen =>
      obtain ⟨rfl, hc⟩ := hlen
      split at h
      · next n r =>
        split at h
        · next w2 ha =>
          cases h
          obtain ⟨hn0, hn1, hcase⟩ := am_na_eq ha
          refine am_rsz (fun hsz => ?_)
          rcases hcase with ⟨q, -⟩ | ⟨q, -⟩ | ⟨q, -⟩ | ⟨-, q⟩
          · cases q
          · cases q
          · cases q
          · have hcs := am_nw_eq q
            refine am_rnq hx hb hts hown hE hR hS (by omega) hc hn0 hn1 q (by omega) (by omega) hdg (fun H1 hR1 hS1 => ?_)
            have h9 := kk H1 locs ls hl hR1 hS1
            rw [hcs.1, hcs.2, show w.1 + 1 - c0 = w.1 - c0 + 1 by omega, show w.2.1 + n.toNatClampNeg - s0 = w.2.1 - s0 + n.toNatClampNeg by omega] at h9
            exact h9
        · cases h
      · cases h
    · cases h
  case tableswitch df lo hi offs =>
    simp only [am_st] at h
    split at h
    · next x r =>
      split at h
      · next hout =>
        split at h
        · next t ht =>
          cases h
          exact lv_tableOut hx hb hdg hout (am_tg_eq ht) (kk H locs ls hl hR hS)
        · cases h
      · next hin =>
        split at h
        · next o ho =>
          split at h
          · next t ht =>
            cases h
            exact lv_tableIn hx hb hdg (fun z => hin (Or.inl z)) (fun z => hin (Or.inr z)) ho (am_tg_eq ht) (kk H locs ls hl hR hS)
          · cases h
        · cases h
    · cases h
  case ldc k =>
    simp only [am_st] at h
    split at h
    · next hlen =>
      subst hlen
      split at h
      · next x hc =>
        cases h
        have ho := am_ctx hc
        simp only [am_ctok, Bool.and_eq_true, decide_eq_true_eq] at ho
        exact lv_ldc hx hb hown (hts _ (List.mem_filter.mpr ho)) hdg (kk H locs ls hl hR hS)
      · next x hc =>
        cases h
        have ho := am_ctx hc
        simp only [am_ctok, decide_eq_true_eq] at ho
        exact am_rldc hx hb hown hE ho hdg (kk H locs ls hl hR hS)
      · cases h
    · cases h
  case ldc_w k =>
    simp only [am_st] at h
    split at h
    · next hlen =>
      subst hlen
      split at h
      · next x hc =>
        cases h
        have ho := am_ctx hc
        simp only [am_ctok, Bool.and_eq_true, decide_eq_true_eq] at ho
        exact lv_ldcw hx hb hown (hts _ (List.mem_filter.mpr ho)) hdg (kk H locs ls hl hR hS)
      · cases h
    · cases h
  case ldc2_w k =>
    simp only [am_st] at h
    split at h
    · next hlen =>
      subst hlen
      split at h
      · next x hc =>
        cases h
        have ho := am_ctx hc
        simp only [am_ctok, Bool.and_eq_true, decide_eq_true_eq] at ho
        exact lv_ldc2 hx hb hown (hts _ (List.mem_filter.mpr ho)) hdg (kk H locs ls hl hR hS)
      · cases h
    · cases h
  case invokespecial k =>
    simp only [am_st] at h
    split at h
    · next hlen =>
      subst hlen
      split at h
      · next M' n' x r hm =>
        split at h
        · next hr8 =>
          cases h
          obtain ⟨ps, ho⟩ := am_mtx hm
          have ho : am_at ps 0 (.methodLink (am_cn M.2.2.2.2.1) k Lib.objectInit) = true := ho
          have hr9 : ((st'.map (am_rv sp base)).map fun v => v.category).sum ≤ 8 := by rw [am_cats]; exact hr8
          exact W.objInit hx hb hown (hts _ (am_at_mem ho)) (hts _ am_objm) (hts _ am_objc) rfl (by rw [hml]; exact hl.1) rfl hdg (by omega) (by have h9 : (F0 m pc ls (.ref (am_ad sp base x) :: st'.map (am_rv sp base))).monitorRoom = 0 := rfl; rw [h9]; omega) (kk H locs ls hl hR hS)
        · cases h
      · cases h
    · cases h
  case invokestatic k =>
    simp only [am_st] at h
    split at h
    · next hlen =>
      subst hlen
      split at h
      · next M' n' y x r hm =>
        split at h
        · next hr8 =>
          cases h
          obtain ⟨ps, ho⟩ := am_mtx hm
          have ho : am_at ps 0 (.methodLink (am_cn M.2.2.2.2.1) k Lib.Math.min.name) = true := ho
          have hr9 : ((r.map (am_rv sp base)).map fun v => v.category).sum ≤ 8 := by rw [am_cats]; exact hr8
          exact va_mmin hx hb (by rw [hml]; exact hl.1.symm) hown (hts _ (am_at_mem ho)) (hts _ am_min_s) (hts _ am_math_i) (hts _ am_min_c) (by omega) (by omega) (by omega) (by omega) hdg (kk H locs ls hl hR hS)
        · cases h
      · next M' n' y x r hm =>
        split at h
        · next hr8 =>
          cases h
          obtain ⟨ps, ho⟩ := am_mtx hm
          have ho : am_at ps 0 (.methodLink (am_cn M.2.2.2.2.1) k Lib.Math.max.name) = true := ho
          have hr9 : ((r.map (am_rv sp base)).map fun v => v.category).sum ≤ 8 := by rw [am_cats]; exact hr8
          exact va_mmax hx hb (by rw [hml]; exact hl.1.symm) hown (hts _ (am_at_mem ho)) (hts _ am_max_s) (hts _ am_math_i) (hts _ am_max_c) (by omega) (by omega) (by omega) (by omega) hdg (kk H locs ls hl hR hS)
        · cases h
      · cases h
    · cases h
  case invokevirtual k =>
    simp only [am_st] at h
    split at h
    · next hlen =>
      subst hlen
      split at h
      · next M' n' i0 r hm =>
        split at h
        · next hr8 =>
          split at h
          · next x hc =>
            cases h
            obtain ⟨ps, ho⟩ := am_mtx hm
            have ho : decide (M.2.2.2.2.1 = 3 ∧ k = 114) = true := ho
            have hr9 : ((r.map (am_rv sp base)).map fun v => v.category).sum ≤ 8 := by rw [am_cats]; exact hr8
            exact am_rtl hx hb hml hown hts hE hb0 (of_decide_eq_true ho) hl.1 hrf hrl (by omega) (by omega) hR hS hr9 hc hdg (kk H locs ls hl hR hS)
          · cases h
        · cases h
      · next M' n' j i0 r hm =>
        split at h
        · next hr8 =>
          split at h
          · next x hc =>
            cases h
            obtain ⟨ps, ho⟩ := am_mtx hm
            have ho : decide (M.2.2.2.2.1 = 3 ∧ k = 117) = true := ho
            have hr9 : ((r.map (am_rv sp base)).map fun v => v.category).sum ≤ 8 := by rw [am_cats]; exact hr8
            exact am_rtc hx hb hml hown hts hE hb0 (of_decide_eq_true ho) hl.1 hrf hrl (by omega) (by omega) hR hS hr9 hc hdg (kk H locs ls hl hR hS)
          · cases h
        · cases h
      · cases h
    · cases h
end AMS
end
section
/-! THE WALK: what the small machine comes to, the machine comes to -/
theorem am_st_mono {M : am_M} {i : Instr} {len pc pc' : Nat} {ls ls' : List (Option Value)} {st st' : List Value} {w w' : am_W} (h : am_st M i len pc ls st w = some (pc', ls', st', w')) : w.1 ≤ w'.1 ∧ w.2.1 ≤ w'.2.1 := by
  have hs : ∀ {a b : Nat}, a = b → b ≤ a := fun e => Nat.le_of_eq e.symm
  cases i
  all_goals first
    | (cases h; done)
    | skip
  all_goals simp only [am_st] at h
  all_goals (try (split at h <;> try (cases h; done)))
  case iload_n => obtain ⟨x, hk, e9⟩ := am_ldi_eq h; cases e9; exact ⟨Nat.le_refl _, Nat.le_refl _⟩
  case iload => obtain ⟨x, hk, e9⟩ := am_ldi_eq h; cases e9; exact ⟨Nat.le_refl _, Nat.le_refl _⟩
  case aload_n => obtain ⟨x, hk, e9⟩ := am_lda_eq h; cases e9; exact ⟨Nat.le_refl _, Nat.le_refl _⟩
  case aload => obtain ⟨x, hk, e9⟩ := am_lda_eq h; cases e9; exact ⟨Nat.le_refl _, Nat.le_refl _⟩
  case lload_n => obtain ⟨x, hk, hm, e9⟩ := am_ldl_eq h; cases e9; exact ⟨Nat.le_refl _, Nat.le_refl _⟩
  case lload => obtain ⟨x, hk, hm, e9⟩ := am_ldl_eq h; cases e9; exact ⟨Nat.le_refl _, Nat.le_refl _⟩
  case istore_n => obtain ⟨x, r, hk, hm, e9⟩ := am_sti_eq h; cases e9; exact ⟨Nat.le_refl _, Nat.le_refl _⟩
  case istore => obtain ⟨x, r, hk, hm, e9⟩ := am_sti_eq h; cases e9; exact ⟨Nat.le_refl _, Nat.le_refl _⟩
  case astore_n => obtain ⟨x, r, hk, hm, e9⟩ := am_sta_eq h; cases e9; exact ⟨Nat.le_refl _, Nat.le_refl _⟩
  case astore => obtain ⟨x, r, hk, hm, e9⟩ := am_sta_eq h; cases e9; exact ⟨Nat.le_refl _, Nat.le_refl _⟩
  case lstore_n => obtain ⟨x, r, hk, hm, e9⟩ := am_stl_eq h; cases e9; exact ⟨Nat.le_refl _, Nat.le_refl _⟩
  case lstore => obtain ⟨x, r, hk, hm, e9⟩ := am_stl_eq h; cases e9; exact ⟨Nat.le_refl _, Nat.le_refl _⟩
  case getfield => obtain ⟨ci, f, t, i0, r, v, hf, e8, hg, e9⟩ := am_getf_eq h; cases e9; exact ⟨Nat.le_refl _, Nat.le_refl _⟩
  case putfield =>
    obtain ⟨ci, f, t, i0, r, v, w2, hf, e8, hg, e9, hv⟩ := am_putf_eq h
    cases e9
    obtain ⟨fs, -, -, -, rfl⟩ := am_pv_eq hg
    exact ⟨Nat.le_refl _, Nat.le_refl _⟩
  case new =>
    split at h
    · split at h
      · split at h
        · next w2 hn => cases h; have := am_nw_eq hn; omega
        · cases h
      · cases h
    · cases h
  case newarray =>
    split at h
    · split at h
      · next w2 hn =>
        cases h
        obtain ⟨-, -, q⟩ := am_na_eq hn
        rcases q with ⟨-, q⟩ | ⟨-, q⟩ | ⟨-, q⟩ | ⟨-, q⟩ <;> (have := am_nw_eq q; omega)
      · cases h
    · cases h
  case anewarray =>
    split at h
    · split at h
      · next w2 hn =>
        cases h
        obtain ⟨-, -, q⟩ := am_na_eq hn
        rcases q with ⟨-, q⟩ | ⟨-, q⟩ | ⟨-, q⟩ | ⟨-, q⟩ <;> (have := am_nw_eq q; omega)
      · cases h
    · cases h
  case iastore =>
    split at h
    · split at h
      · next w2 hn => cases h; have := am_si_cs hn; omega
      · cases h
    · cases h
  case lastore =>
    split at h
    · split at h
      · next w2 hn => cases h; have := am_sj_cs hn; omega
      · cases h
    · cases h
  case bastore =>
    split at h
    · split at h
      · next w2 hn => cases h; have := am_sz_cs hn; omega
      · cases h
    · cases h
  case aastore =>
    split at h
    · split at h
      · next w2 hn => cases h; have := am_sx_cs hn; omega
      · cases h
    · cases h
  case ifCond =>
    split at h
    · split at h <;> (obtain ⟨t, ht, hc⟩ := am_br_eq h; rcases hc with ⟨hc, e9⟩ | ⟨hc, e9⟩ <;> cases e9 <;> exact ⟨Nat.le_refl _, Nat.le_refl _⟩)
    · cases h
  case if_icmp =>
    split at h
    · split at h <;> (obtain ⟨t, ht, hc⟩ := am_br_eq h; rcases hc with ⟨hc, e9⟩ | ⟨hc, e9⟩ <;> cases e9 <;> exact ⟨Nat.le_refl _, Nat.le_refl _⟩)
    · cases h
  all_goals first
    | (obtain ⟨x, y, r, e8, e9⟩ := am_b2_eq h; cases e9; exact ⟨Nat.le_refl _, Nat.le_refl _⟩)
    | (obtain ⟨x, y, r, e8, e9⟩ := am_l2_eq h; cases e9; exact ⟨Nat.le_refl _, Nat.le_refl _⟩)
    | (cases h; exact ⟨Nat.le_refl _, Nat.le_refl _⟩)
    | (split at h <;> first | (cases h; done) | (cases h; exact ⟨Nat.le_refl _, Nat.le_refl _⟩))
    | (split at h <;> first | (cases h; done) | (cases h; exact ⟨Nat.le_refl _, Nat.le_refl _⟩) | (split at h <;> first | (cases h; done) | (cases h; exact ⟨Nat.le_refl _, Nat.le_refl _⟩)))
    | (split at h <;> first | (cases h; done) | (cases h; exact ⟨Nat.le_refl _, Nat.le_refl _⟩) | (split at h <;> first | (cases h; done) | (cases h; exact ⟨Nat.le_refl _, Nat.le_refl _⟩) | (split at h <;> first | (cases h; done) | (cases h; exact ⟨Nat.le_refl _, Nat.le_refl _⟩))))
theorem am_ret_eq {M : am_M} {i : Instr} {len : Nat} {st : List Value} {w wf : am_W} {v : Option Value} (h : am_ret M i len st w = some (wf, v)) :
    (len = 1 ∧ wf = w ∧ ((i = .ireturn ∧ M.2.2.2.1 = some .int ∧ ∃ x, st = [.int x] ∧ v = some (.int x)) ∨ (i = .ireturn ∧ M.2.2.2.1 = some .boolean ∧ ∃ x, st = [.int x] ∧ v = some (.int x) ∧ (x = 0 ∨ x = 1)) ∨ (i = .lreturn ∧ M.2.2.2.1 = some .long ∧ ∃ x, st = [.long x] ∧ v = some (.long x)) ∨ (i = .areturn ∧ (∃ n, M.2.2.2.1 = some (.object n)) ∧ ∃ x, st = [.ref x] ∧ v = some (.ref x)) ∨ (i = .return_ ∧ M.2.2.2.1 = none ∧ st = [] ∧ v = none))) ∨
    (M.2.2.2.2.1 = 0 ∧ i = .new 131 ∧ st = [] ∧ wf = (w.1 + 1, w.2.1 + 6, w.2.2) ∧ v = some (.retAddr 0)) := by
  unfold am_ret at h
  split at h
  · next hl =>
    left
    refine ⟨hl, ?_⟩
    split at h
    · split at h
      · next x hr => cases h; exact ⟨rfl, Or.inl ⟨rfl, hr, x, rfl, rfl⟩⟩
      · next x hr =>
        split at h
        · next hx => cases h; exact ⟨rfl, Or.inr (Or.inl ⟨rfl, hr, x, rfl, rfl, hx⟩)⟩
        · cases h
      · cases h
    · split at h
      · next x hr => cases h; exact ⟨rfl, Or.inr (Or.inr (Or.inl ⟨rfl, hr, x, rfl, rfl⟩))⟩
      · cases h
    · split at h
      · next n x hr => cases h; exact ⟨rfl, Or.inr (Or.inr (Or.inr (Or.inl ⟨rfl, ⟨_, hr⟩, x, rfl, rfl⟩)))⟩
      · cases h
    · split at h
      · next hr => cases h; exact ⟨rfl, Or.inr (Or.inr (Or.inr (Or.inr ⟨rfl, hr, rfl, rfl⟩)))⟩
      · cases h
    · cases h
  · right
    split at h
    · split at h
      · next hq => obtain ⟨h1, rfl, h2⟩ := hq; cases h; exact ⟨h1, rfl, h2, rfl, rfl⟩
      · cases h
    · cases h
theorem am_ret_mono {M : am_M} {i : Instr} {len : Nat} {st : List Value} {w wf : am_W} {v : Option Value} (h : am_ret M i len st w = some (wf, v)) : w.1 ≤ wf.1 ∧ w.2.1 ≤ wf.2.1 := by
  rcases am_ret_eq h with ⟨-, rfl, -⟩ | ⟨-, -, -, rfl, -⟩
  · exact ⟨Nat.le_refl _, Nat.le_refl _⟩
  · exact ⟨Nat.le_succ _, Nat.le_add_right _ _⟩
theorem am_aft_mono {kd : Nat} {v : Option Value} {w w' : am_W} {vs : List Value} (h : am_aft kd v w = some (w', vs)) : w'.1 = w.1 ∧ w'.2.1 = w.2.1 := by
  unfold am_aft at h
  split at h
  · cases h
  · cases h; exact ⟨rfl, rfl⟩
  · cases h; exact ⟨rfl, rfl⟩
  · split at h
    · next w2 hn => cases h; exact am_sj_cs hn
    · cases h
  · cases h
theorem am_grow : ∀ (n d : Nat) (M : am_M) (pc : Nat) (ls : List (Option Value)) (st : List Value) (w wf : am_W) (v : Option Value), am n d M pc ls st w = some (wf, v) → w.1 ≤ wf.1 ∧ w.2.1 ≤ wf.2.1 := by
  intro n
  induction n with
  | zero => intro d M pc ls st w wf v h; cases h
  | succ n ih =>
    intro d M pc ls st w wf v h
    unfold am at h
    split at h
    · cases h
    · split at h
      · next r hr => cases h; exact am_ret_mono hr
      · split at h
        · split at h
          · cases h
          · split at h
            · cases h
            · next w' v' hc =>
              split at h
              · cases h
              · next w'' vs ha =>
                have h1 := ih _ _ _ _ _ _ _ _ hc
                have h2 := ih _ _ _ _ _ _ _ _ h
                have h3 := am_aft_mono ha
                omega
        · split at h
          · cases h
          · next p1 l1 s1 w1 hs =>
            have h1 := am_st_mono hs
            have h2 := ih _ _ _ _ _ _ _ _ h
            omega
end
section
/-! THE WALK, with its calls -/
def am_Pc (D : va_G) (dA : Nat → ClassId) (sp : Nat → Nat) (base L : Nat) (xs : Nat → Int32) (w : am_W) (as : List Value) : Array Value → State → Prop := va_Pc (as.map (am_rv sp base)) (fun U => am_env D dA sp base L xs U ∧ am_R D dA sp base L xs w U.heap ∧ base ≤ U.heap.size ∧ U.heap.size ≤ base + w.1)
def am_Qc (D : va_G) (dA : Nat → ClassId) (sp : Nat → Nat) (base L : Nat) (xs : Nat → Int32) (wf : am_W) (v : Option Value) : Array Value → State → Outcome → State → Prop := fun _ st o t => o = .returned (v.map (am_rv sp base)) ∧ am_R D dA sp base L xs wf t.heap ∧ va_F (fun q => base ≤ q) st t
def am_rm (d : Nat) (w wf : am_W) : Room := { frames := d + 16, cells := wf.1 - w.1, slots := wf.2.1 - w.2.1, locals := 64 * (d + 16) }
def am_mw (M : am_M) : List Cond := .code M.1 M.2.1 M.2.2.1 M.2.2.2.1 :: am_tbl
/-- the walk of n steps -/
def am_WK (l : Launch) (D : va_G) (dA : Nat → ClassId) (sp : Nat → Nat) (base L : Nat) (xs : Nat → Int32) (n : Nat) : Prop :=
  ∀ (d : Nat) (M : am_M) (pc : Nat) (als : List (Option Value)) (st : List Value) (w wf : am_W) (v : Option Value), am n d M pc als st w = some (wf, v) →
  ∀ (p : Program) (e : Env) (R : Room) (s : State) (m : MethodId) (args : Array Value) (below : List Frame) (meth : Method) (c : Code) (H : Heap) (locs : List Loc) (Q : State → Prop) (ls : Array Slot) (c0 s0 : Nat),
  p.tables.exec = Jvm.exec → c.code = M.2.1 → c.maxLocals = M.2.2.1 → s.vm.findClass (am_cn M.2.2.2.2.1) = some m.cls → (∀ w ∈ am_tbl, w.before args s = true) → am_env D dA sp base L xs s → base ≤ s.heap.size → (M.2.2.2.2.2.2 = true → meth.name = "<init>") →
  c0 ≤ w.1 → s0 ≤ w.2.1 → s.heap.size ≤ base + c0 → wf.1 ≤ R.cells + c0 → wf.2.1 ≤ R.slots + s0 → d + 16 ≤ R.frames → 64 * (d + 16) ≤ R.locals →
  am_lv sp base M als ls → am_R D dA sp base L xs w H → va_S (fun q => base ≤ q) s.heap H locs →
  (∀ (pc' : Nat) (i : Instr) (len : Nat) (als' : List (Option Value)) (st' : List Value) (w' : am_W) (H' : Heap) (locs' : List Loc) (ls' : Array Slot), decode M.2.1 pc' = .ok (i, len) → am_ret M i len st' w' = some (wf, v) → am_lv sp base M als' ls' → am_R D dA sp base L xs w' H' → va_S (fun q => base ≤ q) s.heap H' locs' → c0 ≤ w'.1 → s0 ≤ w'.2.1 →
    W p l e R s m args below meth c H' locs' (w'.1 - c0) (w'.2.1 - s0) Q (F0 m pc' ls' (st'.map (am_rv sp base)))) →
  W p l e R s m args below meth c H locs (w.1 - c0) (w.2.1 - s0) Q (F0 m pc ls (st.map (am_rv sp base)))
theorem am_en0_len (sp : Nat → Nat) (base : Nat) : ∀ as : List Value, (lg_sl (as.map (am_rv sp base))).length = (am_en0 as).length
  | [] => rfl
  | v :: as => by
    have ih := am_en0_len sp base as
    have e : lg_sl ((v :: as).map (am_rv sp base)) = (if (am_rv sp base v).category = 2 then [.val (am_rv sp base v), .second] else [.val (am_rv sp base v)]) ++ lg_sl (as.map (am_rv sp base)) := rfl
    rw [e, List.length_append, ih]
    cases v <;> simp [am_en0, am_rv, Value.category] <;> omega
theorem am_en0_args (sp : Nat → Nat) (base : Nat) : ∀ (as : List Value) (i k : Nat) (v : Value), (am_en0 as)[k]? = some (some v) → (i + k, am_rv sp base v) ∈ lv_args i (as.map (am_rv sp base))
  | [], i, k, v, h => by simp [am_en0] at h
  | a :: as, i, k, v, h => by
    have ih := am_en0_args sp base as
    have two : am_en0 (a :: as) = some a :: none :: am_en0 as → (am_rv sp base a).category = 2 → (i + k, am_rv sp base v) ∈ lv_args i ((a :: as).map (am_rv sp base)) := by
      intro e hc
      rw [e] at h
      show (i + k, am_rv sp base v) ∈ (i, am_rv sp base a) :: lv_args (if (am_rv sp base a).category = 2 then i + 2 else i + 1) (as.map (am_rv sp base))
      rw [if_pos hc]
      match k, h with
      | 0, h => cases h; exact List.mem_cons_self
      | 1, h => cases h
      | k + 2, h =>
        have h : (am_en0 as)[k]? = some (some v) := h
        have := ih (i + 2) k v h
        rw [show i + (k + 2) = i + 2 + k by omega]
        exact List.mem_cons_of_mem _ this
    have one : am_en0 (a :: as) = some a :: am_en0 as → ¬ (am_rv sp base a).category = 2 → (i + k, am_rv sp base v) ∈ lv_args i ((a :: as).map (am_rv sp base)) := by
      intro e hc
      rw [e] at h
      show (i + k, am_rv sp base v) ∈ (i, am_rv sp base a) :: lv_args (if (am_rv sp base a).category = 2 then i + 2 else i + 1) (as.map (am_rv sp base))
      rw [if_neg hc]
      match k, h with
      | 0, h => cases h; exact List.mem_cons_self
      | k + 1, h =>
        have h : (am_en0 as)[k]? = some (some v) := h
        have := ih (i + 1) k v h
        rw [show i + (k + 1) = i + 1 + k by omega]
        exact List.mem_cons_of_mem _ this
    cases a with
    | int x => exact one rfl (fun z => by cases z)
    | long x => exact two rfl rfl
    | float x => exact one rfl (fun z => by cases z)
    | double x => exact two rfl rfl
    | null => exact one rfl (fun z => by cases z)
    | ref x => exact one rfl (fun z => by cases z)
    | retAddr x => exact one rfl (fun z => by cases z)
theorem am_en_lv (sp : Nat → Nat) (base : Nat) (M : am_M) (as : List Value) (h : (am_en0 as).length ≤ M.2.2.1) : am_lv sp base M (am_en M as) ((lg_sl (as.map (am_rv sp base)) ++ List.replicate (M.2.2.1 - (lg_sl (as.map (am_rv sp base))).length) Slot.unset).toArray) := by
  have h1 := lv_entry (as.map (am_rv sp base)) (n := M.2.2.1) (by rw [am_en0_len]; exact h)
  refine ⟨h1.1, h1.2.1, ?_, fun k v hk _ => ?_⟩
  · unfold am_en
    simp
    omega
  · unfold am_en at hk
    by_cases hl : k < (am_en0 as).length
    · rw [List.getElem?_append_left hl] at hk
      have h2 := am_en0_args sp base as 0 k v hk
      rw [Nat.zero_add] at h2
      exact h1.2.2 _ h2
    · rw [List.getElem?_append_right (by omega), List.getElem?_replicate] at hk
      split at hk <;> cases hk
section AMW
variable {l : Launch} {D : va_G} {dA : Nat → ClassId} {sp : Nat → Nat} {base L : Nat} {xs : Nat → Int32}
/-- a method's end -/
theorem am_fin {p : Program} {e : Env} {R : Room} {s : State} {m : MethodId} {args : Array Value} {below : List Frame} {meth : Method} {c : Code} {M : am_M} {pc : Nat} {i : Instr} {len : Nat} {st : List Value} {w wf : am_W} {v : Option Value} {H : Heap} {locs : List Loc} {ls : Array Slot} {cells slots : Nat} {Qc : Array Value → State → Outcome → State → Prop} {free : Addr → Prop}
    (hx : p.tables.exec = Jvm.exec) (hb : c.code = M.2.1) (hr : meth.sig.returnType = M.2.2.2.1) (hlocks : meth.locks = false) (hd : decode M.2.1 pc = .ok (i, len)) (h : am_ret M i len st w = some (wf, v)) (hv : v ≠ some (.retAddr 0))
    (hq : ∀ t : State, t.heap = H → s.WarmedH t.vm → Qc args s (.returned (v.map (am_rv sp base))) t) (hf : ∀ q ∈ locs, free q.base) : W p l e R s m args below meth c H locs cells slots (MQ below Qc args s cells slots free) (F0 m pc ls (st.map (am_rv sp base))) := by
  rcases am_ret_eq h with ⟨rfl, rfl, h1⟩ | ⟨-, -, -, -, h1⟩
  · rcases h1 with ⟨rfl, hM, x, rfl, rfl⟩ | ⟨rfl, hM, x, rfl, rfl, hx01⟩ | ⟨rfl, hM, x, rfl, rfl⟩ | ⟨rfl, ⟨n, hM⟩, x, rfl, rfl⟩ | ⟨rfl, hM, rfl, rfl⟩
    · exact W.iret hx hb (hr.trans hM) hq hf hd hlocks
    · exact W.zret (ty := .boolean) hx hb (hr.trans hM) (by rcases hx01 with rfl | rfl <;> rfl) hq hf hd hlocks
    · exact W.lret hx hb (hr.trans hM) hq hf hd hlocks
    · exact W.aret (v := .ref (am_ad sp base x)) hx hb (hr.trans hM) (Or.inl ⟨n, rfl⟩) (Or.inr ⟨_, rfl⟩) hq hf hd hlocks
    · exact W.vret hx hb (hr.trans hM) hq hf hd hlocks
  · exact absurd h1 hv
/-- a method of the small machine keeps its contract -/
theorem am_met {n : Nat} (ih : am_WK l D dA sp base L xs n) {d : Nat} {M : am_M} {as : List Value} {w wf : am_W} {v : Option Value} (h : am n d M 0 (am_en M as) [] w = some (wf, v)) (hv : v ≠ some (.retAddr 0)) (hpl : plainName M.1.cls = true) (hcl : M.1.cls = am_cn M.2.2.2.2.1) (hin : M.2.2.2.2.2.2 = true → M.1.name = "<init>") (hfit : (am_en0 as).length ≤ M.2.2.1) :
    Met l M.1 (am_mw M) (am_rm d w wf) (am_Pc D dA sp base L xs w as) (am_Qc D dA sp base L xs wf v) (wf.1 - w.1) (wf.2.1 - w.2.1) (fun q => base ≤ q) := by
  refine Met.ofW (cc := M.2.1) (maxL := M.2.2.1) (ret := M.2.2.2.1) hpl rfl ?_
  intro p e s m args below meth c s₁ B hml hpre
  obtain ⟨rfl, hE, hR, hb0, hcz⟩ := hpre
  have hx := B.exec
  have hb := B.bytes
  have hr := B.returns
  have hlocks := B.notSynchronized
  have hts : ∀ w ∈ am_tbl, w.before (as.map (am_rv sp base)).toArray s = true := fun w hw => atoms_spec (ws := am_mw M) B.pre w (List.mem_cons_of_mem _ hw)
  have hown : s.vm.findClass M.1.cls = some m.cls := findClass_of_methodNamed B.named
  have hnm : meth.name = M.1.name := (name_of_methodNamed B.named B.method).1
  have hg := am_grow _ _ _ _ _ _ _ _ _ h
  rw [hcl] at hown
  rw [lg_entry_eq]
  have hk := ih d M 0 (am_en M as) [] w wf v h p e (am_rm d w wf) s m (as.map (am_rv sp base)).toArray below meth c s.heap [] (MQ below (am_Qc D dA sp base L xs wf v) (as.map (am_rv sp base)).toArray s (wf.1 - w.1) (wf.2.1 - w.2.1) (fun q => base ≤ q)) _ w.1 w.2.1 hx hb hml hown hts hE hb0 (fun hi => hnm.trans (hin hi)) (Nat.le_refl _) (Nat.le_refl _) hcz (by show wf.1 ≤ wf.1 - w.1 + w.1; omega) (by show wf.2.1 ≤ wf.2.1 - w.2.1 + w.2.1; omega) (Nat.le_refl _) (Nat.le_refl _) (am_en_lv sp base M as hfit) hR va_S.rf ?_
  · rw [Nat.sub_self, Nat.sub_self] at hk
    exact hk
  · intro pc' i len als' st' w' H' locs' ls' hd hret hl' hR' hS' h1 h2
    have hw : wf = w' := by
      rcases am_ret_eq hret with ⟨-, rfl, -⟩ | ⟨-, -, -, -, h9⟩
      · rfl
      · exact absurd h9 hv
    subst hw
    exact am_fin (wf := wf) (v := v) hx hb hr hlocks hd hret hv (fun t ht hW => ⟨rfl, by rw [ht]; exact hR', hS'.F ht⟩) hS'.2.2
/-- behind a call -/
theorem am_after {p : Program} {e : Env} {R : Room} {s : State} {m : MethodId} {args a : Array Value} {below : List Frame} {meth : Method} {c : Code} {H : Heap} {locs : List Loc} {cells slots mc ms pc : Nat} {Q : State → Prop} {ls : Array Slot} {st0 rest : List Value} {wf : am_W} {v : Option Value}
    (hr : va_Run p l e R s m args below meth c H locs cells slots mc ms (F0 m pc ls st0) rest (am_Qc D dA sp base L xs wf v a) (fun q => base ≤ q)) (hS : va_S (fun q => base ≤ q) s.heap H locs)
    (kk : ∀ (H1 : Heap) (locs1 : List Loc), am_R D dA sp base L xs wf H1 → va_S (fun q => base ≤ q) s.heap H1 locs1 → W p l e R s m args below meth c H1 locs1 (cells + mc) (slots + ms) Q (F0 m (pc + 3) ls ((v.map (am_rv sp base)).toList ++ rest))) : W p l e R s m args below meth c H locs cells slots Q (F0 m pc ls st0) := by
  intro T hT X
  obtain ⟨v', st₀, t, T', L', h0, X', hL, e1, e2, ⟨hv, hRt, hz, hk⟩, st⟩ := hr T hT X
  cases hv
  rw [h0] at hz hk
  obtain ⟨t2, a1, b1⟩ := kk T'.heap (locs ++ L') (by rw [e1]; exact hRt) ⟨Nat.le_trans hS.1 (by rw [e1]; exact hz), fun q h1 h2 => by rw [e1, hk q (Nat.lt_of_lt_of_le h1 hS.1) h2]; exact hS.2.1 q h1 h2, fun q hq => by
      rcases List.mem_append.mp hq with h | h
      · exact hS.2.2 q h
      · exact hL q h⟩ T' rfl X'
  exact ⟨t2, st t2 a1, b1⟩
theorem am_goodIn {M : am_M} (h : (Cond.code M.1 M.2.1 M.2.2.1 M.2.2.2.1) ∈ am_tbl) : GoodIn am_tbl (am_mw M) := by
  intro w hw
  rcases List.mem_cons.mp hw with rfl | hw
  · exact ⟨h, good_of_word (List.mem_filter.mp h).2⟩
  · exact ⟨hw, good_of_word (List.mem_filter.mp hw).2⟩
theorem am_blind {w : am_W} {as : List Value} : FrameBlind (am_Pc D dA sp base L xs w as) := by
  intro a U g mk h
  obtain ⟨h1, hE, hR, h2, h3⟩ := h
  exact ⟨h1, hE.warm (State.WarmedH.refl U) (fun _ _ _ => rfl), hR, h2, h3⟩
theorem am_mok_eq {ps : List Nat} {M : am_M} (h : am_mok ps M = true) : (Cond.code M.1 M.2.1 M.2.2.1 M.2.2.2.1) ∈ am_tbl ∧ M.1.cls = am_cn M.2.2.2.2.1 ∧ (Cond.initialized M.1.cls) ∈ am_tbl ∧ plainName M.1.cls = true ∧ M.1.cls ≠ "java/lang/invoke/MethodHandle" ∧ M.1.cls ≠ "java/lang/invoke/VarHandle" ∧ (M.2.2.2.2.2.2 = true → M.1.name = "<init>") := by
  simp only [am_mok, Bool.and_eq_true, decide_eq_true_eq, Bool.or_eq_true, Bool.not_eq_true'] at h
  obtain ⟨⟨⟨⟨⟨⟨h1, h2⟩, h3⟩, h4⟩, h5⟩, h6⟩, h7⟩ := h
  refine ⟨am_at_mem h1, h2, am_at_mem h3, h4, h5, h6, fun hi => ?_⟩
  rcases h7 with h7 | h7
  · rw [hi] at h7; cases h7
  · exact h7
end AMW
end
section
/-! CALLS -/
theorem am_take {n b : Nat} {st rest : List Value} (h : st.drop n = .ref b :: rest) : st = (st.take n).reverse.reverse ++ .ref b :: rest := by
  rw [List.reverse_reverse, ← h, List.take_append_drop]
theorem am_inv_eq {M M' : am_M} {i : Instr} {len kd : Nat} {st as rest : List Value} {w : am_W} (h : am_inv M i len st w = some (kd, M', as, rest)) : len = 3 ∧ (
    (∃ k n As b, i = .invokevirtual k ∧ kd = 0 ∧ am_mt M.2.2.2.2.1 k = some (0, M', n) ∧ st = As.reverse ++ .ref b :: rest ∧ As.length = n ∧ as = .ref b :: As ∧ am_is w b M'.2.2.2.2.1 = true ∧ am_fit M' as rest = true) ∨
    (∃ k n As b, i = .invokespecial k ∧ kd = 0 ∧ am_mt M.2.2.2.2.1 k = some (2, M', n) ∧ st = As.reverse ++ .ref b :: rest ∧ As.length = n ∧ as = .ref b :: As ∧ am_fit M' as rest = true) ∨
    (∃ k n As b, i = .invokespecial k ∧ kd = 0 ∧ am_mt M.2.2.2.2.1 k = some (3, M', n) ∧ st = As.reverse ++ .ref b :: rest ∧ As.length = n ∧ as = .ref b :: As ∧ am_fit M' as rest = true) ∨
    (∃ k n As, i = .invokestatic k ∧ kd = 0 ∧ am_mt M.2.2.2.2.1 k = some (1, M', n) ∧ st = As.reverse ++ rest ∧ As.length = n ∧ as = As ∧ am_fit M' as rest = true) ∨
    (∃ k n As, i = .invokestatic k ∧ kd = 0 ∧ am_mt M.2.2.2.2.1 k = some (4, M', n) ∧ st = As.reverse ++ rest ∧ As.length = n ∧ as = As ∧ am_fit M' as rest = true) ∨
    (∃ k n M0 o p b, i = .invokestatic k ∧ kd = o + 1 ∧ am_mt M.2.2.2.2.1 k = some (8, M0, n) ∧ st = .ref o :: .int p :: .ref b :: rest ∧ M' = m_C_having ∧ as = [.ref b, .int p] ∧ am_is w b 0 = true ∧ am_fit M' as rest = true ∧ 8 ≤ o) ∨
    (∃ k n M0 o b, i = .invokestatic k ∧ kd = o + 1 ∧ am_mt M.2.2.2.2.1 k = some (9, M0, n) ∧ st = .ref o :: .ref b :: rest ∧ M' = m_C_mend ∧ as = [.ref b] ∧ am_is w b 0 = true ∧ am_fit M' as rest = true ∧ 8 ≤ o)) := by
  unfold am_inv at h
  split at h
  · next hl =>
    refine ⟨hl, ?_⟩
    split at h
    · next k =>
      split at h
      · next M2 n hm =>
        split at h
        · next b r hd =>
          split at h
          · next hc =>
            cases h
            exact Or.inl ⟨k, n, (st.take n).reverse, b, rfl, rfl, hm, am_take hd, by rw [List.length_reverse, List.length_take]; omega, rfl, hc.1, hc.2.1⟩
          · cases h
        · cases h
      · cases h
    · next k =>
      split at h
      · next M2 n hm =>
        split at h
        · next b r hd =>
          split at h
          · next hc =>
            cases h
            exact Or.inr (Or.inl ⟨k, n, (st.take n).reverse, b, rfl, rfl, hm, am_take hd, by rw [List.length_reverse, List.length_take]; omega, rfl, hc.1⟩)
          · cases h
        · cases h
      · next M2 n hm =>
        split at h
        · next b r hd =>
          split at h
          · next hc =>
            cases h
            exact Or.inr (Or.inr (Or.inl ⟨k, n, (st.take n).reverse, b, rfl, rfl, hm, am_take hd, by rw [List.length_reverse, List.length_take]; omega, rfl, hc.1⟩))
          · cases h
        · cases h
      · cases h
    · next k =>
      split at h
      · next M2 n hm =>
        split at h
        · next hc =>
          cases h
          exact Or.inr (Or.inr (Or.inr (Or.inl ⟨k, n, (st.take n).reverse, rfl, rfl, hm, by rw [List.reverse_reverse, List.take_append_drop], by rw [List.length_reverse, List.length_take]; omega, rfl, hc.1⟩)))
        · cases h
      · next M2 n hm =>
        split at h
        · next hc =>
          cases h
          exact Or.inr (Or.inr (Or.inr (Or.inr (Or.inl ⟨k, n, (st.take n).reverse, rfl, rfl, hm, by rw [List.reverse_reverse, List.take_append_drop], by rw [List.length_reverse, List.length_take]; omega, rfl, hc.1⟩))))
        · cases h
      · next M2 n hm =>
        split at h
        · next o p b r =>
          split at h
          · next hc =>
            cases h
            exact Or.inr (Or.inr (Or.inr (Or.inr (Or.inr (Or.inl ⟨k, n, M2, o, p, b, rfl, rfl, hm, rfl, rfl, rfl, hc.1, hc.2.1, hc.2.2⟩)))))
          · cases h
        · cases h
      · next M2 n hm =>
        split at h
        · next o b r =>
          split at h
          · next hc =>
            cases h
            exact Or.inr (Or.inr (Or.inr (Or.inr (Or.inr (Or.inr ⟨k, n, M2, o, b, rfl, rfl, hm, rfl, rfl, rfl, hc.1, hc.2.1, hc.2.2⟩)))))
          · cases h
        · cases h
      · cases h
    · cases h
  · cases h
theorem am_fit_eq {M : am_M} {as rest : List Value} (h : am_fit M as rest = true) : (am_en0 as).length ≤ M.2.2.1 ∧ (rest.map fun v => v.category).sum ≤ 8 ∧ M.2.2.1 ≤ 40 := by
  simp only [am_fit, Bool.and_eq_true, decide_eq_true_eq] at h
  exact ⟨h.1.1, h.1.2, h.2⟩
theorem am_is_eq {w : am_W} {b ci : Nat} (h : am_is w b ci = true) : ∃ fs, am_ob w b = some (ci, fs) ∧ 8 ≤ b := by
  unfold am_is at h
  split at h
  · next c fs ho =>
    obtain ⟨h1, h2⟩ := of_decide_eq_true h
    exact ⟨fs, by rw [ho, h1], h2⟩
  · cases h
theorem am_aft0 {v : Option Value} {w w' : am_W} {vs : List Value} (h : am_aft 0 v w = some (w', vs)) : v ≠ some (.retAddr 0) ∧ w' = w ∧ vs = v.toList := by
  unfold am_aft at h
  split at h
  · cases h
  · next hn =>
    cases h
    exact ⟨fun e => hn 0 e, rfl, rfl⟩
  all_goals (first | (rename_i hz _; cases hz; done) | (rename_i hz _ _; cases hz; done) | (rename_i hz; cases hz; done) | cases h)
theorem am_map_opt (f : Value → Value) (v : Option Value) (rest : List Value) : (v.map f).toList ++ rest.map f = (v.toList ++ rest).map f := by cases v <;> simp
theorem am_mw_eq (M : am_M) : am_mw M = .code M.1 M.2.1 M.2.2.1 M.2.2.2.1 :: am_tbl := rfl
theorem am_room {d maxL : Nat} {w wf : am_W} {R : Room} (h1 : d + 1 + 16 ≤ R.frames) (h2 : 64 * (d + 1 + 16) ≤ R.locals) (h3 : maxL ≤ 40) : (am_rm d w wf).frames + 1 ≤ R.frames ∧ 8 + (maxL + 11) + (am_rm d w wf).locals ≤ R.locals := by
  have e1 : (am_rm d w wf).frames = d + 16 := rfl
  have e2 : (am_rm d w wf).locals = 64 * (d + 16) := rfl
  rw [e1, e2]
  omega
section AMC
variable {l : Launch} {D : va_G} {dA : Nat → ClassId} {sp : Nat → Nat} {base L : Nat} {xs : Nat → Int32}
set_option maxHeartbeats 4000000 in
theorem am_call0 {n : Nat} (ih : am_WK l D dA sp base L xs n) {d : Nat} {M M' : am_M} {i : Instr} {pc : Nat} {als : List (Option Value)} {st as rest vs : List Value} {w w' w'' : am_W} {v' : Option Value} {p : Program} {e : Env} {R : Room} {s : State} {m : MethodId} {args : Array Value} {below : List Frame} {meth : Method} {c : Code} {H : Heap} {locs : List Loc} {Q : State → Prop} {ls : Array Slot} {c0 s0 : Nat}
    (hi : am_inv M i 3 st w = some (0, M', as, rest)) (hcal : am n d M' 0 (am_en M' as) [] w = some (w', v')) (haft : am_aft 0 v' w' = some (w'', vs)) (hdg : decode M.2.1 pc = .ok (i, 3))
    (hx : p.tables.exec = Jvm.exec) (hb : c.code = M.2.1) (hml : c.maxLocals = M.2.2.1) (hown : s.vm.findClass (am_cn M.2.2.2.2.1) = some m.cls) (hts : ∀ w ∈ am_tbl, w.before args s = true) (hE : am_env D dA sp base L xs s) (hb0 : base ≤ s.heap.size)
    (hc0 : c0 ≤ w.1) (hs0 : s0 ≤ w.2.1) (hcz : s.heap.size ≤ base + c0) (hrc : w'.1 ≤ R.cells + c0) (hrs : w'.2.1 ≤ R.slots + s0) (hrf : d + 1 + 16 ≤ R.frames) (hrl : 64 * (d + 1 + 16) ≤ R.locals)
    (hl : am_lv sp base M als ls) (hR : am_R D dA sp base L xs w H) (hS : va_S (fun q => base ≤ q) s.heap H locs)
    (kk : ∀ (H1 : Heap) (locs1 : List Loc), am_R D dA sp base L xs w'' H1 → va_S (fun q => base ≤ q) s.heap H1 locs1 → W p l e R s m args below meth c H1 locs1 (w''.1 - c0) (w''.2.1 - s0) Q (F0 m (pc + 3) ls ((vs ++ rest).map (am_rv sp base)))) :
    W p l e R s m args below meth c H locs (w.1 - c0) (w.2.1 - s0) Q (F0 m pc ls (st.map (am_rv sp base))) := by
  obtain ⟨hv, rfl, rfl⟩ := am_aft0 haft
  have hg := am_grow _ _ _ _ _ _ _ _ _ hcal
  have hK := hE.1
  refine am_rsz (fun hsz => ?_)
  have hpre : ∀ U : State, U.heap = H → s.WarmedH U.vm → am_Pc D dA sp base L xs w as (as.map (am_rv sp base)).toArray U := by
    intro U hU hW
    refine ⟨rfl, hE.warm hW (fun a h1 h2 => by rw [hU]; exact hS.2.1 a h1 h2), by rw [hU]; exact hR, by rw [hU]; exact Nat.le_trans hb0 hS.1, by rw [hU]; omega⟩
  have kk2 : ∀ (H1 : Heap) (locs1 : List Loc), am_R D dA sp base L xs w'' H1 → va_S (fun q => base ≤ q) s.heap H1 locs1 → W p l e R s m args below meth c H1 locs1 (w.1 - c0 + (w''.1 - w.1)) (w.2.1 - s0 + (w''.2.1 - w.2.1)) Q (F0 m (pc + 3) ls ((v'.map (am_rv sp base)).toList ++ rest.map (am_rv sp base))) := by
    intro H1 locs1 h1 h2
    have h9 := kk H1 locs1 h1 h2
    rw [show w.1 - c0 + (w''.1 - w.1) = w''.1 - c0 by omega, show w.2.1 - s0 + (w''.2.1 - w.2.1) = w''.2.1 - s0 by omega, am_map_opt]
    exact h9
  have hcells : w.1 - c0 + (w''.1 - w.1) ≤ R.cells ∧ w.2.1 - s0 + (w''.2.1 - w.2.1) ≤ R.slots := ⟨by omega, by omega⟩
  obtain ⟨-, hcase⟩ := am_inv_eq hi
  rcases hcase with ⟨k, na, As, b, rfl, -, hm, rfl, hlen, rfl, his, hfit⟩ | ⟨k, na, As, b, rfl, -, hm, rfl, hlen, rfl, hfit⟩ | ⟨k, na, As, b, rfl, -, hm, rfl, hlen, rfl, hfit⟩ | ⟨k, na, As, rfl, -, hm, rfl, hlen, rfl, hfit⟩ | ⟨k, na, As, rfl, -, hm, rfl, hlen, rfl, hfit⟩ | ⟨k, na, M0, o, p0, b, -, hk, -⟩ | ⟨k, na, M0, o, b, -, hk, -⟩
  · obtain ⟨ps, ho⟩ := am_mtx hm
    simp only [am_mtok, Bool.and_eq_true, decide_eq_true_eq] at ho
    obtain ⟨⟨⟨⟨⟨h1, h2⟩, h3⟩, h4⟩, h5⟩, h6⟩ := ho
    obtain ⟨g1, g2, g3, g4, g5, g6, g7⟩ := am_mok_eq h1
    obtain ⟨f1, f2, f3⟩ := am_fit_eq hfit
    have hM := am_met ih hcal hv g4 g2 g7 f1
    obtain ⟨fs, hob, h8⟩ := am_is_eq his
    obtain ⟨q, hq⟩ := am_place (dA := dA) (sp := sp) (base := base) h8 (am_ob_eq hob)
    refine am_after (rest := rest.map (am_rv sp base)) (va_runV (C := M'.1.cls) (As := As.map (am_rv sp base)) (b := am_ad sp base b) ⟨hx, hb, hml, hown, hts⟩ hM ⟨callB_of na hts (am_goodIn g1) (am_mw_eq M') rfl rfl (hts _ g3) (hts _ (am_at_mem h3)) ⟨g5, g6, h2⟩ (am_room hrf hrl f3), hts _ (am_at_mem h4), hts _ (am_at_mem h5)⟩ ⟨am_blind, ?_, hpre⟩ rfl (by rw [List.length_map]; exact hlen) hl.1 ?_ (lv_room (by rw [am_cats]; exact f2)) hdg hcells) hS kk2
    · have hrv := va_recv hK hR.1.ws (am_ci h6) hq
      rw [g2]
      exact hrv
    · show List.map (am_rv sp base) (As.reverse ++ .ref b :: rest) = _
      rw [List.map_append, List.map_reverse]
      rfl
  · obtain ⟨ps, ho⟩ := am_mtx hm
    simp only [am_mtok, Bool.and_eq_true, decide_eq_true_eq] at ho
    obtain ⟨⟨⟨⟨⟨h1, h2⟩, h3⟩, h4⟩, h5⟩, h6⟩ := ho
    obtain ⟨g1, g2, g3, g4, g5, g6, g7⟩ := am_mok_eq h1
    obtain ⟨f1, f2, f3⟩ := am_fit_eq hfit
    have hM := am_met ih hcal hv g4 g2 g7 f1
    have hcb := callB_of (R := R) (index := k) (rm := am_rm d w w'') (own := am_cn M.2.2.2.2.1) na hts (am_goodIn g1) (am_mw_eq M') rfl rfl (hts _ g3) (hts _ (am_at_mem h3)) ⟨g5, g6, h2⟩ (am_room hrf hrl f3)
    rw [h6] at hcb
    refine am_after (rest := rest.map (am_rv sp base)) (va_runI (As := As.map (am_rv sp base)) (b := am_ad sp base b) ⟨hx, hb, hml, hown, hts⟩ hM ⟨hcb, h5, hts _ (am_at_mem h4)⟩ ⟨am_blind, hpre⟩ rfl (by rw [List.length_map]; exact hlen) hl.1 ?_ (lv_room (by rw [am_cats]; exact f2)) hdg hcells) hS kk2
    show List.map (am_rv sp base) (As.reverse ++ .ref b :: rest) = _
    rw [List.map_append, List.map_reverse]
    rfl
  · obtain ⟨ps, ho⟩ := am_mtx hm
    simp only [am_mtok, Bool.and_eq_true, decide_eq_true_eq] at ho
    obtain ⟨⟨⟨⟨⟨h1, h2⟩, h3⟩, h4⟩, h5⟩, h6⟩ := ho
    obtain ⟨g1, g2, g3, g4, g5, g6, g7⟩ := am_mok_eq h1
    obtain ⟨f1, f2, f3⟩ := am_fit_eq hfit
    have hM := am_met ih hcal hv g4 g2 g7 f1
    have hcb := va_cnB (R := R) (index := k) (rm := am_rm d w w'') (own := am_cn M.2.2.2.2.1) (host := "GridColours") na hts (am_goodIn g1) (am_mw_eq M') rfl rfl (hE.2.2.1 _ h3) (hts _ g3) ⟨g5, g6, h2⟩ (am_room hrf hrl f3)
    rw [h6] at hcb
    refine am_after (rest := rest.map (am_rv sp base)) (va_runIN (As := As.map (am_rv sp base)) (b := am_ad sp base b) ⟨hx, hb, hml, hown, hts⟩ hM ⟨hcb, h5, hts _ (am_at_mem h4)⟩ ⟨am_blind, hpre⟩ rfl (by rw [List.length_map]; exact hlen) hl.1 ?_ (lv_room (by rw [am_cats]; exact f2)) hdg hcells) hS kk2
    show List.map (am_rv sp base) (As.reverse ++ .ref b :: rest) = _
    rw [List.map_append, List.map_reverse]
    rfl
  · obtain ⟨ps, ho⟩ := am_mtx hm
    simp only [am_mtok, Bool.and_eq_true, decide_eq_true_eq] at ho
    obtain ⟨⟨⟨h1, h2⟩, h3⟩, h4⟩ := ho
    obtain ⟨g1, g2, g3, g4, g5, g6, g7⟩ := am_mok_eq h1
    obtain ⟨f1, f2, f3⟩ := am_fit_eq hfit
    have hM := am_met ih hcal hv g4 g2 g7 f1
    refine am_after (rest := rest.map (am_rv sp base)) (va_runS (As := as.map (am_rv sp base)) ⟨hx, hb, hml, hown, hts⟩ hM ⟨callB_of na hts (am_goodIn g1) (am_mw_eq M') rfl rfl (hts _ g3) (hts _ (am_at_mem h3)) ⟨g5, g6, h2⟩ (am_room hrf hrl f3), hts _ (am_at_mem h4)⟩ ⟨am_blind, hpre⟩ rfl (by rw [List.length_map]; exact hlen) hl.1 ?_ (lv_room (by rw [am_cats]; exact f2)) hdg hcells) hS kk2
    show List.map (am_rv sp base) (as.reverse ++ rest) = _
    rw [List.map_append, List.map_reverse]
  · obtain ⟨ps, ho⟩ := am_mtx hm
    simp only [am_mtok, Bool.and_eq_true, decide_eq_true_eq] at ho
    obtain ⟨⟨⟨h1, h2⟩, h3⟩, h4⟩ := ho
    obtain ⟨g1, g2, g3, g4, g5, g6, g7⟩ := am_mok_eq h1
    obtain ⟨f1, f2, f3⟩ := am_fit_eq hfit
    have hM := am_met ih hcal hv g4 g2 g7 f1
    refine am_after (rest := rest.map (am_rv sp base)) (va_runSN (As := as.map (am_rv sp base)) ⟨hx, hb, hml, hown, hts⟩ hM ⟨va_cnB (host := "GridColours") na hts (am_goodIn g1) (am_mw_eq M') rfl rfl (hE.2.2.1 _ h3) (hts _ g3) ⟨g5, g6, h2⟩ (am_room hrf hrl f3), hts _ (am_at_mem h4), trivial⟩ ⟨am_blind, hpre⟩ rfl (by rw [List.length_map]; exact hlen) hl.1 ?_ (lv_room (by rw [am_cats]; exact f2)) hdg hcells) hS kk2
    show List.map (am_rv sp base) (as.reverse ++ rest) = _
    rw [List.map_append, List.map_reverse]
  · cases hk
  · cases hk
end AMC
end
