section
-- ===== PART A: goes FIRST, ahead of the names: the tables' words, and 'selects' of the private methods out of them =====
/-- a private method of a class that the tables say can be made, by its rows of tables_1 -/
def lw_okq (q : MethodName × Nat) : Prop := (q.1.cls ≠ "java/lang/invoke/MethodHandle" ∧ q.1.cls ≠ "java/lang/invoke/VarHandle") ∧ Cond.instantiable q.1.cls q.2 ∈ tables_1 ∧ Cond.privateMethod q.1 ∈ tables_1 ∧ Cond.instanceMethod q.1 ∈ tables_1
theorem lw_p0 : lw_okq (⟨"InkCoder$Reader", "takeByte", "()V"⟩, 6) := ⟨⟨by decide +kernel, by decide +kernel⟩, List.mem_of_getElem? (i := 168) (by decide +kernel), List.mem_of_getElem? (i := 266) (by decide +kernel), List.mem_of_getElem? (i := 267) (by decide +kernel)⟩
theorem lw_p1 : lw_okq (⟨"InkCoder", "refuseMissingBoard", "(I)V"⟩, 8) := ⟨⟨by decide +kernel, by decide +kernel⟩, List.mem_of_getElem? (i := 25) (by decide +kernel), List.mem_of_getElem? (i := 289) (by decide +kernel), List.mem_of_getElem? (i := 290) (by decide +kernel)⟩
theorem lw_p2 : lw_okq (⟨"java/lang/Throwable", "fillInStackTrace", "(I)Ljava/lang/Throwable;"⟩, 6) := ⟨⟨by decide +kernel, by decide +kernel⟩, List.mem_of_getElem? (i := 332) (by decide +kernel), List.mem_of_getElem? (i := 330) (by decide +kernel), List.mem_of_getElem? (i := 331) (by decide +kernel)⟩
theorem lw_p3 : lw_okq (⟨"InkCoder$Picture", "allColumns", "()I"⟩, 3) := ⟨⟨by decide +kernel, by decide +kernel⟩, List.mem_of_getElem? (i := 34) (by decide +kernel), List.mem_of_getElem? (i := 406) (by decide +kernel), List.mem_of_getElem? (i := 407) (by decide +kernel)⟩
theorem lw_p4 : lw_okq (⟨"InkCoder", "refuseIdle", "()V"⟩, 8) := ⟨⟨by decide +kernel, by decide +kernel⟩, List.mem_of_getElem? (i := 25) (by decide +kernel), List.mem_of_getElem? (i := 449) (by decide +kernel), List.mem_of_getElem? (i := 450) (by decide +kernel)⟩
theorem lw_p5 : lw_okq (⟨"InkCoder$Writer", "sendByte", "()V"⟩, 7) := ⟨⟨by decide +kernel, by decide +kernel⟩, List.mem_of_getElem? (i := 120) (by decide +kernel), List.mem_of_getElem? (i := 473) (by decide +kernel), List.mem_of_getElem? (i := 474) (by decide +kernel)⟩
theorem lw_p6 : lw_okq (⟨"InkCoder", "coder", "()LInkCoder$Coder;"⟩, 8) := ⟨⟨by decide +kernel, by decide +kernel⟩, List.mem_of_getElem? (i := 25) (by decide +kernel), List.mem_of_getElem? (i := 493) (by decide +kernel), List.mem_of_getElem? (i := 494) (by decide +kernel)⟩
theorem lw_p7 : lw_okq (⟨"InkCoder$Reader", "shiftIn", "()V"⟩, 6) := ⟨⟨by decide +kernel, by decide +kernel⟩, List.mem_of_getElem? (i := 168) (by decide +kernel), List.mem_of_getElem? (i := 534) (by decide +kernel), List.mem_of_getElem? (i := 535) (by decide +kernel)⟩
theorem lw_p8 : lw_okq (⟨"InkCoder$Writer", "shiftOut", "()V"⟩, 7) := ⟨⟨by decide +kernel, by decide +kernel⟩, List.mem_of_getElem? (i := 120) (by decide +kernel), List.mem_of_getElem? (i := 544) (by decide +kernel), List.mem_of_getElem? (i := 545) (by decide +kernel)⟩
theorem lw_p9 : lw_okq (⟨"InkCoder", "refuseMissingSymbol", "(I)V"⟩, 8) := ⟨⟨by decide +kernel, by decide +kernel⟩, List.mem_of_getElem? (i := 25) (by decide +kernel), List.mem_of_getElem? (i := 638) (by decide +kernel), List.mem_of_getElem? (i := 639) (by decide +kernel)⟩
theorem lw_p10 : lw_okq (⟨"InkCoder", "isSymbol", "(I)Z"⟩, 8) := ⟨⟨by decide +kernel, by decide +kernel⟩, List.mem_of_getElem? (i := 25) (by decide +kernel), List.mem_of_getElem? (i := 642) (by decide +kernel), List.mem_of_getElem? (i := 643) (by decide +kernel)⟩
theorem lw_p11 : lw_okq (⟨"InkCoder", "codeSymbols", "()I"⟩, 8) := ⟨⟨by decide +kernel, by decide +kernel⟩, List.mem_of_getElem? (i := 25) (by decide +kernel), List.mem_of_getElem? (i := 675) (by decide +kernel), List.mem_of_getElem? (i := 676) (by decide +kernel)⟩
theorem lw_p12 : lw_okq (⟨"InkCoder", "codeMarks", "(IZ)I"⟩, 8) := ⟨⟨by decide +kernel, by decide +kernel⟩, List.mem_of_getElem? (i := 25) (by decide +kernel), List.mem_of_getElem? (i := 686) (by decide +kernel), List.mem_of_getElem? (i := 687) (by decide +kernel)⟩
theorem lw_p13 : lw_okq (⟨"InkCoder", "startOf", "(IIZ)I"⟩, 8) := ⟨⟨by decide +kernel, by decide +kernel⟩, List.mem_of_getElem? (i := 25) (by decide +kernel), List.mem_of_getElem? (i := 690) (by decide +kernel), List.mem_of_getElem? (i := 691) (by decide +kernel)⟩
theorem lw_p14 : lw_okq (⟨"InkCoder", "before", "(IIZ)I"⟩, 8) := ⟨⟨by decide +kernel, by decide +kernel⟩, List.mem_of_getElem? (i := 25) (by decide +kernel), List.mem_of_getElem? (i := 694) (by decide +kernel), List.mem_of_getElem? (i := 695) (by decide +kernel)⟩
theorem lw_p15 : lw_okq (⟨"InkCoder", "extent", "(IZ)I"⟩, 8) := ⟨⟨by decide +kernel, by decide +kernel⟩, List.mem_of_getElem? (i := 25) (by decide +kernel), List.mem_of_getElem? (i := 704) (by decide +kernel), List.mem_of_getElem? (i := 705) (by decide +kernel)⟩
def lw_privs_1 : List (MethodName × Nat) := [(⟨"InkCoder$Reader", "takeByte", "()V"⟩, 6), (⟨"InkCoder", "refuseMissingBoard", "(I)V"⟩, 8), (⟨"java/lang/Throwable", "fillInStackTrace", "(I)Ljava/lang/Throwable;"⟩, 6), (⟨"InkCoder$Picture", "allColumns", "()I"⟩, 3), (⟨"InkCoder", "refuseIdle", "()V"⟩, 8), (⟨"InkCoder$Writer", "sendByte", "()V"⟩, 7), (⟨"InkCoder", "coder", "()LInkCoder$Coder;"⟩, 8), (⟨"InkCoder$Reader", "shiftIn", "()V"⟩, 6), (⟨"InkCoder$Writer", "shiftOut", "()V"⟩, 7), (⟨"InkCoder", "refuseMissingSymbol", "(I)V"⟩, 8), (⟨"InkCoder", "isSymbol", "(I)Z"⟩, 8), (⟨"InkCoder", "codeSymbols", "()I"⟩, 8), (⟨"InkCoder", "codeMarks", "(IZ)I"⟩, 8), (⟨"InkCoder", "startOf", "(IIZ)I"⟩, 8), (⟨"InkCoder", "before", "(IIZ)I"⟩, 8), (⟨"InkCoder", "extent", "(IZ)I"⟩, 8)]
theorem lw_r1 : ∀ q ∈ lw_privs_1, lw_okq q := List.forall_mem_cons.mpr ⟨lw_p0, List.forall_mem_cons.mpr ⟨lw_p1, List.forall_mem_cons.mpr ⟨lw_p2, List.forall_mem_cons.mpr ⟨lw_p3, List.forall_mem_cons.mpr ⟨lw_p4, List.forall_mem_cons.mpr ⟨lw_p5, List.forall_mem_cons.mpr ⟨lw_p6, List.forall_mem_cons.mpr ⟨lw_p7, List.forall_mem_cons.mpr ⟨lw_p8, List.forall_mem_cons.mpr ⟨lw_p9, List.forall_mem_cons.mpr ⟨lw_p10, List.forall_mem_cons.mpr ⟨lw_p11, List.forall_mem_cons.mpr ⟨lw_p12, List.forall_mem_cons.mpr ⟨lw_p13, List.forall_mem_cons.mpr ⟨lw_p14, List.forall_mem_cons.mpr ⟨lw_p15, fun _ h => absurd h List.not_mem_nil⟩⟩⟩⟩⟩⟩⟩⟩⟩⟩⟩⟩⟩⟩⟩⟩
theorem lw_p16 : lw_okq (⟨"InkCoder", "stampMark", "(LInkCoder$Picture;IIZI)V"⟩, 8) := ⟨⟨by decide +kernel, by decide +kernel⟩, List.mem_of_getElem? (i := 25) (by decide +kernel), List.mem_of_getElem? (i := 711) (by decide +kernel), List.mem_of_getElem? (i := 712) (by decide +kernel)⟩
theorem lw_p17 : lw_okq (⟨"InkCoderModel", "resize", "(III)V"⟩, 23) := ⟨⟨by decide +kernel, by decide +kernel⟩, List.mem_of_getElem? (i := 715) (by decide +kernel), List.mem_of_getElem? (i := 802) (by decide +kernel), List.mem_of_getElem? (i := 803) (by decide +kernel)⟩
theorem lw_p18 : lw_okq (⟨"InkCoderModel", "isInside", "(III)Z"⟩, 23) := ⟨⟨by decide +kernel, by decide +kernel⟩, List.mem_of_getElem? (i := 715) (by decide +kernel), List.mem_of_getElem? (i := 810) (by decide +kernel), List.mem_of_getElem? (i := 811) (by decide +kernel)⟩
theorem lw_p19 : lw_okq (⟨"InkCoderModel", "at", "(III)I"⟩, 23) := ⟨⟨by decide +kernel, by decide +kernel⟩, List.mem_of_getElem? (i := 715) (by decide +kernel), List.mem_of_getElem? (i := 814) (by decide +kernel), List.mem_of_getElem? (i := 815) (by decide +kernel)⟩
theorem lw_p20 : lw_okq (⟨"InkCoderModel", "ink", "(IIII)V"⟩, 23) := ⟨⟨by decide +kernel, by decide +kernel⟩, List.mem_of_getElem? (i := 715) (by decide +kernel), List.mem_of_getElem? (i := 818) (by decide +kernel), List.mem_of_getElem? (i := 819) (by decide +kernel)⟩
theorem lw_p21 : lw_okq (⟨"InkCoderModel", "lay", "(IIIII)V"⟩, 23) := ⟨⟨by decide +kernel, by decide +kernel⟩, List.mem_of_getElem? (i := 715) (by decide +kernel), List.mem_of_getElem? (i := 833) (by decide +kernel), List.mem_of_getElem? (i := 834) (by decide +kernel)⟩
theorem lw_p22 : lw_okq (⟨"InkCoderModel", "byteAt", "(I)I"⟩, 23) := ⟨⟨by decide +kernel, by decide +kernel⟩, List.mem_of_getElem? (i := 715) (by decide +kernel), List.mem_of_getElem? (i := 866) (by decide +kernel), List.mem_of_getElem? (i := 867) (by decide +kernel)⟩
theorem lw_p23 : lw_okq (⟨"InkCoderModel", "comeIn", "()V"⟩, 23) := ⟨⟨by decide +kernel, by decide +kernel⟩, List.mem_of_getElem? (i := 715) (by decide +kernel), List.mem_of_getElem? (i := 870) (by decide +kernel), List.mem_of_getElem? (i := 871) (by decide +kernel)⟩
theorem lw_p24 : lw_okq (⟨"InkCoderModel", "flush", "()V"⟩, 23) := ⟨⟨by decide +kernel, by decide +kernel⟩, List.mem_of_getElem? (i := 715) (by decide +kernel), List.mem_of_getElem? (i := 879) (by decide +kernel), List.mem_of_getElem? (i := 880) (by decide +kernel)⟩
theorem lw_p25 : lw_okq (⟨"InkCoderModel", "goOut", "()V"⟩, 23) := ⟨⟨by decide +kernel, by decide +kernel⟩, List.mem_of_getElem? (i := 715) (by decide +kernel), List.mem_of_getElem? (i := 884) (by decide +kernel), List.mem_of_getElem? (i := 885) (by decide +kernel)⟩
theorem lw_p26 : lw_okq (⟨"InkCoderModel", "out", "(I)V"⟩, 23) := ⟨⟨by decide +kernel, by decide +kernel⟩, List.mem_of_getElem? (i := 715) (by decide +kernel), List.mem_of_getElem? (i := 890) (by decide +kernel), List.mem_of_getElem? (i := 891) (by decide +kernel)⟩
theorem lw_p27 : lw_okq (⟨"InkCoderModel", "codeRegion", "(IIZ)I"⟩, 23) := ⟨⟨by decide +kernel, by decide +kernel⟩, List.mem_of_getElem? (i := 715) (by decide +kernel), List.mem_of_getElem? (i := 904) (by decide +kernel), List.mem_of_getElem? (i := 905) (by decide +kernel)⟩
theorem lw_p28 : lw_okq (⟨"InkCoderModel", "isAsAbove", "(II)Z"⟩, 23) := ⟨⟨by decide +kernel, by decide +kernel⟩, List.mem_of_getElem? (i := 715) (by decide +kernel), List.mem_of_getElem? (i := 908) (by decide +kernel), List.mem_of_getElem? (i := 909) (by decide +kernel)⟩
theorem lw_p29 : lw_okq (⟨"InkCoderModel", "decide", "(II)I"⟩, 23) := ⟨⟨by decide +kernel, by decide +kernel⟩, List.mem_of_getElem? (i := 715) (by decide +kernel), List.mem_of_getElem? (i := 912) (by decide +kernel), List.mem_of_getElem? (i := 913) (by decide +kernel)⟩
theorem lw_p30 : lw_okq (⟨"InkCoderModel", "write", "(II)V"⟩, 23) := ⟨⟨by decide +kernel, by decide +kernel⟩, List.mem_of_getElem? (i := 715) (by decide +kernel), List.mem_of_getElem? (i := 916) (by decide +kernel), List.mem_of_getElem? (i := 917) (by decide +kernel)⟩
theorem lw_p31 : lw_okq (⟨"InkCoderModel", "usual", "(I)V"⟩, 23) := ⟨⟨by decide +kernel, by decide +kernel⟩, List.mem_of_getElem? (i := 715) (by decide +kernel), List.mem_of_getElem? (i := 939) (by decide +kernel), List.mem_of_getElem? (i := 940) (by decide +kernel)⟩
def lw_privs_2 : List (MethodName × Nat) := [(⟨"InkCoder", "stampMark", "(LInkCoder$Picture;IIZI)V"⟩, 8), (⟨"InkCoderModel", "resize", "(III)V"⟩, 23), (⟨"InkCoderModel", "isInside", "(III)Z"⟩, 23), (⟨"InkCoderModel", "at", "(III)I"⟩, 23), (⟨"InkCoderModel", "ink", "(IIII)V"⟩, 23), (⟨"InkCoderModel", "lay", "(IIIII)V"⟩, 23), (⟨"InkCoderModel", "byteAt", "(I)I"⟩, 23), (⟨"InkCoderModel", "comeIn", "()V"⟩, 23), (⟨"InkCoderModel", "flush", "()V"⟩, 23), (⟨"InkCoderModel", "goOut", "()V"⟩, 23), (⟨"InkCoderModel", "out", "(I)V"⟩, 23), (⟨"InkCoderModel", "codeRegion", "(IIZ)I"⟩, 23), (⟨"InkCoderModel", "isAsAbove", "(II)Z"⟩, 23), (⟨"InkCoderModel", "decide", "(II)I"⟩, 23), (⟨"InkCoderModel", "write", "(II)V"⟩, 23), (⟨"InkCoderModel", "usual", "(I)V"⟩, 23)]
theorem lw_r2 : ∀ q ∈ lw_privs_2, lw_okq q := List.forall_mem_cons.mpr ⟨lw_p16, List.forall_mem_cons.mpr ⟨lw_p17, List.forall_mem_cons.mpr ⟨lw_p18, List.forall_mem_cons.mpr ⟨lw_p19, List.forall_mem_cons.mpr ⟨lw_p20, List.forall_mem_cons.mpr ⟨lw_p21, List.forall_mem_cons.mpr ⟨lw_p22, List.forall_mem_cons.mpr ⟨lw_p23, List.forall_mem_cons.mpr ⟨lw_p24, List.forall_mem_cons.mpr ⟨lw_p25, List.forall_mem_cons.mpr ⟨lw_p26, List.forall_mem_cons.mpr ⟨lw_p27, List.forall_mem_cons.mpr ⟨lw_p28, List.forall_mem_cons.mpr ⟨lw_p29, List.forall_mem_cons.mpr ⟨lw_p30, List.forall_mem_cons.mpr ⟨lw_p31, fun _ h => absurd h List.not_mem_nil⟩⟩⟩⟩⟩⟩⟩⟩⟩⟩⟩⟩⟩⟩⟩⟩
theorem lw_p32 : lw_okq (⟨"InkCoderModel", "wrong", "(I)V"⟩, 23) := ⟨⟨by decide +kernel, by decide +kernel⟩, List.mem_of_getElem? (i := 715) (by decide +kernel), List.mem_of_getElem? (i := 946) (by decide +kernel), List.mem_of_getElem? (i := 947) (by decide +kernel)⟩
theorem lw_p33 : lw_okq (⟨"InkCoderModel", "read", "(I)I"⟩, 23) := ⟨⟨by decide +kernel, by decide +kernel⟩, List.mem_of_getElem? (i := 715) (by decide +kernel), List.mem_of_getElem? (i := 960) (by decide +kernel), List.mem_of_getElem? (i := 961) (by decide +kernel)⟩
theorem lw_p34 : lw_okq (⟨"InkCoderModel", "contextOf", "(IIII)I"⟩, 23) := ⟨⟨by decide +kernel, by decide +kernel⟩, List.mem_of_getElem? (i := 715) (by decide +kernel), List.mem_of_getElem? (i := 964) (by decide +kernel), List.mem_of_getElem? (i := 965) (by decide +kernel)⟩
theorem lw_p35 : lw_okq (⟨"InkCoderModel", "around", "(IIIII)I"⟩, 23) := ⟨⟨by decide +kernel, by decide +kernel⟩, List.mem_of_getElem? (i := 715) (by decide +kernel), List.mem_of_getElem? (i := 968) (by decide +kernel), List.mem_of_getElem? (i := 969) (by decide +kernel)⟩
theorem lw_p36 : lw_okq (⟨"InkCoderModel", "refinedContext", "(IIIIII)I"⟩, 23) := ⟨⟨by decide +kernel, by decide +kernel⟩, List.mem_of_getElem? (i := 715) (by decide +kernel), List.mem_of_getElem? (i := 976) (by decide +kernel), List.mem_of_getElem? (i := 977) (by decide +kernel)⟩
theorem lw_p37 : lw_okq (⟨"InkCoderModel", "codeNumber", "(IIZ)I"⟩, 23) := ⟨⟨by decide +kernel, by decide +kernel⟩, List.mem_of_getElem? (i := 715) (by decide +kernel), List.mem_of_getElem? (i := 987) (by decide +kernel), List.mem_of_getElem? (i := 988) (by decide +kernel)⟩
theorem lw_p38 : lw_okq (⟨"InkCoderModel", "next", "(II)I"⟩, 23) := ⟨⟨by decide +kernel, by decide +kernel⟩, List.mem_of_getElem? (i := 715) (by decide +kernel), List.mem_of_getElem? (i := 991) (by decide +kernel), List.mem_of_getElem? (i := 992) (by decide +kernel)⟩
theorem lw_p39 : lw_okq (⟨"InkCoderModel", "many", "(III)I"⟩, 23) := ⟨⟨by decide +kernel, by decide +kernel⟩, List.mem_of_getElem? (i := 715) (by decide +kernel), List.mem_of_getElem? (i := 1004) (by decide +kernel), List.mem_of_getElem? (i := 1005) (by decide +kernel)⟩
theorem lw_p40 : lw_okq (⟨"InkCoderModel", "isSymbol", "(I)Z"⟩, 23) := ⟨⟨by decide +kernel, by decide +kernel⟩, List.mem_of_getElem? (i := 715) (by decide +kernel), List.mem_of_getElem? (i := 1020) (by decide +kernel), List.mem_of_getElem? (i := 1021) (by decide +kernel)⟩
theorem lw_p41 : lw_okq (⟨"InkCoderModel", "keepMark", "(III)V"⟩, 23) := ⟨⟨by decide +kernel, by decide +kernel⟩, List.mem_of_getElem? (i := 715) (by decide +kernel), List.mem_of_getElem? (i := 1024) (by decide +kernel), List.mem_of_getElem? (i := 1025) (by decide +kernel)⟩
theorem lw_p42 : lw_okq (⟨"InkCoderModel", "writeDictionary", "()V"⟩, 23) := ⟨⟨by decide +kernel, by decide +kernel⟩, List.mem_of_getElem? (i := 715) (by decide +kernel), List.mem_of_getElem? (i := 1040) (by decide +kernel), List.mem_of_getElem? (i := 1041) (by decide +kernel)⟩
theorem lw_p43 : lw_okq (⟨"InkCoderModel", "readDictionary", "()I"⟩, 23) := ⟨⟨by decide +kernel, by decide +kernel⟩, List.mem_of_getElem? (i := 715) (by decide +kernel), List.mem_of_getElem? (i := 1044) (by decide +kernel), List.mem_of_getElem? (i := 1045) (by decide +kernel)⟩
theorem lw_p44 : lw_okq (⟨"InkCoderModel", "readHeight", "(III)I"⟩, 23) := ⟨⟨by decide +kernel, by decide +kernel⟩, List.mem_of_getElem? (i := 715) (by decide +kernel), List.mem_of_getElem? (i := 1051) (by decide +kernel), List.mem_of_getElem? (i := 1052) (by decide +kernel)⟩
theorem lw_p45 : lw_okq (⟨"InkCoderModel", "writeText", "()V"⟩, 23) := ⟨⟨by decide +kernel, by decide +kernel⟩, List.mem_of_getElem? (i := 715) (by decide +kernel), List.mem_of_getElem? (i := 1059) (by decide +kernel), List.mem_of_getElem? (i := 1060) (by decide +kernel)⟩
theorem lw_p46 : lw_okq (⟨"InkCoderModel", "before", "(I)I"⟩, 23) := ⟨⟨by decide +kernel, by decide +kernel⟩, List.mem_of_getElem? (i := 715) (by decide +kernel), List.mem_of_getElem? (i := 1063) (by decide +kernel), List.mem_of_getElem? (i := 1064) (by decide +kernel)⟩
theorem lw_p47 : lw_okq (⟨"InkCoderModel", "codeIndex", "(I)I"⟩, 23) := ⟨⟨by decide +kernel, by decide +kernel⟩, List.mem_of_getElem? (i := 715) (by decide +kernel), List.mem_of_getElem? (i := 1067) (by decide +kernel), List.mem_of_getElem? (i := 1068) (by decide +kernel)⟩
def lw_privs_3 : List (MethodName × Nat) := [(⟨"InkCoderModel", "wrong", "(I)V"⟩, 23), (⟨"InkCoderModel", "read", "(I)I"⟩, 23), (⟨"InkCoderModel", "contextOf", "(IIII)I"⟩, 23), (⟨"InkCoderModel", "around", "(IIIII)I"⟩, 23), (⟨"InkCoderModel", "refinedContext", "(IIIIII)I"⟩, 23), (⟨"InkCoderModel", "codeNumber", "(IIZ)I"⟩, 23), (⟨"InkCoderModel", "next", "(II)I"⟩, 23), (⟨"InkCoderModel", "many", "(III)I"⟩, 23), (⟨"InkCoderModel", "isSymbol", "(I)Z"⟩, 23), (⟨"InkCoderModel", "keepMark", "(III)V"⟩, 23), (⟨"InkCoderModel", "writeDictionary", "()V"⟩, 23), (⟨"InkCoderModel", "readDictionary", "()I"⟩, 23), (⟨"InkCoderModel", "readHeight", "(III)I"⟩, 23), (⟨"InkCoderModel", "writeText", "()V"⟩, 23), (⟨"InkCoderModel", "before", "(I)I"⟩, 23), (⟨"InkCoderModel", "codeIndex", "(I)I"⟩, 23)]
theorem lw_r3 : ∀ q ∈ lw_privs_3, lw_okq q := List.forall_mem_cons.mpr ⟨lw_p32, List.forall_mem_cons.mpr ⟨lw_p33, List.forall_mem_cons.mpr ⟨lw_p34, List.forall_mem_cons.mpr ⟨lw_p35, List.forall_mem_cons.mpr ⟨lw_p36, List.forall_mem_cons.mpr ⟨lw_p37, List.forall_mem_cons.mpr ⟨lw_p38, List.forall_mem_cons.mpr ⟨lw_p39, List.forall_mem_cons.mpr ⟨lw_p40, List.forall_mem_cons.mpr ⟨lw_p41, List.forall_mem_cons.mpr ⟨lw_p42, List.forall_mem_cons.mpr ⟨lw_p43, List.forall_mem_cons.mpr ⟨lw_p44, List.forall_mem_cons.mpr ⟨lw_p45, List.forall_mem_cons.mpr ⟨lw_p46, List.forall_mem_cons.mpr ⟨lw_p47, fun _ h => absurd h List.not_mem_nil⟩⟩⟩⟩⟩⟩⟩⟩⟩⟩⟩⟩⟩⟩⟩⟩
theorem lw_p48 : lw_okq (⟨"InkCoderModel", "behind", "(I)I"⟩, 23) := ⟨⟨by decide +kernel, by decide +kernel⟩, List.mem_of_getElem? (i := 715) (by decide +kernel), List.mem_of_getElem? (i := 1071) (by decide +kernel), List.mem_of_getElem? (i := 1072) (by decide +kernel)⟩
theorem lw_p49 : lw_okq (⟨"InkCoderModel", "readText", "()Z"⟩, 23) := ⟨⟨by decide +kernel, by decide +kernel⟩, List.mem_of_getElem? (i := 715) (by decide +kernel), List.mem_of_getElem? (i := 1075) (by decide +kernel), List.mem_of_getElem? (i := 1076) (by decide +kernel)⟩
theorem lw_p50 : lw_okq (⟨"InkCoderModel", "readRow", "(III)Z"⟩, 23) := ⟨⟨by decide +kernel, by decide +kernel⟩, List.mem_of_getElem? (i := 715) (by decide +kernel), List.mem_of_getElem? (i := 1079) (by decide +kernel), List.mem_of_getElem? (i := 1080) (by decide +kernel)⟩
theorem lw_p51 : lw_okq (⟨"InkCoderModel", "drawMarks", "(II)V"⟩, 23) := ⟨⟨by decide +kernel, by decide +kernel⟩, List.mem_of_getElem? (i := 715) (by decide +kernel), List.mem_of_getElem? (i := 1083) (by decide +kernel), List.mem_of_getElem? (i := 1084) (by decide +kernel)⟩
def lw_privs_4 : List (MethodName × Nat) := [(⟨"InkCoderModel", "behind", "(I)I"⟩, 23), (⟨"InkCoderModel", "readText", "()Z"⟩, 23), (⟨"InkCoderModel", "readRow", "(III)Z"⟩, 23), (⟨"InkCoderModel", "drawMarks", "(II)V"⟩, 23)]
theorem lw_r4 : ∀ q ∈ lw_privs_4, lw_okq q := List.forall_mem_cons.mpr ⟨lw_p48, List.forall_mem_cons.mpr ⟨lw_p49, List.forall_mem_cons.mpr ⟨lw_p50, List.forall_mem_cons.mpr ⟨lw_p51, fun _ h => absurd h List.not_mem_nil⟩⟩⟩⟩
def lw_privs : List (MethodName × Nat) := lw_privs_1 ++ (lw_privs_2 ++ (lw_privs_3 ++ (lw_privs_4)))
def lw_tbl : List Cond := k2_sels lw_privs ++ tables_1
theorem lw_privs_ok : ∀ q ∈ lw_privs, lw_okq q := by
  show ∀ q ∈ lw_privs_1 ++ (lw_privs_2 ++ (lw_privs_3 ++ (lw_privs_4))), lw_okq q
  exact List.forall_mem_append.mpr ⟨lw_r1, List.forall_mem_append.mpr ⟨lw_r2, List.forall_mem_append.mpr ⟨lw_r3, lw_r4⟩⟩⟩
end
section
/-! names, by program out of the Statement: words that stay good, tables of fields, the objects by number, the methods -/
def jTW : List Cond := lw_tbl.filter goodWord
def jnst : Cond → Bool
  | .fieldLinkNest .. => true
  | .methodLinkNest .. => true
  | .declares _ => true
  | .castable .. => true
  | _ => false
def jNW : List Cond := lw_tbl.filter jnst
theorem jin {w : Cond} (i : Nat) (h : lw_tbl[i]? = some w) (hg : goodWord w = true) : w ∈ jTW := List.mem_filter.mpr ⟨List.mem_of_getElem? h, hg⟩
theorem jinN {w : Cond} (i : Nat) (h : lw_tbl[i]? = some w) (hg : jnst w = true) : w ∈ jNW := List.mem_filter.mpr ⟨List.mem_of_getElem? h, hg⟩
theorem jTW_good : ∀ w ∈ jTW, (w.onTables && w.keeps) = true ∨ ∃ ty, w = .arrayClass ty := fun w h => good_of_word (List.mem_filter.mp h).2
theorem jNW_on {w : Cond} (h : w ∈ jNW) : w.onTables = true := by
  have h2 := (List.mem_filter.mp h).2
  cases w <;> first | rfl | (simp [jnst] at h2)
theorem jNW_warm {s U : State} (hW : s.WarmedH U.vm) {w : Cond} (h : w ∈ jNW) (hb : w.before #[] s = true) : w.before #[] U = true := by
  have h2 := (List.mem_filter.mp h).2
  cases w <;> first | (simp [jnst] at h2; done) | exact va_Nw.warmF hW hb | exact va_Nw.warmM hW hb | exact va_Nw.warmD hW hb | exact va_Nw.warmC hW hb
def jTIC : u_T := fun k => match k with
  | 0 => ("InkCoder", "boards", "[LInkCoder$Picture;", true)
  | 1 => ("InkCoder", "symbols", "LInkCoder$SymbolRow;", true)
  | 2 => ("InkCoder", "marks", "LInkCoder$MarkRow;", true)
  | 3 => ("InkCoder", "bytes", "LInkCoder$ByteRow;", true)
  | 4 => ("InkCoder", "contexts", "LInkCoder$Contexts;", true)
  | 5 => ("InkCoder", "writer", "LInkCoder$Writer;", true)
  | 6 => ("InkCoder", "reader", "LInkCoder$Reader;", true)
  | _ => ("InkCoder", "mode", "I", false)
def jtIC : Nat → FieldType := fun k => match k with
  | 0 => .array (.object "InkCoder$Picture")
  | 1 => .object "InkCoder$SymbolRow"
  | 2 => .object "InkCoder$MarkRow"
  | 3 => .object "InkCoder$ByteRow"
  | 4 => .object "InkCoder$Contexts"
  | 5 => .object "InkCoder$Writer"
  | 6 => .object "InkCoder$Reader"
  | _ => .int
theorem jnIC : ∀ a, a < 8 → ∀ b, b < 8 → a ≠ b → (jTIC a).2.1 ≠ (jTIC b).2.1 := by decide +kernel
theorem jpIC : ∀ k, k < 8 → parseFieldDescriptor (jTIC k).2.2.1 = some (jtIC k) := by decide +kernel
theorem juIC : ∀ w ∈ u_ws "InkCoder" jTIC 8, w ∈ jTW := by decide +kernel
def jTPI : u_T := fun k => match k with
  | 0 => ("InkCoder$Picture", "rows", "[I", true)
  | 1 => ("InkCoder$Picture", "w", "I", false)
  | _ => ("InkCoder$Picture", "h", "I", false)
def jtPI : Nat → FieldType := fun k => match k with
  | 0 => .array .int
  | 1 => .int
  | _ => .int
theorem jnPI : ∀ a, a < 3 → ∀ b, b < 3 → a ≠ b → (jTPI a).2.1 ≠ (jTPI b).2.1 := by decide +kernel
theorem jpPI : ∀ k, k < 3 → parseFieldDescriptor (jTPI k).2.2.1 = some (jtPI k) := by decide +kernel
theorem juPI : ∀ w ∈ u_ws "InkCoder$Picture" jTPI 3, w ∈ jTW := by decide +kernel
def jTSR : u_T := fun k => match k with
  | 0 => ("InkCoder$SymbolRow", "pictures", "[LInkCoder$Picture;", true)
  | _ => ("InkCoder$SymbolRow", "count", "I", false)
def jtSR : Nat → FieldType := fun k => match k with
  | 0 => .array (.object "InkCoder$Picture")
  | _ => .int
theorem jnSR : ∀ a, a < 2 → ∀ b, b < 2 → a ≠ b → (jTSR a).2.1 ≠ (jTSR b).2.1 := by decide +kernel
theorem jpSR : ∀ k, k < 2 → parseFieldDescriptor (jTSR k).2.2.1 = some (jtSR k) := by decide +kernel
theorem juSR : ∀ w ∈ u_ws "InkCoder$SymbolRow" jTSR 2, w ∈ jTW := by decide +kernel
def jTMR : u_T := fun k => match k with
  | 0 => ("InkCoder$MarkRow", "symbols", "[I", true)
  | 1 => ("InkCoder$MarkRow", "s", "[I", true)
  | 2 => ("InkCoder$MarkRow", "t", "[I", true)
  | _ => ("InkCoder$MarkRow", "count", "I", false)
def jtMR : Nat → FieldType := fun k => match k with
  | 0 => .array .int
  | 1 => .array .int
  | 2 => .array .int
  | _ => .int
theorem jnMR : ∀ a, a < 4 → ∀ b, b < 4 → a ≠ b → (jTMR a).2.1 ≠ (jTMR b).2.1 := by decide +kernel
theorem jpMR : ∀ k, k < 4 → parseFieldDescriptor (jTMR k).2.2.1 = some (jtMR k) := by decide +kernel
theorem juMR : ∀ w ∈ u_ws "InkCoder$MarkRow" jTMR 4, w ∈ jTW := by decide +kernel
def jTBR : u_T := fun k => match k with
  | 0 => ("InkCoder$ByteRow", "values", "[I", true)
  | _ => ("InkCoder$ByteRow", "count", "I", false)
def jtBR : Nat → FieldType := fun k => match k with
  | 0 => .array .int
  | _ => .int
theorem jnBR : ∀ a, a < 2 → ∀ b, b < 2 → a ≠ b → (jTBR a).2.1 ≠ (jTBR b).2.1 := by decide +kernel
theorem jpBR : ∀ k, k < 2 → parseFieldDescriptor (jTBR k).2.2.1 = some (jtBR k) := by decide +kernel
theorem juBR : ∀ w ∈ u_ws "InkCoder$ByteRow" jTBR 2, w ∈ jTW := by decide +kernel
def jTCX : u_T := fun k => match k with
  | _ => ("InkCoder$Contexts", "learned", "[I", true)
def jtCX : Nat → FieldType := fun k => match k with
  | _ => .array .int
theorem jnCX : ∀ a, a < 1 → ∀ b, b < 1 → a ≠ b → (jTCX a).2.1 ≠ (jTCX b).2.1 := by decide +kernel
theorem jpCX : ∀ k, k < 1 → parseFieldDescriptor (jTCX k).2.2.1 = some (jtCX k) := by decide +kernel
theorem juCX : ∀ w ∈ u_ws "InkCoder$Contexts" jTCX 1, w ∈ jTW := by decide +kernel
def jTWR : u_T := fun k => match k with
  | 0 => ("InkCoder$Coder", "contexts", "LInkCoder$Contexts;", true)
  | 1 => ("InkCoder$Coder", "bytes", "LInkCoder$ByteRow;", true)
  | 2 => ("InkCoder$Coder", "a", "I", false)
  | 3 => ("InkCoder$Coder", "c", "I", false)
  | 4 => ("InkCoder$Coder", "n", "I", false)
  | 5 => ("InkCoder$Writer", "last", "I", false)
  | _ => ("InkCoder$Writer", "lastIsKept", "Z", false)
def jtWR : Nat → FieldType := fun k => match k with
  | 0 => .object "InkCoder$Contexts"
  | 1 => .object "InkCoder$ByteRow"
  | 2 => .int
  | 3 => .int
  | 4 => .int
  | 5 => .int
  | _ => .boolean
theorem jnWR : ∀ a, a < 7 → ∀ b, b < 7 → a ≠ b → (jTWR a).2.1 ≠ (jTWR b).2.1 := by decide +kernel
theorem jpWR : ∀ k, k < 7 → parseFieldDescriptor (jTWR k).2.2.1 = some (jtWR k) := by decide +kernel
theorem juWR : ∀ w ∈ u_ws "InkCoder$Writer" jTWR 7, w ∈ jTW := by decide +kernel
def jTRD : u_T := fun k => match k with
  | 0 => ("InkCoder$Coder", "contexts", "LInkCoder$Contexts;", true)
  | 1 => ("InkCoder$Coder", "bytes", "LInkCoder$ByteRow;", true)
  | 2 => ("InkCoder$Coder", "a", "I", false)
  | 3 => ("InkCoder$Coder", "c", "I", false)
  | 4 => ("InkCoder$Coder", "n", "I", false)
  | _ => ("InkCoder$Reader", "place", "I", false)
def jtRD : Nat → FieldType := fun k => match k with
  | 0 => .object "InkCoder$Contexts"
  | 1 => .object "InkCoder$ByteRow"
  | 2 => .int
  | 3 => .int
  | 4 => .int
  | _ => .int
theorem jnRD : ∀ a, a < 6 → ∀ b, b < 6 → a ≠ b → (jTRD a).2.1 ≠ (jTRD b).2.1 := by decide +kernel
theorem jpRD : ∀ k, k < 6 → parseFieldDescriptor (jTRD k).2.2.1 = some (jtRD k) := by decide +kernel
theorem juRD : ∀ w ∈ u_ws "InkCoder$Reader" jTRD 6, w ∈ jTW := by decide +kernel
def jTMO : u_T := fun k => match k with
  | 0 => ("InkCoderModel", "thrown", "I", false)
  | 1 => ("InkCoderModel", "rows", "[I", true)
  | 2 => ("InkCoderModel", "wide", "[I", true)
  | 3 => ("InkCoderModel", "high", "[I", true)
  | 4 => ("InkCoderModel", "symbols", "I", false)
  | 5 => ("InkCoderModel", "marks", "I", false)
  | 6 => ("InkCoderModel", "markSymbol", "[I", true)
  | 7 => ("InkCoderModel", "markS", "[I", true)
  | 8 => ("InkCoderModel", "markT", "[I", true)
  | 9 => ("InkCoderModel", "bytes", "I", false)
  | 10 => ("InkCoderModel", "code", "[I", true)
  | 11 => ("InkCoderModel", "state", "I", false)
  | 12 => ("InkCoderModel", "a", "I", false)
  | 13 => ("InkCoderModel", "c", "I", false)
  | 14 => ("InkCoderModel", "n", "I", false)
  | 15 => ("InkCoderModel", "last", "I", false)
  | 16 => ("InkCoderModel", "lastAt", "I", false)
  | 17 => ("InkCoderModel", "place", "I", false)
  | 18 => ("InkCoderModel", "learnt", "[I", true)
  | 19 => ("InkCoderModel", "\x72", "I", false)
  | 20 => ("InkCoderModel", "none", "Z", false)
  | 21 => ("InkCoderModel", "corner", "I", false)
  | _ => ("InkCoderModel", "turned", "Z", false)
def jtMO : Nat → FieldType := fun k => match k with
  | 0 => .int
  | 1 => .array .int
  | 2 => .array .int
  | 3 => .array .int
  | 4 => .int
  | 5 => .int
  | 6 => .array .int
  | 7 => .array .int
  | 8 => .array .int
  | 9 => .int
  | 10 => .array .int
  | 11 => .int
  | 12 => .int
  | 13 => .int
  | 14 => .int
  | 15 => .int
  | 16 => .int
  | 17 => .int
  | 18 => .array .int
  | 19 => .int
  | 20 => .boolean
  | 21 => .int
  | _ => .boolean
theorem jnMO : ∀ a, a < 23 → ∀ b, b < 23 → a ≠ b → (jTMO a).2.1 ≠ (jTMO b).2.1 := by decide +kernel
theorem jpMO : ∀ k, k < 23 → parseFieldDescriptor (jTMO k).2.2.1 = some (jtMO k) := by decide +kernel
theorem juMO : ∀ w ∈ u_ws "InkCoderModel" jTMO 23, w ∈ jTW := by decide +kernel
abbrev jCl : List vw_C := [("InkCoder", jTIC, 8), ("InkCoder$Picture", jTPI, 3), ("InkCoder$SymbolRow", jTSR, 2), ("InkCoder$MarkRow", jTMR, 4), ("InkCoder$ByteRow", jTBR, 2), ("InkCoder$Contexts", jTCX, 1), ("InkCoder$Writer", jTWR, 7), ("InkCoder$Reader", jTRD, 6), ("InkCoderModel", jTMO, 23)]
/-- the objects: 0 the coder, 1 its boards, 2 the symbols, 3 their pictures, 4..7 the marks, 8, 9 the bytes, 10, 11 the contexts, 12 the writer, 13 the reader, 14 + 2 p, 15 + 2 p the pictures (p < 12), 38..46 the reference, 47 the long array of the law -/
def jN : Nat := 48
def jScr : Nat := 60
abbrev jShp : Type := (Nat × List (Option Nat)) ⊕ (Nat ⊕ (List Nat ⊕ Unit))
def jshp (o : Nat) : jShp := if 14 ≤ o ∧ o < 38 then (if o % 2 = 0 then .inl (1, [some (o + 1), none, none]) else .inr (.inl 24)) else match o with
  | 0 => .inl (0, [some 1, some 2, some 4, some 8, some 10, some 12, some 13, none])
  | 1 => .inr (.inr (.inl [14, 16, 18, 20]))
  | 2 => .inl (2, [some 3, none])
  | 3 => .inr (.inr (.inl [22, 24, 26, 28, 30, 32, 34, 36]))
  | 4 => .inl (3, [some 5, some 6, some 7, none])
  | 5 => .inr (.inl 12)
  | 6 => .inr (.inl 12)
  | 7 => .inr (.inl 12)
  | 8 => .inl (4, [some 9, none])
  | 9 => .inr (.inl 600)
  | 10 => .inl (5, [some 11])
  | 11 => .inr (.inl 15884)
  | 12 => .inl (6, [some 10, some 8, none, none, none, none, none])
  | 13 => .inl (7, [some 10, some 8, none, none, none, none])
  | 38 => .inl (8, [none, some 39, some 40, some 41, none, none, some 42, some 43, some 44, none, some 45, none, none, none, none, none, none, none, some 46, none, none, none, none])
  | 39 => .inr (.inl 288)
  | 40 => .inr (.inl 12)
  | 41 => .inr (.inl 12)
  | 42 => .inr (.inl 12)
  | 43 => .inr (.inl 12)
  | 44 => .inr (.inl 12)
  | 45 => .inr (.inl 600)
  | 46 => .inr (.inl 15883)
  | _ => .inr (.inr (.inr ()))
theorem jshp_pic {p : Nat} (h : p < 12) : jshp (14 + 2 * p) = .inl (1, [some (15 + 2 * p), none, none]) := by
  unfold jshp
  rw [if_pos ⟨by omega, by omega⟩, if_pos (by omega), show 14 + 2 * p + 1 = 15 + 2 * p by omega]
theorem jshp_row {p : Nat} (h : p < 12) : jshp (15 + 2 * p) = .inr (.inl 24) := by
  unfold jshp
  rw [if_pos ⟨by omega, by omega⟩, if_neg (by omega)]
abbrev jS_SIZES : String × String × Nat × List Int32 := ("InkCoder$Contexts", "SIZES", 50, [22017, 13313, 6145, 2753, 1313, 545, 22017, 21505, 18433, 14337, 12289, 9217, 7169, 5633, 22017, 21505, 20737, 18433, 14337, 13313, 12289, 10241, 9217, 8705, 7169, 6145, 5633, 5121, 4609, 4353, 2753, 2497, 2209, 1313, 1089, 673, 545, 321, 273, 133, 73, 37, 21, 9, 5, 1, 22017])
abbrev jS_NEXT : String × String × Nat × List Int32 := ("InkCoder$Contexts", "NEXT", 51, [1, 2, 3, 4, 5, 38, 7, 8, 9, 10, 11, 12, 13, 29, 15, 16, 17, 18, 19, 20, 21, 22, 23, 24, 25, 26, 27, 28, 29, 30, 31, 32, 33, 34, 35, 36, 37, 38, 39, 40, 41, 42, 43, 44, 45, 45, 46])
abbrev jS_LESS : String × String × Nat × List Int32 := ("InkCoder$Contexts", "LESS", 52, [1, 6, 9, 12, 29, 33, 6, 14, 14, 14, 17, 18, 20, 21, 14, 14, 15, 16, 17, 18, 19, 19, 20, 21, 22, 23, 24, 25, 26, 27, 28, 29, 30, 31, 32, 33, 34, 35, 36, 37, 38, 39, 40, 41, 42, 43, 46])
abbrev jS_STARTS : String × String × Nat × List Int32 := ("InkCoder$Numbers", "STARTS", 53, [0, 4, 20, 84, 340, 4436])
abbrev jS_BITS : String × String × Nat × List Int32 := ("InkCoder$Numbers", "BITS", 54, [2, 4, 6, 8, 12, 32])
def jSt : List (String × String × Nat × List Int32) := [jS_SIZES, jS_NEXT, jS_LESS, jS_STARTS, jS_BITS]
def jX (x : Nat) : String := match x with
  | 0 => "java/lang/IndexOutOfBoundsException"
  | 1 => "java/lang/IllegalArgumentException"
  | 2 => "java/lang/IllegalStateException"
  | _ => "java/lang/UnsupportedOperationException"
def jr (d k n : Nat) : Room := { frames := d, cells := k, slots := n, locals := 40 * d }
end
section
/-! the judgement: a machine at a frame, its heap read as a memory of ints (jMem) over objects that are known by number -/
abbrev jM : Type := String × MethodName × ByteArray × Nat × Option FieldType × List (Nat × Nat × Nat × Nat)
abbrev jMem : Type := Nat → Nat → Int32
abbrev jO : Type := Option Value ⊕ Nat
abbrev jG : Type := Launch × va_G × (Nat → Nat) × ClassId × ClassId × ClassId × (Nat → Int32) × Nat × Nat
abbrev jG.l (G : jG) : Launch := G.1
abbrev jG.D (G : jG) : va_G := G.2.1
abbrev jG.ad (G : jG) : Nat → Nat := G.2.2.1
abbrev jG.tI (G : jG) : ClassId := G.2.2.2.1
abbrev jG.tP (G : jG) : ClassId := G.2.2.2.2.1
abbrev jG.tL (G : jG) : ClassId := G.2.2.2.2.2.1
abbrev jG.xs (G : jG) : Nat → Int32 := G.2.2.2.2.2.2.1
abbrev jG.L (G : jG) : Nat := G.2.2.2.2.2.2.2.1
abbrev jM.own (M : jM) : String := M.1
abbrev jM.y (M : jM) : MethodName := M.2.1
abbrev jM.cc (M : jM) : ByteArray := M.2.2.1
abbrev jM.nL (M : jM) : Nat := M.2.2.2.1
abbrev jM.ret (M : jM) : Option FieldType := M.2.2.2.2.1
abbrev jM.hs (M : jM) : List (Nat × Nat × Nat × Nat) := M.2.2.2.2.2
def jcv (ad : Nat → Nat) (v : Value) : Value := match v with
  | .ref o => .ref (ad o)
  | v => v
theorem jcv_cat (ad : Nat → Nat) (v : Value) : (jcv ad v).category = v.category := by cases v <;> rfl
def jjoin (a b : Int32) : Int64 := (b.toInt64 <<< 32) ||| (a.toInt64 &&& 4294967295)
def jfld (ad : Nat → Nat) (f : Nat → Int32) (q : Option Nat × Nat) : Value := match q.1 with
  | none => .int (f q.2)
  | some r => .ref (ad r)
def jcell (G : jG) (σ : jMem) (o : Nat) : va_E := match jshp o with
  | .inl (ci, fs) => .inr (ci, fs.zipIdx.map (jfld G.ad (σ o)))
  | .inr (.inl n) => .inl (G.tI, n, .inl (σ o))
  | .inr (.inr (.inl rs)) => .inl (G.tP, rs.length, .inr (.inr (.inr (.inr fun i => (rs[i]?).map G.ad))))
  | .inr (.inr (.inr _)) => .inl (G.tL, 1, .inr (.inl fun i => jjoin (σ o (2 * i)) (σ o (2 * i + 1))))
def jwd (G : jG) (σ : jMem) : va_W := (List.range jN).map fun o => (G.ad o, jcell G σ o)
def ju (σ : jMem) (o k : Nat) (v : Int32) : jMem := fun a => if a = o then upd (σ o) k v else σ a
theorem jwd_get {G : jG} {σ : jMem} {o : Nat} (h : o < jN) : (jwd G σ)[o]? = some (G.ad o, jcell G σ o) := by
  simp [jwd, h]
theorem jwd_set {G : jG} {σ τ : jMem} {o : Nat} {e : va_E} (h : o < jN) (he : jcell G τ o = e) (ho : ∀ a, a ≠ o → jcell G τ a = jcell G σ a) : (jwd G σ).set o (G.ad o, e) = jwd G τ := by
  apply List.ext_getElem?
  intro i
  by_cases hi : i = o
  · subst hi
    rw [jwd_get h, he, List.getElem?_set_self (by simp [jwd]; exact h)]
  · rw [List.getElem?_set_ne (fun q => hi q.symm)]
    by_cases hl : i < jN
    · rw [jwd_get hl, jwd_get hl, ho i hi]
    · rw [List.getElem?_eq_none (by simp [jwd]; omega), List.getElem?_eq_none (by simp [jwd]; omega)]
theorem ju_o {σ : jMem} {o k : Nat} {v : Int32} : ju σ o k v o = upd (σ o) k v := if_pos rfl
theorem ju_n {σ : jMem} {o k a : Nat} {v : Int32} (h : a ≠ o) : ju σ o k v a = σ a := if_neg h
theorem jcell_n {G : jG} {σ : jMem} {o k a : Nat} {v : Int32} (h : a ≠ o) : jcell G (ju σ o k v) a = jcell G σ a := by
  unfold jcell
  rw [ju_n h]
theorem jcell_i {G : jG} {σ : jMem} {o n : Nat} (h : jshp o = .inr (.inl n)) : jcell G σ o = .inl (G.tI, n, .inl (σ o)) := by
  unfold jcell; rw [h]
theorem jcell_f {G : jG} {σ : jMem} {o ci : Nat} {fs : List (Option Nat)} (h : jshp o = .inl (ci, fs)) : jcell G σ o = .inr (ci, fs.zipIdx.map (jfld G.ad (σ o))) := by
  unfold jcell; rw [h]
theorem jcell_p {G : jG} {σ : jMem} {o : Nat} {rs : List Nat} (h : jshp o = .inr (.inr (.inl rs))) : jcell G σ o = .inl (G.tP, rs.length, .inr (.inr (.inr (.inr fun i => (rs[i]?).map G.ad)))) := by
  unfold jcell; rw [h]
theorem jcell_l {G : jG} {σ : jMem} {o : Nat} {u : Unit} (h : jshp o = .inr (.inr (.inr u))) : jcell G σ o = .inl (G.tL, 1, .inr (.inl fun i => jjoin (σ o (2 * i)) (σ o (2 * i + 1)))) := by
  unfold jcell; rw [h]
/-- a field of ints is written -/
theorem jwd_put {G : jG} {σ : jMem} {o ci k : Nat} {fs : List (Option Nat)} {v : Int32} (ho : o < jN) (h : jshp o = .inl (ci, fs)) (hk : fs[k]? = some none) : (jwd G σ).set o (G.ad o, .inr (ci, (fs.zipIdx.map (jfld G.ad (σ o))).set k (.int v))) = jwd G (ju σ o k v) := by
  refine jwd_set ho ?_ (fun a ha => jcell_n ha)
  rw [jcell_f h, ju_o]
  congr 2
  apply List.ext_getElem?
  intro i
  by_cases hi : i = k
  · subst hi
    have hl : i < fs.length := (List.getElem?_eq_some_iff.mp hk).1
    have hz : fs.zipIdx[i]? = some (none, i) := by rw [List.getElem?_zipIdx, hk]; simp
    rw [List.getElem?_set_self (by simp; exact hl), List.getElem?_map, hz]
    simp [jfld, upd]
  · rw [List.getElem?_set_ne (fun q => hi q.symm), List.getElem?_map, List.getElem?_map]
    cases hz : fs.zipIdx[i]? with
    | none => rfl
    | some q =>
      have hq : q.2 = i := by
        rw [List.getElem?_zipIdx] at hz
        cases hf : fs[i]? with
        | none => rw [hf] at hz; cases hz
        | some z => rw [hf] at hz; simp at hz; rw [← hz]
      obtain ⟨q1, q2⟩ := q
      cases q1 with
      | none => simp [jfld, upd]; intro hh; exact absurd (hq.symm.trans hh) hi
      | some r => simp [jfld]
theorem jwd_ast {G : jG} {σ : jMem} {o n k : Nat} {v : Int32} (ho : o < jN) (h : jshp o = .inr (.inl n)) : (jwd G σ).set o (G.ad o, .inl (G.tI, n, .inl (upd (σ o) k v))) = jwd G (ju σ o k v) := by
  refine jwd_set ho ?_ (fun a ha => jcell_n ha)
  rw [jcell_i h, ju_o]
end
section
/-! what holds beside the world: constant arrays of the classes, the script -/
abbrev jty (G : jG) : List (ClassId × FieldType) := [(G.tI, .int), (G.tP, .object "InkCoder$Picture"), (G.tL, .long)]
def jT (G : jG) (A : Nat → Prop) (U : State) : Prop :=
  (∀ q ∈ jSt, va_Z q.1 q.2.1 "[I" (.ref (G.ad q.2.2.1)) A U U.heap ∧ va_T .int (G.ad q.2.2.1) q.2.2.2.length (fun j => .int (q.2.2.2.getD j 0)) A U U.heap) ∧ va_X (G.ad jScr) G.L G.xs U U.heap ∧ ¬ A (G.ad jScr) ∧ ∀ w ∈ jNW, w.before #[] U = true
theorem va_X.lt9 {b L : Nat} {xs : Nat → Int32} {U : State} {H : Heap} (h : va_X b L xs U H) : b < H.size := by
  obtain ⟨scr, h1, -⟩ := h
  exact (Array.getElem?_eq_some_iff.mp h1).1
theorem jT.move {G : jG} {A B : Nat → Prop} {s U : State} (h : jT G A s) (hW : s.WarmedH U.vm) (hq : ∀ a : Nat, a < s.heap.size → ¬ A a → U.heap[a]? = s.heap[a]?) (hAB : ∀ q, B q → A q) : jT G B U := by
  obtain ⟨h1, h2, h3, h4⟩ := h
  have hvm := hW.alike
  exact ⟨fun q hm => ⟨(((h1 q hm).1.moved hvm).kept hq).narrow hAB, (((h1 q hm).2.moved hvm).kept hq).narrow hAB⟩, (h2.moved hvm).kept (hq _ h2.lt9 h3), fun z => h3 (hAB _ z), fun w hw => jNW_warm hW hw (h4 w hw)⟩
/-- what is known inside a method -/
def jF (G : jG) (M : jM) (p : Program) (s : State) (m : MethodId) (args : Array Value) (meth : Method) (c : Code) (A : Nat → Prop) : Prop :=
  p.tables.exec = Jvm.exec ∧ c.code = M.cc ∧ c.maxLocals = M.nL ∧ meth.sig.returnType = M.ret ∧ s.vm.findClass M.own = some m.cls ∧ (∀ w ∈ jTW, w.before args s = true) ∧ meth.locks = false ∧ va_K G.D jCl (jty G) s ∧ (∀ q, s.heap.size ≤ q → A q) ∧ jT G A s ∧ c.exceptionTable.toList.map (fun h => (h.startPc, h.endPc, h.handlerPc, h.catchType)) = M.hs
def jEnd (first : State) (t : State) (L : List Loc) (k n : Nat) : Prop := first.WarmedH t.vm ∧ first.sameButNew ({ t with vm := first.vm } : State) L k n
def jMQ (below : List Frame) (Qc : State → Outcome → State → Prop) (s : State) (mc ms : Nat) (free : Addr → Prop) : State → Prop := fun t =>
  ∃ o, t.status = .running ∧ Ended t below o ∧ Qc s o t ∧ ∃ L, jEnd s t L mc ms ∧ ∀ q ∈ L, free q.base
def jOut (G : jG) (o : jO) (oc : Outcome) (t : State) : Prop := match o with
  | .inl v => oc = .returned (v.map (jcv G.ad))
  | .inr x => ∃ (a : Nat) (cell : Cell), oc = .threw a ∧ t.heap[a]? = some cell ∧ cell.vm.isStatics = false ∧ t.vm.findClass (jX x) = some cell.cls
def jB (G : jG) (σ : jMem) (A : Nat → Prop) (t : State) : Prop := va_P G.D jCl (jwd G σ) t.heap ∧ va_K G.D jCl (jty G) t ∧ va_D A (jwd G σ)
def jQ (G : jG) (A : Nat → Prop) (Q : jO → jMem → Prop) : State → Outcome → State → Prop := fun st oc t => (∃ (o : jO) (σ : jMem), Q o σ ∧ jOut G o oc t ∧ jB G σ A t) ∧ va_F A st t
abbrev jls (ad : Nat → Nat) (ls : List (Nat × Value)) : List (Nat × Value) := ls.map fun q => (q.1, jcv ad q.2)
/-- THE JUDGEMENT: method M at pc, locals ls, stack st, memory σ, with k cells and n slots made: it comes to its end, and Q -/
def jV (G : jG) (M : jM) (R : Room) (Q : jO → jMem → Prop) (k n pc : Nat) (ls : List (Nat × Value)) (st : List Value) (σ : jMem) : Prop :=
  ∀ (p : Program) (e : Env) (s : State) (m : MethodId) (args : Array Value) (below : List Frame) (meth : Method) (c : Code) (A : Nat → Prop) (H : Heap) (locs : List Loc) (L : Array Slot),
    jF G M p s m args meth c A → va_P G.D jCl (jwd G σ) H → va_D A (jwd G σ) → va_S A s.heap H locs → lv_has L M.nL (jls G.ad ls) →
    W p G.l e R s m args below meth c H locs k n (jMQ below (jQ G A Q) s R.cells R.slots A) (F0 m pc L (st.map (jcv G.ad)))
theorem W.imp9 {p : Program} {l : Launch} {e : Env} {R : Room} {s : State} {m : MethodId} {args : Array Value} {below : List Frame} {meth : Method} {c : Code} {H : Heap} {locs : List Loc} {cells slots : Nat} {Q Q' : State → Prop} {g : JFrame} (h : W p l e R s m args below meth c H locs cells slots Q g) (hq : ∀ t, Q t → Q' t) : W p l e R s m args below meth c H locs cells slots Q' g := by
  intro T hT X
  obtain ⟨t, a, b⟩ := h T hT X
  exact ⟨t, a, hq t b⟩
theorem lv_has.mono9 {ls : Array Slot} {nL : Nat} {l l' : List (Nat × Value)} (h : lv_has ls nL l) (hs : ∀ q ∈ l', q ∈ l) : lv_has ls nL l' := ⟨h.1, h.2.1, fun q hq => h.2.2 q (hs q hq)⟩
theorem jls_at {ad : Nat → Nat} {ls : List (Nat × Value)} {k i : Nat} {v : Value} (h : ls[k]? = some (i, v)) : (jls ad ls)[k]? = some (i, jcv ad v) := by
  rw [List.getElem?_map, h]; rfl
/-- the locals behind a store -/
theorem jls_sto {ad : Nat → Nat} {ls ls' : List (Nat × Value)} {i : Nat} {v : Value} (h : ∀ q ∈ ls', q = (i, v) ∨ (q ∈ ls ∧ (!(q.1 == i) && !(q.1 + 1 == i && q.2.category == 2)) = true)) :
    ∀ q ∈ jls ad ls', q ∈ (i, jcv ad v) :: (jls ad ls).filter (fun q => !(q.1 == i) && !(q.1 + 1 == i && q.2.category == 2)) := by
  intro q hq
  obtain ⟨z, hz, rfl⟩ := List.mem_map.mp hq
  rcases h z hz with rfl | ⟨h1, h2⟩
  · exact List.mem_cons_self
  · refine List.mem_cons_of_mem _ (List.mem_filter.mpr ⟨List.mem_map.mpr ⟨z, h1, rfl⟩, ?_⟩)
    show (!(z.1 == i) && !(z.1 + 1 == i && (jcv ad z.2).category == 2)) = true
    rw [jcv_cat]; exact h2
section JR
variable {G : jG} {M : jM} {R : Room} {Q : jO → jMem → Prop} {k n pc : Nat} {ls : List (Nat × Value)} {st : List Value} {σ : jMem}

theorem jv_iadd {x y : Int32} (hd : decode M.cc pc = .ok (.iadd, 1)) (kk : jV G M R Q k n (pc + 1) ls (.int (x + y) :: st) σ) : jV G M R Q k n (pc) ls (.int y :: .int x :: st) σ := by
  intro p e s m args below meth c A H locs L F hP hD hS hl
  exact lv_iadd F.1 F.2.1 hd (kk p e s m args below meth c A H locs L F hP hD hS hl)
theorem jv_isub {x y : Int32} (hd : decode M.cc pc = .ok (.isub, 1)) (kk : jV G M R Q k n (pc + 1) ls (.int (x - y) :: st) σ) : jV G M R Q k n (pc) ls (.int y :: .int x :: st) σ := by
  intro p e s m args below meth c A H locs L F hP hD hS hl
  exact lv_isub F.1 F.2.1 hd (kk p e s m args below meth c A H locs L F hP hD hS hl)
theorem jv_imul {x y : Int32} (hd : decode M.cc pc = .ok (.imul, 1)) (kk : jV G M R Q k n (pc + 1) ls (.int (x * y) :: st) σ) : jV G M R Q k n (pc) ls (.int y :: .int x :: st) σ := by
  intro p e s m args below meth c A H locs L F hP hD hS hl
  exact lv_imul F.1 F.2.1 hd (kk p e s m args below meth c A H locs L F hP hD hS hl)
theorem jv_iand {x y : Int32} (hd : decode M.cc pc = .ok (.iand, 1)) (kk : jV G M R Q k n (pc + 1) ls (.int (x &&& y) :: st) σ) : jV G M R Q k n (pc) ls (.int y :: .int x :: st) σ := by
  intro p e s m args below meth c A H locs L F hP hD hS hl
  exact lv_iand F.1 F.2.1 hd (kk p e s m args below meth c A H locs L F hP hD hS hl)
theorem jv_ior {x y : Int32} (hd : decode M.cc pc = .ok (.ior, 1)) (kk : jV G M R Q k n (pc + 1) ls (.int (x ||| y) :: st) σ) : jV G M R Q k n (pc) ls (.int y :: .int x :: st) σ := by
  intro p e s m args below meth c A H locs L F hP hD hS hl
  exact lv_ior F.1 F.2.1 hd (kk p e s m args below meth c A H locs L F hP hD hS hl)
theorem jv_ixor {x y : Int32} (hd : decode M.cc pc = .ok (.ixor, 1)) (kk : jV G M R Q k n (pc + 1) ls (.int (x ^^^ y) :: st) σ) : jV G M R Q k n (pc) ls (.int y :: .int x :: st) σ := by
  intro p e s m args below meth c A H locs L F hP hD hS hl
  exact lv_ixor F.1 F.2.1 hd (kk p e s m args below meth c A H locs L F hP hD hS hl)
theorem jv_ishl {x y : Int32} (hd : decode M.cc pc = .ok (.ishl, 1)) (kk : jV G M R Q k n (pc + 1) ls (.int (x <<< (y &&& 31)) :: st) σ) : jV G M R Q k n (pc) ls (.int y :: .int x :: st) σ := by
  intro p e s m args below meth c A H locs L F hP hD hS hl
  exact lv_ishl F.1 F.2.1 hd (kk p e s m args below meth c A H locs L F hP hD hS hl)
theorem jv_ishr {x y : Int32} (hd : decode M.cc pc = .ok (.ishr, 1)) (kk : jV G M R Q k n (pc + 1) ls (.int (x >>> (y &&& 31)) :: st) σ) : jV G M R Q k n (pc) ls (.int y :: .int x :: st) σ := by
  intro p e s m args below meth c A H locs L F hP hD hS hl
  exact lv_ishr F.1 F.2.1 hd (kk p e s m args below meth c A H locs L F hP hD hS hl)
theorem jv_iushr {x y : Int32} (hd : decode M.cc pc = .ok (.iushr, 1)) (kk : jV G M R Q k n (pc + 1) ls (.int (x.toUInt32 >>> (y.toUInt32 &&& Int32.toUInt32 31)).toInt32 :: st) σ) : jV G M R Q k n (pc) ls (.int y :: .int x :: st) σ := by
  intro p e s m args below meth c A H locs L F hP hD hS hl
  exact lv_iushr F.1 F.2.1 hd rfl (kk p e s m args below meth c A H locs L F hP hD hS hl)
theorem jv_idiv {x y : Int32} (hd : decode M.cc pc = .ok (.idiv, 1)) (hy : ¬ y = 0) (kk : jV G M R Q k n (pc + 1) ls (.int (x / y) :: st) σ) : jV G M R Q k n (pc) ls (.int y :: .int x :: st) σ := by
  intro p e s m args below meth c A H locs L F hP hD hS hl
  exact lv_idiv F.1 F.2.1 hd hy (kk p e s m args below meth c A H locs L F hP hD hS hl)
theorem jv_irem {x y : Int32} (hd : decode M.cc pc = .ok (.irem, 1)) (hy : ¬ y = 0) (kk : jV G M R Q k n (pc + 1) ls (.int (x - x / y * y) :: st) σ) : jV G M R Q k n (pc) ls (.int y :: .int x :: st) σ := by
  intro p e s m args below meth c A H locs L F hP hD hS hl
  exact lv_irem F.1 F.2.1 hd hy (kk p e s m args below meth c A H locs L F hP hD hS hl)
theorem jv_ineg {x : Int32} (hd : decode M.cc pc = .ok (.ineg, 1)) (kk : jV G M R Q k n (pc + 1) ls (.int (-x) :: st) σ) : jV G M R Q k n (pc) ls (.int x :: st) σ := by
  intro p e s m args below meth c A H locs L F hP hD hS hl
  exact lv_ineg F.1 F.2.1 hd (kk p e s m args below meth c A H locs L F hP hD hS hl)
theorem jv_i2l {x : Int32} (hd : decode M.cc pc = .ok (.i2l, 1)) (kk : jV G M R Q k n (pc + 1) ls (.long x.toInt64 :: st) σ) : jV G M R Q k n (pc) ls (.int x :: st) σ := by
  intro p e s m args below meth c A H locs L F hP hD hS hl
  exact lv_i2l F.1 F.2.1 hd rfl (kk p e s m args below meth c A H locs L F hP hD hS hl)
theorem jv_l2i {x : Int64} (hd : decode M.cc pc = .ok (.l2i, 1)) (kk : jV G M R Q k n (pc + 1) ls (.int x.toInt32 :: st) σ) : jV G M R Q k n (pc) ls (.long x :: st) σ := by
  intro p e s m args below meth c A H locs L F hP hD hS hl
  exact lv_l2i F.1 F.2.1 hd rfl (kk p e s m args below meth c A H locs L F hP hD hS hl)
theorem jv_land {x y : Int64} (hd : decode M.cc pc = .ok (.land, 1)) (kk : jV G M R Q k n (pc + 1) ls (.long (x &&& y) :: st) σ) : jV G M R Q k n (pc) ls (.long y :: .long x :: st) σ := by
  intro p e s m args below meth c A H locs L F hP hD hS hl
  exact lv_land F.1 F.2.1 hd (kk p e s m args below meth c A H locs L F hP hD hS hl)
theorem jv_lshr {x : Int64} {y : Int32} (hd : decode M.cc pc = .ok (.lshr, 1)) (kk : jV G M R Q k n (pc + 1) ls (.long (x >>> (y.toInt64 &&& 63)) :: st) σ) : jV G M R Q k n (pc) ls (.int y :: .long x :: st) σ := by
  intro p e s m args below meth c A H locs L F hP hD hS hl
  exact lv_lshr F.1 F.2.1 hd rfl (kk p e s m args below meth c A H locs L F hP hD hS hl)
theorem jv_lcmp {x y : Int64} (hd : decode M.cc pc = .ok (.lcmp, 1)) (kk : jV G M R Q k n (pc + 1) ls (.int (lg_cmp x y) :: st) σ) : jV G M R Q k n (pc) ls (.long y :: .long x :: st) σ := by
  intro p e s m args below meth c A H locs L F hP hD hS hl
  exact W.lcmp F.1 F.2.1 hd (kk p e s m args below meth c A H locs L F hP hD hS hl)
theorem jv_iconst {z : Int} (v : Int32) (hd : decode M.cc pc = .ok (.iconst z, 1)) (hv : Int32.ofInt z = v) (kk : jV G M R Q k n (pc + 1) ls (.int v :: st) σ) : jV G M R Q k n (pc) ls (st) σ := by
  intro p e s m args below meth c A H locs L F hP hD hS hl
  exact lv_iconst F.1 F.2.1 hd hv (kk p e s m args below meth c A H locs L F hP hD hS hl)
theorem jv_bipush {z : Int} (v : Int32) (hd : decode M.cc pc = .ok (.bipush z, 2)) (hv : (Int8.ofInt z).toInt32 = v) (kk : jV G M R Q k n (pc + 2) ls (.int v :: st) σ) : jV G M R Q k n (pc) ls (st) σ := by
  intro p e s m args below meth c A H locs L F hP hD hS hl
  exact lv_bipush F.1 F.2.1 hd hv (kk p e s m args below meth c A H locs L F hP hD hS hl)
theorem jv_sipush {z : Int} (v : Int32) (hd : decode M.cc pc = .ok (.sipush z, 3)) (hv : (Int16.ofInt z).toInt32 = v) (kk : jV G M R Q k n (pc + 3) ls (.int v :: st) σ) : jV G M R Q k n (pc) ls (st) σ := by
  intro p e s m args below meth c A H locs L F hP hD hS hl
  exact lv_sipush F.1 F.2.1 hd hv (kk p e s m args below meth c A H locs L F hP hD hS hl)
theorem jv_lconst {z : Fin 2} (v : Int64) (hd : decode M.cc pc = .ok (.lconst z, 1)) (hv : Int64.ofNat (z : Nat) = v) (kk : jV G M R Q k n (pc + 1) ls (.long v :: st) σ) : jV G M R Q k n (pc) ls (st) σ := by
  intro p e s m args below meth c A H locs L F hP hD hS hl
  exact lv_lconst F.1 F.2.1 hd hv (kk p e s m args below meth c A H locs L F hP hD hS hl)
theorem jv_ldc {idx : Nat} (v : Int32) (hd : decode M.cc pc = .ok (.ldc idx, 2)) (hw : Cond.constant M.own idx v ∈ jTW) (kk : jV G M R Q k n (pc + 2) ls (.int v :: st) σ) : jV G M R Q k n (pc) ls (st) σ := by
  intro p e s m args below meth c A H locs L F hP hD hS hl
  exact lv_ldc F.1 F.2.1 F.2.2.2.2.1 (F.2.2.2.2.2.1 _ hw) hd (kk p e s m args below meth c A H locs L F hP hD hS hl)
theorem jv_ldc2 {idx : Nat} (v : Int64) (hd : decode M.cc pc = .ok (.ldc2_w idx, 3)) (hw : Cond.constantLong M.own idx v ∈ jTW) (kk : jV G M R Q k n (pc + 3) ls (.long v :: st) σ) : jV G M R Q k n (pc) ls (st) σ := by
  intro p e s m args below meth c A H locs L F hP hD hS hl
  exact lv_ldc2 F.1 F.2.1 F.2.2.2.2.1 (F.2.2.2.2.2.1 _ hw) hd (kk p e s m args below meth c A H locs L F hP hD hS hl)
theorem jv_iload_n {q : Fin 4} {x : Int32} (i : Nat) (hd : decode M.cc pc = .ok (.iload_n q, 1)) (h : ls[i]? = some ((q : Nat), .int x)) (kk : jV G M R Q k n (pc + 1) ls (.int x :: st) σ) : jV G M R Q k n (pc) ls (st) σ := by
  intro p e s m args below meth c A H locs L F hP hD hS hl
  exact lv_iload_n F.1 F.2.1 hd rfl (lv_at hl i (jls_at h)) (kk p e s m args below meth c A H locs L F hP hD hS hl)
theorem jv_iload {q : Nat} {x : Int32} (i : Nat) (hd : decode M.cc pc = .ok (.iload q, 2)) (h : ls[i]? = some (q, .int x)) (kk : jV G M R Q k n (pc + 2) ls (.int x :: st) σ) : jV G M R Q k n (pc) ls (st) σ := by
  intro p e s m args below meth c A H locs L F hP hD hS hl
  exact lv_iload F.1 F.2.1 hd (lv_at hl i (jls_at h)) (kk p e s m args below meth c A H locs L F hP hD hS hl)
theorem jv_aload_n {q : Fin 4} {x : Nat} (i : Nat) (hd : decode M.cc pc = .ok (.aload_n q, 1)) (h : ls[i]? = some ((q : Nat), .ref x)) (kk : jV G M R Q k n (pc + 1) ls (.ref x :: st) σ) : jV G M R Q k n (pc) ls (st) σ := by
  intro p e s m args below meth c A H locs L F hP hD hS hl
  exact lv_aload_n F.1 F.2.1 hd rfl (lv_at hl i (jls_at h)) (kk p e s m args below meth c A H locs L F hP hD hS hl)
theorem jv_aload {q : Nat} {x : Nat} (i : Nat) (hd : decode M.cc pc = .ok (.aload q, 2)) (h : ls[i]? = some (q, .ref x)) (kk : jV G M R Q k n (pc + 2) ls (.ref x :: st) σ) : jV G M R Q k n (pc) ls (st) σ := by
  intro p e s m args below meth c A H locs L F hP hD hS hl
  exact lv_aload F.1 F.2.1 hd (lv_at hl i (jls_at h)) (kk p e s m args below meth c A H locs L F hP hD hS hl)
theorem jv_istore_n {z : Fin 4} {x : Int32} {i : Nat} {ls1 : List (Nat × Value)} (hd : decode M.cc pc = .ok (.istore_n z, 1)) (hi : (z : Nat) = i) (hn : i < M.nL) (hs : ∀ q ∈ ls1, q = (i, .int x) ∨ (q ∈ ls ∧ (!(q.1 == i) && !(q.1 + 1 == i && q.2.category == 2)) = true)) (kk : jV G M R Q k n (pc + 1) ls1 (st) σ) : jV G M R Q k n (pc) ls (.int x :: st) σ := by
  intro p e s m args below meth c A H locs L F hP hD hS hl
  exact lv_istore_n F.1 F.2.1 hd hi hl hn rfl (fun L1 hl1 => kk p e s m args below meth c A H locs L1 F hP hD hS (hl1.mono9 (jls_sto hs)))
theorem jv_istore {x : Int32} {i : Nat} {ls1 : List (Nat × Value)} (hd : decode M.cc pc = .ok (.istore i, 2)) (hn : i < M.nL) (hs : ∀ q ∈ ls1, q = (i, .int x) ∨ (q ∈ ls ∧ (!(q.1 == i) && !(q.1 + 1 == i && q.2.category == 2)) = true)) (kk : jV G M R Q k n (pc + 2) ls1 (st) σ) : jV G M R Q k n (pc) ls (.int x :: st) σ := by
  intro p e s m args below meth c A H locs L F hP hD hS hl
  exact lv_istore F.1 F.2.1 hd hl hn rfl (fun L1 hl1 => kk p e s m args below meth c A H locs L1 F hP hD hS (hl1.mono9 (jls_sto hs)))
theorem jv_astore_n {z : Fin 4} {x : Nat} {i : Nat} {ls1 : List (Nat × Value)} (hd : decode M.cc pc = .ok (.astore_n z, 1)) (hi : (z : Nat) = i) (hn : i < M.nL) (hs : ∀ q ∈ ls1, q = (i, .ref x) ∨ (q ∈ ls ∧ (!(q.1 == i) && !(q.1 + 1 == i && q.2.category == 2)) = true)) (kk : jV G M R Q k n (pc + 1) ls1 (st) σ) : jV G M R Q k n (pc) ls (.ref x :: st) σ := by
  intro p e s m args below meth c A H locs L F hP hD hS hl
  exact lv_astore_n F.1 F.2.1 hd hi hl hn rfl (fun L1 hl1 => kk p e s m args below meth c A H locs L1 F hP hD hS (hl1.mono9 (jls_sto hs)))
theorem jv_astore {x : Nat} {i : Nat} {ls1 : List (Nat × Value)} (hd : decode M.cc pc = .ok (.astore i, 2)) (hn : i < M.nL) (hs : ∀ q ∈ ls1, q = (i, .ref x) ∨ (q ∈ ls ∧ (!(q.1 == i) && !(q.1 + 1 == i && q.2.category == 2)) = true)) (kk : jV G M R Q k n (pc + 2) ls1 (st) σ) : jV G M R Q k n (pc) ls (.ref x :: st) σ := by
  intro p e s m args below meth c A H locs L F hP hD hS hl
  exact lv_astore F.1 F.2.1 hd hl hn rfl (fun L1 hl1 => kk p e s m args below meth c A H locs L1 F hP hD hS (hl1.mono9 (jls_sto hs)))
theorem jv_iinc {i : Nat} {z : Int} {x : Int32} {ls1 : List (Nat × Value)} (j : Nat) (v : Int32) (hd : decode M.cc pc = .ok (.iinc i z, 3)) (h : ls[j]? = some (i, .int x)) (hv : x + Int32.ofInt z = v) (hn : i < M.nL) (hs : ∀ q ∈ ls1, q = (i, .int v) ∨ (q ∈ ls ∧ (!(q.1 == i) && !(q.1 + 1 == i && q.2.category == 2)) = true)) (kk : jV G M R Q k n (pc + 3) ls1 (st) σ) : jV G M R Q k n (pc) ls (st) σ := by
  intro p e s m args below meth c A H locs L F hP hD hS hl
  exact lv_iinc F.1 F.2.1 hd hl (jls_at h) hv hn rfl (fun L1 hl1 => kk p e s m args below meth c A H locs L1 F hP hD hS (hl1.mono9 (jls_sto hs)))
/-- a store's side condition, where the stored place is new, or stands at a place of the list -/
theorem jsto_new {ls : List (Nat × Value)} {i : Nat} {v : Value} (h : ls.all (fun q => !(q.1 == i) && !(q.1 + 1 == i && q.2.category == 2)) = true) : ∀ q ∈ (i, v) :: ls, q = (i, v) ∨ (q ∈ ls ∧ (!(q.1 == i) && !(q.1 + 1 == i && q.2.category == 2)) = true) := by
  intro q hq
  rcases List.mem_cons.mp hq with h1 | h1
  · exact Or.inl h1
  · exact Or.inr ⟨h1, List.all_eq_true.mp h q h1⟩
theorem jsto_at {pre post : List (Nat × Value)} {i : Nat} {u v : Value} (h : (pre ++ post).all (fun q => !(q.1 == i) && !(q.1 + 1 == i && q.2.category == 2)) = true) : ∀ q ∈ pre ++ (i, v) :: post, q = (i, v) ∨ (q ∈ pre ++ (i, u) :: post ∧ (!(q.1 == i) && !(q.1 + 1 == i && q.2.category == 2)) = true) := by
  intro q hq
  rcases List.mem_append.mp hq with h1 | h1
  · exact Or.inr ⟨List.mem_append_left _ h1, List.all_eq_true.mp h q (List.mem_append_left _ h1)⟩
  · rcases List.mem_cons.mp h1 with h2 | h2
    · exact Or.inl h2
    · exact Or.inr ⟨List.mem_append_right _ (List.mem_cons_of_mem _ h2), List.all_eq_true.mp h q (List.mem_append_right _ h2)⟩
theorem jv_dup {v : Value} (hd : decode M.cc pc = .ok (.dup, 1)) (hc : v.category = 1) (kk : jV G M R Q k n (pc + 1) ls (v :: v :: st) σ) : jV G M R Q k n (pc) ls (v :: st) σ := by
  intro p e s m args below meth c A H locs L F hP hD hS hl
  exact lv_dup F.1 F.2.1 hd (by rw [jcv_cat]; exact hc) (kk p e s m args below meth c A H locs L F hP hD hS hl)
theorem jv_pop {v : Value} (hd : decode M.cc pc = .ok (.pop, 1)) (hc : v.category = 1) (kk : jV G M R Q k n (pc + 1) ls (st) σ) : jV G M R Q k n (pc) ls (v :: st) σ := by
  intro p e s m args below meth c A H locs L F hP hD hS hl
  exact lv_pop F.1 F.2.1 hd (by rw [jcv_cat]; exact hc) (kk p e s m args below meth c A H locs L F hP hD hS hl)
theorem jv_dup_x1 {u v : Value} (hd : decode M.cc pc = .ok (.dup_x1, 1)) (hu : u.category = 1) (hv : v.category = 1) (kk : jV G M R Q k n (pc + 1) ls (u :: v :: u :: st) σ) : jV G M R Q k n (pc) ls (u :: v :: st) σ := by
  intro p e s m args below meth c A H locs L F hP hD hS hl
  exact lv_dup_x1 F.1 F.2.1 hd (by rw [jcv_cat]; exact hu) (by rw [jcv_cat]; exact hv) (kk p e s m args below meth c A H locs L F hP hD hS hl)
theorem jv_dup2 {u v : Value} (hd : decode M.cc pc = .ok (.dup2, 1)) (hu : u.category = 1) (hv : v.category = 1) (kk : jV G M R Q k n (pc + 1) ls (u :: v :: u :: v :: st) σ) : jV G M R Q k n (pc) ls (u :: v :: st) σ := by
  intro p e s m args below meth c A H locs L F hP hD hS hl
  exact lv_dup2_11 F.1 F.2.1 hd (by rw [jcv_cat]; exact hu) (by rw [jcv_cat]; exact hv) (kk p e s m args below meth c A H locs L F hP hD hS hl)
theorem jv_if_eq {x : Int32} {off : Int} (tgt : Nat) (hd : decode M.cc pc = .ok (.ifCond .eq off, 3)) (ht : (pc : Int) + off = (tgt : Int)) (kt : x = 0 → jV G M R Q k n (tgt) ls (st) σ) (kf : ¬ x = 0 → jV G M R Q k n (pc + 3) ls (st) σ) : jV G M R Q k n (pc) ls (.int x :: st) σ := by
  intro p e s m args below meth c A H locs L F hP hD hS hl
  exact lv_if_eq F.1 F.2.1 hd ht (fun h => kt h p e s m args below meth c A H locs L F hP hD hS hl) (fun h => kf h p e s m args below meth c A H locs L F hP hD hS hl)
theorem jv_if_ne {x : Int32} {off : Int} (tgt : Nat) (hd : decode M.cc pc = .ok (.ifCond .ne off, 3)) (ht : (pc : Int) + off = (tgt : Int)) (kt : ¬ x = 0 → jV G M R Q k n (tgt) ls (st) σ) (kf : x = 0 → jV G M R Q k n (pc + 3) ls (st) σ) : jV G M R Q k n (pc) ls (.int x :: st) σ := by
  intro p e s m args below meth c A H locs L F hP hD hS hl
  exact lv_if_ne F.1 F.2.1 hd ht (fun h => kt h p e s m args below meth c A H locs L F hP hD hS hl) (fun h => kf h p e s m args below meth c A H locs L F hP hD hS hl)
theorem jv_if_lt {x : Int32} {off : Int} (tgt : Nat) (hd : decode M.cc pc = .ok (.ifCond .lt off, 3)) (ht : (pc : Int) + off = (tgt : Int)) (kt : x < 0 → jV G M R Q k n (tgt) ls (st) σ) (kf : ¬ x < 0 → jV G M R Q k n (pc + 3) ls (st) σ) : jV G M R Q k n (pc) ls (.int x :: st) σ := by
  intro p e s m args below meth c A H locs L F hP hD hS hl
  exact lv_if_lt F.1 F.2.1 hd ht (fun h => kt h p e s m args below meth c A H locs L F hP hD hS hl) (fun h => kf h p e s m args below meth c A H locs L F hP hD hS hl)
theorem jv_if_ge {x : Int32} {off : Int} (tgt : Nat) (hd : decode M.cc pc = .ok (.ifCond .ge off, 3)) (ht : (pc : Int) + off = (tgt : Int)) (kt : 0 ≤ x → jV G M R Q k n (tgt) ls (st) σ) (kf : ¬ 0 ≤ x → jV G M R Q k n (pc + 3) ls (st) σ) : jV G M R Q k n (pc) ls (.int x :: st) σ := by
  intro p e s m args below meth c A H locs L F hP hD hS hl
  exact lv_if_ge F.1 F.2.1 hd ht (fun h => kt h p e s m args below meth c A H locs L F hP hD hS hl) (fun h => kf h p e s m args below meth c A H locs L F hP hD hS hl)
theorem jv_if_gt {x : Int32} {off : Int} (tgt : Nat) (hd : decode M.cc pc = .ok (.ifCond .gt off, 3)) (ht : (pc : Int) + off = (tgt : Int)) (kt : 0 < x → jV G M R Q k n (tgt) ls (st) σ) (kf : ¬ 0 < x → jV G M R Q k n (pc + 3) ls (st) σ) : jV G M R Q k n (pc) ls (.int x :: st) σ := by
  intro p e s m args below meth c A H locs L F hP hD hS hl
  exact lv_if_gt F.1 F.2.1 hd ht (fun h => kt h p e s m args below meth c A H locs L F hP hD hS hl) (fun h => kf h p e s m args below meth c A H locs L F hP hD hS hl)
theorem jv_if_le {x : Int32} {off : Int} (tgt : Nat) (hd : decode M.cc pc = .ok (.ifCond .le off, 3)) (ht : (pc : Int) + off = (tgt : Int)) (kt : x ≤ 0 → jV G M R Q k n (tgt) ls (st) σ) (kf : ¬ x ≤ 0 → jV G M R Q k n (pc + 3) ls (st) σ) : jV G M R Q k n (pc) ls (.int x :: st) σ := by
  intro p e s m args below meth c A H locs L F hP hD hS hl
  exact lv_if_le F.1 F.2.1 hd ht (fun h => kt h p e s m args below meth c A H locs L F hP hD hS hl) (fun h => kf h p e s m args below meth c A H locs L F hP hD hS hl)
theorem jv_icmp_eq {x y : Int32} {off : Int} (tgt : Nat) (hd : decode M.cc pc = .ok (.if_icmp .eq off, 3)) (ht : (pc : Int) + off = (tgt : Int)) (kt : x = y → jV G M R Q k n (tgt) ls (st) σ) (kf : ¬ x = y → jV G M R Q k n (pc + 3) ls (st) σ) : jV G M R Q k n (pc) ls (.int y :: .int x :: st) σ := by
  intro p e s m args below meth c A H locs L F hP hD hS hl
  exact lv_icmp_eq F.1 F.2.1 hd ht (fun h => kt h p e s m args below meth c A H locs L F hP hD hS hl) (fun h => kf h p e s m args below meth c A H locs L F hP hD hS hl)
theorem jv_icmp_ne {x y : Int32} {off : Int} (tgt : Nat) (hd : decode M.cc pc = .ok (.if_icmp .ne off, 3)) (ht : (pc : Int) + off = (tgt : Int)) (kt : ¬ x = y → jV G M R Q k n (tgt) ls (st) σ) (kf : x = y → jV G M R Q k n (pc + 3) ls (st) σ) : jV G M R Q k n (pc) ls (.int y :: .int x :: st) σ := by
  intro p e s m args below meth c A H locs L F hP hD hS hl
  exact lv_icmp_ne F.1 F.2.1 hd ht (fun h => kt h p e s m args below meth c A H locs L F hP hD hS hl) (fun h => kf h p e s m args below meth c A H locs L F hP hD hS hl)
theorem jv_icmp_lt {x y : Int32} {off : Int} (tgt : Nat) (hd : decode M.cc pc = .ok (.if_icmp .lt off, 3)) (ht : (pc : Int) + off = (tgt : Int)) (kt : x < y → jV G M R Q k n (tgt) ls (st) σ) (kf : ¬ x < y → jV G M R Q k n (pc + 3) ls (st) σ) : jV G M R Q k n (pc) ls (.int y :: .int x :: st) σ := by
  intro p e s m args below meth c A H locs L F hP hD hS hl
  exact lv_icmp_lt F.1 F.2.1 hd ht (fun h => kt h p e s m args below meth c A H locs L F hP hD hS hl) (fun h => kf h p e s m args below meth c A H locs L F hP hD hS hl)
theorem jv_icmp_ge {x y : Int32} {off : Int} (tgt : Nat) (hd : decode M.cc pc = .ok (.if_icmp .ge off, 3)) (ht : (pc : Int) + off = (tgt : Int)) (kt : y ≤ x → jV G M R Q k n (tgt) ls (st) σ) (kf : ¬ y ≤ x → jV G M R Q k n (pc + 3) ls (st) σ) : jV G M R Q k n (pc) ls (.int y :: .int x :: st) σ := by
  intro p e s m args below meth c A H locs L F hP hD hS hl
  exact lv_icmp_ge F.1 F.2.1 hd ht (fun h => kt h p e s m args below meth c A H locs L F hP hD hS hl) (fun h => kf h p e s m args below meth c A H locs L F hP hD hS hl)
theorem jv_icmp_gt {x y : Int32} {off : Int} (tgt : Nat) (hd : decode M.cc pc = .ok (.if_icmp .gt off, 3)) (ht : (pc : Int) + off = (tgt : Int)) (kt : y < x → jV G M R Q k n (tgt) ls (st) σ) (kf : ¬ y < x → jV G M R Q k n (pc + 3) ls (st) σ) : jV G M R Q k n (pc) ls (.int y :: .int x :: st) σ := by
  intro p e s m args below meth c A H locs L F hP hD hS hl
  exact lv_icmp_gt F.1 F.2.1 hd ht (fun h => kt h p e s m args below meth c A H locs L F hP hD hS hl) (fun h => kf h p e s m args below meth c A H locs L F hP hD hS hl)
theorem jv_icmp_le {x y : Int32} {off : Int} (tgt : Nat) (hd : decode M.cc pc = .ok (.if_icmp .le off, 3)) (ht : (pc : Int) + off = (tgt : Int)) (kt : x ≤ y → jV G M R Q k n (tgt) ls (st) σ) (kf : ¬ x ≤ y → jV G M R Q k n (pc + 3) ls (st) σ) : jV G M R Q k n (pc) ls (.int y :: .int x :: st) σ := by
  intro p e s m args below meth c A H locs L F hP hD hS hl
  exact lv_icmp_le F.1 F.2.1 hd ht (fun h => kt h p e s m args below meth c A H locs L F hP hD hS hl) (fun h => kf h p e s m args below meth c A H locs L F hP hD hS hl)
theorem jv_goto {off : Int} (tgt : Nat) (hd : decode M.cc pc = .ok (.goto off, 3)) (ht : (pc : Int) + off = (tgt : Int)) (kk : jV G M R Q k n (tgt) ls (st) σ) : jV G M R Q k n (pc) ls (st) σ := by
  intro p e s m args below meth c A H locs L F hP hD hS hl
  exact lv_goto F.1 F.2.1 hd ht (kk p e s m args below meth c A H locs L F hP hD hS hl)
theorem jv_tin {dflt lo hi off : Int} {offs : Array Int} {len : Nat} {x : Int32} (tgt : Nat) (hd : decode M.cc pc = .ok (.tableswitch dflt lo hi offs, len)) (h1 : ¬ x.toInt < lo) (h2 : ¬ hi < x.toInt) (ho : offs[(x.toInt - lo).toNat]? = some off) (ht : (pc : Int) + off = (tgt : Int)) (kk : jV G M R Q k n (tgt) ls (st) σ) : jV G M R Q k n (pc) ls (.int x :: st) σ := by
  intro p e s m args below meth c A H locs L F hP hD hS hl
  exact lv_tableIn F.1 F.2.1 hd h1 h2 ho ht (kk p e s m args below meth c A H locs L F hP hD hS hl)
theorem jv_tout {dflt lo hi : Int} {offs : Array Int} {len : Nat} {x : Int32} (tgt : Nat) (hd : decode M.cc pc = .ok (.tableswitch dflt lo hi offs, len)) (h : x.toInt < lo ∨ hi < x.toInt) (ht : (pc : Int) + dflt = (tgt : Int)) (kk : jV G M R Q k n (tgt) ls (st) σ) : jV G M R Q k n (pc) ls (.int x :: st) σ := by
  intro p e s m args below meth c A H locs L F hP hD hS hl
  exact lv_tableOut F.1 F.2.1 hd h ht (kk p e s m args below meth c A H locs L F hP hD hS hl)
end JR
end
section
/-! rows of fields, arrays, constants of classes, the script -/
def jFA (own : String) (idx ci kk : Nat) : Prop := ∃ (C : String) (T : u_T) (N : Nat) (ref : String), jCl[ci]? = some (C, T, N) ∧ kk < N ∧ (∀ w ∈ u_ws C T N, w ∈ jTW) ∧ (Cond.fieldLink own idx ref (T kk).2.1 (T kk).2.2.1 ∈ jTW ∨ ∃ host, Cond.fieldLinkNest own idx ref (T kk).2.1 (T kk).2.2.1 host ∈ jNW) ∧ (ref = (T kk).1 ∨ Cond.sameField ref (T kk).1 (T kk).2.1 (T kk).2.2.1 ∈ jTW)
def jFP (ci kk : Nat) (ty : FieldType) : Prop := ∀ (C : String) (T : u_T) (N : Nat), jCl[ci]? = some (C, T, N) → (T kk).2.2.2 = false ∧ parseFieldDescriptor (T kk).2.2.1 = some ty ∧ (∃ ty0 : Nat → FieldType, ∀ k, k < N → parseFieldDescriptor (T k).2.2.1 = some (ty0 k)) ∧ (∀ a, a < N → ∀ b, b < N → a ≠ b → (T a).2.1 ≠ (T b).2.1)
theorem jF.nest {G : jG} {M : jM} {p : Program} {s : State} {m : MethodId} {args : Array Value} {meth : Method} {c : Code} {A : Nat → Prop} (F : jF G M p s m args meth c A) {w : Cond} (h : w ∈ jNW) : w.before args s = true := va_tabs (jNW_on h) rfl (F.2.2.2.2.2.2.2.2.2.1.2.2.2 w h)
section JH
variable {G : jG} {M : jM} {R : Room} {Q : jO → jMem → Prop} {k n pc : Nat} {ls : List (Nat × Value)} {st : List Value} {σ : jMem}
theorem jsame {args : Array Value} {s : State} {ref own nm ds : String} (hts : ∀ w ∈ jTW, w.before args s = true) (h : ref = own ∨ Cond.sameField ref own nm ds ∈ jTW) : ∀ x, s.fieldFound? own nm ds = some x → s.fieldFound? ref nm ds = some x := by
  rcases h with rfl | h
  · exact fun _ h => h
  · exact fun x hx => u_same (hts _ h) x hx
theorem jfld_i {ad : Nat → Nat} {f : Nat → Int32} {fs : List (Option Nat)} {kk : Nat} (h : fs[kk]? = some none) : (fs.zipIdx.map (jfld ad f))[kk]? = some (.int (f kk)) := by
  rw [List.getElem?_map, List.getElem?_zipIdx, h]; simp [jfld]
theorem jfld_r {ad : Nat → Nat} {f : Nat → Int32} {fs : List (Option Nat)} {kk r : Nat} (h : fs[kk]? = some (some r)) : (fs.zipIdx.map (jfld ad f))[kk]? = some (.ref (ad r)) := by
  rw [List.getElem?_map, List.getElem?_zipIdx, h]; simp [jfld]
theorem jv_get {o idx ci kk : Nat} {fs : List (Option Nat)} {v : Value} (hd : decode M.cc pc = .ok (.getfield idx, 3)) (fa : jFA M.own idx ci kk) (ho : o < jN) (hs : jshp o = .inl (ci, fs)) (hv : (fs.zipIdx.map (jfld G.ad (σ o)))[kk]? = some (jcv G.ad v)) (kont : jV G M R Q k n (pc + 3) ls (v :: st) σ) : jV G M R Q k n pc ls (.ref o :: st) σ := by
  intro p e s m args below meth c A H locs L F hP hD hS hl
  obtain ⟨C, T, N, ref, hc, hk, hin, hlk, hsm⟩ := fa
  have he := jwd_get (G := G) (σ := σ) ho
  rw [jcell_f hs] at he
  have hts := F.2.2.2.2.2.1
  rcases hlk with hlk | ⟨host, hlk⟩
  · exact va_get F.1 F.2.1 hts hin F.2.2.2.2.1 F.2.2.2.2.2.2.2.1 hP o he hc kk hk (hts _ hlk) (jsame hts hsm) hv hd (kont p e s m args below meth c A H locs L F hP hD hS hl)
  · exact va_getN F.1 F.2.1 hts hin F.2.2.2.2.1 F.2.2.2.2.2.2.2.1 hP o he hc kk hk (F.nest hlk) (jsame hts hsm) hv hd (kont p e s m args below meth c A H locs L F hP hD hS hl)
theorem jv_geti {o idx ci kk : Nat} {fs : List (Option Nat)} (hd : decode M.cc pc = .ok (.getfield idx, 3)) (fa : jFA M.own idx ci kk) (ho : o < jN) (hs : jshp o = .inl (ci, fs)) (hf : fs[kk]? = some none) (kont : jV G M R Q k n (pc + 3) ls (.int (σ o kk) :: st) σ) : jV G M R Q k n pc ls (.ref o :: st) σ := jv_get hd fa ho hs (jfld_i hf) kont
theorem jv_getr {o idx ci kk r : Nat} {fs : List (Option Nat)} (hd : decode M.cc pc = .ok (.getfield idx, 3)) (fa : jFA M.own idx ci kk) (ho : o < jN) (hs : jshp o = .inl (ci, fs)) (hf : fs[kk]? = some (some r)) (kont : jV G M R Q k n (pc + 3) ls (.ref r :: st) σ) : jV G M R Q k n pc ls (.ref o :: st) σ := jv_get hd fa ho hs (jfld_r hf) kont
theorem jv_puti {o idx ci kk : Nat} {fs : List (Option Nat)} {v : Int32} {ty : FieldType} (hd : decode M.cc pc = .ok (.putfield idx, 3)) (fa : jFA M.own idx ci kk) (fp : jFP ci kk ty) (ho : o < jN) (hs : jshp o = .inl (ci, fs)) (hf : fs[kk]? = some none) (hn : narrow ty (.int v) = .int v) (hft : fits ty (.int v) = true) (kont : jV G M R Q k n (pc + 3) ls st (ju σ o kk v)) : jV G M R Q k n pc ls (.int v :: .ref o :: st) σ := by
  intro p e s m args below meth c A H locs L F hP hD hS hl
  obtain ⟨C, T, N, ref, hc, hk, hin, hlk, hsm⟩ := fa
  obtain ⟨q1, q2, ⟨ty0, q3⟩, q4⟩ := fp C T N hc
  have he := jwd_get (G := G) (σ := σ) ho
  rw [jcell_f hs] at he
  have hts := F.2.2.2.2.2.1
  have hlen : kk < (fs.zipIdx.map (jfld G.ad (σ o))).length := by simp; exact (List.getElem?_eq_some_iff.mp hf).1
  have hset := jwd_put (G := G) (σ := σ) (v := v) ho hs hf
  rcases hlk with hlk | ⟨host, hlk⟩
  · exact va_put F.1 F.2.1 hts hin ty0 q3 q4 F.2.2.2.2.1 F.2.2.2.2.2.2.2.1 hP hD hS o he hc kk hk (hts _ hlk) (jsame hts hsm) q1 q2 hn hft hlen hd (fun H1 locs1 hP1 hD1 hS1 => kont p e s m args below meth c A H1 locs1 L F (hset ▸ hP1) (hset ▸ hD1) hS1 hl)
  · exact va_putN F.1 F.2.1 hts hin ty0 q3 q4 F.2.2.2.2.1 F.2.2.2.2.2.2.2.1 hP hD hS o he hc kk hk (F.nest hlk) (jsame hts hsm) q1 q2 hn hft hlen hd (fun H1 locs1 hP1 hD1 hS1 => kont p e s m args below meth c A H1 locs1 L F (hset ▸ hP1) (hset ▸ hD1) hS1 hl)
theorem jv_iald {o N : Nat} {i : Int32} (hd : decode M.cc pc = .ok (.iaload, 1)) (ho : o < jN) (hs : jshp o = .inr (.inl N)) (hin : vp_in i N) (kont : jV G M R Q k n (pc + 1) ls (.int (σ o i.toNatClampNeg) :: st) σ) : jV G M R Q k n pc ls (.int i :: .ref o :: st) σ := by
  intro p e s m args below meth c A H locs L F hP hD hS hl
  have he := jwd_get (G := G) (σ := σ) ho
  rw [jcell_i hs] at he
  exact va_iald F.1 F.2.1 F.2.2.2.2.2.2.2.1 hP o 0 he rfl hin hd (kont p e s m args below meth c A H locs L F hP hD hS hl)
theorem jv_iast {o N : Nat} {i v : Int32} (hd : decode M.cc pc = .ok (.iastore, 1)) (ho : o < jN) (hs : jshp o = .inr (.inl N)) (hin : vp_in i N) (kont : jV G M R Q k n (pc + 1) ls st (ju σ o i.toNatClampNeg v)) : jV G M R Q k n pc ls (.int v :: .int i :: .ref o :: st) σ := by
  intro p e s m args below meth c A H locs L F hP hD hS hl
  have he := jwd_get (G := G) (σ := σ) ho
  rw [jcell_i hs] at he
  have hset := jwd_ast (G := G) (σ := σ) (k := i.toNatClampNeg) (v := v) ho hs
  exact va_iast F.1 F.2.1 F.2.2.2.2.2.2.2.1 hP hD hS o 0 he rfl hin hd (fun H1 locs1 hP1 hD1 hS1 => kont p e s m args below meth c A H1 locs1 L F (hset ▸ hP1) (hset ▸ hD1) hS1 hl)
theorem jv_alen {o N : Nat} {i : Int32} (hd : decode M.cc pc = .ok (.arraylength, 1)) (ho : o < jN) (hs : jshp o = .inr (.inl N)) (hi : N.toInt32 = i) (kont : jV G M R Q k n (pc + 1) ls (.int i :: st) σ) : jV G M R Q k n pc ls (.ref o :: st) σ := by
  intro p e s m args below meth c A H locs L F hP hD hS hl
  have he := jwd_get (G := G) (σ := σ) ho
  rw [jcell_i hs] at he
  have hcell := hP o _ he
  refine W.alen (n := i) F.1 F.2.1 hcell ((F.2.2.2.2.2.2.2.1.2 0 _ rfl).1 N (fun j => .int (σ o j))) ?_ rfl rfl hd (kont p e s m args below meth c A H locs L F hP hD hS hl)
  show (arrV _ _ _).slots.size.toInt32 = i
  rw [arrV_size]; exact hi
theorem jv_aald {o r : Nat} {rs : List Nat} {i : Int32} (hd : decode M.cc pc = .ok (.aaload, 1)) (ho : o < jN) (hs : jshp o = .inr (.inr (.inl rs))) (hin : vp_in i rs.length) (hr : rs[i.toNatClampNeg]? = some r) (kont : jV G M R Q k n (pc + 1) ls (.ref r :: st) σ) : jV G M R Q k n pc ls (.int i :: .ref o :: st) σ := by
  intro p e s m args below meth c A H locs L F hP hD hS hl
  have he := jwd_get (G := G) (σ := σ) ho
  rw [jcell_p hs] at he
  refine va_aldq F.1 F.2.1 F.2.2.2.2.2.2.2.1 hP o 1 he rfl hin hd ?_
  show W p G.l e R s m args below meth c H locs k n _ (F0 m (pc + 1) L (va_rf ((rs[i.toNatClampNeg]?).map G.ad) :: st.map (jcv G.ad)))
  rw [hr]
  exact kont p e s m args below meth c A H locs L F hP hD hS hl
/-- a constant array of a class -/
def jGS (own : String) (idx : Nat) (q : String × String × Nat × List Int32) : Prop := q ∈ jSt ∧ ∃ ref : String, (Cond.fieldLink own idx ref q.2.1 "[I" ∈ jTW ∨ ∃ host, Cond.fieldLinkNest own idx ref q.2.1 "[I" host ∈ jNW) ∧ (ref = q.1 ∨ Cond.sameField ref q.1 q.2.1 "[I" ∈ jTW)
theorem jv_gets {idx : Nat} {q : String × String × Nat × List Int32} (hd : decode M.cc pc = .ok (.getstatic idx, 3)) (gs : jGS M.own idx q) (kont : jV G M R Q k n (pc + 3) ls (.ref q.2.2.1 :: st) σ) : jV G M R Q k n pc ls st σ := by
  intro p e s m args below meth c A H locs L F hP hD hS hl
  obtain ⟨hq, ref, hlk, hsm⟩ := gs
  have hts := F.2.2.2.2.2.1
  have hZ := (F.2.2.2.2.2.2.2.2.2.1.1 q hq).1
  rcases hlk with hlk | ⟨host, hlk⟩
  · exact va_gets F.1 F.2.1 hZ hS F.2.2.2.2.1 (hts _ hlk) (jsame hts hsm) hd (kont p e s m args below meth c A H locs L F hP hD hS hl)
  · exact va_getsN F.1 F.2.1 hZ hS F.2.2.2.2.1 (F.nest hlk) (jsame hts hsm) hd (kont p e s m args below meth c A H locs L F hP hD hS hl)
theorem jv_tald {q : String × String × Nat × List Int32} {i : Int32} (hd : decode M.cc pc = .ok (.iaload, 1)) (hq : q ∈ jSt) (hin : vp_in i q.2.2.2.length) (kont : jV G M R Q k n (pc + 1) ls (.int (q.2.2.2.getD i.toNatClampNeg 0) :: st) σ) : jV G M R Q k n pc ls (.int i :: .ref q.2.2.1 :: st) σ := by
  intro p e s m args below meth c A H locs L F hP hD hS hl
  exact va_ti F.1 F.2.1 (F.2.2.2.2.2.2.2.2.2.1.1 q hq).2 hS hin rfl hd (kont p e s m args below meth c A H locs L F hP hD hS hl)
/-- ends -/
theorem jMQ.of {below : List Frame} {Qc : State → Outcome → State → Prop} {args : Array Value} {s t : State} {mc ms : Nat} {free : Addr → Prop} (h : MQ below (fun _ => Qc) args s mc ms free t) : jMQ below Qc s mc ms free t := by
  obtain ⟨o, h1, h2, h3, L, h4, h5⟩ := h
  exact ⟨o, h1, h2, h3, L, ⟨h4.2.1, h4.2.2⟩, h5⟩
theorem jv_iret {v : Int32} {ty : FieldType} (hd : decode M.cc pc = .ok (.ireturn, 1)) (hr : M.ret = some ty) (hn : narrow ty (.int v) = .int v) (h1 : k ≤ R.cells) (h2 : n ≤ R.slots) (hq : Q (.inl (some (.int v))) σ) : jV G M R Q k n pc ls [.int v] σ := by
  intro p e s m args below meth c A H locs L F hP hD hS hl
  refine W.widen h1 h2 (W.imp9 (W.zret (Qc := fun _ => jQ G A Q) (free := A) F.1 F.2.1 (F.2.2.2.1.trans hr) hn (fun t ht hW => ⟨⟨.inl (some (.int v)), σ, hq, rfl, by rw [ht]; exact hP, va_K.moved hW.alike F.2.2.2.2.2.2.2.1, hD⟩, hS.F ht⟩) hS.2.2 hd F.2.2.2.2.2.2.1) (fun t h => jMQ.of h))
theorem jv_vret (hd : decode M.cc pc = .ok (.return_, 1)) (hr : M.ret = none) (h1 : k ≤ R.cells) (h2 : n ≤ R.slots) (hq : Q (.inl none) σ) : jV G M R Q k n pc ls [] σ := by
  intro p e s m args below meth c A H locs L F hP hD hS hl
  refine W.widen h1 h2 (W.imp9 (W.vret (Qc := fun _ => jQ G A Q) (free := A) F.1 F.2.1 (F.2.2.2.1.trans hr) (fun t ht hW => ⟨⟨.inl none, σ, hq, rfl, by rw [ht]; exact hP, va_K.moved hW.alike F.2.2.2.2.2.2.2.1, hD⟩, hS.F ht⟩) hS.2.2 hd F.2.2.2.2.2.2.1) (fun t h => jMQ.of h))
theorem jv_lret {v : Int64} (hd : decode M.cc pc = .ok (.lreturn, 1)) (hr : M.ret = some .long) (h1 : k ≤ R.cells) (h2 : n ≤ R.slots) (hq : Q (.inl (some (.long v))) σ) : jV G M R Q k n pc ls [.long v] σ := by
  intro p e s m args below meth c A H locs L F hP hD hS hl
  refine W.widen h1 h2 (W.imp9 (W.lret (Qc := fun _ => jQ G A Q) (free := A) F.1 F.2.1 (F.2.2.2.1.trans hr) (fun t ht hW => ⟨⟨.inl (some (.long v)), σ, hq, rfl, by rw [ht]; exact hP, va_K.moved hW.alike F.2.2.2.2.2.2.2.1, hD⟩, hS.F ht⟩) hS.2.2 hd F.2.2.2.2.2.2.1) (fun t h => jMQ.of h))
theorem jv_aret {o : Nat} {ty : FieldType} (hd : decode M.cc pc = .ok (.areturn, 1)) (hr : M.ret = some ty) (hrt : (∃ n, ty = .object n) ∨ ∃ t, ty = .array t) (h1 : k ≤ R.cells) (h2 : n ≤ R.slots) (hq : Q (.inl (some (.ref o))) σ) : jV G M R Q k n pc ls [.ref o] σ := by
  intro p e s m args below meth c A H locs L F hP hD hS hl
  refine W.widen h1 h2 (W.imp9 (W.aret (v := .ref (G.ad o)) (Qc := fun _ => jQ G A Q) (free := A) F.1 F.2.1 (F.2.2.2.1.trans hr) hrt (Or.inr ⟨_, rfl⟩) (fun t ht hW => ⟨⟨.inl (some (.ref o)), σ, hq, rfl, by rw [ht]; exact hP, va_K.moved hW.alike F.2.2.2.2.2.2.2.1, hD⟩, hS.F ht⟩) hS.2.2 hd F.2.2.2.2.2.2.1) (fun t h => jMQ.of h))
end JH
/-! contracts -/
def jcw (M : jM) : Cond := if M.hs = [] then .code M.y M.cc M.nL M.ret else .codeWith M.y M.cc M.nL M.ret M.hs
def jws (M : jM) : List Cond := jcw M :: jTW
def jS (G : jG) (σ : jMem) (sz : Nat) (U : State) : Prop := U.heap.size = sz ∧ va_P G.D jCl (jwd G σ) U.heap ∧ va_K G.D jCl (jty G) U ∧ va_D (fun _ => True) (jwd G σ) ∧ jT G (va_A (jwd G σ) sz) U
/-- THE CONTRACT of method M on arguments as in memory σ -/
def jSp (G : jG) (M : jM) (rm : Room) (as : List Value) (σ : jMem) (Q : jO → jMem → Prop) : Prop :=
  ∀ sz : Nat, MetFree G.l M.y (headSpec (jws M) rm) (fun a U => a = (as.map (jcv G.ad)).toArray ∧ jS G σ sz U) (fun _ _ _ _ _ => True) (fun _ st oc t => jQ G (va_A (jwd G σ) sz) Q st oc t ∧ ∃ L, jEnd st t L rm.cells rm.slots ∧ ∀ q ∈ L, va_A (jwd G σ) sz q.base)
theorem jcw_spec {M : jM} {args : Array Value} {s : State} (h : (jcw M).before args s = true) : ∃ m meth c, s.methodNamed? M.y = some m ∧ s.vm.method? m = some meth ∧ meth.code = some c ∧ c.code = M.cc ∧ c.maxLocals = M.nL ∧ c.exceptionTable.toList.map (fun h => (h.startPc, h.endPc, h.handlerPc, h.catchType)) = M.hs ∧ meth.sig.returnType = M.ret ∧ meth.locks = false ∧ parseMethodDescriptor M.y.desc = some meth.sig := by
  unfold jcw at h
  by_cases hs : M.hs = []
  · rw [if_pos hs] at h
    have h2 : (Cond.codeWith M.y M.cc M.nL M.ret []).before args s = true := by
      simp only [Cond.before, Cond.holds] at h ⊢
      rw [← Cond.code_iff_codeWith_nil]; exact h
    rw [hs]
    exact Cond.codeWith_spec h2
  · rw [if_neg hs] at h
    exact Cond.codeWith_spec h
theorem jargs (ad : Nat → Nat) : ∀ (as : List Value) (i : Nat), lv_args i (as.map (jcv ad)) = jls ad (lv_args i as)
  | [], _ => rfl
  | v :: as, i => by
    show (i, jcv ad v) :: lv_args (if (jcv ad v).category = 2 then i + 2 else i + 1) (as.map (jcv ad)) = (i, jcv ad v) :: jls ad (lv_args (if v.category = 2 then i + 2 else i + 1) as)
    rw [jcv_cat, jargs ad as]
theorem jsl (ad : Nat → Nat) : ∀ (as : List Value), (lg_sl (as.map (jcv ad))).length = (lg_sl as).length
  | [] => rfl
  | v :: as => by
    have ih := jsl ad as
    simp only [lg_sl, List.map_cons, List.flatMap_cons, List.length_append, jcv_cat] at ih ⊢
    rw [ih]
    congr 1
    split <;> rfl
theorem jSp.of {G : jG} {M : jM} {rm : Room} {as : List Value} {σ : jMem} {Q : jO → jMem → Prop} (hy : plainName M.y.cls = true) (hoy : M.y.cls = M.own) (hlen : (lg_sl as).length ≤ M.nL) (h : jV G M rm Q 0 0 0 (lv_args 0 as) [] σ) : jSp G M rm as σ Q := by
  intro sz
  refine MetFree.of_bodyS (code := M.cc) (maxLocals := M.nL) (ret := M.ret) hy ?_ ?_
  · intro args s m hp hn
    obtain ⟨m', meth, c, h0, h1, h2, h3, h4, -, h5, h6, -⟩ := jcw_spec (atoms_spec (ws := jws M) hp _ List.mem_cons_self)
    cases hn.symm.trans h0
    exact ⟨meth, c, h1, h2, h3, h4, h5, h6⟩
  · intro p e s m args below meth c s₁ B hml hP _
    obtain ⟨rfl, hsz, hPw, hK, hD0, hT⟩ := hP
    have hh0 : s₁.heap = s.heap := by rw [B.state]; rfl
    have hts0 := atoms_spec (ws := jws M) B.pre
    obtain ⟨m', meth', c', h0, h1, h2, h3, h4, hhs, h5, h6, -⟩ := jcw_spec (hts0 _ List.mem_cons_self)
    cases B.named.symm.trans h0
    cases B.method.symm.trans h1
    cases (Stand.of_body B).code.symm.trans h2
    have F : jF G M p s m ((as.map (jcv G.ad)).toArray) meth c (va_A (jwd G σ) sz) := ⟨B.exec, B.bytes, hml, B.returns, by rw [← hoy]; exact findClass_of_methodNamed B.named, fun w hw => hts0 w (List.mem_cons_of_mem _ hw), B.notSynchronized, hK, fun q hq => Or.inr (by rw [← hsz]; exact hq), hT, hhs⟩
    have hent := lv_entry (as.map (jcv G.ad)) (n := M.nL) (by rw [jsl]; exact hlen)
    rw [jargs] at hent
    have W0 := h p e s m _ below meth c _ s.heap [] _ F hPw hD0.self va_S.rf hent
    obtain ⟨t, a1, o, b1, b2, b3, b4⟩ := W0 s₁ hh0 (Stand.of_body B)
    rw [lg_entry_eq]
    exact ⟨t, o, a1, b1, b2, b3, b4⟩
def jRet (Q : jO → jMem → Prop) : Prop := ∀ (o : jO) (τ : jMem), Q o τ → ∃ v, o = .inl v
theorem jSp.met {G : jG} {M : jM} {rm : Room} {as : List Value} {σ : jMem} {Q : jO → jMem → Prop} (h : jSp G M rm as σ Q) (hr : jRet Q) (sz : Nat) : Met G.l M.y (jws M) rm (fun a U => a = (as.map (jcv G.ad)).toArray ∧ jS G σ sz U) (fun _ => jQ G (va_A (jwd G σ) sz) Q) rm.cells rm.slots (va_A (jwd G σ) sz) := by
  intro p e ha hc hk s m args below hf happ hP hK
  obtain ⟨n, o, h1, h2, h3, h4, L, h5, h6⟩ := h sz p e ha hc hk s m args below hf happ hP hK
  refine ⟨n, o, h1, h2, h3, h4, L, ⟨?_, h5.1, h5.2⟩, h6⟩
  obtain ⟨⟨o', τ, hq, ho, -⟩, -⟩ := h4
  obtain ⟨v, rfl⟩ := hr o' τ hq
  exact ⟨_, ho⟩
theorem jS.heap {G : jG} {σ : jMem} {sz : Nat} {U T : State} (h : jS G σ sz U) (hh : T.heap = U.heap) (hW : U.WarmedH T.vm) : jS G σ sz T := by
  obtain ⟨h1, h2, h3, h4, h5⟩ := h
  exact ⟨by rw [hh]; exact h1, by rw [hh]; exact h2, h3.moved hW.alike, h4, h5.move hW (fun a _ _ => by rw [hh]) (fun _ h => h)⟩
theorem jS.blind {G : jG} {σ : jMem} {sz : Nat} {av : Array Value} : FrameBlind (fun a U => a = av ∧ jS G σ sz U) := by
  intro a U g mk h
  exact ⟨h.1, h.2.heap rfl (State.WarmedH.refl U)⟩
/-- the callee's start, out of the caller's point -/
theorem jS.call {G : jG} {M : jM} {p : Program} {s : State} {m : MethodId} {args : Array Value} {meth : Method} {c : Code} {A : Nat → Prop} {H : Heap} {locs : List Loc} {σ : jMem} (F : jF G M p s m args meth c A) (hP : va_P G.D jCl (jwd G σ) H) (hD : va_D A (jwd G σ)) (hS : va_S A s.heap H locs) {U : State} (hU : U.heap = H) (hW : s.WarmedH U.vm) : jS G σ H.size U := by
  refine ⟨by rw [hU], by rw [hU]; exact hP, va_K.moved hW.alike F.2.2.2.2.2.2.2.1, hD.weaken (fun _ _ _ _ => trivial), F.2.2.2.2.2.2.2.2.2.1.move hW (fun a h1 h2 => by rw [hU]; exact hS.2.1 a h1 h2) ?_⟩
  intro q h
  rcases h with ⟨i, e, h⟩ | h
  · exact hD.2 i (q, e) h
  · exact F.2.2.2.2.2.2.2.2.1 q (Nat.le_trans hS.1 h)
theorem jfree {G : jG} {M : jM} {p : Program} {s : State} {m : MethodId} {args : Array Value} {meth : Method} {c : Code} {A : Nat → Prop} {H : Heap} {locs : List Loc} {σ : jMem} (F : jF G M p s m args meth c A) (hD : va_D A (jwd G σ)) (hS : va_S A s.heap H locs) : ∀ q, va_A (jwd G σ) H.size q → A q := by
  intro q h
  rcases h with ⟨i, e, h⟩ | h
  · exact hD.2 i (q, e) h
  · exact F.2.2.2.2.2.2.2.2.1 q (Nat.le_trans hS.1 h)
theorem jtoL (ad : Nat → Nat) (v : Option Value) (st : List Value) : (v.toList ++ st).map (jcv ad) = (v.map (jcv ad)).toList ++ st.map (jcv ad) := by
  cases v <;> rfl
theorem jgoodIn {M : jM} (hs : M.hs = []) (hc : Cond.code M.y M.cc M.nL M.ret ∈ jTW) : GoodIn jTW (jws M) := by
  intro w hw
  rcases List.mem_cons.mp hw with h | h
  · have e : jcw M = Cond.code M.y M.cc M.nL M.ret := if_pos hs
    rw [h, e]
    exact ⟨hc, jTW_good _ hc⟩
  · exact ⟨h, jTW_good _ h⟩
/-- what comes back from a call -/
theorem jback {G : jG} {M : jM} {R : Room} {Q : jO → jMem → Prop} {k n pc mc ms : Nat} {ls : List (Nat × Value)} {st st0 : List Value} {σ : jMem} {Q1 : jO → jMem → Prop} (hr : jRet Q1)
    {p : Program} {e : Env} {s : State} {m : MethodId} {args : Array Value} {below : List Frame} {meth : Method} {c : Code} {A : Nat → Prop} {H : Heap} {locs : List Loc} {L : Array Slot}
    (F : jF G M p s m args meth c A) (hD : va_D A (jwd G σ)) (hS : va_S A s.heap H locs) (hl : lv_has L M.nL (jls G.ad ls))
    (run : va_Run p G.l e R s m args below meth c H locs k n mc ms (F0 m pc L st0) (st.map (jcv G.ad)) (jQ G (va_A (jwd G σ) H.size) Q1) (va_A (jwd G σ) H.size))
    (kont : ∀ v τ, Q1 (.inl v) τ → jV G M R Q (k + mc) (n + ms) (pc + 3) ls (v.toList ++ st) τ) :
    W p G.l e R s m args below meth c H locs k n (jMQ below (jQ G A Q) s R.cells R.slots A) (F0 m pc L st0) := by
  intro T hT X
  obtain ⟨v, st₀, t, T', L', h0, X', hL, e1, e2, ⟨⟨o, τ, hq, ho, hPt, hKt, hDt⟩, hz, hk⟩, stp⟩ := run T hT X
  obtain ⟨v', rfl⟩ := hr o τ hq
  have hv : v = v'.map (jcv G.ad) := Outcome.returned.inj ho
  subst hv
  have hAA := jfree F hD hS
  rw [h0] at hz hk
  obtain ⟨t2, a1, b1⟩ := kont v' τ hq p e s m args below meth c A T'.heap (locs ++ L') L F (by rw [e1]; exact hPt) (hDt.weaken (fun _ q _ h => hAA q.1 h))
    ⟨Nat.le_trans hS.1 (by rw [e1]; exact hz), fun q h1 h2 => by rw [e1, hk q (Nat.lt_of_lt_of_le h1 hS.1) (fun z => h2 (hAA q z))]; exact hS.2.1 q h1 h2, fun q hq => by
      rcases List.mem_append.mp hq with h | h
      · exact hS.2.2 q h
      · exact hAA _ (hL q h)⟩ hl T' rfl X'
  rw [jtoL] at a1
  exact ⟨t2, stp t2 a1, b1⟩
/-- a call's facts -/
def jC0 (M1 : jM) (na : Nat) : Prop := M1.hs = [] ∧ Cond.code M1.y M1.cc M1.nL M1.ret ∈ jTW ∧ Cond.initialized M1.y.cls ∈ jTW ∧ (M1.y.cls ≠ "java/lang/invoke/MethodHandle" ∧ M1.y.cls ≠ "java/lang/invoke/VarHandle") ∧ (parseMethodDescriptor M1.y.desc).map (fun d => d.parameters.length) = some na
def jLk (own : String) (idx : Nat) (y : MethodName) : Prop := Cond.methodLink own idx y ∈ jTW ∨ ∃ host, Cond.methodLinkNest own idx y host ∈ jNW
theorem jlen {y : MethodName} {na : Nat} (h : (parseMethodDescriptor y.desc).map (fun d => d.parameters.length) = some na) : ∀ sig, parseMethodDescriptor y.desc = some sig → na = sig.parameters.length := by
  intro sig hs
  rw [hs] at h
  exact (Option.some.inj h).symm
theorem jv_callS {G : jG} {M : jM} {R : Room} {Q : jO → jMem → Prop} {k n pc : Nat} {ls : List (Nat × Value)} {st st0 : List Value} {σ : jMem} {Q1 : jO → jMem → Prop} {M1 : jM} {rm : Room} {as : List Value} {idx : Nat}
    (hM : jSp G M1 rm as σ Q1) (hr : jRet Q1) (hd : decode M.cc pc = .ok (.invokestatic idx, 3)) (c0 : jC0 M1 as.length) (lk : jLk M.own idx M1.y) (hst : Cond.static M1.y ∈ jTW) (hk0 : st0 = as.reverse ++ st) (h8 : (st.map fun v => v.category).sum ≤ 8)
    (hR : rm.frames + 1 ≤ R.frames ∧ 8 + (M1.nL + 11) + rm.locals ≤ R.locals ∧ k + rm.cells ≤ R.cells ∧ n + rm.slots ≤ R.slots)
    (kont : ∀ v τ, Q1 (.inl v) τ → jV G M R Q (k + rm.cells) (n + rm.slots) (pc + 3) ls (v.toList ++ st) τ) : jV G M R Q k n pc ls st0 σ := by
  intro p e s m args below meth c A H locs L F hP hD hS hl
  have hts := F.2.2.2.2.2.1
  obtain ⟨hs0, hcw, hini, hy, hp⟩ := c0
  have h8' : ((st.map (jcv G.ad)).map fun v => v.category).sum ≤ 8 := by
    rw [List.map_map]; simpa [Function.comp_def, jcv_cat] using h8
  have hsk : st0.map (jcv G.ad) = (as.map (jcv G.ad)).reverse ++ st.map (jcv G.ad) := by rw [hk0, List.map_append, List.map_reverse]
  have hpre : PreS s H (fun a U => a = (as.map (jcv G.ad)).toArray ∧ jS G σ H.size U) (as.map (jcv G.ad)) := ⟨jS.blind, fun U hU hW => ⟨rfl, jS.call F hP hD hS hU hW⟩⟩
  have hgood := pay_in hts (jgoodIn hs0 hcw)
  have hcm : Cond.code M1.y M1.cc M1.nL M1.ret ∈ jws M1 := by
    have e : jcw M1 = Cond.code M1.y M1.cc M1.nL M1.ret := if_pos hs0
    unfold jws; rw [e]; exact List.mem_cons_self
  rcases lk with lk | ⟨host, lk⟩
  · exact jback hr F hD hS hl (va_runS (Ts := jTW) (own := M.own) ⟨F.1, F.2.1, F.2.2.1, F.2.2.2.2.1, hts⟩ (hM.met hr H.size) ⟨⟨rfl, rfl, hR.1, hR.2.1, hgood, hcm, hts _ hcw, hts _ hini, hy, jlen hp, hts _ lk⟩, hts _ hst⟩ hpre rfl (by simp) hl.1 hsk (lv_room h8') hd ⟨hR.2.2.1, hR.2.2.2⟩) kont
  · exact jback hr F hD hS hl (va_runSN (Ts := jTW) (own := M.own) ⟨F.1, F.2.1, F.2.2.1, F.2.2.2.2.1, hts⟩ (hM.met hr H.size) ⟨⟨⟨rfl, rfl, hR.1, hR.2.1, hgood, hcm⟩, hts _ hcw, hts _ hini, hy, jlen hp, F.nest lk⟩, hts _ hst, trivial⟩ hpre rfl (by simp) hl.1 hsk (lv_room h8') hd ⟨hR.2.2.1, hR.2.2.2⟩) kont
/-- the receiver's cell -/
theorem jrecv {G : jG} {M : jM} {p : Program} {s : State} {m : MethodId} {args : Array Value} {meth : Method} {c : Code} {A : Nat → Prop} {H : Heap} {σ : jMem} {o ci : Nat} {fs : List (Option Nat)} {C : String} {T : u_T} {N : Nat} (F : jF G M p s m args meth c A) (hP : va_P G.D jCl (jwd G σ) H) (ho : o < jN) (hs : jshp o = .inl (ci, fs)) (hc : jCl[ci]? = some (C, T, N)) : ∃ cellB : Cell, H[G.ad o]? = some cellB ∧ cellB.vm.isStatics = false ∧ s.vm.findClass C = some cellB.cls := by
  have he := jwd_get (G := G) (σ := σ) ho
  rw [jcell_f hs] at he
  obtain ⟨r, h1, cell, q1, q2, q3, q4⟩ := hP o _ he
  cases h1.symm.trans hc
  obtain ⟨-, hfc, -⟩ := F.2.2.2.2.2.2.2.1.1 ci _ hc
  exact ⟨cell, q1, by rw [q3]; rfl, by rw [q2]; exact hfc⟩
theorem jv_callV {G : jG} {M : jM} {R : Room} {Q : jO → jMem → Prop} {k n pc : Nat} {ls : List (Nat × Value)} {st st0 : List Value} {σ : jMem} {Q1 : jO → jMem → Prop} {M1 : jM} {rm : Room} {o ci : Nat} {fs : List (Option Nat)} {C : String} {T : u_T} {N : Nat} {as : List Value} {idx : Nat}
    (hM : jSp G M1 rm (.ref o :: as) σ Q1) (hr : jRet Q1) (hd : decode M.cc pc = .ok (.invokevirtual idx, 3)) (c0 : jC0 M1 as.length) (lk : jLk M.own idx M1.y) (hin : Cond.instanceMethod M1.y ∈ jTW) (hse : Cond.selects C M1.y M1.y ∈ jTW) (ho : o < jN) (hs : jshp o = .inl (ci, fs)) (hc : jCl[ci]? = some (C, T, N)) (hk0 : st0 = as.reverse ++ .ref o :: st) (h8 : (st.map fun v => v.category).sum ≤ 8)
    (hR : rm.frames + 1 ≤ R.frames ∧ 8 + (M1.nL + 11) + rm.locals ≤ R.locals ∧ k + rm.cells ≤ R.cells ∧ n + rm.slots ≤ R.slots)
    (kont : ∀ v τ, Q1 (.inl v) τ → jV G M R Q (k + rm.cells) (n + rm.slots) (pc + 3) ls (v.toList ++ st) τ) : jV G M R Q k n pc ls st0 σ := by
  intro p e s m args below meth c A H locs L F hP hD hS hl
  have hts := F.2.2.2.2.2.1
  obtain ⟨hs0, hcw, hini, hy, hp⟩ := c0
  have h8' : ((st.map (jcv G.ad)).map fun v => v.category).sum ≤ 8 := by
    rw [List.map_map]; simpa [Function.comp_def, jcv_cat] using h8
  have hsk : st0.map (jcv G.ad) = (as.map (jcv G.ad)).reverse ++ Value.ref (G.ad o) :: st.map (jcv G.ad) := by rw [hk0, List.map_append, List.map_reverse]; rfl
  have hpre : PreV s H C (G.ad o) (fun a U => a = ((Value.ref o :: as).map (jcv G.ad)).toArray ∧ jS G σ H.size U) (as.map (jcv G.ad)) := ⟨jS.blind, jrecv F hP ho hs hc, fun U hU hW => ⟨rfl, jS.call F hP hD hS hU hW⟩⟩
  have hgood := pay_in hts (jgoodIn hs0 hcw)
  have hcm : Cond.code M1.y M1.cc M1.nL M1.ret ∈ jws M1 := by
    have e : jcw M1 = Cond.code M1.y M1.cc M1.nL M1.ret := if_pos hs0
    unfold jws; rw [e]; exact List.mem_cons_self
  rcases lk with lk | ⟨host, lk⟩
  · exact jback hr F hD hS hl (va_runV (Ts := jTW) (own := M.own) ⟨F.1, F.2.1, F.2.2.1, F.2.2.2.2.1, hts⟩ (hM.met hr H.size) ⟨⟨rfl, rfl, hR.1, hR.2.1, hgood, hcm, hts _ hcw, hts _ hini, hy, jlen hp, hts _ lk⟩, hts _ hin, hts _ hse⟩ hpre rfl (by simp) hl.1 hsk (lv_room h8') hd ⟨hR.2.2.1, hR.2.2.2⟩) kont
  · exact jback hr F hD hS hl (va_runVN (Ts := jTW) (own := M.own) ⟨F.1, F.2.1, F.2.2.1, F.2.2.2.2.1, hts⟩ (hM.met hr H.size) ⟨⟨⟨rfl, rfl, hR.1, hR.2.1, hgood, hcm⟩, hts _ hcw, hts _ hini, hy, jlen hp, F.nest lk⟩, hts _ hin, hts _ hse⟩ hpre rfl (by simp) hl.1 hsk (lv_room h8') hd ⟨hR.2.2.1, hR.2.2.2⟩) kont
end
