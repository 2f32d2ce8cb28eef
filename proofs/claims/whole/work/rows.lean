section
-- ===== PART A: goes FIRST, ahead of the names: the tables' words, and 'selects' of the private methods out of them =====
/-- a private method of a class that the tables say can be made, by its rows of tables_1 -/
def lw_okq (q : MethodName × Nat) : Prop := (q.1.cls ≠ "java/lang/invoke/MethodHandle" ∧ q.1.cls ≠ "java/lang/invoke/VarHandle") ∧ Cond.instantiable q.1.cls q.2 ∈ tables_1 ∧ Cond.privateMethod q.1 ∈ tables_1 ∧ Cond.instanceMethod q.1 ∈ tables_1
theorem lw_p0 : lw_okq (⟨"java/lang/Throwable", "fillInStackTrace", "(I)Ljava/lang/Throwable;"⟩, 6) := ⟨⟨by decide +kernel, by decide +kernel⟩, List.mem_of_getElem? (i := 232) (by decide +kernel), List.mem_of_getElem? (i := 230) (by decide +kernel), List.mem_of_getElem? (i := 231) (by decide +kernel)⟩
theorem lw_p1 : lw_okq (⟨"FontPacker", "refuseEmptyContour", "()V"⟩, 6) := ⟨⟨by decide +kernel, by decide +kernel⟩, List.mem_of_getElem? (i := 21) (by decide +kernel), List.mem_of_getElem? (i := 282) (by decide +kernel), List.mem_of_getElem? (i := 283) (by decide +kernel)⟩
theorem lw_p2 : lw_okq (⟨"FontPacker$StreamForm", "addStep", "(IIILFontPacker$Row;)V"⟩, 1) := ⟨⟨by decide +kernel, by decide +kernel⟩, List.mem_of_getElem? (i := 52) (by decide +kernel), List.mem_of_getElem? (i := 497) (by decide +kernel), List.mem_of_getElem? (i := 498) (by decide +kernel)⟩
theorem lw_p3 : lw_okq (⟨"FontPacker$PackedWriter", "compressStream", "(LFontPacker$BitWriter;)V"⟩, 2) := ⟨⟨by decide +kernel, by decide +kernel⟩, List.mem_of_getElem? (i := 46) (by decide +kernel), List.mem_of_getElem? (i := 542) (by decide +kernel), List.mem_of_getElem? (i := 543) (by decide +kernel)⟩
theorem lw_p4 : lw_okq (⟨"FontPacker$PackedWriter", "bestDistance", "(I)I"⟩, 2) := ⟨⟨by decide +kernel, by decide +kernel⟩, List.mem_of_getElem? (i := 46) (by decide +kernel), List.mem_of_getElem? (i := 546) (by decide +kernel), List.mem_of_getElem? (i := 547) (by decide +kernel)⟩
theorem lw_p5 : lw_okq (⟨"FontPacker$PackedReader", "readHead", "(LFontPacker$Cursor;)Z"⟩, 7) := ⟨⟨by decide +kernel, by decide +kernel⟩, List.mem_of_getElem? (i := 73) (by decide +kernel), List.mem_of_getElem? (i := 625) (by decide +kernel), List.mem_of_getElem? (i := 626) (by decide +kernel)⟩
theorem lw_p6 : lw_okq (⟨"FontPacker$PackedReader", "readLengths", "(ILFontPacker$Cursor;)Z"⟩, 7) := ⟨⟨by decide +kernel, by decide +kernel⟩, List.mem_of_getElem? (i := 73) (by decide +kernel), List.mem_of_getElem? (i := 643) (by decide +kernel), List.mem_of_getElem? (i := 644) (by decide +kernel)⟩
theorem lw_p7 : lw_okq (⟨"FontPacker$PackedReader", "expandStream", "(LFontPacker$BitReader;)Z"⟩, 7) := ⟨⟨by decide +kernel, by decide +kernel⟩, List.mem_of_getElem? (i := 73) (by decide +kernel), List.mem_of_getElem? (i := 678) (by decide +kernel), List.mem_of_getElem? (i := 679) (by decide +kernel)⟩
theorem lw_p8 : lw_okq (⟨"FontPacker$PackedReader", "repeatBytes", "(II)Z"⟩, 7) := ⟨⟨by decide +kernel, by decide +kernel⟩, List.mem_of_getElem? (i := 73) (by decide +kernel), List.mem_of_getElem? (i := 693) (by decide +kernel), List.mem_of_getElem? (i := 694) (by decide +kernel)⟩
theorem lw_p9 : lw_okq (⟨"FontPacker$PackedReader", "readOutlines", "(LFontPacker$Font;)Z"⟩, 7) := ⟨⟨by decide +kernel, by decide +kernel⟩, List.mem_of_getElem? (i := 73) (by decide +kernel), List.mem_of_getElem? (i := 705) (by decide +kernel), List.mem_of_getElem? (i := 706) (by decide +kernel)⟩
theorem lw_p10 : lw_okq (⟨"FontPacker$PackedReader", "readPoints", "(LFontPacker$Glyph;LFontPacker$Cursor;LFontPacker$Cursor;)Z"⟩, 7) := ⟨⟨by decide +kernel, by decide +kernel⟩, List.mem_of_getElem? (i := 73) (by decide +kernel), List.mem_of_getElem? (i := 732) (by decide +kernel), List.mem_of_getElem? (i := 733) (by decide +kernel)⟩
theorem lw_p11 : lw_okq (⟨"FontPacker$PackedReader", "readStep", "(ILFontPacker$Cursor;)V"⟩, 7) := ⟨⟨by decide +kernel, by decide +kernel⟩, List.mem_of_getElem? (i := 73) (by decide +kernel), List.mem_of_getElem? (i := 736) (by decide +kernel), List.mem_of_getElem? (i := 737) (by decide +kernel)⟩
theorem lw_p12 : lw_okq (⟨"FontPacker$PackedReader", "takeStep", "(III)V"⟩, 7) := ⟨⟨by decide +kernel, by decide +kernel⟩, List.mem_of_getElem? (i := 73) (by decide +kernel), List.mem_of_getElem? (i := 743) (by decide +kernel), List.mem_of_getElem? (i := 744) (by decide +kernel)⟩
theorem lw_p13 : lw_okq (⟨"FontPacker$PackedReader", "readAdvances", "(LFontPacker$Font;)Z"⟩, 7) := ⟨⟨by decide +kernel, by decide +kernel⟩, List.mem_of_getElem? (i := 73) (by decide +kernel), List.mem_of_getElem? (i := 753) (by decide +kernel), List.mem_of_getElem? (i := 754) (by decide +kernel)⟩
theorem lw_p14 : lw_okq (⟨"FontPacker$PackedReader", "readBareTables", "(LFontPacker$Font;)V"⟩, 7) := ⟨⟨by decide +kernel, by decide +kernel⟩, List.mem_of_getElem? (i := 73) (by decide +kernel), List.mem_of_getElem? (i := 758) (by decide +kernel), List.mem_of_getElem? (i := 759) (by decide +kernel)⟩
theorem lw_p15 : lw_okq (⟨"FontPacker", "refuseMissingByte", "(I)V"⟩, 6) := ⟨⟨by decide +kernel, by decide +kernel⟩, List.mem_of_getElem? (i := 21) (by decide +kernel), List.mem_of_getElem? (i := 782) (by decide +kernel), List.mem_of_getElem? (i := 783) (by decide +kernel)⟩
def lw_privs_1 : List (MethodName × Nat) := [(⟨"java/lang/Throwable", "fillInStackTrace", "(I)Ljava/lang/Throwable;"⟩, 6), (⟨"FontPacker", "refuseEmptyContour", "()V"⟩, 6), (⟨"FontPacker$StreamForm", "addStep", "(IIILFontPacker$Row;)V"⟩, 1), (⟨"FontPacker$PackedWriter", "compressStream", "(LFontPacker$BitWriter;)V"⟩, 2), (⟨"FontPacker$PackedWriter", "bestDistance", "(I)I"⟩, 2), (⟨"FontPacker$PackedReader", "readHead", "(LFontPacker$Cursor;)Z"⟩, 7), (⟨"FontPacker$PackedReader", "readLengths", "(ILFontPacker$Cursor;)Z"⟩, 7), (⟨"FontPacker$PackedReader", "expandStream", "(LFontPacker$BitReader;)Z"⟩, 7), (⟨"FontPacker$PackedReader", "repeatBytes", "(II)Z"⟩, 7), (⟨"FontPacker$PackedReader", "readOutlines", "(LFontPacker$Font;)Z"⟩, 7), (⟨"FontPacker$PackedReader", "readPoints", "(LFontPacker$Glyph;LFontPacker$Cursor;LFontPacker$Cursor;)Z"⟩, 7), (⟨"FontPacker$PackedReader", "readStep", "(ILFontPacker$Cursor;)V"⟩, 7), (⟨"FontPacker$PackedReader", "takeStep", "(III)V"⟩, 7), (⟨"FontPacker$PackedReader", "readAdvances", "(LFontPacker$Font;)Z"⟩, 7), (⟨"FontPacker$PackedReader", "readBareTables", "(LFontPacker$Font;)V"⟩, 7), (⟨"FontPacker", "refuseMissingByte", "(I)V"⟩, 6)]
theorem lw_r1 : ∀ q ∈ lw_privs_1, lw_okq q := List.forall_mem_cons.mpr ⟨lw_p0, List.forall_mem_cons.mpr ⟨lw_p1, List.forall_mem_cons.mpr ⟨lw_p2, List.forall_mem_cons.mpr ⟨lw_p3, List.forall_mem_cons.mpr ⟨lw_p4, List.forall_mem_cons.mpr ⟨lw_p5, List.forall_mem_cons.mpr ⟨lw_p6, List.forall_mem_cons.mpr ⟨lw_p7, List.forall_mem_cons.mpr ⟨lw_p8, List.forall_mem_cons.mpr ⟨lw_p9, List.forall_mem_cons.mpr ⟨lw_p10, List.forall_mem_cons.mpr ⟨lw_p11, List.forall_mem_cons.mpr ⟨lw_p12, List.forall_mem_cons.mpr ⟨lw_p13, List.forall_mem_cons.mpr ⟨lw_p14, List.forall_mem_cons.mpr ⟨lw_p15, fun _ h => absurd h List.not_mem_nil⟩⟩⟩⟩⟩⟩⟩⟩⟩⟩⟩⟩⟩⟩⟩⟩
theorem lw_p16 : lw_okq (⟨"FontPacker", "refuseMissingGlyph", "(I)V"⟩, 6) := ⟨⟨by decide +kernel, by decide +kernel⟩, List.mem_of_getElem? (i := 21) (by decide +kernel), List.mem_of_getElem? (i := 831) (by decide +kernel), List.mem_of_getElem? (i := 832) (by decide +kernel)⟩
theorem lw_p17 : lw_okq (⟨"FontPackerModel", "open", "()Z"⟩, 39) := ⟨⟨by decide +kernel, by decide +kernel⟩, List.mem_of_getElem? (i := 859) (by decide +kernel), List.mem_of_getElem? (i := 995) (by decide +kernel), List.mem_of_getElem? (i := 996) (by decide +kernel)⟩
theorem lw_p18 : lw_okq (⟨"FontPackerModel", "add", "(I)V"⟩, 39) := ⟨⟨by decide +kernel, by decide +kernel⟩, List.mem_of_getElem? (i := 859) (by decide +kernel), List.mem_of_getElem? (i := 1023) (by decide +kernel), List.mem_of_getElem? (i := 1024) (by decide +kernel)⟩
theorem lw_p19 : lw_okq (⟨"FontPackerModel", "tables", "()I"⟩, 39) := ⟨⟨by decide +kernel, by decide +kernel⟩, List.mem_of_getElem? (i := 859) (by decide +kernel), List.mem_of_getElem? (i := 1027) (by decide +kernel), List.mem_of_getElem? (i := 1028) (by decide +kernel)⟩
theorem lw_p20 : lw_okq (⟨"FontPackerModel", "has", "(I)Z"⟩, 39) := ⟨⟨by decide +kernel, by decide +kernel⟩, List.mem_of_getElem? (i := 859) (by decide +kernel), List.mem_of_getElem? (i := 1031) (by decide +kernel), List.mem_of_getElem? (i := 1032) (by decide +kernel)⟩
theorem lw_p21 : lw_okq (⟨"FontPackerModel", "flowTable", "(I)V"⟩, 39) := ⟨⟨by decide +kernel, by decide +kernel⟩, List.mem_of_getElem? (i := 859) (by decide +kernel), List.mem_of_getElem? (i := 1035) (by decide +kernel), List.mem_of_getElem? (i := 1036) (by decide +kernel)⟩
theorem lw_p22 : lw_okq (⟨"FontPackerModel", "flow", "(I)V"⟩, 39) := ⟨⟨by decide +kernel, by decide +kernel⟩, List.mem_of_getElem? (i := 859) (by decide +kernel), List.mem_of_getElem? (i := 1039) (by decide +kernel), List.mem_of_getElem? (i := 1040) (by decide +kernel)⟩
theorem lw_p23 : lw_okq (⟨"FontPackerModel", "flowShort", "(I)V"⟩, 39) := ⟨⟨by decide +kernel, by decide +kernel⟩, List.mem_of_getElem? (i := 859) (by decide +kernel), List.mem_of_getElem? (i := 1043) (by decide +kernel), List.mem_of_getElem? (i := 1044) (by decide +kernel)⟩
theorem lw_p24 : lw_okq (⟨"FontPackerModel", "signOf", "(II)I"⟩, 39) := ⟨⟨by decide +kernel, by decide +kernel⟩, List.mem_of_getElem? (i := 859) (by decide +kernel), List.mem_of_getElem? (i := 1047) (by decide +kernel), List.mem_of_getElem? (i := 1048) (by decide +kernel)⟩
theorem lw_p25 : lw_okq (⟨"FontPackerModel", "stepX", "(II)I"⟩, 39) := ⟨⟨by decide +kernel, by decide +kernel⟩, List.mem_of_getElem? (i := 859) (by decide +kernel), List.mem_of_getElem? (i := 1051) (by decide +kernel), List.mem_of_getElem? (i := 1052) (by decide +kernel)⟩
theorem lw_p26 : lw_okq (⟨"FontPackerModel", "stepY", "(II)I"⟩, 39) := ⟨⟨by decide +kernel, by decide +kernel⟩, List.mem_of_getElem? (i := 859) (by decide +kernel), List.mem_of_getElem? (i := 1055) (by decide +kernel), List.mem_of_getElem? (i := 1056) (by decide +kernel)⟩
theorem lw_p27 : lw_okq (⟨"FontPackerModel", "flowStep", "(II)V"⟩, 39) := ⟨⟨by decide +kernel, by decide +kernel⟩, List.mem_of_getElem? (i := 859) (by decide +kernel), List.mem_of_getElem? (i := 1062) (by decide +kernel), List.mem_of_getElem? (i := 1063) (by decide +kernel)⟩
theorem lw_p28 : lw_okq (⟨"FontPackerModel", "layTable", "(I)V"⟩, 39) := ⟨⟨by decide +kernel, by decide +kernel⟩, List.mem_of_getElem? (i := 859) (by decide +kernel), List.mem_of_getElem? (i := 1066) (by decide +kernel), List.mem_of_getElem? (i := 1067) (by decide +kernel)⟩
theorem lw_p29 : lw_okq (⟨"FontPackerModel", "lay", "(I)V"⟩, 39) := ⟨⟨by decide +kernel, by decide +kernel⟩, List.mem_of_getElem? (i := 859) (by decide +kernel), List.mem_of_getElem? (i := 1070) (by decide +kernel), List.mem_of_getElem? (i := 1071) (by decide +kernel)⟩
theorem lw_p30 : lw_okq (⟨"FontPackerModel", "layGlyph", "(I)V"⟩, 39) := ⟨⟨by decide +kernel, by decide +kernel⟩, List.mem_of_getElem? (i := 859) (by decide +kernel), List.mem_of_getElem? (i := 1074) (by decide +kernel), List.mem_of_getElem? (i := 1075) (by decide +kernel)⟩
theorem lw_p31 : lw_okq (⟨"FontPackerModel", "flag", "(II)I"⟩, 39) := ⟨⟨by decide +kernel, by decide +kernel⟩, List.mem_of_getElem? (i := 859) (by decide +kernel), List.mem_of_getElem? (i := 1078) (by decide +kernel), List.mem_of_getElem? (i := 1079) (by decide +kernel)⟩
def lw_privs_2 : List (MethodName × Nat) := [(⟨"FontPacker", "refuseMissingGlyph", "(I)V"⟩, 6), (⟨"FontPackerModel", "open", "()Z"⟩, 39), (⟨"FontPackerModel", "add", "(I)V"⟩, 39), (⟨"FontPackerModel", "tables", "()I"⟩, 39), (⟨"FontPackerModel", "has", "(I)Z"⟩, 39), (⟨"FontPackerModel", "flowTable", "(I)V"⟩, 39), (⟨"FontPackerModel", "flow", "(I)V"⟩, 39), (⟨"FontPackerModel", "flowShort", "(I)V"⟩, 39), (⟨"FontPackerModel", "signOf", "(II)I"⟩, 39), (⟨"FontPackerModel", "stepX", "(II)I"⟩, 39), (⟨"FontPackerModel", "stepY", "(II)I"⟩, 39), (⟨"FontPackerModel", "flowStep", "(II)V"⟩, 39), (⟨"FontPackerModel", "layTable", "(I)V"⟩, 39), (⟨"FontPackerModel", "lay", "(I)V"⟩, 39), (⟨"FontPackerModel", "layGlyph", "(I)V"⟩, 39), (⟨"FontPackerModel", "flag", "(II)I"⟩, 39)]
theorem lw_r2 : ∀ q ∈ lw_privs_2, lw_okq q := List.forall_mem_cons.mpr ⟨lw_p16, List.forall_mem_cons.mpr ⟨lw_p17, List.forall_mem_cons.mpr ⟨lw_p18, List.forall_mem_cons.mpr ⟨lw_p19, List.forall_mem_cons.mpr ⟨lw_p20, List.forall_mem_cons.mpr ⟨lw_p21, List.forall_mem_cons.mpr ⟨lw_p22, List.forall_mem_cons.mpr ⟨lw_p23, List.forall_mem_cons.mpr ⟨lw_p24, List.forall_mem_cons.mpr ⟨lw_p25, List.forall_mem_cons.mpr ⟨lw_p26, List.forall_mem_cons.mpr ⟨lw_p27, List.forall_mem_cons.mpr ⟨lw_p28, List.forall_mem_cons.mpr ⟨lw_p29, List.forall_mem_cons.mpr ⟨lw_p30, List.forall_mem_cons.mpr ⟨lw_p31, fun _ h => absurd h List.not_mem_nil⟩⟩⟩⟩⟩⟩⟩⟩⟩⟩⟩⟩⟩⟩⟩⟩
theorem lw_p32 : lw_okq (⟨"FontPackerModel", "layStep", "(I)V"⟩, 39) := ⟨⟨by decide +kernel, by decide +kernel⟩, List.mem_of_getElem? (i := 859) (by decide +kernel), List.mem_of_getElem? (i := 1082) (by decide +kernel), List.mem_of_getElem? (i := 1083) (by decide +kernel)⟩
theorem lw_p33 : lw_okq (⟨"FontPackerModel", "sizeBefore", "(I)I"⟩, 39) := ⟨⟨by decide +kernel, by decide +kernel⟩, List.mem_of_getElem? (i := 859) (by decide +kernel), List.mem_of_getElem? (i := 1086) (by decide +kernel), List.mem_of_getElem? (i := 1087) (by decide +kernel)⟩
theorem lw_p34 : lw_okq (⟨"FontPackerModel", "addLong", "(I)V"⟩, 39) := ⟨⟨by decide +kernel, by decide +kernel⟩, List.mem_of_getElem? (i := 859) (by decide +kernel), List.mem_of_getElem? (i := 1090) (by decide +kernel), List.mem_of_getElem? (i := 1091) (by decide +kernel)⟩
theorem lw_p35 : lw_okq (⟨"FontPackerModel", "compress", "()V"⟩, 39) := ⟨⟨by decide +kernel, by decide +kernel⟩, List.mem_of_getElem? (i := 859) (by decide +kernel), List.mem_of_getElem? (i := 1094) (by decide +kernel), List.mem_of_getElem? (i := 1095) (by decide +kernel)⟩
theorem lw_p36 : lw_okq (⟨"FontPackerModel", "alike", "(II)I"⟩, 39) := ⟨⟨by decide +kernel, by decide +kernel⟩, List.mem_of_getElem? (i := 859) (by decide +kernel), List.mem_of_getElem? (i := 1098) (by decide +kernel), List.mem_of_getElem? (i := 1099) (by decide +kernel)⟩
theorem lw_p37 : lw_okq (⟨"FontPackerModel", "bit", "(I)V"⟩, 39) := ⟨⟨by decide +kernel, by decide +kernel⟩, List.mem_of_getElem? (i := 859) (by decide +kernel), List.mem_of_getElem? (i := 1102) (by decide +kernel), List.mem_of_getElem? (i := 1103) (by decide +kernel)⟩
theorem lw_p38 : lw_okq (⟨"FontPackerModel", "gamma", "(I)V"⟩, 39) := ⟨⟨by decide +kernel, by decide +kernel⟩, List.mem_of_getElem? (i := 859) (by decide +kernel), List.mem_of_getElem? (i := 1106) (by decide +kernel), List.mem_of_getElem? (i := 1107) (by decide +kernel)⟩
theorem lw_p39 : lw_okq (⟨"FontPackerModel", "bits", "(II)V"⟩, 39) := ⟨⟨by decide +kernel, by decide +kernel⟩, List.mem_of_getElem? (i := 859) (by decide +kernel), List.mem_of_getElem? (i := 1110) (by decide +kernel), List.mem_of_getElem? (i := 1111) (by decide +kernel)⟩
theorem lw_p40 : lw_okq (⟨"FontPackerModel", "addFour", "(J)V"⟩, 39) := ⟨⟨by decide +kernel, by decide +kernel⟩, List.mem_of_getElem? (i := 859) (by decide +kernel), List.mem_of_getElem? (i := 1120) (by decide +kernel), List.mem_of_getElem? (i := 1121) (by decide +kernel)⟩
theorem lw_p41 : lw_okq (⟨"FontPackerModel", "readStages", "()I"⟩, 39) := ⟨⟨by decide +kernel, by decide +kernel⟩, List.mem_of_getElem? (i := 859) (by decide +kernel), List.mem_of_getElem? (i := 1129) (by decide +kernel), List.mem_of_getElem? (i := 1130) (by decide +kernel)⟩
theorem lw_p42 : lw_okq (⟨"FontPackerModel", "head", "()I"⟩, 39) := ⟨⟨by decide +kernel, by decide +kernel⟩, List.mem_of_getElem? (i := 859) (by decide +kernel), List.mem_of_getElem? (i := 1133) (by decide +kernel), List.mem_of_getElem? (i := 1134) (by decide +kernel)⟩
theorem lw_p43 : lw_okq (⟨"FontPackerModel", "next", "()I"⟩, 39) := ⟨⟨by decide +kernel, by decide +kernel⟩, List.mem_of_getElem? (i := 859) (by decide +kernel), List.mem_of_getElem? (i := 1137) (by decide +kernel), List.mem_of_getElem? (i := 1138) (by decide +kernel)⟩
theorem lw_p44 : lw_okq (⟨"FontPackerModel", "check", "(Z)V"⟩, 39) := ⟨⟨by decide +kernel, by decide +kernel⟩, List.mem_of_getElem? (i := 859) (by decide +kernel), List.mem_of_getElem? (i := 1141) (by decide +kernel), List.mem_of_getElem? (i := 1142) (by decide +kernel)⟩
theorem lw_p45 : lw_okq (⟨"FontPackerModel", "nextLong", "()I"⟩, 39) := ⟨⟨by decide +kernel, by decide +kernel⟩, List.mem_of_getElem? (i := 859) (by decide +kernel), List.mem_of_getElem? (i := 1145) (by decide +kernel), List.mem_of_getElem? (i := 1146) (by decide +kernel)⟩
theorem lw_p46 : lw_okq (⟨"FontPackerModel", "expand", "(I)V"⟩, 39) := ⟨⟨by decide +kernel, by decide +kernel⟩, List.mem_of_getElem? (i := 859) (by decide +kernel), List.mem_of_getElem? (i := 1149) (by decide +kernel), List.mem_of_getElem? (i := 1150) (by decide +kernel)⟩
theorem lw_p47 : lw_okq (⟨"FontPackerModel", "nextBit", "()I"⟩, 39) := ⟨⟨by decide +kernel, by decide +kernel⟩, List.mem_of_getElem? (i := 859) (by decide +kernel), List.mem_of_getElem? (i := 1153) (by decide +kernel), List.mem_of_getElem? (i := 1154) (by decide +kernel)⟩
def lw_privs_3 : List (MethodName × Nat) := [(⟨"FontPackerModel", "layStep", "(I)V"⟩, 39), (⟨"FontPackerModel", "sizeBefore", "(I)I"⟩, 39), (⟨"FontPackerModel", "addLong", "(I)V"⟩, 39), (⟨"FontPackerModel", "compress", "()V"⟩, 39), (⟨"FontPackerModel", "alike", "(II)I"⟩, 39), (⟨"FontPackerModel", "bit", "(I)V"⟩, 39), (⟨"FontPackerModel", "gamma", "(I)V"⟩, 39), (⟨"FontPackerModel", "bits", "(II)V"⟩, 39), (⟨"FontPackerModel", "addFour", "(J)V"⟩, 39), (⟨"FontPackerModel", "readStages", "()I"⟩, 39), (⟨"FontPackerModel", "head", "()I"⟩, 39), (⟨"FontPackerModel", "next", "()I"⟩, 39), (⟨"FontPackerModel", "check", "(Z)V"⟩, 39), (⟨"FontPackerModel", "nextLong", "()I"⟩, 39), (⟨"FontPackerModel", "expand", "(I)V"⟩, 39), (⟨"FontPackerModel", "nextBit", "()I"⟩, 39)]
theorem lw_r3 : ∀ q ∈ lw_privs_3, lw_okq q := List.forall_mem_cons.mpr ⟨lw_p32, List.forall_mem_cons.mpr ⟨lw_p33, List.forall_mem_cons.mpr ⟨lw_p34, List.forall_mem_cons.mpr ⟨lw_p35, List.forall_mem_cons.mpr ⟨lw_p36, List.forall_mem_cons.mpr ⟨lw_p37, List.forall_mem_cons.mpr ⟨lw_p38, List.forall_mem_cons.mpr ⟨lw_p39, List.forall_mem_cons.mpr ⟨lw_p40, List.forall_mem_cons.mpr ⟨lw_p41, List.forall_mem_cons.mpr ⟨lw_p42, List.forall_mem_cons.mpr ⟨lw_p43, List.forall_mem_cons.mpr ⟨lw_p44, List.forall_mem_cons.mpr ⟨lw_p45, List.forall_mem_cons.mpr ⟨lw_p46, List.forall_mem_cons.mpr ⟨lw_p47, fun _ h => absurd h List.not_mem_nil⟩⟩⟩⟩⟩⟩⟩⟩⟩⟩⟩⟩⟩⟩⟩⟩
theorem lw_p48 : lw_okq (⟨"FontPackerModel", "nextBits", "(I)I"⟩, 39) := ⟨⟨by decide +kernel, by decide +kernel⟩, List.mem_of_getElem? (i := 859) (by decide +kernel), List.mem_of_getElem? (i := 1157) (by decide +kernel), List.mem_of_getElem? (i := 1158) (by decide +kernel)⟩
theorem lw_p49 : lw_okq (⟨"FontPackerModel", "nextGamma", "()I"⟩, 39) := ⟨⟨by decide +kernel, by decide +kernel⟩, List.mem_of_getElem? (i := 859) (by decide +kernel), List.mem_of_getElem? (i := 1161) (by decide +kernel), List.mem_of_getElem? (i := 1162) (by decide +kernel)⟩
theorem lw_p50 : lw_okq (⟨"FontPackerModel", "takeTables", "()V"⟩, 39) := ⟨⟨by decide +kernel, by decide +kernel⟩, List.mem_of_getElem? (i := 859) (by decide +kernel), List.mem_of_getElem? (i := 1165) (by decide +kernel), List.mem_of_getElem? (i := 1166) (by decide +kernel)⟩
theorem lw_p51 : lw_okq (⟨"FontPackerModel", "takeGlyphs", "()V"⟩, 39) := ⟨⟨by decide +kernel, by decide +kernel⟩, List.mem_of_getElem? (i := 859) (by decide +kernel), List.mem_of_getElem? (i := 1169) (by decide +kernel), List.mem_of_getElem? (i := 1170) (by decide +kernel)⟩
theorem lw_p52 : lw_okq (⟨"FontPackerModel", "takeSizes", "(I)V"⟩, 39) := ⟨⟨by decide +kernel, by decide +kernel⟩, List.mem_of_getElem? (i := 859) (by decide +kernel), List.mem_of_getElem? (i := 1173) (by decide +kernel), List.mem_of_getElem? (i := 1174) (by decide +kernel)⟩
theorem lw_p53 : lw_okq (⟨"FontPackerModel", "nextShort", "()I"⟩, 39) := ⟨⟨by decide +kernel, by decide +kernel⟩, List.mem_of_getElem? (i := 859) (by decide +kernel), List.mem_of_getElem? (i := 1177) (by decide +kernel), List.mem_of_getElem? (i := 1178) (by decide +kernel)⟩
theorem lw_p54 : lw_okq (⟨"FontPackerModel", "takeStep", "(II)V"⟩, 39) := ⟨⟨by decide +kernel, by decide +kernel⟩, List.mem_of_getElem? (i := 859) (by decide +kernel), List.mem_of_getElem? (i := 1181) (by decide +kernel), List.mem_of_getElem? (i := 1182) (by decide +kernel)⟩
theorem lw_p55 : lw_okq (⟨"FontPackerModel", "takeAdvances", "()V"⟩, 39) := ⟨⟨by decide +kernel, by decide +kernel⟩, List.mem_of_getElem? (i := 859) (by decide +kernel), List.mem_of_getElem? (i := 1185) (by decide +kernel), List.mem_of_getElem? (i := 1186) (by decide +kernel)⟩
theorem lw_p56 : lw_okq (⟨"FontPackerModel", "takeRow", "(I)V"⟩, 39) := ⟨⟨by decide +kernel, by decide +kernel⟩, List.mem_of_getElem? (i := 859) (by decide +kernel), List.mem_of_getElem? (i := 1189) (by decide +kernel), List.mem_of_getElem? (i := 1190) (by decide +kernel)⟩
theorem lw_p57 : lw_okq (⟨"FontPackerModel", "exchange", "()V"⟩, 39) := ⟨⟨by decide +kernel, by decide +kernel⟩, List.mem_of_getElem? (i := 859) (by decide +kernel), List.mem_of_getElem? (i := 1193) (by decide +kernel), List.mem_of_getElem? (i := 1194) (by decide +kernel)⟩
theorem lw_p58 : lw_okq (⟨"FontPackerModel", "asLong", "()Z"⟩, 39) := ⟨⟨by decide +kernel, by decide +kernel⟩, List.mem_of_getElem? (i := 859) (by decide +kernel), List.mem_of_getElem? (i := 1200) (by decide +kernel), List.mem_of_getElem? (i := 1201) (by decide +kernel)⟩
theorem lw_p59 : lw_okq (⟨"FontPackerModel", "fail", "(I)I"⟩, 39) := ⟨⟨by decide +kernel, by decide +kernel⟩, List.mem_of_getElem? (i := 859) (by decide +kernel), List.mem_of_getElem? (i := 1228) (by decide +kernel), List.mem_of_getElem? (i := 1229) (by decide +kernel)⟩
def lw_privs_4 : List (MethodName × Nat) := [(⟨"FontPackerModel", "nextBits", "(I)I"⟩, 39), (⟨"FontPackerModel", "nextGamma", "()I"⟩, 39), (⟨"FontPackerModel", "takeTables", "()V"⟩, 39), (⟨"FontPackerModel", "takeGlyphs", "()V"⟩, 39), (⟨"FontPackerModel", "takeSizes", "(I)V"⟩, 39), (⟨"FontPackerModel", "nextShort", "()I"⟩, 39), (⟨"FontPackerModel", "takeStep", "(II)V"⟩, 39), (⟨"FontPackerModel", "takeAdvances", "()V"⟩, 39), (⟨"FontPackerModel", "takeRow", "(I)V"⟩, 39), (⟨"FontPackerModel", "exchange", "()V"⟩, 39), (⟨"FontPackerModel", "asLong", "()Z"⟩, 39), (⟨"FontPackerModel", "fail", "(I)I"⟩, 39)]
theorem lw_r4 : ∀ q ∈ lw_privs_4, lw_okq q := List.forall_mem_cons.mpr ⟨lw_p48, List.forall_mem_cons.mpr ⟨lw_p49, List.forall_mem_cons.mpr ⟨lw_p50, List.forall_mem_cons.mpr ⟨lw_p51, List.forall_mem_cons.mpr ⟨lw_p52, List.forall_mem_cons.mpr ⟨lw_p53, List.forall_mem_cons.mpr ⟨lw_p54, List.forall_mem_cons.mpr ⟨lw_p55, List.forall_mem_cons.mpr ⟨lw_p56, List.forall_mem_cons.mpr ⟨lw_p57, List.forall_mem_cons.mpr ⟨lw_p58, List.forall_mem_cons.mpr ⟨lw_p59, fun _ h => absurd h List.not_mem_nil⟩⟩⟩⟩⟩⟩⟩⟩⟩⟩⟩⟩
def lw_privs : List (MethodName × Nat) := lw_privs_1 ++ (lw_privs_2 ++ (lw_privs_3 ++ (lw_privs_4)))
def lw_tbl : List Cond := k2_sels lw_privs ++ tables_1
theorem lw_privs_ok : ∀ q ∈ lw_privs, lw_okq q := by
  show ∀ q ∈ lw_privs_1 ++ (lw_privs_2 ++ (lw_privs_3 ++ (lw_privs_4))), lw_okq q
  exact List.forall_mem_append.mpr ⟨lw_r1, List.forall_mem_append.mpr ⟨lw_r2, List.forall_mem_append.mpr ⟨lw_r3, lw_r4⟩⟩⟩
-- ===== end of PART A; then your names; then what follows =====
end
section
/-! The search through a method's table of handlers, past rows that name other classes: own rows (the rounds' library ends short of the shelf where such laws lie; names lx_). -/
def lx_pass (pl : Platform) (s₀ : State) (d : ClassId) (pc : Nat) (thrown : ClassId) (y : ExceptionTableEntry) : Prop :=
  covers y pc = false ∨ (y.catchType ≠ 0 ∧ ∃ c, s₀.vm.ClassLinks pl d y.catchType c ∧ s₀.vm.assignable thrown c = false)
def lx_to (e : Env) (S : State) (f : JFrame) (a : Addr) (rows : List ExceptionTableEntry) (h : Handler) (vm' : Vm) : Prop :=
  ∀ (Q : Handler → Pre) (E : CtlPost) (d : Bool) (acts : List Action), wp (findHandler.go f a rows) Q E e d acts S ↔ Q h d acts (S.setVm vm')
theorem lx_row {Q : Handler → Pre} {E : CtlPost} {e : Env} {d : Bool} {acts : List Action} {s : State} {f : JFrame} {a : Addr} {x : ExceptionTableEntry} {t : List ExceptionTableEntry} {c : ClassId} {cell : Cell} (hx : covers x f.pc = true) (h0 : x.catchType ≠ 0)
    (hl : s.vm.ClassLinks e.platform f.method.cls x.catchType c) (hcell : s.heap[a]? = some cell) (hobj : ∀ k, cell.vm ≠ .statics k)
    (hk : ∃ k, s.vm.classes[cell.cls]? = some k) (hc : ∃ k, s.vm.classes[c]? = some k) :
    (s.vm.assignable cell.cls c = true → (wp (findHandler.go f a (x :: t)) Q E e d acts s ↔ Q (.found x.handlerPc) d acts (s.setVm (s.vm.noted f.method.cls x.catchType (.cls c))))) ∧
    (s.vm.assignable cell.cls c = false → (wp (findHandler.go f a (x :: t)) Q E e d acts s ↔ wp (findHandler.go f a t) Q E e d acts (s.setVm (s.vm.noted f.method.cls x.catchType (.cls c))))) := by
  simp only [covers] at hx
  obtain ⟨ha, ht⟩ := (resolveClass_links e.toSetting hl).op (op := VmOp.resolveClass f.method.cls x.catchType) rfl
  have hal : s.vm.Alike (s.vm.noted f.method.cls x.catchType (.cls c)) := (Vm.Alike.refl s.vm).noted _ _ _
  obtain ⟨k1, hk1⟩ := hk
  obtain ⟨k2, hk2⟩ := hc
  obtain ⟨k1', hk1', -⟩ := hal.2.2 _ _ hk1
  obtain ⟨k2', hk2', -⟩ := hal.2.2 _ _ hk2
  refine ⟨fun h => ?_, fun h => ?_⟩
  · have h' : (s.vm.noted f.method.cls x.catchType (.cls c)).assignable cell.cls c = true := by rw [hal.assignable]; exact h
    simp [findHandler.go, hx, h0, ha, ht, hcell, hobj, hk1', hk2', h', VmOp.dirties, VmOp.acts]
  · have h' : (s.vm.noted f.method.cls x.catchType (.cls c)).assignable cell.cls c = false := by rw [hal.assignable]; exact h
    simp [findHandler.go, hx, h0, ha, ht, hcell, hobj, hk1', hk2', h', VmOp.dirties, VmOp.acts]
theorem lx_go {e : Env} {s₀ : State} {f : JFrame} {a : Addr} {cell : Cell} {h : Handler} {tail : List ExceptionTableEntry} (hobj : ∀ k, cell.vm ≠ .statics k) (hk0 : ∃ k, s₀.vm.classes[cell.cls]? = some k)
    (hend : ∀ S : State, s₀.WarmedH S.vm → S.heap[a]? = some cell → ∃ vm', s₀.WarmedH vm' ∧ lx_to e S f a tail h vm') :
    ∀ (pre : List ExceptionTableEntry) (S : State), s₀.WarmedH S.vm → S.heap[a]? = some cell → (∀ y ∈ pre, lx_pass e.platform s₀ f.method.cls f.pc cell.cls y) → ∃ vm', s₀.WarmedH vm' ∧ lx_to e S f a (pre ++ tail) h vm' := by
  obtain ⟨k0, hk0⟩ := hk0
  intro pre
  induction pre with
  | nil => intro S hW hcell _; exact hend S hW hcell
  | cons y ys ih =>
    intro S hW hcell hpass
    obtain ⟨k0', hk0', -⟩ := hW.alike.2.2 _ _ hk0
    have hrest : ∀ z ∈ ys, lx_pass e.platform s₀ f.method.cls f.pc cell.cls z := fun z hz => hpass z (List.mem_cons_of_mem _ hz)
    by_cases hcov : covers y f.pc = true
    · rcases hpass y List.mem_cons_self with h1 | ⟨h0, c, hl, hno⟩
      · rw [h1] at hcov; cases hcov
      · obtain ⟨dk, _, _, kt, hd, _, _, _, _, hkt, _, hopen⟩ := hl.here
        obtain ⟨kt', hkt', -⟩ := hW.alike.2.2 _ _ hkt
        obtain ⟨vm', hW', hq⟩ := ih (S.setVm (S.vm.noted f.method.cls y.catchType (.cls c))) (hW.noted hd hopen (State.rightAt_cls hl)) hcell hrest
        exact ⟨vm', hW', fun Q E d acts => by
          rw [List.cons_append, (lx_row hcov h0 (hW.classLinks hl) hcell hobj ⟨k0', hk0'⟩ ⟨kt', hkt'⟩).2 (by rw [hW.alike.assignable]; exact hno)]
          exact hq Q E d acts⟩
    · obtain ⟨vm', hW', hq⟩ := ih S hW hcell hrest
      exact ⟨vm', hW', fun Q E d acts => by
        rw [List.cons_append, Jvm.W.findHandler_go_skip (by simpa using hcov)]
        exact hq Q E d acts⟩
section LX
variable {p : Program} {l : Launch} {e : Env} {R : Room} {s : State} {m₀ : MethodId} {args : Array Value} {below : List Frame} {meth : Method} {c : Code} {T : State} {locs : List Loc} {cells slots : Nat}
theorem lx_caught (X : Stand p l e R s m₀ args below meth c T locs cells slots) (a : Addr) {g : JFrame} (hg : g.method = m₀) {s₀ : State} (hcome : Steps p.tables e below s₀ ((T.setTop g).pushFrame (.throwing a)))
    {cell : Cell} (hcell : T.heap[a]? = some cell) (hobj : cell.vm.isStatics = false) (hk0 : ∃ k, s.vm.classes[cell.cls]? = some k)
    (pre : List ExceptionTableEntry) (x : ExceptionTableEntry) (rest : List ExceptionTableEntry) (hsplit : c.exceptionTable.toList = pre ++ x :: rest)
    (hpass : ∀ y ∈ pre, lx_pass e.platform s m₀.cls g.pc cell.cls y) (hx : covers x g.pc = true) (h0 : x.catchType ≠ 0) {ct : ClassId} (hl : s.vm.ClassLinks e.platform m₀.cls x.catchType ct) (hfit : s.vm.assignable cell.cls ct = true) :
    ∃ vm', Stand p l e R s m₀ args below meth c (T.setVm vm') locs cells slots ∧ Steps p.tables e below s₀ ((T.setVm vm').setTop { g with pc := x.handlerPc, stack := [.ref a] }) := by
  subst hg
  have hobj' : ∀ k, cell.vm ≠ .statics k := VmData.ne_statics_of hobj
  obtain ⟨vm', hW', hq⟩ := lx_go (e := e) (s₀ := s) (f := g) (a := a) (cell := cell) (h := .found x.handlerPc) (tail := x :: rest) hobj' hk0 (fun S hW hc => by
    obtain ⟨k0, hk0⟩ := hk0
    obtain ⟨k0', hk0', -⟩ := hW.alike.2.2 _ _ hk0
    obtain ⟨dk, _, _, kt, hd, _, _, _, _, hkt, _, hopen⟩ := hl.here
    obtain ⟨kt', hkt', -⟩ := hW.alike.2.2 _ _ hkt
    exact ⟨_, hW.noted hd hopen (State.rightAt_cls hl), fun Q E d acts => (lx_row hx h0 (hW.classLinks hl) hc hobj' ⟨k0', hk0'⟩ ⟨kt', hkt'⟩).1 (by rw [hW.alike.assignable]; exact hfit)⟩) pre ((T.setTop g).pushFrame (.throwing a)) X.warmed hcell hpass
  have hf : ∀ (Q : Handler → Pre) (E : CtlPost) (d : Bool) (acts : List Action), wp (findHandler g a) Q E e d acts ((T.setTop g).pushFrame (.throwing a)) ↔ Q (.found x.handlerPc) d acts (((T.setTop g).pushFrame (.throwing a)).setVm vm') := fun Q E d acts => by
    rw [Jvm.W.findHandler_eq (s := (T.setTop g).pushFrame (.throwing a)) X.method' X.code, hsplit]; exact hq Q E d acts
  refine ⟨vm', X.noted hW', hcome.trans ?_⟩
  have hA := X.here
  obtain ⟨hgo, hw⟩ := hA.throwing (g := g) a
  refine Steps.head hgo hw ?_
  have key : (stepThrowing e ((T.setTop g).pushFrame (.throwing a)) a (.java g :: (T.frames).tail)).Is ((((T.setTop g).pushFrame (.throwing a)).setVm vm').setFrames (.java { g with pc := x.handlerPc, stack := [.ref a] } :: (T.frames).tail)) [] := by
    simp only [stepThrowing, searchFrame, vmDo]
    generalize hr : Sem.go _ e false [] ((T.setTop g).pushFrame (.throwing a)) = res
    obtain ⟨as, rfl, ha⟩ := Sem.eq_ok_of hr (a := Handler.found x.handlerPc) (s' := ((T.setTop g).pushFrame (.throwing a)).setVm vm') (acts' := []) (by simp [hf _ _ _ _])
    exact ⟨rfl, ha⟩
  rw [stepThread_throwing (frames_entered hA.top _), key.1]
  obtain ⟨g₀, hg0⟩ := Option.isSome_iff_exists.mp hA.top
  obtain ⟨r, hr⟩ := State.topJava?_eq_some.mp hg0
  have hr' : (T.setVm vm').frames = .java g₀ :: r := hr
  rw [State.setTop_of_frames _ hr', hr, List.tail_cons, State.pushFrame, State.setTop_of_frames _ hr]
  have h1 : ∀ (u : State) (F G : List Frame), ((u.setFrames F).setVm vm').setFrames G = (u.setVm vm').setFrames G := fun u F G => by
    rw [show (u.setFrames F).setVm vm' = (u.setVm vm').setFrames F from rfl, State.setFrames_setFrames]
  rw [h1, h1]
  exact Steps.refl _
theorem lx_out (X : Stand p l e R s m₀ args below meth c T locs cells slots) (hlocks : meth.locks = false) (a : Addr) {g : JFrame} (hg : g.method = m₀) (hlocked : g.locked = none) (hentered : g.entered = []) {cell : Cell} (hcell : T.heap[a]? = some cell) (hobj : cell.vm.isStatics = false)
    (hk0 : ∃ k, s.vm.classes[cell.cls]? = some k) (hpass : ∀ y ∈ c.exceptionTable.toList, lx_pass e.platform s m₀.cls g.pc cell.cls y) :
    ∃ vm', s.WarmedH vm' ∧ Stand p l e R s m₀ args below meth c (T.setVm vm') locs cells slots ∧ Steps p.tables e below (T.setFrames (.throwing a :: .java g :: below)) ((T.setVm vm').setFrames (.throwing a :: below)) := by
  subst hg
  obtain ⟨g₀, hg0⟩ := Option.isSome_iff_exists.mp X.here.top
  obtain ⟨rr, hrr⟩ := State.topJava?_eq_some.mp hg0
  have hcur : T.cur < T.threads.size := State.cur_lt_of_frames hrr
  generalize hZ : T.setFrames (.throwing a :: .java g :: below) = Z
  have hF : Z.frames = .throwing a :: .java g :: below := by rw [← hZ]; exact State.frames_setFrames _ hcur
  obtain ⟨vm', hW', hq⟩ := lx_go (e := e) (s₀ := s) (f := g) (a := a) (cell := cell) (h := .none) (tail := []) (VmData.ne_statics_of hobj) hk0 (fun S hW _ => ⟨S.vm, hW, fun Q E d acts => by rw [State.setVm_self]; simp [findHandler.go]⟩) c.exceptionTable.toList Z (by rw [← hZ]; exact X.warmed) (by rw [← hZ]; exact hcell) hpass
  have hf : ∀ (Q : Handler → Pre) (E : CtlPost) (d : Bool) (acts : List Action), wp (findHandler g a) Q E e d acts Z ↔ Q .none d acts (Z.setVm vm') := fun Q E d acts => by
    rw [Jvm.W.findHandler_eq (s := Z) (by rw [← hZ]; exact X.method') X.code]; have h2 := hq Q E d acts; rw [List.append_nil] at h2; exact h2
  refine ⟨vm', hW', X.noted hW', ?_⟩
  have hm : vm'.method? g.method = some meth := by rw [hW'.alike.method?]; exact X.method
  have hgo : Z.goesOn := by rw [← hZ]; exact ⟨X.here.running, by rw [State.curStatus?_setFrames]; exact X.here.runnable, by rw [State.alone_setFrames]; exact X.here.alone⟩
  refine Steps.head hgo ⟨.throwing a :: .java g :: [], by rw [hF]; rfl, by simp, by simp⟩ ?_
  have key : (stepThrowing e Z a (.java g :: below)).1 = (Z.setVm vm').setFrames (.throwing a :: below) := by
    simp only [stepThrowing, searchFrame, vmDo]
    generalize hr : Sem.go _ e false [] Z = res
    obtain ⟨x, s', as, hgo, ha, hs'⟩ := First.eq_ok_of' (P := fun x s' => x = Handler.none ∧ s' = Z.setVm vm') hr
      (by cases hp : e.platform.frameOwnsMonitors <;> simp [hf _ _ _ _, hm, hlocks, hlocked, hentered, hp, leaveIfLocked])
    subst ha; subst hs'; rw [hgo]
  rw [stepThread_throwing hF, key, ← hZ, First.setVm_setFrames]
  exact Steps.refl _
theorem lx_push (X : Stand p l e R s m₀ args below meth c T locs cells slots) (g : JFrame) (a : Addr) : (T.setTop g).pushFrame (.throwing a) = T.setFrames (.throwing a :: .java g :: below) := by
  obtain ⟨g₀, hr⟩ := X.frames_eq
  have hcur : T.cur < T.threads.size := State.cur_lt_of_frames hr
  rw [State.pushFrame, State.setTop_of_frames _ hr, State.frames_setFrames _ hcur, State.setFrames_setFrames]
end LX
end
section
/-! ===== BEGIN words of one list among another's, by their places ===== -/
theorem goodIn_r {big : List Cond} (ws : List Cond) (ps : List Nat) (hp : ws = ps.filterMap (fun i => big[i]?)) (h : ws.all goodWord = true) : GoodIn big ws := by
  intro w hw
  have h1 := List.all_eq_true.mp h w hw
  rw [hp] at hw
  obtain ⟨i, -, hi⟩ := List.mem_filterMap.mp hw
  have hm : w ∈ big := by first | exact List.mem_of_getElem? hi | exact List.getElem?_mem hi
  exact ⟨hm, good_of_word h1⟩
theorem goodIn_app {big a b : List Cond} (ha : GoodIn big a) (hb : GoodIn big b) : GoodIn big (a ++ b) := fun w h => (List.mem_append.mp h).elim (ha w) (hb w)
theorem goodIn_ca {big a b : List Cond} {c : Cond} (ha : GoodIn big (c :: a)) (hb : GoodIn big b) : GoodIn big (c :: (a ++ b)) := fun w h => (List.mem_cons.mp h).elim (fun e => ha w (List.mem_cons.mpr (Or.inl e))) (fun h => (List.mem_append.mp h).elim (fun h => ha w (List.mem_cons.mpr (Or.inr h))) (hb w))
theorem goodIn_sub {big ws : List Cond} (hm : ∀ w ∈ ws, w ∈ big) (h : ws.all goodWord = true) : GoodIn big ws := fun w hw => ⟨hm w hw, good_of_word (List.all_eq_true.mp h w hw)⟩
/-! ===== END ===== -/

/-! ===== BEGIN exceptions that leave a method, and their catching by the caller (launches without stack traces) ===== -/
section VXA
/-! The laws vx_back, vx_callV, vx_callS, vx_callSW, vx_throw0, vx_throwS follow proofs of the library, with one case more: JvmDerived/Free/Laws.lean (Back.of_free), Shelf42/LK1.lean (callV, callS), Shelf/KitTraced.lean (throwNew0V, throwNewS). -/

/-- where a method has thrown q: the class by its name, the cell, what was written, the world -/
def vx_T (XC : String → State → State → Prop) (st : State) (q : Addr) (t : State) (mc ms : Nat) (free : Addr → Prop) : Prop :=
  ∃ (E : String) (ce : Cell) (L : List Loc), XC E st t ∧ t.heap[q]? = some ce ∧ ce.vm = .none ∧ st.vm.findClass E = some ce.cls ∧ st.WarmedH t.vm ∧ st.sameButNew ({ t with vm := st.vm } : State) L mc ms ∧ ∀ z ∈ L, free z.base
def vx_Q (Qc : Array Value → State → Outcome → State → Prop) (XC : String → State → State → Prop) (mc ms : Nat) (free : Addr → Prop) : Array Value → State → Outcome → State → Prop := fun a st o t =>
  (Qc a st o t ∧ ∃ L, FrameEnd st o t L mc ms ∧ ∀ q ∈ L, free q.base) ∨ ∃ q, o = .threw q ∧ vx_T XC st q t mc ms free
/-- a callee that returns or throws -/
def vx_Met (l : Launch) (y : MethodName) (ws : List Cond) (rm : Room) (Pc : Array Value → State → Prop) (Qc : Array Value → State → Outcome → State → Prop) (XC : String → State → State → Prop) (mc ms : Nat) (free : Addr → Prop) : Prop :=
  MetFree l y (headSpec ws rm) Pc (fun _ _ _ _ _ => True) (vx_Q Qc XC mc ms free)
def vx_Post (XC : String → State → State → Prop) (mc ms : Nat) (free : Addr → Prop) : Pt → Array Value → Addr → Pt → Prop := fun A a q B =>
  ∃ (g : JFrame) (mk : MethodId) (t : State) (L : List Loc) (E : String) (ce : Cell), B.U.heap = t.heap ∧ B.U.vm = t.vm ∧ XC E (A.U.calling g mk a) t ∧ t.heap[q]? = some ce ∧ ce.vm = .none ∧ A.U.vm.findClass E = some ce.cls ∧ B.locs = A.locs ++ L ∧ (∀ z ∈ L, free z.base) ∧ B.cells = A.cells + mc ∧ B.slots = A.slots + ms
def vx_Back (l : Launch) (R : Room) (p : Program) (e : Env) (below : List Frame) (s : State) (sargs : Array Value) (y : MethodName) (len W9 : Nat)
    (Pre : Pt → Array Value → Prop) (Post : Pt → Array Value → Option Value → Pt → Prop) (PostX : Pt → Array Value → Addr → Pt → Prop) : Prop :=
  ∀ (m : MethodId) (meth : Method) (c : Code) (A : Pt) (g : JFrame) (ig : Instr) (mk : MethodId) (a : Array Value),
    Stand p l e R s m sargs below meth c A.U A.locs A.cells A.slots → g.method = m → g.locals.size = c.maxLocals → decode c.code g.pc = .ok (ig, len) →
    2 * g.monitorRoom + (g.stack.map fun v => v.category).sum ≤ W9 → A.U.methodNamed? y = some mk → Pre A a →
    (∃ (v : Option Value) (B : Pt), Stand p l e R s m sargs below meth c B.U B.locs B.cells B.slots ∧ Post A a v B ∧
      Steps p.tables e below (doInvoke e (A.U.setTop g) [] mk a).1 (B.U.setTop { g with pc := g.pc + len, stack := v.toList ++ g.stack })) ∨
    (∃ (q : Addr) (B : Pt), Stand p l e R s m sargs below meth c B.U B.locs B.cells B.slots ∧ PostX A a q B ∧
      Steps p.tables e below (doInvoke e (A.U.setTop g) [] mk a).1 ((B.U.setTop g).pushFrame (.throwing q)))
section Payer
variable {l : Launch} {R : Room} {p : Program} {e : Env} {below : List Frame} {s : State} {sargs : Array Value} {y : MethodName} {len W9 : Nat}
theorem vx_back {ws : List Cond} {rm : Room} {Pc : Array Value → State → Prop} {Qc : Array Value → State → Outcome → State → Prop} {XC : String → State → State → Prop} {mc ms : Nat} {free : Addr → Prop} {bytes : ByteArray} {maxL : Nat} {ret : Option FieldType}
    (hM : vx_Met l y ws rm Pc Qc XC mc ms free) (hblind : FrameBlind Pc) (hrc : rm.cells = mc) (hrs : rm.slots = ms)
    (hframes : rm.frames + 1 ≤ R.frames) (hlocals : W9 + (maxL + 11) + rm.locals ≤ R.locals)
    (hws : ∀ w ∈ ws, ∀ a' U, s.WarmedH U.vm → w.before a' U = true) (hcode : Cond.code y bytes maxL ret ∈ ws) (hinit : ∀ a' U, s.WarmedH U.vm → (Cond.initialized y.cls).before a' U = true) :
    vx_Back l R p e below s sargs y len W9 (PreOf R mc ms Pc) (PostOf Qc mc ms free) (vx_Post XC mc ms free) := by
  intro m meth c A g ig mk a X hg hsize hdg hW hn hp
  have h1 : (headSpec ws rm).pre.before a A.U = true := atoms_intro fun w hw => hws w hw _ _ X.warmed
  have h2 : (Cond.code y bytes maxL ret).before a A.U = true := hws _ hcode _ _ X.warmed
  have h3 : (Cond.initialized y.cls).before a A.U = true := hinit _ _ X.warmed
  have h4 : A.cells + (headSpec ws rm).room.cells ≤ R.cells := by rw [show (headSpec ws rm).room.cells = mc from hrc]; exact hp.1
  have h5 : A.slots + (headSpec ws rm).room.slots ≤ R.slots := by rw [show (headSpec ws rm).room.slots = ms from hrs]; exact hp.2.1
  have hPc : Pc a (A.U.calling g mk a) := hblind _ _ _ _ hp.2.2
  obtain ⟨U, Ls, c0, s0⟩ := A
  dsimp only [Pt.U, Pt.locs, Pt.cells, Pt.slots] at h1 h2 h3 h4 h5 X hn hPc ⊢
  obtain ⟨methY, cY, hmY, hcY, -, hlY, -, -, -, -⟩ := Cond.code_spec hn h2
  obtain ⟨kY, hkY, -⟩ := className_of_methodNamed hn
  have hinitY : kY.init = .initialized := Cond.initialized_spec (findClass_of_methodNamed hn) hkY h3
  have h : At U g.method c below := by rw [hg]; exact X.here
  have hlocals9 : W9 + (maxL + 11) + (headSpec ws rm).room.locals ≤ R.locals := hlocals
  have happ : (headSpec ws rm).appliesLoose y e.platform (U.calling g mk a) = true :=
    Spec.appliesLoose_calling (g := g) h hdg hn hkY hinitY
      (X.room_calling (g := g) (R' := (headSpec ws rm).room) hsize hmY hcY hframes (by rw [hlY]; omega) h4 h5) h1
  obtain ⟨mid, hmid⟩ := h.above
  have hfr : (U.setTop g).frames = (.java g :: mid) ++ below := by rw [State.frames_setTop' g h.top, hmid]; rfl
  obtain ⟨o, s₂, hsteps, -, hend, hq⟩ := Steps.callFree hM p X.admits X.cas X.clock (acts := []) hfr happ hPc trivial
  have hq' : vx_Q Qc XC mc ms free a (U.calling g mk a) o s₂ := hq
  rw [State.frames_setTop' g h.top] at hend
  obtain ⟨g₀, hg0⟩ := Option.isSome_iff_exists.mp h.top
  obtain ⟨r, hr⟩ := State.topJava?_eq_some.mp hg0
  have hr' : (({ U with heap := s₂.heap, slotsUsed := s₂.slotsUsed } : State).setVm s₂.vm).frames = .java g₀ :: r := hr
  rcases hq' with ⟨hqc, L, hfe, hL⟩ | ⟨q, rfl, E, ce, L, hx, hce, hcv, hcl, hW₂, hsm, hL⟩
  · obtain ⟨⟨v, rfl⟩, hW₂, e2, q2, q3, q4, q5, q6⟩ := id hfe
    have e3 : s₂ = ({ (U.calling g mk a).setFrames s₂.frames with heap := s₂.heap, slotsUsed := s₂.slotsUsed } : State).setVm s₂.vm := by
      have : s₂ = ({ s₂ with vm := (U.calling g mk a).vm } : State).setVm s₂.vm := rfl
      rw [e2] at this
      exact this
    obtain ⟨c₂, i₂, len₂, hc₂, hd₂, hf₂⟩ := hend
    have hW' : U.WarmedH s₂.vm := hW₂
    have hcc : c₂ = c := by
      have h1 : s₂.code? g.method = U.code? g.method := by
        rw [State.code?_eq, State.code?_eq, hW'.alike.method?]
      exact Option.some.inj (hc₂.symm.trans (h1.trans h.code))
    subst hcc
    have hlen : len₂ = len := by rw [hdg] at hd₂; cases hd₂; rfl
    subst hlen
    have hs₂ : s₂ = (({ U with heap := s₂.heap, slotsUsed := s₂.slotsUsed } : State).setVm s₂.vm).setTop { g with pc := g.pc + len₂, stack := v.toList ++ g.stack } := by
      refine e3.trans ?_
      rw [hf₂, State.calling_eq h.top, State.setFrames_setFrames, State.setTop_of_frames _ hr', hr]
      rfl
    have hsame : U.sameButNew ({ U with heap := s₂.heap, slotsUsed := s₂.slotsUsed } : State) L mc ms := by
      refine ⟨?_, q2, q3, q4, q5, q6⟩
      obtain ⟨t, ht, -⟩ := State.frames_cons hr
      show ({ U with heap := s₂.heap, slotsUsed := s₂.slotsUsed } : State) = { U.setFrames U.frames with heap := s₂.heap, slotsUsed := s₂.slotsUsed }
      rw [State.setFrames_self ht]
    subst hg
    refine Or.inl ⟨v, ⟨(({ U with heap := s₂.heap, slotsUsed := s₂.slotsUsed } : State).setVm s₂.vm), Ls ++ L, c0 + mc, s0 + ms⟩,
      ⟨X.admits, X.cas, X.clock, X.frames, X.room, X.hears, X.method, X.code, (X.here.setHeapUsed s₂.heap s₂.slotsUsed).setVm hW'.alike, X.tail, State.WarmedH.trans X.warmed hW', X.limits, X.bytes, X.same.trans (hsame.setVm s.vm)⟩,
      ⟨g, mk, s₂, L, rfl, rfl, hqc, rfl, hL, rfl, rfl⟩, ?_⟩
    show Steps p.tables e below _ ((({ U with heap := s₂.heap, slotsUsed := s₂.slotsUsed } : State).setVm s₂.vm).setTop { g with pc := g.pc + len₂, stack := v.toList ++ g.stack })
    rw [← hs₂]
    exact hsteps
  · obtain ⟨e2, q2, q3, q4, q5, q6⟩ := id hsm
    have e3 : s₂ = ({ (U.calling g mk a).setFrames s₂.frames with heap := s₂.heap, slotsUsed := s₂.slotsUsed } : State).setVm s₂.vm := by
      have : s₂ = ({ s₂ with vm := (U.calling g mk a).vm } : State).setVm s₂.vm := rfl
      rw [e2] at this
      exact this
    have hf₂ : s₂.frames = .throwing q :: .java g :: U.frames.tail := hend
    have hW' : U.WarmedH s₂.vm := hW₂
    have hs₂ : s₂ = ((({ U with heap := s₂.heap, slotsUsed := s₂.slotsUsed } : State).setVm s₂.vm).setTop g).pushFrame (.throwing q) := by
      refine e3.trans ?_
      rw [hf₂, State.calling_eq h.top, State.setFrames_setFrames, State.pushFrame, State.frames_setTop _ hr', State.setTop_of_frames _ hr', State.setFrames_setFrames, hr]
      rfl
    have hsame : U.sameButNew ({ U with heap := s₂.heap, slotsUsed := s₂.slotsUsed } : State) L mc ms := by
      refine ⟨?_, q2, q3, q4, q5, q6⟩
      obtain ⟨t, ht, -⟩ := State.frames_cons hr
      show ({ U with heap := s₂.heap, slotsUsed := s₂.slotsUsed } : State) = { U.setFrames U.frames with heap := s₂.heap, slotsUsed := s₂.slotsUsed }
      rw [State.setFrames_self ht]
    subst hg
    refine Or.inr ⟨q, ⟨(({ U with heap := s₂.heap, slotsUsed := s₂.slotsUsed } : State).setVm s₂.vm), Ls ++ L, c0 + mc, s0 + ms⟩,
      ⟨X.admits, X.cas, X.clock, X.frames, X.room, X.hears, X.method, X.code, (X.here.setHeapUsed s₂.heap s₂.slotsUsed).setVm hW'.alike, X.tail, State.WarmedH.trans X.warmed hW', X.limits, X.bytes, X.same.trans (hsame.setVm s.vm)⟩,
      ⟨g, mk, s₂, L, E, ce, rfl, rfl, hx, hce, hcv, hcl, rfl, hL, rfl, rfl⟩, ?_⟩
    show Steps p.tables e below _ (((({ U with heap := s₂.heap, slotsUsed := s₂.slotsUsed } : State).setVm s₂.vm).setTop g).pushFrame (.throwing q))
    rw [← hs₂]
    exact hsteps
end Payer
section Calls
variable {p : Program} {l : Launch} {e : Env} {R : Room} {s : State} {m : MethodId} {args : Array Value} {below : List Frame} {meth : Method} {c : Code} {T : State} {locs : List Loc} {cells slots : Nat}
theorem vx_callV (X : Stand p l e R s m args below meth c T locs cells slots) (hexec : p.tables.exec = Jvm.exec) {own C : String} {index : Nat} {y : MethodName} {bytes : ByteArray} {maxL : Nat} {ret : Option FieldType}
    (hown : s.vm.findClass own = some m.cls) (hlink : (Cond.methodLink own index y).before args s = true) (hinst : (Cond.instanceMethod y).before args s = true) (hsel : (Cond.selects C y y).before args s = true)
    (hcode : (Cond.code y bytes maxL ret).before args s = true) (hy : y.cls ≠ "java/lang/invoke/MethodHandle" ∧ y.cls ≠ "java/lang/invoke/VarHandle")
    {W9 : Nat} {Pre : Pt → Array Value → Prop} {Post : Pt → Array Value → Option Value → Pt → Prop} {PostX : Pt → Array Value → Addr → Pt → Prop} (hK : vx_Back l R p e below s args y 3 W9 Pre Post PostX)
    {b : Addr} {cellB : Cell} (hcell : T.heap[b]? = some cellB) (hobj : cellB.vm.isStatics = false) (hcls : s.vm.findClass C = some cellB.cls)
    {g : JFrame} (hg : g.method = m) (hsize : g.locals.size = c.maxLocals) {argsL rest : List Value} (hlen : ∀ sig, parseMethodDescriptor y.desc = some sig → argsL.length = sig.parameters.length)
    (hstack : g.stack = argsL.reverse ++ .ref b :: rest) (hW : 2 * g.monitorRoom + (rest.map fun v => v.category).sum ≤ W9) (hdg : decode c.code g.pc = .ok (.invokevirtual index, 3))
    (hpre : ∀ vm₁, s.WarmedH vm₁ → Pre ⟨T.setVm vm₁, locs, cells, slots⟩ (Value.ref b :: argsL).toArray) :
    (∃ (v : Option Value) (vm₁ : Vm) (B : Pt), s.WarmedH vm₁ ∧ Stand p l e R s m args below meth c B.U B.locs B.cells B.slots ∧ Post ⟨T.setVm vm₁, locs, cells, slots⟩ (Value.ref b :: argsL).toArray v B ∧
      ∀ target, Steps p.tables e below (B.U.setTop { g with pc := g.pc + 3, stack := v.toList ++ rest }) target → Steps p.tables e below (T.setTop g) target) ∨
    (∃ (q : Addr) (vm₁ : Vm) (B : Pt), s.WarmedH vm₁ ∧ Stand p l e R s m args below meth c B.U B.locs B.cells B.slots ∧ PostX ⟨T.setVm vm₁, locs, cells, slots⟩ (Value.ref b :: argsL).toArray q B ∧
      Steps p.tables e below (T.setTop g) ((B.U.setTop { g with stack := rest }).pushFrame (.throwing q))) := by
  obtain ⟨mk, methM, hnamed, hmethM, hstM, habM⟩ := Cond.instanceMethod_spec hinst
  obtain ⟨methM', cM, hmethM', -, -, -, -, -, -, hsigM⟩ := Cond.code_spec hnamed hcode
  cases hmethM.symm.trans hmethM'
  obtain ⟨c2, r2, m2, q1, q2, q3, q4, kP, hkP, hkPi⟩ := Cond.selects_spec hsel
  cases hcls.symm.trans q1
  cases (State.methodFound?_of_named hnamed hy).symm.trans q2
  cases hnamed.symm.trans q3
  have hselP : selectMethod e.platform s.vm cellB.cls mk = .method mk := by rw [Launch.admits_selectMethod X.admits]; exact q4
  obtain ⟨vm₁, X₁, hstep₁⟩ := X.invokevirtual hexec hown hlink hnamed hmethM hstM hkP hkPi hy (a := b) (cell := cellB) hcell
    (fun z h => by rw [h] at hobj; cases hobj) hselP hmethM habM hkP hkPi (g := g) hg (argsL := argsL) (rest := rest) (hlen _ hsigM) hstack hdg
  rcases hK m meth c ⟨T.setVm vm₁, locs, cells, slots⟩ { g with stack := rest } (.invokevirtual index) mk (Value.ref b :: argsL).toArray X₁ hg hsize hdg hW (X₁.named hnamed) (hpre vm₁ X₁.warmed) with ⟨v, B, X', hpost, hsteps⟩ | ⟨q, B, X', hpost, hsteps⟩
  · exact Or.inl ⟨v, vm₁, B, X₁.warmed, X', hpost, fun target h => hstep₁ _ fun acts => by rw [doInvoke_state]; exact hsteps.trans h⟩
  · exact Or.inr ⟨q, vm₁, B, X₁.warmed, X', hpost, hstep₁ _ fun acts => by rw [doInvoke_state]; exact hsteps⟩
theorem vx_callS (X : Stand p l e R s m args below meth c T locs cells slots) (hexec : p.tables.exec = Jvm.exec) {own : String} {index : Nat} {y : MethodName} {bytes : ByteArray} {maxL : Nat} {ret : Option FieldType}
    (hown : s.vm.findClass own = some m.cls) (hlink : (Cond.methodLink own index y).before args s = true) (hstat : (Cond.static y).before args s = true) (hinit : (Cond.initialized y.cls).before args s = true)
    (hcode : (Cond.code y bytes maxL ret).before args s = true) (hy : y.cls ≠ "java/lang/invoke/MethodHandle" ∧ y.cls ≠ "java/lang/invoke/VarHandle")
    {W9 : Nat} {Pre : Pt → Array Value → Prop} {Post : Pt → Array Value → Option Value → Pt → Prop} {PostX : Pt → Array Value → Addr → Pt → Prop} (hK : vx_Back l R p e below s args y 3 W9 Pre Post PostX)
    {g : JFrame} (hg : g.method = m) (hsize : g.locals.size = c.maxLocals) {argsL rest : List Value} (hlen : ∀ sig, parseMethodDescriptor y.desc = some sig → argsL.length = sig.parameters.length)
    (hstack : g.stack = argsL.reverse ++ rest) (hW : 2 * g.monitorRoom + (rest.map fun v => v.category).sum ≤ W9) (hdg : decode c.code g.pc = .ok (.invokestatic index, 3))
    (hpre : ∀ vm₁, s.WarmedH vm₁ → Pre ⟨T.setVm vm₁, locs, cells, slots⟩ argsL.toArray) :
    (∃ (v : Option Value) (vm₁ : Vm) (B : Pt), s.WarmedH vm₁ ∧ Stand p l e R s m args below meth c B.U B.locs B.cells B.slots ∧ Post ⟨T.setVm vm₁, locs, cells, slots⟩ argsL.toArray v B ∧
      ∀ target, Steps p.tables e below (B.U.setTop { g with pc := g.pc + 3, stack := v.toList ++ rest }) target → Steps p.tables e below (T.setTop g) target) ∨
    (∃ (q : Addr) (vm₁ : Vm) (B : Pt), s.WarmedH vm₁ ∧ Stand p l e R s m args below meth c B.U B.locs B.cells B.slots ∧ PostX ⟨T.setVm vm₁, locs, cells, slots⟩ argsL.toArray q B ∧
      Steps p.tables e below (T.setTop g) ((B.U.setTop { g with stack := rest }).pushFrame (.throwing q))) := by
  obtain ⟨mk, hnamed⟩ := Cond.code_named hcode
  obtain ⟨methM, cM, hmethM, -, -, -, -, -, -, hsigM⟩ := Cond.code_spec hnamed hcode
  have hstatic : methM.isStatic = true := Cond.static_spec hnamed hmethM hstat
  obtain ⟨kP, hkP, -⟩ := className_of_methodNamed hnamed
  have hinitP : kP.init = .initialized := Cond.initialized_spec (findClass_of_methodNamed hnamed) hkP hinit
  obtain ⟨vm₁, X₁, hstep₁⟩ := X.invokestatic hexec hown hlink hnamed hmethM hstatic hkP hinitP hy (g := g) hg (argsL := argsL) (rest := rest) (hlen _ hsigM) hstack hdg
  rcases hK m meth c ⟨T.setVm vm₁, locs, cells, slots⟩ { g with stack := rest } (.invokestatic index) mk argsL.toArray X₁ hg hsize hdg hW (X₁.named hnamed) (hpre vm₁ X₁.warmed) with ⟨v, B, X', hpost, hsteps⟩ | ⟨q, B, X', hpost, hsteps⟩
  · exact Or.inl ⟨v, vm₁, B, X₁.warmed, X', hpost, fun target h => hstep₁ _ fun acts => by rw [doInvoke_state]; exact hsteps.trans h⟩
  · exact Or.inr ⟨q, vm₁, B, X₁.warmed, X', hpost, hstep₁ _ fun acts => by rw [doInvoke_state]; exact hsteps⟩
end Calls
theorem vx_cls {s : State} {T : State} {vm₁ : Vm} {E : String} {k : ClassId} (hW : s.WarmedH vm₁) (h : (T.setVm vm₁).vm.findClass E = some k) : s.vm.findClass E = some k := by
  have h1 : vm₁.findClass E = some k := h
  rw [hW.alike.findClass] at h1
  exact h1
/-- the method's frame g, with q thrown over it -/
def vx_W (p : Program) (l : Launch) (e : Env) (R : Room) (s : State) (m : MethodId) (args : Array Value) (below : List Frame) (meth : Method) (c : Code) (H : Heap) (locs : List Loc) (cells slots : Nat) (Q : State → Prop) (g : JFrame) (q : Addr) : Prop :=
  ∀ T : State, T.heap = H → Stand p l e R s m args below meth c T locs cells slots → ∃ t, Steps p.tables e below ((T.setTop g).pushFrame (.throwing q)) t ∧ Q t
def vx_Run (p : Program) (l : Launch) (e : Env) (R : Room) (s : State) (m : MethodId) (args : Array Value) (below : List Frame) (meth : Method) (c : Code) (H : Heap) (locs : List Loc) (cells slots mc ms : Nat) (g : JFrame) (rest : List Value) (Qa : State → Outcome → State → Prop) (XC : String → State → State → Prop) (free : Addr → Prop) : Prop :=
  ∀ T : State, T.heap = H → Stand p l e R s m args below meth c T locs cells slots →
    (∃ (v : Option Value) (st₀ t T' : State) (L : List Loc), st₀.heap = H ∧ Stand p l e R s m args below meth c T' (locs ++ L) (cells + mc) (slots + ms) ∧ (∀ q ∈ L, free q.base) ∧ T'.heap = t.heap ∧ T'.vm = t.vm ∧ Qa st₀ (.returned v) t ∧
      Goes p e below T g T' { g with pc := g.pc + 3, stack := v.toList ++ rest }) ∨
    (∃ (q : Addr) (st₀ t T' : State) (L : List Loc) (E : String) (ce : Cell), st₀.heap = H ∧ Stand p l e R s m args below meth c T' (locs ++ L) (cells + mc) (slots + ms) ∧ (∀ z ∈ L, free z.base) ∧ T'.heap = t.heap ∧ T'.vm = t.vm ∧ XC E st₀ t ∧ t.heap[q]? = some ce ∧ ce.vm = .none ∧ s.vm.findClass E = some ce.cls ∧
      Steps p.tables e below (T.setTop g) ((T'.setTop { g with stack := rest }).pushFrame (.throwing q)))
def vx_X {S : Type} (px : S → Prop) (B : String → S → State → Prop) (A : Nat → Prop) : String → State → State → Prop := fun E st t => ∃ u : S, px u ∧ B E u t ∧ va_F A st t
section Runs
variable {p : Program} {l : Launch} {e : Env} {R : Room} {s : State} {m : MethodId} {args : Array Value} {below : List Frame} {meth : Method} {c : Code} {H : Heap} {locs : List Loc} {cells slots : Nat}
variable {y : MethodName} {bytes cc : ByteArray} {maxL nL mc ms n index : Nat} {ret : Option FieldType} {ws : List Cond} {rm : Room} {Pc : Array Value → State → Prop} {Qc : Array Value → State → Outcome → State → Prop} {XC : String → State → State → Prop} {free : Addr → Prop} {Ts : List Cond} {own C : String} {b : Addr} {As rest : List Value} {g : JFrame}
theorem vx_callBack (cb : CallB R s args own index y bytes maxL ret ws rm mc ms n) (hM : vx_Met l y ws rm Pc Qc XC mc ms free) (hbl : FrameBlind Pc) : vx_Back l R p e below s args y 3 8 (PreOf R mc ms Pc) (PostOf Qc mc ms free) (vx_Post XC mc ms free) := by
  obtain ⟨hrc, hrs, hfr, hlo, hws, hcw, -, hini, -⟩ := cb
  exact vx_back (bytes := bytes) (maxL := maxL) (ret := ret) hM hbl hrc hrs hfr hlo hws hcw (fun a' U hW => word_at hW (Or.inl (by first | rfl | simp [Cond.onTables, Cond.keeps, Cond.steady])) hini)
theorem vx_runV (S : CallFix p m c cc nL s args Ts own) (hM : vx_Met l y ws rm Pc Qc XC mc ms free) (cw : CallW R s args own C index y bytes maxL ret ws rm mc ms n) (hp : PreV s H C b Pc As)
    (hg : g.method = m) (hn : As.length = n) (hsize : g.locals.size = nL) (hstack : g.stack = As.reverse ++ .ref b :: rest) (hW : 2 * g.monitorRoom + (rest.map fun v => v.category).sum ≤ 8) (hdg : decode cc g.pc = .ok (.invokevirtual index, 3)) (hf : cells + mc ≤ R.cells ∧ slots + ms ≤ R.slots) :
    vx_Run p l e R s m args below meth c H locs cells slots mc ms g rest (Qc (Value.ref b :: As).toArray) XC free := by
  have hK : vx_Back l R p e below s args y 3 8 (PreOf R mc ms Pc) (PostOf Qc mc ms free) (vx_Post XC mc ms free) := vx_callBack cw.1 hM hp.1
  obtain ⟨⟨-, -, -, -, -, -, hcode, -, hy, hlen, hl⟩, hin, hse⟩ := cw
  obtain ⟨hx, hb, hml, ho, -⟩ := S
  obtain ⟨-, ⟨cellB, hcB, hoB, hclB⟩, hPc⟩ := hp
  intro T hT X
  rcases vx_callV X hx (C := C) (bytes := bytes) (maxL := maxL) (ret := ret) ho hl hin hse hcode hy hK (by rw [hT]; exact hcB) hoB hclB hg (hsize.trans hml.symm) (argsL := As) (rest := rest) (fun sig h => hn.trans (hlen sig h)) hstack hW (by rw [hb]; exact hdg)
    (fun vm₁ hW₁ => ⟨hf.1, hf.2, hPc (T.setVm vm₁) hT hW₁⟩) with ⟨v, vm₁, ⟨U', l2, c2, s2⟩, hW₁, X', ⟨g', mk, t, L, e1, e2, hq, h1, hL, h2, h3⟩, st⟩ | ⟨q, vm₁, ⟨U', l2, c2, s2⟩, hW₁, X', ⟨g', mk, t, L, E, ce, e1, e2, hq, hce, hcv, hcl, h1, hL, h2, h3⟩, st⟩
  · dsimp only [Pt.U, Pt.locs, Pt.cells, Pt.slots] at X' e1 e2 h1 h2 h3 st
    subst h1; subst h2; subst h3
    exact Or.inl ⟨v, (T.setVm vm₁).calling g' mk (Value.ref b :: As).toArray, t, U', L, hT, X', hL, e1, e2, hq, st⟩
  · dsimp only [Pt.U, Pt.locs, Pt.cells, Pt.slots] at X' e1 e2 h1 h2 h3 st hcl
    subst h1; subst h2; subst h3
    exact Or.inr ⟨q, (T.setVm vm₁).calling g' mk (Value.ref b :: As).toArray, t, U', L, E, ce, hT, X', hL, e1, e2, hq, hce, hcv, vx_cls hW₁ hcl, st⟩
theorem vx_runS (S : CallFix p m c cc nL s args Ts own) (hM : vx_Met l y ws rm Pc Qc XC mc ms free) (cw : CallB R s args own index y bytes maxL ret ws rm mc ms n ∧ (Cond.static y).before args s = true) (hp : PreS s H Pc As)
    (hg : g.method = m) (hn : As.length = n) (hsize : g.locals.size = nL) (hstack : g.stack = As.reverse ++ rest) (hW : 2 * g.monitorRoom + (rest.map fun v => v.category).sum ≤ 8) (hdg : decode cc g.pc = .ok (.invokestatic index, 3)) (hf : cells + mc ≤ R.cells ∧ slots + ms ≤ R.slots) :
    vx_Run p l e R s m args below meth c H locs cells slots mc ms g rest (Qc As.toArray) XC free := by
  have hK : vx_Back l R p e below s args y 3 8 (PreOf R mc ms Pc) (PostOf Qc mc ms free) (vx_Post XC mc ms free) := vx_callBack cw.1 hM hp.1
  obtain ⟨⟨-, -, -, -, -, -, hcode, hini, hy, hlen, hl⟩, hstt⟩ := cw
  obtain ⟨hx, hb, hml, ho, -⟩ := S
  intro T hT X
  rcases vx_callS X hx (bytes := bytes) (maxL := maxL) (ret := ret) ho hl hstt hini hcode hy hK hg (hsize.trans hml.symm) (argsL := As) (rest := rest) (fun sig h => hn.trans (hlen sig h)) hstack hW (by rw [hb]; exact hdg)
    (fun vm₁ hW₁ => ⟨hf.1, hf.2, hp.2 (T.setVm vm₁) hT hW₁⟩) with ⟨v, vm₁, ⟨U', l2, c2, s2⟩, hW₁, X', ⟨g', mk, t, L, e1, e2, hq, h1, hL, h2, h3⟩, st⟩ | ⟨q, vm₁, ⟨U', l2, c2, s2⟩, hW₁, X', ⟨g', mk, t, L, E, ce, e1, e2, hq, hce, hcv, hcl, h1, hL, h2, h3⟩, st⟩
  · dsimp only [Pt.U, Pt.locs, Pt.cells, Pt.slots] at X' e1 e2 h1 h2 h3 st
    subst h1; subst h2; subst h3
    exact Or.inl ⟨v, (T.setVm vm₁).calling g' mk As.toArray, t, U', L, hT, X', hL, e1, e2, hq, st⟩
  · dsimp only [Pt.U, Pt.locs, Pt.cells, Pt.slots] at X' e1 e2 h1 h2 h3 st hcl
    subst h1; subst h2; subst h3
    exact Or.inr ⟨q, (T.setVm vm₁).calling g' mk As.toArray, t, U', L, E, ce, hT, X', hL, e1, e2, hq, hce, hcv, vx_cls hW₁ hcl, st⟩
end Runs
section Rows
variable {p : Program} {l : Launch} {e : Env} {R : Room} {s : State} {m : MethodId} {args : Array Value} {below : List Frame} {meth : Method} {c : Code} {H : Heap} {locs : List Loc} {cells slots : Nat} {Q : State → Prop}
variable {mc ms : Nat} {free : Addr → Prop} {A0 A1 : Nat → Prop} {H0 : Heap} {a : Array Value} {pc : Nat} {ls : Array Slot} {st0 rest : List Value}
theorem vx_keep {st₀ t T' : State} {L : List Loc} (h0 : st₀.heap = H) (e1 : T'.heap = t.heap) (hS : va_S A0 H0 H locs) (hA : ∀ q, q < H.size → A1 q → A0 q) (hf : ∀ q, free q → A0 q) (hL : ∀ q ∈ L, free q.base) (hF : va_F A1 st₀ t) :
    H.size ≤ T'.heap.size ∧ (∀ q : Nat, q < H.size → ¬ A1 q → T'.heap[q]? = H[q]?) ∧ va_S A0 H0 T'.heap (locs ++ L) := by
  obtain ⟨hz, hk⟩ := hF
  rw [h0] at hz hk
  exact ⟨by rw [e1]; exact hz, fun q h1 h2 => by rw [e1]; exact hk q h1 h2,
    ⟨Nat.le_trans hS.1 (by rw [e1]; exact hz), fun q h1 h2 => by rw [e1, hk q (Nat.lt_of_lt_of_le h1 hS.1) (fun z => h2 (hA q (Nat.lt_of_lt_of_le h1 hS.1) z))]; exact hS.2.1 q h1 h2, fun q hq => by
      rcases List.mem_append.mp hq with h | h
      · exact hS.2.2 q h
      · exact hf _ (hL q h)⟩⟩
theorem vx_calli {S SX : Type} {post : Int32 → S → Prop} {px : SX → Prop} {B : S → State → Prop} {BX : String → SX → State → Prop} {AX : Nat → Prop} (hr : vx_Run p l e R s m args below meth c H locs cells slots mc ms (F0 m pc ls st0) rest (va_Qi post B A1 a) (vx_X px BX AX) free) (hS : va_S A0 H0 H locs) (hA : ∀ q, q < H.size → A1 q → A0 q) (hf : ∀ q, free q → A0 q) (hAX : ∀ q, q < H.size → AX q → A0 q)
    (kx : ∀ (E : String) (ce : Cell) (q9 : Addr) (u : SX) (t : State) (H1 : Heap) (locs1 : List Loc), t.heap = H1 → s.vm.Alike t.vm → px u → BX E u t → H.size ≤ H1.size → (∀ q : Nat, q < H.size → ¬ AX q → H1[q]? = H[q]?) → va_S A0 H0 H1 locs1 → H1[q9]? = some ce → ce.vm = .none → s.vm.findClass E = some ce.cls → vx_W p l e R s m args below meth c H1 locs1 (cells + mc) (slots + ms) Q (F0 m pc ls rest) q9)
    (kk : ∀ (r : Int32) (u : S) (t : State) (H1 : Heap) (locs1 : List Loc), t.heap = H1 → s.vm.Alike t.vm → post r u → B u t → H.size ≤ H1.size → (∀ q : Nat, q < H.size → ¬ A1 q → H1[q]? = H[q]?) → va_S A0 H0 H1 locs1 → W p l e R s m args below meth c H1 locs1 (cells + mc) (slots + ms) Q (F0 m (pc + 3) ls (.int r :: rest))) : W p l e R s m args below meth c H locs cells slots Q (F0 m pc ls st0) := by
  intro T hT X
  rcases hr T hT X with ⟨v, st₀, t, T', L, h0, X', hL, e1, e2, ⟨⟨r, u, hv, hp, hb⟩, hF⟩, st⟩ | ⟨q, st₀, t, T', L, E, ce, h0, X', hL, e1, e2, ⟨u, hp, hb, hF⟩, hce, hcv, hcl, st⟩
  · cases hv
    obtain ⟨k1, k2, k3⟩ := vx_keep h0 e1 hS hA hf hL hF
    obtain ⟨t2, a1, b1⟩ := kk r u t T'.heap (locs ++ L) e1.symm (by rw [← e2]; exact X'.warmed.alike) hp hb k1 k2 k3 T' rfl X'
    exact ⟨t2, st t2 a1, b1⟩
  · obtain ⟨k1, k2, k3⟩ := vx_keep h0 e1 hS hAX hf hL hF
    obtain ⟨t2, a1, b1⟩ := kx E ce q u t T'.heap (locs ++ L) e1.symm (by rw [← e2]; exact X'.warmed.alike) hp hb k1 k2 k3 (by rw [e1]; exact hce) hcv hcl T' rfl X'
    exact ⟨t2, st.trans a1, b1⟩
theorem vx_calll {S SX : Type} {post : Int64 → S → Prop} {px : SX → Prop} {B : S → State → Prop} {BX : String → SX → State → Prop} {AX : Nat → Prop} (hr : vx_Run p l e R s m args below meth c H locs cells slots mc ms (F0 m pc ls st0) rest (va_Ql post B A1 a) (vx_X px BX AX) free) (hS : va_S A0 H0 H locs) (hA : ∀ q, q < H.size → A1 q → A0 q) (hf : ∀ q, free q → A0 q) (hAX : ∀ q, q < H.size → AX q → A0 q)
    (kx : ∀ (E : String) (ce : Cell) (q9 : Addr) (u : SX) (t : State) (H1 : Heap) (locs1 : List Loc), t.heap = H1 → s.vm.Alike t.vm → px u → BX E u t → H.size ≤ H1.size → (∀ q : Nat, q < H.size → ¬ AX q → H1[q]? = H[q]?) → va_S A0 H0 H1 locs1 → H1[q9]? = some ce → ce.vm = .none → s.vm.findClass E = some ce.cls → vx_W p l e R s m args below meth c H1 locs1 (cells + mc) (slots + ms) Q (F0 m pc ls rest) q9)
    (kk : ∀ (r : Int64) (u : S) (t : State) (H1 : Heap) (locs1 : List Loc), t.heap = H1 → s.vm.Alike t.vm → post r u → B u t → H.size ≤ H1.size → (∀ q : Nat, q < H.size → ¬ A1 q → H1[q]? = H[q]?) → va_S A0 H0 H1 locs1 → W p l e R s m args below meth c H1 locs1 (cells + mc) (slots + ms) Q (F0 m (pc + 3) ls (.long r :: rest))) : W p l e R s m args below meth c H locs cells slots Q (F0 m pc ls st0) := by
  intro T hT X
  rcases hr T hT X with ⟨v, st₀, t, T', L, h0, X', hL, e1, e2, ⟨⟨r, u, hv, hp, hb⟩, hF⟩, st⟩ | ⟨q, st₀, t, T', L, E, ce, h0, X', hL, e1, e2, ⟨u, hp, hb, hF⟩, hce, hcv, hcl, st⟩
  · cases hv
    obtain ⟨k1, k2, k3⟩ := vx_keep h0 e1 hS hA hf hL hF
    obtain ⟨t2, a1, b1⟩ := kk r u t T'.heap (locs ++ L) e1.symm (by rw [← e2]; exact X'.warmed.alike) hp hb k1 k2 k3 T' rfl X'
    exact ⟨t2, st t2 a1, b1⟩
  · obtain ⟨k1, k2, k3⟩ := vx_keep h0 e1 hS hAX hf hL hF
    obtain ⟨t2, a1, b1⟩ := kx E ce q u t T'.heap (locs ++ L) e1.symm (by rw [← e2]; exact X'.warmed.alike) hp hb k1 k2 k3 (by rw [e1]; exact hce) hcv hcl T' rfl X'
    exact ⟨t2, st.trans a1, b1⟩
theorem vx_callf {S SX : Type} {post : UInt32 → S → Prop} {px : SX → Prop} {B : S → State → Prop} {BX : String → SX → State → Prop} {AX : Nat → Prop} (hr : vx_Run p l e R s m args below meth c H locs cells slots mc ms (F0 m pc ls st0) rest (va_Qf post B A1 a) (vx_X px BX AX) free) (hS : va_S A0 H0 H locs) (hA : ∀ q, q < H.size → A1 q → A0 q) (hf : ∀ q, free q → A0 q) (hAX : ∀ q, q < H.size → AX q → A0 q)
    (kx : ∀ (E : String) (ce : Cell) (q9 : Addr) (u : SX) (t : State) (H1 : Heap) (locs1 : List Loc), t.heap = H1 → s.vm.Alike t.vm → px u → BX E u t → H.size ≤ H1.size → (∀ q : Nat, q < H.size → ¬ AX q → H1[q]? = H[q]?) → va_S A0 H0 H1 locs1 → H1[q9]? = some ce → ce.vm = .none → s.vm.findClass E = some ce.cls → vx_W p l e R s m args below meth c H1 locs1 (cells + mc) (slots + ms) Q (F0 m pc ls rest) q9)
    (kk : ∀ (r : UInt32) (u : S) (t : State) (H1 : Heap) (locs1 : List Loc), t.heap = H1 → s.vm.Alike t.vm → post r u → B u t → H.size ≤ H1.size → (∀ q : Nat, q < H.size → ¬ A1 q → H1[q]? = H[q]?) → va_S A0 H0 H1 locs1 → W p l e R s m args below meth c H1 locs1 (cells + mc) (slots + ms) Q (F0 m (pc + 3) ls (.float r :: rest))) : W p l e R s m args below meth c H locs cells slots Q (F0 m pc ls st0) := by
  intro T hT X
  rcases hr T hT X with ⟨v, st₀, t, T', L, h0, X', hL, e1, e2, ⟨⟨r, u, hv, hp, hb⟩, hF⟩, st⟩ | ⟨q, st₀, t, T', L, E, ce, h0, X', hL, e1, e2, ⟨u, hp, hb, hF⟩, hce, hcv, hcl, st⟩
  · cases hv
    obtain ⟨k1, k2, k3⟩ := vx_keep h0 e1 hS hA hf hL hF
    obtain ⟨t2, a1, b1⟩ := kk r u t T'.heap (locs ++ L) e1.symm (by rw [← e2]; exact X'.warmed.alike) hp hb k1 k2 k3 T' rfl X'
    exact ⟨t2, st t2 a1, b1⟩
  · obtain ⟨k1, k2, k3⟩ := vx_keep h0 e1 hS hAX hf hL hF
    obtain ⟨t2, a1, b1⟩ := kx E ce q u t T'.heap (locs ++ L) e1.symm (by rw [← e2]; exact X'.warmed.alike) hp hb k1 k2 k3 (by rw [e1]; exact hce) hcv hcl T' rfl X'
    exact ⟨t2, st.trans a1, b1⟩
theorem vx_calld {S SX : Type} {post : UInt64 → S → Prop} {px : SX → Prop} {B : S → State → Prop} {BX : String → SX → State → Prop} {AX : Nat → Prop} (hr : vx_Run p l e R s m args below meth c H locs cells slots mc ms (F0 m pc ls st0) rest (va_Qd post B A1 a) (vx_X px BX AX) free) (hS : va_S A0 H0 H locs) (hA : ∀ q, q < H.size → A1 q → A0 q) (hf : ∀ q, free q → A0 q) (hAX : ∀ q, q < H.size → AX q → A0 q)
    (kx : ∀ (E : String) (ce : Cell) (q9 : Addr) (u : SX) (t : State) (H1 : Heap) (locs1 : List Loc), t.heap = H1 → s.vm.Alike t.vm → px u → BX E u t → H.size ≤ H1.size → (∀ q : Nat, q < H.size → ¬ AX q → H1[q]? = H[q]?) → va_S A0 H0 H1 locs1 → H1[q9]? = some ce → ce.vm = .none → s.vm.findClass E = some ce.cls → vx_W p l e R s m args below meth c H1 locs1 (cells + mc) (slots + ms) Q (F0 m pc ls rest) q9)
    (kk : ∀ (r : UInt64) (u : S) (t : State) (H1 : Heap) (locs1 : List Loc), t.heap = H1 → s.vm.Alike t.vm → post r u → B u t → H.size ≤ H1.size → (∀ q : Nat, q < H.size → ¬ A1 q → H1[q]? = H[q]?) → va_S A0 H0 H1 locs1 → W p l e R s m args below meth c H1 locs1 (cells + mc) (slots + ms) Q (F0 m (pc + 3) ls (.double r :: rest))) : W p l e R s m args below meth c H locs cells slots Q (F0 m pc ls st0) := by
  intro T hT X
  rcases hr T hT X with ⟨v, st₀, t, T', L, h0, X', hL, e1, e2, ⟨⟨r, u, hv, hp, hb⟩, hF⟩, st⟩ | ⟨q, st₀, t, T', L, E, ce, h0, X', hL, e1, e2, ⟨u, hp, hb, hF⟩, hce, hcv, hcl, st⟩
  · cases hv
    obtain ⟨k1, k2, k3⟩ := vx_keep h0 e1 hS hA hf hL hF
    obtain ⟨t2, a1, b1⟩ := kk r u t T'.heap (locs ++ L) e1.symm (by rw [← e2]; exact X'.warmed.alike) hp hb k1 k2 k3 T' rfl X'
    exact ⟨t2, st t2 a1, b1⟩
  · obtain ⟨k1, k2, k3⟩ := vx_keep h0 e1 hS hAX hf hL hF
    obtain ⟨t2, a1, b1⟩ := kx E ce q u t T'.heap (locs ++ L) e1.symm (by rw [← e2]; exact X'.warmed.alike) hp hb k1 k2 k3 (by rw [e1]; exact hce) hcv hcl T' rfl X'
    exact ⟨t2, st.trans a1, b1⟩
theorem vx_callv {S SX : Type} {post : S → Prop} {px : SX → Prop} {B : S → State → Prop} {BX : String → SX → State → Prop} {AX : Nat → Prop} (hr : vx_Run p l e R s m args below meth c H locs cells slots mc ms (F0 m pc ls st0) rest (va_Qv post B A1 a) (vx_X px BX AX) free) (hS : va_S A0 H0 H locs) (hA : ∀ q, q < H.size → A1 q → A0 q) (hf : ∀ q, free q → A0 q) (hAX : ∀ q, q < H.size → AX q → A0 q)
    (kx : ∀ (E : String) (ce : Cell) (q9 : Addr) (u : SX) (t : State) (H1 : Heap) (locs1 : List Loc), t.heap = H1 → s.vm.Alike t.vm → px u → BX E u t → H.size ≤ H1.size → (∀ q : Nat, q < H.size → ¬ AX q → H1[q]? = H[q]?) → va_S A0 H0 H1 locs1 → H1[q9]? = some ce → ce.vm = .none → s.vm.findClass E = some ce.cls → vx_W p l e R s m args below meth c H1 locs1 (cells + mc) (slots + ms) Q (F0 m pc ls rest) q9)
    (kk : ∀ (u : S) (t : State) (H1 : Heap) (locs1 : List Loc), t.heap = H1 → s.vm.Alike t.vm → post u → B u t → H.size ≤ H1.size → (∀ q : Nat, q < H.size → ¬ A1 q → H1[q]? = H[q]?) → va_S A0 H0 H1 locs1 → W p l e R s m args below meth c H1 locs1 (cells + mc) (slots + ms) Q (F0 m (pc + 3) ls (rest))) : W p l e R s m args below meth c H locs cells slots Q (F0 m pc ls st0) := by
  intro T hT X
  rcases hr T hT X with ⟨v, st₀, t, T', L, h0, X', hL, e1, e2, ⟨⟨u, hv, hp, hb⟩, hF⟩, st⟩ | ⟨q, st₀, t, T', L, E, ce, h0, X', hL, e1, e2, ⟨u, hp, hb, hF⟩, hce, hcv, hcl, st⟩
  · cases hv
    obtain ⟨k1, k2, k3⟩ := vx_keep h0 e1 hS hA hf hL hF
    obtain ⟨t2, a1, b1⟩ := kk u t T'.heap (locs ++ L) e1.symm (by rw [← e2]; exact X'.warmed.alike) hp hb k1 k2 k3 T' rfl X'
    exact ⟨t2, st t2 a1, b1⟩
  · obtain ⟨k1, k2, k3⟩ := vx_keep h0 e1 hS hAX hf hL hF
    obtain ⟨t2, a1, b1⟩ := kx E ce q u t T'.heap (locs ++ L) e1.symm (by rw [← e2]; exact X'.warmed.alike) hp hb k1 k2 k3 (by rw [e1]; exact hce) hcv hcl T' rfl X'
    exact ⟨t2, st.trans a1, b1⟩
/-- caught by the row x of this method's table; the rows ahead don't take it -/
theorem vx_catch {own name : String} {E : String} {ce : Cell} {q : Addr} (hown : s.vm.findClass own = some m.cls) (pre : List ExceptionTableEntry) (x : ExceptionTableEntry) (suf : List ExceptionTableEntry) (hsplit : c.exceptionTable.toList = pre ++ x :: suf)
    (hpass : ∀ z ∈ pre, covers z pc = false ∨ (z.catchType ≠ 0 ∧ ∃ nm : String, (Cond.classLink own z.catchType nm).before args s = true ∧ va_Nc E nm s)) (hx : covers x pc = true) (h0 : x.catchType ≠ 0)
    (hlink : (Cond.classLink own x.catchType name).before args s = true) (hcast : (Cond.castable E name).before args s = true) (hcell : H[q]? = some ce) (hv : ce.vm = .none) (hcl : s.vm.findClass E = some ce.cls)
    (kk : W p l e R s m args below meth c H locs cells slots Q (F0 m x.handlerPc ls [.ref q])) : vx_W p l e R s m args below meth c H locs cells slots Q (F0 m pc ls rest) q := by
  intro T hT X
  have hpl : e.platform.magicAccessors = ({} : Platform).magicAccessors := by rw [X.admits.platform]
  obtain ⟨c3, c4, hc3, hc4, hasg⟩ := Cond.castable_spec hcast
  cases Option.some.inj (hc3.symm.trans hcl)
  obtain ⟨c5, hc5, hcl5⟩ := Cond.classLink_spec hown hlink e.platform hpl
  cases Option.some.inj (hc4.symm.trans hc5)
  obtain ⟨vm', X', st⟩ := lx_caught X q (g := F0 m pc ls rest) rfl (Steps.refl _) (by rw [hT]; exact hcell) (by rw [hv]; rfl) (by obtain ⟨k9, h9, -⟩ := Vm.findClass_spec hcl; exact ⟨k9, h9⟩) pre x suf hsplit
    (fun z hz => by
      rcases hpass z hz with h | ⟨hz0, nm, hl1, hn1⟩
      · exact Or.inl h
      · obtain ⟨c6, hc6, hcl6⟩ := Cond.classLink_spec hown hl1 e.platform hpl
        obtain ⟨a8, b8, h1, h2, h3⟩ := hn1
        cases Option.some.inj (h1.symm.trans hcl)
        cases Option.some.inj (h2.symm.trans hc6)
        exact Or.inr ⟨hz0, _, hcl6, h3⟩) hx h0 hcl5 hasg
  obtain ⟨t, a1, b1⟩ := kk (T.setVm vm') hT X'
  exact ⟨t, st.trans a1, b1⟩
end Rows
section Ends
variable {p : Program} {l : Launch} {e : Env} {R : Room} {s : State} {m : MethodId} {args : Array Value} {below : List Frame} {meth : Method} {c : Code} {H : Heap} {locs : List Loc} {cells slots : Nat} {Q : State → Prop}
variable {mc ms : Nat} {free : Addr → Prop} {A0 A1 : Nat → Prop} {H0 : Heap} {a : Array Value} {ls : Array Slot} {st0 rest : List Value}
variable {Qc : Array Value → State → Outcome → State → Prop} {XC : String → State → State → Prop}
/-- what a body that may throw owes at its end -/
def vx_MQ (below : List Frame) (Qc : Array Value → State → Outcome → State → Prop) (XC : String → State → State → Prop) (a : Array Value) (s : State) (mc ms : Nat) (free : Addr → Prop) : State → Prop := fun t =>
  ∃ o, t.status = .running ∧ Ended t below o ∧ vx_Q Qc XC mc ms free a s o t
theorem vx_ret {g : JFrame} {mc ms : Nat} (k : W p l e R s m args below meth c H locs cells slots (MQ below Qc args s mc ms free) g) : W p l e R s m args below meth c H locs cells slots (vx_MQ below Qc XC args s mc ms free) g := by
  intro T hT X
  obtain ⟨t, a1, o, b1, b2, b3, b4⟩ := k T hT X
  exact ⟨t, a1, o, b1, b2, Or.inl ⟨b3, b4⟩⟩
/-- not caught here: it goes on to the caller -/
theorem vx_widen {g : JFrame} {q : Addr} {k n : Nat} (h1 : cells ≤ k) (h2 : slots ≤ n) (kk : vx_W p l e R s m args below meth c H locs k n Q g q) : vx_W p l e R s m args below meth c H locs cells slots Q g q := fun T hT X => kk T hT (stand_widen X h1 h2)
theorem vx_out {pc : Nat} {E : String} {ce : Cell} {q : Addr} {mc ms : Nat} (hout : ∀ x ∈ c.exceptionTable.toList, covers x pc = false) (hlocks : meth.locks = false) (hcell : H[q]? = some ce) (hv : ce.vm = .none) (hcl : s.vm.findClass E = some ce.cls)
    (hx : ∀ t : State, t.heap = H → s.vm.Alike t.vm → XC E s t) (hf : ∀ z ∈ locs, free z.base) (hc : cells ≤ mc) (hs : slots ≤ ms) :
    vx_W p l e R s m args below meth c H locs cells slots (vx_MQ below Qc XC args s mc ms free) (F0 m pc ls rest) q := by
  intro T hT X
  obtain ⟨st1, hrun, hend, hW, hsm⟩ := X.leaveThrown q (g := F0 m pc ls rest) rfl rfl rfl hout hlocks
  have hcell9 : (T.setFrames (.throwing q :: below)).heap[q]? = some ce := by
    show T.heap[q]? = some ce
    rw [hT]; exact hcell
  exact ⟨_, st1, .threw q, hrun, hend, Or.inr ⟨q, rfl, E, ce, locs, hx _ hT hW.alike, hcell9, hv, hcl, hW, hsm.mono hc hs, hf⟩⟩
theorem vx_frame {U : State} {k n : Nat} (h : s.sameButNew ({ U with vm := s.vm } : State) locs k n) : s.heap.size ≤ U.heap.size ∧ ∀ q : Nat, q < s.heap.size → (∀ z ∈ locs, z.base ≠ q) → U.heap[q]? = s.heap[q]? := by
  obtain ⟨-, h2, -, -, -, h6⟩ := h
  refine ⟨h2, fun q hq hz => ?_⟩
  obtain ⟨c9, e1, e2, e3, e4⟩ := h6 q _ (Array.getElem?_eq_getElem hq)
  have hs : c9.slots = (s.heap[q]).slots := Array.ext_getElem? fun i => e4 i fun hm => hz _ hm rfl
  have h9 : c9 = s.heap[q] := by
    rw [hs] at e2
    exact e2
  have e5 : U.heap[q]? = some c9 := e1
  rw [e5, h9, Array.getElem?_eq_getElem hq]
/-- the words of a throw but the four that speak of the heap -/
def vx_no (w : Cond) : Bool := decide (w ≠ .isRef (.static Bundle.tN "UNASSIGNED_STACK" Bundle.steD)) && decide (w ≠ .isRef (.static Bundle.tN "SUPPRESSED_SENTINEL" Bundle.listD)) && decide (w ≠ .laysStatic Bundle.tN "UNASSIGNED_STACK" Bundle.steD) && decide (w ≠ .laysStatic Bundle.tN "SUPPRESSED_SENTINEL" Bundle.listD)
def vx_at0 (own : String) (ic : Nat) (X : String) (names : List String) : List Cond := (Bundle.ownAtoms0 own ic X names).filter vx_no
def vx_atS (own : String) (ic : Nat) (X : String) (names : List String) : List Cond := (Bundle.ownAtoms own ic X names).filter vx_no
/-- a word that the tables alone decide, or a good one -/
def vx_ot (w : Cond) : Bool := w.onTables || goodWord w
theorem vx_ot_at {args a' : Array Value} {s U : State} {w : Cond} (hW : s.WarmedH U.vm) (hvm : s.vm = U.vm) (hg : vx_ot w = true) (h : w.before args s = true) : w.before a' U = true := by
  simp only [vx_ot, Bool.or_eq_true] at hg
  rcases hg with hg | hg
  · exact va_tabs hg hvm h
  · exact word_at hW (good_of_word hg) h
/-- a list's words: the good ones out of the method's own list, the others by premises of their own -/
theorem vx_hat {args : Array Value} {s : State} {L B : List Cond} (h1 : ∀ w ∈ L.filter goodWord, w.before args s = true) (h2 : ∀ w ∈ L.filter (fun w => !goodWord w), w ∈ B) (h3 : ∀ w ∈ B, w.before args s = true) : ∀ w ∈ L, w.before args s = true := by
  intro w hw
  by_cases g : goodWord w = true
  · exact h1 w (List.mem_filter.mpr ⟨hw, g⟩)
  · refine h3 w (h2 w (List.mem_filter.mpr ⟨hw, ?_⟩))
    show (!goodWord w) = true
    cases hgw : goodWord w
    · rfl
    · exact absurd hgw g
theorem vx_c {args : Array Value} {s : State} {w : Cond} {B : List Cond} (h : w.before args s = true) (t : ∀ w ∈ B, w.before args s = true) : ∀ w' ∈ w :: B, w'.before args s = true := fun w' h' => (List.mem_cons.mp h').elim (fun e => by rw [e]; exact h) (t w')
theorem vx_n {args : Array Value} {s : State} : ∀ w ∈ ([] : List Cond), w.before args s = true := fun _ h => nomatch h
theorem vx_own {args : Array Value} {s : State} {L : List Cond} (h1 : ∀ w ∈ L.filter vx_no, w.before args s = true)
    (hU : (Cond.isRef (.static Bundle.tN "UNASSIGNED_STACK" Bundle.steD)).before args s = true) (hN : (Cond.isRef (.static Bundle.tN "SUPPRESSED_SENTINEL" Bundle.listD)).before args s = true)
    (lU : (Cond.laysStatic Bundle.tN "UNASSIGNED_STACK" Bundle.steD).before args s = true) (lN : (Cond.laysStatic Bundle.tN "SUPPRESSED_SENTINEL" Bundle.listD).before args s = true) : ∀ w ∈ L, w.before args s = true := by
  intro w hw
  by_cases e1 : w = .isRef (.static Bundle.tN "UNASSIGNED_STACK" Bundle.steD)
  · rw [e1]; exact hU
  · by_cases e2 : w = .isRef (.static Bundle.tN "SUPPRESSED_SENTINEL" Bundle.listD)
    · rw [e2]; exact hN
    · by_cases e3 : w = .laysStatic Bundle.tN "UNASSIGNED_STACK" Bundle.steD
      · rw [e3]; exact lU
      · by_cases e4 : w = .laysStatic Bundle.tN "SUPPRESSED_SENTINEL" Bundle.listD
        · rw [e4]; exact lN
        · exact h1 w (List.mem_filter.mpr ⟨hw, by unfold vx_no; rw [decide_eq_true e1, decide_eq_true e2, decide_eq_true e3, decide_eq_true e4]; rfl⟩)
/-- where a static field lies, its class's statics cell in H -/
def vx_L (C n d : String) (A : Nat → Prop) (U : State) (H : Heap) : Prop := ∃ (c : ClassId) (k : Class) (i : Nat) (f : Field) (a : Nat) (cell : Cell), U.vm.findClass C = some c ∧ U.fieldFound? C n d = some (c, k, i, f) ∧ f.isStatic = true ∧ k.statics = some a ∧ H[a]? = some cell ∧ cell.vm.isStatics = true ∧ cell.cls = c ∧ f.slot < cell.slots.size ∧ k.staticTypes[f.slot]? = some f.type ∧ ¬ A a
theorem vx_L.moved {C n d : String} {A : Nat → Prop} {u U : State} {H : Heap} (hvm : u.vm.Alike U.vm) (h : vx_L C n d A u H) : vx_L C n d A U H := by
  obtain ⟨c, k, i, f, a, cell, h1, h2, h3, h4, h5, h6, h7, h8, h9, h10⟩ := h
  obtain ⟨k', hi', he⟩ := State.fieldFound?_setVm hvm h2
  exact ⟨c, k', i, f, a, cell, by rw [hvm.findClass]; exact h1, hi', h3, by rw [he]; exact h4, h5, h6, h7, h8, by rw [he]; exact h9, h10⟩
theorem vx_L.kept {C n d : String} {A : Nat → Prop} {U : State} {H H1 : Heap} (h : vx_L C n d A U H) (hq : ∀ a : Nat, a < H.size → ¬ A a → H1[a]? = H[a]?) : vx_L C n d A U H1 := by
  obtain ⟨c, k, i, f, a, cell, h1, h2, h3, h4, h5, h6, h7, h8, h9, h10⟩ := h
  exact ⟨c, k, i, f, a, cell, h1, h2, h3, h4, by rw [hq a (Array.getElem?_eq_some_iff.mp h5).1 h10]; exact h5, h6, h7, h8, h9, h10⟩
theorem vx_L.narrow {C n d : String} {A B : Nat → Prop} {U : State} {H : Heap} (h : vx_L C n d A U H) (hAB : ∀ q, B q → A q) : vx_L C n d B U H := by
  obtain ⟨c, k, i, f, a, cell, h1, h2, h3, h4, h5, h6, h7, h8, h9, h10⟩ := h
  exact ⟨c, k, i, f, a, cell, h1, h2, h3, h4, h5, h6, h7, h8, h9, fun z => h10 (hAB _ z)⟩
theorem vx_L.word {C n d : String} {A : Nat → Prop} {s : State} {args : Array Value} (h : vx_L C n d A s s.heap) : (Cond.laysStatic C n d).before args s = true := by
  obtain ⟨c, k, i, f, a, cell, h1, h2, h3, h4, h5, h6, h7, h8, h9, -⟩ := h
  show (Cond.laysStatic C n d).holds args s none s [] = true
  exact Cond.laysStatic_of h1 h2 h3 h4 h5 h6 h7 h8 h9
/-- .. and what it holds: null or some reference -/
def vx_Zq (C n d : String) (A : Nat → Prop) (U : State) (H : Heap) : Prop := va_Zq C n d A U H ∧ vx_L C n d A U H
theorem vx_Zq.moved {C n d : String} {A : Nat → Prop} {u U : State} {H : Heap} (hvm : u.vm.Alike U.vm) (h : vx_Zq C n d A u H) : vx_Zq C n d A U H := ⟨va_Zq.moved hvm h.1, vx_L.moved hvm h.2⟩
theorem vx_Zq.kept {C n d : String} {A : Nat → Prop} {U : State} {H H1 : Heap} (h : vx_Zq C n d A U H) (hq : ∀ a : Nat, a < H.size → ¬ A a → H1[a]? = H[a]?) : vx_Zq C n d A U H1 := ⟨va_Zq.kept h.1 hq, vx_L.kept h.2 hq⟩
theorem vx_Zq.narrow {C n d : String} {A B : Nat → Prop} {U : State} {H : Heap} (h : vx_Zq C n d A U H) (hAB : ∀ q, B q → A q) : vx_Zq C n d B U H := ⟨va_Zq.narrow h.1 hAB, vx_L.narrow h.2 hAB⟩
theorem vx_Zqof {args : Array Value} {s : State} {C n d : String} {A : Nat → Prop} (hl : (Cond.laysStatic C n d).before args s = true) (hini : (Cond.initialized C).before args s = true) (h : (Cond.isRef (.static C n d)).before args s = true) (hA : ∀ a : Nat, a < s.heap.size → ¬ A a) : vx_Zq C n d A s s.heap := by
  refine ⟨va_Zqof hl hini h hA, ?_⟩
  obtain ⟨c, k, i, f, a, cell, h1, h2, h3, h4, h5, h6, h7, h8, h9⟩ := Cond.laysStatic_spec hl
  exact ⟨c, k, i, f, a, cell, h1, h2, h3, h4, h5, h6, h7, h8, h9, hA a (Array.getElem?_eq_some_iff.mp h5).1⟩
theorem vx_isRef {C n d : String} {v : Value} {A : Nat → Prop} {s : State} {args : Array Value} (h : va_Z C n d v A s s.heap) (hv : v.isRef = true) : (Cond.isRef (.static C n d)).before args s = true := by
  obtain ⟨cf, kf, fi, f, a, cell, h1, h2, h3, h4, h5, h6, h7, -⟩ := h
  have he : (Term.static C n d).eval args s none [] s = some v := by
    simp [Term.eval, State.fieldNamed?, h1, h2, h4, h5, h6, h7]
  simp only [Cond.before, Cond.holds, Cond.value, he]
  cases v <;> simp_all [Value.isRef]
theorem vx_isRefq {C n d : String} {A : Nat → Prop} {s : State} {args : Array Value} (h : va_Zq C n d A s s.heap) : (Cond.isRef (.static C n d)).before args s = true := by
  rcases h with h | ⟨t, h⟩
  · exact vx_isRef h rfl
  · exact vx_isRef h rfl
/-- the same frame, seen from here: as if the method were called anew in this heap -/
theorem vx_rebase {T : State} (X : Stand p l e R s m args below meth c T locs cells slots) {R' : Room} (hf : R'.frames ≤ R.frames) (hl : R'.locals ≤ R.locals) (hc : cells + R'.cells ≤ R.cells) (hs : slots + R'.slots ≤ R.slots) :
    Stand p l e R' ((T.setVm s.vm).setFrames (.invoking m args :: below)) m args below meth c T [] 0 0 := by
  have htop : (T.setVm s.vm).topJava?.isSome := X.here.top
  have hF : ((T.setVm s.vm).setFrames (.invoking m args :: below)).frames = .invoking m args :: below := State.frames_setFrames _ (State.cur_lt_of_top htop)
  obtain ⟨g₀, hg0⟩ := Option.isSome_iff_exists.mp htop
  obtain ⟨r, hr⟩ := State.topJava?_eq_some.mp hg0
  have hl9 : e.platform.stackLimits (T.setVm s.vm).me = e.platform.stackLimits s.me := X.limits
  have hb9 : (T.setVm s.vm).me.stackBytes = s.me.stackBytes := X.bytes
  refine ⟨X.admits, X.cas, X.clock, hF, ?_, X.hears, X.method, X.code, X.here, X.tail, X.warmed, ?_, ?_, ?_⟩
  · have h := X.room
    have hU : ((T.setVm s.vm).setFrames (.invoking m args :: below)).localsInUse = s.localsInUse := by
      rw [State.localsInUse_invoking hF (meth := meth) (c := c) X.method X.code, State.localsInUse_invoking X.frames X.method X.code]
    simp only [State.hasRoom, Bool.and_eq_true, decide_eq_true_eq] at h ⊢
    obtain ⟨⟨⟨⟨h1, h2, h3, h4, h5, h6⟩, h7⟩, h8⟩, h9⟩ := h
    rw [X.frames, List.length_cons] at h2 h3
    have q1 := X.heapSize
    have q2 := X.used
    simp only [hF, hU, List.length_cons, State.stackLimits_setFrames, State.stackBytes_setFrames, hl9, hb9]
    refine ⟨⟨⟨⟨by omega, by omega, by omega, by omega, by omega, h6⟩, ?_⟩, ?_⟩, X.book⟩
    · show T.heap.size + R'.cells ≤ e.platform.maxCells
      omega
    · show T.slotsUsed + R'.slots ≤ e.platform.maxSlots
      omega
  · rw [State.stackLimits_setFrames]; rfl
  · rw [State.stackBytes_setFrames]; rfl
  · refine ⟨?_, Nat.le_refl _, Nat.le_refl _, ?_, ?_, fun a c9 h9 => ⟨c9, h9, rfl, rfl, fun _ _ => rfl⟩⟩
    · obtain ⟨t, ht, -⟩ := State.frames_cons hr
      show T.setVm s.vm = { ((T.setVm s.vm).setFrames (.invoking m args :: below)).setFrames (T.setVm s.vm).frames with heap := T.heap, slotsUsed := T.slotsUsed }
      rw [State.setFrames_setFrames, State.setFrames_self ht]
      rfl
    · show T.slotsUsed = T.slotsUsed + ((T.heap.toList.drop T.heap.size).map (·.slots.size)).sum
      rw [List.drop_eq_nil_of_le (Nat.le_of_eq Array.length_toList)]
      rfl
    · show ((T.heap.toList.drop T.heap.size).map (·.slots.size)).sum ≤ 0
      rw [List.drop_eq_nil_of_le (Nat.le_of_eq Array.length_toList)]
      exact Nat.le_refl _
/-- 'throw new E()': new; dup; invokespecial; athrow -/
theorem vx_throw0 {cc : ByteArray} {pc : Nat} (hexec : p.tables.exec = Jvm.exec) (hb : c.code = cc) (hl : l.stackTraces = false) {own cls : String} {names : List String} {ik ic mc ms : Nat} {A : Nat → Prop}
    (hown : s.vm.findClass own = some m.cls) (hcls : Bundle.fit cls = true) (hnames : ∀ n ∈ names, Bundle.fit n = true)
    (hk : (Cond.classLink own ik cls).before args s = true) (hini : (Cond.initialized cls).before args s = true) (hat : ∀ w ∈ vx_at0 own ic cls names, w.before args s = true)
    (hgood : ∀ w ∈ Cond.classLink own ik cls :: Cond.initialized cls :: vx_at0 own ic cls names, vx_ot w = true)
    (hU : vx_Zq Bundle.tN "UNASSIGNED_STACK" Bundle.steD A s s.heap) (hN : vx_Zq Bundle.tN "SUPPRESSED_SENTINEL" Bundle.listD A s s.heap) (hS : va_S A s.heap H locs) (hsize : ls.size = c.maxLocals)
    (d0 : decode cc pc = .ok (.new ik, 3)) (d3 : decode cc (pc + 3) = .ok (.dup, 1)) (d4 : decode cc (pc + 4) = .ok (.invokespecial ic, 3)) (d7 : decode cc (pc + 7) = .ok (.athrow, 1))
    (hout : ∀ x ∈ c.exceptionTable.toList, covers x (pc + 7) = false)
    (hRframes : names.length + 3 < R.frames) (hRlocals : (rest.map fun v => v.category).sum + (13 * (names.length + 1) + 42) ≤ R.locals) (hRcells : cells + 1 ≤ R.cells) (hRslots : slots + 6 ≤ R.slots) (hlocks : meth.locks = false)
    (hx : ∀ t : State, s.vm.Alike t.vm → H.size ≤ t.heap.size → (∀ q : Nat, q < H.size → t.heap[q]? = H[q]?) → XC cls s t)
    (hf : ∀ z ∈ locs, free z.base) (hc : cells + 1 ≤ mc) (hs : slots + 6 ≤ ms) :
    W p l e R s m args below meth c H locs cells slots (vx_MQ below Qc XC args s mc ms free) (F0 m pc ls rest) := by
  intro T hT X
  have htr : e.platform.stackTraces = false := (show e.platform.stackTraces = l.stackTraces by rw [X.admits.platform]).trans hl
  have Y := vx_rebase X (R' := { frames := R.frames, locals := R.locals, cells := 1, slots := 6 }) (Nat.le_refl _) (Nat.le_refl _) hRcells hRslots
  obtain ⟨s', hA⟩ : ∃ z, z = (T.setVm s.vm).setFrames (.invoking m args :: below) := ⟨_, rfl⟩
  rw [← hA] at Y
  have hvm : s'.vm = s.vm := by rw [hA]; rfl
  have hhp : s'.heap = H := by rw [hA]; exact hT
  have hW0 : s.WarmedH s'.vm := by rw [hvm]; exact State.WarmedH.refl s
  have hat' : ∀ w ∈ vx_at0 own ic cls names, w.before args s' = true := fun w hw => vx_ot_at hW0 hvm.symm (hgood w (List.mem_cons_of_mem _ (List.mem_cons_of_mem _ hw))) (hat w hw)
  have hk' : (Cond.classLink own ik cls).before args s' = true := vx_ot_at hW0 hvm.symm (hgood _ List.mem_cons_self) hk
  have hini' : (Cond.initialized cls).before args s' = true := vx_ot_at hW0 hvm.symm (hgood _ (List.mem_cons_of_mem _ List.mem_cons_self)) hini
  have hU' : vx_Zq Bundle.tN "UNASSIGNED_STACK" Bundle.steD A s' s'.heap := by rw [hhp]; exact vx_Zq.moved hW0.alike (hU.kept hS.2.1)
  have hN' : vx_Zq Bundle.tN "SUPPRESSED_SENTINEL" Bundle.listD A s' s'.heap := by rw [hhp]; exact vx_Zq.moved hW0.alike (hN.kept hS.2.1)
  have h : ∀ w ∈ Bundle.ownAtoms0 own ic cls names, w.before args s' = true := vx_own hat' (vx_isRefq hU'.1) (vx_isRefq hN'.1) hU'.2.word hN'.2.word
  have hown' : s'.vm.findClass own = some m.cls := by rw [hvm]; exact hown
  have hins : (Cond.instantiable cls 6).before args s' = true := h _ (by simp [Bundle.ownAtoms0])
  obtain ⟨vm₁, cX, kX, hfX, hkX, -, -, X₁, st1⟩ := Y.newCold hexec (own := own) (C := cls) (index := ik) (n := 6) hown' hk' hins hini'
    (g := F0 m pc ls rest) rfl (by rw [hb]; exact d0) (Nat.le_refl _) (Nat.le_refl _)
  generalize hT1 : (T.setVm vm₁).pushCell { cls := cX, slots := kX.instanceTypes.map defaultValue, vm := .none } = T1 at X₁ st1
  have hcat : (Value.ref T.heap.size).category = 1 := rfl
  have hcellA : T1.heap[T.heap.size]? = some (freshCell cX kX) := by rw [← hT1]; exact State.heap_pushCell_size _ _
  have d3' : decode c.code (pc + 3) = .ok (.dup, 1) := by rw [hb]; exact d3
  obtain ⟨U, hsteps, hrun, hend, hW, hsame, ce, hce, hO⟩ := X₁.ctorThrow0 hexec htr (own := own) (cls := cls) (names := names) (ic := ic) hown' hcls hnames h (fun x hx => nomatch hx) hfX hkX hcellA (by rw [hhp, hT]; exact Nat.le_refl _)
    (g := { method := m, pc := pc + 4, locals := ls, stack := .ref T.heap.size :: .ref T.heap.size :: rest, locked := none }) rfl hsize rfl rfl (rest := rest) rfl
    (by rw [hb]; exact d4) (by rw [hb]; exact d7) hout hRframes (by simp only [List.map_cons, List.sum_cons, hcat]; omega) hlocks
  obtain ⟨f1, f2⟩ := vx_frame hsame
  rw [hhp] at f1 f2
  have hWs : s.WarmedH U.vm := State.WarmedH.trans hW0 hW
  have hcl : s.vm.findClass cls = some ce.cls := by
    have h9 := hO.cls
    rw [hvm] at h9
    exact h9
  have hall : s.sameButNew ({ U with vm := s.vm } : State) locs mc ms := by
    subst hA
    obtain ⟨e1, e2⟩ := hsame
    rw [State.setFrames_setFrames] at e1
    have h2 : (T.setVm s.vm).sameButNew ({ U with vm := s.vm } : State) [] (0 + 1) (0 + 6) := ⟨e1, e2⟩
    have h3 := X.same.trans h2
    rw [List.append_nil] at h3
    exact h3.mono hc hs
  refine ⟨U, ?_, .threw T.heap.size, hrun, hend, Or.inr ⟨T.heap.size, rfl, cls, ce, locs, hx U hWs.alike f1 (fun q hq => f2 q hq (fun z hz => nomatch hz)), hce, hO.vm, hcl, hWs, hall, hf⟩⟩
  refine st1 _ ?_
  show Steps p.tables e below (T1.setTop { method := m, pc := pc + 3, locals := ls, stack := .ref T.heap.size :: rest, locked := none }) _
  jvm_step X₁.here [X₁.here.top, hexec, d3', Value.category]
  exact hsteps
/-- 'throw new E("text")': new; dup; ldc; invokespecial; athrow -/
theorem vx_throwS {cc : ByteArray} {pc : Nat} (hexec : p.tables.exec = Jvm.exec) (hb : c.code = cc) (hl : l.stackTraces = false) {own cls text : String} {names : List String} {ik is ic mc ms sa : Nat} {A : Nat → Prop}
    (hown : s.vm.findClass own = some m.cls) (hcls : Bundle.fit cls = true) (hnames : ∀ n ∈ names, Bundle.fit n = true)
    (hk : (Cond.classLink own ik cls).before args s = true) (hini : (Cond.initialized cls).before args s = true) (hstr : vk_R own is text sa s) (hat : ∀ w ∈ vx_atS own ic cls names, w.before args s = true)
    (hgood : ∀ w ∈ Cond.classLink own ik cls :: Cond.initialized cls :: vx_atS own ic cls names, vx_ot w = true)
    (hU : vx_Zq Bundle.tN "UNASSIGNED_STACK" Bundle.steD A s s.heap) (hN : vx_Zq Bundle.tN "SUPPRESSED_SENTINEL" Bundle.listD A s s.heap) (hS : va_S A s.heap H locs) (hsize : ls.size = c.maxLocals)
    (d0 : decode cc pc = .ok (.new ik, 3)) (d3 : decode cc (pc + 3) = .ok (.dup, 1)) (d4 : decode cc (pc + 4) = .ok (.ldc is, 2)) (d6 : decode cc (pc + 6) = .ok (.invokespecial ic, 3)) (d9 : decode cc (pc + 9) = .ok (.athrow, 1))
    (hout : ∀ x ∈ c.exceptionTable.toList, covers x (pc + 9) = false)
    (hRframes : names.length + 3 < R.frames) (hRlocals : (rest.map fun v => v.category).sum + (13 * (names.length + 1) + 43) ≤ R.locals) (hRcells : cells + 1 ≤ R.cells) (hRslots : slots + 6 ≤ R.slots) (hlocks : meth.locks = false)
    (hx : ∀ t : State, s.vm.Alike t.vm → H.size ≤ t.heap.size → (∀ q : Nat, q < H.size → t.heap[q]? = H[q]?) → XC cls s t)
    (hf : ∀ z ∈ locs, free z.base) (hc : cells + 1 ≤ mc) (hs : slots + 6 ≤ ms) :
    W p l e R s m args below meth c H locs cells slots (vx_MQ below Qc XC args s mc ms free) (F0 m pc ls rest) := by
  intro T hT X
  have htr : e.platform.stackTraces = false := (show e.platform.stackTraces = l.stackTraces by rw [X.admits.platform]).trans hl
  have Y := vx_rebase X (R' := { frames := R.frames, locals := R.locals, cells := 1, slots := 6 }) (Nat.le_refl _) (Nat.le_refl _) hRcells hRslots
  obtain ⟨s', hA⟩ : ∃ z, z = (T.setVm s.vm).setFrames (.invoking m args :: below) := ⟨_, rfl⟩
  rw [← hA] at Y
  have hvm : s'.vm = s.vm := by rw [hA]; rfl
  have hhp : s'.heap = H := by rw [hA]; exact hT
  have hW0 : s.WarmedH s'.vm := by rw [hvm]; exact State.WarmedH.refl s
  have hat' : ∀ w ∈ vx_atS own ic cls names, w.before args s' = true := fun w hw => vx_ot_at hW0 hvm.symm (hgood w (List.mem_cons_of_mem _ (List.mem_cons_of_mem _ hw))) (hat w hw)
  have hk' : (Cond.classLink own ik cls).before args s' = true := vx_ot_at hW0 hvm.symm (hgood _ List.mem_cons_self) hk
  have hini' : (Cond.initialized cls).before args s' = true := vx_ot_at hW0 hvm.symm (hgood _ (List.mem_cons_of_mem _ List.mem_cons_self)) hini
  have hU' : vx_Zq Bundle.tN "UNASSIGNED_STACK" Bundle.steD A s' s'.heap := by rw [hhp]; exact vx_Zq.moved hW0.alike (hU.kept hS.2.1)
  have hN' : vx_Zq Bundle.tN "SUPPRESSED_SENTINEL" Bundle.listD A s' s'.heap := by rw [hhp]; exact vx_Zq.moved hW0.alike (hN.kept hS.2.1)
  have h : ∀ w ∈ Bundle.ownAtoms own ic cls names, w.before args s' = true := vx_own hat' (vx_isRefq hU'.1) (vx_isRefq hN'.1) hU'.2.word hN'.2.word
  have hown' : s'.vm.findClass own = some m.cls := by rw [hvm]; exact hown
  have hins : (Cond.instantiable cls 6).before args s' = true := h _ (by simp [Bundle.ownAtoms])
  obtain ⟨vm₁, cX, kX, hfX, hkX, -, -, X₁, st1⟩ := Y.newCold hexec (own := own) (C := cls) (index := ik) (n := 6) hown' hk' hins hini'
    (g := F0 m pc ls rest) rfl (by rw [hb]; exact d0) (Nat.le_refl _) (Nat.le_refl _)
  generalize hT1 : (T.setVm vm₁).pushCell { cls := cX, slots := kX.instanceTypes.map defaultValue, vm := .none } = T1 at X₁ st1
  have hcat : (Value.ref T.heap.size).category = 1 := rfl
  have hcellA : T1.heap[T.heap.size]? = some (freshCell cX kX) := by rw [← hT1]; exact State.heap_pushCell_size _ _
  have d3' : decode c.code (pc + 3) = .ok (.dup, 1) := by rw [hb]; exact d3
  have d4' : decode c.code (pc + 4) = .ok (.ldc is, 2) := by rw [hb]; exact d4
  have hstr' : vk_R own is text sa s' := vk_R.warm hW0 hstr
  obtain ⟨U, hsteps, hrun, hend, hW, hsame, ce, hce, hO⟩ := X₁.ctorThrowS hexec htr (own := own) (cls := cls) (names := names) (ic := ic) hown' hcls hnames h (fun x hx => nomatch hx) hfX hkX hcellA (by rw [hhp, hT]; exact Nat.le_refl _) (msg := .ref sa) rfl
    (g := { method := m, pc := pc + 6, locals := ls, stack := .ref sa :: .ref T.heap.size :: .ref T.heap.size :: rest, locked := none }) rfl hsize rfl rfl (rest := rest) rfl
    (by rw [hb]; exact d6) (by rw [hb]; exact d9) hout hRframes (by simp only [List.map_cons, List.sum_cons, hcat]; omega) hlocks
  obtain ⟨f1, f2⟩ := vx_frame hsame
  rw [hhp] at f1 f2
  have hWs : s.WarmedH U.vm := State.WarmedH.trans hW0 hW
  have hcl : s.vm.findClass cls = some ce.cls := by
    have h9 := hO.cls
    rw [hvm] at h9
    exact h9
  have hall : s.sameButNew ({ U with vm := s.vm } : State) locs mc ms := by
    subst hA
    obtain ⟨e1, e2⟩ := hsame
    rw [State.setFrames_setFrames] at e1
    have h2 : (T.setVm s.vm).sameButNew ({ U with vm := s.vm } : State) [] (0 + 1) (0 + 6) := ⟨e1, e2⟩
    have h3 := X.same.trans h2
    rw [List.append_nil] at h3
    exact h3.mono hc hs
  refine ⟨U, ?_, .threw T.heap.size, hrun, hend, Or.inr ⟨T.heap.size, rfl, cls, ce, locs, hx U hWs.alike f1 (fun q hq => f2 q hq (fun z hz => nomatch hz)), hce, hO.vm, hcl, hWs, hall, hf⟩⟩
  refine st1 _ ?_
  show Steps p.tables e below (T1.setTop { method := m, pc := pc + 3, locals := ls, stack := .ref T.heap.size :: rest, locked := none }) _
  jvm_step X₁.here [X₁.here.top, hexec, d3', Value.category]
  exact X₁.ldcString hexec (own := own) (text := text) (index := is) (a := sa) hown' hstr'.1 hstr'.2
    (g := { method := m, pc := pc + 4, locals := ls, stack := .ref T.heap.size :: .ref T.heap.size :: rest, locked := none }) rfl d4' _ hsteps
/-- 'throw new E("text")', the text by a wide index -/
theorem vx_throwSW {cc : ByteArray} {pc : Nat} (hexec : p.tables.exec = Jvm.exec) (hb : c.code = cc) (hl : l.stackTraces = false) {own cls text : String} {names : List String} {ik is ic mc ms sa : Nat} {A : Nat → Prop}
    (hown : s.vm.findClass own = some m.cls) (hcls : Bundle.fit cls = true) (hnames : ∀ n ∈ names, Bundle.fit n = true)
    (hk : (Cond.classLink own ik cls).before args s = true) (hini : (Cond.initialized cls).before args s = true) (hstr : vk_R own is text sa s) (hat : ∀ w ∈ vx_atS own ic cls names, w.before args s = true)
    (hgood : ∀ w ∈ Cond.classLink own ik cls :: Cond.initialized cls :: vx_atS own ic cls names, vx_ot w = true)
    (hU : vx_Zq Bundle.tN "UNASSIGNED_STACK" Bundle.steD A s s.heap) (hN : vx_Zq Bundle.tN "SUPPRESSED_SENTINEL" Bundle.listD A s s.heap) (hS : va_S A s.heap H locs) (hsize : ls.size = c.maxLocals)
    (d0 : decode cc pc = .ok (.new ik, 3)) (d3 : decode cc (pc + 3) = .ok (.dup, 1)) (d4 : decode cc (pc + 4) = .ok (.ldc_w is, 3)) (d7 : decode cc (pc + 7) = .ok (.invokespecial ic, 3)) (d10 : decode cc (pc + 10) = .ok (.athrow, 1))
    (hout : ∀ x ∈ c.exceptionTable.toList, covers x (pc + 10) = false)
    (hRframes : names.length + 3 < R.frames) (hRlocals : (rest.map fun v => v.category).sum + (13 * (names.length + 1) + 43) ≤ R.locals) (hRcells : cells + 1 ≤ R.cells) (hRslots : slots + 6 ≤ R.slots) (hlocks : meth.locks = false)
    (hx : ∀ t : State, s.vm.Alike t.vm → H.size ≤ t.heap.size → (∀ q : Nat, q < H.size → t.heap[q]? = H[q]?) → XC cls s t)
    (hf : ∀ z ∈ locs, free z.base) (hc : cells + 1 ≤ mc) (hs : slots + 6 ≤ ms) :
    W p l e R s m args below meth c H locs cells slots (vx_MQ below Qc XC args s mc ms free) (F0 m pc ls rest) := by
  intro T hT X
  have htr : e.platform.stackTraces = false := (show e.platform.stackTraces = l.stackTraces by rw [X.admits.platform]).trans hl
  have Y := vx_rebase X (R' := { frames := R.frames, locals := R.locals, cells := 1, slots := 6 }) (Nat.le_refl _) (Nat.le_refl _) hRcells hRslots
  obtain ⟨s', hA⟩ : ∃ z, z = (T.setVm s.vm).setFrames (.invoking m args :: below) := ⟨_, rfl⟩
  rw [← hA] at Y
  have hvm : s'.vm = s.vm := by rw [hA]; rfl
  have hhp : s'.heap = H := by rw [hA]; exact hT
  have hW0 : s.WarmedH s'.vm := by rw [hvm]; exact State.WarmedH.refl s
  have hat' : ∀ w ∈ vx_atS own ic cls names, w.before args s' = true := fun w hw => vx_ot_at hW0 hvm.symm (hgood w (List.mem_cons_of_mem _ (List.mem_cons_of_mem _ hw))) (hat w hw)
  have hk' : (Cond.classLink own ik cls).before args s' = true := vx_ot_at hW0 hvm.symm (hgood _ List.mem_cons_self) hk
  have hini' : (Cond.initialized cls).before args s' = true := vx_ot_at hW0 hvm.symm (hgood _ (List.mem_cons_of_mem _ List.mem_cons_self)) hini
  have hU' : vx_Zq Bundle.tN "UNASSIGNED_STACK" Bundle.steD A s' s'.heap := by rw [hhp]; exact vx_Zq.moved hW0.alike (hU.kept hS.2.1)
  have hN' : vx_Zq Bundle.tN "SUPPRESSED_SENTINEL" Bundle.listD A s' s'.heap := by rw [hhp]; exact vx_Zq.moved hW0.alike (hN.kept hS.2.1)
  have h : ∀ w ∈ Bundle.ownAtoms own ic cls names, w.before args s' = true := vx_own hat' (vx_isRefq hU'.1) (vx_isRefq hN'.1) hU'.2.word hN'.2.word
  have hown' : s'.vm.findClass own = some m.cls := by rw [hvm]; exact hown
  have hins : (Cond.instantiable cls 6).before args s' = true := h _ (by simp [Bundle.ownAtoms])
  obtain ⟨vm₁, cX, kX, hfX, hkX, -, -, X₁, st1⟩ := Y.newCold hexec (own := own) (C := cls) (index := ik) (n := 6) hown' hk' hins hini'
    (g := F0 m pc ls rest) rfl (by rw [hb]; exact d0) (Nat.le_refl _) (Nat.le_refl _)
  generalize hT1 : (T.setVm vm₁).pushCell { cls := cX, slots := kX.instanceTypes.map defaultValue, vm := .none } = T1 at X₁ st1
  have hcat : (Value.ref T.heap.size).category = 1 := rfl
  have hcellA : T1.heap[T.heap.size]? = some (freshCell cX kX) := by rw [← hT1]; exact State.heap_pushCell_size _ _
  have d3' : decode c.code (pc + 3) = .ok (.dup, 1) := by rw [hb]; exact d3
  have d4' : decode c.code (pc + 4) = .ok (.ldc_w is, 3) := by rw [hb]; exact d4
  have hstr' : vk_R own is text sa s' := vk_R.warm hW0 hstr
  obtain ⟨U, hsteps, hrun, hend, hW, hsame, ce, hce, hO⟩ := X₁.ctorThrowS hexec htr (own := own) (cls := cls) (names := names) (ic := ic) hown' hcls hnames h (fun x hx => nomatch hx) hfX hkX hcellA (by rw [hhp, hT]; exact Nat.le_refl _) (msg := .ref sa) rfl
    (g := { method := m, pc := pc + 7, locals := ls, stack := .ref sa :: .ref T.heap.size :: .ref T.heap.size :: rest, locked := none }) rfl hsize rfl rfl (rest := rest) rfl
    (by rw [hb]; exact d7) (by rw [hb]; exact d10) hout hRframes (by simp only [List.map_cons, List.sum_cons, hcat]; omega) hlocks
  obtain ⟨f1, f2⟩ := vx_frame hsame
  rw [hhp] at f1 f2
  have hWs : s.WarmedH U.vm := State.WarmedH.trans hW0 hW
  have hcl : s.vm.findClass cls = some ce.cls := by
    have h9 := hO.cls
    rw [hvm] at h9
    exact h9
  have hall : s.sameButNew ({ U with vm := s.vm } : State) locs mc ms := by
    subst hA
    obtain ⟨e1, e2⟩ := hsame
    rw [State.setFrames_setFrames] at e1
    have h2 : (T.setVm s.vm).sameButNew ({ U with vm := s.vm } : State) [] (0 + 1) (0 + 6) := ⟨e1, e2⟩
    have h3 := X.same.trans h2
    rw [List.append_nil] at h3
    exact h3.mono hc hs
  refine ⟨U, ?_, .threw T.heap.size, hrun, hend, Or.inr ⟨T.heap.size, rfl, cls, ce, locs, hx U hWs.alike f1 (fun q hq => f2 q hq (fun z hz => nomatch hz)), hce, hO.vm, hcl, hWs, hall, hf⟩⟩
  refine st1 _ ?_
  show Steps p.tables e below (T1.setTop { method := m, pc := pc + 3, locals := ls, stack := .ref T.heap.size :: rest, locked := none }) _
  jvm_step X₁.here [X₁.here.top, hexec, d3', Value.category]
  exact X₁.ldcStringW hexec (own := own) (text := text) (index := is) (a := sa) hown' hstr'.1 hstr'.2
    (g := { method := m, pc := pc + 4, locals := ls, stack := .ref T.heap.size :: .ref T.heap.size :: rest, locked := none }) rfl d4' _ hsteps
end Ends
section Bodies
variable {l : Launch}
theorem vx_ofW {y : MethodName} {ws ws' : List Cond} {rm : Room} {Pc : Array Value → State → Prop} {Qc : Array Value → State → Outcome → State → Prop} {XC : String → State → State → Prop} {mc ms : Nat} {free : Addr → Prop} {cc : ByteArray} {maxL : Nat} {ret : Option FieldType}
    (hy : plainName y.cls = true) (hw : ws = Cond.code y cc maxL ret :: ws')
    (body : ∀ p e s m args below meth c s₁, BodyLoose p l y (headSpec ws rm) cc maxL ret e s m args below meth c s₁ → c.maxLocals = maxL → (∀ x ∈ c.exceptionTable.toList, False) → Pc args s →
      W p l e (headSpec ws rm).room s m args below meth c s.heap [] 0 0 (vx_MQ below Qc XC args s mc ms free) (entryFrame m args maxL)) : vx_Met l y ws rm Pc Qc XC mc ms free := by
  refine MetFree.of_bodyS (code := cc) (maxLocals := maxL) (ret := ret) hy ?_ ?_
  · intro args s m h hn
    obtain ⟨meth, c, h1, h2, h3, h4, h5, h6, -, -⟩ := Cond.code_spec hn (atoms_spec (ws := ws) h _ (by rw [hw]; exact List.mem_cons_self))
    exact ⟨meth, c, h1, h2, h3, h4, h5, h6⟩
  · intro p e s m args below meth c s₁ B hml hP _
    have hh0 : s₁.heap = s.heap := by rw [B.state]; rfl
    have ht : ∀ x ∈ c.exceptionTable.toList, False := by
      obtain ⟨meth9, c9, h1, h2, -, -, -, -, h7, -⟩ := Cond.code_spec B.named (atoms_spec (ws := ws) B.pre _ (by rw [hw]; exact List.mem_cons_self))
      cases Option.some.inj (h1.symm.trans B.method)
      cases Option.some.inj (h2.symm.trans (Stand.of_body B).code)
      intro x hx
      rw [Array.isEmpty_iff.mp h7] at hx
      cases hx
    obtain ⟨t, a1, o, b1, b2, b3⟩ := body p e s m args below meth c s₁ B hml ht hP s₁ hh0 (Stand.of_body B)
    exact ⟨t, o, a1, b1, b2, b3⟩
/-- the table of a body with handlers -/
theorem vx_table {p : Program} {x y : MethodName} {S : Spec} {cc bytes : ByteArray} {maxL maxL' : Nat} {ret ret' : Option FieldType} {e : Env} {s s₁ : State} {m : MethodId} {args : Array Value} {below : List Frame} {meth : Method} {c : Code} {hh : List (Nat × Nat × Nat × Nat)}
    (B : BodyLoose p l y S cc maxL ret e s m args below meth c s₁) (h : (Cond.codeWith y bytes maxL' ret' hh).before args s = true) : c.exceptionTable.toList = tableOf hh := by
  obtain ⟨m9, meth9, c9, hn9, h1, h2, -, -, h6, -⟩ := Cond.codeWith_spec h
  cases Option.some.inj (hn9.symm.trans B.named)
  cases Option.some.inj (h1.symm.trans B.method)
  cases Option.some.inj (h2.symm.trans (Stand.of_body B).code)
  rw [← h6, table_eq]
end Bodies
end VXA
/-! ===== END ===== -/
/-! ===== BEGIN a static call of a method with an exception table ===== -/
section VXS
variable {p : Program} {l : Launch} {e : Env} {R : Room} {s : State} {m : MethodId} {args : Array Value} {below : List Frame} {meth : Method} {c : Code} {T : State} {H : Heap} {locs : List Loc} {cells slots : Nat}
abbrev vx_CSW (R : Room) (s : State) (args : Array Value) (own : String) (index : Nat) (y : MethodName) (bytes : ByteArray) (maxL : Nat) (ret : Option FieldType) (hh : List (Nat × Nat × Nat × Nat)) (ws : List Cond) (rm : Room) (mc ms n : Nat) : Prop :=
  (rm.cells = mc ∧ rm.slots = ms ∧ rm.frames + 1 ≤ R.frames ∧ 8 + (maxL + 11) + rm.locals ≤ R.locals ∧ (∀ w ∈ ws, ∀ (a' : Array Value) (U : State), s.WarmedH U.vm → w.before a' U = true) ∧ Cond.codeWith y bytes maxL ret hh ∈ ws) ∧
  (Cond.codeWith y bytes maxL ret hh).before args s = true ∧ (Cond.initialized y.cls).before args s = true ∧ (y.cls ≠ "java/lang/invoke/MethodHandle" ∧ y.cls ≠ "java/lang/invoke/VarHandle") ∧
  (∀ sig, parseMethodDescriptor y.desc = some sig → n = sig.parameters.length) ∧ (Cond.methodLink own index y).before args s = true ∧ (Cond.static y).before args s = true
theorem vx_cwSW {own : String} {index maxL mc ms : Nat} {y : MethodName} {bytes : ByteArray} {ret : Option FieldType} {hh : List (Nat × Nat × Nat × Nat)} {Ts ws ws' : List Cond} {rm : Room} (n : Nat) (ht : ∀ w ∈ Ts, w.before args s = true) (hT : GoodIn Ts (va_wsS own index y ws)) (hw : ws = Cond.codeWith y bytes maxL ret hh :: ws') (hrc : rm.cells = mc) (hrs : rm.slots = ms)
    (hd : y.cls ≠ "java/lang/invoke/MethodHandle" ∧ y.cls ≠ "java/lang/invoke/VarHandle" ∧ (parseMethodDescriptor y.desc).map (fun d => d.parameters.length) = some n) (hR : rm.frames + 1 ≤ R.frames ∧ 8 + (maxL + 11) + rm.locals ≤ R.locals) :
    vx_CSW R s args own index y bytes maxL ret hh ws rm mc ms n := by
  have ok : ∀ w ∈ va_wsS own index y ws, w.before args s = true := fun w h => ht w (hT w h).1
  have hG : GoodIn Ts ws := fun w h => hT w (by unfold va_wsS; exact List.mem_append_right _ h)
  have hc : Cond.codeWith y bytes maxL ret hh ∈ ws := by rw [hw]; exact List.mem_cons_self
  refine ⟨⟨hrc, hrs, hR.1, hR.2, pay_in ht hG, hc⟩, ht _ (hG _ hc).1, ok _ (by simp [va_wsS]), ⟨hd.1, hd.2.1⟩, fun sig h => ?_, ok _ (by simp [va_wsS]), ok _ (by simp [va_wsS])⟩
  have h2 := hd.2.2
  rw [h] at h2
  exact (Option.some.inj h2).symm
theorem vx_callSW (X : Stand p l e R s m args below meth c T locs cells slots) (hexec : p.tables.exec = Jvm.exec) {own : String} {index : Nat} {y : MethodName} {bytes : ByteArray} {maxL : Nat} {ret : Option FieldType} {hh : List (Nat × Nat × Nat × Nat)}
    (hown : s.vm.findClass own = some m.cls) (hlink : (Cond.methodLink own index y).before args s = true) (hstat : (Cond.static y).before args s = true) (hinit : (Cond.initialized y.cls).before args s = true)
    (hcode : (Cond.codeWith y bytes maxL ret hh).before args s = true) (hy : y.cls ≠ "java/lang/invoke/MethodHandle" ∧ y.cls ≠ "java/lang/invoke/VarHandle")
    {W9 : Nat} {Pre : Pt → Array Value → Prop} {Post : Pt → Array Value → Option Value → Pt → Prop} (hK : Back l R p e below s args y 3 W9 Pre Post)
    {g : JFrame} (hg : g.method = m) (hsize : g.locals.size = c.maxLocals) {argsL rest : List Value} (hlen : ∀ sig, parseMethodDescriptor y.desc = some sig → argsL.length = sig.parameters.length)
    (hstack : g.stack = argsL.reverse ++ rest) (hW : 2 * g.monitorRoom + (rest.map fun v => v.category).sum ≤ W9) (hdg : decode c.code g.pc = .ok (.invokestatic index, 3))
    (hpre : ∀ vm₁, s.WarmedH vm₁ → Pre ⟨T.setVm vm₁, locs, cells, slots⟩ argsL.toArray) :
    ∃ (v : Option Value) (vm₁ : Vm) (B : Pt), s.WarmedH vm₁ ∧ Stand p l e R s m args below meth c B.U B.locs B.cells B.slots ∧ Post ⟨T.setVm vm₁, locs, cells, slots⟩ argsL.toArray v B ∧
      ∀ target, Steps p.tables e below (B.U.setTop { g with pc := g.pc + 3, stack := v.toList ++ rest }) target → Steps p.tables e below (T.setTop g) target := by
  obtain ⟨mk, methM, cM, hnamed, hmethM, -, -, -, -, -, -, hsigM⟩ := Cond.codeWith_spec hcode
  have hstatic : methM.isStatic = true := Cond.static_spec hnamed hmethM hstat
  obtain ⟨kP, hkP, -⟩ := className_of_methodNamed hnamed
  have hinitP : kP.init = .initialized := Cond.initialized_spec (findClass_of_methodNamed hnamed) hkP hinit
  obtain ⟨vm₁, X₁, hstep₁⟩ := X.invokestatic hexec hown hlink hnamed hmethM hstatic hkP hinitP hy (g := g) hg (argsL := argsL) (rest := rest) (hlen _ hsigM) hstack hdg
  obtain ⟨v, B, X', hpost, hsteps⟩ := hK m meth c ⟨T.setVm vm₁, locs, cells, slots⟩ { g with stack := rest } (.invokestatic index) mk argsL.toArray X₁ hg hsize hdg hW (X₁.named hnamed) (hpre vm₁ X₁.warmed)
  exact ⟨v, vm₁, B, X₁.warmed, X', hpost, fun target h => hstep₁ _ fun acts => by rw [doInvoke_state]; exact hsteps.trans h⟩
theorem vx_runSW {y : MethodName} {bytes cc : ByteArray} {maxL nL mc ms n index : Nat} {ret : Option FieldType} {hh : List (Nat × Nat × Nat × Nat)} {ws : List Cond} {rm : Room} {Pc : Array Value → State → Prop} {Qc : Array Value → State → Outcome → State → Prop} {free : Addr → Prop} {Ts : List Cond} {own : String} {As rest : List Value} {g : JFrame}
    (S : CallFix p m c cc nL s args Ts own) (hM : Met l y ws rm Pc Qc mc ms free) (cw : vx_CSW R s args own index y bytes maxL ret hh ws rm mc ms n) (hp : PreS s H Pc As)
    (hg : g.method = m) (hn : As.length = n) (hsize : g.locals.size = nL) (hstack : g.stack = As.reverse ++ rest) (hW : 2 * g.monitorRoom + (rest.map fun v => v.category).sum ≤ 8) (hdg : decode cc g.pc = .ok (.invokestatic index, 3)) (hf : cells + mc ≤ R.cells ∧ slots + ms ≤ R.slots) :
    va_Run p l e R s m args below meth c H locs cells slots mc ms g rest (Qc As.toArray) (free) := by
  obtain ⟨⟨hrc, hrs, hfr, hlo, hws, hcw⟩, hcode, hini, hy, hlen, hl, hstt⟩ := cw
  have hK : Back l R p e below s args y 3 8 (PreOf R mc ms Pc) (PostOf Qc mc ms free) := va_backW (hh := hh) (bytes := bytes) (maxL := maxL) (ret := ret) hM hp.1 hrc hrs hfr hlo hws hcw (fun a' U hW => word_at hW (Or.inl (by first | rfl | simp [Cond.onTables, Cond.keeps, Cond.steady])) hini)
  obtain ⟨hx, hb, hml, ho, -⟩ := S
  intro T hT X
  obtain ⟨v, vm₁, ⟨U', l2, c2, s2⟩, hW₁, X', ⟨g', mk, t, L, e1, e2, hq, h1, hL, h2, h3⟩, st⟩ := vx_callSW X hx (hh := hh) (bytes := bytes) (maxL := maxL) (ret := ret) ho hl hstt hini hcode hy hK hg (hsize.trans hml.symm) (argsL := As) (rest := rest) (fun sig h => hn.trans (hlen sig h)) hstack hW (by rw [hb]; exact hdg)
    (fun vm₁ hW₁ => ⟨hf.1, hf.2, hp.2 (T.setVm vm₁) hT hW₁⟩)
  dsimp only [Pt.U, Pt.locs, Pt.cells, Pt.slots] at X' e1 e2 h1 h2 h3 st
  subst h1; subst h2; subst h3
  exact ⟨v, (T.setVm vm₁).calling g' mk As.toArray, t, U', L, hT, X', hL, e1, e2, hq, st⟩
/-- not caught here, past rows that name other classes: it goes on to the caller -/
theorem vx_outP {p : Program} {l : Launch} {e : Env} {R : Room} {s : State} {m : MethodId} {args : Array Value} {below : List Frame} {meth : Method} {c : Code} {H : Heap} {locs : List Loc} {cells slots : Nat} {free : Addr → Prop} {ls : Array Slot} {rest : List Value} {Qc : Array Value → State → Outcome → State → Prop} {XC : String → State → State → Prop}
    {pc : Nat} {own E : String} {ce : Cell} {q : Addr} {mc ms : Nat} (hown : s.vm.findClass own = some m.cls) (hlocks : meth.locks = false)
    (hpass : ∀ z ∈ c.exceptionTable.toList, covers z pc = false ∨ (z.catchType ≠ 0 ∧ ∃ nm : String, (Cond.classLink own z.catchType nm).before args s = true ∧ va_Nc E nm s)) (hcell : H[q]? = some ce) (hv : ce.vm = .none) (hcl : s.vm.findClass E = some ce.cls)
    (hx : ∀ t : State, t.heap = H → s.vm.Alike t.vm → XC E s t) (hf : ∀ z ∈ locs, free z.base) (hc : cells ≤ mc) (hs : slots ≤ ms) :
    vx_W p l e R s m args below meth c H locs cells slots (vx_MQ below Qc XC args s mc ms free) (F0 m pc ls rest) q := by
  intro T hT X
  have hpl : e.platform.magicAccessors = ({} : Platform).magicAccessors := by rw [X.admits.platform]
  obtain ⟨vm', hW', X', st⟩ := lx_out X hlocks q (g := F0 m pc ls rest) rfl rfl rfl (cell := ce) (by rw [hT]; exact hcell) (by rw [hv]; rfl)
    (by obtain ⟨k9, h9, -⟩ := Vm.findClass_spec hcl; exact ⟨k9, h9⟩) (fun z hz => by
      rcases hpass z hz with h | ⟨hz0, nm, hl1, hn1⟩
      · exact Or.inl h
      · obtain ⟨c6, hc6, hcl6⟩ := Cond.classLink_spec hown hl1 e.platform hpl
        obtain ⟨a8, b8, h1, h2, h3⟩ := hn1
        cases Option.some.inj (h1.symm.trans hcl)
        cases Option.some.inj (h2.symm.trans hc6)
        exact Or.inr ⟨hz0, _, hcl6, h3⟩)
  obtain ⟨g₀, hfr⟩ := X'.frames_eq
  have hcell9 : ((T.setVm vm').setFrames (.throwing q :: below)).heap[q]? = some ce := by
    show T.heap[q]? = some ce
    rw [hT]; exact hcell
  have hend : Ended ((T.setVm vm').setFrames (.throwing q :: below)) below (.threw q) := State.frames_setFrames _ (State.cur_lt_of_frames hfr)
  refine ⟨(T.setVm vm').setFrames (.throwing q :: below), ?_, .threw q, X'.here.running, hend, Or.inr ⟨q, rfl, E, ce, locs, hx _ hT (X'.ends _).1.alike, hcell9, hv, hcl, (X'.ends _).1, (X'.ends _).2.mono hc hs, hf⟩⟩
  rw [lx_push X]
  exact st
/-- a thing of a world lies in the heap -/
theorem vx_lt {D : va_G} {cl : List vw_C} {ws : va_W} {H1 : Heap} (h : va_P D cl ws H1) {k : Nat} {q : Nat × va_E} (hk : ws[k]? = some q) : q.1 < H1.size := (h k q hk).lt
end VXS
/-! ===== END ===== -/
/-! ===== BEGIN methods with a table of their own: called by a name, returning or throwing ===== -/
section VXH
/-! vx_backW, vx_callVX, vx_callSX, vx_callVW, vx_runVW, vx_runVX, vx_runSX, vx_ofWH follow the same proofs as their sisters above (Free/Laws.lean, Shelf42/LK1.lean); vx_outP calls Shelf42/NT130.lean (outThrough). -/
section
variable {l : Launch} {R : Room} {p : Program} {e : Env} {below : List Frame} {s : State} {sargs : Array Value} {y : MethodName} {len W9 : Nat}
theorem vx_backW {ws : List Cond} {rm : Room} {Pc : Array Value → State → Prop} {Qc : Array Value → State → Outcome → State → Prop} {XC : String → State → State → Prop} {mc ms : Nat} {free : Addr → Prop} {bytes : ByteArray} {maxL : Nat} {ret : Option FieldType} {hh : List (Nat × Nat × Nat × Nat)}
    (hM : vx_Met l y ws rm Pc Qc XC mc ms free) (hblind : FrameBlind Pc) (hrc : rm.cells = mc) (hrs : rm.slots = ms)
    (hframes : rm.frames + 1 ≤ R.frames) (hlocals : W9 + (maxL + 11) + rm.locals ≤ R.locals)
    (hws : ∀ w ∈ ws, ∀ a' U, s.WarmedH U.vm → w.before a' U = true) (hcode : Cond.codeWith y bytes maxL ret hh ∈ ws) (hinit : ∀ a' U, s.WarmedH U.vm → (Cond.initialized y.cls).before a' U = true) :
    vx_Back l R p e below s sargs y len W9 (PreOf R mc ms Pc) (PostOf Qc mc ms free) (vx_Post XC mc ms free) := by
  intro m meth c A g ig mk a X hg hsize hdg hW hn hp
  have h1 : (headSpec ws rm).pre.before a A.U = true := atoms_intro fun w hw => hws w hw _ _ X.warmed
  have h2 : (Cond.codeWith y bytes maxL ret hh).before a A.U = true := hws _ hcode _ _ X.warmed
  have h3 : (Cond.initialized y.cls).before a A.U = true := hinit _ _ X.warmed
  have h4 : A.cells + (headSpec ws rm).room.cells ≤ R.cells := by rw [show (headSpec ws rm).room.cells = mc from hrc]; exact hp.1
  have h5 : A.slots + (headSpec ws rm).room.slots ≤ R.slots := by rw [show (headSpec ws rm).room.slots = ms from hrs]; exact hp.2.1
  have hPc : Pc a (A.U.calling g mk a) := hblind _ _ _ _ hp.2.2
  obtain ⟨U, Ls, c0, s0⟩ := A
  dsimp only [Pt.U, Pt.locs, Pt.cells, Pt.slots] at h1 h2 h3 h4 h5 X hn hPc ⊢
  obtain ⟨m9, methY, cY, hn9, hmY, hcY, -, hlY, -⟩ := Cond.codeWith_spec h2
  cases Option.some.inj (hn9.symm.trans hn)
  obtain ⟨kY, hkY, -⟩ := className_of_methodNamed hn
  have hinitY : kY.init = .initialized := Cond.initialized_spec (findClass_of_methodNamed hn) hkY h3
  have h : At U g.method c below := by rw [hg]; exact X.here
  have hlocals9 : W9 + (maxL + 11) + (headSpec ws rm).room.locals ≤ R.locals := hlocals
  have happ : (headSpec ws rm).appliesLoose y e.platform (U.calling g mk a) = true :=
    Spec.appliesLoose_calling (g := g) h hdg hn hkY hinitY
      (X.room_calling (g := g) (R' := (headSpec ws rm).room) hsize hmY hcY hframes (by rw [hlY]; omega) h4 h5) h1
  obtain ⟨mid, hmid⟩ := h.above
  have hfr : (U.setTop g).frames = (.java g :: mid) ++ below := by rw [State.frames_setTop' g h.top, hmid]; rfl
  obtain ⟨o, s₂, hsteps, -, hend, hq⟩ := Steps.callFree hM p X.admits X.cas X.clock (acts := []) hfr happ hPc trivial
  have hq' : vx_Q Qc XC mc ms free a (U.calling g mk a) o s₂ := hq
  rw [State.frames_setTop' g h.top] at hend
  obtain ⟨g₀, hg0⟩ := Option.isSome_iff_exists.mp h.top
  obtain ⟨r, hr⟩ := State.topJava?_eq_some.mp hg0
  have hr' : (({ U with heap := s₂.heap, slotsUsed := s₂.slotsUsed } : State).setVm s₂.vm).frames = .java g₀ :: r := hr
  rcases hq' with ⟨hqc, L, hfe, hL⟩ | ⟨q, rfl, E, ce, L, hx, hce, hcv, hcl, hW₂, hsm, hL⟩
  · obtain ⟨⟨v, rfl⟩, hW₂, e2, q2, q3, q4, q5, q6⟩ := id hfe
    have e3 : s₂ = ({ (U.calling g mk a).setFrames s₂.frames with heap := s₂.heap, slotsUsed := s₂.slotsUsed } : State).setVm s₂.vm := by
      have : s₂ = ({ s₂ with vm := (U.calling g mk a).vm } : State).setVm s₂.vm := rfl
      rw [e2] at this
      exact this
    obtain ⟨c₂, i₂, len₂, hc₂, hd₂, hf₂⟩ := hend
    have hW' : U.WarmedH s₂.vm := hW₂
    have hcc : c₂ = c := by
      have h1 : s₂.code? g.method = U.code? g.method := by
        rw [State.code?_eq, State.code?_eq, hW'.alike.method?]
      exact Option.some.inj (hc₂.symm.trans (h1.trans h.code))
    subst hcc
    have hlen : len₂ = len := by rw [hdg] at hd₂; cases hd₂; rfl
    subst hlen
    have hs₂ : s₂ = (({ U with heap := s₂.heap, slotsUsed := s₂.slotsUsed } : State).setVm s₂.vm).setTop { g with pc := g.pc + len₂, stack := v.toList ++ g.stack } := by
      refine e3.trans ?_
      rw [hf₂, State.calling_eq h.top, State.setFrames_setFrames, State.setTop_of_frames _ hr', hr]
      rfl
    have hsame : U.sameButNew ({ U with heap := s₂.heap, slotsUsed := s₂.slotsUsed } : State) L mc ms := by
      refine ⟨?_, q2, q3, q4, q5, q6⟩
      obtain ⟨t, ht, -⟩ := State.frames_cons hr
      show ({ U with heap := s₂.heap, slotsUsed := s₂.slotsUsed } : State) = { U.setFrames U.frames with heap := s₂.heap, slotsUsed := s₂.slotsUsed }
      rw [State.setFrames_self ht]
    subst hg
    refine Or.inl ⟨v, ⟨(({ U with heap := s₂.heap, slotsUsed := s₂.slotsUsed } : State).setVm s₂.vm), Ls ++ L, c0 + mc, s0 + ms⟩,
      ⟨X.admits, X.cas, X.clock, X.frames, X.room, X.hears, X.method, X.code, (X.here.setHeapUsed s₂.heap s₂.slotsUsed).setVm hW'.alike, X.tail, State.WarmedH.trans X.warmed hW', X.limits, X.bytes, X.same.trans (hsame.setVm s.vm)⟩,
      ⟨g, mk, s₂, L, rfl, rfl, hqc, rfl, hL, rfl, rfl⟩, ?_⟩
    show Steps p.tables e below _ ((({ U with heap := s₂.heap, slotsUsed := s₂.slotsUsed } : State).setVm s₂.vm).setTop { g with pc := g.pc + len₂, stack := v.toList ++ g.stack })
    rw [← hs₂]
    exact hsteps
  · obtain ⟨e2, q2, q3, q4, q5, q6⟩ := id hsm
    have e3 : s₂ = ({ (U.calling g mk a).setFrames s₂.frames with heap := s₂.heap, slotsUsed := s₂.slotsUsed } : State).setVm s₂.vm := by
      have : s₂ = ({ s₂ with vm := (U.calling g mk a).vm } : State).setVm s₂.vm := rfl
      rw [e2] at this
      exact this
    have hf₂ : s₂.frames = .throwing q :: .java g :: U.frames.tail := hend
    have hW' : U.WarmedH s₂.vm := hW₂
    have hs₂ : s₂ = ((({ U with heap := s₂.heap, slotsUsed := s₂.slotsUsed } : State).setVm s₂.vm).setTop g).pushFrame (.throwing q) := by
      refine e3.trans ?_
      rw [hf₂, State.calling_eq h.top, State.setFrames_setFrames, State.pushFrame, State.frames_setTop _ hr', State.setTop_of_frames _ hr', State.setFrames_setFrames, hr]
      rfl
    have hsame : U.sameButNew ({ U with heap := s₂.heap, slotsUsed := s₂.slotsUsed } : State) L mc ms := by
      refine ⟨?_, q2, q3, q4, q5, q6⟩
      obtain ⟨t, ht, -⟩ := State.frames_cons hr
      show ({ U with heap := s₂.heap, slotsUsed := s₂.slotsUsed } : State) = { U.setFrames U.frames with heap := s₂.heap, slotsUsed := s₂.slotsUsed }
      rw [State.setFrames_self ht]
    subst hg
    refine Or.inr ⟨q, ⟨(({ U with heap := s₂.heap, slotsUsed := s₂.slotsUsed } : State).setVm s₂.vm), Ls ++ L, c0 + mc, s0 + ms⟩,
      ⟨X.admits, X.cas, X.clock, X.frames, X.room, X.hears, X.method, X.code, (X.here.setHeapUsed s₂.heap s₂.slotsUsed).setVm hW'.alike, X.tail, State.WarmedH.trans X.warmed hW', X.limits, X.bytes, X.same.trans (hsame.setVm s.vm)⟩,
      ⟨g, mk, s₂, L, E, ce, rfl, rfl, hx, hce, hcv, hcl, rfl, hL, rfl, rfl⟩, ?_⟩
    show Steps p.tables e below _ (((({ U with heap := s₂.heap, slotsUsed := s₂.slotsUsed } : State).setVm s₂.vm).setTop g).pushFrame (.throwing q))
    rw [← hs₂]
    exact hsteps
end
variable {p : Program} {l : Launch} {e : Env} {R : Room} {s : State} {m : MethodId} {args : Array Value} {below : List Frame} {meth : Method} {c : Code} {T : State} {H : Heap} {locs : List Loc} {cells slots : Nat}
theorem vx_callVX (X : Stand p l e R s m args below meth c T locs cells slots) (hexec : p.tables.exec = Jvm.exec) {own C : String} {index : Nat} {y : MethodName} {bytes : ByteArray} {maxL : Nat} {ret : Option FieldType} {hh : List (Nat × Nat × Nat × Nat)}
    (hown : s.vm.findClass own = some m.cls) (hlink : (Cond.methodLink own index y).before args s = true) (hinst : (Cond.instanceMethod y).before args s = true) (hsel : (Cond.selects C y y).before args s = true)
    (hcode : (Cond.codeWith y bytes maxL ret hh).before args s = true) (hy : y.cls ≠ "java/lang/invoke/MethodHandle" ∧ y.cls ≠ "java/lang/invoke/VarHandle")
    {W9 : Nat} {Pre : Pt → Array Value → Prop} {Post : Pt → Array Value → Option Value → Pt → Prop} {PostX : Pt → Array Value → Addr → Pt → Prop} (hK : vx_Back l R p e below s args y 3 W9 Pre Post PostX)
    {b : Addr} {cellB : Cell} (hcell : T.heap[b]? = some cellB) (hobj : cellB.vm.isStatics = false) (hcls : s.vm.findClass C = some cellB.cls)
    {g : JFrame} (hg : g.method = m) (hsize : g.locals.size = c.maxLocals) {argsL rest : List Value} (hlen : ∀ sig, parseMethodDescriptor y.desc = some sig → argsL.length = sig.parameters.length)
    (hstack : g.stack = argsL.reverse ++ .ref b :: rest) (hW : 2 * g.monitorRoom + (rest.map fun v => v.category).sum ≤ W9) (hdg : decode c.code g.pc = .ok (.invokevirtual index, 3))
    (hpre : ∀ vm₁, s.WarmedH vm₁ → Pre ⟨T.setVm vm₁, locs, cells, slots⟩ (Value.ref b :: argsL).toArray) :
    (∃ (v : Option Value) (vm₁ : Vm) (B : Pt), s.WarmedH vm₁ ∧ Stand p l e R s m args below meth c B.U B.locs B.cells B.slots ∧ Post ⟨T.setVm vm₁, locs, cells, slots⟩ (Value.ref b :: argsL).toArray v B ∧
      ∀ target, Steps p.tables e below (B.U.setTop { g with pc := g.pc + 3, stack := v.toList ++ rest }) target → Steps p.tables e below (T.setTop g) target) ∨
    (∃ (q : Addr) (vm₁ : Vm) (B : Pt), s.WarmedH vm₁ ∧ Stand p l e R s m args below meth c B.U B.locs B.cells B.slots ∧ PostX ⟨T.setVm vm₁, locs, cells, slots⟩ (Value.ref b :: argsL).toArray q B ∧
      Steps p.tables e below (T.setTop g) ((B.U.setTop { g with stack := rest }).pushFrame (.throwing q))) := by
  obtain ⟨mk, methM, hnamed, hmethM, hstM, habM⟩ := Cond.instanceMethod_spec hinst
  obtain ⟨m8, methM', cM, hn8, hmethM', -, -, -, -, -, -, hsigM⟩ := Cond.codeWith_spec hcode
  cases Option.some.inj (hn8.symm.trans hnamed)
  cases hmethM.symm.trans hmethM'
  obtain ⟨c2, r2, m2, q1, q2, q3, q4, kP, hkP, hkPi⟩ := Cond.selects_spec hsel
  cases hcls.symm.trans q1
  cases (State.methodFound?_of_named hnamed hy).symm.trans q2
  cases hnamed.symm.trans q3
  have hselP : selectMethod e.platform s.vm cellB.cls mk = .method mk := by rw [Launch.admits_selectMethod X.admits]; exact q4
  obtain ⟨vm₁, X₁, hstep₁⟩ := X.invokevirtual hexec hown hlink hnamed hmethM hstM hkP hkPi hy (a := b) (cell := cellB) hcell
    (fun z h => by rw [h] at hobj; cases hobj) hselP hmethM habM hkP hkPi (g := g) hg (argsL := argsL) (rest := rest) (hlen _ hsigM) hstack hdg
  rcases hK m meth c ⟨T.setVm vm₁, locs, cells, slots⟩ { g with stack := rest } (.invokevirtual index) mk (Value.ref b :: argsL).toArray X₁ hg hsize hdg hW (X₁.named hnamed) (hpre vm₁ X₁.warmed) with ⟨v, B, X', hpost, hsteps⟩ | ⟨q, B, X', hpost, hsteps⟩
  · exact Or.inl ⟨v, vm₁, B, X₁.warmed, X', hpost, fun target h => hstep₁ _ fun acts => by rw [doInvoke_state]; exact hsteps.trans h⟩
  · exact Or.inr ⟨q, vm₁, B, X₁.warmed, X', hpost, hstep₁ _ fun acts => by rw [doInvoke_state]; exact hsteps⟩
theorem vx_callSX (X : Stand p l e R s m args below meth c T locs cells slots) (hexec : p.tables.exec = Jvm.exec) {own : String} {index : Nat} {y : MethodName} {bytes : ByteArray} {maxL : Nat} {ret : Option FieldType} {hh : List (Nat × Nat × Nat × Nat)}
    (hown : s.vm.findClass own = some m.cls) (hlink : (Cond.methodLink own index y).before args s = true) (hstat : (Cond.static y).before args s = true) (hinit : (Cond.initialized y.cls).before args s = true)
    (hcode : (Cond.codeWith y bytes maxL ret hh).before args s = true) (hy : y.cls ≠ "java/lang/invoke/MethodHandle" ∧ y.cls ≠ "java/lang/invoke/VarHandle")
    {W9 : Nat} {Pre : Pt → Array Value → Prop} {Post : Pt → Array Value → Option Value → Pt → Prop} {PostX : Pt → Array Value → Addr → Pt → Prop} (hK : vx_Back l R p e below s args y 3 W9 Pre Post PostX)
    {g : JFrame} (hg : g.method = m) (hsize : g.locals.size = c.maxLocals) {argsL rest : List Value} (hlen : ∀ sig, parseMethodDescriptor y.desc = some sig → argsL.length = sig.parameters.length)
    (hstack : g.stack = argsL.reverse ++ rest) (hW : 2 * g.monitorRoom + (rest.map fun v => v.category).sum ≤ W9) (hdg : decode c.code g.pc = .ok (.invokestatic index, 3))
    (hpre : ∀ vm₁, s.WarmedH vm₁ → Pre ⟨T.setVm vm₁, locs, cells, slots⟩ argsL.toArray) :
    (∃ (v : Option Value) (vm₁ : Vm) (B : Pt), s.WarmedH vm₁ ∧ Stand p l e R s m args below meth c B.U B.locs B.cells B.slots ∧ Post ⟨T.setVm vm₁, locs, cells, slots⟩ argsL.toArray v B ∧
      ∀ target, Steps p.tables e below (B.U.setTop { g with pc := g.pc + 3, stack := v.toList ++ rest }) target → Steps p.tables e below (T.setTop g) target) ∨
    (∃ (q : Addr) (vm₁ : Vm) (B : Pt), s.WarmedH vm₁ ∧ Stand p l e R s m args below meth c B.U B.locs B.cells B.slots ∧ PostX ⟨T.setVm vm₁, locs, cells, slots⟩ argsL.toArray q B ∧
      Steps p.tables e below (T.setTop g) ((B.U.setTop { g with stack := rest }).pushFrame (.throwing q))) := by
  obtain ⟨mk, methM, cM, hnamed, hmethM, -, -, -, -, -, -, hsigM⟩ := Cond.codeWith_spec hcode
  have hstatic : methM.isStatic = true := Cond.static_spec hnamed hmethM hstat
  obtain ⟨kP, hkP, -⟩ := className_of_methodNamed hnamed
  have hinitP : kP.init = .initialized := Cond.initialized_spec (findClass_of_methodNamed hnamed) hkP hinit
  obtain ⟨vm₁, X₁, hstep₁⟩ := X.invokestatic hexec hown hlink hnamed hmethM hstatic hkP hinitP hy (g := g) hg (argsL := argsL) (rest := rest) (hlen _ hsigM) hstack hdg
  rcases hK m meth c ⟨T.setVm vm₁, locs, cells, slots⟩ { g with stack := rest } (.invokestatic index) mk argsL.toArray X₁ hg hsize hdg hW (X₁.named hnamed) (hpre vm₁ X₁.warmed) with ⟨v, B, X', hpost, hsteps⟩ | ⟨q, B, X', hpost, hsteps⟩
  · exact Or.inl ⟨v, vm₁, B, X₁.warmed, X', hpost, fun target h => hstep₁ _ fun acts => by rw [doInvoke_state]; exact hsteps.trans h⟩
  · exact Or.inr ⟨q, vm₁, B, X₁.warmed, X', hpost, hstep₁ _ fun acts => by rw [doInvoke_state]; exact hsteps⟩
theorem vx_callVW (X : Stand p l e R s m args below meth c T locs cells slots) (hexec : p.tables.exec = Jvm.exec) {own C : String} {index : Nat} {y : MethodName} {bytes : ByteArray} {maxL : Nat} {ret : Option FieldType} {hh : List (Nat × Nat × Nat × Nat)}
    (hown : s.vm.findClass own = some m.cls) (hlink : (Cond.methodLink own index y).before args s = true) (hinst : (Cond.instanceMethod y).before args s = true) (hsel : (Cond.selects C y y).before args s = true)
    (hcode : (Cond.codeWith y bytes maxL ret hh).before args s = true) (hy : y.cls ≠ "java/lang/invoke/MethodHandle" ∧ y.cls ≠ "java/lang/invoke/VarHandle")
    {W9 : Nat} {Pre : Pt → Array Value → Prop} {Post : Pt → Array Value → Option Value → Pt → Prop} (hK : Back l R p e below s args y 3 W9 Pre Post)
    {b : Addr} {cellB : Cell} (hcell : T.heap[b]? = some cellB) (hobj : cellB.vm.isStatics = false) (hcls : s.vm.findClass C = some cellB.cls)
    {g : JFrame} (hg : g.method = m) (hsize : g.locals.size = c.maxLocals) {argsL rest : List Value} (hlen : ∀ sig, parseMethodDescriptor y.desc = some sig → argsL.length = sig.parameters.length)
    (hstack : g.stack = argsL.reverse ++ .ref b :: rest) (hW : 2 * g.monitorRoom + (rest.map fun v => v.category).sum ≤ W9) (hdg : decode c.code g.pc = .ok (.invokevirtual index, 3))
    (hpre : ∀ vm₁, s.WarmedH vm₁ → Pre ⟨T.setVm vm₁, locs, cells, slots⟩ (Value.ref b :: argsL).toArray) :
    ∃ (v : Option Value) (vm₁ : Vm) (B : Pt), s.WarmedH vm₁ ∧ Stand p l e R s m args below meth c B.U B.locs B.cells B.slots ∧ Post ⟨T.setVm vm₁, locs, cells, slots⟩ (Value.ref b :: argsL).toArray v B ∧
      ∀ target, Steps p.tables e below (B.U.setTop { g with pc := g.pc + 3, stack := v.toList ++ rest }) target → Steps p.tables e below (T.setTop g) target := by
  obtain ⟨mk, methM, hnamed, hmethM, hstM, habM⟩ := Cond.instanceMethod_spec hinst
  obtain ⟨m8, methM', cM, hn8, hmethM', -, -, -, -, -, -, hsigM⟩ := Cond.codeWith_spec hcode
  cases Option.some.inj (hn8.symm.trans hnamed)
  cases hmethM.symm.trans hmethM'
  obtain ⟨c2, r2, m2, q1, q2, q3, q4, kP, hkP, hkPi⟩ := Cond.selects_spec hsel
  cases hcls.symm.trans q1
  cases (State.methodFound?_of_named hnamed hy).symm.trans q2
  cases hnamed.symm.trans q3
  have hselP : selectMethod e.platform s.vm cellB.cls mk = .method mk := by rw [Launch.admits_selectMethod X.admits]; exact q4
  obtain ⟨vm₁, X₁, hstep₁⟩ := X.invokevirtual hexec hown hlink hnamed hmethM hstM hkP hkPi hy (a := b) (cell := cellB) hcell
    (fun z h => by rw [h] at hobj; cases hobj) hselP hmethM habM hkP hkPi (g := g) hg (argsL := argsL) (rest := rest) (hlen _ hsigM) hstack hdg
  obtain ⟨v, B, X', hpost, hsteps⟩ := hK m meth c ⟨T.setVm vm₁, locs, cells, slots⟩ { g with stack := rest } (.invokevirtual index) mk (Value.ref b :: argsL).toArray X₁ hg hsize hdg hW (X₁.named hnamed) (hpre vm₁ X₁.warmed)
  exact ⟨v, vm₁, B, X₁.warmed, X', hpost, fun target h => hstep₁ _ fun acts => by rw [doInvoke_state]; exact hsteps.trans h⟩
abbrev vx_CVW (R : Room) (s : State) (args : Array Value) (own C : String) (index : Nat) (y : MethodName) (bytes : ByteArray) (maxL : Nat) (ret : Option FieldType) (hh : List (Nat × Nat × Nat × Nat)) (ws : List Cond) (rm : Room) (mc ms n : Nat) : Prop :=
  (rm.cells = mc ∧ rm.slots = ms ∧ rm.frames + 1 ≤ R.frames ∧ 8 + (maxL + 11) + rm.locals ≤ R.locals ∧ (∀ w ∈ ws, ∀ (a' : Array Value) (U : State), s.WarmedH U.vm → w.before a' U = true) ∧ Cond.codeWith y bytes maxL ret hh ∈ ws) ∧
  (Cond.codeWith y bytes maxL ret hh).before args s = true ∧ (Cond.initialized y.cls).before args s = true ∧ (y.cls ≠ "java/lang/invoke/MethodHandle" ∧ y.cls ≠ "java/lang/invoke/VarHandle") ∧
  (∀ sig, parseMethodDescriptor y.desc = some sig → n = sig.parameters.length) ∧ (Cond.methodLink own index y).before args s = true ∧ (Cond.instanceMethod y).before args s = true ∧ (Cond.selects C y y).before args s = true
theorem vx_cwVW {own C : String} {index maxL mc ms : Nat} {y : MethodName} {bytes : ByteArray} {ret : Option FieldType} {hh : List (Nat × Nat × Nat × Nat)} {Ts ws ws' : List Cond} {rm : Room} (n : Nat) (ht : ∀ w ∈ Ts, w.before args s = true) (hT : GoodIn Ts (wsV own index C y ws)) (hw : ws = Cond.codeWith y bytes maxL ret hh :: ws') (hrc : rm.cells = mc) (hrs : rm.slots = ms)
    (hd : y.cls = C ∧ y.cls ≠ "java/lang/invoke/MethodHandle" ∧ y.cls ≠ "java/lang/invoke/VarHandle" ∧ (parseMethodDescriptor y.desc).map (fun d => d.parameters.length) = some n) (hR : rm.frames + 1 ≤ R.frames ∧ 8 + (maxL + 11) + rm.locals ≤ R.locals) :
    vx_CVW R s args own C index y bytes maxL ret hh ws rm mc ms n := by
  obtain ⟨hC, hd⟩ := hd
  subst hC
  have ok : ∀ w ∈ wsV own index y.cls y ws, w.before args s = true := fun w h => ht w (hT w h).1
  have hG : GoodIn Ts ws := fun w h => hT w (by unfold wsV; exact List.mem_append_right _ h)
  have hc : Cond.codeWith y bytes maxL ret hh ∈ ws := by rw [hw]; exact List.mem_cons_self
  refine ⟨⟨hrc, hrs, hR.1, hR.2, pay_in ht hG, hc⟩, ht _ (hG _ hc).1, ok _ (by simp [wsV]), ⟨hd.1, hd.2.1⟩, fun sig h => ?_, ok _ (by simp [wsV]), ok _ (by simp [wsV]), ok _ (by simp [wsV])⟩
  have h2 := hd.2.2
  rw [h] at h2
  exact (Option.some.inj h2).symm
theorem vx_runVW {y : MethodName} {bytes cc : ByteArray} {maxL nL mc ms n index : Nat} {ret : Option FieldType} {hh : List (Nat × Nat × Nat × Nat)} {ws : List Cond} {rm : Room} {Pc : Array Value → State → Prop} {Qc : Array Value → State → Outcome → State → Prop} {free : Addr → Prop} {Ts : List Cond} {own C : String} {b : Addr} {As rest : List Value} {g : JFrame}
    (S : CallFix p m c cc nL s args Ts own) (hM : Met l y ws rm Pc Qc mc ms free) (cw : vx_CVW R s args own C index y bytes maxL ret hh ws rm mc ms n) (hp : PreV s H C b Pc As)
    (hg : g.method = m) (hn : As.length = n) (hsize : g.locals.size = nL) (hstack : g.stack = As.reverse ++ .ref b :: rest) (hW : 2 * g.monitorRoom + (rest.map fun v => v.category).sum ≤ 8) (hdg : decode cc g.pc = .ok (.invokevirtual index, 3)) (hf : cells + mc ≤ R.cells ∧ slots + ms ≤ R.slots) :
    va_Run p l e R s m args below meth c H locs cells slots mc ms g rest (Qc (Value.ref b :: As).toArray) free := by
  obtain ⟨⟨hrc, hrs, hfr, hlo, hws, hcw⟩, hcode, hini, hy, hlen, hl, hin, hse⟩ := cw
  have hK : Back l R p e below s args y 3 8 (PreOf R mc ms Pc) (PostOf Qc mc ms free) := va_backW (hh := hh) (bytes := bytes) (maxL := maxL) (ret := ret) hM hp.1 hrc hrs hfr hlo hws hcw (fun a' U hW => word_at hW (Or.inl (by first | rfl | simp [Cond.onTables, Cond.keeps, Cond.steady])) hini)
  obtain ⟨hx, hb, hml, ho, -⟩ := S
  obtain ⟨-, ⟨cellB, hcB, hoB, hclB⟩, hPc⟩ := hp
  intro T hT X
  obtain ⟨v, vm₁, ⟨U', l2, c2, s2⟩, hW₁, X', ⟨g', mk, t, L, e1, e2, hq, h1, hL, h2, h3⟩, st⟩ := vx_callVW X hx (C := C) (hh := hh) (bytes := bytes) (maxL := maxL) (ret := ret) ho hl hin hse hcode hy hK (by rw [hT]; exact hcB) hoB hclB hg (hsize.trans hml.symm) (argsL := As) (rest := rest) (fun sig h => hn.trans (hlen sig h)) hstack hW (by rw [hb]; exact hdg)
    (fun vm₁ hW₁ => ⟨hf.1, hf.2, hPc (T.setVm vm₁) hT hW₁⟩)
  dsimp only [Pt.U, Pt.locs, Pt.cells, Pt.slots] at X' e1 e2 h1 h2 h3 st
  subst h1; subst h2; subst h3
  exact ⟨v, (T.setVm vm₁).calling g' mk (Value.ref b :: As).toArray, t, U', L, hT, X', hL, e1, e2, hq, st⟩
section
variable {y : MethodName} {bytes cc : ByteArray} {maxL nL mc ms n index : Nat} {ret : Option FieldType} {ws : List Cond} {rm : Room} {Pc : Array Value → State → Prop} {Qc : Array Value → State → Outcome → State → Prop} {XC : String → State → State → Prop} {free : Addr → Prop} {Ts : List Cond} {own C : String} {b : Addr} {As rest : List Value} {g : JFrame}
theorem vx_runVX {hh : List (Nat × Nat × Nat × Nat)} (S : CallFix p m c cc nL s args Ts own) (hM : vx_Met l y ws rm Pc Qc XC mc ms free) (cw : vx_CVW R s args own C index y bytes maxL ret hh ws rm mc ms n) (hp : PreV s H C b Pc As)
    (hg : g.method = m) (hn : As.length = n) (hsize : g.locals.size = nL) (hstack : g.stack = As.reverse ++ .ref b :: rest) (hW : 2 * g.monitorRoom + (rest.map fun v => v.category).sum ≤ 8) (hdg : decode cc g.pc = .ok (.invokevirtual index, 3)) (hf : cells + mc ≤ R.cells ∧ slots + ms ≤ R.slots) :
    vx_Run p l e R s m args below meth c H locs cells slots mc ms g rest (Qc (Value.ref b :: As).toArray) XC free := by
  obtain ⟨⟨hrc, hrs, hfr, hlo, hws, hcw⟩, hcode, hini, hy, hlen, hl, hin, hse⟩ := cw
  have hK : vx_Back l R p e below s args y 3 8 (PreOf R mc ms Pc) (PostOf Qc mc ms free) (vx_Post XC mc ms free) := vx_backW (hh := hh) (bytes := bytes) (maxL := maxL) (ret := ret) hM hp.1 hrc hrs hfr hlo hws hcw (fun a' U hW => word_at hW (Or.inl (by first | rfl | simp [Cond.onTables, Cond.keeps, Cond.steady])) hini)
  obtain ⟨hx, hb, hml, ho, -⟩ := S
  obtain ⟨-, ⟨cellB, hcB, hoB, hclB⟩, hPc⟩ := hp
  intro T hT X
  rcases vx_callVX X hx (C := C) (hh := hh) (bytes := bytes) (maxL := maxL) (ret := ret) ho hl hin hse hcode hy hK (by rw [hT]; exact hcB) hoB hclB hg (hsize.trans hml.symm) (argsL := As) (rest := rest) (fun sig h => hn.trans (hlen sig h)) hstack hW (by rw [hb]; exact hdg)
    (fun vm₁ hW₁ => ⟨hf.1, hf.2, hPc (T.setVm vm₁) hT hW₁⟩) with ⟨v, vm₁, ⟨U', l2, c2, s2⟩, hW₁, X', ⟨g', mk, t, L, e1, e2, hq, h1, hL, h2, h3⟩, st⟩ | ⟨q, vm₁, ⟨U', l2, c2, s2⟩, hW₁, X', ⟨g', mk, t, L, E, ce, e1, e2, hq, hce, hcv, hcl, h1, hL, h2, h3⟩, st⟩
  · dsimp only [Pt.U, Pt.locs, Pt.cells, Pt.slots] at X' e1 e2 h1 h2 h3 st
    subst h1; subst h2; subst h3
    exact Or.inl ⟨v, (T.setVm vm₁).calling g' mk (Value.ref b :: As).toArray, t, U', L, hT, X', hL, e1, e2, hq, st⟩
  · dsimp only [Pt.U, Pt.locs, Pt.cells, Pt.slots] at X' e1 e2 h1 h2 h3 st hcl
    subst h1; subst h2; subst h3
    exact Or.inr ⟨q, (T.setVm vm₁).calling g' mk (Value.ref b :: As).toArray, t, U', L, E, ce, hT, X', hL, e1, e2, hq, hce, hcv, vx_cls hW₁ hcl, st⟩
theorem vx_runSX {hh : List (Nat × Nat × Nat × Nat)} (S : CallFix p m c cc nL s args Ts own) (hM : vx_Met l y ws rm Pc Qc XC mc ms free) (cw : vx_CSW R s args own index y bytes maxL ret hh ws rm mc ms n) (hp : PreS s H Pc As)
    (hg : g.method = m) (hn : As.length = n) (hsize : g.locals.size = nL) (hstack : g.stack = As.reverse ++ rest) (hW : 2 * g.monitorRoom + (rest.map fun v => v.category).sum ≤ 8) (hdg : decode cc g.pc = .ok (.invokestatic index, 3)) (hf : cells + mc ≤ R.cells ∧ slots + ms ≤ R.slots) :
    vx_Run p l e R s m args below meth c H locs cells slots mc ms g rest (Qc As.toArray) XC free := by
  obtain ⟨⟨hrc, hrs, hfr, hlo, hws, hcw⟩, hcode, hini, hy, hlen, hl, hstt⟩ := cw
  have hK : vx_Back l R p e below s args y 3 8 (PreOf R mc ms Pc) (PostOf Qc mc ms free) (vx_Post XC mc ms free) := vx_backW (hh := hh) (bytes := bytes) (maxL := maxL) (ret := ret) hM hp.1 hrc hrs hfr hlo hws hcw (fun a' U hW => word_at hW (Or.inl (by first | rfl | simp [Cond.onTables, Cond.keeps, Cond.steady])) hini)
  obtain ⟨hx, hb, hml, ho, -⟩ := S
  intro T hT X
  rcases vx_callSX X hx (hh := hh) (bytes := bytes) (maxL := maxL) (ret := ret) ho hl hstt hini hcode hy hK hg (hsize.trans hml.symm) (argsL := As) (rest := rest) (fun sig h => hn.trans (hlen sig h)) hstack hW (by rw [hb]; exact hdg)
    (fun vm₁ hW₁ => ⟨hf.1, hf.2, hp.2 (T.setVm vm₁) hT hW₁⟩) with ⟨v, vm₁, ⟨U', l2, c2, s2⟩, hW₁, X', ⟨g', mk, t, L, e1, e2, hq, h1, hL, h2, h3⟩, st⟩ | ⟨q, vm₁, ⟨U', l2, c2, s2⟩, hW₁, X', ⟨g', mk, t, L, E, ce, e1, e2, hq, hce, hcv, hcl, h1, hL, h2, h3⟩, st⟩
  · dsimp only [Pt.U, Pt.locs, Pt.cells, Pt.slots] at X' e1 e2 h1 h2 h3 st
    subst h1; subst h2; subst h3
    exact Or.inl ⟨v, (T.setVm vm₁).calling g' mk As.toArray, t, U', L, hT, X', hL, e1, e2, hq, st⟩
  · dsimp only [Pt.U, Pt.locs, Pt.cells, Pt.slots] at X' e1 e2 h1 h2 h3 st hcl
    subst h1; subst h2; subst h3
    exact Or.inr ⟨q, (T.setVm vm₁).calling g' mk As.toArray, t, U', L, E, ce, hT, X', hL, e1, e2, hq, hce, hcv, vx_cls hW₁ hcl, st⟩
end
end VXH
theorem vx_ofWH {l : Launch} {y : MethodName} {ws ws' : List Cond} {rm : Room} {Pc : Array Value → State → Prop} {Qc : Array Value → State → Outcome → State → Prop} {XC : String → State → State → Prop} {mc ms : Nat} {free : Addr → Prop} {cc : ByteArray} {maxL : Nat} {ret : Option FieldType} {hh : List (Nat × Nat × Nat × Nat)}
    (hy : plainName y.cls = true) (hw : ws = Cond.codeWith y cc maxL ret hh :: ws')
    (body : ∀ p e s m args below meth c s₁, BodyLoose p l y (headSpec ws rm) cc maxL ret e s m args below meth c s₁ → c.maxLocals = maxL → Pc args s →
      W p l e (headSpec ws rm).room s m args below meth c s.heap [] 0 0 (vx_MQ below Qc XC args s mc ms free) (entryFrame m args maxL)) : vx_Met l y ws rm Pc Qc XC mc ms free := by
  refine MetFree.of_bodyS (code := cc) (maxLocals := maxL) (ret := ret) hy ?_ ?_
  · intro args s m h hn
    obtain ⟨m9, meth, c, hn9, h1, h2, h3, h4, -, h5, h6, -⟩ := Cond.codeWith_spec (atoms_spec (ws := ws) h _ (by rw [hw]; exact List.mem_cons_self))
    cases hn.symm.trans hn9
    exact ⟨meth, c, h1, h2, h3, h4, h5, h6⟩
  · intro p e s m args below meth c s₁ B hml hP _
    have hh0 : s₁.heap = s.heap := by rw [B.state]; rfl
    obtain ⟨t, a1, o, b1, b2, b3⟩ := body p e s m args below meth c s₁ B hml hP s₁ hh0 (Stand.of_body B)
    exact ⟨t, o, a1, b1, b2, b3⟩
/-! ===== END ===== -/
end
section
def RX0 : String := "FontPacker$BitReader"
def TX0 : u_T := fun k => match k with
  | 0 => ("FontPacker$BitReader", "row", "LFontPacker$Row;", true)
  | 1 => ("FontPacker$BitReader", "bitsTogether", "I", true)
  | 2 => ("FontPacker$BitReader", "bitsTaken", "I", false)
  | _ => ("FontPacker$BitReader", "broken", "Z", false)
def tyX0 : Nat → FieldType := fun k => match k with
  | 0 => .object "FontPacker$Row"
  | 1 => .int
  | 2 => .int
  | _ => .boolean
abbrev wsX00 : List Cond := u_ws RX0 TX0 4
theorem nmX0 : ∀ a, a < 4 → ∀ b, b < 4 → a ≠ b → (TX0 a).2.1 ≠ (TX0 b).2.1 := by decide +kernel
theorem tyX0_ok : ∀ k, k < 4 → parseFieldDescriptor (TX0 k).2.2.1 = some (tyX0 k) := by decide +kernel
abbrev cX0_init : ByteArray := prog_2_method_1_code
def yX0_init : MethodName := ⟨RX0, "<init>", "(LFontPacker$Row;I)V"⟩
abbrev cX0_isBroken : ByteArray := prog_2_method_2_code
def yX0_isBroken : MethodName := ⟨RX0, "isBroken", "()Z"⟩
abbrev cX0_nextBits : ByteArray := prog_2_method_3_code
def yX0_nextBits : MethodName := ⟨RX0, "nextBits", "(I)I"⟩
abbrev cX0_nextGamma : ByteArray := prog_2_method_4_code
def yX0_nextGamma : MethodName := ⟨RX0, "nextGamma", "()I"⟩
abbrev cX0_hasOnlyFillLeft : ByteArray := prog_2_method_5_code
def yX0_hasOnlyFillLeft : MethodName := ⟨RX0, "hasOnlyFillLeft", "()Z"⟩
def RX1 : String := "FontPacker$BitWriter"
def TX1 : u_T := fun k => match k with
  | 0 => ("FontPacker$BitWriter", "out", "LFontPacker$Row;", true)
  | 1 => ("FontPacker$BitWriter", "begun", "I", false)
  | _ => ("FontPacker$BitWriter", "bitsBegun", "I", false)
def tyX1 : Nat → FieldType := fun k => match k with
  | 0 => .object "FontPacker$Row"
  | 1 => .int
  | _ => .int
abbrev wsX10 : List Cond := u_ws RX1 TX1 3
theorem nmX1 : ∀ a, a < 3 → ∀ b, b < 3 → a ≠ b → (TX1 a).2.1 ≠ (TX1 b).2.1 := by decide +kernel
theorem tyX1_ok : ∀ k, k < 3 → parseFieldDescriptor (TX1 k).2.2.1 = some (tyX1 k) := by decide +kernel
abbrev cX1_init : ByteArray := prog_3_method_1_code
def yX1_init : MethodName := ⟨RX1, "<init>", "(LFontPacker$Row;)V"⟩
abbrev cX1_addBits : ByteArray := prog_3_method_2_code
def yX1_addBits : MethodName := ⟨RX1, "addBits", "(II)V"⟩
abbrev cX1_addGamma : ByteArray := prog_3_method_3_code
def yX1_addGamma : MethodName := ⟨RX1, "addGamma", "(I)V"⟩
abbrev cX1_fillByte : ByteArray := prog_3_method_4_code
def yX1_fillByte : MethodName := ⟨RX1, "fillByte", "()V"⟩
def RX2 : String := "FontPacker$Cursor"
def TX2 : u_T := fun k => match k with
  | 0 => ("FontPacker$Cursor", "row", "LFontPacker$Row;", true)
  | 1 => ("FontPacker$Cursor", "end", "I", true)
  | 2 => ("FontPacker$Cursor", "place", "I", false)
  | _ => ("FontPacker$Cursor", "broken", "Z", false)
def tyX2 : Nat → FieldType := fun k => match k with
  | 0 => .object "FontPacker$Row"
  | 1 => .int
  | 2 => .int
  | _ => .boolean
abbrev wsX20 : List Cond := u_ws RX2 TX2 4
theorem nmX2 : ∀ a, a < 4 → ∀ b, b < 4 → a ≠ b → (TX2 a).2.1 ≠ (TX2 b).2.1 := by decide +kernel
theorem tyX2_ok : ∀ k, k < 4 → parseFieldDescriptor (TX2 k).2.2.1 = some (tyX2 k) := by decide +kernel
abbrev cX2_init : ByteArray := prog_4_method_1_code
def yX2_init : MethodName := ⟨RX2, "<init>", "(LFontPacker$Row;II)V"⟩
abbrev cX2_isBroken : ByteArray := prog_4_method_2_code
def yX2_isBroken : MethodName := ⟨RX2, "isBroken", "()Z"⟩
abbrev cX2_isAtEnd : ByteArray := prog_4_method_3_code
def yX2_isAtEnd : MethodName := ⟨RX2, "isAtEnd", "()Z"⟩
abbrev cX2_place : ByteArray := prog_4_method_4_code
def yX2_place : MethodName := ⟨RX2, "place", "()I"⟩
abbrev cX2_next : ByteArray := prog_4_method_5_code
def yX2_next : MethodName := ⟨RX2, "next", "()I"⟩
abbrev cX2_nextShort : ByteArray := prog_4_method_6_code
def yX2_nextShort : MethodName := ⟨RX2, "nextShort", "()I"⟩
abbrev cX2_nextLong : ByteArray := prog_4_method_7_code
def yX2_nextLong : MethodName := ⟨RX2, "nextLong", "()I"⟩
def RX3 : String := "FontPacker$Font"
def TX3 : u_T := fun k => match k with
  | 0 => ("FontPacker$Font", "glyphs", "[LFontPacker$Glyph;", true)
  | 1 => ("FontPacker$Font", "rows", "[LFontPacker$Row;", true)
  | _ => ("FontPacker$Font", "glyphCount", "I", false)
def tyX3 : Nat → FieldType := fun k => match k with
  | 0 => .array (.object "FontPacker$Glyph")
  | 1 => .array (.object "FontPacker$Row")
  | _ => .int
abbrev wsX30 : List Cond := u_ws RX3 TX3 3
theorem nmX3 : ∀ a, a < 3 → ∀ b, b < 3 → a ≠ b → (TX3 a).2.1 ≠ (TX3 b).2.1 := by decide +kernel
theorem tyX3_ok : ∀ k, k < 3 → parseFieldDescriptor (TX3 k).2.2.1 = some (tyX3 k) := by decide +kernel
abbrev cX3_init : ByteArray := prog_5_method_1_code
def yX3_init : MethodName := ⟨RX3, "<init>", "()V"⟩
abbrev cX3_rowSize : ByteArray := prog_5_method_2_code
def yX3_rowSize : MethodName := ⟨RX3, "rowSize", "(I)I"⟩
abbrev cX3_makeEmpty : ByteArray := prog_5_method_3_code
def yX3_makeEmpty : MethodName := ⟨RX3, "makeEmpty", "()V"⟩
abbrev cX3_glyphCount : ByteArray := prog_5_method_4_code
def yX3_glyphCount : MethodName := ⟨RX3, "glyphCount", "()I"⟩
abbrev cX3_glyphAt : ByteArray := prog_5_method_5_code
def yX3_glyphAt : MethodName := ⟨RX3, "glyphAt", "(I)LFontPacker$Glyph;"⟩
abbrev cX3_latestGlyph : ByteArray := prog_5_method_6_code
def yX3_latestGlyph : MethodName := ⟨RX3, "latestGlyph", "()LFontPacker$Glyph;"⟩
abbrev cX3_addGlyph : ByteArray := prog_5_method_7_code
def yX3_addGlyph : MethodName := ⟨RX3, "addGlyph", "(I)I"⟩
abbrev cX3_hasEmptyContour : ByteArray := prog_5_method_8_code
def yX3_hasEmptyContour : MethodName := ⟨RX3, "hasEmptyContour", "()Z"⟩
abbrev cX3_tableRow : ByteArray := prog_5_method_9_code
def yX3_tableRow : MethodName := ⟨RX3, "tableRow", "(I)LFontPacker$Row;"⟩
abbrev cX3_hasTable : ByteArray := prog_5_method_10_code
def yX3_hasTable : MethodName := ⟨RX3, "hasTable", "(I)Z"⟩
abbrev cX3_tableCount : ByteArray := prog_5_method_11_code
def yX3_tableCount : MethodName := ⟨RX3, "tableCount", "()I"⟩
def RX4 : String := "FontPacker$Glyph"
def TX4 : u_T := fun k => match k with
  | 0 => ("FontPacker$Glyph", "sizes", "LFontPacker$Row;", true)
  | 1 => ("FontPacker$Glyph", "xs", "LFontPacker$Row;", true)
  | 2 => ("FontPacker$Glyph", "ys", "LFontPacker$Row;", true)
  | 3 => ("FontPacker$Glyph", "ons", "LFontPacker$Row;", true)
  | _ => ("FontPacker$Glyph", "advance", "I", false)
def tyX4 : Nat → FieldType := fun k => match k with
  | 0 => .object "FontPacker$Row"
  | 1 => .object "FontPacker$Row"
  | 2 => .object "FontPacker$Row"
  | 3 => .object "FontPacker$Row"
  | _ => .int
abbrev wsX40 : List Cond := u_ws RX4 TX4 5
theorem nmX4 : ∀ a, a < 5 → ∀ b, b < 5 → a ≠ b → (TX4 a).2.1 ≠ (TX4 b).2.1 := by decide +kernel
theorem tyX4_ok : ∀ k, k < 5 → parseFieldDescriptor (TX4 k).2.2.1 = some (tyX4 k) := by decide +kernel
abbrev cX4_init : ByteArray := prog_6_method_1_code
def yX4_init : MethodName := ⟨RX4, "<init>", "()V"⟩
abbrev cX4_begin : ByteArray := prog_6_method_2_code
def yX4_begin : MethodName := ⟨RX4, "begin", "()V"⟩
abbrev cX4_advance : ByteArray := prog_6_method_3_code
def yX4_advance : MethodName := ⟨RX4, "advance", "()I"⟩
abbrev cX4_changeAdvance : ByteArray := prog_6_method_4_code
def yX4_changeAdvance : MethodName := ⟨RX4, "changeAdvance", "(I)V"⟩
abbrev cX4_contourCount : ByteArray := prog_6_method_5_code
def yX4_contourCount : MethodName := ⟨RX4, "contourCount", "()I"⟩
abbrev cX4_contourSize : ByteArray := prog_6_method_6_code
def yX4_contourSize : MethodName := ⟨RX4, "contourSize", "(I)I"⟩
abbrev cX4_pointCount : ByteArray := prog_6_method_7_code
def yX4_pointCount : MethodName := ⟨RX4, "pointCount", "()I"⟩
abbrev cX4_hasEmptyContour : ByteArray := prog_6_method_8_code
def yX4_hasEmptyContour : MethodName := ⟨RX4, "hasEmptyContour", "()Z"⟩
abbrev cX4_addContour : ByteArray := prog_6_method_9_code
def yX4_addContour : MethodName := ⟨RX4, "addContour", "()I"⟩
abbrev cX4_growLatestContour : ByteArray := prog_6_method_10_code
def yX4_growLatestContour : MethodName := ⟨RX4, "growLatestContour", "()V"⟩
abbrev cX4_changeContourSize : ByteArray := prog_6_method_11_code
def yX4_changeContourSize : MethodName := ⟨RX4, "changeContourSize", "(II)V"⟩
abbrev cX4_addPoint : ByteArray := prog_6_method_12_code
def yX4_addPoint : MethodName := ⟨RX4, "addPoint", "(IIZ)I"⟩
abbrev cX4_x : ByteArray := prog_6_method_13_code
def yX4_x : MethodName := ⟨RX4, "x", "(I)I"⟩
abbrev cX4_y : ByteArray := prog_6_method_14_code
def yX4_y : MethodName := ⟨RX4, "y", "(I)I"⟩
abbrev cX4_isOn : ByteArray := prog_6_method_15_code
def yX4_isOn : MethodName := ⟨RX4, "isOn", "(I)Z"⟩
abbrev cX4_dx : ByteArray := prog_6_method_16_code
def yX4_dx : MethodName := ⟨RX4, "dx", "(I)I"⟩
abbrev cX4_dy : ByteArray := prog_6_method_17_code
def yX4_dy : MethodName := ⟨RX4, "dy", "(I)I"⟩
abbrev cX4_contourOf : ByteArray := prog_6_method_18_code
def yX4_contourOf : MethodName := ⟨RX4, "contourOf", "(I)I"⟩
abbrev cX4_sizesTogether : ByteArray := prog_6_method_19_code
def yX4_sizesTogether : MethodName := ⟨RX4, "sizesTogether", "()I"⟩
def RX5 : String := "FontPacker$PackedReader"
def TX5 : u_T := fun k => match k with
  | 0 => ("FontPacker$PackedReader", "stream", "LFontPacker$Row;", true)
  | 1 => ("FontPacker$PackedReader", "plainLengths", "LFontPacker$Row;", true)
  | 2 => ("FontPacker$PackedReader", "streamLengths", "LFontPacker$Row;", true)
  | 3 => ("FontPacker$PackedReader", "saysGlyphs", "Z", false)
  | 4 => ("FontPacker$PackedReader", "streamLength", "I", false)
  | 5 => ("FontPacker$PackedReader", "dx", "I", false)
  | _ => ("FontPacker$PackedReader", "dy", "I", false)
def tyX5 : Nat → FieldType := fun k => match k with
  | 0 => .object "FontPacker$Row"
  | 1 => .object "FontPacker$Row"
  | 2 => .object "FontPacker$Row"
  | 3 => .boolean
  | 4 => .int
  | 5 => .int
  | _ => .int
abbrev wsX50 : List Cond := u_ws RX5 TX5 7
theorem nmX5 : ∀ a, a < 7 → ∀ b, b < 7 → a ≠ b → (TX5 a).2.1 ≠ (TX5 b).2.1 := by decide +kernel
theorem tyX5_ok : ∀ k, k < 7 → parseFieldDescriptor (TX5 k).2.2.1 = some (tyX5 k) := by decide +kernel
abbrev cX5_init : ByteArray := prog_7_method_1_code
def yX5_init : MethodName := ⟨RX5, "<init>", "()V"⟩
abbrev cX5_readPacked : ByteArray := prog_7_method_2_code
def yX5_readPacked : MethodName := ⟨RX5, "readPacked", "(LFontPacker$Row;LFontPacker$Font;)I"⟩
abbrev cX5_readHead : ByteArray := prog_7_method_3_code
def yX5_readHead : MethodName := ⟨RX5, "readHead", "(LFontPacker$Cursor;)Z"⟩
abbrev cX5_tableOfMark : ByteArray := prog_7_method_4_code
def yX5_tableOfMark : MethodName := ⟨RX5, "tableOfMark", "(I)I"⟩
abbrev cX5_readLengths : ByteArray := prog_7_method_5_code
def yX5_readLengths : MethodName := ⟨RX5, "readLengths", "(ILFontPacker$Cursor;)Z"⟩
abbrev cX5_expandStream : ByteArray := prog_7_method_6_code
def yX5_expandStream : MethodName := ⟨RX5, "expandStream", "(LFontPacker$BitReader;)Z"⟩
abbrev cX5_repeatBytes : ByteArray := prog_7_method_7_code
def yX5_repeatBytes : MethodName := ⟨RX5, "repeatBytes", "(II)Z"⟩
abbrev cX5_readOutlines : ByteArray := prog_7_method_8_code
def yX5_readOutlines : MethodName := ⟨RX5, "readOutlines", "(LFontPacker$Font;)Z"⟩
abbrev cX5_readContours : ByteArray := prog_7_method_9_code
def yX5_readContours : MethodName := ⟨RX5, "readContours", "(LFontPacker$Cursor;LFontPacker$Font;)Z"⟩
abbrev cX5_readSizes : ByteArray := prog_7_method_10_code
def yX5_readSizes : MethodName := ⟨RX5, "readSizes", "(LFontPacker$Cursor;LFontPacker$Glyph;)Z"⟩
abbrev cX5_readPoints : ByteArray := prog_7_method_11_code
def yX5_readPoints : MethodName := ⟨RX5, "readPoints", "(LFontPacker$Glyph;LFontPacker$Cursor;LFontPacker$Cursor;)Z"⟩
abbrev cX5_readStep : ByteArray := prog_7_method_12_code
def yX5_readStep : MethodName := ⟨RX5, "readStep", "(ILFontPacker$Cursor;)V"⟩
abbrev cX5_takeStep : ByteArray := prog_7_method_13_code
def yX5_takeStep : MethodName := ⟨RX5, "takeStep", "(III)V"⟩
abbrev cX5_signed : ByteArray := prog_7_method_14_code
def yX5_signed : MethodName := ⟨RX5, "signed", "(II)I"⟩
abbrev cX5_readAdvances : ByteArray := prog_7_method_15_code
def yX5_readAdvances : MethodName := ⟨RX5, "readAdvances", "(LFontPacker$Font;)Z"⟩
abbrev cX5_readBareTables : ByteArray := prog_7_method_16_code
def yX5_readBareTables : MethodName := ⟨RX5, "readBareTables", "(LFontPacker$Font;)V"⟩
def RX6 : String := "FontPacker$PackedWriter"
def TX6 : u_T := fun k => match k with
  | 0 => ("FontPacker$PackedWriter", "form", "LFontPacker$StreamForm;", true)
  | _ => ("FontPacker$PackedWriter", "stream", "LFontPacker$Row;", true)
def tyX6 : Nat → FieldType := fun k => match k with
  | 0 => .object "FontPacker$StreamForm"
  | _ => .object "FontPacker$Row"
abbrev wsX60 : List Cond := u_ws RX6 TX6 2
theorem nmX6 : ∀ a, a < 2 → ∀ b, b < 2 → a ≠ b → (TX6 a).2.1 ≠ (TX6 b).2.1 := by decide +kernel
theorem tyX6_ok : ∀ k, k < 2 → parseFieldDescriptor (TX6 k).2.2.1 = some (tyX6 k) := by decide +kernel
abbrev cX6_init : ByteArray := prog_8_method_1_code
def yX6_init : MethodName := ⟨RX6, "<init>", "()V"⟩
abbrev cX6_writePacked : ByteArray := prog_8_method_2_code
def yX6_writePacked : MethodName := ⟨RX6, "writePacked", "(LFontPacker$Font;LFontPacker$Row;)V"⟩
abbrev cX6_compressStream : ByteArray := prog_8_method_3_code
def yX6_compressStream : MethodName := ⟨RX6, "compressStream", "(LFontPacker$BitWriter;)V"⟩
abbrev cX6_bestDistance : ByteArray := prog_8_method_4_code
def yX6_bestDistance : MethodName := ⟨RX6, "bestDistance", "(I)I"⟩
def RX7 : String := "FontPacker$PlainForm"
def TX7 : u_T := fun k => match k with
  | _ => ("", "", "", false)
def tyX7 : Nat → FieldType := fun k => match k with
  | _ => .int
abbrev wsX70 : List Cond := u_ws RX7 TX7 0
theorem nmX7 : ∀ a, a < 0 → ∀ b, b < 0 → a ≠ b → (TX7 a).2.1 ≠ (TX7 b).2.1 := by decide +kernel
theorem tyX7_ok : ∀ k, k < 0 → parseFieldDescriptor (TX7 k).2.2.1 = some (tyX7 k) := by decide +kernel
abbrev cX7_writePlain : ByteArray := prog_9_method_2_code
def yX7_writePlain : MethodName := ⟨RX7, "writePlain", "(LFontPacker$Font;LFontPacker$Row;)V"⟩
abbrev cX7_makeTables : ByteArray := prog_9_method_3_code
def yX7_makeTables : MethodName := ⟨RX7, "makeTables", "(LFontPacker$Font;)V"⟩
abbrev cX7_fillOf : ByteArray := prog_9_method_4_code
def yX7_fillOf : MethodName := ⟨RX7, "fillOf", "(LFontPacker$Row;)I"⟩
abbrev cX7_checkOf : ByteArray := prog_9_method_5_code
def yX7_checkOf : MethodName := ⟨RX7, "checkOf", "(LFontPacker$Row;)I"⟩
abbrev cX7_addContours : ByteArray := prog_9_method_6_code
def yX7_addContours : MethodName := ⟨RX7, "addContours", "(LFontPacker$Glyph;LFontPacker$Row;)V"⟩
abbrev cX7_addFlags : ByteArray := prog_9_method_7_code
def yX7_addFlags : MethodName := ⟨RX7, "addFlags", "(LFontPacker$Glyph;LFontPacker$Row;)V"⟩
abbrev cX7_flagOf : ByteArray := prog_9_method_8_code
def yX7_flagOf : MethodName := ⟨RX7, "flagOf", "(LFontPacker$Glyph;I)I"⟩
abbrev cX7_stepFlag : ByteArray := prog_9_method_9_code
def yX7_stepFlag : MethodName := ⟨RX7, "stepFlag", "(III)I"⟩
abbrev cX7_addSteps : ByteArray := prog_9_method_10_code
def yX7_addSteps : MethodName := ⟨RX7, "addSteps", "(LFontPacker$Glyph;LFontPacker$Row;)V"⟩
abbrev cX7_addStep : ByteArray := prog_9_method_11_code
def yX7_addStep : MethodName := ⟨RX7, "addStep", "(ILFontPacker$Row;)V"⟩
abbrev cX7_isSmall : ByteArray := prog_9_method_12_code
def yX7_isSmall : MethodName := ⟨RX7, "isSmall", "(I)Z"⟩
def RX8 : String := "FontPacker$Row"
def TX8 : u_T := fun k => match k with
  | 0 => ("FontPacker$Row", "cells", "[I", true)
  | _ => ("FontPacker$Row", "length", "I", false)
def tyX8 : Nat → FieldType := fun k => match k with
  | 0 => .array .int
  | _ => .int
abbrev wsX80 : List Cond := u_ws RX8 TX8 2
theorem nmX8 : ∀ a, a < 2 → ∀ b, b < 2 → a ≠ b → (TX8 a).2.1 ≠ (TX8 b).2.1 := by decide +kernel
theorem tyX8_ok : ∀ k, k < 2 → parseFieldDescriptor (TX8 k).2.2.1 = some (tyX8 k) := by decide +kernel
abbrev cX8_init : ByteArray := prog_10_method_1_code
def yX8_init : MethodName := ⟨RX8, "<init>", "(I)V"⟩
abbrev cX8_length : ByteArray := prog_10_method_2_code
def yX8_length : MethodName := ⟨RX8, "length", "()I"⟩
abbrev cX8_get : ByteArray := prog_10_method_3_code
def yX8_get : MethodName := ⟨RX8, "get", "(I)I"⟩
abbrev cX8_latest : ByteArray := prog_10_method_4_code
def yX8_latest : MethodName := ⟨RX8, "latest", "()I"⟩
abbrev cX8_change : ByteArray := prog_10_method_5_code
def yX8_change : MethodName := ⟨RX8, "change", "(II)V"⟩
abbrev cX8_add : ByteArray := prog_10_method_6_code
def yX8_add : MethodName := ⟨RX8, "add", "(I)V"⟩
abbrev cX8_makeEmpty : ByteArray := prog_10_method_7_code
def yX8_makeEmpty : MethodName := ⟨RX8, "makeEmpty", "()V"⟩
abbrev cX8_keepFirst : ByteArray := prog_10_method_8_code
def yX8_keepFirst : MethodName := ⟨RX8, "keepFirst", "(I)V"⟩
abbrev cX8_addZeros : ByteArray := prog_10_method_9_code
def yX8_addZeros : MethodName := ⟨RX8, "addZeros", "(I)V"⟩
abbrev cX8_addRow : ByteArray := prog_10_method_10_code
def yX8_addRow : MethodName := ⟨RX8, "addRow", "(LFontPacker$Row;)V"⟩
abbrev cX8_addNumber : ByteArray := prog_10_method_11_code
def yX8_addNumber : MethodName := ⟨RX8, "addNumber", "(JI)V"⟩
abbrev cX8_addShort : ByteArray := prog_10_method_12_code
def yX8_addShort : MethodName := ⟨RX8, "addShort", "(I)V"⟩
abbrev cX8_addLong : ByteArray := prog_10_method_13_code
def yX8_addLong : MethodName := ⟨RX8, "addLong", "(I)V"⟩
abbrev cX8_sameFrom : ByteArray := prog_10_method_14_code
def yX8_sameFrom : MethodName := ⟨RX8, "sameFrom", "(II)I"⟩
def RX9 : String := "FontPacker$StreamForm"
def TX9 : u_T := fun k => match k with
  | _ => ("FontPacker$StreamForm", "details", "LFontPacker$Row;", true)
def tyX9 : Nat → FieldType := fun k => match k with
  | _ => .object "FontPacker$Row"
abbrev wsX90 : List Cond := u_ws RX9 TX9 1
theorem nmX9 : ∀ a, a < 1 → ∀ b, b < 1 → a ≠ b → (TX9 a).2.1 ≠ (TX9 b).2.1 := by decide +kernel
theorem tyX9_ok : ∀ k, k < 1 → parseFieldDescriptor (TX9 k).2.2.1 = some (tyX9 k) := by decide +kernel
abbrev cX9_init : ByteArray := prog_11_method_1_code
def yX9_init : MethodName := ⟨RX9, "<init>", "()V"⟩
abbrev cX9_makeTables : ByteArray := prog_11_method_2_code
def yX9_makeTables : MethodName := ⟨RX9, "makeTables", "(LFontPacker$Font;)V"⟩
abbrev cX9_addCounts : ByteArray := prog_11_method_3_code
def yX9_addCounts : MethodName := ⟨RX9, "addCounts", "(LFontPacker$Font;LFontPacker$Row;)V"⟩
abbrev cX9_addStep : ByteArray := prog_11_method_4_code
def yX9_addStep : MethodName := ⟨RX9, "addStep", "(IIILFontPacker$Row;)V"⟩
def RX10 : String := "FontPacker"
def TX10 : u_T := fun k => match k with
  | 0 => ("FontPacker", "buffer", "LFontPacker$Row;", true)
  | 1 => ("FontPacker", "writer", "LFontPacker$PackedWriter;", true)
  | 2 => ("FontPacker", "reader", "LFontPacker$PackedReader;", true)
  | 3 => ("FontPacker", "font", "LFontPacker$Font;", false)
  | 4 => ("FontPacker", "spare", "LFontPacker$Font;", false)
  | _ => ("FontPacker", "failedStage", "I", false)
def tyX10 : Nat → FieldType := fun k => match k with
  | 0 => .object "FontPacker$Row"
  | 1 => .object "FontPacker$PackedWriter"
  | 2 => .object "FontPacker$PackedReader"
  | 3 => .object "FontPacker$Font"
  | 4 => .object "FontPacker$Font"
  | _ => .int
abbrev wsX100 : List Cond := u_ws RX10 TX10 6
theorem nmX10 : ∀ a, a < 6 → ∀ b, b < 6 → a ≠ b → (TX10 a).2.1 ≠ (TX10 b).2.1 := by decide +kernel
theorem tyX10_ok : ∀ k, k < 6 → parseFieldDescriptor (TX10 k).2.2.1 = some (tyX10 k) := by decide +kernel
abbrev cX10_init : ByteArray := prog_1_method_1_code
def yX10_init : MethodName := ⟨RX10, "<init>", "()V"⟩
abbrev cX10_glyph : ByteArray := prog_1_method_2_code
def yX10_glyph : MethodName := ⟨RX10, "glyph", "(I)I"⟩
abbrev cX10_contour : ByteArray := prog_1_method_3_code
def yX10_contour : MethodName := ⟨RX10, "contour", "()I"⟩
abbrev cX10_point : ByteArray := prog_1_method_4_code
def yX10_point : MethodName := ⟨RX10, "point", "(IIZ)I"⟩
abbrev cX10_table : ByteArray := prog_1_method_5_code
def yX10_table : MethodName := ⟨RX10, "table", "(IJI)I"⟩
abbrev cX10_clear : ByteArray := prog_1_method_6_code
def yX10_clear : MethodName := ⟨RX10, "clear", "()V"⟩
abbrev cX10_pack : ByteArray := prog_1_method_7_code
def yX10_pack : MethodName := ⟨RX10, "pack", "()I"⟩
abbrev cX10_plain : ByteArray := prog_1_method_8_code
def yX10_plain : MethodName := ⟨RX10, "plain", "()I"⟩
abbrev cX10_read : ByteArray := prog_1_method_9_code
def yX10_read : MethodName := ⟨RX10, "read", "()I"⟩
abbrev cX10_stage : ByteArray := prog_1_method_10_code
def yX10_stage : MethodName := ⟨RX10, "stage", "()I"⟩
abbrev cX10_put : ByteArray := prog_1_method_11_code
def yX10_put : MethodName := ⟨RX10, "put", "(JI)I"⟩
abbrev cX10_set : ByteArray := prog_1_method_12_code
def yX10_set : MethodName := ⟨RX10, "set", "(II)V"⟩
abbrev cX10_cut : ByteArray := prog_1_method_13_code
def yX10_cut : MethodName := ⟨RX10, "cut", "(I)V"⟩
abbrev cX10_at : ByteArray := prog_1_method_14_code
def yX10_at : MethodName := ⟨RX10, "at", "(I)I"⟩
abbrev cX10_count : ByteArray := prog_1_method_15_code
def yX10_count : MethodName := ⟨RX10, "count", "(I)I"⟩
abbrev cX10_outline : ByteArray := prog_1_method_16_code
def yX10_outline : MethodName := ⟨RX10, "outline", "(III)I"⟩
abbrev cX10_refuseEmptyContour : ByteArray := prog_1_method_17_code
def yX10_refuseEmptyContour : MethodName := ⟨RX10, "refuseEmptyContour", "()V"⟩
abbrev cX10_refuseMissingByte : ByteArray := prog_1_method_18_code
def yX10_refuseMissingByte : MethodName := ⟨RX10, "refuseMissingByte", "(I)V"⟩
abbrev cX10_refuseMissingGlyph : ByteArray := prog_1_method_19_code
def yX10_refuseMissingGlyph : MethodName := ⟨RX10, "refuseMissingGlyph", "(I)V"⟩
abbrev cX10_isTooFar : ByteArray := prog_1_method_20_code
def yX10_isTooFar : MethodName := ⟨RX10, "isTooFar", "(I)Z"⟩
def RX11 : String := "FontPackerModel"
def TX11 : u_T := fun k => match k with
  | 0 => ("FontPackerModel", "thrown", "I", false)
  | 1 => ("FontPackerModel", "glyphs", "I", false)
  | 2 => ("FontPackerModel", "advance", "[I", true)
  | 3 => ("FontPackerModel", "contours", "[I", true)
  | 4 => ("FontPackerModel", "points", "[I", true)
  | 5 => ("FontPackerModel", "px", "[I", true)
  | 6 => ("FontPackerModel", "py", "[I", true)
  | 7 => ("FontPackerModel", "on", "[Z", true)
  | 8 => ("FontPackerModel", "contourOf", "[I", true)
  | 9 => ("FontPackerModel", "rowSize", "[I", true)
  | 10 => ("FontPackerModel", "row", "[I", true)
  | 11 => ("FontPackerModel", "newGlyphs", "I", false)
  | 12 => ("FontPackerModel", "newAdvance", "[I", true)
  | 13 => ("FontPackerModel", "newContours", "[I", true)
  | 14 => ("FontPackerModel", "newPoints", "[I", true)
  | 15 => ("FontPackerModel", "newX", "[I", true)
  | 16 => ("FontPackerModel", "newY", "[I", true)
  | 17 => ("FontPackerModel", "sign", "[I", true)
  | 18 => ("FontPackerModel", "newContourOf", "[I", true)
  | 19 => ("FontPackerModel", "contourSize", "[I", true)
  | 20 => ("FontPackerModel", "newRowSize", "[I", true)
  | 21 => ("FontPackerModel", "newRow", "[I", true)
  | 22 => ("FontPackerModel", "buffered", "I", false)
  | 23 => ("FontPackerModel", "buffer", "[I", true)
  | 24 => ("FontPackerModel", "streamed", "I", false)
  | 25 => ("FontPackerModel", "stream", "[I", true)
  | 26 => ("FontPackerModel", "parted", "I", false)
  | 27 => ("FontPackerModel", "part", "[I", true)
  | 28 => ("FontPackerModel", "held", "I", false)
  | 29 => ("FontPackerModel", "heldBits", "I", false)
  | 30 => ("FontPackerModel", "at", "I", false)
  | 31 => ("FontPackerModel", "end", "I", false)
  | 32 => ("FontPackerModel", "inStream", "Z", false)
  | 33 => ("FontPackerModel", "bad", "Z", false)
  | 34 => ("FontPackerModel", "bitsLeft", "I", false)
  | 35 => ("FontPackerModel", "bitsHeld", "I", false)
  | 36 => ("FontPackerModel", "failedStage", "I", false)
  | 37 => ("FontPackerModel", "plainSize", "[I", true)
  | _ => ("FontPackerModel", "streamSize", "[I", true)
def tyX11 : Nat → FieldType := fun k => match k with
  | 0 => .int
  | 1 => .int
  | 2 => .array .int
  | 3 => .array .int
  | 4 => .array .int
  | 5 => .array .int
  | 6 => .array .int
  | 7 => .array .boolean
  | 8 => .array .int
  | 9 => .array .int
  | 10 => .array .int
  | 11 => .int
  | 12 => .array .int
  | 13 => .array .int
  | 14 => .array .int
  | 15 => .array .int
  | 16 => .array .int
  | 17 => .array .int
  | 18 => .array .int
  | 19 => .array .int
  | 20 => .array .int
  | 21 => .array .int
  | 22 => .int
  | 23 => .array .int
  | 24 => .int
  | 25 => .array .int
  | 26 => .int
  | 27 => .array .int
  | 28 => .int
  | 29 => .int
  | 30 => .int
  | 31 => .int
  | 32 => .boolean
  | 33 => .boolean
  | 34 => .int
  | 35 => .int
  | 36 => .int
  | 37 => .array .int
  | _ => .array .int
abbrev wsX110 : List Cond := u_ws RX11 TX11 39
theorem nmX11 : ∀ a, a < 39 → ∀ b, b < 39 → a ≠ b → (TX11 a).2.1 ≠ (TX11 b).2.1 := by decide +kernel
theorem tyX11_ok : ∀ k, k < 39 → parseFieldDescriptor (TX11 k).2.2.1 = some (tyX11 k) := by decide +kernel
abbrev cX11_init : ByteArray := prog_13_method_1_code
def yX11_init : MethodName := ⟨RX11, "<init>", "()V"⟩
abbrev cX11_thrown : ByteArray := prog_13_method_2_code
def yX11_thrown : MethodName := ⟨RX11, "thrown", "()I"⟩
abbrev cX11_out : ByteArray := prog_13_method_3_code
def yX11_out : MethodName := ⟨RX11, "out", "(II)Z"⟩
abbrev cX11_fail : ByteArray := prog_13_method_4_code
def yX11_fail : MethodName := ⟨RX11, "fail", "(I)I"⟩
abbrev cX11_abs : ByteArray := prog_13_method_5_code
def yX11_abs : MethodName := ⟨RX11, "abs", "(I)I"⟩
abbrev cX11_open : ByteArray := prog_13_method_6_code
def yX11_open : MethodName := ⟨RX11, "open", "()Z"⟩
abbrev cX11_glyph : ByteArray := prog_13_method_7_code
def yX11_glyph : MethodName := ⟨RX11, "glyph", "(I)I"⟩
abbrev cX11_contour : ByteArray := prog_13_method_8_code
def yX11_contour : MethodName := ⟨RX11, "contour", "()I"⟩
abbrev cX11_far : ByteArray := prog_13_method_9_code
def yX11_far : MethodName := ⟨RX11, "far", "(I)Z"⟩
abbrev cX11_point : ByteArray := prog_13_method_10_code
def yX11_point : MethodName := ⟨RX11, "point", "(IIZ)I"⟩
abbrev cX11_table : ByteArray := prog_13_method_11_code
def yX11_table : MethodName := ⟨RX11, "table", "(IJI)I"⟩
abbrev cX11_clear : ByteArray := prog_13_method_12_code
def yX11_clear : MethodName := ⟨RX11, "clear", "()V"⟩
abbrev cX11_has : ByteArray := prog_13_method_13_code
def yX11_has : MethodName := ⟨RX11, "has", "(I)Z"⟩
abbrev cX11_tables : ByteArray := prog_13_method_14_code
def yX11_tables : MethodName := ⟨RX11, "tables", "()I"⟩
abbrev cX11_lay : ByteArray := prog_13_method_15_code
def yX11_lay : MethodName := ⟨RX11, "lay", "(I)V"⟩
abbrev cX11_stepX : ByteArray := prog_13_method_16_code
def yX11_stepX : MethodName := ⟨RX11, "stepX", "(II)I"⟩
abbrev cX11_stepY : ByteArray := prog_13_method_17_code
def yX11_stepY : MethodName := ⟨RX11, "stepY", "(II)I"⟩
abbrev cX11_flag : ByteArray := prog_13_method_18_code
def yX11_flag : MethodName := ⟨RX11, "flag", "(II)I"⟩
abbrev cX11_layStep : ByteArray := prog_13_method_19_code
def yX11_layStep : MethodName := ⟨RX11, "layStep", "(I)V"⟩
abbrev cX11_layGlyph : ByteArray := prog_13_method_20_code
def yX11_layGlyph : MethodName := ⟨RX11, "layGlyph", "(I)V"⟩
abbrev cX11_layTable : ByteArray := prog_13_method_21_code
def yX11_layTable : MethodName := ⟨RX11, "layTable", "(I)V"⟩
abbrev cX11_sizeBefore : ByteArray := prog_13_method_22_code
def yX11_sizeBefore : MethodName := ⟨RX11, "sizeBefore", "(I)I"⟩
abbrev cX11_add : ByteArray := prog_13_method_23_code
def yX11_add : MethodName := ⟨RX11, "add", "(I)V"⟩
abbrev cX11_addLong : ByteArray := prog_13_method_24_code
def yX11_addLong : MethodName := ⟨RX11, "addLong", "(I)V"⟩
abbrev cX11_flow : ByteArray := prog_13_method_25_code
def yX11_flow : MethodName := ⟨RX11, "flow", "(I)V"⟩
abbrev cX11_flowShort : ByteArray := prog_13_method_26_code
def yX11_flowShort : MethodName := ⟨RX11, "flowShort", "(I)V"⟩
abbrev cX11_signOf : ByteArray := prog_13_method_27_code
def yX11_signOf : MethodName := ⟨RX11, "signOf", "(II)I"⟩
abbrev cX11_flowStep : ByteArray := prog_13_method_28_code
def yX11_flowStep : MethodName := ⟨RX11, "flowStep", "(II)V"⟩
abbrev cX11_flowTable : ByteArray := prog_13_method_29_code
def yX11_flowTable : MethodName := ⟨RX11, "flowTable", "(I)V"⟩
abbrev cX11_bit : ByteArray := prog_13_method_30_code
def yX11_bit : MethodName := ⟨RX11, "bit", "(I)V"⟩
abbrev cX11_bits : ByteArray := prog_13_method_31_code
def yX11_bits : MethodName := ⟨RX11, "bits", "(II)V"⟩
abbrev cX11_gamma : ByteArray := prog_13_method_32_code
def yX11_gamma : MethodName := ⟨RX11, "gamma", "(I)V"⟩
abbrev cX11_alike : ByteArray := prog_13_method_33_code
def yX11_alike : MethodName := ⟨RX11, "alike", "(II)I"⟩
abbrev cX11_compress : ByteArray := prog_13_method_34_code
def yX11_compress : MethodName := ⟨RX11, "compress", "()V"⟩
abbrev cX11_pack : ByteArray := prog_13_method_35_code
def yX11_pack : MethodName := ⟨RX11, "pack", "()I"⟩
abbrev cX11_addFour : ByteArray := prog_13_method_36_code
def yX11_addFour : MethodName := ⟨RX11, "addFour", "(J)V"⟩
abbrev cX11_plain : ByteArray := prog_13_method_37_code
def yX11_plain : MethodName := ⟨RX11, "plain", "()I"⟩
abbrev cX11_next : ByteArray := prog_13_method_38_code
def yX11_next : MethodName := ⟨RX11, "next", "()I"⟩
abbrev cX11_check : ByteArray := prog_13_method_39_code
def yX11_check : MethodName := ⟨RX11, "check", "(Z)V"⟩
abbrev cX11_nextShort : ByteArray := prog_13_method_40_code
def yX11_nextShort : MethodName := ⟨RX11, "nextShort", "()I"⟩
abbrev cX11_nextLong : ByteArray := prog_13_method_41_code
def yX11_nextLong : MethodName := ⟨RX11, "nextLong", "()I"⟩
abbrev cX11_head : ByteArray := prog_13_method_42_code
def yX11_head : MethodName := ⟨RX11, "head", "()I"⟩
abbrev cX11_nextBit : ByteArray := prog_13_method_43_code
def yX11_nextBit : MethodName := ⟨RX11, "nextBit", "()I"⟩
abbrev cX11_nextBits : ByteArray := prog_13_method_44_code
def yX11_nextBits : MethodName := ⟨RX11, "nextBits", "(I)I"⟩
abbrev cX11_nextGamma : ByteArray := prog_13_method_45_code
def yX11_nextGamma : MethodName := ⟨RX11, "nextGamma", "()I"⟩
abbrev cX11_expand : ByteArray := prog_13_method_46_code
def yX11_expand : MethodName := ⟨RX11, "expand", "(I)V"⟩
abbrev cX11_takeStep : ByteArray := prog_13_method_47_code
def yX11_takeStep : MethodName := ⟨RX11, "takeStep", "(II)V"⟩
abbrev cX11_takeGlyphs : ByteArray := prog_13_method_48_code
def yX11_takeGlyphs : MethodName := ⟨RX11, "takeGlyphs", "()V"⟩
abbrev cX11_takeSizes : ByteArray := prog_13_method_49_code
def yX11_takeSizes : MethodName := ⟨RX11, "takeSizes", "(I)V"⟩
abbrev cX11_takeTables : ByteArray := prog_13_method_50_code
def yX11_takeTables : MethodName := ⟨RX11, "takeTables", "()V"⟩
abbrev cX11_takeAdvances : ByteArray := prog_13_method_51_code
def yX11_takeAdvances : MethodName := ⟨RX11, "takeAdvances", "()V"⟩
abbrev cX11_takeRow : ByteArray := prog_13_method_52_code
def yX11_takeRow : MethodName := ⟨RX11, "takeRow", "(I)V"⟩
abbrev cX11_exchange : ByteArray := prog_13_method_53_code
def yX11_exchange : MethodName := ⟨RX11, "exchange", "()V"⟩
abbrev cX11_swap : ByteArray := prog_13_method_54_code
def yX11_swap : MethodName := ⟨RX11, "swap", "([I[II)V"⟩
abbrev cX11_asLong : ByteArray := prog_13_method_55_code
def yX11_asLong : MethodName := ⟨RX11, "asLong", "()Z"⟩
abbrev cX11_readStages : ByteArray := prog_13_method_56_code
def yX11_readStages : MethodName := ⟨RX11, "readStages", "()I"⟩
abbrev cX11_read : ByteArray := prog_13_method_57_code
def yX11_read : MethodName := ⟨RX11, "read", "()I"⟩
abbrev cX11_stage : ByteArray := prog_13_method_58_code
def yX11_stage : MethodName := ⟨RX11, "stage", "()I"⟩
abbrev cX11_put : ByteArray := prog_13_method_59_code
def yX11_put : MethodName := ⟨RX11, "put", "(JI)I"⟩
abbrev cX11_set : ByteArray := prog_13_method_60_code
def yX11_set : MethodName := ⟨RX11, "set", "(II)V"⟩
abbrev cX11_cut : ByteArray := prog_13_method_61_code
def yX11_cut : MethodName := ⟨RX11, "cut", "(I)V"⟩
abbrev cX11_at : ByteArray := prog_13_method_62_code
def yX11_at : MethodName := ⟨RX11, "at", "(I)I"⟩
abbrev cX11_count : ByteArray := prog_13_method_63_code
def yX11_count : MethodName := ⟨RX11, "count", "(I)I"⟩
abbrev cX11_outline : ByteArray := prog_13_method_64_code
def yX11_outline : MethodName := ⟨RX11, "outline", "(III)I"⟩
def RJ9 : String := "java/lang/Math"
abbrev cJ9_floorMod_7cf53 : ByteArray := prog_18_method_50_code
def yJ9_floorMod_7cf53 : MethodName := ⟨RJ9, "floorMod", "(II)I"⟩
abbrev cJ9_abs_0f7a4 : ByteArray := prog_18_method_59_code
def yJ9_abs_0f7a4 : MethodName := ⟨RJ9, "abs", "(I)I"⟩
abbrev cJ9_max_7cf53 : ByteArray := prog_18_method_65_code
def yJ9_max_7cf53 : MethodName := ⟨RJ9, "max", "(II)I"⟩
def RJ0 : String := "java/lang/String"
def RL : String := "FontPackerLaw"
abbrev cL_glyph : ByteArray := method_3_code
def yL_glyph : MethodName := ⟨RL, "glyph", "(LFontPacker;I[J)I"⟩
abbrev cL_contour : ByteArray := method_4_code
def yL_contour : MethodName := ⟨RL, "contour", "(LFontPacker;[J)I"⟩
abbrev cL_point : ByteArray := method_5_code
def yL_point : MethodName := ⟨RL, "point", "(LFontPacker;IIZ[J)I"⟩
abbrev cL_table : ByteArray := method_6_code
def yL_table : MethodName := ⟨RL, "table", "(LFontPacker;IJI[J)I"⟩
abbrev cL_pack : ByteArray := method_7_code
def yL_pack : MethodName := ⟨RL, "pack", "(LFontPacker;[J)I"⟩
abbrev cL_plain : ByteArray := method_8_code
def yL_plain : MethodName := ⟨RL, "plain", "(LFontPacker;[J)I"⟩
abbrev cL_read : ByteArray := method_9_code
def yL_read : MethodName := ⟨RL, "read", "(LFontPacker;[J)I"⟩
abbrev cL_put : ByteArray := method_10_code
def yL_put : MethodName := ⟨RL, "put", "(LFontPacker;JI[J)I"⟩
abbrev cL_set : ByteArray := method_11_code
def yL_set : MethodName := ⟨RL, "set", "(LFontPacker;II)I"⟩
abbrev cL_cut : ByteArray := method_12_code
def yL_cut : MethodName := ⟨RL, "cut", "(LFontPacker;I)I"⟩
abbrev cL_at : ByteArray := method_13_code
def yL_at : MethodName := ⟨RL, "at", "(LFontPacker;I[J)I"⟩
abbrev cL_count : ByteArray := method_14_code
def yL_count : MethodName := ⟨RL, "count", "(LFontPacker;I[J)I"⟩
abbrev cL_outline : ByteArray := method_15_code
def yL_outline : MethodName := ⟨RL, "outline", "(LFontPacker;III[J)I"⟩
abbrev cL_law : ByteArray := code
def yL_law : MethodName := ⟨RL, "law", "([I)Z"⟩
abbrev vwCl : List vw_C := [(RX0, TX0, 4), (RX1, TX1, 3), (RX2, TX2, 4), (RX3, TX3, 3), (RX4, TX4, 5), (RX5, TX5, 7), (RX6, TX6, 2), (RX8, TX8, 2), (RX9, TX9, 1), (RX10, TX10, 6), (RX11, TX11, 39)]
end
section
theorem dX0_init_0 : decode cX0_init 0 = .ok (.aload_n 0, 1) := by decide +kernel
theorem dX0_init_1 : decode cX0_init 1 = .ok (.invokespecial 1, 3) := by decide +kernel
theorem dX0_init_4 : decode cX0_init 4 = .ok (.aload_n 0, 1) := by decide +kernel
theorem dX0_init_5 : decode cX0_init 5 = .ok (.iconst 0, 1) := by decide +kernel
theorem dX0_init_6 : decode cX0_init 6 = .ok (.putfield 7, 3) := by decide +kernel
theorem dX0_init_9 : decode cX0_init 9 = .ok (.aload_n 0, 1) := by decide +kernel
theorem dX0_init_10 : decode cX0_init 10 = .ok (.aload_n 1, 1) := by decide +kernel
theorem dX0_init_11 : decode cX0_init 11 = .ok (.putfield 13, 3) := by decide +kernel
theorem dX0_init_14 : decode cX0_init 14 = .ok (.aload_n 0, 1) := by decide +kernel
theorem dX0_init_15 : decode cX0_init 15 = .ok (.aload_n 1, 1) := by decide +kernel
theorem dX0_init_16 : decode cX0_init 16 = .ok (.invokevirtual 17, 3) := by decide +kernel
theorem dX0_init_19 : decode cX0_init 19 = .ok (.bipush 8, 2) := by decide +kernel
theorem dX0_init_21 : decode cX0_init 21 = .ok (.imul, 1) := by decide +kernel
theorem dX0_init_22 : decode cX0_init 22 = .ok (.putfield 23, 3) := by decide +kernel
theorem dX0_init_25 : decode cX0_init 25 = .ok (.aload_n 0, 1) := by decide +kernel
theorem dX0_init_26 : decode cX0_init 26 = .ok (.iload_n 2, 1) := by decide +kernel
theorem dX0_init_27 : decode cX0_init 27 = .ok (.bipush 8, 2) := by decide +kernel
theorem dX0_init_29 : decode cX0_init 29 = .ok (.imul, 1) := by decide +kernel
theorem dX0_init_30 : decode cX0_init 30 = .ok (.putfield 27, 3) := by decide +kernel
theorem dX0_init_33 : decode cX0_init 33 = .ok (.return_, 1) := by decide +kernel
theorem dX0_isBroken_0 : decode cX0_isBroken 0 = .ok (.aload_n 0, 1) := by decide +kernel
theorem dX0_isBroken_1 : decode cX0_isBroken 1 = .ok (.getfield 7, 3) := by decide +kernel
theorem dX0_isBroken_4 : decode cX0_isBroken 4 = .ok (.ireturn, 1) := by decide +kernel
theorem dX0_nextBits_0 : decode cX0_nextBits 0 = .ok (.iconst 0, 1) := by decide +kernel
theorem dX0_nextBits_1 : decode cX0_nextBits 1 = .ok (.istore_n 2, 1) := by decide +kernel
theorem dX0_nextBits_2 : decode cX0_nextBits 2 = .ok (.iconst 0, 1) := by decide +kernel
theorem dX0_nextBits_3 : decode cX0_nextBits 3 = .ok (.istore_n 3, 1) := by decide +kernel
theorem dX0_nextBits_4 : decode cX0_nextBits 4 = .ok (.iload_n 3, 1) := by decide +kernel
theorem dX0_nextBits_5 : decode cX0_nextBits 5 = .ok (.iload_n 1, 1) := by decide +kernel
theorem dX0_nextBits_6 : decode cX0_nextBits 6 = .ok (.if_icmp .ge 69, 3) := by decide +kernel
theorem dX0_nextBits_9 : decode cX0_nextBits 9 = .ok (.aload_n 0, 1) := by decide +kernel
theorem dX0_nextBits_10 : decode cX0_nextBits 10 = .ok (.getfield 27, 3) := by decide +kernel
theorem dX0_nextBits_13 : decode cX0_nextBits 13 = .ok (.aload_n 0, 1) := by decide +kernel
theorem dX0_nextBits_14 : decode cX0_nextBits 14 = .ok (.getfield 23, 3) := by decide +kernel
theorem dX0_nextBits_17 : decode cX0_nextBits 17 = .ok (.if_icmp .lt 10, 3) := by decide +kernel
theorem dX0_nextBits_20 : decode cX0_nextBits 20 = .ok (.aload_n 0, 1) := by decide +kernel
theorem dX0_nextBits_21 : decode cX0_nextBits 21 = .ok (.iconst 1, 1) := by decide +kernel
theorem dX0_nextBits_22 : decode cX0_nextBits 22 = .ok (.putfield 7, 3) := by decide +kernel
theorem dX0_nextBits_25 : decode cX0_nextBits 25 = .ok (.iconst 0, 1) := by decide +kernel
theorem dX0_nextBits_26 : decode cX0_nextBits 26 = .ok (.ireturn, 1) := by decide +kernel
theorem dX0_nextBits_27 : decode cX0_nextBits 27 = .ok (.iload_n 2, 1) := by decide +kernel
theorem dX0_nextBits_28 : decode cX0_nextBits 28 = .ok (.iconst 2, 1) := by decide +kernel
theorem dX0_nextBits_29 : decode cX0_nextBits 29 = .ok (.imul, 1) := by decide +kernel
theorem dX0_nextBits_30 : decode cX0_nextBits 30 = .ok (.aload_n 0, 1) := by decide +kernel
theorem dX0_nextBits_31 : decode cX0_nextBits 31 = .ok (.getfield 13, 3) := by decide +kernel
theorem dX0_nextBits_34 : decode cX0_nextBits 34 = .ok (.aload_n 0, 1) := by decide +kernel
theorem dX0_nextBits_35 : decode cX0_nextBits 35 = .ok (.getfield 27, 3) := by decide +kernel
theorem dX0_nextBits_38 : decode cX0_nextBits 38 = .ok (.bipush 8, 2) := by decide +kernel
theorem dX0_nextBits_40 : decode cX0_nextBits 40 = .ok (.idiv, 1) := by decide +kernel
theorem dX0_nextBits_41 : decode cX0_nextBits 41 = .ok (.invokevirtual 30, 3) := by decide +kernel
theorem dX0_nextBits_44 : decode cX0_nextBits 44 = .ok (.bipush 7, 2) := by decide +kernel
theorem dX0_nextBits_46 : decode cX0_nextBits 46 = .ok (.aload_n 0, 1) := by decide +kernel
theorem dX0_nextBits_47 : decode cX0_nextBits 47 = .ok (.getfield 27, 3) := by decide +kernel
theorem dX0_nextBits_50 : decode cX0_nextBits 50 = .ok (.bipush 8, 2) := by decide +kernel
theorem dX0_nextBits_52 : decode cX0_nextBits 52 = .ok (.irem, 1) := by decide +kernel
theorem dX0_nextBits_53 : decode cX0_nextBits 53 = .ok (.isub, 1) := by decide +kernel
theorem dX0_nextBits_54 : decode cX0_nextBits 54 = .ok (.ishr, 1) := by decide +kernel
theorem dX0_nextBits_55 : decode cX0_nextBits 55 = .ok (.iconst 1, 1) := by decide +kernel
theorem dX0_nextBits_56 : decode cX0_nextBits 56 = .ok (.iand, 1) := by decide +kernel
theorem dX0_nextBits_57 : decode cX0_nextBits 57 = .ok (.iadd, 1) := by decide +kernel
theorem dX0_nextBits_58 : decode cX0_nextBits 58 = .ok (.istore_n 2, 1) := by decide +kernel
theorem dX0_nextBits_59 : decode cX0_nextBits 59 = .ok (.aload_n 0, 1) := by decide +kernel
theorem dX0_nextBits_60 : decode cX0_nextBits 60 = .ok (.dup, 1) := by decide +kernel
theorem dX0_nextBits_61 : decode cX0_nextBits 61 = .ok (.getfield 27, 3) := by decide +kernel
theorem dX0_nextBits_64 : decode cX0_nextBits 64 = .ok (.iconst 1, 1) := by decide +kernel
theorem dX0_nextBits_65 : decode cX0_nextBits 65 = .ok (.iadd, 1) := by decide +kernel
theorem dX0_nextBits_66 : decode cX0_nextBits 66 = .ok (.putfield 27, 3) := by decide +kernel
theorem dX0_nextBits_69 : decode cX0_nextBits 69 = .ok (.iinc 3 1, 3) := by decide +kernel
theorem dX0_nextBits_72 : decode cX0_nextBits 72 = .ok (.goto (-68), 3) := by decide +kernel
theorem dX0_nextBits_75 : decode cX0_nextBits 75 = .ok (.iload_n 2, 1) := by decide +kernel
theorem dX0_nextBits_76 : decode cX0_nextBits 76 = .ok (.ireturn, 1) := by decide +kernel
theorem dX0_nextGamma_0 : decode cX0_nextGamma 0 = .ok (.iconst 0, 1) := by decide +kernel
theorem dX0_nextGamma_1 : decode cX0_nextGamma 1 = .ok (.istore_n 1, 1) := by decide +kernel
theorem dX0_nextGamma_2 : decode cX0_nextGamma 2 = .ok (.iload_n 1, 1) := by decide +kernel
theorem dX0_nextGamma_3 : decode cX0_nextGamma 3 = .ok (.bipush 15, 2) := by decide +kernel
theorem dX0_nextGamma_5 : decode cX0_nextGamma 5 = .ok (.if_icmp .gt 28, 3) := by decide +kernel
theorem dX0_nextGamma_8 : decode cX0_nextGamma 8 = .ok (.aload_n 0, 1) := by decide +kernel
theorem dX0_nextGamma_9 : decode cX0_nextGamma 9 = .ok (.iconst 1, 1) := by decide +kernel
theorem dX0_nextGamma_10 : decode cX0_nextGamma 10 = .ok (.invokevirtual 34, 3) := by decide +kernel
theorem dX0_nextGamma_13 : decode cX0_nextGamma 13 = .ok (.iconst 1, 1) := by decide +kernel
theorem dX0_nextGamma_14 : decode cX0_nextGamma 14 = .ok (.if_icmp .ne 13, 3) := by decide +kernel
theorem dX0_nextGamma_17 : decode cX0_nextGamma 17 = .ok (.iconst 1, 1) := by decide +kernel
theorem dX0_nextGamma_18 : decode cX0_nextGamma 18 = .ok (.iload_n 1, 1) := by decide +kernel
theorem dX0_nextGamma_19 : decode cX0_nextGamma 19 = .ok (.ishl, 1) := by decide +kernel
theorem dX0_nextGamma_20 : decode cX0_nextGamma 20 = .ok (.aload_n 0, 1) := by decide +kernel
theorem dX0_nextGamma_21 : decode cX0_nextGamma 21 = .ok (.iload_n 1, 1) := by decide +kernel
theorem dX0_nextGamma_22 : decode cX0_nextGamma 22 = .ok (.invokevirtual 34, 3) := by decide +kernel
theorem dX0_nextGamma_25 : decode cX0_nextGamma 25 = .ok (.iadd, 1) := by decide +kernel
theorem dX0_nextGamma_26 : decode cX0_nextGamma 26 = .ok (.ireturn, 1) := by decide +kernel
theorem dX0_nextGamma_27 : decode cX0_nextGamma 27 = .ok (.iinc 1 1, 3) := by decide +kernel
theorem dX0_nextGamma_30 : decode cX0_nextGamma 30 = .ok (.goto (-28), 3) := by decide +kernel
theorem dX0_nextGamma_33 : decode cX0_nextGamma 33 = .ok (.aload_n 0, 1) := by decide +kernel
theorem dX0_nextGamma_34 : decode cX0_nextGamma 34 = .ok (.iconst 1, 1) := by decide +kernel
theorem dX0_nextGamma_35 : decode cX0_nextGamma 35 = .ok (.putfield 7, 3) := by decide +kernel
theorem dX0_nextGamma_38 : decode cX0_nextGamma 38 = .ok (.iconst 0, 1) := by decide +kernel
theorem dX0_nextGamma_39 : decode cX0_nextGamma 39 = .ok (.ireturn, 1) := by decide +kernel
theorem dX0_hasOnlyFillLeft_0 : decode cX0_hasOnlyFillLeft 0 = .ok (.aload_n 0, 1) := by decide +kernel
theorem dX0_hasOnlyFillLeft_1 : decode cX0_hasOnlyFillLeft 1 = .ok (.getfield 23, 3) := by decide +kernel
theorem dX0_hasOnlyFillLeft_4 : decode cX0_hasOnlyFillLeft 4 = .ok (.aload_n 0, 1) := by decide +kernel
theorem dX0_hasOnlyFillLeft_5 : decode cX0_hasOnlyFillLeft 5 = .ok (.getfield 27, 3) := by decide +kernel
theorem dX0_hasOnlyFillLeft_8 : decode cX0_hasOnlyFillLeft 8 = .ok (.isub, 1) := by decide +kernel
theorem dX0_hasOnlyFillLeft_9 : decode cX0_hasOnlyFillLeft 9 = .ok (.istore_n 1, 1) := by decide +kernel
theorem dX0_hasOnlyFillLeft_10 : decode cX0_hasOnlyFillLeft 10 = .ok (.iload_n 1, 1) := by decide +kernel
theorem dX0_hasOnlyFillLeft_11 : decode cX0_hasOnlyFillLeft 11 = .ok (.bipush 8, 2) := by decide +kernel
theorem dX0_hasOnlyFillLeft_13 : decode cX0_hasOnlyFillLeft 13 = .ok (.if_icmp .ge 15, 3) := by decide +kernel
theorem dX0_hasOnlyFillLeft_16 : decode cX0_hasOnlyFillLeft 16 = .ok (.aload_n 0, 1) := by decide +kernel
theorem dX0_hasOnlyFillLeft_17 : decode cX0_hasOnlyFillLeft 17 = .ok (.iload_n 1, 1) := by decide +kernel
theorem dX0_hasOnlyFillLeft_18 : decode cX0_hasOnlyFillLeft 18 = .ok (.invokevirtual 34, 3) := by decide +kernel
theorem dX0_hasOnlyFillLeft_21 : decode cX0_hasOnlyFillLeft 21 = .ok (.ifCond .ne 7, 3) := by decide +kernel
theorem dX0_hasOnlyFillLeft_24 : decode cX0_hasOnlyFillLeft 24 = .ok (.iconst 1, 1) := by decide +kernel
theorem dX0_hasOnlyFillLeft_25 : decode cX0_hasOnlyFillLeft 25 = .ok (.goto 4, 3) := by decide +kernel
theorem dX0_hasOnlyFillLeft_28 : decode cX0_hasOnlyFillLeft 28 = .ok (.iconst 0, 1) := by decide +kernel
theorem dX0_hasOnlyFillLeft_29 : decode cX0_hasOnlyFillLeft 29 = .ok (.ireturn, 1) := by decide +kernel
theorem dX1_init_0 : decode cX1_init 0 = .ok (.aload_n 0, 1) := by decide +kernel
theorem dX1_init_1 : decode cX1_init 1 = .ok (.invokespecial 1, 3) := by decide +kernel
theorem dX1_init_4 : decode cX1_init 4 = .ok (.aload_n 0, 1) := by decide +kernel
theorem dX1_init_5 : decode cX1_init 5 = .ok (.iconst 0, 1) := by decide +kernel
theorem dX1_init_6 : decode cX1_init 6 = .ok (.putfield 7, 3) := by decide +kernel
theorem dX1_init_9 : decode cX1_init 9 = .ok (.aload_n 0, 1) := by decide +kernel
theorem dX1_init_10 : decode cX1_init 10 = .ok (.iconst 0, 1) := by decide +kernel
theorem dX1_init_11 : decode cX1_init 11 = .ok (.putfield 13, 3) := by decide +kernel
theorem dX1_init_14 : decode cX1_init 14 = .ok (.aload_n 0, 1) := by decide +kernel
theorem dX1_init_15 : decode cX1_init 15 = .ok (.aload_n 1, 1) := by decide +kernel
theorem dX1_init_16 : decode cX1_init 16 = .ok (.putfield 16, 3) := by decide +kernel
theorem dX1_init_19 : decode cX1_init 19 = .ok (.return_, 1) := by decide +kernel
theorem dX1_addBits_0 : decode cX1_addBits 0 = .ok (.iload_n 2, 1) := by decide +kernel
theorem dX1_addBits_1 : decode cX1_addBits 1 = .ok (.iconst 1, 1) := by decide +kernel
theorem dX1_addBits_2 : decode cX1_addBits 2 = .ok (.isub, 1) := by decide +kernel
theorem dX1_addBits_3 : decode cX1_addBits 3 = .ok (.istore_n 3, 1) := by decide +kernel
theorem dX1_addBits_4 : decode cX1_addBits 4 = .ok (.iload_n 3, 1) := by decide +kernel
theorem dX1_addBits_5 : decode cX1_addBits 5 = .ok (.ifCond .lt 65, 3) := by decide +kernel
theorem dX1_addBits_8 : decode cX1_addBits 8 = .ok (.aload_n 0, 1) := by decide +kernel
theorem dX1_addBits_9 : decode cX1_addBits 9 = .ok (.aload_n 0, 1) := by decide +kernel
theorem dX1_addBits_10 : decode cX1_addBits 10 = .ok (.getfield 7, 3) := by decide +kernel
theorem dX1_addBits_13 : decode cX1_addBits 13 = .ok (.iconst 2, 1) := by decide +kernel
theorem dX1_addBits_14 : decode cX1_addBits 14 = .ok (.imul, 1) := by decide +kernel
theorem dX1_addBits_15 : decode cX1_addBits 15 = .ok (.iload_n 1, 1) := by decide +kernel
theorem dX1_addBits_16 : decode cX1_addBits 16 = .ok (.iload_n 3, 1) := by decide +kernel
theorem dX1_addBits_17 : decode cX1_addBits 17 = .ok (.ishr, 1) := by decide +kernel
theorem dX1_addBits_18 : decode cX1_addBits 18 = .ok (.iconst 1, 1) := by decide +kernel
theorem dX1_addBits_19 : decode cX1_addBits 19 = .ok (.iand, 1) := by decide +kernel
theorem dX1_addBits_20 : decode cX1_addBits 20 = .ok (.iadd, 1) := by decide +kernel
theorem dX1_addBits_21 : decode cX1_addBits 21 = .ok (.putfield 7, 3) := by decide +kernel
theorem dX1_addBits_24 : decode cX1_addBits 24 = .ok (.aload_n 0, 1) := by decide +kernel
theorem dX1_addBits_25 : decode cX1_addBits 25 = .ok (.dup, 1) := by decide +kernel
theorem dX1_addBits_26 : decode cX1_addBits 26 = .ok (.getfield 13, 3) := by decide +kernel
theorem dX1_addBits_29 : decode cX1_addBits 29 = .ok (.iconst 1, 1) := by decide +kernel
theorem dX1_addBits_30 : decode cX1_addBits 30 = .ok (.iadd, 1) := by decide +kernel
theorem dX1_addBits_31 : decode cX1_addBits 31 = .ok (.putfield 13, 3) := by decide +kernel
theorem dX1_addBits_34 : decode cX1_addBits 34 = .ok (.aload_n 0, 1) := by decide +kernel
theorem dX1_addBits_35 : decode cX1_addBits 35 = .ok (.getfield 13, 3) := by decide +kernel
theorem dX1_addBits_38 : decode cX1_addBits 38 = .ok (.bipush 8, 2) := by decide +kernel
theorem dX1_addBits_40 : decode cX1_addBits 40 = .ok (.if_icmp .ne 24, 3) := by decide +kernel
theorem dX1_addBits_43 : decode cX1_addBits 43 = .ok (.aload_n 0, 1) := by decide +kernel
theorem dX1_addBits_44 : decode cX1_addBits 44 = .ok (.getfield 16, 3) := by decide +kernel
theorem dX1_addBits_47 : decode cX1_addBits 47 = .ok (.aload_n 0, 1) := by decide +kernel
theorem dX1_addBits_48 : decode cX1_addBits 48 = .ok (.getfield 7, 3) := by decide +kernel
theorem dX1_addBits_51 : decode cX1_addBits 51 = .ok (.invokevirtual 20, 3) := by decide +kernel
theorem dX1_addBits_54 : decode cX1_addBits 54 = .ok (.aload_n 0, 1) := by decide +kernel
theorem dX1_addBits_55 : decode cX1_addBits 55 = .ok (.iconst 0, 1) := by decide +kernel
theorem dX1_addBits_56 : decode cX1_addBits 56 = .ok (.putfield 7, 3) := by decide +kernel
theorem dX1_addBits_59 : decode cX1_addBits 59 = .ok (.aload_n 0, 1) := by decide +kernel
theorem dX1_addBits_60 : decode cX1_addBits 60 = .ok (.iconst 0, 1) := by decide +kernel
theorem dX1_addBits_61 : decode cX1_addBits 61 = .ok (.putfield 13, 3) := by decide +kernel
theorem dX1_addBits_64 : decode cX1_addBits 64 = .ok (.iinc 3 (-1), 3) := by decide +kernel
theorem dX1_addBits_67 : decode cX1_addBits 67 = .ok (.goto (-63), 3) := by decide +kernel
theorem dX1_addBits_70 : decode cX1_addBits 70 = .ok (.return_, 1) := by decide +kernel
theorem dX1_addGamma_0 : decode cX1_addGamma 0 = .ok (.iconst 0, 1) := by decide +kernel
theorem dX1_addGamma_1 : decode cX1_addGamma 1 = .ok (.istore_n 2, 1) := by decide +kernel
theorem dX1_addGamma_2 : decode cX1_addGamma 2 = .ok (.iload_n 1, 1) := by decide +kernel
theorem dX1_addGamma_3 : decode cX1_addGamma 3 = .ok (.iconst 2, 1) := by decide +kernel
theorem dX1_addGamma_4 : decode cX1_addGamma 4 = .ok (.idiv, 1) := by decide +kernel
theorem dX1_addGamma_5 : decode cX1_addGamma 5 = .ok (.istore_n 3, 1) := by decide +kernel
theorem dX1_addGamma_6 : decode cX1_addGamma 6 = .ok (.iload_n 3, 1) := by decide +kernel
theorem dX1_addGamma_7 : decode cX1_addGamma 7 = .ok (.ifCond .le 13, 3) := by decide +kernel
theorem dX1_addGamma_10 : decode cX1_addGamma 10 = .ok (.iinc 2 1, 3) := by decide +kernel
theorem dX1_addGamma_13 : decode cX1_addGamma 13 = .ok (.iload_n 3, 1) := by decide +kernel
theorem dX1_addGamma_14 : decode cX1_addGamma 14 = .ok (.iconst 2, 1) := by decide +kernel
theorem dX1_addGamma_15 : decode cX1_addGamma 15 = .ok (.idiv, 1) := by decide +kernel
theorem dX1_addGamma_16 : decode cX1_addGamma 16 = .ok (.istore_n 3, 1) := by decide +kernel
theorem dX1_addGamma_17 : decode cX1_addGamma 17 = .ok (.goto (-11), 3) := by decide +kernel
theorem dX1_addGamma_20 : decode cX1_addGamma 20 = .ok (.aload_n 0, 1) := by decide +kernel
theorem dX1_addGamma_21 : decode cX1_addGamma 21 = .ok (.iconst 0, 1) := by decide +kernel
theorem dX1_addGamma_22 : decode cX1_addGamma 22 = .ok (.iload_n 2, 1) := by decide +kernel
theorem dX1_addGamma_23 : decode cX1_addGamma 23 = .ok (.invokevirtual 26, 3) := by decide +kernel
theorem dX1_addGamma_26 : decode cX1_addGamma 26 = .ok (.aload_n 0, 1) := by decide +kernel
theorem dX1_addGamma_27 : decode cX1_addGamma 27 = .ok (.iload_n 1, 1) := by decide +kernel
theorem dX1_addGamma_28 : decode cX1_addGamma 28 = .ok (.iload_n 2, 1) := by decide +kernel
theorem dX1_addGamma_29 : decode cX1_addGamma 29 = .ok (.iconst 1, 1) := by decide +kernel
theorem dX1_addGamma_30 : decode cX1_addGamma 30 = .ok (.iadd, 1) := by decide +kernel
theorem dX1_addGamma_31 : decode cX1_addGamma 31 = .ok (.invokevirtual 26, 3) := by decide +kernel
theorem dX1_addGamma_34 : decode cX1_addGamma 34 = .ok (.return_, 1) := by decide +kernel
theorem dX1_fillByte_0 : decode cX1_fillByte 0 = .ok (.aload_n 0, 1) := by decide +kernel
theorem dX1_fillByte_1 : decode cX1_fillByte 1 = .ok (.getfield 13, 3) := by decide +kernel
theorem dX1_fillByte_4 : decode cX1_fillByte 4 = .ok (.ifCond .le 15, 3) := by decide +kernel
theorem dX1_fillByte_7 : decode cX1_fillByte 7 = .ok (.aload_n 0, 1) := by decide +kernel
theorem dX1_fillByte_8 : decode cX1_fillByte 8 = .ok (.iconst 0, 1) := by decide +kernel
theorem dX1_fillByte_9 : decode cX1_fillByte 9 = .ok (.bipush 8, 2) := by decide +kernel
theorem dX1_fillByte_11 : decode cX1_fillByte 11 = .ok (.aload_n 0, 1) := by decide +kernel
theorem dX1_fillByte_12 : decode cX1_fillByte 12 = .ok (.getfield 13, 3) := by decide +kernel
theorem dX1_fillByte_15 : decode cX1_fillByte 15 = .ok (.isub, 1) := by decide +kernel
theorem dX1_fillByte_16 : decode cX1_fillByte 16 = .ok (.invokevirtual 26, 3) := by decide +kernel
theorem dX1_fillByte_19 : decode cX1_fillByte 19 = .ok (.return_, 1) := by decide +kernel
theorem dX2_init_0 : decode cX2_init 0 = .ok (.aload_n 0, 1) := by decide +kernel
theorem dX2_init_1 : decode cX2_init 1 = .ok (.invokespecial 1, 3) := by decide +kernel
theorem dX2_init_4 : decode cX2_init 4 = .ok (.aload_n 0, 1) := by decide +kernel
theorem dX2_init_5 : decode cX2_init 5 = .ok (.iconst 0, 1) := by decide +kernel
theorem dX2_init_6 : decode cX2_init 6 = .ok (.putfield 7, 3) := by decide +kernel
theorem dX2_init_9 : decode cX2_init 9 = .ok (.aload_n 0, 1) := by decide +kernel
theorem dX2_init_10 : decode cX2_init 10 = .ok (.aload_n 1, 1) := by decide +kernel
theorem dX2_init_11 : decode cX2_init 11 = .ok (.putfield 13, 3) := by decide +kernel
theorem dX2_init_14 : decode cX2_init 14 = .ok (.aload_n 0, 1) := by decide +kernel
theorem dX2_init_15 : decode cX2_init 15 = .ok (.iload_n 2, 1) := by decide +kernel
theorem dX2_init_16 : decode cX2_init 16 = .ok (.putfield 17, 3) := by decide +kernel
theorem dX2_init_19 : decode cX2_init 19 = .ok (.aload_n 0, 1) := by decide +kernel
theorem dX2_init_20 : decode cX2_init 20 = .ok (.iload_n 3, 1) := by decide +kernel
theorem dX2_init_21 : decode cX2_init 21 = .ok (.putfield 21, 3) := by decide +kernel
theorem dX2_init_24 : decode cX2_init 24 = .ok (.return_, 1) := by decide +kernel
theorem dX2_isBroken_0 : decode cX2_isBroken 0 = .ok (.aload_n 0, 1) := by decide +kernel
theorem dX2_isBroken_1 : decode cX2_isBroken 1 = .ok (.getfield 7, 3) := by decide +kernel
theorem dX2_isBroken_4 : decode cX2_isBroken 4 = .ok (.ireturn, 1) := by decide +kernel
theorem dX2_isAtEnd_0 : decode cX2_isAtEnd 0 = .ok (.aload_n 0, 1) := by decide +kernel
theorem dX2_isAtEnd_1 : decode cX2_isAtEnd 1 = .ok (.getfield 7, 3) := by decide +kernel
theorem dX2_isAtEnd_4 : decode cX2_isAtEnd 4 = .ok (.ifCond .ne 18, 3) := by decide +kernel
theorem dX2_isAtEnd_7 : decode cX2_isAtEnd 7 = .ok (.aload_n 0, 1) := by decide +kernel
theorem dX2_isAtEnd_8 : decode cX2_isAtEnd 8 = .ok (.getfield 17, 3) := by decide +kernel
theorem dX2_isAtEnd_11 : decode cX2_isAtEnd 11 = .ok (.aload_n 0, 1) := by decide +kernel
theorem dX2_isAtEnd_12 : decode cX2_isAtEnd 12 = .ok (.getfield 21, 3) := by decide +kernel
theorem dX2_isAtEnd_15 : decode cX2_isAtEnd 15 = .ok (.if_icmp .ne 7, 3) := by decide +kernel
theorem dX2_isAtEnd_18 : decode cX2_isAtEnd 18 = .ok (.iconst 1, 1) := by decide +kernel
theorem dX2_isAtEnd_19 : decode cX2_isAtEnd 19 = .ok (.goto 4, 3) := by decide +kernel
theorem dX2_isAtEnd_22 : decode cX2_isAtEnd 22 = .ok (.iconst 0, 1) := by decide +kernel
theorem dX2_isAtEnd_23 : decode cX2_isAtEnd 23 = .ok (.ireturn, 1) := by decide +kernel
theorem dX2_place_0 : decode cX2_place 0 = .ok (.aload_n 0, 1) := by decide +kernel
theorem dX2_place_1 : decode cX2_place 1 = .ok (.getfield 17, 3) := by decide +kernel
theorem dX2_place_4 : decode cX2_place 4 = .ok (.ireturn, 1) := by decide +kernel
theorem dX2_next_0 : decode cX2_next 0 = .ok (.aload_n 0, 1) := by decide +kernel
theorem dX2_next_1 : decode cX2_next 1 = .ok (.getfield 7, 3) := by decide +kernel
theorem dX2_next_4 : decode cX2_next 4 = .ok (.ifCond .ne 14, 3) := by decide +kernel
theorem dX2_next_7 : decode cX2_next 7 = .ok (.aload_n 0, 1) := by decide +kernel
theorem dX2_next_8 : decode cX2_next 8 = .ok (.getfield 17, 3) := by decide +kernel
theorem dX2_next_11 : decode cX2_next 11 = .ok (.aload_n 0, 1) := by decide +kernel
theorem dX2_next_12 : decode cX2_next 12 = .ok (.getfield 21, 3) := by decide +kernel
theorem dX2_next_15 : decode cX2_next 15 = .ok (.if_icmp .lt 10, 3) := by decide +kernel
theorem dX2_next_18 : decode cX2_next 18 = .ok (.aload_n 0, 1) := by decide +kernel
theorem dX2_next_19 : decode cX2_next 19 = .ok (.iconst 1, 1) := by decide +kernel
theorem dX2_next_20 : decode cX2_next 20 = .ok (.putfield 7, 3) := by decide +kernel
theorem dX2_next_23 : decode cX2_next 23 = .ok (.iconst 0, 1) := by decide +kernel
theorem dX2_next_24 : decode cX2_next 24 = .ok (.ireturn, 1) := by decide +kernel
theorem dX2_next_25 : decode cX2_next 25 = .ok (.aload_n 0, 1) := by decide +kernel
theorem dX2_next_26 : decode cX2_next 26 = .ok (.getfield 13, 3) := by decide +kernel
theorem dX2_next_29 : decode cX2_next 29 = .ok (.aload_n 0, 1) := by decide +kernel
theorem dX2_next_30 : decode cX2_next 30 = .ok (.getfield 17, 3) := by decide +kernel
theorem dX2_next_33 : decode cX2_next 33 = .ok (.invokevirtual 24, 3) := by decide +kernel
theorem dX2_next_36 : decode cX2_next 36 = .ok (.istore_n 1, 1) := by decide +kernel
theorem dX2_next_37 : decode cX2_next 37 = .ok (.aload_n 0, 1) := by decide +kernel
theorem dX2_next_38 : decode cX2_next 38 = .ok (.dup, 1) := by decide +kernel
theorem dX2_next_39 : decode cX2_next 39 = .ok (.getfield 17, 3) := by decide +kernel
theorem dX2_next_42 : decode cX2_next 42 = .ok (.iconst 1, 1) := by decide +kernel
theorem dX2_next_43 : decode cX2_next 43 = .ok (.iadd, 1) := by decide +kernel
theorem dX2_next_44 : decode cX2_next 44 = .ok (.putfield 17, 3) := by decide +kernel
theorem dX2_next_47 : decode cX2_next 47 = .ok (.iload_n 1, 1) := by decide +kernel
theorem dX2_next_48 : decode cX2_next 48 = .ok (.ireturn, 1) := by decide +kernel
theorem dX2_nextShort_0 : decode cX2_nextShort 0 = .ok (.aload_n 0, 1) := by decide +kernel
theorem dX2_nextShort_1 : decode cX2_nextShort 1 = .ok (.invokevirtual 30, 3) := by decide +kernel
theorem dX2_nextShort_4 : decode cX2_nextShort 4 = .ok (.istore_n 1, 1) := by decide +kernel
theorem dX2_nextShort_5 : decode cX2_nextShort 5 = .ok (.iload_n 1, 1) := by decide +kernel
theorem dX2_nextShort_6 : decode cX2_nextShort 6 = .ok (.tableswitch 60 253 255 #[44, 35, 26], 26) := by decide +kernel
theorem dX2_nextShort_32 : decode cX2_nextShort 32 = .ok (.sipush 253, 3) := by decide +kernel
theorem dX2_nextShort_35 : decode cX2_nextShort 35 = .ok (.aload_n 0, 1) := by decide +kernel
theorem dX2_nextShort_36 : decode cX2_nextShort 36 = .ok (.invokevirtual 30, 3) := by decide +kernel
theorem dX2_nextShort_39 : decode cX2_nextShort 39 = .ok (.iadd, 1) := by decide +kernel
theorem dX2_nextShort_40 : decode cX2_nextShort 40 = .ok (.ireturn, 1) := by decide +kernel
theorem dX2_nextShort_41 : decode cX2_nextShort 41 = .ok (.sipush 506, 3) := by decide +kernel
theorem dX2_nextShort_44 : decode cX2_nextShort 44 = .ok (.aload_n 0, 1) := by decide +kernel
theorem dX2_nextShort_45 : decode cX2_nextShort 45 = .ok (.invokevirtual 30, 3) := by decide +kernel
theorem dX2_nextShort_48 : decode cX2_nextShort 48 = .ok (.iadd, 1) := by decide +kernel
theorem dX2_nextShort_49 : decode cX2_nextShort 49 = .ok (.ireturn, 1) := by decide +kernel
theorem dX2_nextShort_50 : decode cX2_nextShort 50 = .ok (.aload_n 0, 1) := by decide +kernel
theorem dX2_nextShort_51 : decode cX2_nextShort 51 = .ok (.invokevirtual 30, 3) := by decide +kernel
theorem dX2_nextShort_54 : decode cX2_nextShort 54 = .ok (.istore_n 2, 1) := by decide +kernel
theorem dX2_nextShort_55 : decode cX2_nextShort 55 = .ok (.iload_n 2, 1) := by decide +kernel
theorem dX2_nextShort_56 : decode cX2_nextShort 56 = .ok (.sipush 256, 3) := by decide +kernel
theorem dX2_nextShort_59 : decode cX2_nextShort 59 = .ok (.imul, 1) := by decide +kernel
theorem dX2_nextShort_60 : decode cX2_nextShort 60 = .ok (.aload_n 0, 1) := by decide +kernel
theorem dX2_nextShort_61 : decode cX2_nextShort 61 = .ok (.invokevirtual 30, 3) := by decide +kernel
theorem dX2_nextShort_64 : decode cX2_nextShort 64 = .ok (.iadd, 1) := by decide +kernel
theorem dX2_nextShort_65 : decode cX2_nextShort 65 = .ok (.ireturn, 1) := by decide +kernel
theorem dX2_nextShort_66 : decode cX2_nextShort 66 = .ok (.iload_n 1, 1) := by decide +kernel
theorem dX2_nextShort_67 : decode cX2_nextShort 67 = .ok (.ireturn, 1) := by decide +kernel
theorem dX2_nextLong_0 : decode cX2_nextLong 0 = .ok (.iconst 0, 1) := by decide +kernel
theorem dX2_nextLong_1 : decode cX2_nextLong 1 = .ok (.istore_n 1, 1) := by decide +kernel
theorem dX2_nextLong_2 : decode cX2_nextLong 2 = .ok (.iconst 0, 1) := by decide +kernel
theorem dX2_nextLong_3 : decode cX2_nextLong 3 = .ok (.istore_n 2, 1) := by decide +kernel
theorem dX2_nextLong_4 : decode cX2_nextLong 4 = .ok (.iload_n 2, 1) := by decide +kernel
theorem dX2_nextLong_5 : decode cX2_nextLong 5 = .ok (.iconst 3, 1) := by decide +kernel
theorem dX2_nextLong_6 : decode cX2_nextLong 6 = .ok (.if_icmp .ge 49, 3) := by decide +kernel
theorem dX2_nextLong_9 : decode cX2_nextLong 9 = .ok (.aload_n 0, 1) := by decide +kernel
theorem dX2_nextLong_10 : decode cX2_nextLong 10 = .ok (.invokevirtual 30, 3) := by decide +kernel
theorem dX2_nextLong_13 : decode cX2_nextLong 13 = .ok (.istore_n 3, 1) := by decide +kernel
theorem dX2_nextLong_14 : decode cX2_nextLong 14 = .ok (.iload_n 2, 1) := by decide +kernel
theorem dX2_nextLong_15 : decode cX2_nextLong 15 = .ok (.ifCond .ne 13, 3) := by decide +kernel
theorem dX2_nextLong_18 : decode cX2_nextLong 18 = .ok (.iload_n 3, 1) := by decide +kernel
theorem dX2_nextLong_19 : decode cX2_nextLong 19 = .ok (.sipush 128, 3) := by decide +kernel
theorem dX2_nextLong_22 : decode cX2_nextLong 22 = .ok (.if_icmp .ne 6, 3) := by decide +kernel
theorem dX2_nextLong_25 : decode cX2_nextLong 25 = .ok (.goto 30, 3) := by decide +kernel
theorem dX2_nextLong_28 : decode cX2_nextLong 28 = .ok (.iload_n 1, 1) := by decide +kernel
theorem dX2_nextLong_29 : decode cX2_nextLong 29 = .ok (.sipush 128, 3) := by decide +kernel
theorem dX2_nextLong_32 : decode cX2_nextLong 32 = .ok (.imul, 1) := by decide +kernel
theorem dX2_nextLong_33 : decode cX2_nextLong 33 = .ok (.iload_n 3, 1) := by decide +kernel
theorem dX2_nextLong_34 : decode cX2_nextLong 34 = .ok (.sipush 128, 3) := by decide +kernel
theorem dX2_nextLong_37 : decode cX2_nextLong 37 = .ok (.irem, 1) := by decide +kernel
theorem dX2_nextLong_38 : decode cX2_nextLong 38 = .ok (.iadd, 1) := by decide +kernel
theorem dX2_nextLong_39 : decode cX2_nextLong 39 = .ok (.istore_n 1, 1) := by decide +kernel
theorem dX2_nextLong_40 : decode cX2_nextLong 40 = .ok (.iload_n 3, 1) := by decide +kernel
theorem dX2_nextLong_41 : decode cX2_nextLong 41 = .ok (.sipush 128, 3) := by decide +kernel
theorem dX2_nextLong_44 : decode cX2_nextLong 44 = .ok (.if_icmp .ge 5, 3) := by decide +kernel
theorem dX2_nextLong_47 : decode cX2_nextLong 47 = .ok (.iload_n 1, 1) := by decide +kernel
theorem dX2_nextLong_48 : decode cX2_nextLong 48 = .ok (.ireturn, 1) := by decide +kernel
theorem dX2_nextLong_49 : decode cX2_nextLong 49 = .ok (.iinc 2 1, 3) := by decide +kernel
theorem dX2_nextLong_52 : decode cX2_nextLong 52 = .ok (.goto (-48), 3) := by decide +kernel
theorem dX2_nextLong_55 : decode cX2_nextLong 55 = .ok (.aload_n 0, 1) := by decide +kernel
theorem dX2_nextLong_56 : decode cX2_nextLong 56 = .ok (.iconst 1, 1) := by decide +kernel
theorem dX2_nextLong_57 : decode cX2_nextLong 57 = .ok (.putfield 7, 3) := by decide +kernel
theorem dX2_nextLong_60 : decode cX2_nextLong 60 = .ok (.iconst 0, 1) := by decide +kernel
theorem dX2_nextLong_61 : decode cX2_nextLong 61 = .ok (.ireturn, 1) := by decide +kernel
theorem dX3_init_0 : decode cX3_init 0 = .ok (.aload_n 0, 1) := by decide +kernel
theorem dX3_init_1 : decode cX3_init 1 = .ok (.invokespecial 3, 3) := by decide +kernel
theorem dX3_init_4 : decode cX3_init 4 = .ok (.aload_n 0, 1) := by decide +kernel
theorem dX3_init_5 : decode cX3_init 5 = .ok (.bipush 6, 2) := by decide +kernel
theorem dX3_init_7 : decode cX3_init 7 = .ok (.anewarray 9, 3) := by decide +kernel
theorem dX3_init_10 : decode cX3_init 10 = .ok (.putfield 11, 3) := by decide +kernel
theorem dX3_init_13 : decode cX3_init 13 = .ok (.aload_n 0, 1) := by decide +kernel
theorem dX3_init_14 : decode cX3_init 14 = .ok (.bipush 7, 2) := by decide +kernel
theorem dX3_init_16 : decode cX3_init 16 = .ok (.anewarray 17, 3) := by decide +kernel
theorem dX3_init_19 : decode cX3_init 19 = .ok (.putfield 19, 3) := by decide +kernel
theorem dX3_init_22 : decode cX3_init 22 = .ok (.aload_n 0, 1) := by decide +kernel
theorem dX3_init_23 : decode cX3_init 23 = .ok (.iconst 0, 1) := by decide +kernel
theorem dX3_init_24 : decode cX3_init 24 = .ok (.putfield 23, 3) := by decide +kernel
theorem dX3_init_27 : decode cX3_init 27 = .ok (.iconst 0, 1) := by decide +kernel
theorem dX3_init_28 : decode cX3_init 28 = .ok (.istore_n 1, 1) := by decide +kernel
theorem dX3_init_29 : decode cX3_init 29 = .ok (.iload_n 1, 1) := by decide +kernel
theorem dX3_init_30 : decode cX3_init 30 = .ok (.aload_n 0, 1) := by decide +kernel
theorem dX3_init_31 : decode cX3_init 31 = .ok (.getfield 11, 3) := by decide +kernel
theorem dX3_init_34 : decode cX3_init 34 = .ok (.arraylength, 1) := by decide +kernel
theorem dX3_init_35 : decode cX3_init 35 = .ok (.if_icmp .ge 22, 3) := by decide +kernel
theorem dX3_init_38 : decode cX3_init 38 = .ok (.aload_n 0, 1) := by decide +kernel
theorem dX3_init_39 : decode cX3_init 39 = .ok (.getfield 11, 3) := by decide +kernel
theorem dX3_init_42 : decode cX3_init 42 = .ok (.iload_n 1, 1) := by decide +kernel
theorem dX3_init_43 : decode cX3_init 43 = .ok (.new 9, 3) := by decide +kernel
theorem dX3_init_46 : decode cX3_init 46 = .ok (.dup, 1) := by decide +kernel
theorem dX3_init_47 : decode cX3_init 47 = .ok (.invokespecial 27, 3) := by decide +kernel
theorem dX3_init_50 : decode cX3_init 50 = .ok (.aastore, 1) := by decide +kernel
theorem dX3_init_51 : decode cX3_init 51 = .ok (.iinc 1 1, 3) := by decide +kernel
theorem dX3_init_54 : decode cX3_init 54 = .ok (.goto (-25), 3) := by decide +kernel
theorem dX3_init_57 : decode cX3_init 57 = .ok (.iconst 0, 1) := by decide +kernel
theorem dX3_init_58 : decode cX3_init 58 = .ok (.istore_n 1, 1) := by decide +kernel
theorem dX3_init_59 : decode cX3_init 59 = .ok (.iload_n 1, 1) := by decide +kernel
theorem dX3_init_60 : decode cX3_init 60 = .ok (.aload_n 0, 1) := by decide +kernel
theorem dX3_init_61 : decode cX3_init 61 = .ok (.getfield 19, 3) := by decide +kernel
theorem dX3_init_64 : decode cX3_init 64 = .ok (.arraylength, 1) := by decide +kernel
theorem dX3_init_65 : decode cX3_init 65 = .ok (.if_icmp .ge 26, 3) := by decide +kernel
theorem dX3_init_68 : decode cX3_init 68 = .ok (.aload_n 0, 1) := by decide +kernel
theorem dX3_init_69 : decode cX3_init 69 = .ok (.getfield 19, 3) := by decide +kernel
theorem dX3_init_72 : decode cX3_init 72 = .ok (.iload_n 1, 1) := by decide +kernel
theorem dX3_init_73 : decode cX3_init 73 = .ok (.new 17, 3) := by decide +kernel
theorem dX3_init_76 : decode cX3_init 76 = .ok (.dup, 1) := by decide +kernel
theorem dX3_init_77 : decode cX3_init 77 = .ok (.iload_n 1, 1) := by decide +kernel
theorem dX3_init_78 : decode cX3_init 78 = .ok (.invokestatic 28, 3) := by decide +kernel
theorem dX3_init_81 : decode cX3_init 81 = .ok (.invokespecial 32, 3) := by decide +kernel
theorem dX3_init_84 : decode cX3_init 84 = .ok (.aastore, 1) := by decide +kernel
theorem dX3_init_85 : decode cX3_init 85 = .ok (.iinc 1 1, 3) := by decide +kernel
theorem dX3_init_88 : decode cX3_init 88 = .ok (.goto (-29), 3) := by decide +kernel
theorem dX3_init_91 : decode cX3_init 91 = .ok (.return_, 1) := by decide +kernel
theorem dX3_rowSize_0 : decode cX3_rowSize 0 = .ok (.iload_n 0, 1) := by decide +kernel
theorem dX3_rowSize_1 : decode cX3_rowSize 1 = .ok (.lookupswitch 34 #[(0, 27), (1, 31)], 27) := by decide +kernel
theorem dX3_rowSize_28 : decode cX3_rowSize 28 = .ok (.sipush 516, 3) := by decide +kernel
theorem dX3_rowSize_31 : decode cX3_rowSize 31 = .ok (.ireturn, 1) := by decide +kernel
theorem dX3_rowSize_32 : decode cX3_rowSize 32 = .ok (.bipush 24, 2) := by decide +kernel
theorem dX3_rowSize_34 : decode cX3_rowSize 34 = .ok (.ireturn, 1) := by decide +kernel
theorem dX3_rowSize_35 : decode cX3_rowSize 35 = .ok (.bipush 20, 2) := by decide +kernel
theorem dX3_rowSize_37 : decode cX3_rowSize 37 = .ok (.ireturn, 1) := by decide +kernel
theorem dX3_makeEmpty_0 : decode cX3_makeEmpty 0 = .ok (.aload_n 0, 1) := by decide +kernel
theorem dX3_makeEmpty_1 : decode cX3_makeEmpty 1 = .ok (.iconst 0, 1) := by decide +kernel
theorem dX3_makeEmpty_2 : decode cX3_makeEmpty 2 = .ok (.putfield 23, 3) := by decide +kernel
theorem dX3_makeEmpty_5 : decode cX3_makeEmpty 5 = .ok (.iconst 0, 1) := by decide +kernel
theorem dX3_makeEmpty_6 : decode cX3_makeEmpty 6 = .ok (.istore_n 1, 1) := by decide +kernel
theorem dX3_makeEmpty_7 : decode cX3_makeEmpty 7 = .ok (.iload_n 1, 1) := by decide +kernel
theorem dX3_makeEmpty_8 : decode cX3_makeEmpty 8 = .ok (.aload_n 0, 1) := by decide +kernel
theorem dX3_makeEmpty_9 : decode cX3_makeEmpty 9 = .ok (.getfield 19, 3) := by decide +kernel
theorem dX3_makeEmpty_12 : decode cX3_makeEmpty 12 = .ok (.arraylength, 1) := by decide +kernel
theorem dX3_makeEmpty_13 : decode cX3_makeEmpty 13 = .ok (.if_icmp .ge 18, 3) := by decide +kernel
theorem dX3_makeEmpty_16 : decode cX3_makeEmpty 16 = .ok (.aload_n 0, 1) := by decide +kernel
theorem dX3_makeEmpty_17 : decode cX3_makeEmpty 17 = .ok (.getfield 19, 3) := by decide +kernel
theorem dX3_makeEmpty_20 : decode cX3_makeEmpty 20 = .ok (.iload_n 1, 1) := by decide +kernel
theorem dX3_makeEmpty_21 : decode cX3_makeEmpty 21 = .ok (.aaload, 1) := by decide +kernel
theorem dX3_makeEmpty_22 : decode cX3_makeEmpty 22 = .ok (.invokevirtual 35, 3) := by decide +kernel
theorem dX3_makeEmpty_25 : decode cX3_makeEmpty 25 = .ok (.iinc 1 1, 3) := by decide +kernel
theorem dX3_makeEmpty_28 : decode cX3_makeEmpty 28 = .ok (.goto (-21), 3) := by decide +kernel
theorem dX3_makeEmpty_31 : decode cX3_makeEmpty 31 = .ok (.return_, 1) := by decide +kernel
theorem dX3_glyphCount_0 : decode cX3_glyphCount 0 = .ok (.aload_n 0, 1) := by decide +kernel
theorem dX3_glyphCount_1 : decode cX3_glyphCount 1 = .ok (.getfield 23, 3) := by decide +kernel
theorem dX3_glyphCount_4 : decode cX3_glyphCount 4 = .ok (.ireturn, 1) := by decide +kernel
theorem dX3_glyphAt_0 : decode cX3_glyphAt 0 = .ok (.aload_n 0, 1) := by decide +kernel
theorem dX3_glyphAt_1 : decode cX3_glyphAt 1 = .ok (.getfield 11, 3) := by decide +kernel
theorem dX3_glyphAt_4 : decode cX3_glyphAt 4 = .ok (.iload_n 1, 1) := by decide +kernel
theorem dX3_glyphAt_5 : decode cX3_glyphAt 5 = .ok (.ifCond .lt 16, 3) := by decide +kernel
theorem dX3_glyphAt_8 : decode cX3_glyphAt 8 = .ok (.iload_n 1, 1) := by decide +kernel
theorem dX3_glyphAt_9 : decode cX3_glyphAt 9 = .ok (.aload_n 0, 1) := by decide +kernel
theorem dX3_glyphAt_10 : decode cX3_glyphAt 10 = .ok (.getfield 11, 3) := by decide +kernel
theorem dX3_glyphAt_13 : decode cX3_glyphAt 13 = .ok (.arraylength, 1) := by decide +kernel
theorem dX3_glyphAt_14 : decode cX3_glyphAt 14 = .ok (.if_icmp .ge 7, 3) := by decide +kernel
theorem dX3_glyphAt_17 : decode cX3_glyphAt 17 = .ok (.iload_n 1, 1) := by decide +kernel
theorem dX3_glyphAt_18 : decode cX3_glyphAt 18 = .ok (.goto 4, 3) := by decide +kernel
theorem dX3_glyphAt_21 : decode cX3_glyphAt 21 = .ok (.iconst 0, 1) := by decide +kernel
theorem dX3_glyphAt_22 : decode cX3_glyphAt 22 = .ok (.aaload, 1) := by decide +kernel
theorem dX3_glyphAt_23 : decode cX3_glyphAt 23 = .ok (.areturn, 1) := by decide +kernel
theorem dX3_latestGlyph_0 : decode cX3_latestGlyph 0 = .ok (.aload_n 0, 1) := by decide +kernel
theorem dX3_latestGlyph_1 : decode cX3_latestGlyph 1 = .ok (.aload_n 0, 1) := by decide +kernel
theorem dX3_latestGlyph_2 : decode cX3_latestGlyph 2 = .ok (.getfield 23, 3) := by decide +kernel
theorem dX3_latestGlyph_5 : decode cX3_latestGlyph 5 = .ok (.iconst 1, 1) := by decide +kernel
theorem dX3_latestGlyph_6 : decode cX3_latestGlyph 6 = .ok (.isub, 1) := by decide +kernel
theorem dX3_latestGlyph_7 : decode cX3_latestGlyph 7 = .ok (.invokevirtual 38, 3) := by decide +kernel
theorem dX3_latestGlyph_10 : decode cX3_latestGlyph 10 = .ok (.areturn, 1) := by decide +kernel
theorem dX3_addGlyph_0 : decode cX3_addGlyph 0 = .ok (.aload_n 0, 1) := by decide +kernel
theorem dX3_addGlyph_1 : decode cX3_addGlyph 1 = .ok (.getfield 23, 3) := by decide +kernel
theorem dX3_addGlyph_4 : decode cX3_addGlyph 4 = .ok (.aload_n 0, 1) := by decide +kernel
theorem dX3_addGlyph_5 : decode cX3_addGlyph 5 = .ok (.getfield 11, 3) := by decide +kernel
theorem dX3_addGlyph_8 : decode cX3_addGlyph 8 = .ok (.arraylength, 1) := by decide +kernel
theorem dX3_addGlyph_9 : decode cX3_addGlyph 9 = .ok (.if_icmp .ge 28, 3) := by decide +kernel
theorem dX3_addGlyph_12 : decode cX3_addGlyph 12 = .ok (.aload_n 0, 1) := by decide +kernel
theorem dX3_addGlyph_13 : decode cX3_addGlyph 13 = .ok (.dup, 1) := by decide +kernel
theorem dX3_addGlyph_14 : decode cX3_addGlyph 14 = .ok (.getfield 23, 3) := by decide +kernel
theorem dX3_addGlyph_17 : decode cX3_addGlyph 17 = .ok (.iconst 1, 1) := by decide +kernel
theorem dX3_addGlyph_18 : decode cX3_addGlyph 18 = .ok (.iadd, 1) := by decide +kernel
theorem dX3_addGlyph_19 : decode cX3_addGlyph 19 = .ok (.putfield 23, 3) := by decide +kernel
theorem dX3_addGlyph_22 : decode cX3_addGlyph 22 = .ok (.aload_n 0, 1) := by decide +kernel
theorem dX3_addGlyph_23 : decode cX3_addGlyph 23 = .ok (.invokevirtual 42, 3) := by decide +kernel
theorem dX3_addGlyph_26 : decode cX3_addGlyph 26 = .ok (.invokevirtual 46, 3) := by decide +kernel
theorem dX3_addGlyph_29 : decode cX3_addGlyph 29 = .ok (.aload_n 0, 1) := by decide +kernel
theorem dX3_addGlyph_30 : decode cX3_addGlyph 30 = .ok (.invokevirtual 42, 3) := by decide +kernel
theorem dX3_addGlyph_33 : decode cX3_addGlyph 33 = .ok (.iload_n 1, 1) := by decide +kernel
theorem dX3_addGlyph_34 : decode cX3_addGlyph 34 = .ok (.invokevirtual 49, 3) := by decide +kernel
theorem dX3_addGlyph_37 : decode cX3_addGlyph 37 = .ok (.aload_n 0, 1) := by decide +kernel
theorem dX3_addGlyph_38 : decode cX3_addGlyph 38 = .ok (.getfield 23, 3) := by decide +kernel
theorem dX3_addGlyph_41 : decode cX3_addGlyph 41 = .ok (.iconst 1, 1) := by decide +kernel
theorem dX3_addGlyph_42 : decode cX3_addGlyph 42 = .ok (.isub, 1) := by decide +kernel
theorem dX3_addGlyph_43 : decode cX3_addGlyph 43 = .ok (.ireturn, 1) := by decide +kernel
theorem dX3_hasEmptyContour_0 : decode cX3_hasEmptyContour 0 = .ok (.aload_n 0, 1) := by decide +kernel
theorem dX3_hasEmptyContour_1 : decode cX3_hasEmptyContour 1 = .ok (.getfield 23, 3) := by decide +kernel
theorem dX3_hasEmptyContour_4 : decode cX3_hasEmptyContour 4 = .ok (.ifCond .le 17, 3) := by decide +kernel
theorem dX3_hasEmptyContour_7 : decode cX3_hasEmptyContour 7 = .ok (.aload_n 0, 1) := by decide +kernel
theorem dX3_hasEmptyContour_8 : decode cX3_hasEmptyContour 8 = .ok (.invokevirtual 42, 3) := by decide +kernel
theorem dX3_hasEmptyContour_11 : decode cX3_hasEmptyContour 11 = .ok (.invokevirtual 52, 3) := by decide +kernel
theorem dX3_hasEmptyContour_14 : decode cX3_hasEmptyContour 14 = .ok (.ifCond .eq 7, 3) := by decide +kernel
theorem dX3_hasEmptyContour_17 : decode cX3_hasEmptyContour 17 = .ok (.iconst 1, 1) := by decide +kernel
theorem dX3_hasEmptyContour_18 : decode cX3_hasEmptyContour 18 = .ok (.goto 4, 3) := by decide +kernel
theorem dX3_hasEmptyContour_21 : decode cX3_hasEmptyContour 21 = .ok (.iconst 0, 1) := by decide +kernel
theorem dX3_hasEmptyContour_22 : decode cX3_hasEmptyContour 22 = .ok (.ireturn, 1) := by decide +kernel
theorem dX3_tableRow_0 : decode cX3_tableRow 0 = .ok (.aload_n 0, 1) := by decide +kernel
theorem dX3_tableRow_1 : decode cX3_tableRow 1 = .ok (.getfield 19, 3) := by decide +kernel
theorem dX3_tableRow_4 : decode cX3_tableRow 4 = .ok (.iload_n 1, 1) := by decide +kernel
theorem dX3_tableRow_5 : decode cX3_tableRow 5 = .ok (.ifCond .lt 16, 3) := by decide +kernel
theorem dX3_tableRow_8 : decode cX3_tableRow 8 = .ok (.iload_n 1, 1) := by decide +kernel
theorem dX3_tableRow_9 : decode cX3_tableRow 9 = .ok (.aload_n 0, 1) := by decide +kernel
theorem dX3_tableRow_10 : decode cX3_tableRow 10 = .ok (.getfield 19, 3) := by decide +kernel
theorem dX3_tableRow_13 : decode cX3_tableRow 13 = .ok (.arraylength, 1) := by decide +kernel
theorem dX3_tableRow_14 : decode cX3_tableRow 14 = .ok (.if_icmp .ge 7, 3) := by decide +kernel
theorem dX3_tableRow_17 : decode cX3_tableRow 17 = .ok (.iload_n 1, 1) := by decide +kernel
theorem dX3_tableRow_18 : decode cX3_tableRow 18 = .ok (.goto 4, 3) := by decide +kernel
theorem dX3_tableRow_21 : decode cX3_tableRow 21 = .ok (.iconst 0, 1) := by decide +kernel
theorem dX3_tableRow_22 : decode cX3_tableRow 22 = .ok (.aaload, 1) := by decide +kernel
theorem dX3_tableRow_23 : decode cX3_tableRow 23 = .ok (.areturn, 1) := by decide +kernel
theorem dX3_hasTable_0 : decode cX3_hasTable 0 = .ok (.iload_n 1, 1) := by decide +kernel
theorem dX3_hasTable_1 : decode cX3_hasTable 1 = .ok (.iconst 2, 1) := by decide +kernel
theorem dX3_hasTable_2 : decode cX3_hasTable 2 = .ok (.if_icmp .ge 18, 3) := by decide +kernel
theorem dX3_hasTable_5 : decode cX3_hasTable 5 = .ok (.aload_n 0, 1) := by decide +kernel
theorem dX3_hasTable_6 : decode cX3_hasTable 6 = .ok (.getfield 23, 3) := by decide +kernel
theorem dX3_hasTable_9 : decode cX3_hasTable 9 = .ok (.ifCond .le 7, 3) := by decide +kernel
theorem dX3_hasTable_12 : decode cX3_hasTable 12 = .ok (.iconst 1, 1) := by decide +kernel
theorem dX3_hasTable_13 : decode cX3_hasTable 13 = .ok (.goto 23, 3) := by decide +kernel
theorem dX3_hasTable_16 : decode cX3_hasTable 16 = .ok (.iconst 0, 1) := by decide +kernel
theorem dX3_hasTable_17 : decode cX3_hasTable 17 = .ok (.goto 19, 3) := by decide +kernel
theorem dX3_hasTable_20 : decode cX3_hasTable 20 = .ok (.aload_n 0, 1) := by decide +kernel
theorem dX3_hasTable_21 : decode cX3_hasTable 21 = .ok (.iload_n 1, 1) := by decide +kernel
theorem dX3_hasTable_22 : decode cX3_hasTable 22 = .ok (.invokevirtual 56, 3) := by decide +kernel
theorem dX3_hasTable_25 : decode cX3_hasTable 25 = .ok (.invokevirtual 60, 3) := by decide +kernel
theorem dX3_hasTable_28 : decode cX3_hasTable 28 = .ok (.ifCond .le 7, 3) := by decide +kernel
theorem dX3_hasTable_31 : decode cX3_hasTable 31 = .ok (.iconst 1, 1) := by decide +kernel
theorem dX3_hasTable_32 : decode cX3_hasTable 32 = .ok (.goto 4, 3) := by decide +kernel
theorem dX3_hasTable_35 : decode cX3_hasTable 35 = .ok (.iconst 0, 1) := by decide +kernel
theorem dX3_hasTable_36 : decode cX3_hasTable 36 = .ok (.ireturn, 1) := by decide +kernel
theorem dX3_tableCount_0 : decode cX3_tableCount 0 = .ok (.iconst 0, 1) := by decide +kernel
theorem dX3_tableCount_1 : decode cX3_tableCount 1 = .ok (.istore_n 1, 1) := by decide +kernel
theorem dX3_tableCount_2 : decode cX3_tableCount 2 = .ok (.iconst 0, 1) := by decide +kernel
theorem dX3_tableCount_3 : decode cX3_tableCount 3 = .ok (.istore_n 2, 1) := by decide +kernel
theorem dX3_tableCount_4 : decode cX3_tableCount 4 = .ok (.iload_n 2, 1) := by decide +kernel
theorem dX3_tableCount_5 : decode cX3_tableCount 5 = .ok (.bipush 7, 2) := by decide +kernel
theorem dX3_tableCount_7 : decode cX3_tableCount 7 = .ok (.if_icmp .ge 25, 3) := by decide +kernel
theorem dX3_tableCount_10 : decode cX3_tableCount 10 = .ok (.iload_n 1, 1) := by decide +kernel
theorem dX3_tableCount_11 : decode cX3_tableCount 11 = .ok (.aload_n 0, 1) := by decide +kernel
theorem dX3_tableCount_12 : decode cX3_tableCount 12 = .ok (.iload_n 2, 1) := by decide +kernel
theorem dX3_tableCount_13 : decode cX3_tableCount 13 = .ok (.invokevirtual 64, 3) := by decide +kernel
theorem dX3_tableCount_16 : decode cX3_tableCount 16 = .ok (.ifCond .eq 7, 3) := by decide +kernel
theorem dX3_tableCount_19 : decode cX3_tableCount 19 = .ok (.iconst 1, 1) := by decide +kernel
theorem dX3_tableCount_20 : decode cX3_tableCount 20 = .ok (.goto 4, 3) := by decide +kernel
theorem dX3_tableCount_23 : decode cX3_tableCount 23 = .ok (.iconst 0, 1) := by decide +kernel
theorem dX3_tableCount_24 : decode cX3_tableCount 24 = .ok (.iadd, 1) := by decide +kernel
theorem dX3_tableCount_25 : decode cX3_tableCount 25 = .ok (.istore_n 1, 1) := by decide +kernel
theorem dX3_tableCount_26 : decode cX3_tableCount 26 = .ok (.iinc 2 1, 3) := by decide +kernel
theorem dX3_tableCount_29 : decode cX3_tableCount 29 = .ok (.goto (-25), 3) := by decide +kernel
theorem dX3_tableCount_32 : decode cX3_tableCount 32 = .ok (.iload_n 1, 1) := by decide +kernel
theorem dX3_tableCount_33 : decode cX3_tableCount 33 = .ok (.ireturn, 1) := by decide +kernel
theorem dX4_init_0 : decode cX4_init 0 = .ok (.aload_n 0, 1) := by decide +kernel
theorem dX4_init_1 : decode cX4_init 1 = .ok (.invokespecial 3, 3) := by decide +kernel
theorem dX4_init_4 : decode cX4_init 4 = .ok (.aload_n 0, 1) := by decide +kernel
theorem dX4_init_5 : decode cX4_init 5 = .ok (.new 9, 3) := by decide +kernel
theorem dX4_init_8 : decode cX4_init 8 = .ok (.dup, 1) := by decide +kernel
theorem dX4_init_9 : decode cX4_init 9 = .ok (.iconst 4, 1) := by decide +kernel
theorem dX4_init_10 : decode cX4_init 10 = .ok (.invokespecial 11, 3) := by decide +kernel
theorem dX4_init_13 : decode cX4_init 13 = .ok (.putfield 14, 3) := by decide +kernel
theorem dX4_init_16 : decode cX4_init 16 = .ok (.aload_n 0, 1) := by decide +kernel
theorem dX4_init_17 : decode cX4_init 17 = .ok (.new 9, 3) := by decide +kernel
theorem dX4_init_20 : decode cX4_init 20 = .ok (.dup, 1) := by decide +kernel
theorem dX4_init_21 : decode cX4_init 21 = .ok (.bipush 16, 2) := by decide +kernel
theorem dX4_init_23 : decode cX4_init 23 = .ok (.invokespecial 11, 3) := by decide +kernel
theorem dX4_init_26 : decode cX4_init 26 = .ok (.putfield 20, 3) := by decide +kernel
theorem dX4_init_29 : decode cX4_init 29 = .ok (.aload_n 0, 1) := by decide +kernel
theorem dX4_init_30 : decode cX4_init 30 = .ok (.new 9, 3) := by decide +kernel
theorem dX4_init_33 : decode cX4_init 33 = .ok (.dup, 1) := by decide +kernel
theorem dX4_init_34 : decode cX4_init 34 = .ok (.bipush 16, 2) := by decide +kernel
theorem dX4_init_36 : decode cX4_init 36 = .ok (.invokespecial 11, 3) := by decide +kernel
theorem dX4_init_39 : decode cX4_init 39 = .ok (.putfield 23, 3) := by decide +kernel
theorem dX4_init_42 : decode cX4_init 42 = .ok (.aload_n 0, 1) := by decide +kernel
theorem dX4_init_43 : decode cX4_init 43 = .ok (.new 9, 3) := by decide +kernel
theorem dX4_init_46 : decode cX4_init 46 = .ok (.dup, 1) := by decide +kernel
theorem dX4_init_47 : decode cX4_init 47 = .ok (.bipush 16, 2) := by decide +kernel
theorem dX4_init_49 : decode cX4_init 49 = .ok (.invokespecial 11, 3) := by decide +kernel
theorem dX4_init_52 : decode cX4_init 52 = .ok (.putfield 26, 3) := by decide +kernel
theorem dX4_init_55 : decode cX4_init 55 = .ok (.aload_n 0, 1) := by decide +kernel
theorem dX4_init_56 : decode cX4_init 56 = .ok (.iconst 0, 1) := by decide +kernel
theorem dX4_init_57 : decode cX4_init 57 = .ok (.putfield 29, 3) := by decide +kernel
theorem dX4_init_60 : decode cX4_init 60 = .ok (.return_, 1) := by decide +kernel
theorem dX4_begin_0 : decode cX4_begin 0 = .ok (.aload_n 0, 1) := by decide +kernel
theorem dX4_begin_1 : decode cX4_begin 1 = .ok (.iconst 0, 1) := by decide +kernel
theorem dX4_begin_2 : decode cX4_begin 2 = .ok (.putfield 29, 3) := by decide +kernel
theorem dX4_begin_5 : decode cX4_begin 5 = .ok (.aload_n 0, 1) := by decide +kernel
theorem dX4_begin_6 : decode cX4_begin 6 = .ok (.getfield 14, 3) := by decide +kernel
theorem dX4_begin_9 : decode cX4_begin 9 = .ok (.invokevirtual 33, 3) := by decide +kernel
theorem dX4_begin_12 : decode cX4_begin 12 = .ok (.aload_n 0, 1) := by decide +kernel
theorem dX4_begin_13 : decode cX4_begin 13 = .ok (.getfield 20, 3) := by decide +kernel
theorem dX4_begin_16 : decode cX4_begin 16 = .ok (.invokevirtual 33, 3) := by decide +kernel
theorem dX4_begin_19 : decode cX4_begin 19 = .ok (.aload_n 0, 1) := by decide +kernel
theorem dX4_begin_20 : decode cX4_begin 20 = .ok (.getfield 23, 3) := by decide +kernel
theorem dX4_begin_23 : decode cX4_begin 23 = .ok (.invokevirtual 33, 3) := by decide +kernel
theorem dX4_begin_26 : decode cX4_begin 26 = .ok (.aload_n 0, 1) := by decide +kernel
theorem dX4_begin_27 : decode cX4_begin 27 = .ok (.getfield 26, 3) := by decide +kernel
theorem dX4_begin_30 : decode cX4_begin 30 = .ok (.invokevirtual 33, 3) := by decide +kernel
theorem dX4_begin_33 : decode cX4_begin 33 = .ok (.return_, 1) := by decide +kernel
theorem dX4_advance_0 : decode cX4_advance 0 = .ok (.aload_n 0, 1) := by decide +kernel
theorem dX4_advance_1 : decode cX4_advance 1 = .ok (.getfield 29, 3) := by decide +kernel
theorem dX4_advance_4 : decode cX4_advance 4 = .ok (.ireturn, 1) := by decide +kernel
theorem dX4_changeAdvance_0 : decode cX4_changeAdvance 0 = .ok (.aload_n 0, 1) := by decide +kernel
theorem dX4_changeAdvance_1 : decode cX4_changeAdvance 1 = .ok (.iload_n 1, 1) := by decide +kernel
theorem dX4_changeAdvance_2 : decode cX4_changeAdvance 2 = .ok (.putfield 29, 3) := by decide +kernel
theorem dX4_changeAdvance_5 : decode cX4_changeAdvance 5 = .ok (.return_, 1) := by decide +kernel
theorem dX4_contourCount_0 : decode cX4_contourCount 0 = .ok (.aload_n 0, 1) := by decide +kernel
theorem dX4_contourCount_1 : decode cX4_contourCount 1 = .ok (.getfield 14, 3) := by decide +kernel
theorem dX4_contourCount_4 : decode cX4_contourCount 4 = .ok (.invokevirtual 36, 3) := by decide +kernel
theorem dX4_contourCount_7 : decode cX4_contourCount 7 = .ok (.ireturn, 1) := by decide +kernel
theorem dX4_contourSize_0 : decode cX4_contourSize 0 = .ok (.aload_n 0, 1) := by decide +kernel
theorem dX4_contourSize_1 : decode cX4_contourSize 1 = .ok (.getfield 14, 3) := by decide +kernel
theorem dX4_contourSize_4 : decode cX4_contourSize 4 = .ok (.iload_n 1, 1) := by decide +kernel
theorem dX4_contourSize_5 : decode cX4_contourSize 5 = .ok (.invokevirtual 40, 3) := by decide +kernel
theorem dX4_contourSize_8 : decode cX4_contourSize 8 = .ok (.ireturn, 1) := by decide +kernel
theorem dX4_pointCount_0 : decode cX4_pointCount 0 = .ok (.aload_n 0, 1) := by decide +kernel
theorem dX4_pointCount_1 : decode cX4_pointCount 1 = .ok (.getfield 20, 3) := by decide +kernel
theorem dX4_pointCount_4 : decode cX4_pointCount 4 = .ok (.invokevirtual 36, 3) := by decide +kernel
theorem dX4_pointCount_7 : decode cX4_pointCount 7 = .ok (.ireturn, 1) := by decide +kernel
theorem dX4_hasEmptyContour_0 : decode cX4_hasEmptyContour 0 = .ok (.aload_n 0, 1) := by decide +kernel
theorem dX4_hasEmptyContour_1 : decode cX4_hasEmptyContour 1 = .ok (.getfield 14, 3) := by decide +kernel
theorem dX4_hasEmptyContour_4 : decode cX4_hasEmptyContour 4 = .ok (.invokevirtual 36, 3) := by decide +kernel
theorem dX4_hasEmptyContour_7 : decode cX4_hasEmptyContour 7 = .ok (.ifCond .le 17, 3) := by decide +kernel
theorem dX4_hasEmptyContour_10 : decode cX4_hasEmptyContour 10 = .ok (.aload_n 0, 1) := by decide +kernel
theorem dX4_hasEmptyContour_11 : decode cX4_hasEmptyContour 11 = .ok (.getfield 14, 3) := by decide +kernel
theorem dX4_hasEmptyContour_14 : decode cX4_hasEmptyContour 14 = .ok (.invokevirtual 44, 3) := by decide +kernel
theorem dX4_hasEmptyContour_17 : decode cX4_hasEmptyContour 17 = .ok (.ifCond .ne 7, 3) := by decide +kernel
theorem dX4_hasEmptyContour_20 : decode cX4_hasEmptyContour 20 = .ok (.iconst 1, 1) := by decide +kernel
theorem dX4_hasEmptyContour_21 : decode cX4_hasEmptyContour 21 = .ok (.goto 4, 3) := by decide +kernel
theorem dX4_hasEmptyContour_24 : decode cX4_hasEmptyContour 24 = .ok (.iconst 0, 1) := by decide +kernel
theorem dX4_hasEmptyContour_25 : decode cX4_hasEmptyContour 25 = .ok (.ireturn, 1) := by decide +kernel
theorem dX4_addContour_0 : decode cX4_addContour 0 = .ok (.aload_n 0, 1) := by decide +kernel
theorem dX4_addContour_1 : decode cX4_addContour 1 = .ok (.getfield 14, 3) := by decide +kernel
theorem dX4_addContour_4 : decode cX4_addContour 4 = .ok (.iconst 0, 1) := by decide +kernel
theorem dX4_addContour_5 : decode cX4_addContour 5 = .ok (.invokevirtual 47, 3) := by decide +kernel
theorem dX4_addContour_8 : decode cX4_addContour 8 = .ok (.aload_n 0, 1) := by decide +kernel
theorem dX4_addContour_9 : decode cX4_addContour 9 = .ok (.getfield 14, 3) := by decide +kernel
theorem dX4_addContour_12 : decode cX4_addContour 12 = .ok (.invokevirtual 36, 3) := by decide +kernel
theorem dX4_addContour_15 : decode cX4_addContour 15 = .ok (.iconst 1, 1) := by decide +kernel
theorem dX4_addContour_16 : decode cX4_addContour 16 = .ok (.isub, 1) := by decide +kernel
theorem dX4_addContour_17 : decode cX4_addContour 17 = .ok (.ireturn, 1) := by decide +kernel
theorem dX4_growLatestContour_0 : decode cX4_growLatestContour 0 = .ok (.aload_n 0, 1) := by decide +kernel
theorem dX4_growLatestContour_1 : decode cX4_growLatestContour 1 = .ok (.getfield 14, 3) := by decide +kernel
theorem dX4_growLatestContour_4 : decode cX4_growLatestContour 4 = .ok (.aload_n 0, 1) := by decide +kernel
theorem dX4_growLatestContour_5 : decode cX4_growLatestContour 5 = .ok (.getfield 14, 3) := by decide +kernel
theorem dX4_growLatestContour_8 : decode cX4_growLatestContour 8 = .ok (.invokevirtual 36, 3) := by decide +kernel
theorem dX4_growLatestContour_11 : decode cX4_growLatestContour 11 = .ok (.iconst 1, 1) := by decide +kernel
theorem dX4_growLatestContour_12 : decode cX4_growLatestContour 12 = .ok (.isub, 1) := by decide +kernel
theorem dX4_growLatestContour_13 : decode cX4_growLatestContour 13 = .ok (.aload_n 0, 1) := by decide +kernel
theorem dX4_growLatestContour_14 : decode cX4_growLatestContour 14 = .ok (.getfield 14, 3) := by decide +kernel
theorem dX4_growLatestContour_17 : decode cX4_growLatestContour 17 = .ok (.invokevirtual 44, 3) := by decide +kernel
theorem dX4_growLatestContour_20 : decode cX4_growLatestContour 20 = .ok (.iconst 1, 1) := by decide +kernel
theorem dX4_growLatestContour_21 : decode cX4_growLatestContour 21 = .ok (.iadd, 1) := by decide +kernel
theorem dX4_growLatestContour_22 : decode cX4_growLatestContour 22 = .ok (.invokevirtual 50, 3) := by decide +kernel
theorem dX4_growLatestContour_25 : decode cX4_growLatestContour 25 = .ok (.return_, 1) := by decide +kernel
theorem dX4_changeContourSize_0 : decode cX4_changeContourSize 0 = .ok (.aload_n 0, 1) := by decide +kernel
theorem dX4_changeContourSize_1 : decode cX4_changeContourSize 1 = .ok (.getfield 14, 3) := by decide +kernel
theorem dX4_changeContourSize_4 : decode cX4_changeContourSize 4 = .ok (.iload_n 1, 1) := by decide +kernel
theorem dX4_changeContourSize_5 : decode cX4_changeContourSize 5 = .ok (.iload_n 2, 1) := by decide +kernel
theorem dX4_changeContourSize_6 : decode cX4_changeContourSize 6 = .ok (.invokevirtual 50, 3) := by decide +kernel
theorem dX4_changeContourSize_9 : decode cX4_changeContourSize 9 = .ok (.return_, 1) := by decide +kernel
theorem dX4_addPoint_0 : decode cX4_addPoint 0 = .ok (.aload_n 0, 1) := by decide +kernel
theorem dX4_addPoint_1 : decode cX4_addPoint 1 = .ok (.getfield 20, 3) := by decide +kernel
theorem dX4_addPoint_4 : decode cX4_addPoint 4 = .ok (.iload_n 1, 1) := by decide +kernel
theorem dX4_addPoint_5 : decode cX4_addPoint 5 = .ok (.invokevirtual 47, 3) := by decide +kernel
theorem dX4_addPoint_8 : decode cX4_addPoint 8 = .ok (.aload_n 0, 1) := by decide +kernel
theorem dX4_addPoint_9 : decode cX4_addPoint 9 = .ok (.getfield 23, 3) := by decide +kernel
theorem dX4_addPoint_12 : decode cX4_addPoint 12 = .ok (.iload_n 2, 1) := by decide +kernel
theorem dX4_addPoint_13 : decode cX4_addPoint 13 = .ok (.invokevirtual 47, 3) := by decide +kernel
theorem dX4_addPoint_16 : decode cX4_addPoint 16 = .ok (.aload_n 0, 1) := by decide +kernel
theorem dX4_addPoint_17 : decode cX4_addPoint 17 = .ok (.getfield 26, 3) := by decide +kernel
theorem dX4_addPoint_20 : decode cX4_addPoint 20 = .ok (.iload_n 3, 1) := by decide +kernel
theorem dX4_addPoint_21 : decode cX4_addPoint 21 = .ok (.ifCond .eq 7, 3) := by decide +kernel
theorem dX4_addPoint_24 : decode cX4_addPoint 24 = .ok (.iconst 1, 1) := by decide +kernel
theorem dX4_addPoint_25 : decode cX4_addPoint 25 = .ok (.goto 4, 3) := by decide +kernel
theorem dX4_addPoint_28 : decode cX4_addPoint 28 = .ok (.iconst 0, 1) := by decide +kernel
theorem dX4_addPoint_29 : decode cX4_addPoint 29 = .ok (.invokevirtual 47, 3) := by decide +kernel
theorem dX4_addPoint_32 : decode cX4_addPoint 32 = .ok (.aload_n 0, 1) := by decide +kernel
theorem dX4_addPoint_33 : decode cX4_addPoint 33 = .ok (.getfield 20, 3) := by decide +kernel
theorem dX4_addPoint_36 : decode cX4_addPoint 36 = .ok (.invokevirtual 36, 3) := by decide +kernel
theorem dX4_addPoint_39 : decode cX4_addPoint 39 = .ok (.iconst 1, 1) := by decide +kernel
theorem dX4_addPoint_40 : decode cX4_addPoint 40 = .ok (.isub, 1) := by decide +kernel
theorem dX4_addPoint_41 : decode cX4_addPoint 41 = .ok (.ireturn, 1) := by decide +kernel
theorem dX4_x_0 : decode cX4_x 0 = .ok (.aload_n 0, 1) := by decide +kernel
theorem dX4_x_1 : decode cX4_x 1 = .ok (.getfield 20, 3) := by decide +kernel
theorem dX4_x_4 : decode cX4_x 4 = .ok (.iload_n 1, 1) := by decide +kernel
theorem dX4_x_5 : decode cX4_x 5 = .ok (.invokevirtual 40, 3) := by decide +kernel
theorem dX4_x_8 : decode cX4_x 8 = .ok (.ireturn, 1) := by decide +kernel
theorem dX4_y_0 : decode cX4_y 0 = .ok (.aload_n 0, 1) := by decide +kernel
theorem dX4_y_1 : decode cX4_y 1 = .ok (.getfield 23, 3) := by decide +kernel
theorem dX4_y_4 : decode cX4_y 4 = .ok (.iload_n 1, 1) := by decide +kernel
theorem dX4_y_5 : decode cX4_y 5 = .ok (.invokevirtual 40, 3) := by decide +kernel
theorem dX4_y_8 : decode cX4_y 8 = .ok (.ireturn, 1) := by decide +kernel
theorem dX4_isOn_0 : decode cX4_isOn 0 = .ok (.aload_n 0, 1) := by decide +kernel
theorem dX4_isOn_1 : decode cX4_isOn 1 = .ok (.getfield 26, 3) := by decide +kernel
theorem dX4_isOn_4 : decode cX4_isOn 4 = .ok (.iload_n 1, 1) := by decide +kernel
theorem dX4_isOn_5 : decode cX4_isOn 5 = .ok (.invokevirtual 40, 3) := by decide +kernel
theorem dX4_isOn_8 : decode cX4_isOn 8 = .ok (.iconst 1, 1) := by decide +kernel
theorem dX4_isOn_9 : decode cX4_isOn 9 = .ok (.if_icmp .ne 7, 3) := by decide +kernel
theorem dX4_isOn_12 : decode cX4_isOn 12 = .ok (.iconst 1, 1) := by decide +kernel
theorem dX4_isOn_13 : decode cX4_isOn 13 = .ok (.goto 4, 3) := by decide +kernel
theorem dX4_isOn_16 : decode cX4_isOn 16 = .ok (.iconst 0, 1) := by decide +kernel
theorem dX4_isOn_17 : decode cX4_isOn 17 = .ok (.ireturn, 1) := by decide +kernel
theorem dX4_dx_0 : decode cX4_dx 0 = .ok (.aload_n 0, 1) := by decide +kernel
theorem dX4_dx_1 : decode cX4_dx 1 = .ok (.getfield 20, 3) := by decide +kernel
theorem dX4_dx_4 : decode cX4_dx 4 = .ok (.iload_n 1, 1) := by decide +kernel
theorem dX4_dx_5 : decode cX4_dx 5 = .ok (.invokevirtual 40, 3) := by decide +kernel
theorem dX4_dx_8 : decode cX4_dx 8 = .ok (.aload_n 0, 1) := by decide +kernel
theorem dX4_dx_9 : decode cX4_dx 9 = .ok (.getfield 20, 3) := by decide +kernel
theorem dX4_dx_12 : decode cX4_dx 12 = .ok (.iload_n 1, 1) := by decide +kernel
theorem dX4_dx_13 : decode cX4_dx 13 = .ok (.iconst 1, 1) := by decide +kernel
theorem dX4_dx_14 : decode cX4_dx 14 = .ok (.isub, 1) := by decide +kernel
theorem dX4_dx_15 : decode cX4_dx 15 = .ok (.invokevirtual 40, 3) := by decide +kernel
theorem dX4_dx_18 : decode cX4_dx 18 = .ok (.isub, 1) := by decide +kernel
theorem dX4_dx_19 : decode cX4_dx 19 = .ok (.ireturn, 1) := by decide +kernel
theorem dX4_dy_0 : decode cX4_dy 0 = .ok (.aload_n 0, 1) := by decide +kernel
theorem dX4_dy_1 : decode cX4_dy 1 = .ok (.getfield 23, 3) := by decide +kernel
theorem dX4_dy_4 : decode cX4_dy 4 = .ok (.iload_n 1, 1) := by decide +kernel
theorem dX4_dy_5 : decode cX4_dy 5 = .ok (.invokevirtual 40, 3) := by decide +kernel
theorem dX4_dy_8 : decode cX4_dy 8 = .ok (.aload_n 0, 1) := by decide +kernel
theorem dX4_dy_9 : decode cX4_dy 9 = .ok (.getfield 23, 3) := by decide +kernel
theorem dX4_dy_12 : decode cX4_dy 12 = .ok (.iload_n 1, 1) := by decide +kernel
theorem dX4_dy_13 : decode cX4_dy 13 = .ok (.iconst 1, 1) := by decide +kernel
theorem dX4_dy_14 : decode cX4_dy 14 = .ok (.isub, 1) := by decide +kernel
theorem dX4_dy_15 : decode cX4_dy 15 = .ok (.invokevirtual 40, 3) := by decide +kernel
theorem dX4_dy_18 : decode cX4_dy 18 = .ok (.isub, 1) := by decide +kernel
theorem dX4_dy_19 : decode cX4_dy 19 = .ok (.ireturn, 1) := by decide +kernel
theorem dX4_contourOf_0 : decode cX4_contourOf 0 = .ok (.iconst 0, 1) := by decide +kernel
theorem dX4_contourOf_1 : decode cX4_contourOf 1 = .ok (.istore_n 2, 1) := by decide +kernel
theorem dX4_contourOf_2 : decode cX4_contourOf 2 = .ok (.iconst 0, 1) := by decide +kernel
theorem dX4_contourOf_3 : decode cX4_contourOf 3 = .ok (.istore_n 3, 1) := by decide +kernel
theorem dX4_contourOf_4 : decode cX4_contourOf 4 = .ok (.iload_n 3, 1) := by decide +kernel
theorem dX4_contourOf_5 : decode cX4_contourOf 5 = .ok (.aload_n 0, 1) := by decide +kernel
theorem dX4_contourOf_6 : decode cX4_contourOf 6 = .ok (.getfield 14, 3) := by decide +kernel
theorem dX4_contourOf_9 : decode cX4_contourOf 9 = .ok (.invokevirtual 36, 3) := by decide +kernel
theorem dX4_contourOf_12 : decode cX4_contourOf 12 = .ok (.if_icmp .ge 27, 3) := by decide +kernel
theorem dX4_contourOf_15 : decode cX4_contourOf 15 = .ok (.iload_n 2, 1) := by decide +kernel
theorem dX4_contourOf_16 : decode cX4_contourOf 16 = .ok (.aload_n 0, 1) := by decide +kernel
theorem dX4_contourOf_17 : decode cX4_contourOf 17 = .ok (.getfield 14, 3) := by decide +kernel
theorem dX4_contourOf_20 : decode cX4_contourOf 20 = .ok (.iload_n 3, 1) := by decide +kernel
theorem dX4_contourOf_21 : decode cX4_contourOf 21 = .ok (.invokevirtual 40, 3) := by decide +kernel
theorem dX4_contourOf_24 : decode cX4_contourOf 24 = .ok (.iadd, 1) := by decide +kernel
theorem dX4_contourOf_25 : decode cX4_contourOf 25 = .ok (.istore_n 2, 1) := by decide +kernel
theorem dX4_contourOf_26 : decode cX4_contourOf 26 = .ok (.iload_n 1, 1) := by decide +kernel
theorem dX4_contourOf_27 : decode cX4_contourOf 27 = .ok (.iload_n 2, 1) := by decide +kernel
theorem dX4_contourOf_28 : decode cX4_contourOf 28 = .ok (.if_icmp .ge 5, 3) := by decide +kernel
theorem dX4_contourOf_31 : decode cX4_contourOf 31 = .ok (.iload_n 3, 1) := by decide +kernel
theorem dX4_contourOf_32 : decode cX4_contourOf 32 = .ok (.ireturn, 1) := by decide +kernel
theorem dX4_contourOf_33 : decode cX4_contourOf 33 = .ok (.iinc 3 1, 3) := by decide +kernel
theorem dX4_contourOf_36 : decode cX4_contourOf 36 = .ok (.goto (-32), 3) := by decide +kernel
theorem dX4_contourOf_39 : decode cX4_contourOf 39 = .ok (.iconst 0, 1) := by decide +kernel
theorem dX4_contourOf_40 : decode cX4_contourOf 40 = .ok (.ireturn, 1) := by decide +kernel
theorem dX4_sizesTogether_0 : decode cX4_sizesTogether 0 = .ok (.iconst 0, 1) := by decide +kernel
theorem dX4_sizesTogether_1 : decode cX4_sizesTogether 1 = .ok (.istore_n 1, 1) := by decide +kernel
theorem dX4_sizesTogether_2 : decode cX4_sizesTogether 2 = .ok (.iconst 0, 1) := by decide +kernel
theorem dX4_sizesTogether_3 : decode cX4_sizesTogether 3 = .ok (.istore_n 2, 1) := by decide +kernel
theorem dX4_sizesTogether_4 : decode cX4_sizesTogether 4 = .ok (.iload_n 2, 1) := by decide +kernel
theorem dX4_sizesTogether_5 : decode cX4_sizesTogether 5 = .ok (.aload_n 0, 1) := by decide +kernel
theorem dX4_sizesTogether_6 : decode cX4_sizesTogether 6 = .ok (.getfield 14, 3) := by decide +kernel
theorem dX4_sizesTogether_9 : decode cX4_sizesTogether 9 = .ok (.invokevirtual 36, 3) := by decide +kernel
theorem dX4_sizesTogether_12 : decode cX4_sizesTogether 12 = .ok (.if_icmp .ge 20, 3) := by decide +kernel
theorem dX4_sizesTogether_15 : decode cX4_sizesTogether 15 = .ok (.iload_n 1, 1) := by decide +kernel
theorem dX4_sizesTogether_16 : decode cX4_sizesTogether 16 = .ok (.aload_n 0, 1) := by decide +kernel
theorem dX4_sizesTogether_17 : decode cX4_sizesTogether 17 = .ok (.getfield 14, 3) := by decide +kernel
theorem dX4_sizesTogether_20 : decode cX4_sizesTogether 20 = .ok (.iload_n 2, 1) := by decide +kernel
theorem dX4_sizesTogether_21 : decode cX4_sizesTogether 21 = .ok (.invokevirtual 40, 3) := by decide +kernel
theorem dX4_sizesTogether_24 : decode cX4_sizesTogether 24 = .ok (.iadd, 1) := by decide +kernel
theorem dX4_sizesTogether_25 : decode cX4_sizesTogether 25 = .ok (.istore_n 1, 1) := by decide +kernel
theorem dX4_sizesTogether_26 : decode cX4_sizesTogether 26 = .ok (.iinc 2 1, 3) := by decide +kernel
theorem dX4_sizesTogether_29 : decode cX4_sizesTogether 29 = .ok (.goto (-25), 3) := by decide +kernel
theorem dX4_sizesTogether_32 : decode cX4_sizesTogether 32 = .ok (.iload_n 1, 1) := by decide +kernel
theorem dX4_sizesTogether_33 : decode cX4_sizesTogether 33 = .ok (.ireturn, 1) := by decide +kernel
theorem dX5_init_0 : decode cX5_init 0 = .ok (.aload_n 0, 1) := by decide +kernel
theorem dX5_init_1 : decode cX5_init 1 = .ok (.invokespecial 3, 3) := by decide +kernel
theorem dX5_init_4 : decode cX5_init 4 = .ok (.aload_n 0, 1) := by decide +kernel
theorem dX5_init_5 : decode cX5_init 5 = .ok (.new 9, 3) := by decide +kernel
theorem dX5_init_8 : decode cX5_init 8 = .ok (.dup, 1) := by decide +kernel
theorem dX5_init_9 : decode cX5_init 9 = .ok (.sipush 1000, 3) := by decide +kernel
theorem dX5_init_12 : decode cX5_init 12 = .ok (.invokespecial 11, 3) := by decide +kernel
theorem dX5_init_15 : decode cX5_init 15 = .ok (.putfield 14, 3) := by decide +kernel
theorem dX5_init_18 : decode cX5_init 18 = .ok (.aload_n 0, 1) := by decide +kernel
theorem dX5_init_19 : decode cX5_init 19 = .ok (.new 9, 3) := by decide +kernel
theorem dX5_init_22 : decode cX5_init 22 = .ok (.dup, 1) := by decide +kernel
theorem dX5_init_23 : decode cX5_init 23 = .ok (.bipush 7, 2) := by decide +kernel
theorem dX5_init_25 : decode cX5_init 25 = .ok (.invokespecial 11, 3) := by decide +kernel
theorem dX5_init_28 : decode cX5_init 28 = .ok (.putfield 20, 3) := by decide +kernel
theorem dX5_init_31 : decode cX5_init 31 = .ok (.aload_n 0, 1) := by decide +kernel
theorem dX5_init_32 : decode cX5_init 32 = .ok (.new 9, 3) := by decide +kernel
theorem dX5_init_35 : decode cX5_init 35 = .ok (.dup, 1) := by decide +kernel
theorem dX5_init_36 : decode cX5_init 36 = .ok (.bipush 7, 2) := by decide +kernel
theorem dX5_init_38 : decode cX5_init 38 = .ok (.invokespecial 11, 3) := by decide +kernel
theorem dX5_init_41 : decode cX5_init 41 = .ok (.putfield 23, 3) := by decide +kernel
theorem dX5_init_44 : decode cX5_init 44 = .ok (.aload_n 0, 1) := by decide +kernel
theorem dX5_init_45 : decode cX5_init 45 = .ok (.iconst 0, 1) := by decide +kernel
theorem dX5_init_46 : decode cX5_init 46 = .ok (.putfield 26, 3) := by decide +kernel
theorem dX5_init_49 : decode cX5_init 49 = .ok (.aload_n 0, 1) := by decide +kernel
theorem dX5_init_50 : decode cX5_init 50 = .ok (.iconst 0, 1) := by decide +kernel
theorem dX5_init_51 : decode cX5_init 51 = .ok (.putfield 30, 3) := by decide +kernel
theorem dX5_init_54 : decode cX5_init 54 = .ok (.aload_n 0, 1) := by decide +kernel
theorem dX5_init_55 : decode cX5_init 55 = .ok (.iconst 0, 1) := by decide +kernel
theorem dX5_init_56 : decode cX5_init 56 = .ok (.putfield 34, 3) := by decide +kernel
theorem dX5_init_59 : decode cX5_init 59 = .ok (.aload_n 0, 1) := by decide +kernel
theorem dX5_init_60 : decode cX5_init 60 = .ok (.iconst 0, 1) := by decide +kernel
theorem dX5_init_61 : decode cX5_init 61 = .ok (.putfield 37, 3) := by decide +kernel
theorem dX5_init_64 : decode cX5_init 64 = .ok (.return_, 1) := by decide +kernel
theorem dX5_readPacked_0 : decode cX5_readPacked 0 = .ok (.aload_n 2, 1) := by decide +kernel
theorem dX5_readPacked_1 : decode cX5_readPacked 1 = .ok (.invokevirtual 40, 3) := by decide +kernel
theorem dX5_readPacked_4 : decode cX5_readPacked 4 = .ok (.new 45, 3) := by decide +kernel
theorem dX5_readPacked_7 : decode cX5_readPacked 7 = .ok (.dup, 1) := by decide +kernel
theorem dX5_readPacked_8 : decode cX5_readPacked 8 = .ok (.aload_n 1, 1) := by decide +kernel
theorem dX5_readPacked_9 : decode cX5_readPacked 9 = .ok (.iconst 0, 1) := by decide +kernel
theorem dX5_readPacked_10 : decode cX5_readPacked 10 = .ok (.aload_n 1, 1) := by decide +kernel
theorem dX5_readPacked_11 : decode cX5_readPacked 11 = .ok (.invokevirtual 47, 3) := by decide +kernel
theorem dX5_readPacked_14 : decode cX5_readPacked 14 = .ok (.invokespecial 51, 3) := by decide +kernel
theorem dX5_readPacked_17 : decode cX5_readPacked 17 = .ok (.astore_n 3, 1) := by decide +kernel
theorem dX5_readPacked_18 : decode cX5_readPacked 18 = .ok (.aload_n 0, 1) := by decide +kernel
theorem dX5_readPacked_19 : decode cX5_readPacked 19 = .ok (.aload_n 3, 1) := by decide +kernel
theorem dX5_readPacked_20 : decode cX5_readPacked 20 = .ok (.invokevirtual 54, 3) := by decide +kernel
theorem dX5_readPacked_23 : decode cX5_readPacked 23 = .ok (.ifCond .ne 5, 3) := by decide +kernel
theorem dX5_readPacked_26 : decode cX5_readPacked 26 = .ok (.iconst 1, 1) := by decide +kernel
theorem dX5_readPacked_27 : decode cX5_readPacked 27 = .ok (.ireturn, 1) := by decide +kernel
theorem dX5_readPacked_28 : decode cX5_readPacked 28 = .ok (.aload_n 0, 1) := by decide +kernel
theorem dX5_readPacked_29 : decode cX5_readPacked 29 = .ok (.new 58, 3) := by decide +kernel
theorem dX5_readPacked_32 : decode cX5_readPacked 32 = .ok (.dup, 1) := by decide +kernel
theorem dX5_readPacked_33 : decode cX5_readPacked 33 = .ok (.aload_n 1, 1) := by decide +kernel
theorem dX5_readPacked_34 : decode cX5_readPacked 34 = .ok (.aload_n 3, 1) := by decide +kernel
theorem dX5_readPacked_35 : decode cX5_readPacked 35 = .ok (.invokevirtual 60, 3) := by decide +kernel
theorem dX5_readPacked_38 : decode cX5_readPacked 38 = .ok (.invokespecial 63, 3) := by decide +kernel
theorem dX5_readPacked_41 : decode cX5_readPacked 41 = .ok (.invokevirtual 66, 3) := by decide +kernel
theorem dX5_readPacked_44 : decode cX5_readPacked 44 = .ok (.ifCond .ne 5, 3) := by decide +kernel
theorem dX5_readPacked_47 : decode cX5_readPacked 47 = .ok (.iconst 2, 1) := by decide +kernel
theorem dX5_readPacked_48 : decode cX5_readPacked 48 = .ok (.ireturn, 1) := by decide +kernel
theorem dX5_readPacked_49 : decode cX5_readPacked 49 = .ok (.aload_n 0, 1) := by decide +kernel
theorem dX5_readPacked_50 : decode cX5_readPacked 50 = .ok (.getfield 26, 3) := by decide +kernel
theorem dX5_readPacked_53 : decode cX5_readPacked 53 = .ok (.ifCond .eq 21, 3) := by decide +kernel
theorem dX5_readPacked_56 : decode cX5_readPacked 56 = .ok (.aload_n 0, 1) := by decide +kernel
theorem dX5_readPacked_57 : decode cX5_readPacked 57 = .ok (.aload_n 2, 1) := by decide +kernel
theorem dX5_readPacked_58 : decode cX5_readPacked 58 = .ok (.invokevirtual 70, 3) := by decide +kernel
theorem dX5_readPacked_61 : decode cX5_readPacked 61 = .ok (.ifCond .eq 11, 3) := by decide +kernel
theorem dX5_readPacked_64 : decode cX5_readPacked 64 = .ok (.aload_n 0, 1) := by decide +kernel
theorem dX5_readPacked_65 : decode cX5_readPacked 65 = .ok (.aload_n 2, 1) := by decide +kernel
theorem dX5_readPacked_66 : decode cX5_readPacked 66 = .ok (.invokevirtual 74, 3) := by decide +kernel
theorem dX5_readPacked_69 : decode cX5_readPacked 69 = .ok (.ifCond .ne 5, 3) := by decide +kernel
theorem dX5_readPacked_72 : decode cX5_readPacked 72 = .ok (.iconst 3, 1) := by decide +kernel
theorem dX5_readPacked_73 : decode cX5_readPacked 73 = .ok (.ireturn, 1) := by decide +kernel
theorem dX5_readPacked_74 : decode cX5_readPacked 74 = .ok (.aload_n 0, 1) := by decide +kernel
theorem dX5_readPacked_75 : decode cX5_readPacked 75 = .ok (.aload_n 2, 1) := by decide +kernel
theorem dX5_readPacked_76 : decode cX5_readPacked 76 = .ok (.invokevirtual 77, 3) := by decide +kernel
theorem dX5_readPacked_79 : decode cX5_readPacked 79 = .ok (.aload_n 2, 1) := by decide +kernel
theorem dX5_readPacked_80 : decode cX5_readPacked 80 = .ok (.invokestatic 81, 3) := by decide +kernel
theorem dX5_readPacked_83 : decode cX5_readPacked 83 = .ok (.aload_n 2, 1) := by decide +kernel
theorem dX5_readPacked_84 : decode cX5_readPacked 84 = .ok (.iconst 0, 1) := by decide +kernel
theorem dX5_readPacked_85 : decode cX5_readPacked 85 = .ok (.invokevirtual 86, 3) := by decide +kernel
theorem dX5_readPacked_88 : decode cX5_readPacked 88 = .ok (.invokevirtual 47, 3) := by decide +kernel
theorem dX5_readPacked_91 : decode cX5_readPacked 91 = .ok (.aload_n 0, 1) := by decide +kernel
theorem dX5_readPacked_92 : decode cX5_readPacked 92 = .ok (.getfield 20, 3) := by decide +kernel
theorem dX5_readPacked_95 : decode cX5_readPacked 95 = .ok (.iconst 0, 1) := by decide +kernel
theorem dX5_readPacked_96 : decode cX5_readPacked 96 = .ok (.invokevirtual 90, 3) := by decide +kernel
theorem dX5_readPacked_99 : decode cX5_readPacked 99 = .ok (.if_icmp .ne 26, 3) := by decide +kernel
theorem dX5_readPacked_102 : decode cX5_readPacked 102 = .ok (.aload_n 2, 1) := by decide +kernel
theorem dX5_readPacked_103 : decode cX5_readPacked 103 = .ok (.iconst 1, 1) := by decide +kernel
theorem dX5_readPacked_104 : decode cX5_readPacked 104 = .ok (.invokevirtual 86, 3) := by decide +kernel
theorem dX5_readPacked_107 : decode cX5_readPacked 107 = .ok (.invokevirtual 47, 3) := by decide +kernel
theorem dX5_readPacked_110 : decode cX5_readPacked 110 = .ok (.aload_n 0, 1) := by decide +kernel
theorem dX5_readPacked_111 : decode cX5_readPacked 111 = .ok (.getfield 20, 3) := by decide +kernel
theorem dX5_readPacked_114 : decode cX5_readPacked 114 = .ok (.iconst 1, 1) := by decide +kernel
theorem dX5_readPacked_115 : decode cX5_readPacked 115 = .ok (.invokevirtual 90, 3) := by decide +kernel
theorem dX5_readPacked_118 : decode cX5_readPacked 118 = .ok (.if_icmp .ne 7, 3) := by decide +kernel
theorem dX5_readPacked_121 : decode cX5_readPacked 121 = .ok (.iconst 1, 1) := by decide +kernel
theorem dX5_readPacked_122 : decode cX5_readPacked 122 = .ok (.goto 4, 3) := by decide +kernel
theorem dX5_readPacked_125 : decode cX5_readPacked 125 = .ok (.iconst 0, 1) := by decide +kernel
theorem dX5_readPacked_126 : decode cX5_readPacked 126 = .ok (.istore 4, 2) := by decide +kernel
theorem dX5_readPacked_128 : decode cX5_readPacked 128 = .ok (.iload 4, 2) := by decide +kernel
theorem dX5_readPacked_130 : decode cX5_readPacked 130 = .ok (.ifCond .eq 7, 3) := by decide +kernel
theorem dX5_readPacked_133 : decode cX5_readPacked 133 = .ok (.iconst 0, 1) := by decide +kernel
theorem dX5_readPacked_134 : decode cX5_readPacked 134 = .ok (.goto 4, 3) := by decide +kernel
theorem dX5_readPacked_137 : decode cX5_readPacked 137 = .ok (.iconst 4, 1) := by decide +kernel
theorem dX5_readPacked_138 : decode cX5_readPacked 138 = .ok (.ireturn, 1) := by decide +kernel
theorem dX5_readHead_0 : decode cX5_readHead 0 = .ok (.aload_n 1, 1) := by decide +kernel
theorem dX5_readHead_1 : decode cX5_readHead 1 = .ok (.invokevirtual 94, 3) := by decide +kernel
theorem dX5_readHead_4 : decode cX5_readHead 4 = .ok (.bipush 119, 2) := by decide +kernel
theorem dX5_readHead_6 : decode cX5_readHead 6 = .ok (.if_icmp .ne 12, 3) := by decide +kernel
theorem dX5_readHead_9 : decode cX5_readHead 9 = .ok (.aload_n 1, 1) := by decide +kernel
theorem dX5_readHead_10 : decode cX5_readHead 10 = .ok (.invokevirtual 94, 3) := by decide +kernel
theorem dX5_readHead_13 : decode cX5_readHead 13 = .ok (.bipush 50, 2) := by decide +kernel
theorem dX5_readHead_15 : decode cX5_readHead 15 = .ok (.if_icmp .eq 5, 3) := by decide +kernel
theorem dX5_readHead_18 : decode cX5_readHead 18 = .ok (.iconst 0, 1) := by decide +kernel
theorem dX5_readHead_19 : decode cX5_readHead 19 = .ok (.ireturn, 1) := by decide +kernel
theorem dX5_readHead_20 : decode cX5_readHead 20 = .ok (.aload_n 0, 1) := by decide +kernel
theorem dX5_readHead_21 : decode cX5_readHead 21 = .ok (.getfield 20, 3) := by decide +kernel
theorem dX5_readHead_24 : decode cX5_readHead 24 = .ok (.invokevirtual 97, 3) := by decide +kernel
theorem dX5_readHead_27 : decode cX5_readHead 27 = .ok (.aload_n 0, 1) := by decide +kernel
theorem dX5_readHead_28 : decode cX5_readHead 28 = .ok (.getfield 20, 3) := by decide +kernel
theorem dX5_readHead_31 : decode cX5_readHead 31 = .ok (.bipush 7, 2) := by decide +kernel
theorem dX5_readHead_33 : decode cX5_readHead 33 = .ok (.invokevirtual 98, 3) := by decide +kernel
theorem dX5_readHead_36 : decode cX5_readHead 36 = .ok (.aload_n 0, 1) := by decide +kernel
theorem dX5_readHead_37 : decode cX5_readHead 37 = .ok (.getfield 23, 3) := by decide +kernel
theorem dX5_readHead_40 : decode cX5_readHead 40 = .ok (.invokevirtual 97, 3) := by decide +kernel
theorem dX5_readHead_43 : decode cX5_readHead 43 = .ok (.aload_n 0, 1) := by decide +kernel
theorem dX5_readHead_44 : decode cX5_readHead 44 = .ok (.getfield 23, 3) := by decide +kernel
theorem dX5_readHead_47 : decode cX5_readHead 47 = .ok (.bipush 7, 2) := by decide +kernel
theorem dX5_readHead_49 : decode cX5_readHead 49 = .ok (.invokevirtual 98, 3) := by decide +kernel
theorem dX5_readHead_52 : decode cX5_readHead 52 = .ok (.aload_n 1, 1) := by decide +kernel
theorem dX5_readHead_53 : decode cX5_readHead 53 = .ok (.invokevirtual 94, 3) := by decide +kernel
theorem dX5_readHead_56 : decode cX5_readHead 56 = .ok (.istore_n 2, 1) := by decide +kernel
theorem dX5_readHead_57 : decode cX5_readHead 57 = .ok (.iconst 0, 1) := by decide +kernel
theorem dX5_readHead_58 : decode cX5_readHead 58 = .ok (.istore_n 3, 1) := by decide +kernel
theorem dX5_readHead_59 : decode cX5_readHead 59 = .ok (.iconst (-1), 1) := by decide +kernel
theorem dX5_readHead_60 : decode cX5_readHead 60 = .ok (.istore 4, 2) := by decide +kernel
theorem dX5_readHead_62 : decode cX5_readHead 62 = .ok (.iconst 0, 1) := by decide +kernel
theorem dX5_readHead_63 : decode cX5_readHead 63 = .ok (.istore 5, 2) := by decide +kernel
theorem dX5_readHead_65 : decode cX5_readHead 65 = .ok (.iconst 0, 1) := by decide +kernel
theorem dX5_readHead_66 : decode cX5_readHead 66 = .ok (.istore 6, 2) := by decide +kernel
theorem dX5_readHead_68 : decode cX5_readHead 68 = .ok (.iconst 0, 1) := by decide +kernel
theorem dX5_readHead_69 : decode cX5_readHead 69 = .ok (.istore 7, 2) := by decide +kernel
theorem dX5_readHead_71 : decode cX5_readHead 71 = .ok (.iload 7, 2) := by decide +kernel
theorem dX5_readHead_73 : decode cX5_readHead 73 = .ok (.iload_n 2, 1) := by decide +kernel
theorem dX5_readHead_74 : decode cX5_readHead 74 = .ok (.if_icmp .ge 95, 3) := by decide +kernel
theorem dX5_readHead_77 : decode cX5_readHead 77 = .ok (.aload_n 1, 1) := by decide +kernel
theorem dX5_readHead_78 : decode cX5_readHead 78 = .ok (.invokevirtual 94, 3) := by decide +kernel
theorem dX5_readHead_81 : decode cX5_readHead 81 = .ok (.invokestatic 101, 3) := by decide +kernel
theorem dX5_readHead_84 : decode cX5_readHead 84 = .ok (.istore 8, 2) := by decide +kernel
theorem dX5_readHead_86 : decode cX5_readHead 86 = .ok (.aload_n 1, 1) := by decide +kernel
theorem dX5_readHead_87 : decode cX5_readHead 87 = .ok (.invokevirtual 104, 3) := by decide +kernel
theorem dX5_readHead_90 : decode cX5_readHead 90 = .ok (.ifCond .ne 20, 3) := by decide +kernel
theorem dX5_readHead_93 : decode cX5_readHead 93 = .ok (.iload 8, 2) := by decide +kernel
theorem dX5_readHead_95 : decode cX5_readHead 95 = .ok (.iload 4, 2) := by decide +kernel
theorem dX5_readHead_97 : decode cX5_readHead 97 = .ok (.if_icmp .le 13, 3) := by decide +kernel
theorem dX5_readHead_100 : decode cX5_readHead 100 = .ok (.aload_n 0, 1) := by decide +kernel
theorem dX5_readHead_101 : decode cX5_readHead 101 = .ok (.iload 8, 2) := by decide +kernel
theorem dX5_readHead_103 : decode cX5_readHead 103 = .ok (.aload_n 1, 1) := by decide +kernel
theorem dX5_readHead_104 : decode cX5_readHead 104 = .ok (.invokevirtual 108, 3) := by decide +kernel
theorem dX5_readHead_107 : decode cX5_readHead 107 = .ok (.ifCond .ne 5, 3) := by decide +kernel
theorem dX5_readHead_110 : decode cX5_readHead 110 = .ok (.iconst 0, 1) := by decide +kernel
theorem dX5_readHead_111 : decode cX5_readHead 111 = .ok (.ireturn, 1) := by decide +kernel
theorem dX5_readHead_112 : decode cX5_readHead 112 = .ok (.iload_n 3, 1) := by decide +kernel
theorem dX5_readHead_113 : decode cX5_readHead 113 = .ok (.aload_n 0, 1) := by decide +kernel
theorem dX5_readHead_114 : decode cX5_readHead 114 = .ok (.getfield 23, 3) := by decide +kernel
theorem dX5_readHead_117 : decode cX5_readHead 117 = .ok (.iload 8, 2) := by decide +kernel
theorem dX5_readHead_119 : decode cX5_readHead 119 = .ok (.invokevirtual 90, 3) := by decide +kernel
theorem dX5_readHead_122 : decode cX5_readHead 122 = .ok (.iadd, 1) := by decide +kernel
theorem dX5_readHead_123 : decode cX5_readHead 123 = .ok (.istore_n 3, 1) := by decide +kernel
theorem dX5_readHead_124 : decode cX5_readHead 124 = .ok (.iload 5, 2) := by decide +kernel
theorem dX5_readHead_126 : decode cX5_readHead 126 = .ok (.ifCond .ne 8, 3) := by decide +kernel
theorem dX5_readHead_129 : decode cX5_readHead 129 = .ok (.iload 8, 2) := by decide +kernel
theorem dX5_readHead_131 : decode cX5_readHead 131 = .ok (.ifCond .ne 7, 3) := by decide +kernel
theorem dX5_readHead_134 : decode cX5_readHead 134 = .ok (.iconst 1, 1) := by decide +kernel
theorem dX5_readHead_135 : decode cX5_readHead 135 = .ok (.goto 4, 3) := by decide +kernel
theorem dX5_readHead_138 : decode cX5_readHead 138 = .ok (.iconst 0, 1) := by decide +kernel
theorem dX5_readHead_139 : decode cX5_readHead 139 = .ok (.istore 5, 2) := by decide +kernel
theorem dX5_readHead_141 : decode cX5_readHead 141 = .ok (.iload 6, 2) := by decide +kernel
theorem dX5_readHead_143 : decode cX5_readHead 143 = .ok (.ifCond .ne 9, 3) := by decide +kernel
theorem dX5_readHead_146 : decode cX5_readHead 146 = .ok (.iload 8, 2) := by decide +kernel
theorem dX5_readHead_148 : decode cX5_readHead 148 = .ok (.iconst 1, 1) := by decide +kernel
theorem dX5_readHead_149 : decode cX5_readHead 149 = .ok (.if_icmp .ne 7, 3) := by decide +kernel
theorem dX5_readHead_152 : decode cX5_readHead 152 = .ok (.iconst 1, 1) := by decide +kernel
theorem dX5_readHead_153 : decode cX5_readHead 153 = .ok (.goto 4, 3) := by decide +kernel
theorem dX5_readHead_156 : decode cX5_readHead 156 = .ok (.iconst 0, 1) := by decide +kernel
theorem dX5_readHead_157 : decode cX5_readHead 157 = .ok (.istore 6, 2) := by decide +kernel
theorem dX5_readHead_159 : decode cX5_readHead 159 = .ok (.iload 8, 2) := by decide +kernel
theorem dX5_readHead_161 : decode cX5_readHead 161 = .ok (.istore 4, 2) := by decide +kernel
theorem dX5_readHead_163 : decode cX5_readHead 163 = .ok (.iinc 7 1, 3) := by decide +kernel
theorem dX5_readHead_166 : decode cX5_readHead 166 = .ok (.goto (-95), 3) := by decide +kernel
theorem dX5_readHead_169 : decode cX5_readHead 169 = .ok (.aload_n 0, 1) := by decide +kernel
theorem dX5_readHead_170 : decode cX5_readHead 170 = .ok (.iload 5, 2) := by decide +kernel
theorem dX5_readHead_172 : decode cX5_readHead 172 = .ok (.putfield 26, 3) := by decide +kernel
theorem dX5_readHead_175 : decode cX5_readHead 175 = .ok (.aload_n 0, 1) := by decide +kernel
theorem dX5_readHead_176 : decode cX5_readHead 176 = .ok (.aload_n 1, 1) := by decide +kernel
theorem dX5_readHead_177 : decode cX5_readHead 177 = .ok (.invokevirtual 112, 3) := by decide +kernel
theorem dX5_readHead_180 : decode cX5_readHead 180 = .ok (.putfield 30, 3) := by decide +kernel
theorem dX5_readHead_183 : decode cX5_readHead 183 = .ok (.aload_n 1, 1) := by decide +kernel
theorem dX5_readHead_184 : decode cX5_readHead 184 = .ok (.invokevirtual 104, 3) := by decide +kernel
theorem dX5_readHead_187 : decode cX5_readHead 187 = .ok (.ifCond .ne 32, 3) := by decide +kernel
theorem dX5_readHead_190 : decode cX5_readHead 190 = .ok (.iload 5, 2) := by decide +kernel
theorem dX5_readHead_192 : decode cX5_readHead 192 = .ok (.iload 6, 2) := by decide +kernel
theorem dX5_readHead_194 : decode cX5_readHead 194 = .ok (.if_icmp .ne 25, 3) := by decide +kernel
theorem dX5_readHead_197 : decode cX5_readHead 197 = .ok (.aload_n 0, 1) := by decide +kernel
theorem dX5_readHead_198 : decode cX5_readHead 198 = .ok (.getfield 30, 3) := by decide +kernel
theorem dX5_readHead_201 : decode cX5_readHead 201 = .ok (.iload_n 3, 1) := by decide +kernel
theorem dX5_readHead_202 : decode cX5_readHead 202 = .ok (.if_icmp .ne 17, 3) := by decide +kernel
theorem dX5_readHead_205 : decode cX5_readHead 205 = .ok (.aload_n 0, 1) := by decide +kernel
theorem dX5_readHead_206 : decode cX5_readHead 206 = .ok (.getfield 30, 3) := by decide +kernel
theorem dX5_readHead_209 : decode cX5_readHead 209 = .ok (.sipush 1000, 3) := by decide +kernel
theorem dX5_readHead_212 : decode cX5_readHead 212 = .ok (.if_icmp .gt 7, 3) := by decide +kernel
theorem dX5_readHead_215 : decode cX5_readHead 215 = .ok (.iconst 1, 1) := by decide +kernel
theorem dX5_readHead_216 : decode cX5_readHead 216 = .ok (.goto 4, 3) := by decide +kernel
theorem dX5_readHead_219 : decode cX5_readHead 219 = .ok (.iconst 0, 1) := by decide +kernel
theorem dX5_readHead_220 : decode cX5_readHead 220 = .ok (.ireturn, 1) := by decide +kernel
theorem dX5_tableOfMark_0 : decode cX5_tableOfMark 0 = .ok (.iload_n 0, 1) := by decide +kernel
theorem dX5_tableOfMark_1 : decode cX5_tableOfMark 1 = .ok (.bipush 64, 2) := by decide +kernel
theorem dX5_tableOfMark_3 : decode cX5_tableOfMark 3 = .ok (.if_icmp .eq 9, 3) := by decide +kernel
theorem dX5_tableOfMark_6 : decode cX5_tableOfMark 6 = .ok (.iload_n 0, 1) := by decide +kernel
theorem dX5_tableOfMark_7 : decode cX5_tableOfMark 7 = .ok (.bipush 65, 2) := by decide +kernel
theorem dX5_tableOfMark_9 : decode cX5_tableOfMark 9 = .ok (.if_icmp .ne 8, 3) := by decide +kernel
theorem dX5_tableOfMark_12 : decode cX5_tableOfMark 12 = .ok (.iload_n 0, 1) := by decide +kernel
theorem dX5_tableOfMark_13 : decode cX5_tableOfMark 13 = .ok (.bipush 64, 2) := by decide +kernel
theorem dX5_tableOfMark_15 : decode cX5_tableOfMark 15 = .ok (.isub, 1) := by decide +kernel
theorem dX5_tableOfMark_16 : decode cX5_tableOfMark 16 = .ok (.ireturn, 1) := by decide +kernel
theorem dX5_tableOfMark_17 : decode cX5_tableOfMark 17 = .ok (.iload_n 0, 1) := by decide +kernel
theorem dX5_tableOfMark_18 : decode cX5_tableOfMark 18 = .ok (.iconst 2, 1) := by decide +kernel
theorem dX5_tableOfMark_19 : decode cX5_tableOfMark 19 = .ok (.if_icmp .lt 13, 3) := by decide +kernel
theorem dX5_tableOfMark_22 : decode cX5_tableOfMark 22 = .ok (.iload_n 0, 1) := by decide +kernel
theorem dX5_tableOfMark_23 : decode cX5_tableOfMark 23 = .ok (.bipush 7, 2) := by decide +kernel
theorem dX5_tableOfMark_25 : decode cX5_tableOfMark 25 = .ok (.if_icmp .ge 7, 3) := by decide +kernel
theorem dX5_tableOfMark_28 : decode cX5_tableOfMark 28 = .ok (.iload_n 0, 1) := by decide +kernel
theorem dX5_tableOfMark_29 : decode cX5_tableOfMark 29 = .ok (.goto 4, 3) := by decide +kernel
theorem dX5_tableOfMark_32 : decode cX5_tableOfMark 32 = .ok (.iconst (-1), 1) := by decide +kernel
theorem dX5_tableOfMark_33 : decode cX5_tableOfMark 33 = .ok (.ireturn, 1) := by decide +kernel
theorem dX5_readLengths_0 : decode cX5_readLengths 0 = .ok (.aload_n 2, 1) := by decide +kernel
theorem dX5_readLengths_1 : decode cX5_readLengths 1 = .ok (.invokevirtual 112, 3) := by decide +kernel
theorem dX5_readLengths_4 : decode cX5_readLengths 4 = .ok (.istore_n 3, 1) := by decide +kernel
theorem dX5_readLengths_5 : decode cX5_readLengths 5 = .ok (.aload_n 0, 1) := by decide +kernel
theorem dX5_readLengths_6 : decode cX5_readLengths 6 = .ok (.getfield 20, 3) := by decide +kernel
theorem dX5_readLengths_9 : decode cX5_readLengths 9 = .ok (.iload_n 1, 1) := by decide +kernel
theorem dX5_readLengths_10 : decode cX5_readLengths 10 = .ok (.iload_n 3, 1) := by decide +kernel
theorem dX5_readLengths_11 : decode cX5_readLengths 11 = .ok (.invokevirtual 115, 3) := by decide +kernel
theorem dX5_readLengths_14 : decode cX5_readLengths 14 = .ok (.iload_n 1, 1) := by decide +kernel
theorem dX5_readLengths_15 : decode cX5_readLengths 15 = .ok (.iconst 2, 1) := by decide +kernel
theorem dX5_readLengths_16 : decode cX5_readLengths 16 = .ok (.if_icmp .ge 28, 3) := by decide +kernel
theorem dX5_readLengths_19 : decode cX5_readLengths 19 = .ok (.aload_n 0, 1) := by decide +kernel
theorem dX5_readLengths_20 : decode cX5_readLengths 20 = .ok (.getfield 23, 3) := by decide +kernel
theorem dX5_readLengths_23 : decode cX5_readLengths 23 = .ok (.iload_n 1, 1) := by decide +kernel
theorem dX5_readLengths_24 : decode cX5_readLengths 24 = .ok (.aload_n 2, 1) := by decide +kernel
theorem dX5_readLengths_25 : decode cX5_readLengths 25 = .ok (.invokevirtual 112, 3) := by decide +kernel
theorem dX5_readLengths_28 : decode cX5_readLengths 28 = .ok (.invokevirtual 115, 3) := by decide +kernel
theorem dX5_readLengths_31 : decode cX5_readLengths 31 = .ok (.aload_n 2, 1) := by decide +kernel
theorem dX5_readLengths_32 : decode cX5_readLengths 32 = .ok (.invokevirtual 104, 3) := by decide +kernel
theorem dX5_readLengths_35 : decode cX5_readLengths 35 = .ok (.ifCond .ne 7, 3) := by decide +kernel
theorem dX5_readLengths_38 : decode cX5_readLengths 38 = .ok (.iconst 1, 1) := by decide +kernel
theorem dX5_readLengths_39 : decode cX5_readLengths 39 = .ok (.goto 4, 3) := by decide +kernel
theorem dX5_readLengths_42 : decode cX5_readLengths 42 = .ok (.iconst 0, 1) := by decide +kernel
theorem dX5_readLengths_43 : decode cX5_readLengths 43 = .ok (.ireturn, 1) := by decide +kernel
theorem dX5_readLengths_44 : decode cX5_readLengths 44 = .ok (.aload_n 0, 1) := by decide +kernel
theorem dX5_readLengths_45 : decode cX5_readLengths 45 = .ok (.getfield 23, 3) := by decide +kernel
theorem dX5_readLengths_48 : decode cX5_readLengths 48 = .ok (.iload_n 1, 1) := by decide +kernel
theorem dX5_readLengths_49 : decode cX5_readLengths 49 = .ok (.iload_n 3, 1) := by decide +kernel
theorem dX5_readLengths_50 : decode cX5_readLengths 50 = .ok (.invokevirtual 115, 3) := by decide +kernel
theorem dX5_readLengths_53 : decode cX5_readLengths 53 = .ok (.aload_n 2, 1) := by decide +kernel
theorem dX5_readLengths_54 : decode cX5_readLengths 54 = .ok (.invokevirtual 104, 3) := by decide +kernel
theorem dX5_readLengths_57 : decode cX5_readLengths 57 = .ok (.ifCond .ne 18, 3) := by decide +kernel
theorem dX5_readLengths_60 : decode cX5_readLengths 60 = .ok (.iload_n 3, 1) := by decide +kernel
theorem dX5_readLengths_61 : decode cX5_readLengths 61 = .ok (.iconst 1, 1) := by decide +kernel
theorem dX5_readLengths_62 : decode cX5_readLengths 62 = .ok (.if_icmp .lt 13, 3) := by decide +kernel
theorem dX5_readLengths_65 : decode cX5_readLengths 65 = .ok (.iload_n 3, 1) := by decide +kernel
theorem dX5_readLengths_66 : decode cX5_readLengths 66 = .ok (.bipush 20, 2) := by decide +kernel
theorem dX5_readLengths_68 : decode cX5_readLengths 68 = .ok (.if_icmp .gt 7, 3) := by decide +kernel
theorem dX5_readLengths_71 : decode cX5_readLengths 71 = .ok (.iconst 1, 1) := by decide +kernel
theorem dX5_readLengths_72 : decode cX5_readLengths 72 = .ok (.goto 4, 3) := by decide +kernel
theorem dX5_readLengths_75 : decode cX5_readLengths 75 = .ok (.iconst 0, 1) := by decide +kernel
theorem dX5_readLengths_76 : decode cX5_readLengths 76 = .ok (.ireturn, 1) := by decide +kernel
theorem dX5_expandStream_0 : decode cX5_expandStream 0 = .ok (.aload_n 0, 1) := by decide +kernel
theorem dX5_expandStream_1 : decode cX5_expandStream 1 = .ok (.getfield 14, 3) := by decide +kernel
theorem dX5_expandStream_4 : decode cX5_expandStream 4 = .ok (.invokevirtual 97, 3) := by decide +kernel
theorem dX5_expandStream_7 : decode cX5_expandStream 7 = .ok (.iconst 0, 1) := by decide +kernel
theorem dX5_expandStream_8 : decode cX5_expandStream 8 = .ok (.istore_n 2, 1) := by decide +kernel
theorem dX5_expandStream_9 : decode cX5_expandStream 9 = .ok (.iload_n 2, 1) := by decide +kernel
theorem dX5_expandStream_10 : decode cX5_expandStream 10 = .ok (.aload_n 0, 1) := by decide +kernel
theorem dX5_expandStream_11 : decode cX5_expandStream 11 = .ok (.getfield 30, 3) := by decide +kernel
theorem dX5_expandStream_14 : decode cX5_expandStream 14 = .ok (.if_icmp .ge 73, 3) := by decide +kernel
theorem dX5_expandStream_17 : decode cX5_expandStream 17 = .ok (.aload_n 0, 1) := by decide +kernel
theorem dX5_expandStream_18 : decode cX5_expandStream 18 = .ok (.getfield 14, 3) := by decide +kernel
theorem dX5_expandStream_21 : decode cX5_expandStream 21 = .ok (.invokevirtual 47, 3) := by decide +kernel
theorem dX5_expandStream_24 : decode cX5_expandStream 24 = .ok (.aload_n 0, 1) := by decide +kernel
theorem dX5_expandStream_25 : decode cX5_expandStream 25 = .ok (.getfield 30, 3) := by decide +kernel
theorem dX5_expandStream_28 : decode cX5_expandStream 28 = .ok (.if_icmp .ge 59, 3) := by decide +kernel
theorem dX5_expandStream_31 : decode cX5_expandStream 31 = .ok (.aload_n 1, 1) := by decide +kernel
theorem dX5_expandStream_32 : decode cX5_expandStream 32 = .ok (.iconst 1, 1) := by decide +kernel
theorem dX5_expandStream_33 : decode cX5_expandStream 33 = .ok (.invokevirtual 119, 3) := by decide +kernel
theorem dX5_expandStream_36 : decode cX5_expandStream 36 = .ok (.ifCond .ne 19, 3) := by decide +kernel
theorem dX5_expandStream_39 : decode cX5_expandStream 39 = .ok (.aload_n 0, 1) := by decide +kernel
theorem dX5_expandStream_40 : decode cX5_expandStream 40 = .ok (.getfield 14, 3) := by decide +kernel
theorem dX5_expandStream_43 : decode cX5_expandStream 43 = .ok (.aload_n 1, 1) := by decide +kernel
theorem dX5_expandStream_44 : decode cX5_expandStream 44 = .ok (.bipush 8, 2) := by decide +kernel
theorem dX5_expandStream_46 : decode cX5_expandStream 46 = .ok (.invokevirtual 119, 3) := by decide +kernel
theorem dX5_expandStream_49 : decode cX5_expandStream 49 = .ok (.invokevirtual 122, 3) := by decide +kernel
theorem dX5_expandStream_52 : decode cX5_expandStream 52 = .ok (.goto 20, 3) := by decide +kernel
theorem dX5_expandStream_55 : decode cX5_expandStream 55 = .ok (.aload_n 0, 1) := by decide +kernel
theorem dX5_expandStream_56 : decode cX5_expandStream 56 = .ok (.aload_n 1, 1) := by decide +kernel
theorem dX5_expandStream_57 : decode cX5_expandStream 57 = .ok (.invokevirtual 125, 3) := by decide +kernel
theorem dX5_expandStream_60 : decode cX5_expandStream 60 = .ok (.aload_n 1, 1) := by decide +kernel
theorem dX5_expandStream_61 : decode cX5_expandStream 61 = .ok (.invokevirtual 125, 3) := by decide +kernel
theorem dX5_expandStream_64 : decode cX5_expandStream 64 = .ok (.invokevirtual 128, 3) := by decide +kernel
theorem dX5_expandStream_67 : decode cX5_expandStream 67 = .ok (.ifCond .ne 5, 3) := by decide +kernel
theorem dX5_expandStream_70 : decode cX5_expandStream 70 = .ok (.iconst 0, 1) := by decide +kernel
theorem dX5_expandStream_71 : decode cX5_expandStream 71 = .ok (.ireturn, 1) := by decide +kernel
theorem dX5_expandStream_72 : decode cX5_expandStream 72 = .ok (.aload_n 1, 1) := by decide +kernel
theorem dX5_expandStream_73 : decode cX5_expandStream 73 = .ok (.invokevirtual 132, 3) := by decide +kernel
theorem dX5_expandStream_76 : decode cX5_expandStream 76 = .ok (.ifCond .eq 5, 3) := by decide +kernel
theorem dX5_expandStream_79 : decode cX5_expandStream 79 = .ok (.iconst 0, 1) := by decide +kernel
theorem dX5_expandStream_80 : decode cX5_expandStream 80 = .ok (.ireturn, 1) := by decide +kernel
theorem dX5_expandStream_81 : decode cX5_expandStream 81 = .ok (.iinc 2 1, 3) := by decide +kernel
theorem dX5_expandStream_84 : decode cX5_expandStream 84 = .ok (.goto (-75), 3) := by decide +kernel
theorem dX5_expandStream_87 : decode cX5_expandStream 87 = .ok (.aload_n 1, 1) := by decide +kernel
theorem dX5_expandStream_88 : decode cX5_expandStream 88 = .ok (.invokevirtual 133, 3) := by decide +kernel
theorem dX5_expandStream_91 : decode cX5_expandStream 91 = .ok (.ireturn, 1) := by decide +kernel
theorem dX5_repeatBytes_0 : decode cX5_repeatBytes 0 = .ok (.iload_n 1, 1) := by decide +kernel
theorem dX5_repeatBytes_1 : decode cX5_repeatBytes 1 = .ok (.iconst 2, 1) := by decide +kernel
theorem dX5_repeatBytes_2 : decode cX5_repeatBytes 2 = .ok (.iadd, 1) := by decide +kernel
theorem dX5_repeatBytes_3 : decode cX5_repeatBytes 3 = .ok (.istore_n 3, 1) := by decide +kernel
theorem dX5_repeatBytes_4 : decode cX5_repeatBytes 4 = .ok (.iload_n 2, 1) := by decide +kernel
theorem dX5_repeatBytes_5 : decode cX5_repeatBytes 5 = .ok (.iconst 1, 1) := by decide +kernel
theorem dX5_repeatBytes_6 : decode cX5_repeatBytes 6 = .ok (.if_icmp .lt 30, 3) := by decide +kernel
theorem dX5_repeatBytes_9 : decode cX5_repeatBytes 9 = .ok (.iload_n 2, 1) := by decide +kernel
theorem dX5_repeatBytes_10 : decode cX5_repeatBytes 10 = .ok (.aload_n 0, 1) := by decide +kernel
theorem dX5_repeatBytes_11 : decode cX5_repeatBytes 11 = .ok (.getfield 14, 3) := by decide +kernel
theorem dX5_repeatBytes_14 : decode cX5_repeatBytes 14 = .ok (.invokevirtual 47, 3) := by decide +kernel
theorem dX5_repeatBytes_17 : decode cX5_repeatBytes 17 = .ok (.if_icmp .gt 19, 3) := by decide +kernel
theorem dX5_repeatBytes_20 : decode cX5_repeatBytes 20 = .ok (.iload_n 3, 1) := by decide +kernel
theorem dX5_repeatBytes_21 : decode cX5_repeatBytes 21 = .ok (.aload_n 0, 1) := by decide +kernel
theorem dX5_repeatBytes_22 : decode cX5_repeatBytes 22 = .ok (.getfield 30, 3) := by decide +kernel
theorem dX5_repeatBytes_25 : decode cX5_repeatBytes 25 = .ok (.aload_n 0, 1) := by decide +kernel
theorem dX5_repeatBytes_26 : decode cX5_repeatBytes 26 = .ok (.getfield 14, 3) := by decide +kernel
theorem dX5_repeatBytes_29 : decode cX5_repeatBytes 29 = .ok (.invokevirtual 47, 3) := by decide +kernel
theorem dX5_repeatBytes_32 : decode cX5_repeatBytes 32 = .ok (.isub, 1) := by decide +kernel
theorem dX5_repeatBytes_33 : decode cX5_repeatBytes 33 = .ok (.if_icmp .le 5, 3) := by decide +kernel
theorem dX5_repeatBytes_36 : decode cX5_repeatBytes 36 = .ok (.iconst 0, 1) := by decide +kernel
theorem dX5_repeatBytes_37 : decode cX5_repeatBytes 37 = .ok (.ireturn, 1) := by decide +kernel
theorem dX5_repeatBytes_38 : decode cX5_repeatBytes 38 = .ok (.iconst 0, 1) := by decide +kernel
theorem dX5_repeatBytes_39 : decode cX5_repeatBytes 39 = .ok (.istore 4, 2) := by decide +kernel
theorem dX5_repeatBytes_41 : decode cX5_repeatBytes 41 = .ok (.iload 4, 2) := by decide +kernel
theorem dX5_repeatBytes_43 : decode cX5_repeatBytes 43 = .ok (.iload_n 3, 1) := by decide +kernel
theorem dX5_repeatBytes_44 : decode cX5_repeatBytes 44 = .ok (.if_icmp .ge 32, 3) := by decide +kernel
theorem dX5_repeatBytes_47 : decode cX5_repeatBytes 47 = .ok (.aload_n 0, 1) := by decide +kernel
theorem dX5_repeatBytes_48 : decode cX5_repeatBytes 48 = .ok (.getfield 14, 3) := by decide +kernel
theorem dX5_repeatBytes_51 : decode cX5_repeatBytes 51 = .ok (.aload_n 0, 1) := by decide +kernel
theorem dX5_repeatBytes_52 : decode cX5_repeatBytes 52 = .ok (.getfield 14, 3) := by decide +kernel
theorem dX5_repeatBytes_55 : decode cX5_repeatBytes 55 = .ok (.aload_n 0, 1) := by decide +kernel
theorem dX5_repeatBytes_56 : decode cX5_repeatBytes 56 = .ok (.getfield 14, 3) := by decide +kernel
theorem dX5_repeatBytes_59 : decode cX5_repeatBytes 59 = .ok (.invokevirtual 47, 3) := by decide +kernel
theorem dX5_repeatBytes_62 : decode cX5_repeatBytes 62 = .ok (.iload_n 2, 1) := by decide +kernel
theorem dX5_repeatBytes_63 : decode cX5_repeatBytes 63 = .ok (.isub, 1) := by decide +kernel
theorem dX5_repeatBytes_64 : decode cX5_repeatBytes 64 = .ok (.invokevirtual 90, 3) := by decide +kernel
theorem dX5_repeatBytes_67 : decode cX5_repeatBytes 67 = .ok (.invokevirtual 122, 3) := by decide +kernel
theorem dX5_repeatBytes_70 : decode cX5_repeatBytes 70 = .ok (.iinc 4 1, 3) := by decide +kernel
theorem dX5_repeatBytes_73 : decode cX5_repeatBytes 73 = .ok (.goto (-32), 3) := by decide +kernel
theorem dX5_repeatBytes_76 : decode cX5_repeatBytes 76 = .ok (.iconst 1, 1) := by decide +kernel
theorem dX5_repeatBytes_77 : decode cX5_repeatBytes 77 = .ok (.ireturn, 1) := by decide +kernel
theorem dX5_readOutlines_0 : decode cX5_readOutlines 0 = .ok (.aload_n 0, 1) := by decide +kernel
theorem dX5_readOutlines_1 : decode cX5_readOutlines 1 = .ok (.getfield 23, 3) := by decide +kernel
theorem dX5_readOutlines_4 : decode cX5_readOutlines 4 = .ok (.iconst 0, 1) := by decide +kernel
theorem dX5_readOutlines_5 : decode cX5_readOutlines 5 = .ok (.invokevirtual 90, 3) := by decide +kernel
theorem dX5_readOutlines_8 : decode cX5_readOutlines 8 = .ok (.istore_n 2, 1) := by decide +kernel
theorem dX5_readOutlines_9 : decode cX5_readOutlines 9 = .ok (.new 45, 3) := by decide +kernel
theorem dX5_readOutlines_12 : decode cX5_readOutlines 12 = .ok (.dup, 1) := by decide +kernel
theorem dX5_readOutlines_13 : decode cX5_readOutlines 13 = .ok (.aload_n 0, 1) := by decide +kernel
theorem dX5_readOutlines_14 : decode cX5_readOutlines 14 = .ok (.getfield 14, 3) := by decide +kernel
theorem dX5_readOutlines_17 : decode cX5_readOutlines 17 = .ok (.iconst 0, 1) := by decide +kernel
theorem dX5_readOutlines_18 : decode cX5_readOutlines 18 = .ok (.iload_n 2, 1) := by decide +kernel
theorem dX5_readOutlines_19 : decode cX5_readOutlines 19 = .ok (.invokespecial 51, 3) := by decide +kernel
theorem dX5_readOutlines_22 : decode cX5_readOutlines 22 = .ok (.astore_n 3, 1) := by decide +kernel
theorem dX5_readOutlines_23 : decode cX5_readOutlines 23 = .ok (.aload_n 3, 1) := by decide +kernel
theorem dX5_readOutlines_24 : decode cX5_readOutlines 24 = .ok (.aload_n 1, 1) := by decide +kernel
theorem dX5_readOutlines_25 : decode cX5_readOutlines 25 = .ok (.invokestatic 136, 3) := by decide +kernel
theorem dX5_readOutlines_28 : decode cX5_readOutlines 28 = .ok (.ifCond .ne 5, 3) := by decide +kernel
theorem dX5_readOutlines_31 : decode cX5_readOutlines 31 = .ok (.iconst 0, 1) := by decide +kernel
theorem dX5_readOutlines_32 : decode cX5_readOutlines 32 = .ok (.ireturn, 1) := by decide +kernel
theorem dX5_readOutlines_33 : decode cX5_readOutlines 33 = .ok (.iconst 0, 1) := by decide +kernel
theorem dX5_readOutlines_34 : decode cX5_readOutlines 34 = .ok (.istore 4, 2) := by decide +kernel
theorem dX5_readOutlines_36 : decode cX5_readOutlines 36 = .ok (.iconst 0, 1) := by decide +kernel
theorem dX5_readOutlines_37 : decode cX5_readOutlines 37 = .ok (.istore 5, 2) := by decide +kernel
theorem dX5_readOutlines_39 : decode cX5_readOutlines 39 = .ok (.iload 5, 2) := by decide +kernel
theorem dX5_readOutlines_41 : decode cX5_readOutlines 41 = .ok (.aload_n 1, 1) := by decide +kernel
theorem dX5_readOutlines_42 : decode cX5_readOutlines 42 = .ok (.invokevirtual 140, 3) := by decide +kernel
theorem dX5_readOutlines_45 : decode cX5_readOutlines 45 = .ok (.if_icmp .ge 38, 3) := by decide +kernel
theorem dX5_readOutlines_48 : decode cX5_readOutlines 48 = .ok (.aload_n 3, 1) := by decide +kernel
theorem dX5_readOutlines_49 : decode cX5_readOutlines 49 = .ok (.aload_n 1, 1) := by decide +kernel
theorem dX5_readOutlines_50 : decode cX5_readOutlines 50 = .ok (.iload 5, 2) := by decide +kernel
theorem dX5_readOutlines_52 : decode cX5_readOutlines 52 = .ok (.invokevirtual 143, 3) := by decide +kernel
theorem dX5_readOutlines_55 : decode cX5_readOutlines 55 = .ok (.invokestatic 147, 3) := by decide +kernel
theorem dX5_readOutlines_58 : decode cX5_readOutlines 58 = .ok (.ifCond .ne 5, 3) := by decide +kernel
theorem dX5_readOutlines_61 : decode cX5_readOutlines 61 = .ok (.iconst 0, 1) := by decide +kernel
theorem dX5_readOutlines_62 : decode cX5_readOutlines 62 = .ok (.ireturn, 1) := by decide +kernel
theorem dX5_readOutlines_63 : decode cX5_readOutlines 63 = .ok (.iload 4, 2) := by decide +kernel
theorem dX5_readOutlines_65 : decode cX5_readOutlines 65 = .ok (.aload_n 1, 1) := by decide +kernel
theorem dX5_readOutlines_66 : decode cX5_readOutlines 66 = .ok (.iload 5, 2) := by decide +kernel
theorem dX5_readOutlines_68 : decode cX5_readOutlines 68 = .ok (.invokevirtual 143, 3) := by decide +kernel
theorem dX5_readOutlines_71 : decode cX5_readOutlines 71 = .ok (.invokevirtual 151, 3) := by decide +kernel
theorem dX5_readOutlines_74 : decode cX5_readOutlines 74 = .ok (.iadd, 1) := by decide +kernel
theorem dX5_readOutlines_75 : decode cX5_readOutlines 75 = .ok (.istore 4, 2) := by decide +kernel
theorem dX5_readOutlines_77 : decode cX5_readOutlines 77 = .ok (.iinc 5 1, 3) := by decide +kernel
theorem dX5_readOutlines_80 : decode cX5_readOutlines 80 = .ok (.goto (-41), 3) := by decide +kernel
theorem dX5_readOutlines_83 : decode cX5_readOutlines 83 = .ok (.aload_n 3, 1) := by decide +kernel
theorem dX5_readOutlines_84 : decode cX5_readOutlines 84 = .ok (.invokevirtual 60, 3) := by decide +kernel
theorem dX5_readOutlines_87 : decode cX5_readOutlines 87 = .ok (.iload 4, 2) := by decide +kernel
theorem dX5_readOutlines_89 : decode cX5_readOutlines 89 = .ok (.iadd, 1) := by decide +kernel
theorem dX5_readOutlines_90 : decode cX5_readOutlines 90 = .ok (.istore 5, 2) := by decide +kernel
theorem dX5_readOutlines_92 : decode cX5_readOutlines 92 = .ok (.iload 5, 2) := by decide +kernel
theorem dX5_readOutlines_94 : decode cX5_readOutlines 94 = .ok (.iload_n 2, 1) := by decide +kernel
theorem dX5_readOutlines_95 : decode cX5_readOutlines 95 = .ok (.if_icmp .le 5, 3) := by decide +kernel
theorem dX5_readOutlines_98 : decode cX5_readOutlines 98 = .ok (.iconst 0, 1) := by decide +kernel
theorem dX5_readOutlines_99 : decode cX5_readOutlines 99 = .ok (.ireturn, 1) := by decide +kernel
theorem dX5_readOutlines_100 : decode cX5_readOutlines 100 = .ok (.new 45, 3) := by decide +kernel
theorem dX5_readOutlines_103 : decode cX5_readOutlines 103 = .ok (.dup, 1) := by decide +kernel
theorem dX5_readOutlines_104 : decode cX5_readOutlines 104 = .ok (.aload_n 0, 1) := by decide +kernel
theorem dX5_readOutlines_105 : decode cX5_readOutlines 105 = .ok (.getfield 14, 3) := by decide +kernel
theorem dX5_readOutlines_108 : decode cX5_readOutlines 108 = .ok (.aload_n 3, 1) := by decide +kernel
theorem dX5_readOutlines_109 : decode cX5_readOutlines 109 = .ok (.invokevirtual 60, 3) := by decide +kernel
theorem dX5_readOutlines_112 : decode cX5_readOutlines 112 = .ok (.iload 5, 2) := by decide +kernel
theorem dX5_readOutlines_114 : decode cX5_readOutlines 114 = .ok (.invokespecial 51, 3) := by decide +kernel
theorem dX5_readOutlines_117 : decode cX5_readOutlines 117 = .ok (.astore 6, 2) := by decide +kernel
theorem dX5_readOutlines_119 : decode cX5_readOutlines 119 = .ok (.new 45, 3) := by decide +kernel
theorem dX5_readOutlines_122 : decode cX5_readOutlines 122 = .ok (.dup, 1) := by decide +kernel
theorem dX5_readOutlines_123 : decode cX5_readOutlines 123 = .ok (.aload_n 0, 1) := by decide +kernel
theorem dX5_readOutlines_124 : decode cX5_readOutlines 124 = .ok (.getfield 14, 3) := by decide +kernel
theorem dX5_readOutlines_127 : decode cX5_readOutlines 127 = .ok (.iload 5, 2) := by decide +kernel
theorem dX5_readOutlines_129 : decode cX5_readOutlines 129 = .ok (.iload_n 2, 1) := by decide +kernel
theorem dX5_readOutlines_130 : decode cX5_readOutlines 130 = .ok (.invokespecial 51, 3) := by decide +kernel
theorem dX5_readOutlines_133 : decode cX5_readOutlines 133 = .ok (.astore 7, 2) := by decide +kernel
theorem dX5_readOutlines_135 : decode cX5_readOutlines 135 = .ok (.iconst 0, 1) := by decide +kernel
theorem dX5_readOutlines_136 : decode cX5_readOutlines 136 = .ok (.istore 8, 2) := by decide +kernel
theorem dX5_readOutlines_138 : decode cX5_readOutlines 138 = .ok (.iload 8, 2) := by decide +kernel
theorem dX5_readOutlines_140 : decode cX5_readOutlines 140 = .ok (.aload_n 1, 1) := by decide +kernel
theorem dX5_readOutlines_141 : decode cX5_readOutlines 141 = .ok (.invokevirtual 140, 3) := by decide +kernel
theorem dX5_readOutlines_144 : decode cX5_readOutlines 144 = .ok (.if_icmp .ge 28, 3) := by decide +kernel
theorem dX5_readOutlines_147 : decode cX5_readOutlines 147 = .ok (.aload_n 0, 1) := by decide +kernel
theorem dX5_readOutlines_148 : decode cX5_readOutlines 148 = .ok (.aload_n 1, 1) := by decide +kernel
theorem dX5_readOutlines_149 : decode cX5_readOutlines 149 = .ok (.iload 8, 2) := by decide +kernel
theorem dX5_readOutlines_151 : decode cX5_readOutlines 151 = .ok (.invokevirtual 143, 3) := by decide +kernel
theorem dX5_readOutlines_154 : decode cX5_readOutlines 154 = .ok (.aload 6, 2) := by decide +kernel
theorem dX5_readOutlines_156 : decode cX5_readOutlines 156 = .ok (.aload 7, 2) := by decide +kernel
theorem dX5_readOutlines_158 : decode cX5_readOutlines 158 = .ok (.invokevirtual 156, 3) := by decide +kernel
theorem dX5_readOutlines_161 : decode cX5_readOutlines 161 = .ok (.ifCond .ne 5, 3) := by decide +kernel
theorem dX5_readOutlines_164 : decode cX5_readOutlines 164 = .ok (.iconst 0, 1) := by decide +kernel
theorem dX5_readOutlines_165 : decode cX5_readOutlines 165 = .ok (.ireturn, 1) := by decide +kernel
theorem dX5_readOutlines_166 : decode cX5_readOutlines 166 = .ok (.iinc 8 1, 3) := by decide +kernel
theorem dX5_readOutlines_169 : decode cX5_readOutlines 169 = .ok (.goto (-31), 3) := by decide +kernel
theorem dX5_readOutlines_172 : decode cX5_readOutlines 172 = .ok (.aload 7, 2) := by decide +kernel
theorem dX5_readOutlines_174 : decode cX5_readOutlines 174 = .ok (.invokevirtual 160, 3) := by decide +kernel
theorem dX5_readOutlines_177 : decode cX5_readOutlines 177 = .ok (.ireturn, 1) := by decide +kernel
theorem dX5_readContours_0 : decode cX5_readContours 0 = .ok (.aload_n 0, 1) := by decide +kernel
theorem dX5_readContours_1 : decode cX5_readContours 1 = .ok (.invokevirtual 94, 3) := by decide +kernel
theorem dX5_readContours_4 : decode cX5_readContours 4 = .ok (.istore_n 2, 1) := by decide +kernel
theorem dX5_readContours_5 : decode cX5_readContours 5 = .ok (.iload_n 2, 1) := by decide +kernel
theorem dX5_readContours_6 : decode cX5_readContours 6 = .ok (.iconst 1, 1) := by decide +kernel
theorem dX5_readContours_7 : decode cX5_readContours 7 = .ok (.if_icmp .lt 9, 3) := by decide +kernel
theorem dX5_readContours_10 : decode cX5_readContours 10 = .ok (.iload_n 2, 1) := by decide +kernel
theorem dX5_readContours_11 : decode cX5_readContours 11 = .ok (.bipush 6, 2) := by decide +kernel
theorem dX5_readContours_13 : decode cX5_readContours 13 = .ok (.if_icmp .le 5, 3) := by decide +kernel
theorem dX5_readContours_16 : decode cX5_readContours 16 = .ok (.iconst 0, 1) := by decide +kernel
theorem dX5_readContours_17 : decode cX5_readContours 17 = .ok (.ireturn, 1) := by decide +kernel
theorem dX5_readContours_18 : decode cX5_readContours 18 = .ok (.iconst 0, 1) := by decide +kernel
theorem dX5_readContours_19 : decode cX5_readContours 19 = .ok (.istore_n 3, 1) := by decide +kernel
theorem dX5_readContours_20 : decode cX5_readContours 20 = .ok (.iload_n 3, 1) := by decide +kernel
theorem dX5_readContours_21 : decode cX5_readContours 21 = .ok (.iload_n 2, 1) := by decide +kernel
theorem dX5_readContours_22 : decode cX5_readContours 22 = .ok (.if_icmp .ge 63, 3) := by decide +kernel
theorem dX5_readContours_25 : decode cX5_readContours 25 = .ok (.aload_n 0, 1) := by decide +kernel
theorem dX5_readContours_26 : decode cX5_readContours 26 = .ok (.invokevirtual 94, 3) := by decide +kernel
theorem dX5_readContours_29 : decode cX5_readContours 29 = .ok (.istore 4, 2) := by decide +kernel
theorem dX5_readContours_31 : decode cX5_readContours 31 = .ok (.aload_n 0, 1) := by decide +kernel
theorem dX5_readContours_32 : decode cX5_readContours 32 = .ok (.invokevirtual 104, 3) := by decide +kernel
theorem dX5_readContours_35 : decode cX5_readContours 35 = .ok (.ifCond .ne 9, 3) := by decide +kernel
theorem dX5_readContours_38 : decode cX5_readContours 38 = .ok (.iload 4, 2) := by decide +kernel
theorem dX5_readContours_40 : decode cX5_readContours 40 = .ok (.iconst 4, 1) := by decide +kernel
theorem dX5_readContours_41 : decode cX5_readContours 41 = .ok (.if_icmp .le 5, 3) := by decide +kernel
theorem dX5_readContours_44 : decode cX5_readContours 44 = .ok (.iconst 0, 1) := by decide +kernel
theorem dX5_readContours_45 : decode cX5_readContours 45 = .ok (.ireturn, 1) := by decide +kernel
theorem dX5_readContours_46 : decode cX5_readContours 46 = .ok (.aload_n 1, 1) := by decide +kernel
theorem dX5_readContours_47 : decode cX5_readContours 47 = .ok (.aload_n 1, 1) := by decide +kernel
theorem dX5_readContours_48 : decode cX5_readContours 48 = .ok (.iconst 0, 1) := by decide +kernel
theorem dX5_readContours_49 : decode cX5_readContours 49 = .ok (.invokevirtual 163, 3) := by decide +kernel
theorem dX5_readContours_52 : decode cX5_readContours 52 = .ok (.invokevirtual 143, 3) := by decide +kernel
theorem dX5_readContours_55 : decode cX5_readContours 55 = .ok (.astore 5, 2) := by decide +kernel
theorem dX5_readContours_57 : decode cX5_readContours 57 = .ok (.iconst 0, 1) := by decide +kernel
theorem dX5_readContours_58 : decode cX5_readContours 58 = .ok (.istore 6, 2) := by decide +kernel
theorem dX5_readContours_60 : decode cX5_readContours 60 = .ok (.iload 6, 2) := by decide +kernel
theorem dX5_readContours_62 : decode cX5_readContours 62 = .ok (.iload 4, 2) := by decide +kernel
theorem dX5_readContours_64 : decode cX5_readContours 64 = .ok (.if_icmp .ge 15, 3) := by decide +kernel
theorem dX5_readContours_67 : decode cX5_readContours 67 = .ok (.aload 5, 2) := by decide +kernel
theorem dX5_readContours_69 : decode cX5_readContours 69 = .ok (.invokevirtual 166, 3) := by decide +kernel
theorem dX5_readContours_72 : decode cX5_readContours 72 = .ok (.pop, 1) := by decide +kernel
theorem dX5_readContours_73 : decode cX5_readContours 73 = .ok (.iinc 6 1, 3) := by decide +kernel
theorem dX5_readContours_76 : decode cX5_readContours 76 = .ok (.goto (-16), 3) := by decide +kernel
theorem dX5_readContours_79 : decode cX5_readContours 79 = .ok (.iinc 3 1, 3) := by decide +kernel
theorem dX5_readContours_82 : decode cX5_readContours 82 = .ok (.goto (-62), 3) := by decide +kernel
theorem dX5_readContours_85 : decode cX5_readContours 85 = .ok (.iconst 1, 1) := by decide +kernel
theorem dX5_readContours_86 : decode cX5_readContours 86 = .ok (.ireturn, 1) := by decide +kernel
theorem dX5_readSizes_0 : decode cX5_readSizes 0 = .ok (.iconst 0, 1) := by decide +kernel
theorem dX5_readSizes_1 : decode cX5_readSizes 1 = .ok (.istore_n 2, 1) := by decide +kernel
theorem dX5_readSizes_2 : decode cX5_readSizes 2 = .ok (.iload_n 2, 1) := by decide +kernel
theorem dX5_readSizes_3 : decode cX5_readSizes 3 = .ok (.aload_n 1, 1) := by decide +kernel
theorem dX5_readSizes_4 : decode cX5_readSizes 4 = .ok (.invokevirtual 169, 3) := by decide +kernel
theorem dX5_readSizes_7 : decode cX5_readSizes 7 = .ok (.if_icmp .ge 45, 3) := by decide +kernel
theorem dX5_readSizes_10 : decode cX5_readSizes 10 = .ok (.aload_n 0, 1) := by decide +kernel
theorem dX5_readSizes_11 : decode cX5_readSizes 11 = .ok (.invokevirtual 172, 3) := by decide +kernel
theorem dX5_readSizes_14 : decode cX5_readSizes 14 = .ok (.istore_n 3, 1) := by decide +kernel
theorem dX5_readSizes_15 : decode cX5_readSizes 15 = .ok (.aload_n 0, 1) := by decide +kernel
theorem dX5_readSizes_16 : decode cX5_readSizes 16 = .ok (.invokevirtual 104, 3) := by decide +kernel
theorem dX5_readSizes_19 : decode cX5_readSizes 19 = .ok (.ifCond .ne 19, 3) := by decide +kernel
theorem dX5_readSizes_22 : decode cX5_readSizes 22 = .ok (.iload_n 3, 1) := by decide +kernel
theorem dX5_readSizes_23 : decode cX5_readSizes 23 = .ok (.iconst 1, 1) := by decide +kernel
end
section
theorem dX5_readSizes_24 : decode cX5_readSizes 24 = .ok (.if_icmp .lt 14, 3) := by decide +kernel
theorem dX5_readSizes_27 : decode cX5_readSizes 27 = .ok (.iload_n 3, 1) := by decide +kernel
theorem dX5_readSizes_28 : decode cX5_readSizes 28 = .ok (.bipush 16, 2) := by decide +kernel
theorem dX5_readSizes_30 : decode cX5_readSizes 30 = .ok (.aload_n 1, 1) := by decide +kernel
theorem dX5_readSizes_31 : decode cX5_readSizes 31 = .ok (.invokevirtual 151, 3) := by decide +kernel
theorem dX5_readSizes_34 : decode cX5_readSizes 34 = .ok (.isub, 1) := by decide +kernel
theorem dX5_readSizes_35 : decode cX5_readSizes 35 = .ok (.if_icmp .le 5, 3) := by decide +kernel
theorem dX5_readSizes_38 : decode cX5_readSizes 38 = .ok (.iconst 0, 1) := by decide +kernel
theorem dX5_readSizes_39 : decode cX5_readSizes 39 = .ok (.ireturn, 1) := by decide +kernel
theorem dX5_readSizes_40 : decode cX5_readSizes 40 = .ok (.aload_n 1, 1) := by decide +kernel
theorem dX5_readSizes_41 : decode cX5_readSizes 41 = .ok (.iload_n 2, 1) := by decide +kernel
theorem dX5_readSizes_42 : decode cX5_readSizes 42 = .ok (.iload_n 3, 1) := by decide +kernel
theorem dX5_readSizes_43 : decode cX5_readSizes 43 = .ok (.invokevirtual 175, 3) := by decide +kernel
theorem dX5_readSizes_46 : decode cX5_readSizes 46 = .ok (.iinc 2 1, 3) := by decide +kernel
theorem dX5_readSizes_49 : decode cX5_readSizes 49 = .ok (.goto (-47), 3) := by decide +kernel
theorem dX5_readSizes_52 : decode cX5_readSizes 52 = .ok (.iconst 1, 1) := by decide +kernel
theorem dX5_readSizes_53 : decode cX5_readSizes 53 = .ok (.ireturn, 1) := by decide +kernel
theorem dX5_readPoints_0 : decode cX5_readPoints 0 = .ok (.iconst 0, 1) := by decide +kernel
theorem dX5_readPoints_1 : decode cX5_readPoints 1 = .ok (.istore 4, 2) := by decide +kernel
theorem dX5_readPoints_3 : decode cX5_readPoints 3 = .ok (.iconst 0, 1) := by decide +kernel
theorem dX5_readPoints_4 : decode cX5_readPoints 4 = .ok (.istore 5, 2) := by decide +kernel
theorem dX5_readPoints_6 : decode cX5_readPoints 6 = .ok (.aload_n 1, 1) := by decide +kernel
theorem dX5_readPoints_7 : decode cX5_readPoints 7 = .ok (.invokevirtual 151, 3) := by decide +kernel
theorem dX5_readPoints_10 : decode cX5_readPoints 10 = .ok (.istore 6, 2) := by decide +kernel
theorem dX5_readPoints_12 : decode cX5_readPoints 12 = .ok (.iconst 0, 1) := by decide +kernel
theorem dX5_readPoints_13 : decode cX5_readPoints 13 = .ok (.istore 7, 2) := by decide +kernel
theorem dX5_readPoints_15 : decode cX5_readPoints 15 = .ok (.iload 7, 2) := by decide +kernel
theorem dX5_readPoints_17 : decode cX5_readPoints 17 = .ok (.iload 6, 2) := by decide +kernel
theorem dX5_readPoints_19 : decode cX5_readPoints 19 = .ok (.if_icmp .ge 91, 3) := by decide +kernel
theorem dX5_readPoints_22 : decode cX5_readPoints 22 = .ok (.aload_n 2, 1) := by decide +kernel
theorem dX5_readPoints_23 : decode cX5_readPoints 23 = .ok (.invokevirtual 94, 3) := by decide +kernel
theorem dX5_readPoints_26 : decode cX5_readPoints 26 = .ok (.istore 8, 2) := by decide +kernel
theorem dX5_readPoints_28 : decode cX5_readPoints 28 = .ok (.aload_n 0, 1) := by decide +kernel
theorem dX5_readPoints_29 : decode cX5_readPoints 29 = .ok (.iload 8, 2) := by decide +kernel
theorem dX5_readPoints_31 : decode cX5_readPoints 31 = .ok (.sipush 128, 3) := by decide +kernel
theorem dX5_readPoints_34 : decode cX5_readPoints 34 = .ok (.irem, 1) := by decide +kernel
theorem dX5_readPoints_35 : decode cX5_readPoints 35 = .ok (.aload_n 3, 1) := by decide +kernel
theorem dX5_readPoints_36 : decode cX5_readPoints 36 = .ok (.invokevirtual 178, 3) := by decide +kernel
theorem dX5_readPoints_39 : decode cX5_readPoints 39 = .ok (.iload 4, 2) := by decide +kernel
theorem dX5_readPoints_41 : decode cX5_readPoints 41 = .ok (.aload_n 0, 1) := by decide +kernel
theorem dX5_readPoints_42 : decode cX5_readPoints 42 = .ok (.getfield 34, 3) := by decide +kernel
theorem dX5_readPoints_45 : decode cX5_readPoints 45 = .ok (.iadd, 1) := by decide +kernel
theorem dX5_readPoints_46 : decode cX5_readPoints 46 = .ok (.istore 4, 2) := by decide +kernel
theorem dX5_readPoints_48 : decode cX5_readPoints 48 = .ok (.iload 5, 2) := by decide +kernel
theorem dX5_readPoints_50 : decode cX5_readPoints 50 = .ok (.aload_n 0, 1) := by decide +kernel
theorem dX5_readPoints_51 : decode cX5_readPoints 51 = .ok (.getfield 37, 3) := by decide +kernel
theorem dX5_readPoints_54 : decode cX5_readPoints 54 = .ok (.iadd, 1) := by decide +kernel
theorem dX5_readPoints_55 : decode cX5_readPoints 55 = .ok (.istore 5, 2) := by decide +kernel
theorem dX5_readPoints_57 : decode cX5_readPoints 57 = .ok (.aload_n 3, 1) := by decide +kernel
theorem dX5_readPoints_58 : decode cX5_readPoints 58 = .ok (.invokevirtual 104, 3) := by decide +kernel
theorem dX5_readPoints_61 : decode cX5_readPoints 61 = .ok (.ifCond .ne 19, 3) := by decide +kernel
theorem dX5_readPoints_64 : decode cX5_readPoints 64 = .ok (.iload 4, 2) := by decide +kernel
theorem dX5_readPoints_66 : decode cX5_readPoints 66 = .ok (.invokestatic 182, 3) := by decide +kernel
theorem dX5_readPoints_69 : decode cX5_readPoints 69 = .ok (.ifCond .ne 11, 3) := by decide +kernel
theorem dX5_readPoints_72 : decode cX5_readPoints 72 = .ok (.iload 5, 2) := by decide +kernel
theorem dX5_readPoints_74 : decode cX5_readPoints 74 = .ok (.invokestatic 182, 3) := by decide +kernel
theorem dX5_readPoints_77 : decode cX5_readPoints 77 = .ok (.ifCond .eq 5, 3) := by decide +kernel
theorem dX5_readPoints_80 : decode cX5_readPoints 80 = .ok (.iconst 0, 1) := by decide +kernel
theorem dX5_readPoints_81 : decode cX5_readPoints 81 = .ok (.ireturn, 1) := by decide +kernel
theorem dX5_readPoints_82 : decode cX5_readPoints 82 = .ok (.aload_n 1, 1) := by decide +kernel
theorem dX5_readPoints_83 : decode cX5_readPoints 83 = .ok (.iload 4, 2) := by decide +kernel
theorem dX5_readPoints_85 : decode cX5_readPoints 85 = .ok (.iload 5, 2) := by decide +kernel
theorem dX5_readPoints_87 : decode cX5_readPoints 87 = .ok (.iload 8, 2) := by decide +kernel
theorem dX5_readPoints_89 : decode cX5_readPoints 89 = .ok (.sipush 128, 3) := by decide +kernel
theorem dX5_readPoints_92 : decode cX5_readPoints 92 = .ok (.if_icmp .ge 7, 3) := by decide +kernel
theorem dX5_readPoints_95 : decode cX5_readPoints 95 = .ok (.iconst 1, 1) := by decide +kernel
theorem dX5_readPoints_96 : decode cX5_readPoints 96 = .ok (.goto 4, 3) := by decide +kernel
theorem dX5_readPoints_99 : decode cX5_readPoints 99 = .ok (.iconst 0, 1) := by decide +kernel
theorem dX5_readPoints_100 : decode cX5_readPoints 100 = .ok (.invokevirtual 186, 3) := by decide +kernel
theorem dX5_readPoints_103 : decode cX5_readPoints 103 = .ok (.pop, 1) := by decide +kernel
theorem dX5_readPoints_104 : decode cX5_readPoints 104 = .ok (.iinc 7 1, 3) := by decide +kernel
theorem dX5_readPoints_107 : decode cX5_readPoints 107 = .ok (.goto (-92), 3) := by decide +kernel
theorem dX5_readPoints_110 : decode cX5_readPoints 110 = .ok (.iconst 1, 1) := by decide +kernel
theorem dX5_readPoints_111 : decode cX5_readPoints 111 = .ok (.ireturn, 1) := by decide +kernel
theorem dX5_readStep_0 : decode cX5_readStep 0 = .ok (.iload_n 1, 1) := by decide +kernel
theorem dX5_readStep_1 : decode cX5_readStep 1 = .ok (.bipush 10, 2) := by decide +kernel
theorem dX5_readStep_3 : decode cX5_readStep 3 = .ok (.if_icmp .ge 33, 3) := by decide +kernel
theorem dX5_readStep_6 : decode cX5_readStep 6 = .ok (.aload_n 0, 1) := by decide +kernel
theorem dX5_readStep_7 : decode cX5_readStep 7 = .ok (.iconst 0, 1) := by decide +kernel
theorem dX5_readStep_8 : decode cX5_readStep 8 = .ok (.putfield 34, 3) := by decide +kernel
theorem dX5_readStep_11 : decode cX5_readStep 11 = .ok (.aload_n 0, 1) := by decide +kernel
theorem dX5_readStep_12 : decode cX5_readStep 12 = .ok (.iload_n 1, 1) := by decide +kernel
theorem dX5_readStep_13 : decode cX5_readStep 13 = .ok (.iconst 2, 1) := by decide +kernel
theorem dX5_readStep_14 : decode cX5_readStep 14 = .ok (.idiv, 1) := by decide +kernel
theorem dX5_readStep_15 : decode cX5_readStep 15 = .ok (.sipush 256, 3) := by decide +kernel
theorem dX5_readStep_18 : decode cX5_readStep 18 = .ok (.imul, 1) := by decide +kernel
theorem dX5_readStep_19 : decode cX5_readStep 19 = .ok (.aload_n 2, 1) := by decide +kernel
theorem dX5_readStep_20 : decode cX5_readStep 20 = .ok (.invokevirtual 94, 3) := by decide +kernel
theorem dX5_readStep_23 : decode cX5_readStep 23 = .ok (.iadd, 1) := by decide +kernel
theorem dX5_readStep_24 : decode cX5_readStep 24 = .ok (.iload_n 1, 1) := by decide +kernel
theorem dX5_readStep_25 : decode cX5_readStep 25 = .ok (.iconst 2, 1) := by decide +kernel
theorem dX5_readStep_26 : decode cX5_readStep 26 = .ok (.irem, 1) := by decide +kernel
theorem dX5_readStep_27 : decode cX5_readStep 27 = .ok (.invokestatic 190, 3) := by decide +kernel
theorem dX5_readStep_30 : decode cX5_readStep 30 = .ok (.putfield 37, 3) := by decide +kernel
theorem dX5_readStep_33 : decode cX5_readStep 33 = .ok (.goto 238, 3) := by decide +kernel
theorem dX5_readStep_36 : decode cX5_readStep 36 = .ok (.iload_n 1, 1) := by decide +kernel
theorem dX5_readStep_37 : decode cX5_readStep 37 = .ok (.bipush 20, 2) := by decide +kernel
theorem dX5_readStep_39 : decode cX5_readStep 39 = .ok (.if_icmp .ge 36, 3) := by decide +kernel
theorem dX5_readStep_42 : decode cX5_readStep 42 = .ok (.aload_n 0, 1) := by decide +kernel
theorem dX5_readStep_43 : decode cX5_readStep 43 = .ok (.iload_n 1, 1) := by decide +kernel
theorem dX5_readStep_44 : decode cX5_readStep 44 = .ok (.bipush 10, 2) := by decide +kernel
theorem dX5_readStep_46 : decode cX5_readStep 46 = .ok (.isub, 1) := by decide +kernel
theorem dX5_readStep_47 : decode cX5_readStep 47 = .ok (.iconst 2, 1) := by decide +kernel
theorem dX5_readStep_48 : decode cX5_readStep 48 = .ok (.idiv, 1) := by decide +kernel
theorem dX5_readStep_49 : decode cX5_readStep 49 = .ok (.sipush 256, 3) := by decide +kernel
theorem dX5_readStep_52 : decode cX5_readStep 52 = .ok (.imul, 1) := by decide +kernel
theorem dX5_readStep_53 : decode cX5_readStep 53 = .ok (.aload_n 2, 1) := by decide +kernel
theorem dX5_readStep_54 : decode cX5_readStep 54 = .ok (.invokevirtual 94, 3) := by decide +kernel
theorem dX5_readStep_57 : decode cX5_readStep 57 = .ok (.iadd, 1) := by decide +kernel
theorem dX5_readStep_58 : decode cX5_readStep 58 = .ok (.iload_n 1, 1) := by decide +kernel
theorem dX5_readStep_59 : decode cX5_readStep 59 = .ok (.iconst 2, 1) := by decide +kernel
theorem dX5_readStep_60 : decode cX5_readStep 60 = .ok (.irem, 1) := by decide +kernel
theorem dX5_readStep_61 : decode cX5_readStep 61 = .ok (.invokestatic 190, 3) := by decide +kernel
theorem dX5_readStep_64 : decode cX5_readStep 64 = .ok (.putfield 34, 3) := by decide +kernel
theorem dX5_readStep_67 : decode cX5_readStep 67 = .ok (.aload_n 0, 1) := by decide +kernel
theorem dX5_readStep_68 : decode cX5_readStep 68 = .ok (.iconst 0, 1) := by decide +kernel
theorem dX5_readStep_69 : decode cX5_readStep 69 = .ok (.putfield 37, 3) := by decide +kernel
theorem dX5_readStep_72 : decode cX5_readStep 72 = .ok (.goto 199, 3) := by decide +kernel
theorem dX5_readStep_75 : decode cX5_readStep 75 = .ok (.iload_n 1, 1) := by decide +kernel
theorem dX5_readStep_76 : decode cX5_readStep 76 = .ok (.bipush 84, 2) := by decide +kernel
theorem dX5_readStep_78 : decode cX5_readStep 78 = .ok (.if_icmp .ge 51, 3) := by decide +kernel
theorem dX5_readStep_81 : decode cX5_readStep 81 = .ok (.aload_n 2, 1) := by decide +kernel
theorem dX5_readStep_82 : decode cX5_readStep 82 = .ok (.invokevirtual 94, 3) := by decide +kernel
theorem dX5_readStep_85 : decode cX5_readStep 85 = .ok (.istore_n 3, 1) := by decide +kernel
theorem dX5_readStep_86 : decode cX5_readStep 86 = .ok (.aload_n 0, 1) := by decide +kernel
theorem dX5_readStep_87 : decode cX5_readStep 87 = .ok (.iconst 1, 1) := by decide +kernel
theorem dX5_readStep_88 : decode cX5_readStep 88 = .ok (.iload_n 1, 1) := by decide +kernel
theorem dX5_readStep_89 : decode cX5_readStep 89 = .ok (.bipush 20, 2) := by decide +kernel
theorem dX5_readStep_91 : decode cX5_readStep 91 = .ok (.isub, 1) := by decide +kernel
theorem dX5_readStep_92 : decode cX5_readStep 92 = .ok (.bipush 16, 2) := by decide +kernel
theorem dX5_readStep_94 : decode cX5_readStep 94 = .ok (.idiv, 1) := by decide +kernel
theorem dX5_readStep_95 : decode cX5_readStep 95 = .ok (.bipush 16, 2) := by decide +kernel
theorem dX5_readStep_97 : decode cX5_readStep 97 = .ok (.imul, 1) := by decide +kernel
theorem dX5_readStep_98 : decode cX5_readStep 98 = .ok (.iadd, 1) := by decide +kernel
theorem dX5_readStep_99 : decode cX5_readStep 99 = .ok (.iload_n 3, 1) := by decide +kernel
theorem dX5_readStep_100 : decode cX5_readStep 100 = .ok (.bipush 16, 2) := by decide +kernel
theorem dX5_readStep_102 : decode cX5_readStep 102 = .ok (.idiv, 1) := by decide +kernel
theorem dX5_readStep_103 : decode cX5_readStep 103 = .ok (.iadd, 1) := by decide +kernel
theorem dX5_readStep_104 : decode cX5_readStep 104 = .ok (.iconst 1, 1) := by decide +kernel
theorem dX5_readStep_105 : decode cX5_readStep 105 = .ok (.iload_n 1, 1) := by decide +kernel
theorem dX5_readStep_106 : decode cX5_readStep 106 = .ok (.bipush 20, 2) := by decide +kernel
theorem dX5_readStep_108 : decode cX5_readStep 108 = .ok (.isub, 1) := by decide +kernel
theorem dX5_readStep_109 : decode cX5_readStep 109 = .ok (.iconst 4, 1) := by decide +kernel
theorem dX5_readStep_110 : decode cX5_readStep 110 = .ok (.idiv, 1) := by decide +kernel
theorem dX5_readStep_111 : decode cX5_readStep 111 = .ok (.iconst 4, 1) := by decide +kernel
theorem dX5_readStep_112 : decode cX5_readStep 112 = .ok (.irem, 1) := by decide +kernel
theorem dX5_readStep_113 : decode cX5_readStep 113 = .ok (.bipush 16, 2) := by decide +kernel
theorem dX5_readStep_115 : decode cX5_readStep 115 = .ok (.imul, 1) := by decide +kernel
theorem dX5_readStep_116 : decode cX5_readStep 116 = .ok (.iadd, 1) := by decide +kernel
theorem dX5_readStep_117 : decode cX5_readStep 117 = .ok (.iload_n 3, 1) := by decide +kernel
theorem dX5_readStep_118 : decode cX5_readStep 118 = .ok (.bipush 16, 2) := by decide +kernel
theorem dX5_readStep_120 : decode cX5_readStep 120 = .ok (.irem, 1) := by decide +kernel
theorem dX5_readStep_121 : decode cX5_readStep 121 = .ok (.iadd, 1) := by decide +kernel
theorem dX5_readStep_122 : decode cX5_readStep 122 = .ok (.iload_n 1, 1) := by decide +kernel
theorem dX5_readStep_123 : decode cX5_readStep 123 = .ok (.invokevirtual 194, 3) := by decide +kernel
theorem dX5_readStep_126 : decode cX5_readStep 126 = .ok (.goto 145, 3) := by decide +kernel
theorem dX5_readStep_129 : decode cX5_readStep 129 = .ok (.iload_n 1, 1) := by decide +kernel
theorem dX5_readStep_130 : decode cX5_readStep 130 = .ok (.bipush 120, 2) := by decide +kernel
theorem dX5_readStep_132 : decode cX5_readStep 132 = .ok (.if_icmp .ge 51, 3) := by decide +kernel
theorem dX5_readStep_135 : decode cX5_readStep 135 = .ok (.iconst 1, 1) := by decide +kernel
theorem dX5_readStep_136 : decode cX5_readStep 136 = .ok (.iload_n 1, 1) := by decide +kernel
theorem dX5_readStep_137 : decode cX5_readStep 137 = .ok (.bipush 84, 2) := by decide +kernel
theorem dX5_readStep_139 : decode cX5_readStep 139 = .ok (.isub, 1) := by decide +kernel
theorem dX5_readStep_140 : decode cX5_readStep 140 = .ok (.bipush 12, 2) := by decide +kernel
theorem dX5_readStep_142 : decode cX5_readStep 142 = .ok (.idiv, 1) := by decide +kernel
theorem dX5_readStep_143 : decode cX5_readStep 143 = .ok (.sipush 256, 3) := by decide +kernel
theorem dX5_readStep_146 : decode cX5_readStep 146 = .ok (.imul, 1) := by decide +kernel
theorem dX5_readStep_147 : decode cX5_readStep 147 = .ok (.iadd, 1) := by decide +kernel
theorem dX5_readStep_148 : decode cX5_readStep 148 = .ok (.aload_n 2, 1) := by decide +kernel
theorem dX5_readStep_149 : decode cX5_readStep 149 = .ok (.invokevirtual 94, 3) := by decide +kernel
theorem dX5_readStep_152 : decode cX5_readStep 152 = .ok (.iadd, 1) := by decide +kernel
theorem dX5_readStep_153 : decode cX5_readStep 153 = .ok (.istore_n 3, 1) := by decide +kernel
theorem dX5_readStep_154 : decode cX5_readStep 154 = .ok (.aload_n 0, 1) := by decide +kernel
theorem dX5_readStep_155 : decode cX5_readStep 155 = .ok (.iload_n 3, 1) := by decide +kernel
theorem dX5_readStep_156 : decode cX5_readStep 156 = .ok (.iconst 1, 1) := by decide +kernel
theorem dX5_readStep_157 : decode cX5_readStep 157 = .ok (.iload_n 1, 1) := by decide +kernel
theorem dX5_readStep_158 : decode cX5_readStep 158 = .ok (.bipush 84, 2) := by decide +kernel
theorem dX5_readStep_160 : decode cX5_readStep 160 = .ok (.isub, 1) := by decide +kernel
theorem dX5_readStep_161 : decode cX5_readStep 161 = .ok (.bipush 12, 2) := by decide +kernel
theorem dX5_readStep_163 : decode cX5_readStep 163 = .ok (.irem, 1) := by decide +kernel
theorem dX5_readStep_164 : decode cX5_readStep 164 = .ok (.iconst 4, 1) := by decide +kernel
theorem dX5_readStep_165 : decode cX5_readStep 165 = .ok (.idiv, 1) := by decide +kernel
theorem dX5_readStep_166 : decode cX5_readStep 166 = .ok (.sipush 256, 3) := by decide +kernel
theorem dX5_readStep_169 : decode cX5_readStep 169 = .ok (.imul, 1) := by decide +kernel
theorem dX5_readStep_170 : decode cX5_readStep 170 = .ok (.iadd, 1) := by decide +kernel
theorem dX5_readStep_171 : decode cX5_readStep 171 = .ok (.aload_n 2, 1) := by decide +kernel
theorem dX5_readStep_172 : decode cX5_readStep 172 = .ok (.invokevirtual 94, 3) := by decide +kernel
theorem dX5_readStep_175 : decode cX5_readStep 175 = .ok (.iadd, 1) := by decide +kernel
theorem dX5_readStep_176 : decode cX5_readStep 176 = .ok (.iload_n 1, 1) := by decide +kernel
theorem dX5_readStep_177 : decode cX5_readStep 177 = .ok (.invokevirtual 194, 3) := by decide +kernel
theorem dX5_readStep_180 : decode cX5_readStep 180 = .ok (.goto 91, 3) := by decide +kernel
theorem dX5_readStep_183 : decode cX5_readStep 183 = .ok (.iload_n 1, 1) := by decide +kernel
theorem dX5_readStep_184 : decode cX5_readStep 184 = .ok (.bipush 124, 2) := by decide +kernel
theorem dX5_readStep_186 : decode cX5_readStep 186 = .ok (.if_icmp .ge 46, 3) := by decide +kernel
theorem dX5_readStep_189 : decode cX5_readStep 189 = .ok (.aload_n 2, 1) := by decide +kernel
theorem dX5_readStep_190 : decode cX5_readStep 190 = .ok (.invokevirtual 94, 3) := by decide +kernel
theorem dX5_readStep_193 : decode cX5_readStep 193 = .ok (.istore_n 3, 1) := by decide +kernel
theorem dX5_readStep_194 : decode cX5_readStep 194 = .ok (.aload_n 2, 1) := by decide +kernel
theorem dX5_readStep_195 : decode cX5_readStep 195 = .ok (.invokevirtual 94, 3) := by decide +kernel
theorem dX5_readStep_198 : decode cX5_readStep 198 = .ok (.istore 4, 2) := by decide +kernel
theorem dX5_readStep_200 : decode cX5_readStep 200 = .ok (.aload_n 0, 1) := by decide +kernel
theorem dX5_readStep_201 : decode cX5_readStep 201 = .ok (.iload_n 3, 1) := by decide +kernel
theorem dX5_readStep_202 : decode cX5_readStep 202 = .ok (.bipush 16, 2) := by decide +kernel
theorem dX5_readStep_204 : decode cX5_readStep 204 = .ok (.imul, 1) := by decide +kernel
theorem dX5_readStep_205 : decode cX5_readStep 205 = .ok (.iload 4, 2) := by decide +kernel
theorem dX5_readStep_207 : decode cX5_readStep 207 = .ok (.bipush 16, 2) := by decide +kernel
theorem dX5_readStep_209 : decode cX5_readStep 209 = .ok (.idiv, 1) := by decide +kernel
theorem dX5_readStep_210 : decode cX5_readStep 210 = .ok (.iadd, 1) := by decide +kernel
theorem dX5_readStep_211 : decode cX5_readStep 211 = .ok (.iload 4, 2) := by decide +kernel
theorem dX5_readStep_213 : decode cX5_readStep 213 = .ok (.bipush 16, 2) := by decide +kernel
theorem dX5_readStep_215 : decode cX5_readStep 215 = .ok (.irem, 1) := by decide +kernel
theorem dX5_readStep_216 : decode cX5_readStep 216 = .ok (.sipush 256, 3) := by decide +kernel
theorem dX5_readStep_219 : decode cX5_readStep 219 = .ok (.imul, 1) := by decide +kernel
theorem dX5_readStep_220 : decode cX5_readStep 220 = .ok (.aload_n 2, 1) := by decide +kernel
theorem dX5_readStep_221 : decode cX5_readStep 221 = .ok (.invokevirtual 94, 3) := by decide +kernel
theorem dX5_readStep_224 : decode cX5_readStep 224 = .ok (.iadd, 1) := by decide +kernel
theorem dX5_readStep_225 : decode cX5_readStep 225 = .ok (.iload_n 1, 1) := by decide +kernel
theorem dX5_readStep_226 : decode cX5_readStep 226 = .ok (.invokevirtual 194, 3) := by decide +kernel
theorem dX5_readStep_229 : decode cX5_readStep 229 = .ok (.goto 42, 3) := by decide +kernel
theorem dX5_readStep_232 : decode cX5_readStep 232 = .ok (.aload_n 2, 1) := by decide +kernel
theorem dX5_readStep_233 : decode cX5_readStep 233 = .ok (.invokevirtual 94, 3) := by decide +kernel
theorem dX5_readStep_236 : decode cX5_readStep 236 = .ok (.sipush 256, 3) := by decide +kernel
theorem dX5_readStep_239 : decode cX5_readStep 239 = .ok (.imul, 1) := by decide +kernel
theorem dX5_readStep_240 : decode cX5_readStep 240 = .ok (.istore_n 3, 1) := by decide +kernel
theorem dX5_readStep_241 : decode cX5_readStep 241 = .ok (.iload_n 3, 1) := by decide +kernel
theorem dX5_readStep_242 : decode cX5_readStep 242 = .ok (.aload_n 2, 1) := by decide +kernel
theorem dX5_readStep_243 : decode cX5_readStep 243 = .ok (.invokevirtual 94, 3) := by decide +kernel
theorem dX5_readStep_246 : decode cX5_readStep 246 = .ok (.iadd, 1) := by decide +kernel
theorem dX5_readStep_247 : decode cX5_readStep 247 = .ok (.istore_n 3, 1) := by decide +kernel
theorem dX5_readStep_248 : decode cX5_readStep 248 = .ok (.aload_n 2, 1) := by decide +kernel
theorem dX5_readStep_249 : decode cX5_readStep 249 = .ok (.invokevirtual 94, 3) := by decide +kernel
theorem dX5_readStep_252 : decode cX5_readStep 252 = .ok (.sipush 256, 3) := by decide +kernel
theorem dX5_readStep_255 : decode cX5_readStep 255 = .ok (.imul, 1) := by decide +kernel
theorem dX5_readStep_256 : decode cX5_readStep 256 = .ok (.istore 4, 2) := by decide +kernel
theorem dX5_readStep_258 : decode cX5_readStep 258 = .ok (.aload_n 0, 1) := by decide +kernel
theorem dX5_readStep_259 : decode cX5_readStep 259 = .ok (.iload_n 3, 1) := by decide +kernel
theorem dX5_readStep_260 : decode cX5_readStep 260 = .ok (.iload 4, 2) := by decide +kernel
theorem dX5_readStep_262 : decode cX5_readStep 262 = .ok (.aload_n 2, 1) := by decide +kernel
theorem dX5_readStep_263 : decode cX5_readStep 263 = .ok (.invokevirtual 94, 3) := by decide +kernel
theorem dX5_readStep_266 : decode cX5_readStep 266 = .ok (.iadd, 1) := by decide +kernel
theorem dX5_readStep_267 : decode cX5_readStep 267 = .ok (.iload_n 1, 1) := by decide +kernel
theorem dX5_readStep_268 : decode cX5_readStep 268 = .ok (.invokevirtual 194, 3) := by decide +kernel
theorem dX5_readStep_271 : decode cX5_readStep 271 = .ok (.return_, 1) := by decide +kernel
theorem dX5_takeStep_0 : decode cX5_takeStep 0 = .ok (.aload_n 0, 1) := by decide +kernel
theorem dX5_takeStep_1 : decode cX5_takeStep 1 = .ok (.iload_n 1, 1) := by decide +kernel
theorem dX5_takeStep_2 : decode cX5_takeStep 2 = .ok (.iload_n 3, 1) := by decide +kernel
theorem dX5_takeStep_3 : decode cX5_takeStep 3 = .ok (.iconst 2, 1) := by decide +kernel
theorem dX5_takeStep_4 : decode cX5_takeStep 4 = .ok (.irem, 1) := by decide +kernel
theorem dX5_takeStep_5 : decode cX5_takeStep 5 = .ok (.invokestatic 190, 3) := by decide +kernel
theorem dX5_takeStep_8 : decode cX5_takeStep 8 = .ok (.putfield 34, 3) := by decide +kernel
theorem dX5_takeStep_11 : decode cX5_takeStep 11 = .ok (.aload_n 0, 1) := by decide +kernel
theorem dX5_takeStep_12 : decode cX5_takeStep 12 = .ok (.iload_n 2, 1) := by decide +kernel
theorem dX5_takeStep_13 : decode cX5_takeStep 13 = .ok (.iload_n 3, 1) := by decide +kernel
theorem dX5_takeStep_14 : decode cX5_takeStep 14 = .ok (.iconst 2, 1) := by decide +kernel
theorem dX5_takeStep_15 : decode cX5_takeStep 15 = .ok (.idiv, 1) := by decide +kernel
theorem dX5_takeStep_16 : decode cX5_takeStep 16 = .ok (.iconst 2, 1) := by decide +kernel
theorem dX5_takeStep_17 : decode cX5_takeStep 17 = .ok (.irem, 1) := by decide +kernel
theorem dX5_takeStep_18 : decode cX5_takeStep 18 = .ok (.invokestatic 190, 3) := by decide +kernel
theorem dX5_takeStep_21 : decode cX5_takeStep 21 = .ok (.putfield 37, 3) := by decide +kernel
theorem dX5_takeStep_24 : decode cX5_takeStep 24 = .ok (.return_, 1) := by decide +kernel
theorem dX5_signed_0 : decode cX5_signed 0 = .ok (.iload_n 1, 1) := by decide +kernel
theorem dX5_signed_1 : decode cX5_signed 1 = .ok (.iconst 1, 1) := by decide +kernel
theorem dX5_signed_2 : decode cX5_signed 2 = .ok (.if_icmp .ne 7, 3) := by decide +kernel
theorem dX5_signed_5 : decode cX5_signed 5 = .ok (.iload_n 0, 1) := by decide +kernel
theorem dX5_signed_6 : decode cX5_signed 6 = .ok (.goto 5, 3) := by decide +kernel
theorem dX5_signed_9 : decode cX5_signed 9 = .ok (.iload_n 0, 1) := by decide +kernel
theorem dX5_signed_10 : decode cX5_signed 10 = .ok (.ineg, 1) := by decide +kernel
theorem dX5_signed_11 : decode cX5_signed 11 = .ok (.ireturn, 1) := by decide +kernel
theorem dX5_readAdvances_0 : decode cX5_readAdvances 0 = .ok (.aload_n 0, 1) := by decide +kernel
theorem dX5_readAdvances_1 : decode cX5_readAdvances 1 = .ok (.getfield 23, 3) := by decide +kernel
theorem dX5_readAdvances_4 : decode cX5_readAdvances 4 = .ok (.iconst 0, 1) := by decide +kernel
theorem dX5_readAdvances_5 : decode cX5_readAdvances 5 = .ok (.invokevirtual 90, 3) := by decide +kernel
theorem dX5_readAdvances_8 : decode cX5_readAdvances 8 = .ok (.istore_n 2, 1) := by decide +kernel
theorem dX5_readAdvances_9 : decode cX5_readAdvances 9 = .ok (.new 45, 3) := by decide +kernel
theorem dX5_readAdvances_12 : decode cX5_readAdvances 12 = .ok (.dup, 1) := by decide +kernel
theorem dX5_readAdvances_13 : decode cX5_readAdvances 13 = .ok (.aload_n 0, 1) := by decide +kernel
theorem dX5_readAdvances_14 : decode cX5_readAdvances 14 = .ok (.getfield 14, 3) := by decide +kernel
theorem dX5_readAdvances_17 : decode cX5_readAdvances 17 = .ok (.iload_n 2, 1) := by decide +kernel
theorem dX5_readAdvances_18 : decode cX5_readAdvances 18 = .ok (.iload_n 2, 1) := by decide +kernel
theorem dX5_readAdvances_19 : decode cX5_readAdvances 19 = .ok (.aload_n 0, 1) := by decide +kernel
theorem dX5_readAdvances_20 : decode cX5_readAdvances 20 = .ok (.getfield 23, 3) := by decide +kernel
theorem dX5_readAdvances_23 : decode cX5_readAdvances 23 = .ok (.iconst 1, 1) := by decide +kernel
theorem dX5_readAdvances_24 : decode cX5_readAdvances 24 = .ok (.invokevirtual 90, 3) := by decide +kernel
theorem dX5_readAdvances_27 : decode cX5_readAdvances 27 = .ok (.iadd, 1) := by decide +kernel
theorem dX5_readAdvances_28 : decode cX5_readAdvances 28 = .ok (.invokespecial 51, 3) := by decide +kernel
theorem dX5_readAdvances_31 : decode cX5_readAdvances 31 = .ok (.astore_n 3, 1) := by decide +kernel
theorem dX5_readAdvances_32 : decode cX5_readAdvances 32 = .ok (.iconst 0, 1) := by decide +kernel
theorem dX5_readAdvances_33 : decode cX5_readAdvances 33 = .ok (.istore 4, 2) := by decide +kernel
theorem dX5_readAdvances_35 : decode cX5_readAdvances 35 = .ok (.iload 4, 2) := by decide +kernel
theorem dX5_readAdvances_37 : decode cX5_readAdvances 37 = .ok (.aload_n 1, 1) := by decide +kernel
theorem dX5_readAdvances_38 : decode cX5_readAdvances 38 = .ok (.invokevirtual 140, 3) := by decide +kernel
theorem dX5_readAdvances_41 : decode cX5_readAdvances 41 = .ok (.if_icmp .ge 36, 3) := by decide +kernel
theorem dX5_readAdvances_44 : decode cX5_readAdvances 44 = .ok (.aload_n 3, 1) := by decide +kernel
theorem dX5_readAdvances_45 : decode cX5_readAdvances 45 = .ok (.invokevirtual 172, 3) := by decide +kernel
theorem dX5_readAdvances_48 : decode cX5_readAdvances 48 = .ok (.istore 5, 2) := by decide +kernel
theorem dX5_readAdvances_50 : decode cX5_readAdvances 50 = .ok (.iload 5, 2) := by decide +kernel
theorem dX5_readAdvances_52 : decode cX5_readAdvances 52 = .ok (.sipush 2000, 3) := by decide +kernel
theorem dX5_readAdvances_55 : decode cX5_readAdvances 55 = .ok (.if_icmp .le 5, 3) := by decide +kernel
theorem dX5_readAdvances_58 : decode cX5_readAdvances 58 = .ok (.iconst 0, 1) := by decide +kernel
theorem dX5_readAdvances_59 : decode cX5_readAdvances 59 = .ok (.ireturn, 1) := by decide +kernel
theorem dX5_readAdvances_60 : decode cX5_readAdvances 60 = .ok (.aload_n 1, 1) := by decide +kernel
theorem dX5_readAdvances_61 : decode cX5_readAdvances 61 = .ok (.iload 4, 2) := by decide +kernel
theorem dX5_readAdvances_63 : decode cX5_readAdvances 63 = .ok (.invokevirtual 143, 3) := by decide +kernel
theorem dX5_readAdvances_66 : decode cX5_readAdvances 66 = .ok (.iload 5, 2) := by decide +kernel
theorem dX5_readAdvances_68 : decode cX5_readAdvances 68 = .ok (.invokevirtual 198, 3) := by decide +kernel
theorem dX5_readAdvances_71 : decode cX5_readAdvances 71 = .ok (.iinc 4 1, 3) := by decide +kernel
theorem dX5_readAdvances_74 : decode cX5_readAdvances 74 = .ok (.goto (-39), 3) := by decide +kernel
theorem dX5_readAdvances_77 : decode cX5_readAdvances 77 = .ok (.aload_n 3, 1) := by decide +kernel
theorem dX5_readAdvances_78 : decode cX5_readAdvances 78 = .ok (.invokevirtual 160, 3) := by decide +kernel
theorem dX5_readAdvances_81 : decode cX5_readAdvances 81 = .ok (.ireturn, 1) := by decide +kernel
theorem dX5_readBareTables_0 : decode cX5_readBareTables 0 = .ok (.aload_n 0, 1) := by decide +kernel
theorem dX5_readBareTables_1 : decode cX5_readBareTables 1 = .ok (.getfield 23, 3) := by decide +kernel
theorem dX5_readBareTables_4 : decode cX5_readBareTables 4 = .ok (.iconst 0, 1) := by decide +kernel
theorem dX5_readBareTables_5 : decode cX5_readBareTables 5 = .ok (.invokevirtual 90, 3) := by decide +kernel
theorem dX5_readBareTables_8 : decode cX5_readBareTables 8 = .ok (.aload_n 0, 1) := by decide +kernel
theorem dX5_readBareTables_9 : decode cX5_readBareTables 9 = .ok (.getfield 23, 3) := by decide +kernel
theorem dX5_readBareTables_12 : decode cX5_readBareTables 12 = .ok (.iconst 1, 1) := by decide +kernel
theorem dX5_readBareTables_13 : decode cX5_readBareTables 13 = .ok (.invokevirtual 90, 3) := by decide +kernel
theorem dX5_readBareTables_16 : decode cX5_readBareTables 16 = .ok (.iadd, 1) := by decide +kernel
theorem dX5_readBareTables_17 : decode cX5_readBareTables 17 = .ok (.istore_n 2, 1) := by decide +kernel
theorem dX5_readBareTables_18 : decode cX5_readBareTables 18 = .ok (.iconst 2, 1) := by decide +kernel
theorem dX5_readBareTables_19 : decode cX5_readBareTables 19 = .ok (.istore_n 3, 1) := by decide +kernel
theorem dX5_readBareTables_20 : decode cX5_readBareTables 20 = .ok (.iload_n 3, 1) := by decide +kernel
theorem dX5_readBareTables_21 : decode cX5_readBareTables 21 = .ok (.bipush 7, 2) := by decide +kernel
theorem dX5_readBareTables_23 : decode cX5_readBareTables 23 = .ok (.if_icmp .ge 50, 3) := by decide +kernel
theorem dX5_readBareTables_26 : decode cX5_readBareTables 26 = .ok (.iconst 0, 1) := by decide +kernel
theorem dX5_readBareTables_27 : decode cX5_readBareTables 27 = .ok (.istore 4, 2) := by decide +kernel
theorem dX5_readBareTables_29 : decode cX5_readBareTables 29 = .ok (.iload 4, 2) := by decide +kernel
theorem dX5_readBareTables_31 : decode cX5_readBareTables 31 = .ok (.aload_n 0, 1) := by decide +kernel
theorem dX5_readBareTables_32 : decode cX5_readBareTables 32 = .ok (.getfield 23, 3) := by decide +kernel
theorem dX5_readBareTables_35 : decode cX5_readBareTables 35 = .ok (.iload_n 3, 1) := by decide +kernel
theorem dX5_readBareTables_36 : decode cX5_readBareTables 36 = .ok (.invokevirtual 90, 3) := by decide +kernel
theorem dX5_readBareTables_39 : decode cX5_readBareTables 39 = .ok (.if_icmp .ge 28, 3) := by decide +kernel
theorem dX5_readBareTables_42 : decode cX5_readBareTables 42 = .ok (.aload_n 1, 1) := by decide +kernel
theorem dX5_readBareTables_43 : decode cX5_readBareTables 43 = .ok (.iload_n 3, 1) := by decide +kernel
theorem dX5_readBareTables_44 : decode cX5_readBareTables 44 = .ok (.invokevirtual 86, 3) := by decide +kernel
theorem dX5_readBareTables_47 : decode cX5_readBareTables 47 = .ok (.aload_n 0, 1) := by decide +kernel
theorem dX5_readBareTables_48 : decode cX5_readBareTables 48 = .ok (.getfield 14, 3) := by decide +kernel
theorem dX5_readBareTables_51 : decode cX5_readBareTables 51 = .ok (.iload_n 2, 1) := by decide +kernel
theorem dX5_readBareTables_52 : decode cX5_readBareTables 52 = .ok (.invokevirtual 90, 3) := by decide +kernel
theorem dX5_readBareTables_55 : decode cX5_readBareTables 55 = .ok (.invokevirtual 122, 3) := by decide +kernel
theorem dX5_readBareTables_58 : decode cX5_readBareTables 58 = .ok (.iinc 2 1, 3) := by decide +kernel
theorem dX5_readBareTables_61 : decode cX5_readBareTables 61 = .ok (.iinc 4 1, 3) := by decide +kernel
theorem dX5_readBareTables_64 : decode cX5_readBareTables 64 = .ok (.goto (-35), 3) := by decide +kernel
theorem dX5_readBareTables_67 : decode cX5_readBareTables 67 = .ok (.iinc 3 1, 3) := by decide +kernel
theorem dX5_readBareTables_70 : decode cX5_readBareTables 70 = .ok (.goto (-50), 3) := by decide +kernel
theorem dX5_readBareTables_73 : decode cX5_readBareTables 73 = .ok (.return_, 1) := by decide +kernel
theorem dX6_init_0 : decode cX6_init 0 = .ok (.aload_n 0, 1) := by decide +kernel
theorem dX6_init_1 : decode cX6_init 1 = .ok (.invokespecial 3, 3) := by decide +kernel
theorem dX6_init_4 : decode cX6_init 4 = .ok (.aload_n 0, 1) := by decide +kernel
theorem dX6_init_5 : decode cX6_init 5 = .ok (.new 9, 3) := by decide +kernel
theorem dX6_init_8 : decode cX6_init 8 = .ok (.dup, 1) := by decide +kernel
theorem dX6_init_9 : decode cX6_init 9 = .ok (.invokespecial 11, 3) := by decide +kernel
theorem dX6_init_12 : decode cX6_init 12 = .ok (.putfield 12, 3) := by decide +kernel
theorem dX6_init_15 : decode cX6_init 15 = .ok (.aload_n 0, 1) := by decide +kernel
theorem dX6_init_16 : decode cX6_init 16 = .ok (.new 18, 3) := by decide +kernel
theorem dX6_init_19 : decode cX6_init 19 = .ok (.dup, 1) := by decide +kernel
theorem dX6_init_20 : decode cX6_init 20 = .ok (.sipush 1000, 3) := by decide +kernel
theorem dX6_init_23 : decode cX6_init 23 = .ok (.invokespecial 20, 3) := by decide +kernel
theorem dX6_init_26 : decode cX6_init 26 = .ok (.putfield 23, 3) := by decide +kernel
theorem dX6_init_29 : decode cX6_init 29 = .ok (.return_, 1) := by decide +kernel
theorem dX6_writePacked_0 : decode cX6_writePacked 0 = .ok (.aload_n 1, 1) := by decide +kernel
theorem dX6_writePacked_1 : decode cX6_writePacked 1 = .ok (.invokestatic 27, 3) := by decide +kernel
theorem dX6_writePacked_4 : decode cX6_writePacked 4 = .ok (.aload_n 1, 1) := by decide +kernel
theorem dX6_writePacked_5 : decode cX6_writePacked 5 = .ok (.iconst 0, 1) := by decide +kernel
theorem dX6_writePacked_6 : decode cX6_writePacked 6 = .ok (.invokevirtual 33, 3) := by decide +kernel
theorem dX6_writePacked_9 : decode cX6_writePacked 9 = .ok (.invokevirtual 39, 3) := by decide +kernel
theorem dX6_writePacked_12 : decode cX6_writePacked 12 = .ok (.istore_n 3, 1) := by decide +kernel
theorem dX6_writePacked_13 : decode cX6_writePacked 13 = .ok (.aload_n 1, 1) := by decide +kernel
theorem dX6_writePacked_14 : decode cX6_writePacked 14 = .ok (.iconst 1, 1) := by decide +kernel
theorem dX6_writePacked_15 : decode cX6_writePacked 15 = .ok (.invokevirtual 33, 3) := by decide +kernel
theorem dX6_writePacked_18 : decode cX6_writePacked 18 = .ok (.invokevirtual 39, 3) := by decide +kernel
theorem dX6_writePacked_21 : decode cX6_writePacked 21 = .ok (.istore 4, 2) := by decide +kernel
theorem dX6_writePacked_23 : decode cX6_writePacked 23 = .ok (.aload_n 0, 1) := by decide +kernel
theorem dX6_writePacked_24 : decode cX6_writePacked 24 = .ok (.getfield 12, 3) := by decide +kernel
theorem dX6_writePacked_27 : decode cX6_writePacked 27 = .ok (.aload_n 1, 1) := by decide +kernel
theorem dX6_writePacked_28 : decode cX6_writePacked 28 = .ok (.invokevirtual 43, 3) := by decide +kernel
theorem dX6_writePacked_31 : decode cX6_writePacked 31 = .ok (.aload_n 0, 1) := by decide +kernel
theorem dX6_writePacked_32 : decode cX6_writePacked 32 = .ok (.getfield 23, 3) := by decide +kernel
theorem dX6_writePacked_35 : decode cX6_writePacked 35 = .ok (.invokevirtual 44, 3) := by decide +kernel
theorem dX6_writePacked_38 : decode cX6_writePacked 38 = .ok (.aload_n 2, 1) := by decide +kernel
theorem dX6_writePacked_39 : decode cX6_writePacked 39 = .ok (.invokevirtual 44, 3) := by decide +kernel
theorem dX6_writePacked_42 : decode cX6_writePacked 42 = .ok (.aload_n 2, 1) := by decide +kernel
theorem dX6_writePacked_43 : decode cX6_writePacked 43 = .ok (.bipush 119, 2) := by decide +kernel
theorem dX6_writePacked_45 : decode cX6_writePacked 45 = .ok (.invokevirtual 47, 3) := by decide +kernel
theorem dX6_writePacked_48 : decode cX6_writePacked 48 = .ok (.aload_n 2, 1) := by decide +kernel
theorem dX6_writePacked_49 : decode cX6_writePacked 49 = .ok (.bipush 50, 2) := by decide +kernel
theorem dX6_writePacked_51 : decode cX6_writePacked 51 = .ok (.invokevirtual 47, 3) := by decide +kernel
theorem dX6_writePacked_54 : decode cX6_writePacked 54 = .ok (.aload_n 2, 1) := by decide +kernel
theorem dX6_writePacked_55 : decode cX6_writePacked 55 = .ok (.aload_n 1, 1) := by decide +kernel
theorem dX6_writePacked_56 : decode cX6_writePacked 56 = .ok (.invokevirtual 50, 3) := by decide +kernel
theorem dX6_writePacked_59 : decode cX6_writePacked 59 = .ok (.invokevirtual 47, 3) := by decide +kernel
theorem dX6_writePacked_62 : decode cX6_writePacked 62 = .ok (.iconst 0, 1) := by decide +kernel
theorem dX6_writePacked_63 : decode cX6_writePacked 63 = .ok (.istore 5, 2) := by decide +kernel
theorem dX6_writePacked_65 : decode cX6_writePacked 65 = .ok (.iload 5, 2) := by decide +kernel
theorem dX6_writePacked_67 : decode cX6_writePacked 67 = .ok (.bipush 7, 2) := by decide +kernel
theorem dX6_writePacked_69 : decode cX6_writePacked 69 = .ok (.if_icmp .ge 83, 3) := by decide +kernel
theorem dX6_writePacked_72 : decode cX6_writePacked 72 = .ok (.aload_n 1, 1) := by decide +kernel
theorem dX6_writePacked_73 : decode cX6_writePacked 73 = .ok (.iload 5, 2) := by decide +kernel
theorem dX6_writePacked_75 : decode cX6_writePacked 75 = .ok (.invokevirtual 53, 3) := by decide +kernel
theorem dX6_writePacked_78 : decode cX6_writePacked 78 = .ok (.ifCond .eq 68, 3) := by decide +kernel
theorem dX6_writePacked_81 : decode cX6_writePacked 81 = .ok (.aload_n 1, 1) := by decide +kernel
theorem dX6_writePacked_82 : decode cX6_writePacked 82 = .ok (.iload 5, 2) := by decide +kernel
theorem dX6_writePacked_84 : decode cX6_writePacked 84 = .ok (.invokevirtual 33, 3) := by decide +kernel
theorem dX6_writePacked_87 : decode cX6_writePacked 87 = .ok (.astore 6, 2) := by decide +kernel
theorem dX6_writePacked_89 : decode cX6_writePacked 89 = .ok (.iload 5, 2) := by decide +kernel
theorem dX6_writePacked_91 : decode cX6_writePacked 91 = .ok (.iconst 2, 1) := by decide +kernel
theorem dX6_writePacked_92 : decode cX6_writePacked 92 = .ok (.if_icmp .ge 30, 3) := by decide +kernel
theorem dX6_writePacked_95 : decode cX6_writePacked 95 = .ok (.aload_n 2, 1) := by decide +kernel
theorem dX6_writePacked_96 : decode cX6_writePacked 96 = .ok (.iload 5, 2) := by decide +kernel
theorem dX6_writePacked_98 : decode cX6_writePacked 98 = .ok (.bipush 64, 2) := by decide +kernel
theorem dX6_writePacked_100 : decode cX6_writePacked 100 = .ok (.iadd, 1) := by decide +kernel
theorem dX6_writePacked_101 : decode cX6_writePacked 101 = .ok (.invokevirtual 47, 3) := by decide +kernel
theorem dX6_writePacked_104 : decode cX6_writePacked 104 = .ok (.aload_n 2, 1) := by decide +kernel
theorem dX6_writePacked_105 : decode cX6_writePacked 105 = .ok (.iload 5, 2) := by decide +kernel
theorem dX6_writePacked_107 : decode cX6_writePacked 107 = .ok (.ifCond .ne 7, 3) := by decide +kernel
theorem dX6_writePacked_110 : decode cX6_writePacked 110 = .ok (.iload_n 3, 1) := by decide +kernel
theorem dX6_writePacked_111 : decode cX6_writePacked 111 = .ok (.goto 5, 3) := by decide +kernel
theorem dX6_writePacked_114 : decode cX6_writePacked 114 = .ok (.iload 4, 2) := by decide +kernel
theorem dX6_writePacked_116 : decode cX6_writePacked 116 = .ok (.invokevirtual 57, 3) := by decide +kernel
theorem dX6_writePacked_119 : decode cX6_writePacked 119 = .ok (.goto 9, 3) := by decide +kernel
theorem dX6_writePacked_122 : decode cX6_writePacked 122 = .ok (.aload_n 2, 1) := by decide +kernel
theorem dX6_writePacked_123 : decode cX6_writePacked 123 = .ok (.iload 5, 2) := by decide +kernel
theorem dX6_writePacked_125 : decode cX6_writePacked 125 = .ok (.invokevirtual 47, 3) := by decide +kernel
theorem dX6_writePacked_128 : decode cX6_writePacked 128 = .ok (.aload_n 2, 1) := by decide +kernel
theorem dX6_writePacked_129 : decode cX6_writePacked 129 = .ok (.aload 6, 2) := by decide +kernel
theorem dX6_writePacked_131 : decode cX6_writePacked 131 = .ok (.invokevirtual 39, 3) := by decide +kernel
theorem dX6_writePacked_134 : decode cX6_writePacked 134 = .ok (.invokevirtual 57, 3) := by decide +kernel
theorem dX6_writePacked_137 : decode cX6_writePacked 137 = .ok (.aload_n 0, 1) := by decide +kernel
theorem dX6_writePacked_138 : decode cX6_writePacked 138 = .ok (.getfield 23, 3) := by decide +kernel
theorem dX6_writePacked_141 : decode cX6_writePacked 141 = .ok (.aload 6, 2) := by decide +kernel
theorem dX6_writePacked_143 : decode cX6_writePacked 143 = .ok (.invokevirtual 60, 3) := by decide +kernel
theorem dX6_writePacked_146 : decode cX6_writePacked 146 = .ok (.iinc 5 1, 3) := by decide +kernel
theorem dX6_writePacked_149 : decode cX6_writePacked 149 = .ok (.goto (-84), 3) := by decide +kernel
theorem dX6_writePacked_152 : decode cX6_writePacked 152 = .ok (.aload_n 2, 1) := by decide +kernel
theorem dX6_writePacked_153 : decode cX6_writePacked 153 = .ok (.aload_n 0, 1) := by decide +kernel
theorem dX6_writePacked_154 : decode cX6_writePacked 154 = .ok (.getfield 23, 3) := by decide +kernel
theorem dX6_writePacked_157 : decode cX6_writePacked 157 = .ok (.invokevirtual 39, 3) := by decide +kernel
theorem dX6_writePacked_160 : decode cX6_writePacked 160 = .ok (.invokevirtual 57, 3) := by decide +kernel
theorem dX6_writePacked_163 : decode cX6_writePacked 163 = .ok (.aload_n 0, 1) := by decide +kernel
theorem dX6_writePacked_164 : decode cX6_writePacked 164 = .ok (.new 64, 3) := by decide +kernel
theorem dX6_writePacked_167 : decode cX6_writePacked 167 = .ok (.dup, 1) := by decide +kernel
theorem dX6_writePacked_168 : decode cX6_writePacked 168 = .ok (.aload_n 2, 1) := by decide +kernel
theorem dX6_writePacked_169 : decode cX6_writePacked 169 = .ok (.invokespecial 66, 3) := by decide +kernel
theorem dX6_writePacked_172 : decode cX6_writePacked 172 = .ok (.invokevirtual 68, 3) := by decide +kernel
theorem dX6_writePacked_175 : decode cX6_writePacked 175 = .ok (.return_, 1) := by decide +kernel
theorem dX6_compressStream_0 : decode cX6_compressStream 0 = .ok (.iconst 0, 1) := by decide +kernel
theorem dX6_compressStream_1 : decode cX6_compressStream 1 = .ok (.istore_n 2, 1) := by decide +kernel
theorem dX6_compressStream_2 : decode cX6_compressStream 2 = .ok (.iload_n 2, 1) := by decide +kernel
theorem dX6_compressStream_3 : decode cX6_compressStream 3 = .ok (.aload_n 0, 1) := by decide +kernel
theorem dX6_compressStream_4 : decode cX6_compressStream 4 = .ok (.getfield 23, 3) := by decide +kernel
theorem dX6_compressStream_7 : decode cX6_compressStream 7 = .ok (.invokevirtual 39, 3) := by decide +kernel
theorem dX6_compressStream_10 : decode cX6_compressStream 10 = .ok (.if_icmp .ge 79, 3) := by decide +kernel
theorem dX6_compressStream_13 : decode cX6_compressStream 13 = .ok (.aload_n 0, 1) := by decide +kernel
theorem dX6_compressStream_14 : decode cX6_compressStream 14 = .ok (.iload_n 2, 1) := by decide +kernel
theorem dX6_compressStream_15 : decode cX6_compressStream 15 = .ok (.invokevirtual 72, 3) := by decide +kernel
theorem dX6_compressStream_18 : decode cX6_compressStream 18 = .ok (.istore_n 3, 1) := by decide +kernel
theorem dX6_compressStream_19 : decode cX6_compressStream 19 = .ok (.aload_n 0, 1) := by decide +kernel
theorem dX6_compressStream_20 : decode cX6_compressStream 20 = .ok (.getfield 23, 3) := by decide +kernel
theorem dX6_compressStream_23 : decode cX6_compressStream 23 = .ok (.iload_n 2, 1) := by decide +kernel
theorem dX6_compressStream_24 : decode cX6_compressStream 24 = .ok (.iload_n 3, 1) := by decide +kernel
theorem dX6_compressStream_25 : decode cX6_compressStream 25 = .ok (.invokevirtual 76, 3) := by decide +kernel
theorem dX6_compressStream_28 : decode cX6_compressStream 28 = .ok (.istore 4, 2) := by decide +kernel
theorem dX6_compressStream_30 : decode cX6_compressStream 30 = .ok (.iload 4, 2) := by decide +kernel
theorem dX6_compressStream_32 : decode cX6_compressStream 32 = .ok (.iconst 3, 1) := by decide +kernel
theorem dX6_compressStream_33 : decode cX6_compressStream 33 = .ok (.if_icmp .lt 30, 3) := by decide +kernel
theorem dX6_compressStream_36 : decode cX6_compressStream 36 = .ok (.aload_n 1, 1) := by decide +kernel
theorem dX6_compressStream_37 : decode cX6_compressStream 37 = .ok (.iconst 1, 1) := by decide +kernel
theorem dX6_compressStream_38 : decode cX6_compressStream 38 = .ok (.iconst 1, 1) := by decide +kernel
theorem dX6_compressStream_39 : decode cX6_compressStream 39 = .ok (.invokevirtual 80, 3) := by decide +kernel
theorem dX6_compressStream_42 : decode cX6_compressStream 42 = .ok (.aload_n 1, 1) := by decide +kernel
theorem dX6_compressStream_43 : decode cX6_compressStream 43 = .ok (.iload 4, 2) := by decide +kernel
theorem dX6_compressStream_45 : decode cX6_compressStream 45 = .ok (.iconst 2, 1) := by decide +kernel
theorem dX6_compressStream_46 : decode cX6_compressStream 46 = .ok (.isub, 1) := by decide +kernel
theorem dX6_compressStream_47 : decode cX6_compressStream 47 = .ok (.invokevirtual 84, 3) := by decide +kernel
theorem dX6_compressStream_50 : decode cX6_compressStream 50 = .ok (.aload_n 1, 1) := by decide +kernel
theorem dX6_compressStream_51 : decode cX6_compressStream 51 = .ok (.iload_n 3, 1) := by decide +kernel
theorem dX6_compressStream_52 : decode cX6_compressStream 52 = .ok (.invokevirtual 84, 3) := by decide +kernel
theorem dX6_compressStream_55 : decode cX6_compressStream 55 = .ok (.iload_n 2, 1) := by decide +kernel
theorem dX6_compressStream_56 : decode cX6_compressStream 56 = .ok (.iload 4, 2) := by decide +kernel
theorem dX6_compressStream_58 : decode cX6_compressStream 58 = .ok (.iadd, 1) := by decide +kernel
theorem dX6_compressStream_59 : decode cX6_compressStream 59 = .ok (.istore_n 2, 1) := by decide +kernel
theorem dX6_compressStream_60 : decode cX6_compressStream 60 = .ok (.goto 26, 3) := by decide +kernel
theorem dX6_compressStream_63 : decode cX6_compressStream 63 = .ok (.aload_n 1, 1) := by decide +kernel
theorem dX6_compressStream_64 : decode cX6_compressStream 64 = .ok (.iconst 0, 1) := by decide +kernel
theorem dX6_compressStream_65 : decode cX6_compressStream 65 = .ok (.iconst 1, 1) := by decide +kernel
theorem dX6_compressStream_66 : decode cX6_compressStream 66 = .ok (.invokevirtual 80, 3) := by decide +kernel
theorem dX6_compressStream_69 : decode cX6_compressStream 69 = .ok (.aload_n 1, 1) := by decide +kernel
theorem dX6_compressStream_70 : decode cX6_compressStream 70 = .ok (.aload_n 0, 1) := by decide +kernel
theorem dX6_compressStream_71 : decode cX6_compressStream 71 = .ok (.getfield 23, 3) := by decide +kernel
theorem dX6_compressStream_74 : decode cX6_compressStream 74 = .ok (.iload_n 2, 1) := by decide +kernel
theorem dX6_compressStream_75 : decode cX6_compressStream 75 = .ok (.invokevirtual 87, 3) := by decide +kernel
theorem dX6_compressStream_78 : decode cX6_compressStream 78 = .ok (.bipush 8, 2) := by decide +kernel
theorem dX6_compressStream_80 : decode cX6_compressStream 80 = .ok (.invokevirtual 80, 3) := by decide +kernel
theorem dX6_compressStream_83 : decode cX6_compressStream 83 = .ok (.iinc 2 1, 3) := by decide +kernel
theorem dX6_compressStream_86 : decode cX6_compressStream 86 = .ok (.goto (-84), 3) := by decide +kernel
theorem dX6_compressStream_89 : decode cX6_compressStream 89 = .ok (.aload_n 1, 1) := by decide +kernel
theorem dX6_compressStream_90 : decode cX6_compressStream 90 = .ok (.invokevirtual 90, 3) := by decide +kernel
theorem dX6_compressStream_93 : decode cX6_compressStream 93 = .ok (.return_, 1) := by decide +kernel
theorem dX6_bestDistance_0 : decode cX6_bestDistance 0 = .ok (.iconst 0, 1) := by decide +kernel
theorem dX6_bestDistance_1 : decode cX6_bestDistance 1 = .ok (.istore_n 2, 1) := by decide +kernel
theorem dX6_bestDistance_2 : decode cX6_bestDistance 2 = .ok (.iconst 0, 1) := by decide +kernel
theorem dX6_bestDistance_3 : decode cX6_bestDistance 3 = .ok (.istore_n 3, 1) := by decide +kernel
theorem dX6_bestDistance_4 : decode cX6_bestDistance 4 = .ok (.iconst 1, 1) := by decide +kernel
theorem dX6_bestDistance_5 : decode cX6_bestDistance 5 = .ok (.istore 4, 2) := by decide +kernel
theorem dX6_bestDistance_7 : decode cX6_bestDistance 7 = .ok (.iload 4, 2) := by decide +kernel
theorem dX6_bestDistance_9 : decode cX6_bestDistance 9 = .ok (.iload_n 1, 1) := by decide +kernel
theorem dX6_bestDistance_10 : decode cX6_bestDistance 10 = .ok (.if_icmp .gt 46, 3) := by decide +kernel
theorem dX6_bestDistance_13 : decode cX6_bestDistance 13 = .ok (.iload_n 2, 1) := by decide +kernel
theorem dX6_bestDistance_14 : decode cX6_bestDistance 14 = .ok (.aload_n 0, 1) := by decide +kernel
theorem dX6_bestDistance_15 : decode cX6_bestDistance 15 = .ok (.getfield 23, 3) := by decide +kernel
theorem dX6_bestDistance_18 : decode cX6_bestDistance 18 = .ok (.invokevirtual 39, 3) := by decide +kernel
theorem dX6_bestDistance_21 : decode cX6_bestDistance 21 = .ok (.iload_n 1, 1) := by decide +kernel
theorem dX6_bestDistance_22 : decode cX6_bestDistance 22 = .ok (.isub, 1) := by decide +kernel
theorem dX6_bestDistance_23 : decode cX6_bestDistance 23 = .ok (.if_icmp .ge 33, 3) := by decide +kernel
theorem dX6_bestDistance_26 : decode cX6_bestDistance 26 = .ok (.aload_n 0, 1) := by decide +kernel
theorem dX6_bestDistance_27 : decode cX6_bestDistance 27 = .ok (.getfield 23, 3) := by decide +kernel
theorem dX6_bestDistance_30 : decode cX6_bestDistance 30 = .ok (.iload_n 1, 1) := by decide +kernel
theorem dX6_bestDistance_31 : decode cX6_bestDistance 31 = .ok (.iload 4, 2) := by decide +kernel
theorem dX6_bestDistance_33 : decode cX6_bestDistance 33 = .ok (.invokevirtual 76, 3) := by decide +kernel
theorem dX6_bestDistance_36 : decode cX6_bestDistance 36 = .ok (.istore 5, 2) := by decide +kernel
theorem dX6_bestDistance_38 : decode cX6_bestDistance 38 = .ok (.iload 5, 2) := by decide +kernel
theorem dX6_bestDistance_40 : decode cX6_bestDistance 40 = .ok (.iload_n 2, 1) := by decide +kernel
theorem dX6_bestDistance_41 : decode cX6_bestDistance 41 = .ok (.if_icmp .le 9, 3) := by decide +kernel
theorem dX6_bestDistance_44 : decode cX6_bestDistance 44 = .ok (.iload 5, 2) := by decide +kernel
theorem dX6_bestDistance_46 : decode cX6_bestDistance 46 = .ok (.istore_n 2, 1) := by decide +kernel
theorem dX6_bestDistance_47 : decode cX6_bestDistance 47 = .ok (.iload 4, 2) := by decide +kernel
theorem dX6_bestDistance_49 : decode cX6_bestDistance 49 = .ok (.istore_n 3, 1) := by decide +kernel
theorem dX6_bestDistance_50 : decode cX6_bestDistance 50 = .ok (.iinc 4 1, 3) := by decide +kernel
theorem dX6_bestDistance_53 : decode cX6_bestDistance 53 = .ok (.goto (-46), 3) := by decide +kernel
theorem dX6_bestDistance_56 : decode cX6_bestDistance 56 = .ok (.iload_n 3, 1) := by decide +kernel
theorem dX6_bestDistance_57 : decode cX6_bestDistance 57 = .ok (.ireturn, 1) := by decide +kernel
theorem dX7_writePlain_0 : decode cX7_writePlain 0 = .ok (.aload_n 0, 1) := by decide +kernel
theorem dX7_writePlain_1 : decode cX7_writePlain 1 = .ok (.invokestatic 9, 3) := by decide +kernel
theorem dX7_writePlain_4 : decode cX7_writePlain 4 = .ok (.aload_n 1, 1) := by decide +kernel
theorem dX7_writePlain_5 : decode cX7_writePlain 5 = .ok (.invokevirtual 15, 3) := by decide +kernel
theorem dX7_writePlain_8 : decode cX7_writePlain 8 = .ok (.aload_n 1, 1) := by decide +kernel
theorem dX7_writePlain_9 : decode cX7_writePlain 9 = .ok (.aload_n 0, 1) := by decide +kernel
theorem dX7_writePlain_10 : decode cX7_writePlain 10 = .ok (.invokevirtual 20, 3) := by decide +kernel
theorem dX7_writePlain_13 : decode cX7_writePlain 13 = .ok (.invokevirtual 26, 3) := by decide +kernel
theorem dX7_writePlain_16 : decode cX7_writePlain 16 = .ok (.iconst 1, 1) := by decide +kernel
theorem dX7_writePlain_17 : decode cX7_writePlain 17 = .ok (.bipush 9, 2) := by decide +kernel
theorem dX7_writePlain_19 : decode cX7_writePlain 19 = .ok (.aload_n 0, 1) := by decide +kernel
theorem dX7_writePlain_20 : decode cX7_writePlain 20 = .ok (.invokevirtual 20, 3) := by decide +kernel
theorem dX7_writePlain_23 : decode cX7_writePlain 23 = .ok (.imul, 1) := by decide +kernel
theorem dX7_writePlain_24 : decode cX7_writePlain 24 = .ok (.iadd, 1) := by decide +kernel
theorem dX7_writePlain_25 : decode cX7_writePlain 25 = .ok (.istore_n 2, 1) := by decide +kernel
theorem dX7_writePlain_26 : decode cX7_writePlain 26 = .ok (.iconst 0, 1) := by decide +kernel
theorem dX7_writePlain_27 : decode cX7_writePlain 27 = .ok (.istore_n 3, 1) := by decide +kernel
theorem dX7_writePlain_28 : decode cX7_writePlain 28 = .ok (.iload_n 3, 1) := by decide +kernel
theorem dX7_writePlain_29 : decode cX7_writePlain 29 = .ok (.bipush 7, 2) := by decide +kernel
theorem dX7_writePlain_31 : decode cX7_writePlain 31 = .ok (.if_icmp .ge 72, 3) := by decide +kernel
theorem dX7_writePlain_34 : decode cX7_writePlain 34 = .ok (.aload_n 0, 1) := by decide +kernel
theorem dX7_writePlain_35 : decode cX7_writePlain 35 = .ok (.iload_n 3, 1) := by decide +kernel
theorem dX7_writePlain_36 : decode cX7_writePlain 36 = .ok (.invokevirtual 30, 3) := by decide +kernel
theorem dX7_writePlain_39 : decode cX7_writePlain 39 = .ok (.ifCond .eq 58, 3) := by decide +kernel
theorem dX7_writePlain_42 : decode cX7_writePlain 42 = .ok (.aload_n 0, 1) := by decide +kernel
theorem dX7_writePlain_43 : decode cX7_writePlain 43 = .ok (.iload_n 3, 1) := by decide +kernel
theorem dX7_writePlain_44 : decode cX7_writePlain 44 = .ok (.invokevirtual 34, 3) := by decide +kernel
theorem dX7_writePlain_47 : decode cX7_writePlain 47 = .ok (.astore 4, 2) := by decide +kernel
theorem dX7_writePlain_49 : decode cX7_writePlain 49 = .ok (.aload_n 1, 1) := by decide +kernel
theorem dX7_writePlain_50 : decode cX7_writePlain 50 = .ok (.iload_n 3, 1) := by decide +kernel
theorem dX7_writePlain_51 : decode cX7_writePlain 51 = .ok (.invokevirtual 26, 3) := by decide +kernel
theorem dX7_writePlain_54 : decode cX7_writePlain 54 = .ok (.aload_n 1, 1) := by decide +kernel
theorem dX7_writePlain_55 : decode cX7_writePlain 55 = .ok (.aload 4, 2) := by decide +kernel
theorem dX7_writePlain_57 : decode cX7_writePlain 57 = .ok (.invokestatic 38, 3) := by decide +kernel
theorem dX7_writePlain_60 : decode cX7_writePlain 60 = .ok (.i2l, 1) := by decide +kernel
theorem dX7_writePlain_61 : decode cX7_writePlain 61 = .ok (.iconst 4, 1) := by decide +kernel
theorem dX7_writePlain_62 : decode cX7_writePlain 62 = .ok (.invokevirtual 42, 3) := by decide +kernel
theorem dX7_writePlain_65 : decode cX7_writePlain 65 = .ok (.aload_n 1, 1) := by decide +kernel
theorem dX7_writePlain_66 : decode cX7_writePlain 66 = .ok (.iload_n 2, 1) := by decide +kernel
theorem dX7_writePlain_67 : decode cX7_writePlain 67 = .ok (.i2l, 1) := by decide +kernel
theorem dX7_writePlain_68 : decode cX7_writePlain 68 = .ok (.iconst 2, 1) := by decide +kernel
theorem dX7_writePlain_69 : decode cX7_writePlain 69 = .ok (.invokevirtual 42, 3) := by decide +kernel
theorem dX7_writePlain_72 : decode cX7_writePlain 72 = .ok (.aload_n 1, 1) := by decide +kernel
theorem dX7_writePlain_73 : decode cX7_writePlain 73 = .ok (.aload 4, 2) := by decide +kernel
theorem dX7_writePlain_75 : decode cX7_writePlain 75 = .ok (.invokevirtual 46, 3) := by decide +kernel
theorem dX7_writePlain_78 : decode cX7_writePlain 78 = .ok (.i2l, 1) := by decide +kernel
theorem dX7_writePlain_79 : decode cX7_writePlain 79 = .ok (.iconst 2, 1) := by decide +kernel
theorem dX7_writePlain_80 : decode cX7_writePlain 80 = .ok (.invokevirtual 42, 3) := by decide +kernel
theorem dX7_writePlain_83 : decode cX7_writePlain 83 = .ok (.iload_n 2, 1) := by decide +kernel
theorem dX7_writePlain_84 : decode cX7_writePlain 84 = .ok (.aload 4, 2) := by decide +kernel
theorem dX7_writePlain_86 : decode cX7_writePlain 86 = .ok (.invokevirtual 46, 3) := by decide +kernel
theorem dX7_writePlain_89 : decode cX7_writePlain 89 = .ok (.aload 4, 2) := by decide +kernel
theorem dX7_writePlain_91 : decode cX7_writePlain 91 = .ok (.invokestatic 49, 3) := by decide +kernel
theorem dX7_writePlain_94 : decode cX7_writePlain 94 = .ok (.iadd, 1) := by decide +kernel
theorem dX7_writePlain_95 : decode cX7_writePlain 95 = .ok (.iadd, 1) := by decide +kernel
theorem dX7_writePlain_96 : decode cX7_writePlain 96 = .ok (.istore_n 2, 1) := by decide +kernel
theorem dX7_writePlain_97 : decode cX7_writePlain 97 = .ok (.iinc 3 1, 3) := by decide +kernel
theorem dX7_writePlain_100 : decode cX7_writePlain 100 = .ok (.goto (-72), 3) := by decide +kernel
theorem dX7_writePlain_103 : decode cX7_writePlain 103 = .ok (.iconst 0, 1) := by decide +kernel
theorem dX7_writePlain_104 : decode cX7_writePlain 104 = .ok (.istore_n 3, 1) := by decide +kernel
theorem dX7_writePlain_105 : decode cX7_writePlain 105 = .ok (.iload_n 3, 1) := by decide +kernel
theorem dX7_writePlain_106 : decode cX7_writePlain 106 = .ok (.bipush 7, 2) := by decide +kernel
theorem dX7_writePlain_108 : decode cX7_writePlain 108 = .ok (.if_icmp .ge 38, 3) := by decide +kernel
theorem dX7_writePlain_111 : decode cX7_writePlain 111 = .ok (.aload_n 0, 1) := by decide +kernel
theorem dX7_writePlain_112 : decode cX7_writePlain 112 = .ok (.iload_n 3, 1) := by decide +kernel
theorem dX7_writePlain_113 : decode cX7_writePlain 113 = .ok (.invokevirtual 30, 3) := by decide +kernel
theorem dX7_writePlain_116 : decode cX7_writePlain 116 = .ok (.ifCond .eq 24, 3) := by decide +kernel
theorem dX7_writePlain_119 : decode cX7_writePlain 119 = .ok (.aload_n 1, 1) := by decide +kernel
theorem dX7_writePlain_120 : decode cX7_writePlain 120 = .ok (.aload_n 0, 1) := by decide +kernel
theorem dX7_writePlain_121 : decode cX7_writePlain 121 = .ok (.iload_n 3, 1) := by decide +kernel
theorem dX7_writePlain_122 : decode cX7_writePlain 122 = .ok (.invokevirtual 34, 3) := by decide +kernel
theorem dX7_writePlain_125 : decode cX7_writePlain 125 = .ok (.invokevirtual 52, 3) := by decide +kernel
theorem dX7_writePlain_128 : decode cX7_writePlain 128 = .ok (.aload_n 1, 1) := by decide +kernel
theorem dX7_writePlain_129 : decode cX7_writePlain 129 = .ok (.aload_n 0, 1) := by decide +kernel
theorem dX7_writePlain_130 : decode cX7_writePlain 130 = .ok (.iload_n 3, 1) := by decide +kernel
theorem dX7_writePlain_131 : decode cX7_writePlain 131 = .ok (.invokevirtual 34, 3) := by decide +kernel
theorem dX7_writePlain_134 : decode cX7_writePlain 134 = .ok (.invokestatic 49, 3) := by decide +kernel
theorem dX7_writePlain_137 : decode cX7_writePlain 137 = .ok (.invokevirtual 56, 3) := by decide +kernel
theorem dX7_writePlain_140 : decode cX7_writePlain 140 = .ok (.iinc 3 1, 3) := by decide +kernel
theorem dX7_writePlain_143 : decode cX7_writePlain 143 = .ok (.goto (-38), 3) := by decide +kernel
theorem dX7_writePlain_146 : decode cX7_writePlain 146 = .ok (.return_, 1) := by decide +kernel
theorem dX7_makeTables_0 : decode cX7_makeTables 0 = .ok (.aload_n 0, 1) := by decide +kernel
theorem dX7_makeTables_1 : decode cX7_makeTables 1 = .ok (.iconst 0, 1) := by decide +kernel
theorem dX7_makeTables_2 : decode cX7_makeTables 2 = .ok (.invokevirtual 34, 3) := by decide +kernel
theorem dX7_makeTables_5 : decode cX7_makeTables 5 = .ok (.astore_n 1, 1) := by decide +kernel
theorem dX7_makeTables_6 : decode cX7_makeTables 6 = .ok (.aload_n 0, 1) := by decide +kernel
theorem dX7_makeTables_7 : decode cX7_makeTables 7 = .ok (.iconst 1, 1) := by decide +kernel
theorem dX7_makeTables_8 : decode cX7_makeTables 8 = .ok (.invokevirtual 34, 3) := by decide +kernel
theorem dX7_makeTables_11 : decode cX7_makeTables 11 = .ok (.astore_n 2, 1) := by decide +kernel
theorem dX7_makeTables_12 : decode cX7_makeTables 12 = .ok (.aload_n 1, 1) := by decide +kernel
theorem dX7_makeTables_13 : decode cX7_makeTables 13 = .ok (.invokevirtual 15, 3) := by decide +kernel
theorem dX7_makeTables_16 : decode cX7_makeTables 16 = .ok (.aload_n 2, 1) := by decide +kernel
theorem dX7_makeTables_17 : decode cX7_makeTables 17 = .ok (.invokevirtual 15, 3) := by decide +kernel
theorem dX7_makeTables_20 : decode cX7_makeTables 20 = .ok (.iconst 0, 1) := by decide +kernel
theorem dX7_makeTables_21 : decode cX7_makeTables 21 = .ok (.istore_n 3, 1) := by decide +kernel
theorem dX7_makeTables_22 : decode cX7_makeTables 22 = .ok (.iload_n 3, 1) := by decide +kernel
theorem dX7_makeTables_23 : decode cX7_makeTables 23 = .ok (.aload_n 0, 1) := by decide +kernel
theorem dX7_makeTables_24 : decode cX7_makeTables 24 = .ok (.invokevirtual 59, 3) := by decide +kernel
theorem dX7_makeTables_27 : decode cX7_makeTables 27 = .ok (.if_icmp .ge 80, 3) := by decide +kernel
theorem dX7_makeTables_30 : decode cX7_makeTables 30 = .ok (.aload_n 0, 1) := by decide +kernel
theorem dX7_makeTables_31 : decode cX7_makeTables 31 = .ok (.iload_n 3, 1) := by decide +kernel
theorem dX7_makeTables_32 : decode cX7_makeTables 32 = .ok (.invokevirtual 62, 3) := by decide +kernel
theorem dX7_makeTables_35 : decode cX7_makeTables 35 = .ok (.astore 4, 2) := by decide +kernel
theorem dX7_makeTables_37 : decode cX7_makeTables 37 = .ok (.aload_n 1, 1) := by decide +kernel
theorem dX7_makeTables_38 : decode cX7_makeTables 38 = .ok (.invokevirtual 46, 3) := by decide +kernel
theorem dX7_makeTables_41 : decode cX7_makeTables 41 = .ok (.istore 5, 2) := by decide +kernel
theorem dX7_makeTables_43 : decode cX7_makeTables 43 = .ok (.aload_n 2, 1) := by decide +kernel
theorem dX7_makeTables_44 : decode cX7_makeTables 44 = .ok (.aload 4, 2) := by decide +kernel
theorem dX7_makeTables_46 : decode cX7_makeTables 46 = .ok (.invokevirtual 66, 3) := by decide +kernel
theorem dX7_makeTables_49 : decode cX7_makeTables 49 = .ok (.i2l, 1) := by decide +kernel
theorem dX7_makeTables_50 : decode cX7_makeTables 50 = .ok (.iconst 2, 1) := by decide +kernel
theorem dX7_makeTables_51 : decode cX7_makeTables 51 = .ok (.invokevirtual 42, 3) := by decide +kernel
theorem dX7_makeTables_54 : decode cX7_makeTables 54 = .ok (.aload_n 2, 1) := by decide +kernel
theorem dX7_makeTables_55 : decode cX7_makeTables 55 = .ok (.iload 5, 2) := by decide +kernel
theorem dX7_makeTables_57 : decode cX7_makeTables 57 = .ok (.i2l, 1) := by decide +kernel
theorem dX7_makeTables_58 : decode cX7_makeTables 58 = .ok (.iconst 2, 1) := by decide +kernel
theorem dX7_makeTables_59 : decode cX7_makeTables 59 = .ok (.invokevirtual 42, 3) := by decide +kernel
theorem dX7_makeTables_62 : decode cX7_makeTables 62 = .ok (.aload 4, 2) := by decide +kernel
theorem dX7_makeTables_64 : decode cX7_makeTables 64 = .ok (.invokevirtual 71, 3) := by decide +kernel
theorem dX7_makeTables_67 : decode cX7_makeTables 67 = .ok (.ifCond .le 34, 3) := by decide +kernel
theorem dX7_makeTables_70 : decode cX7_makeTables 70 = .ok (.aload 4, 2) := by decide +kernel
theorem dX7_makeTables_72 : decode cX7_makeTables 72 = .ok (.aload_n 1, 1) := by decide +kernel
theorem dX7_makeTables_73 : decode cX7_makeTables 73 = .ok (.invokestatic 74, 3) := by decide +kernel
theorem dX7_makeTables_76 : decode cX7_makeTables 76 = .ok (.aload 4, 2) := by decide +kernel
theorem dX7_makeTables_78 : decode cX7_makeTables 78 = .ok (.aload_n 1, 1) := by decide +kernel
theorem dX7_makeTables_79 : decode cX7_makeTables 79 = .ok (.invokestatic 78, 3) := by decide +kernel
theorem dX7_makeTables_82 : decode cX7_makeTables 82 = .ok (.aload 4, 2) := by decide +kernel
theorem dX7_makeTables_84 : decode cX7_makeTables 84 = .ok (.aload_n 1, 1) := by decide +kernel
theorem dX7_makeTables_85 : decode cX7_makeTables 85 = .ok (.invokestatic 81, 3) := by decide +kernel
theorem dX7_makeTables_88 : decode cX7_makeTables 88 = .ok (.aload_n 1, 1) := by decide +kernel
theorem dX7_makeTables_89 : decode cX7_makeTables 89 = .ok (.aload_n 1, 1) := by decide +kernel
theorem dX7_makeTables_90 : decode cX7_makeTables 90 = .ok (.invokevirtual 46, 3) := by decide +kernel
theorem dX7_makeTables_93 : decode cX7_makeTables 93 = .ok (.iload 5, 2) := by decide +kernel
theorem dX7_makeTables_95 : decode cX7_makeTables 95 = .ok (.isub, 1) := by decide +kernel
theorem dX7_makeTables_96 : decode cX7_makeTables 96 = .ok (.iconst 2, 1) := by decide +kernel
theorem dX7_makeTables_97 : decode cX7_makeTables 97 = .ok (.irem, 1) := by decide +kernel
theorem dX7_makeTables_98 : decode cX7_makeTables 98 = .ok (.invokevirtual 56, 3) := by decide +kernel
theorem dX7_makeTables_101 : decode cX7_makeTables 101 = .ok (.iinc 3 1, 3) := by decide +kernel
theorem dX7_makeTables_104 : decode cX7_makeTables 104 = .ok (.goto (-82), 3) := by decide +kernel
theorem dX7_makeTables_107 : decode cX7_makeTables 107 = .ok (.return_, 1) := by decide +kernel
theorem dX7_fillOf_0 : decode cX7_fillOf 0 = .ok (.aload_n 0, 1) := by decide +kernel
theorem dX7_fillOf_1 : decode cX7_fillOf 1 = .ok (.invokevirtual 46, 3) := by decide +kernel
theorem dX7_fillOf_4 : decode cX7_fillOf 4 = .ok (.ineg, 1) := by decide +kernel
theorem dX7_fillOf_5 : decode cX7_fillOf 5 = .ok (.iconst 4, 1) := by decide +kernel
theorem dX7_fillOf_6 : decode cX7_fillOf 6 = .ok (.invokestatic 84, 3) := by decide +kernel
theorem dX7_fillOf_9 : decode cX7_fillOf 9 = .ok (.ireturn, 1) := by decide +kernel
theorem dX7_checkOf_0 : decode cX7_checkOf 0 = .ok (.iconst 0, 1) := by decide +kernel
theorem dX7_checkOf_1 : decode cX7_checkOf 1 = .ok (.istore_n 1, 1) := by decide +kernel
theorem dX7_checkOf_2 : decode cX7_checkOf 2 = .ok (.iconst 0, 1) := by decide +kernel
theorem dX7_checkOf_3 : decode cX7_checkOf 3 = .ok (.istore_n 2, 1) := by decide +kernel
theorem dX7_checkOf_4 : decode cX7_checkOf 4 = .ok (.iload_n 2, 1) := by decide +kernel
theorem dX7_checkOf_5 : decode cX7_checkOf 5 = .ok (.aload_n 0, 1) := by decide +kernel
theorem dX7_checkOf_6 : decode cX7_checkOf 6 = .ok (.invokevirtual 46, 3) := by decide +kernel
theorem dX7_checkOf_9 : decode cX7_checkOf 9 = .ok (.if_icmp .ge 27, 3) := by decide +kernel
theorem dX7_checkOf_12 : decode cX7_checkOf 12 = .ok (.iload_n 1, 1) := by decide +kernel
theorem dX7_checkOf_13 : decode cX7_checkOf 13 = .ok (.aload_n 0, 1) := by decide +kernel
theorem dX7_checkOf_14 : decode cX7_checkOf 14 = .ok (.iload_n 2, 1) := by decide +kernel
theorem dX7_checkOf_15 : decode cX7_checkOf 15 = .ok (.invokevirtual 90, 3) := by decide +kernel
theorem dX7_checkOf_18 : decode cX7_checkOf 18 = .ok (.bipush 24, 2) := by decide +kernel
theorem dX7_checkOf_20 : decode cX7_checkOf 20 = .ok (.iload_n 2, 1) := by decide +kernel
theorem dX7_checkOf_21 : decode cX7_checkOf 21 = .ok (.iconst 4, 1) := by decide +kernel
theorem dX7_checkOf_22 : decode cX7_checkOf 22 = .ok (.irem, 1) := by decide +kernel
theorem dX7_checkOf_23 : decode cX7_checkOf 23 = .ok (.bipush 8, 2) := by decide +kernel
theorem dX7_checkOf_25 : decode cX7_checkOf 25 = .ok (.imul, 1) := by decide +kernel
theorem dX7_checkOf_26 : decode cX7_checkOf 26 = .ok (.isub, 1) := by decide +kernel
theorem dX7_checkOf_27 : decode cX7_checkOf 27 = .ok (.ishl, 1) := by decide +kernel
theorem dX7_checkOf_28 : decode cX7_checkOf 28 = .ok (.iadd, 1) := by decide +kernel
theorem dX7_checkOf_29 : decode cX7_checkOf 29 = .ok (.istore_n 1, 1) := by decide +kernel
theorem dX7_checkOf_30 : decode cX7_checkOf 30 = .ok (.iinc 2 1, 3) := by decide +kernel
theorem dX7_checkOf_33 : decode cX7_checkOf 33 = .ok (.goto (-29), 3) := by decide +kernel
theorem dX7_checkOf_36 : decode cX7_checkOf 36 = .ok (.iload_n 1, 1) := by decide +kernel
theorem dX7_checkOf_37 : decode cX7_checkOf 37 = .ok (.ireturn, 1) := by decide +kernel
theorem dX7_addContours_0 : decode cX7_addContours 0 = .ok (.aload_n 1, 1) := by decide +kernel
theorem dX7_addContours_1 : decode cX7_addContours 1 = .ok (.aload_n 0, 1) := by decide +kernel
theorem dX7_addContours_2 : decode cX7_addContours 2 = .ok (.invokevirtual 71, 3) := by decide +kernel
theorem dX7_addContours_5 : decode cX7_addContours 5 = .ok (.invokevirtual 26, 3) := by decide +kernel
theorem dX7_addContours_8 : decode cX7_addContours 8 = .ok (.iconst (-1), 1) := by decide +kernel
theorem dX7_addContours_9 : decode cX7_addContours 9 = .ok (.istore_n 2, 1) := by decide +kernel
theorem dX7_addContours_10 : decode cX7_addContours 10 = .ok (.iconst 0, 1) := by decide +kernel
theorem dX7_addContours_11 : decode cX7_addContours 11 = .ok (.istore_n 3, 1) := by decide +kernel
theorem dX7_addContours_12 : decode cX7_addContours 12 = .ok (.iload_n 3, 1) := by decide +kernel
theorem dX7_addContours_13 : decode cX7_addContours 13 = .ok (.aload_n 0, 1) := by decide +kernel
theorem dX7_addContours_14 : decode cX7_addContours 14 = .ok (.invokevirtual 71, 3) := by decide +kernel
theorem dX7_addContours_17 : decode cX7_addContours 17 = .ok (.if_icmp .ge 22, 3) := by decide +kernel
theorem dX7_addContours_20 : decode cX7_addContours 20 = .ok (.iload_n 2, 1) := by decide +kernel
theorem dX7_addContours_21 : decode cX7_addContours 21 = .ok (.aload_n 0, 1) := by decide +kernel
theorem dX7_addContours_22 : decode cX7_addContours 22 = .ok (.iload_n 3, 1) := by decide +kernel
theorem dX7_addContours_23 : decode cX7_addContours 23 = .ok (.invokevirtual 94, 3) := by decide +kernel
theorem dX7_addContours_26 : decode cX7_addContours 26 = .ok (.iadd, 1) := by decide +kernel
theorem dX7_addContours_27 : decode cX7_addContours 27 = .ok (.istore_n 2, 1) := by decide +kernel
theorem dX7_addContours_28 : decode cX7_addContours 28 = .ok (.aload_n 1, 1) := by decide +kernel
theorem dX7_addContours_29 : decode cX7_addContours 29 = .ok (.iload_n 2, 1) := by decide +kernel
theorem dX7_addContours_30 : decode cX7_addContours 30 = .ok (.invokevirtual 26, 3) := by decide +kernel
theorem dX7_addContours_33 : decode cX7_addContours 33 = .ok (.iinc 3 1, 3) := by decide +kernel
theorem dX7_addContours_36 : decode cX7_addContours 36 = .ok (.goto (-24), 3) := by decide +kernel
theorem dX7_addContours_39 : decode cX7_addContours 39 = .ok (.return_, 1) := by decide +kernel
theorem dX7_addFlags_0 : decode cX7_addFlags 0 = .ok (.iconst 0, 1) := by decide +kernel
theorem dX7_addFlags_1 : decode cX7_addFlags 1 = .ok (.istore_n 2, 1) := by decide +kernel
theorem dX7_addFlags_2 : decode cX7_addFlags 2 = .ok (.iload_n 2, 1) := by decide +kernel
theorem dX7_addFlags_3 : decode cX7_addFlags 3 = .ok (.aload_n 0, 1) := by decide +kernel
theorem dX7_addFlags_4 : decode cX7_addFlags 4 = .ok (.invokevirtual 97, 3) := by decide +kernel
theorem dX7_addFlags_7 : decode cX7_addFlags 7 = .ok (.if_icmp .ge 84, 3) := by decide +kernel
theorem dX7_addFlags_10 : decode cX7_addFlags 10 = .ok (.aload_n 0, 1) := by decide +kernel
theorem dX7_addFlags_11 : decode cX7_addFlags 11 = .ok (.iload_n 2, 1) := by decide +kernel
theorem dX7_addFlags_12 : decode cX7_addFlags 12 = .ok (.invokestatic 100, 3) := by decide +kernel
theorem dX7_addFlags_15 : decode cX7_addFlags 15 = .ok (.istore_n 3, 1) := by decide +kernel
theorem dX7_addFlags_16 : decode cX7_addFlags 16 = .ok (.iconst 0, 1) := by decide +kernel
theorem dX7_addFlags_17 : decode cX7_addFlags 17 = .ok (.istore 4, 2) := by decide +kernel
theorem dX7_addFlags_19 : decode cX7_addFlags 19 = .ok (.iload_n 2, 1) := by decide +kernel
theorem dX7_addFlags_20 : decode cX7_addFlags 20 = .ok (.iload 4, 2) := by decide +kernel
theorem dX7_addFlags_22 : decode cX7_addFlags 22 = .ok (.iadd, 1) := by decide +kernel
theorem dX7_addFlags_23 : decode cX7_addFlags 23 = .ok (.iconst 1, 1) := by decide +kernel
theorem dX7_addFlags_24 : decode cX7_addFlags 24 = .ok (.iadd, 1) := by decide +kernel
theorem dX7_addFlags_25 : decode cX7_addFlags 25 = .ok (.aload_n 0, 1) := by decide +kernel
theorem dX7_addFlags_26 : decode cX7_addFlags 26 = .ok (.invokevirtual 97, 3) := by decide +kernel
theorem dX7_addFlags_29 : decode cX7_addFlags 29 = .ok (.if_icmp .ge 23, 3) := by decide +kernel
theorem dX7_addFlags_32 : decode cX7_addFlags 32 = .ok (.aload_n 0, 1) := by decide +kernel
theorem dX7_addFlags_33 : decode cX7_addFlags 33 = .ok (.iload_n 2, 1) := by decide +kernel
theorem dX7_addFlags_34 : decode cX7_addFlags 34 = .ok (.iload 4, 2) := by decide +kernel
theorem dX7_addFlags_36 : decode cX7_addFlags 36 = .ok (.iadd, 1) := by decide +kernel
theorem dX7_addFlags_37 : decode cX7_addFlags 37 = .ok (.iconst 1, 1) := by decide +kernel
theorem dX7_addFlags_38 : decode cX7_addFlags 38 = .ok (.iadd, 1) := by decide +kernel
theorem dX7_addFlags_39 : decode cX7_addFlags 39 = .ok (.invokestatic 100, 3) := by decide +kernel
theorem dX7_addFlags_42 : decode cX7_addFlags 42 = .ok (.iload_n 3, 1) := by decide +kernel
theorem dX7_addFlags_43 : decode cX7_addFlags 43 = .ok (.if_icmp .ne 9, 3) := by decide +kernel
theorem dX7_addFlags_46 : decode cX7_addFlags 46 = .ok (.iinc 4 1, 3) := by decide +kernel
theorem dX7_addFlags_49 : decode cX7_addFlags 49 = .ok (.goto (-30), 3) := by decide +kernel
theorem dX7_addFlags_52 : decode cX7_addFlags 52 = .ok (.iload 4, 2) := by decide +kernel
theorem dX7_addFlags_54 : decode cX7_addFlags 54 = .ok (.iconst 2, 1) := by decide +kernel
theorem dX7_addFlags_55 : decode cX7_addFlags 55 = .ok (.if_icmp .lt 25, 3) := by decide +kernel
theorem dX7_addFlags_58 : decode cX7_addFlags 58 = .ok (.aload_n 1, 1) := by decide +kernel
theorem dX7_addFlags_59 : decode cX7_addFlags 59 = .ok (.iload_n 3, 1) := by decide +kernel
theorem dX7_addFlags_60 : decode cX7_addFlags 60 = .ok (.bipush 8, 2) := by decide +kernel
theorem dX7_addFlags_62 : decode cX7_addFlags 62 = .ok (.iadd, 1) := by decide +kernel
theorem dX7_addFlags_63 : decode cX7_addFlags 63 = .ok (.invokevirtual 26, 3) := by decide +kernel
theorem dX7_addFlags_66 : decode cX7_addFlags 66 = .ok (.aload_n 1, 1) := by decide +kernel
theorem dX7_addFlags_67 : decode cX7_addFlags 67 = .ok (.iload 4, 2) := by decide +kernel
theorem dX7_addFlags_69 : decode cX7_addFlags 69 = .ok (.invokevirtual 26, 3) := by decide +kernel
theorem dX7_addFlags_72 : decode cX7_addFlags 72 = .ok (.iload_n 2, 1) := by decide +kernel
theorem dX7_addFlags_73 : decode cX7_addFlags 73 = .ok (.iload 4, 2) := by decide +kernel
theorem dX7_addFlags_75 : decode cX7_addFlags 75 = .ok (.iadd, 1) := by decide +kernel
theorem dX7_addFlags_76 : decode cX7_addFlags 76 = .ok (.istore_n 2, 1) := by decide +kernel
theorem dX7_addFlags_77 : decode cX7_addFlags 77 = .ok (.goto 8, 3) := by decide +kernel
theorem dX7_addFlags_80 : decode cX7_addFlags 80 = .ok (.aload_n 1, 1) := by decide +kernel
theorem dX7_addFlags_81 : decode cX7_addFlags 81 = .ok (.iload_n 3, 1) := by decide +kernel
theorem dX7_addFlags_82 : decode cX7_addFlags 82 = .ok (.invokevirtual 26, 3) := by decide +kernel
theorem dX7_addFlags_85 : decode cX7_addFlags 85 = .ok (.iinc 2 1, 3) := by decide +kernel
theorem dX7_addFlags_88 : decode cX7_addFlags 88 = .ok (.goto (-86), 3) := by decide +kernel
theorem dX7_addFlags_91 : decode cX7_addFlags 91 = .ok (.return_, 1) := by decide +kernel
theorem dX7_flagOf_0 : decode cX7_flagOf 0 = .ok (.aload_n 0, 1) := by decide +kernel
theorem dX7_flagOf_1 : decode cX7_flagOf 1 = .ok (.iload_n 1, 1) := by decide +kernel
theorem dX7_flagOf_2 : decode cX7_flagOf 2 = .ok (.invokevirtual 104, 3) := by decide +kernel
theorem dX7_flagOf_5 : decode cX7_flagOf 5 = .ok (.ifCond .eq 7, 3) := by decide +kernel
theorem dX7_flagOf_8 : decode cX7_flagOf 8 = .ok (.iconst 1, 1) := by decide +kernel
theorem dX7_flagOf_9 : decode cX7_flagOf 9 = .ok (.goto 4, 3) := by decide +kernel
theorem dX7_flagOf_12 : decode cX7_flagOf 12 = .ok (.iconst 0, 1) := by decide +kernel
theorem dX7_flagOf_13 : decode cX7_flagOf 13 = .ok (.aload_n 0, 1) := by decide +kernel
theorem dX7_flagOf_14 : decode cX7_flagOf 14 = .ok (.iload_n 1, 1) := by decide +kernel
theorem dX7_flagOf_15 : decode cX7_flagOf 15 = .ok (.invokevirtual 107, 3) := by decide +kernel
theorem dX7_flagOf_18 : decode cX7_flagOf 18 = .ok (.iconst 2, 1) := by decide +kernel
theorem dX7_flagOf_19 : decode cX7_flagOf 19 = .ok (.bipush 16, 2) := by decide +kernel
theorem dX7_flagOf_21 : decode cX7_flagOf 21 = .ok (.invokestatic 110, 3) := by decide +kernel
theorem dX7_flagOf_24 : decode cX7_flagOf 24 = .ok (.iadd, 1) := by decide +kernel
theorem dX7_flagOf_25 : decode cX7_flagOf 25 = .ok (.aload_n 0, 1) := by decide +kernel
theorem dX7_flagOf_26 : decode cX7_flagOf 26 = .ok (.iload_n 1, 1) := by decide +kernel
theorem dX7_flagOf_27 : decode cX7_flagOf 27 = .ok (.invokevirtual 114, 3) := by decide +kernel
theorem dX7_flagOf_30 : decode cX7_flagOf 30 = .ok (.iconst 4, 1) := by decide +kernel
theorem dX7_flagOf_31 : decode cX7_flagOf 31 = .ok (.bipush 32, 2) := by decide +kernel
theorem dX7_flagOf_33 : decode cX7_flagOf 33 = .ok (.invokestatic 110, 3) := by decide +kernel
theorem dX7_flagOf_36 : decode cX7_flagOf 36 = .ok (.iadd, 1) := by decide +kernel
theorem dX7_flagOf_37 : decode cX7_flagOf 37 = .ok (.ireturn, 1) := by decide +kernel
theorem dX7_stepFlag_0 : decode cX7_stepFlag 0 = .ok (.iload_n 0, 1) := by decide +kernel
theorem dX7_stepFlag_1 : decode cX7_stepFlag 1 = .ok (.ifCond .ne 5, 3) := by decide +kernel
theorem dX7_stepFlag_4 : decode cX7_stepFlag 4 = .ok (.iload_n 2, 1) := by decide +kernel
theorem dX7_stepFlag_5 : decode cX7_stepFlag 5 = .ok (.ireturn, 1) := by decide +kernel
theorem dX7_stepFlag_6 : decode cX7_stepFlag 6 = .ok (.iload_n 0, 1) := by decide +kernel
theorem dX7_stepFlag_7 : decode cX7_stepFlag 7 = .ok (.invokestatic 117, 3) := by decide +kernel
theorem dX7_stepFlag_10 : decode cX7_stepFlag 10 = .ok (.ifCond .ne 5, 3) := by decide +kernel
theorem dX7_stepFlag_13 : decode cX7_stepFlag 13 = .ok (.iconst 0, 1) := by decide +kernel
theorem dX7_stepFlag_14 : decode cX7_stepFlag 14 = .ok (.ireturn, 1) := by decide +kernel
theorem dX7_stepFlag_15 : decode cX7_stepFlag 15 = .ok (.iload_n 0, 1) := by decide +kernel
theorem dX7_stepFlag_16 : decode cX7_stepFlag 16 = .ok (.ifCond .le 9, 3) := by decide +kernel
theorem dX7_stepFlag_19 : decode cX7_stepFlag 19 = .ok (.iload_n 1, 1) := by decide +kernel
theorem dX7_stepFlag_20 : decode cX7_stepFlag 20 = .ok (.iload_n 2, 1) := by decide +kernel
theorem dX7_stepFlag_21 : decode cX7_stepFlag 21 = .ok (.iadd, 1) := by decide +kernel
theorem dX7_stepFlag_22 : decode cX7_stepFlag 22 = .ok (.goto 4, 3) := by decide +kernel
theorem dX7_stepFlag_25 : decode cX7_stepFlag 25 = .ok (.iload_n 1, 1) := by decide +kernel
theorem dX7_stepFlag_26 : decode cX7_stepFlag 26 = .ok (.ireturn, 1) := by decide +kernel
theorem dX7_addSteps_0 : decode cX7_addSteps 0 = .ok (.iconst 0, 1) := by decide +kernel
theorem dX7_addSteps_1 : decode cX7_addSteps 1 = .ok (.istore_n 2, 1) := by decide +kernel
theorem dX7_addSteps_2 : decode cX7_addSteps 2 = .ok (.iload_n 2, 1) := by decide +kernel
theorem dX7_addSteps_3 : decode cX7_addSteps 3 = .ok (.aload_n 0, 1) := by decide +kernel
theorem dX7_addSteps_4 : decode cX7_addSteps 4 = .ok (.invokevirtual 97, 3) := by decide +kernel
theorem dX7_addSteps_7 : decode cX7_addSteps 7 = .ok (.if_icmp .ge 18, 3) := by decide +kernel
theorem dX7_addSteps_10 : decode cX7_addSteps 10 = .ok (.aload_n 0, 1) := by decide +kernel
theorem dX7_addSteps_11 : decode cX7_addSteps 11 = .ok (.iload_n 2, 1) := by decide +kernel
theorem dX7_addSteps_12 : decode cX7_addSteps 12 = .ok (.invokevirtual 107, 3) := by decide +kernel
theorem dX7_addSteps_15 : decode cX7_addSteps 15 = .ok (.aload_n 1, 1) := by decide +kernel
theorem dX7_addSteps_16 : decode cX7_addSteps 16 = .ok (.invokestatic 120, 3) := by decide +kernel
theorem dX7_addSteps_19 : decode cX7_addSteps 19 = .ok (.iinc 2 1, 3) := by decide +kernel
theorem dX7_addSteps_22 : decode cX7_addSteps 22 = .ok (.goto (-20), 3) := by decide +kernel
theorem dX7_addSteps_25 : decode cX7_addSteps 25 = .ok (.iconst 0, 1) := by decide +kernel
theorem dX7_addSteps_26 : decode cX7_addSteps 26 = .ok (.istore_n 2, 1) := by decide +kernel
theorem dX7_addSteps_27 : decode cX7_addSteps 27 = .ok (.iload_n 2, 1) := by decide +kernel
theorem dX7_addSteps_28 : decode cX7_addSteps 28 = .ok (.aload_n 0, 1) := by decide +kernel
theorem dX7_addSteps_29 : decode cX7_addSteps 29 = .ok (.invokevirtual 97, 3) := by decide +kernel
theorem dX7_addSteps_32 : decode cX7_addSteps 32 = .ok (.if_icmp .ge 18, 3) := by decide +kernel
theorem dX7_addSteps_35 : decode cX7_addSteps 35 = .ok (.aload_n 0, 1) := by decide +kernel
theorem dX7_addSteps_36 : decode cX7_addSteps 36 = .ok (.iload_n 2, 1) := by decide +kernel
theorem dX7_addSteps_37 : decode cX7_addSteps 37 = .ok (.invokevirtual 114, 3) := by decide +kernel
theorem dX7_addSteps_40 : decode cX7_addSteps 40 = .ok (.aload_n 1, 1) := by decide +kernel
theorem dX7_addSteps_41 : decode cX7_addSteps 41 = .ok (.invokestatic 120, 3) := by decide +kernel
theorem dX7_addSteps_44 : decode cX7_addSteps 44 = .ok (.iinc 2 1, 3) := by decide +kernel
theorem dX7_addSteps_47 : decode cX7_addSteps 47 = .ok (.goto (-20), 3) := by decide +kernel
theorem dX7_addSteps_50 : decode cX7_addSteps 50 = .ok (.return_, 1) := by decide +kernel
theorem dX7_addStep_0 : decode cX7_addStep 0 = .ok (.iload_n 0, 1) := by decide +kernel
theorem dX7_addStep_1 : decode cX7_addStep 1 = .ok (.ifCond .ne 4, 3) := by decide +kernel
theorem dX7_addStep_4 : decode cX7_addStep 4 = .ok (.return_, 1) := by decide +kernel
theorem dX7_addStep_5 : decode cX7_addStep 5 = .ok (.iload_n 0, 1) := by decide +kernel
theorem dX7_addStep_6 : decode cX7_addStep 6 = .ok (.invokestatic 117, 3) := by decide +kernel
theorem dX7_addStep_9 : decode cX7_addStep 9 = .ok (.ifCond .eq 14, 3) := by decide +kernel
theorem dX7_addStep_12 : decode cX7_addStep 12 = .ok (.aload_n 1, 1) := by decide +kernel
theorem dX7_addStep_13 : decode cX7_addStep 13 = .ok (.iload_n 0, 1) := by decide +kernel
theorem dX7_addStep_14 : decode cX7_addStep 14 = .ok (.invokestatic 124, 3) := by decide +kernel
theorem dX7_addStep_17 : decode cX7_addStep 17 = .ok (.invokevirtual 26, 3) := by decide +kernel
theorem dX7_addStep_20 : decode cX7_addStep 20 = .ok (.goto 10, 3) := by decide +kernel
theorem dX7_addStep_23 : decode cX7_addStep 23 = .ok (.aload_n 1, 1) := by decide +kernel
theorem dX7_addStep_24 : decode cX7_addStep 24 = .ok (.iload_n 0, 1) := by decide +kernel
theorem dX7_addStep_25 : decode cX7_addStep 25 = .ok (.i2l, 1) := by decide +kernel
theorem dX7_addStep_26 : decode cX7_addStep 26 = .ok (.iconst 2, 1) := by decide +kernel
theorem dX7_addStep_27 : decode cX7_addStep 27 = .ok (.invokevirtual 42, 3) := by decide +kernel
theorem dX7_addStep_30 : decode cX7_addStep 30 = .ok (.return_, 1) := by decide +kernel
theorem dX7_isSmall_0 : decode cX7_isSmall 0 = .ok (.iload_n 0, 1) := by decide +kernel
theorem dX7_isSmall_1 : decode cX7_isSmall 1 = .ok (.sipush (-255), 3) := by decide +kernel
theorem dX7_isSmall_4 : decode cX7_isSmall 4 = .ok (.if_icmp .lt 14, 3) := by decide +kernel
theorem dX7_isSmall_7 : decode cX7_isSmall 7 = .ok (.iload_n 0, 1) := by decide +kernel
theorem dX7_isSmall_8 : decode cX7_isSmall 8 = .ok (.sipush 255, 3) := by decide +kernel
theorem dX7_isSmall_11 : decode cX7_isSmall 11 = .ok (.if_icmp .gt 7, 3) := by decide +kernel
theorem dX7_isSmall_14 : decode cX7_isSmall 14 = .ok (.iconst 1, 1) := by decide +kernel
theorem dX7_isSmall_15 : decode cX7_isSmall 15 = .ok (.goto 4, 3) := by decide +kernel
theorem dX7_isSmall_18 : decode cX7_isSmall 18 = .ok (.iconst 0, 1) := by decide +kernel
theorem dX7_isSmall_19 : decode cX7_isSmall 19 = .ok (.ireturn, 1) := by decide +kernel
theorem dX8_init_0 : decode cX8_init 0 = .ok (.aload_n 0, 1) := by decide +kernel
theorem dX8_init_1 : decode cX8_init 1 = .ok (.invokespecial 1, 3) := by decide +kernel
theorem dX8_init_4 : decode cX8_init 4 = .ok (.aload_n 0, 1) := by decide +kernel
theorem dX8_init_5 : decode cX8_init 5 = .ok (.iconst 0, 1) := by decide +kernel
theorem dX8_init_6 : decode cX8_init 6 = .ok (.putfield 7, 3) := by decide +kernel
theorem dX8_init_9 : decode cX8_init 9 = .ok (.aload_n 0, 1) := by decide +kernel
theorem dX8_init_10 : decode cX8_init 10 = .ok (.iload_n 1, 1) := by decide +kernel
theorem dX8_init_11 : decode cX8_init 11 = .ok (.iconst 0, 1) := by decide +kernel
theorem dX8_init_12 : decode cX8_init 12 = .ok (.invokestatic 13, 3) := by decide +kernel
theorem dX8_init_15 : decode cX8_init 15 = .ok (.newarray .int, 2) := by decide +kernel
theorem dX8_init_17 : decode cX8_init 17 = .ok (.putfield 19, 3) := by decide +kernel
theorem dX8_init_20 : decode cX8_init 20 = .ok (.return_, 1) := by decide +kernel
theorem dX8_length_0 : decode cX8_length 0 = .ok (.aload_n 0, 1) := by decide +kernel
theorem dX8_length_1 : decode cX8_length 1 = .ok (.getfield 7, 3) := by decide +kernel
theorem dX8_length_4 : decode cX8_length 4 = .ok (.ireturn, 1) := by decide +kernel
theorem dX8_get_0 : decode cX8_get 0 = .ok (.iload_n 1, 1) := by decide +kernel
theorem dX8_get_1 : decode cX8_get 1 = .ok (.ifCond .lt 29, 3) := by decide +kernel
theorem dX8_get_4 : decode cX8_get 4 = .ok (.iload_n 1, 1) := by decide +kernel
theorem dX8_get_5 : decode cX8_get 5 = .ok (.aload_n 0, 1) := by decide +kernel
theorem dX8_get_6 : decode cX8_get 6 = .ok (.getfield 7, 3) := by decide +kernel
theorem dX8_get_9 : decode cX8_get 9 = .ok (.if_icmp .ge 21, 3) := by decide +kernel
theorem dX8_get_12 : decode cX8_get 12 = .ok (.iload_n 1, 1) := by decide +kernel
theorem dX8_get_13 : decode cX8_get 13 = .ok (.aload_n 0, 1) := by decide +kernel
theorem dX8_get_14 : decode cX8_get 14 = .ok (.getfield 19, 3) := by decide +kernel
theorem dX8_get_17 : decode cX8_get 17 = .ok (.arraylength, 1) := by decide +kernel
theorem dX8_get_18 : decode cX8_get 18 = .ok (.if_icmp .ge 12, 3) := by decide +kernel
theorem dX8_get_21 : decode cX8_get 21 = .ok (.aload_n 0, 1) := by decide +kernel
theorem dX8_get_22 : decode cX8_get 22 = .ok (.getfield 19, 3) := by decide +kernel
theorem dX8_get_25 : decode cX8_get 25 = .ok (.iload_n 1, 1) := by decide +kernel
theorem dX8_get_26 : decode cX8_get 26 = .ok (.iaload, 1) := by decide +kernel
theorem dX8_get_27 : decode cX8_get 27 = .ok (.goto 4, 3) := by decide +kernel
theorem dX8_get_30 : decode cX8_get 30 = .ok (.iconst 0, 1) := by decide +kernel
theorem dX8_get_31 : decode cX8_get 31 = .ok (.ireturn, 1) := by decide +kernel
theorem dX8_latest_0 : decode cX8_latest 0 = .ok (.aload_n 0, 1) := by decide +kernel
theorem dX8_latest_1 : decode cX8_latest 1 = .ok (.aload_n 0, 1) := by decide +kernel
theorem dX8_latest_2 : decode cX8_latest 2 = .ok (.getfield 7, 3) := by decide +kernel
theorem dX8_latest_5 : decode cX8_latest 5 = .ok (.iconst 1, 1) := by decide +kernel
theorem dX8_latest_6 : decode cX8_latest 6 = .ok (.isub, 1) := by decide +kernel
theorem dX8_latest_7 : decode cX8_latest 7 = .ok (.invokevirtual 23, 3) := by decide +kernel
theorem dX8_latest_10 : decode cX8_latest 10 = .ok (.ireturn, 1) := by decide +kernel
theorem dX8_change_0 : decode cX8_change 0 = .ok (.iload_n 1, 1) := by decide +kernel
theorem dX8_change_1 : decode cX8_change 1 = .ok (.ifCond .lt 27, 3) := by decide +kernel
theorem dX8_change_4 : decode cX8_change 4 = .ok (.iload_n 1, 1) := by decide +kernel
theorem dX8_change_5 : decode cX8_change 5 = .ok (.aload_n 0, 1) := by decide +kernel
theorem dX8_change_6 : decode cX8_change 6 = .ok (.getfield 7, 3) := by decide +kernel
theorem dX8_change_9 : decode cX8_change 9 = .ok (.if_icmp .ge 19, 3) := by decide +kernel
theorem dX8_change_12 : decode cX8_change 12 = .ok (.iload_n 1, 1) := by decide +kernel
theorem dX8_change_13 : decode cX8_change 13 = .ok (.aload_n 0, 1) := by decide +kernel
theorem dX8_change_14 : decode cX8_change 14 = .ok (.getfield 19, 3) := by decide +kernel
theorem dX8_change_17 : decode cX8_change 17 = .ok (.arraylength, 1) := by decide +kernel
theorem dX8_change_18 : decode cX8_change 18 = .ok (.if_icmp .ge 10, 3) := by decide +kernel
theorem dX8_change_21 : decode cX8_change 21 = .ok (.aload_n 0, 1) := by decide +kernel
theorem dX8_change_22 : decode cX8_change 22 = .ok (.getfield 19, 3) := by decide +kernel
theorem dX8_change_25 : decode cX8_change 25 = .ok (.iload_n 1, 1) := by decide +kernel
theorem dX8_change_26 : decode cX8_change 26 = .ok (.iload_n 2, 1) := by decide +kernel
theorem dX8_change_27 : decode cX8_change 27 = .ok (.iastore, 1) := by decide +kernel
theorem dX8_change_28 : decode cX8_change 28 = .ok (.return_, 1) := by decide +kernel
theorem dX8_add_0 : decode cX8_add 0 = .ok (.aload_n 0, 1) := by decide +kernel
theorem dX8_add_1 : decode cX8_add 1 = .ok (.getfield 7, 3) := by decide +kernel
theorem dX8_add_4 : decode cX8_add 4 = .ok (.ifCond .lt 35, 3) := by decide +kernel
theorem dX8_add_7 : decode cX8_add 7 = .ok (.aload_n 0, 1) := by decide +kernel
theorem dX8_add_8 : decode cX8_add 8 = .ok (.getfield 7, 3) := by decide +kernel
theorem dX8_add_11 : decode cX8_add 11 = .ok (.aload_n 0, 1) := by decide +kernel
theorem dX8_add_12 : decode cX8_add 12 = .ok (.getfield 19, 3) := by decide +kernel
theorem dX8_add_15 : decode cX8_add 15 = .ok (.arraylength, 1) := by decide +kernel
theorem dX8_add_16 : decode cX8_add 16 = .ok (.if_icmp .ge 23, 3) := by decide +kernel
theorem dX8_add_19 : decode cX8_add 19 = .ok (.aload_n 0, 1) := by decide +kernel
theorem dX8_add_20 : decode cX8_add 20 = .ok (.getfield 19, 3) := by decide +kernel
theorem dX8_add_23 : decode cX8_add 23 = .ok (.aload_n 0, 1) := by decide +kernel
theorem dX8_add_24 : decode cX8_add 24 = .ok (.getfield 7, 3) := by decide +kernel
theorem dX8_add_27 : decode cX8_add 27 = .ok (.iload_n 1, 1) := by decide +kernel
theorem dX8_add_28 : decode cX8_add 28 = .ok (.iastore, 1) := by decide +kernel
theorem dX8_add_29 : decode cX8_add 29 = .ok (.aload_n 0, 1) := by decide +kernel
theorem dX8_add_30 : decode cX8_add 30 = .ok (.dup, 1) := by decide +kernel
theorem dX8_add_31 : decode cX8_add 31 = .ok (.getfield 7, 3) := by decide +kernel
theorem dX8_add_34 : decode cX8_add 34 = .ok (.iconst 1, 1) := by decide +kernel
theorem dX8_add_35 : decode cX8_add 35 = .ok (.iadd, 1) := by decide +kernel
theorem dX8_add_36 : decode cX8_add 36 = .ok (.putfield 7, 3) := by decide +kernel
theorem dX8_add_39 : decode cX8_add 39 = .ok (.return_, 1) := by decide +kernel
theorem dX8_makeEmpty_0 : decode cX8_makeEmpty 0 = .ok (.aload_n 0, 1) := by decide +kernel
theorem dX8_makeEmpty_1 : decode cX8_makeEmpty 1 = .ok (.iconst 0, 1) := by decide +kernel
theorem dX8_makeEmpty_2 : decode cX8_makeEmpty 2 = .ok (.putfield 7, 3) := by decide +kernel
theorem dX8_makeEmpty_5 : decode cX8_makeEmpty 5 = .ok (.return_, 1) := by decide +kernel
theorem dX8_keepFirst_0 : decode cX8_keepFirst 0 = .ok (.iload_n 1, 1) := by decide +kernel
theorem dX8_keepFirst_1 : decode cX8_keepFirst 1 = .ok (.ifCond .lt 16, 3) := by decide +kernel
theorem dX8_keepFirst_4 : decode cX8_keepFirst 4 = .ok (.iload_n 1, 1) := by decide +kernel
theorem dX8_keepFirst_5 : decode cX8_keepFirst 5 = .ok (.aload_n 0, 1) := by decide +kernel
theorem dX8_keepFirst_6 : decode cX8_keepFirst 6 = .ok (.getfield 7, 3) := by decide +kernel
theorem dX8_keepFirst_9 : decode cX8_keepFirst 9 = .ok (.if_icmp .ge 8, 3) := by decide +kernel
theorem dX8_keepFirst_12 : decode cX8_keepFirst 12 = .ok (.aload_n 0, 1) := by decide +kernel
theorem dX8_keepFirst_13 : decode cX8_keepFirst 13 = .ok (.iload_n 1, 1) := by decide +kernel
theorem dX8_keepFirst_14 : decode cX8_keepFirst 14 = .ok (.putfield 7, 3) := by decide +kernel
theorem dX8_keepFirst_17 : decode cX8_keepFirst 17 = .ok (.return_, 1) := by decide +kernel
theorem dX8_addZeros_0 : decode cX8_addZeros 0 = .ok (.iconst 0, 1) := by decide +kernel
theorem dX8_addZeros_1 : decode cX8_addZeros 1 = .ok (.istore_n 2, 1) := by decide +kernel
theorem dX8_addZeros_2 : decode cX8_addZeros 2 = .ok (.iload_n 2, 1) := by decide +kernel
theorem dX8_addZeros_3 : decode cX8_addZeros 3 = .ok (.iload_n 1, 1) := by decide +kernel
theorem dX8_addZeros_4 : decode cX8_addZeros 4 = .ok (.if_icmp .ge 14, 3) := by decide +kernel
theorem dX8_addZeros_7 : decode cX8_addZeros 7 = .ok (.aload_n 0, 1) := by decide +kernel
theorem dX8_addZeros_8 : decode cX8_addZeros 8 = .ok (.iconst 0, 1) := by decide +kernel
theorem dX8_addZeros_9 : decode cX8_addZeros 9 = .ok (.invokevirtual 27, 3) := by decide +kernel
theorem dX8_addZeros_12 : decode cX8_addZeros 12 = .ok (.iinc 2 1, 3) := by decide +kernel
theorem dX8_addZeros_15 : decode cX8_addZeros 15 = .ok (.goto (-13), 3) := by decide +kernel
theorem dX8_addZeros_18 : decode cX8_addZeros 18 = .ok (.return_, 1) := by decide +kernel
theorem dX8_addRow_0 : decode cX8_addRow 0 = .ok (.iconst 0, 1) := by decide +kernel
theorem dX8_addRow_1 : decode cX8_addRow 1 = .ok (.istore_n 2, 1) := by decide +kernel
theorem dX8_addRow_2 : decode cX8_addRow 2 = .ok (.iload_n 2, 1) := by decide +kernel
theorem dX8_addRow_3 : decode cX8_addRow 3 = .ok (.aload_n 1, 1) := by decide +kernel
theorem dX8_addRow_4 : decode cX8_addRow 4 = .ok (.getfield 7, 3) := by decide +kernel
theorem dX8_addRow_7 : decode cX8_addRow 7 = .ok (.if_icmp .ge 18, 3) := by decide +kernel
theorem dX8_addRow_10 : decode cX8_addRow 10 = .ok (.aload_n 0, 1) := by decide +kernel
theorem dX8_addRow_11 : decode cX8_addRow 11 = .ok (.aload_n 1, 1) := by decide +kernel
theorem dX8_addRow_12 : decode cX8_addRow 12 = .ok (.iload_n 2, 1) := by decide +kernel
theorem dX8_addRow_13 : decode cX8_addRow 13 = .ok (.invokevirtual 23, 3) := by decide +kernel
theorem dX8_addRow_16 : decode cX8_addRow 16 = .ok (.invokevirtual 27, 3) := by decide +kernel
theorem dX8_addRow_19 : decode cX8_addRow 19 = .ok (.iinc 2 1, 3) := by decide +kernel
theorem dX8_addRow_22 : decode cX8_addRow 22 = .ok (.goto (-20), 3) := by decide +kernel
theorem dX8_addRow_25 : decode cX8_addRow 25 = .ok (.return_, 1) := by decide +kernel
theorem dX8_addNumber_0 : decode cX8_addNumber 0 = .ok (.iload_n 3, 1) := by decide +kernel
theorem dX8_addNumber_1 : decode cX8_addNumber 1 = .ok (.iconst 1, 1) := by decide +kernel
theorem dX8_addNumber_2 : decode cX8_addNumber 2 = .ok (.isub, 1) := by decide +kernel
theorem dX8_addNumber_3 : decode cX8_addNumber 3 = .ok (.istore 4, 2) := by decide +kernel
theorem dX8_addNumber_5 : decode cX8_addNumber 5 = .ok (.iload 4, 2) := by decide +kernel
theorem dX8_addNumber_7 : decode cX8_addNumber 7 = .ok (.ifCond .lt 25, 3) := by decide +kernel
theorem dX8_addNumber_10 : decode cX8_addNumber 10 = .ok (.aload_n 0, 1) := by decide +kernel
theorem dX8_addNumber_11 : decode cX8_addNumber 11 = .ok (.lload_n 1, 1) := by decide +kernel
theorem dX8_addNumber_12 : decode cX8_addNumber 12 = .ok (.bipush 8, 2) := by decide +kernel
theorem dX8_addNumber_14 : decode cX8_addNumber 14 = .ok (.iload 4, 2) := by decide +kernel
theorem dX8_addNumber_16 : decode cX8_addNumber 16 = .ok (.imul, 1) := by decide +kernel
theorem dX8_addNumber_17 : decode cX8_addNumber 17 = .ok (.lshr, 1) := by decide +kernel
theorem dX8_addNumber_18 : decode cX8_addNumber 18 = .ok (.ldc2_w 31, 3) := by decide +kernel
theorem dX8_addNumber_21 : decode cX8_addNumber 21 = .ok (.land, 1) := by decide +kernel
theorem dX8_addNumber_22 : decode cX8_addNumber 22 = .ok (.l2i, 1) := by decide +kernel
theorem dX8_addNumber_23 : decode cX8_addNumber 23 = .ok (.invokevirtual 27, 3) := by decide +kernel
theorem dX8_addNumber_26 : decode cX8_addNumber 26 = .ok (.iinc 4 (-1), 3) := by decide +kernel
theorem dX8_addNumber_29 : decode cX8_addNumber 29 = .ok (.goto (-24), 3) := by decide +kernel
theorem dX8_addNumber_32 : decode cX8_addNumber 32 = .ok (.return_, 1) := by decide +kernel
theorem dX8_addShort_0 : decode cX8_addShort 0 = .ok (.iload_n 1, 1) := by decide +kernel
theorem dX8_addShort_1 : decode cX8_addShort 1 = .ok (.sipush 253, 3) := by decide +kernel
theorem dX8_addShort_4 : decode cX8_addShort 4 = .ok (.if_icmp .ge 11, 3) := by decide +kernel
theorem dX8_addShort_7 : decode cX8_addShort 7 = .ok (.aload_n 0, 1) := by decide +kernel
theorem dX8_addShort_8 : decode cX8_addShort 8 = .ok (.iload_n 1, 1) := by decide +kernel
theorem dX8_addShort_9 : decode cX8_addShort 9 = .ok (.invokevirtual 27, 3) := by decide +kernel
theorem dX8_addShort_12 : decode cX8_addShort 12 = .ok (.goto 69, 3) := by decide +kernel
theorem dX8_addShort_15 : decode cX8_addShort 15 = .ok (.iload_n 1, 1) := by decide +kernel
theorem dX8_addShort_16 : decode cX8_addShort 16 = .ok (.sipush 505, 3) := by decide +kernel
theorem dX8_addShort_19 : decode cX8_addShort 19 = .ok (.if_icmp .gt 22, 3) := by decide +kernel
theorem dX8_addShort_22 : decode cX8_addShort 22 = .ok (.aload_n 0, 1) := by decide +kernel
theorem dX8_addShort_23 : decode cX8_addShort 23 = .ok (.sipush 255, 3) := by decide +kernel
theorem dX8_addShort_26 : decode cX8_addShort 26 = .ok (.invokevirtual 27, 3) := by decide +kernel
theorem dX8_addShort_29 : decode cX8_addShort 29 = .ok (.aload_n 0, 1) := by decide +kernel
theorem dX8_addShort_30 : decode cX8_addShort 30 = .ok (.iload_n 1, 1) := by decide +kernel
theorem dX8_addShort_31 : decode cX8_addShort 31 = .ok (.sipush 253, 3) := by decide +kernel
theorem dX8_addShort_34 : decode cX8_addShort 34 = .ok (.isub, 1) := by decide +kernel
theorem dX8_addShort_35 : decode cX8_addShort 35 = .ok (.invokevirtual 27, 3) := by decide +kernel
theorem dX8_addShort_38 : decode cX8_addShort 38 = .ok (.goto 43, 3) := by decide +kernel
theorem dX8_addShort_41 : decode cX8_addShort 41 = .ok (.iload_n 1, 1) := by decide +kernel
theorem dX8_addShort_42 : decode cX8_addShort 42 = .ok (.sipush 761, 3) := by decide +kernel
theorem dX8_addShort_45 : decode cX8_addShort 45 = .ok (.if_icmp .gt 22, 3) := by decide +kernel
theorem dX8_addShort_48 : decode cX8_addShort 48 = .ok (.aload_n 0, 1) := by decide +kernel
theorem dX8_addShort_49 : decode cX8_addShort 49 = .ok (.sipush 254, 3) := by decide +kernel
theorem dX8_addShort_52 : decode cX8_addShort 52 = .ok (.invokevirtual 27, 3) := by decide +kernel
theorem dX8_addShort_55 : decode cX8_addShort 55 = .ok (.aload_n 0, 1) := by decide +kernel
theorem dX8_addShort_56 : decode cX8_addShort 56 = .ok (.iload_n 1, 1) := by decide +kernel
theorem dX8_addShort_57 : decode cX8_addShort 57 = .ok (.sipush 506, 3) := by decide +kernel
theorem dX8_addShort_60 : decode cX8_addShort 60 = .ok (.isub, 1) := by decide +kernel
theorem dX8_addShort_61 : decode cX8_addShort 61 = .ok (.invokevirtual 27, 3) := by decide +kernel
theorem dX8_addShort_64 : decode cX8_addShort 64 = .ok (.goto 17, 3) := by decide +kernel
theorem dX8_addShort_67 : decode cX8_addShort 67 = .ok (.aload_n 0, 1) := by decide +kernel
theorem dX8_addShort_68 : decode cX8_addShort 68 = .ok (.sipush 253, 3) := by decide +kernel
theorem dX8_addShort_71 : decode cX8_addShort 71 = .ok (.invokevirtual 27, 3) := by decide +kernel
theorem dX8_addShort_74 : decode cX8_addShort 74 = .ok (.aload_n 0, 1) := by decide +kernel
theorem dX8_addShort_75 : decode cX8_addShort 75 = .ok (.iload_n 1, 1) := by decide +kernel
theorem dX8_addShort_76 : decode cX8_addShort 76 = .ok (.i2l, 1) := by decide +kernel
theorem dX8_addShort_77 : decode cX8_addShort 77 = .ok (.iconst 2, 1) := by decide +kernel
theorem dX8_addShort_78 : decode cX8_addShort 78 = .ok (.invokevirtual 33, 3) := by decide +kernel
theorem dX8_addShort_81 : decode cX8_addShort 81 = .ok (.return_, 1) := by decide +kernel
theorem dX8_addLong_0 : decode cX8_addLong 0 = .ok (.iload_n 1, 1) := by decide +kernel
theorem dX8_addLong_1 : decode cX8_addLong 1 = .ok (.sipush 128, 3) := by decide +kernel
theorem dX8_addLong_4 : decode cX8_addLong 4 = .ok (.if_icmp .lt 16, 3) := by decide +kernel
theorem dX8_addLong_7 : decode cX8_addLong 7 = .ok (.aload_n 0, 1) := by decide +kernel
theorem dX8_addLong_8 : decode cX8_addLong 8 = .ok (.sipush 128, 3) := by decide +kernel
theorem dX8_addLong_11 : decode cX8_addLong 11 = .ok (.iload_n 1, 1) := by decide +kernel
theorem dX8_addLong_12 : decode cX8_addLong 12 = .ok (.sipush 128, 3) := by decide +kernel
theorem dX8_addLong_15 : decode cX8_addLong 15 = .ok (.idiv, 1) := by decide +kernel
theorem dX8_addLong_16 : decode cX8_addLong 16 = .ok (.iadd, 1) := by decide +kernel
theorem dX8_addLong_17 : decode cX8_addLong 17 = .ok (.invokevirtual 27, 3) := by decide +kernel
theorem dX8_addLong_20 : decode cX8_addLong 20 = .ok (.aload_n 0, 1) := by decide +kernel
theorem dX8_addLong_21 : decode cX8_addLong 21 = .ok (.iload_n 1, 1) := by decide +kernel
theorem dX8_addLong_22 : decode cX8_addLong 22 = .ok (.sipush 128, 3) := by decide +kernel
theorem dX8_addLong_25 : decode cX8_addLong 25 = .ok (.irem, 1) := by decide +kernel
theorem dX8_addLong_26 : decode cX8_addLong 26 = .ok (.invokevirtual 27, 3) := by decide +kernel
theorem dX8_addLong_29 : decode cX8_addLong 29 = .ok (.return_, 1) := by decide +kernel
theorem dX8_sameFrom_0 : decode cX8_sameFrom 0 = .ok (.iload_n 2, 1) := by decide +kernel
theorem dX8_sameFrom_1 : decode cX8_sameFrom 1 = .ok (.iconst 1, 1) := by decide +kernel
theorem dX8_sameFrom_2 : decode cX8_sameFrom 2 = .ok (.if_icmp .lt 20, 3) := by decide +kernel
theorem dX8_sameFrom_5 : decode cX8_sameFrom 5 = .ok (.iload_n 2, 1) := by decide +kernel
theorem dX8_sameFrom_6 : decode cX8_sameFrom 6 = .ok (.iload_n 1, 1) := by decide +kernel
theorem dX8_sameFrom_7 : decode cX8_sameFrom 7 = .ok (.if_icmp .gt 15, 3) := by decide +kernel
theorem dX8_sameFrom_10 : decode cX8_sameFrom 10 = .ok (.aload_n 0, 1) := by decide +kernel
theorem dX8_sameFrom_11 : decode cX8_sameFrom 11 = .ok (.getfield 7, 3) := by decide +kernel
theorem dX8_sameFrom_14 : decode cX8_sameFrom 14 = .ok (.aload_n 0, 1) := by decide +kernel
theorem dX8_sameFrom_15 : decode cX8_sameFrom 15 = .ok (.getfield 19, 3) := by decide +kernel
theorem dX8_sameFrom_18 : decode cX8_sameFrom 18 = .ok (.arraylength, 1) := by decide +kernel
theorem dX8_sameFrom_19 : decode cX8_sameFrom 19 = .ok (.if_icmp .le 5, 3) := by decide +kernel
theorem dX8_sameFrom_22 : decode cX8_sameFrom 22 = .ok (.iconst 0, 1) := by decide +kernel
theorem dX8_sameFrom_23 : decode cX8_sameFrom 23 = .ok (.ireturn, 1) := by decide +kernel
theorem dX8_sameFrom_24 : decode cX8_sameFrom 24 = .ok (.iconst 0, 1) := by decide +kernel
theorem dX8_sameFrom_25 : decode cX8_sameFrom 25 = .ok (.istore_n 3, 1) := by decide +kernel
theorem dX8_sameFrom_26 : decode cX8_sameFrom 26 = .ok (.iload_n 1, 1) := by decide +kernel
theorem dX8_sameFrom_27 : decode cX8_sameFrom 27 = .ok (.iload_n 3, 1) := by decide +kernel
theorem dX8_sameFrom_28 : decode cX8_sameFrom 28 = .ok (.iadd, 1) := by decide +kernel
theorem dX8_sameFrom_29 : decode cX8_sameFrom 29 = .ok (.aload_n 0, 1) := by decide +kernel
theorem dX8_sameFrom_30 : decode cX8_sameFrom 30 = .ok (.getfield 7, 3) := by decide +kernel
theorem dX8_sameFrom_33 : decode cX8_sameFrom 33 = .ok (.if_icmp .ge 30, 3) := by decide +kernel
theorem dX8_sameFrom_36 : decode cX8_sameFrom 36 = .ok (.aload_n 0, 1) := by decide +kernel
theorem dX8_sameFrom_37 : decode cX8_sameFrom 37 = .ok (.getfield 19, 3) := by decide +kernel
theorem dX8_sameFrom_40 : decode cX8_sameFrom 40 = .ok (.iload_n 1, 1) := by decide +kernel
theorem dX8_sameFrom_41 : decode cX8_sameFrom 41 = .ok (.iload_n 3, 1) := by decide +kernel
theorem dX8_sameFrom_42 : decode cX8_sameFrom 42 = .ok (.iadd, 1) := by decide +kernel
theorem dX8_sameFrom_43 : decode cX8_sameFrom 43 = .ok (.iaload, 1) := by decide +kernel
theorem dX8_sameFrom_44 : decode cX8_sameFrom 44 = .ok (.aload_n 0, 1) := by decide +kernel
theorem dX8_sameFrom_45 : decode cX8_sameFrom 45 = .ok (.getfield 19, 3) := by decide +kernel
theorem dX8_sameFrom_48 : decode cX8_sameFrom 48 = .ok (.iload_n 1, 1) := by decide +kernel
theorem dX8_sameFrom_49 : decode cX8_sameFrom 49 = .ok (.iload_n 3, 1) := by decide +kernel
theorem dX8_sameFrom_50 : decode cX8_sameFrom 50 = .ok (.iadd, 1) := by decide +kernel
theorem dX8_sameFrom_51 : decode cX8_sameFrom 51 = .ok (.iload_n 2, 1) := by decide +kernel
theorem dX8_sameFrom_52 : decode cX8_sameFrom 52 = .ok (.isub, 1) := by decide +kernel
theorem dX8_sameFrom_53 : decode cX8_sameFrom 53 = .ok (.iaload, 1) := by decide +kernel
theorem dX8_sameFrom_54 : decode cX8_sameFrom 54 = .ok (.if_icmp .ne 9, 3) := by decide +kernel
theorem dX8_sameFrom_57 : decode cX8_sameFrom 57 = .ok (.iinc 3 1, 3) := by decide +kernel
theorem dX8_sameFrom_60 : decode cX8_sameFrom 60 = .ok (.goto (-34), 3) := by decide +kernel
theorem dX8_sameFrom_63 : decode cX8_sameFrom 63 = .ok (.iload_n 3, 1) := by decide +kernel
theorem dX8_sameFrom_64 : decode cX8_sameFrom 64 = .ok (.ireturn, 1) := by decide +kernel
theorem dX9_init_0 : decode cX9_init 0 = .ok (.aload_n 0, 1) := by decide +kernel
theorem dX9_init_1 : decode cX9_init 1 = .ok (.invokespecial 3, 3) := by decide +kernel
theorem dX9_init_4 : decode cX9_init 4 = .ok (.aload_n 0, 1) := by decide +kernel
theorem dX9_init_5 : decode cX9_init 5 = .ok (.new 9, 3) := by decide +kernel
theorem dX9_init_8 : decode cX9_init 8 = .ok (.dup, 1) := by decide +kernel
theorem dX9_init_9 : decode cX9_init 9 = .ok (.sipush 384, 3) := by decide +kernel
theorem dX9_init_12 : decode cX9_init 12 = .ok (.invokespecial 13, 3) := by decide +kernel
theorem dX9_init_15 : decode cX9_init 15 = .ok (.putfield 16, 3) := by decide +kernel
theorem dX9_init_18 : decode cX9_init 18 = .ok (.return_, 1) := by decide +kernel
theorem dX9_makeTables_0 : decode cX9_makeTables 0 = .ok (.aload_n 1, 1) := by decide +kernel
theorem dX9_makeTables_1 : decode cX9_makeTables 1 = .ok (.iconst 0, 1) := by decide +kernel
theorem dX9_makeTables_2 : decode cX9_makeTables 2 = .ok (.invokevirtual 20, 3) := by decide +kernel
theorem dX9_makeTables_5 : decode cX9_makeTables 5 = .ok (.astore_n 2, 1) := by decide +kernel
theorem dX9_makeTables_6 : decode cX9_makeTables 6 = .ok (.aload_n 1, 1) := by decide +kernel
theorem dX9_makeTables_7 : decode cX9_makeTables 7 = .ok (.iconst 1, 1) := by decide +kernel
theorem dX9_makeTables_8 : decode cX9_makeTables 8 = .ok (.invokevirtual 20, 3) := by decide +kernel
theorem dX9_makeTables_11 : decode cX9_makeTables 11 = .ok (.astore_n 3, 1) := by decide +kernel
theorem dX9_makeTables_12 : decode cX9_makeTables 12 = .ok (.aload_n 2, 1) := by decide +kernel
theorem dX9_makeTables_13 : decode cX9_makeTables 13 = .ok (.invokevirtual 26, 3) := by decide +kernel
theorem dX9_makeTables_16 : decode cX9_makeTables 16 = .ok (.aload_n 3, 1) := by decide +kernel
theorem dX9_makeTables_17 : decode cX9_makeTables 17 = .ok (.invokevirtual 26, 3) := by decide +kernel
theorem dX9_makeTables_20 : decode cX9_makeTables 20 = .ok (.aload_n 0, 1) := by decide +kernel
theorem dX9_makeTables_21 : decode cX9_makeTables 21 = .ok (.getfield 16, 3) := by decide +kernel
theorem dX9_makeTables_24 : decode cX9_makeTables 24 = .ok (.invokevirtual 26, 3) := by decide +kernel
theorem dX9_makeTables_27 : decode cX9_makeTables 27 = .ok (.aload_n 1, 1) := by decide +kernel
theorem dX9_makeTables_28 : decode cX9_makeTables 28 = .ok (.aload_n 2, 1) := by decide +kernel
theorem dX9_makeTables_29 : decode cX9_makeTables 29 = .ok (.invokestatic 29, 3) := by decide +kernel
theorem dX9_makeTables_32 : decode cX9_makeTables 32 = .ok (.iconst 0, 1) := by decide +kernel
theorem dX9_makeTables_33 : decode cX9_makeTables 33 = .ok (.istore 4, 2) := by decide +kernel
theorem dX9_makeTables_35 : decode cX9_makeTables 35 = .ok (.iload 4, 2) := by decide +kernel
theorem dX9_makeTables_37 : decode cX9_makeTables 37 = .ok (.aload_n 1, 1) := by decide +kernel
theorem dX9_makeTables_38 : decode cX9_makeTables 38 = .ok (.invokevirtual 33, 3) := by decide +kernel
theorem dX9_makeTables_41 : decode cX9_makeTables 41 = .ok (.if_icmp .ge 81, 3) := by decide +kernel
theorem dX9_makeTables_44 : decode cX9_makeTables 44 = .ok (.aload_n 1, 1) := by decide +kernel
theorem dX9_makeTables_45 : decode cX9_makeTables 45 = .ok (.iload 4, 2) := by decide +kernel
theorem dX9_makeTables_47 : decode cX9_makeTables 47 = .ok (.invokevirtual 37, 3) := by decide +kernel
theorem dX9_makeTables_50 : decode cX9_makeTables 50 = .ok (.astore 5, 2) := by decide +kernel
theorem dX9_makeTables_52 : decode cX9_makeTables 52 = .ok (.iconst 0, 1) := by decide +kernel
theorem dX9_makeTables_53 : decode cX9_makeTables 53 = .ok (.istore 6, 2) := by decide +kernel
theorem dX9_makeTables_55 : decode cX9_makeTables 55 = .ok (.iload 6, 2) := by decide +kernel
theorem dX9_makeTables_57 : decode cX9_makeTables 57 = .ok (.aload 5, 2) := by decide +kernel
theorem dX9_makeTables_59 : decode cX9_makeTables 59 = .ok (.invokevirtual 41, 3) := by decide +kernel
theorem dX9_makeTables_62 : decode cX9_makeTables 62 = .ok (.if_icmp .ge 45, 3) := by decide +kernel
theorem dX9_makeTables_65 : decode cX9_makeTables 65 = .ok (.aload_n 0, 1) := by decide +kernel
theorem dX9_makeTables_66 : decode cX9_makeTables 66 = .ok (.aload 5, 2) := by decide +kernel
theorem dX9_makeTables_68 : decode cX9_makeTables 68 = .ok (.iload 6, 2) := by decide +kernel
theorem dX9_makeTables_70 : decode cX9_makeTables 70 = .ok (.invokevirtual 46, 3) := by decide +kernel
theorem dX9_makeTables_73 : decode cX9_makeTables 73 = .ok (.aload 5, 2) := by decide +kernel
theorem dX9_makeTables_75 : decode cX9_makeTables 75 = .ok (.iload 6, 2) := by decide +kernel
theorem dX9_makeTables_77 : decode cX9_makeTables 77 = .ok (.invokevirtual 50, 3) := by decide +kernel
theorem dX9_makeTables_80 : decode cX9_makeTables 80 = .ok (.aload 5, 2) := by decide +kernel
theorem dX9_makeTables_82 : decode cX9_makeTables 82 = .ok (.iload 6, 2) := by decide +kernel
theorem dX9_makeTables_84 : decode cX9_makeTables 84 = .ok (.invokevirtual 53, 3) := by decide +kernel
theorem dX9_makeTables_87 : decode cX9_makeTables 87 = .ok (.ifCond .eq 7, 3) := by decide +kernel
theorem dX9_makeTables_90 : decode cX9_makeTables 90 = .ok (.iconst 0, 1) := by decide +kernel
theorem dX9_makeTables_91 : decode cX9_makeTables 91 = .ok (.goto 6, 3) := by decide +kernel
theorem dX9_makeTables_94 : decode cX9_makeTables 94 = .ok (.sipush 128, 3) := by decide +kernel
theorem dX9_makeTables_97 : decode cX9_makeTables 97 = .ok (.aload_n 2, 1) := by decide +kernel
theorem dX9_makeTables_98 : decode cX9_makeTables 98 = .ok (.invokevirtual 57, 3) := by decide +kernel
theorem dX9_makeTables_101 : decode cX9_makeTables 101 = .ok (.iinc 6 1, 3) := by decide +kernel
theorem dX9_makeTables_104 : decode cX9_makeTables 104 = .ok (.goto (-49), 3) := by decide +kernel
theorem dX9_makeTables_107 : decode cX9_makeTables 107 = .ok (.aload_n 3, 1) := by decide +kernel
theorem dX9_makeTables_108 : decode cX9_makeTables 108 = .ok (.aload 5, 2) := by decide +kernel
theorem dX9_makeTables_110 : decode cX9_makeTables 110 = .ok (.invokevirtual 61, 3) := by decide +kernel
theorem dX9_makeTables_113 : decode cX9_makeTables 113 = .ok (.invokevirtual 64, 3) := by decide +kernel
theorem dX9_makeTables_116 : decode cX9_makeTables 116 = .ok (.iinc 4 1, 3) := by decide +kernel
theorem dX9_makeTables_119 : decode cX9_makeTables 119 = .ok (.goto (-84), 3) := by decide +kernel
theorem dX9_makeTables_122 : decode cX9_makeTables 122 = .ok (.aload_n 2, 1) := by decide +kernel
theorem dX9_makeTables_123 : decode cX9_makeTables 123 = .ok (.aload_n 0, 1) := by decide +kernel
theorem dX9_makeTables_124 : decode cX9_makeTables 124 = .ok (.getfield 16, 3) := by decide +kernel
theorem dX9_makeTables_127 : decode cX9_makeTables 127 = .ok (.invokevirtual 67, 3) := by decide +kernel
theorem dX9_makeTables_130 : decode cX9_makeTables 130 = .ok (.return_, 1) := by decide +kernel
theorem dX9_addCounts_0 : decode cX9_addCounts 0 = .ok (.aload_n 1, 1) := by decide +kernel
theorem dX9_addCounts_1 : decode cX9_addCounts 1 = .ok (.aload_n 0, 1) := by decide +kernel
theorem dX9_addCounts_2 : decode cX9_addCounts 2 = .ok (.invokevirtual 33, 3) := by decide +kernel
theorem dX9_addCounts_5 : decode cX9_addCounts 5 = .ok (.invokevirtual 71, 3) := by decide +kernel
theorem dX9_addCounts_8 : decode cX9_addCounts 8 = .ok (.iconst 0, 1) := by decide +kernel
theorem dX9_addCounts_9 : decode cX9_addCounts 9 = .ok (.istore_n 2, 1) := by decide +kernel
theorem dX9_addCounts_10 : decode cX9_addCounts 10 = .ok (.iload_n 2, 1) := by decide +kernel
theorem dX9_addCounts_11 : decode cX9_addCounts 11 = .ok (.aload_n 0, 1) := by decide +kernel
theorem dX9_addCounts_12 : decode cX9_addCounts 12 = .ok (.invokevirtual 33, 3) := by decide +kernel
theorem dX9_addCounts_15 : decode cX9_addCounts 15 = .ok (.if_icmp .ge 21, 3) := by decide +kernel
theorem dX9_addCounts_18 : decode cX9_addCounts 18 = .ok (.aload_n 1, 1) := by decide +kernel
theorem dX9_addCounts_19 : decode cX9_addCounts 19 = .ok (.aload_n 0, 1) := by decide +kernel
theorem dX9_addCounts_20 : decode cX9_addCounts 20 = .ok (.iload_n 2, 1) := by decide +kernel
theorem dX9_addCounts_21 : decode cX9_addCounts 21 = .ok (.invokevirtual 37, 3) := by decide +kernel
theorem dX9_addCounts_24 : decode cX9_addCounts 24 = .ok (.invokevirtual 74, 3) := by decide +kernel
theorem dX9_addCounts_27 : decode cX9_addCounts 27 = .ok (.invokevirtual 71, 3) := by decide +kernel
theorem dX9_addCounts_30 : decode cX9_addCounts 30 = .ok (.iinc 2 1, 3) := by decide +kernel
theorem dX9_addCounts_33 : decode cX9_addCounts 33 = .ok (.goto (-23), 3) := by decide +kernel
theorem dX9_addCounts_36 : decode cX9_addCounts 36 = .ok (.iconst 0, 1) := by decide +kernel
theorem dX9_addCounts_37 : decode cX9_addCounts 37 = .ok (.istore_n 2, 1) := by decide +kernel
theorem dX9_addCounts_38 : decode cX9_addCounts 38 = .ok (.iload_n 2, 1) := by decide +kernel
theorem dX9_addCounts_39 : decode cX9_addCounts 39 = .ok (.aload_n 0, 1) := by decide +kernel
theorem dX9_addCounts_40 : decode cX9_addCounts 40 = .ok (.invokevirtual 33, 3) := by decide +kernel
theorem dX9_addCounts_43 : decode cX9_addCounts 43 = .ok (.if_icmp .ge 43, 3) := by decide +kernel
theorem dX9_addCounts_46 : decode cX9_addCounts 46 = .ok (.aload_n 0, 1) := by decide +kernel
theorem dX9_addCounts_47 : decode cX9_addCounts 47 = .ok (.iload_n 2, 1) := by decide +kernel
theorem dX9_addCounts_48 : decode cX9_addCounts 48 = .ok (.invokevirtual 37, 3) := by decide +kernel
theorem dX9_addCounts_51 : decode cX9_addCounts 51 = .ok (.astore_n 3, 1) := by decide +kernel
theorem dX9_addCounts_52 : decode cX9_addCounts 52 = .ok (.iconst 0, 1) := by decide +kernel
theorem dX9_addCounts_53 : decode cX9_addCounts 53 = .ok (.istore 4, 2) := by decide +kernel
theorem dX9_addCounts_55 : decode cX9_addCounts 55 = .ok (.iload 4, 2) := by decide +kernel
theorem dX9_addCounts_57 : decode cX9_addCounts 57 = .ok (.aload_n 3, 1) := by decide +kernel
theorem dX9_addCounts_58 : decode cX9_addCounts 58 = .ok (.invokevirtual 74, 3) := by decide +kernel
theorem dX9_addCounts_61 : decode cX9_addCounts 61 = .ok (.if_icmp .ge 19, 3) := by decide +kernel
theorem dX9_addCounts_64 : decode cX9_addCounts 64 = .ok (.aload_n 1, 1) := by decide +kernel
theorem dX9_addCounts_65 : decode cX9_addCounts 65 = .ok (.aload_n 3, 1) := by decide +kernel
theorem dX9_addCounts_66 : decode cX9_addCounts 66 = .ok (.iload 4, 2) := by decide +kernel
theorem dX9_addCounts_68 : decode cX9_addCounts 68 = .ok (.invokevirtual 77, 3) := by decide +kernel
theorem dX9_addCounts_71 : decode cX9_addCounts 71 = .ok (.invokevirtual 64, 3) := by decide +kernel
theorem dX9_addCounts_74 : decode cX9_addCounts 74 = .ok (.iinc 4 1, 3) := by decide +kernel
theorem dX9_addCounts_77 : decode cX9_addCounts 77 = .ok (.goto (-22), 3) := by decide +kernel
theorem dX9_addCounts_80 : decode cX9_addCounts 80 = .ok (.iinc 2 1, 3) := by decide +kernel
theorem dX9_addCounts_83 : decode cX9_addCounts 83 = .ok (.goto (-45), 3) := by decide +kernel
theorem dX9_addCounts_86 : decode cX9_addCounts 86 = .ok (.return_, 1) := by decide +kernel
theorem dX9_addStep_0 : decode cX9_addStep 0 = .ok (.iload_n 1, 1) := by decide +kernel
theorem dX9_addStep_1 : decode cX9_addStep 1 = .ok (.invokestatic 80, 3) := by decide +kernel
theorem dX9_addStep_4 : decode cX9_addStep 4 = .ok (.istore 5, 2) := by decide +kernel
theorem dX9_addStep_6 : decode cX9_addStep 6 = .ok (.iload_n 2, 1) := by decide +kernel
theorem dX9_addStep_7 : decode cX9_addStep 7 = .ok (.invokestatic 80, 3) := by decide +kernel
theorem dX9_addStep_10 : decode cX9_addStep 10 = .ok (.istore 6, 2) := by decide +kernel
theorem dX9_addStep_12 : decode cX9_addStep 12 = .ok (.iload_n 1, 1) := by decide +kernel
theorem dX9_addStep_13 : decode cX9_addStep 13 = .ok (.ifCond .ge 7, 3) := by decide +kernel
theorem dX9_addStep_16 : decode cX9_addStep 16 = .ok (.iconst 0, 1) := by decide +kernel
theorem dX9_addStep_17 : decode cX9_addStep 17 = .ok (.goto 4, 3) := by decide +kernel
theorem dX9_addStep_20 : decode cX9_addStep 20 = .ok (.iconst 1, 1) := by decide +kernel
theorem dX9_addStep_21 : decode cX9_addStep 21 = .ok (.istore 7, 2) := by decide +kernel
theorem dX9_addStep_23 : decode cX9_addStep 23 = .ok (.iload_n 2, 1) := by decide +kernel
theorem dX9_addStep_24 : decode cX9_addStep 24 = .ok (.ifCond .ge 7, 3) := by decide +kernel
theorem dX9_addStep_27 : decode cX9_addStep 27 = .ok (.iconst 0, 1) := by decide +kernel
theorem dX9_addStep_28 : decode cX9_addStep 28 = .ok (.goto 4, 3) := by decide +kernel
theorem dX9_addStep_31 : decode cX9_addStep 31 = .ok (.iconst 1, 1) := by decide +kernel
theorem dX9_addStep_32 : decode cX9_addStep 32 = .ok (.istore 8, 2) := by decide +kernel
theorem dX9_addStep_34 : decode cX9_addStep 34 = .ok (.iload 5, 2) := by decide +kernel
theorem dX9_addStep_36 : decode cX9_addStep 36 = .ok (.ifCond .ne 45, 3) := by decide +kernel
theorem dX9_addStep_39 : decode cX9_addStep 39 = .ok (.iload 6, 2) := by decide +kernel
theorem dX9_addStep_41 : decode cX9_addStep 41 = .ok (.sipush 1280, 3) := by decide +kernel
theorem dX9_addStep_44 : decode cX9_addStep 44 = .ok (.if_icmp .ge 37, 3) := by decide +kernel
theorem dX9_addStep_47 : decode cX9_addStep 47 = .ok (.aload 4, 2) := by decide +kernel
theorem dX9_addStep_49 : decode cX9_addStep 49 = .ok (.iload_n 3, 1) := by decide +kernel
theorem dX9_addStep_50 : decode cX9_addStep 50 = .ok (.iload 6, 2) := by decide +kernel
end
section
theorem dX9_addStep_52 : decode cX9_addStep 52 = .ok (.sipush 256, 3) := by decide +kernel
theorem dX9_addStep_55 : decode cX9_addStep 55 = .ok (.idiv, 1) := by decide +kernel
theorem dX9_addStep_56 : decode cX9_addStep 56 = .ok (.iconst 2, 1) := by decide +kernel
theorem dX9_addStep_57 : decode cX9_addStep 57 = .ok (.imul, 1) := by decide +kernel
theorem dX9_addStep_58 : decode cX9_addStep 58 = .ok (.iadd, 1) := by decide +kernel
theorem dX9_addStep_59 : decode cX9_addStep 59 = .ok (.iload 8, 2) := by decide +kernel
theorem dX9_addStep_61 : decode cX9_addStep 61 = .ok (.iadd, 1) := by decide +kernel
theorem dX9_addStep_62 : decode cX9_addStep 62 = .ok (.invokevirtual 71, 3) := by decide +kernel
theorem dX9_addStep_65 : decode cX9_addStep 65 = .ok (.aload_n 0, 1) := by decide +kernel
theorem dX9_addStep_66 : decode cX9_addStep 66 = .ok (.getfield 16, 3) := by decide +kernel
theorem dX9_addStep_69 : decode cX9_addStep 69 = .ok (.iload 6, 2) := by decide +kernel
theorem dX9_addStep_71 : decode cX9_addStep 71 = .ok (.sipush 256, 3) := by decide +kernel
theorem dX9_addStep_74 : decode cX9_addStep 74 = .ok (.irem, 1) := by decide +kernel
theorem dX9_addStep_75 : decode cX9_addStep 75 = .ok (.invokevirtual 71, 3) := by decide +kernel
theorem dX9_addStep_78 : decode cX9_addStep 78 = .ok (.goto 364, 3) := by decide +kernel
theorem dX9_addStep_81 : decode cX9_addStep 81 = .ok (.iload 6, 2) := by decide +kernel
theorem dX9_addStep_83 : decode cX9_addStep 83 = .ok (.ifCond .ne 48, 3) := by decide +kernel
theorem dX9_addStep_86 : decode cX9_addStep 86 = .ok (.iload 5, 2) := by decide +kernel
theorem dX9_addStep_88 : decode cX9_addStep 88 = .ok (.sipush 1280, 3) := by decide +kernel
theorem dX9_addStep_91 : decode cX9_addStep 91 = .ok (.if_icmp .ge 40, 3) := by decide +kernel
theorem dX9_addStep_94 : decode cX9_addStep 94 = .ok (.aload 4, 2) := by decide +kernel
theorem dX9_addStep_96 : decode cX9_addStep 96 = .ok (.iload_n 3, 1) := by decide +kernel
theorem dX9_addStep_97 : decode cX9_addStep 97 = .ok (.bipush 10, 2) := by decide +kernel
theorem dX9_addStep_99 : decode cX9_addStep 99 = .ok (.iadd, 1) := by decide +kernel
theorem dX9_addStep_100 : decode cX9_addStep 100 = .ok (.iload 5, 2) := by decide +kernel
theorem dX9_addStep_102 : decode cX9_addStep 102 = .ok (.sipush 256, 3) := by decide +kernel
theorem dX9_addStep_105 : decode cX9_addStep 105 = .ok (.idiv, 1) := by decide +kernel
theorem dX9_addStep_106 : decode cX9_addStep 106 = .ok (.iconst 2, 1) := by decide +kernel
theorem dX9_addStep_107 : decode cX9_addStep 107 = .ok (.imul, 1) := by decide +kernel
theorem dX9_addStep_108 : decode cX9_addStep 108 = .ok (.iadd, 1) := by decide +kernel
theorem dX9_addStep_109 : decode cX9_addStep 109 = .ok (.iload 7, 2) := by decide +kernel
theorem dX9_addStep_111 : decode cX9_addStep 111 = .ok (.iadd, 1) := by decide +kernel
theorem dX9_addStep_112 : decode cX9_addStep 112 = .ok (.invokevirtual 71, 3) := by decide +kernel
theorem dX9_addStep_115 : decode cX9_addStep 115 = .ok (.aload_n 0, 1) := by decide +kernel
theorem dX9_addStep_116 : decode cX9_addStep 116 = .ok (.getfield 16, 3) := by decide +kernel
theorem dX9_addStep_119 : decode cX9_addStep 119 = .ok (.iload 5, 2) := by decide +kernel
theorem dX9_addStep_121 : decode cX9_addStep 121 = .ok (.sipush 256, 3) := by decide +kernel
theorem dX9_addStep_124 : decode cX9_addStep 124 = .ok (.irem, 1) := by decide +kernel
theorem dX9_addStep_125 : decode cX9_addStep 125 = .ok (.invokevirtual 71, 3) := by decide +kernel
theorem dX9_addStep_128 : decode cX9_addStep 128 = .ok (.goto 314, 3) := by decide +kernel
theorem dX9_addStep_131 : decode cX9_addStep 131 = .ok (.iload 5, 2) := by decide +kernel
theorem dX9_addStep_133 : decode cX9_addStep 133 = .ok (.ifCond .le 88, 3) := by decide +kernel
theorem dX9_addStep_136 : decode cX9_addStep 136 = .ok (.iload 6, 2) := by decide +kernel
theorem dX9_addStep_138 : decode cX9_addStep 138 = .ok (.ifCond .le 83, 3) := by decide +kernel
theorem dX9_addStep_141 : decode cX9_addStep 141 = .ok (.iload 5, 2) := by decide +kernel
theorem dX9_addStep_143 : decode cX9_addStep 143 = .ok (.bipush 65, 2) := by decide +kernel
theorem dX9_addStep_145 : decode cX9_addStep 145 = .ok (.if_icmp .ge 76, 3) := by decide +kernel
theorem dX9_addStep_148 : decode cX9_addStep 148 = .ok (.iload 6, 2) := by decide +kernel
theorem dX9_addStep_150 : decode cX9_addStep 150 = .ok (.bipush 65, 2) := by decide +kernel
theorem dX9_addStep_152 : decode cX9_addStep 152 = .ok (.if_icmp .ge 69, 3) := by decide +kernel
theorem dX9_addStep_155 : decode cX9_addStep 155 = .ok (.aload 4, 2) := by decide +kernel
theorem dX9_addStep_157 : decode cX9_addStep 157 = .ok (.iload_n 3, 1) := by decide +kernel
theorem dX9_addStep_158 : decode cX9_addStep 158 = .ok (.bipush 20, 2) := by decide +kernel
theorem dX9_addStep_160 : decode cX9_addStep 160 = .ok (.iadd, 1) := by decide +kernel
theorem dX9_addStep_161 : decode cX9_addStep 161 = .ok (.iload 5, 2) := by decide +kernel
theorem dX9_addStep_163 : decode cX9_addStep 163 = .ok (.iconst 1, 1) := by decide +kernel
theorem dX9_addStep_164 : decode cX9_addStep 164 = .ok (.isub, 1) := by decide +kernel
theorem dX9_addStep_165 : decode cX9_addStep 165 = .ok (.bipush 16, 2) := by decide +kernel
theorem dX9_addStep_167 : decode cX9_addStep 167 = .ok (.idiv, 1) := by decide +kernel
theorem dX9_addStep_168 : decode cX9_addStep 168 = .ok (.bipush 16, 2) := by decide +kernel
theorem dX9_addStep_170 : decode cX9_addStep 170 = .ok (.imul, 1) := by decide +kernel
theorem dX9_addStep_171 : decode cX9_addStep 171 = .ok (.iadd, 1) := by decide +kernel
theorem dX9_addStep_172 : decode cX9_addStep 172 = .ok (.iload 6, 2) := by decide +kernel
theorem dX9_addStep_174 : decode cX9_addStep 174 = .ok (.iconst 1, 1) := by decide +kernel
theorem dX9_addStep_175 : decode cX9_addStep 175 = .ok (.isub, 1) := by decide +kernel
theorem dX9_addStep_176 : decode cX9_addStep 176 = .ok (.bipush 16, 2) := by decide +kernel
theorem dX9_addStep_178 : decode cX9_addStep 178 = .ok (.idiv, 1) := by decide +kernel
theorem dX9_addStep_179 : decode cX9_addStep 179 = .ok (.iconst 4, 1) := by decide +kernel
theorem dX9_addStep_180 : decode cX9_addStep 180 = .ok (.imul, 1) := by decide +kernel
theorem dX9_addStep_181 : decode cX9_addStep 181 = .ok (.iadd, 1) := by decide +kernel
theorem dX9_addStep_182 : decode cX9_addStep 182 = .ok (.iload 7, 2) := by decide +kernel
theorem dX9_addStep_184 : decode cX9_addStep 184 = .ok (.iadd, 1) := by decide +kernel
theorem dX9_addStep_185 : decode cX9_addStep 185 = .ok (.iconst 2, 1) := by decide +kernel
theorem dX9_addStep_186 : decode cX9_addStep 186 = .ok (.iload 8, 2) := by decide +kernel
theorem dX9_addStep_188 : decode cX9_addStep 188 = .ok (.imul, 1) := by decide +kernel
theorem dX9_addStep_189 : decode cX9_addStep 189 = .ok (.iadd, 1) := by decide +kernel
theorem dX9_addStep_190 : decode cX9_addStep 190 = .ok (.invokevirtual 71, 3) := by decide +kernel
theorem dX9_addStep_193 : decode cX9_addStep 193 = .ok (.aload_n 0, 1) := by decide +kernel
theorem dX9_addStep_194 : decode cX9_addStep 194 = .ok (.getfield 16, 3) := by decide +kernel
theorem dX9_addStep_197 : decode cX9_addStep 197 = .ok (.iload 5, 2) := by decide +kernel
theorem dX9_addStep_199 : decode cX9_addStep 199 = .ok (.iconst 1, 1) := by decide +kernel
theorem dX9_addStep_200 : decode cX9_addStep 200 = .ok (.isub, 1) := by decide +kernel
theorem dX9_addStep_201 : decode cX9_addStep 201 = .ok (.bipush 16, 2) := by decide +kernel
theorem dX9_addStep_203 : decode cX9_addStep 203 = .ok (.irem, 1) := by decide +kernel
theorem dX9_addStep_204 : decode cX9_addStep 204 = .ok (.bipush 16, 2) := by decide +kernel
theorem dX9_addStep_206 : decode cX9_addStep 206 = .ok (.imul, 1) := by decide +kernel
theorem dX9_addStep_207 : decode cX9_addStep 207 = .ok (.iload 6, 2) := by decide +kernel
theorem dX9_addStep_209 : decode cX9_addStep 209 = .ok (.iconst 1, 1) := by decide +kernel
theorem dX9_addStep_210 : decode cX9_addStep 210 = .ok (.isub, 1) := by decide +kernel
theorem dX9_addStep_211 : decode cX9_addStep 211 = .ok (.bipush 16, 2) := by decide +kernel
theorem dX9_addStep_213 : decode cX9_addStep 213 = .ok (.irem, 1) := by decide +kernel
theorem dX9_addStep_214 : decode cX9_addStep 214 = .ok (.iadd, 1) := by decide +kernel
theorem dX9_addStep_215 : decode cX9_addStep 215 = .ok (.invokevirtual 71, 3) := by decide +kernel
theorem dX9_addStep_218 : decode cX9_addStep 218 = .ok (.goto 224, 3) := by decide +kernel
theorem dX9_addStep_221 : decode cX9_addStep 221 = .ok (.iload 5, 2) := by decide +kernel
theorem dX9_addStep_223 : decode cX9_addStep 223 = .ok (.ifCond .le 97, 3) := by decide +kernel
theorem dX9_addStep_226 : decode cX9_addStep 226 = .ok (.iload 6, 2) := by decide +kernel
theorem dX9_addStep_228 : decode cX9_addStep 228 = .ok (.ifCond .le 92, 3) := by decide +kernel
theorem dX9_addStep_231 : decode cX9_addStep 231 = .ok (.iload 5, 2) := by decide +kernel
theorem dX9_addStep_233 : decode cX9_addStep 233 = .ok (.sipush 769, 3) := by decide +kernel
theorem dX9_addStep_236 : decode cX9_addStep 236 = .ok (.if_icmp .ge 84, 3) := by decide +kernel
theorem dX9_addStep_239 : decode cX9_addStep 239 = .ok (.iload 6, 2) := by decide +kernel
theorem dX9_addStep_241 : decode cX9_addStep 241 = .ok (.sipush 769, 3) := by decide +kernel
theorem dX9_addStep_244 : decode cX9_addStep 244 = .ok (.if_icmp .ge 76, 3) := by decide +kernel
theorem dX9_addStep_247 : decode cX9_addStep 247 = .ok (.aload 4, 2) := by decide +kernel
theorem dX9_addStep_249 : decode cX9_addStep 249 = .ok (.iload_n 3, 1) := by decide +kernel
theorem dX9_addStep_250 : decode cX9_addStep 250 = .ok (.bipush 84, 2) := by decide +kernel
theorem dX9_addStep_252 : decode cX9_addStep 252 = .ok (.iadd, 1) := by decide +kernel
theorem dX9_addStep_253 : decode cX9_addStep 253 = .ok (.iload 5, 2) := by decide +kernel
theorem dX9_addStep_255 : decode cX9_addStep 255 = .ok (.iconst 1, 1) := by decide +kernel
theorem dX9_addStep_256 : decode cX9_addStep 256 = .ok (.isub, 1) := by decide +kernel
theorem dX9_addStep_257 : decode cX9_addStep 257 = .ok (.sipush 256, 3) := by decide +kernel
theorem dX9_addStep_260 : decode cX9_addStep 260 = .ok (.idiv, 1) := by decide +kernel
theorem dX9_addStep_261 : decode cX9_addStep 261 = .ok (.bipush 12, 2) := by decide +kernel
theorem dX9_addStep_263 : decode cX9_addStep 263 = .ok (.imul, 1) := by decide +kernel
theorem dX9_addStep_264 : decode cX9_addStep 264 = .ok (.iadd, 1) := by decide +kernel
theorem dX9_addStep_265 : decode cX9_addStep 265 = .ok (.iload 6, 2) := by decide +kernel
theorem dX9_addStep_267 : decode cX9_addStep 267 = .ok (.iconst 1, 1) := by decide +kernel
theorem dX9_addStep_268 : decode cX9_addStep 268 = .ok (.isub, 1) := by decide +kernel
theorem dX9_addStep_269 : decode cX9_addStep 269 = .ok (.sipush 256, 3) := by decide +kernel
theorem dX9_addStep_272 : decode cX9_addStep 272 = .ok (.idiv, 1) := by decide +kernel
theorem dX9_addStep_273 : decode cX9_addStep 273 = .ok (.iconst 4, 1) := by decide +kernel
theorem dX9_addStep_274 : decode cX9_addStep 274 = .ok (.imul, 1) := by decide +kernel
theorem dX9_addStep_275 : decode cX9_addStep 275 = .ok (.iadd, 1) := by decide +kernel
theorem dX9_addStep_276 : decode cX9_addStep 276 = .ok (.iload 7, 2) := by decide +kernel
theorem dX9_addStep_278 : decode cX9_addStep 278 = .ok (.iadd, 1) := by decide +kernel
theorem dX9_addStep_279 : decode cX9_addStep 279 = .ok (.iconst 2, 1) := by decide +kernel
theorem dX9_addStep_280 : decode cX9_addStep 280 = .ok (.iload 8, 2) := by decide +kernel
theorem dX9_addStep_282 : decode cX9_addStep 282 = .ok (.imul, 1) := by decide +kernel
theorem dX9_addStep_283 : decode cX9_addStep 283 = .ok (.iadd, 1) := by decide +kernel
theorem dX9_addStep_284 : decode cX9_addStep 284 = .ok (.invokevirtual 71, 3) := by decide +kernel
theorem dX9_addStep_287 : decode cX9_addStep 287 = .ok (.aload_n 0, 1) := by decide +kernel
theorem dX9_addStep_288 : decode cX9_addStep 288 = .ok (.getfield 16, 3) := by decide +kernel
theorem dX9_addStep_291 : decode cX9_addStep 291 = .ok (.iload 5, 2) := by decide +kernel
theorem dX9_addStep_293 : decode cX9_addStep 293 = .ok (.iconst 1, 1) := by decide +kernel
theorem dX9_addStep_294 : decode cX9_addStep 294 = .ok (.isub, 1) := by decide +kernel
theorem dX9_addStep_295 : decode cX9_addStep 295 = .ok (.sipush 256, 3) := by decide +kernel
theorem dX9_addStep_298 : decode cX9_addStep 298 = .ok (.irem, 1) := by decide +kernel
theorem dX9_addStep_299 : decode cX9_addStep 299 = .ok (.invokevirtual 71, 3) := by decide +kernel
theorem dX9_addStep_302 : decode cX9_addStep 302 = .ok (.aload_n 0, 1) := by decide +kernel
theorem dX9_addStep_303 : decode cX9_addStep 303 = .ok (.getfield 16, 3) := by decide +kernel
theorem dX9_addStep_306 : decode cX9_addStep 306 = .ok (.iload 6, 2) := by decide +kernel
theorem dX9_addStep_308 : decode cX9_addStep 308 = .ok (.iconst 1, 1) := by decide +kernel
theorem dX9_addStep_309 : decode cX9_addStep 309 = .ok (.isub, 1) := by decide +kernel
theorem dX9_addStep_310 : decode cX9_addStep 310 = .ok (.sipush 256, 3) := by decide +kernel
theorem dX9_addStep_313 : decode cX9_addStep 313 = .ok (.irem, 1) := by decide +kernel
theorem dX9_addStep_314 : decode cX9_addStep 314 = .ok (.invokevirtual 71, 3) := by decide +kernel
theorem dX9_addStep_317 : decode cX9_addStep 317 = .ok (.goto 125, 3) := by decide +kernel
theorem dX9_addStep_320 : decode cX9_addStep 320 = .ok (.iload 5, 2) := by decide +kernel
theorem dX9_addStep_322 : decode cX9_addStep 322 = .ok (.sipush 4096, 3) := by decide +kernel
theorem dX9_addStep_325 : decode cX9_addStep 325 = .ok (.if_icmp .ge 78, 3) := by decide +kernel
theorem dX9_addStep_328 : decode cX9_addStep 328 = .ok (.iload 6, 2) := by decide +kernel
theorem dX9_addStep_330 : decode cX9_addStep 330 = .ok (.sipush 4096, 3) := by decide +kernel
theorem dX9_addStep_333 : decode cX9_addStep 333 = .ok (.if_icmp .ge 70, 3) := by decide +kernel
theorem dX9_addStep_336 : decode cX9_addStep 336 = .ok (.aload 4, 2) := by decide +kernel
theorem dX9_addStep_338 : decode cX9_addStep 338 = .ok (.iload_n 3, 1) := by decide +kernel
theorem dX9_addStep_339 : decode cX9_addStep 339 = .ok (.bipush 120, 2) := by decide +kernel
theorem dX9_addStep_341 : decode cX9_addStep 341 = .ok (.iadd, 1) := by decide +kernel
theorem dX9_addStep_342 : decode cX9_addStep 342 = .ok (.iload 7, 2) := by decide +kernel
theorem dX9_addStep_344 : decode cX9_addStep 344 = .ok (.iadd, 1) := by decide +kernel
theorem dX9_addStep_345 : decode cX9_addStep 345 = .ok (.iconst 2, 1) := by decide +kernel
theorem dX9_addStep_346 : decode cX9_addStep 346 = .ok (.iload 8, 2) := by decide +kernel
theorem dX9_addStep_348 : decode cX9_addStep 348 = .ok (.imul, 1) := by decide +kernel
theorem dX9_addStep_349 : decode cX9_addStep 349 = .ok (.iadd, 1) := by decide +kernel
theorem dX9_addStep_350 : decode cX9_addStep 350 = .ok (.invokevirtual 71, 3) := by decide +kernel
theorem dX9_addStep_353 : decode cX9_addStep 353 = .ok (.aload_n 0, 1) := by decide +kernel
theorem dX9_addStep_354 : decode cX9_addStep 354 = .ok (.getfield 16, 3) := by decide +kernel
theorem dX9_addStep_357 : decode cX9_addStep 357 = .ok (.iload 5, 2) := by decide +kernel
theorem dX9_addStep_359 : decode cX9_addStep 359 = .ok (.bipush 16, 2) := by decide +kernel
theorem dX9_addStep_361 : decode cX9_addStep 361 = .ok (.idiv, 1) := by decide +kernel
theorem dX9_addStep_362 : decode cX9_addStep 362 = .ok (.invokevirtual 71, 3) := by decide +kernel
theorem dX9_addStep_365 : decode cX9_addStep 365 = .ok (.aload_n 0, 1) := by decide +kernel
theorem dX9_addStep_366 : decode cX9_addStep 366 = .ok (.getfield 16, 3) := by decide +kernel
theorem dX9_addStep_369 : decode cX9_addStep 369 = .ok (.iload 5, 2) := by decide +kernel
theorem dX9_addStep_371 : decode cX9_addStep 371 = .ok (.bipush 16, 2) := by decide +kernel
theorem dX9_addStep_373 : decode cX9_addStep 373 = .ok (.irem, 1) := by decide +kernel
theorem dX9_addStep_374 : decode cX9_addStep 374 = .ok (.bipush 16, 2) := by decide +kernel
theorem dX9_addStep_376 : decode cX9_addStep 376 = .ok (.imul, 1) := by decide +kernel
theorem dX9_addStep_377 : decode cX9_addStep 377 = .ok (.iload 6, 2) := by decide +kernel
theorem dX9_addStep_379 : decode cX9_addStep 379 = .ok (.sipush 256, 3) := by decide +kernel
theorem dX9_addStep_382 : decode cX9_addStep 382 = .ok (.idiv, 1) := by decide +kernel
theorem dX9_addStep_383 : decode cX9_addStep 383 = .ok (.iadd, 1) := by decide +kernel
theorem dX9_addStep_384 : decode cX9_addStep 384 = .ok (.invokevirtual 71, 3) := by decide +kernel
theorem dX9_addStep_387 : decode cX9_addStep 387 = .ok (.aload_n 0, 1) := by decide +kernel
theorem dX9_addStep_388 : decode cX9_addStep 388 = .ok (.getfield 16, 3) := by decide +kernel
theorem dX9_addStep_391 : decode cX9_addStep 391 = .ok (.iload 6, 2) := by decide +kernel
theorem dX9_addStep_393 : decode cX9_addStep 393 = .ok (.sipush 256, 3) := by decide +kernel
theorem dX9_addStep_396 : decode cX9_addStep 396 = .ok (.irem, 1) := by decide +kernel
theorem dX9_addStep_397 : decode cX9_addStep 397 = .ok (.invokevirtual 71, 3) := by decide +kernel
theorem dX9_addStep_400 : decode cX9_addStep 400 = .ok (.goto 42, 3) := by decide +kernel
theorem dX9_addStep_403 : decode cX9_addStep 403 = .ok (.aload 4, 2) := by decide +kernel
theorem dX9_addStep_405 : decode cX9_addStep 405 = .ok (.iload_n 3, 1) := by decide +kernel
theorem dX9_addStep_406 : decode cX9_addStep 406 = .ok (.bipush 124, 2) := by decide +kernel
theorem dX9_addStep_408 : decode cX9_addStep 408 = .ok (.iadd, 1) := by decide +kernel
theorem dX9_addStep_409 : decode cX9_addStep 409 = .ok (.iload 7, 2) := by decide +kernel
theorem dX9_addStep_411 : decode cX9_addStep 411 = .ok (.iadd, 1) := by decide +kernel
theorem dX9_addStep_412 : decode cX9_addStep 412 = .ok (.iconst 2, 1) := by decide +kernel
theorem dX9_addStep_413 : decode cX9_addStep 413 = .ok (.iload 8, 2) := by decide +kernel
theorem dX9_addStep_415 : decode cX9_addStep 415 = .ok (.imul, 1) := by decide +kernel
theorem dX9_addStep_416 : decode cX9_addStep 416 = .ok (.iadd, 1) := by decide +kernel
theorem dX9_addStep_417 : decode cX9_addStep 417 = .ok (.invokevirtual 71, 3) := by decide +kernel
theorem dX9_addStep_420 : decode cX9_addStep 420 = .ok (.aload_n 0, 1) := by decide +kernel
theorem dX9_addStep_421 : decode cX9_addStep 421 = .ok (.getfield 16, 3) := by decide +kernel
theorem dX9_addStep_424 : decode cX9_addStep 424 = .ok (.iload 5, 2) := by decide +kernel
theorem dX9_addStep_426 : decode cX9_addStep 426 = .ok (.i2l, 1) := by decide +kernel
theorem dX9_addStep_427 : decode cX9_addStep 427 = .ok (.iconst 2, 1) := by decide +kernel
theorem dX9_addStep_428 : decode cX9_addStep 428 = .ok (.invokevirtual 85, 3) := by decide +kernel
theorem dX9_addStep_431 : decode cX9_addStep 431 = .ok (.aload_n 0, 1) := by decide +kernel
theorem dX9_addStep_432 : decode cX9_addStep 432 = .ok (.getfield 16, 3) := by decide +kernel
theorem dX9_addStep_435 : decode cX9_addStep 435 = .ok (.iload 6, 2) := by decide +kernel
theorem dX9_addStep_437 : decode cX9_addStep 437 = .ok (.i2l, 1) := by decide +kernel
theorem dX9_addStep_438 : decode cX9_addStep 438 = .ok (.iconst 2, 1) := by decide +kernel
theorem dX9_addStep_439 : decode cX9_addStep 439 = .ok (.invokevirtual 85, 3) := by decide +kernel
theorem dX9_addStep_442 : decode cX9_addStep 442 = .ok (.return_, 1) := by decide +kernel
theorem dX10_init_0 : decode cX10_init 0 = .ok (.aload_n 0, 1) := by decide +kernel
theorem dX10_init_1 : decode cX10_init 1 = .ok (.invokespecial 1, 3) := by decide +kernel
theorem dX10_init_4 : decode cX10_init 4 = .ok (.aload_n 0, 1) := by decide +kernel
theorem dX10_init_5 : decode cX10_init 5 = .ok (.new 7, 3) := by decide +kernel
theorem dX10_init_8 : decode cX10_init 8 = .ok (.dup, 1) := by decide +kernel
theorem dX10_init_9 : decode cX10_init 9 = .ok (.sipush 1500, 3) := by decide +kernel
theorem dX10_init_12 : decode cX10_init 12 = .ok (.invokespecial 11, 3) := by decide +kernel
theorem dX10_init_15 : decode cX10_init 15 = .ok (.putfield 14, 3) := by decide +kernel
theorem dX10_init_18 : decode cX10_init 18 = .ok (.aload_n 0, 1) := by decide +kernel
theorem dX10_init_19 : decode cX10_init 19 = .ok (.new 18, 3) := by decide +kernel
theorem dX10_init_22 : decode cX10_init 22 = .ok (.dup, 1) := by decide +kernel
theorem dX10_init_23 : decode cX10_init 23 = .ok (.invokespecial 20, 3) := by decide +kernel
theorem dX10_init_26 : decode cX10_init 26 = .ok (.putfield 21, 3) := by decide +kernel
theorem dX10_init_29 : decode cX10_init 29 = .ok (.aload_n 0, 1) := by decide +kernel
theorem dX10_init_30 : decode cX10_init 30 = .ok (.new 25, 3) := by decide +kernel
theorem dX10_init_33 : decode cX10_init 33 = .ok (.dup, 1) := by decide +kernel
theorem dX10_init_34 : decode cX10_init 34 = .ok (.invokespecial 27, 3) := by decide +kernel
theorem dX10_init_37 : decode cX10_init 37 = .ok (.putfield 28, 3) := by decide +kernel
theorem dX10_init_40 : decode cX10_init 40 = .ok (.aload_n 0, 1) := by decide +kernel
theorem dX10_init_41 : decode cX10_init 41 = .ok (.new 32, 3) := by decide +kernel
theorem dX10_init_44 : decode cX10_init 44 = .ok (.dup, 1) := by decide +kernel
theorem dX10_init_45 : decode cX10_init 45 = .ok (.invokespecial 34, 3) := by decide +kernel
theorem dX10_init_48 : decode cX10_init 48 = .ok (.putfield 35, 3) := by decide +kernel
theorem dX10_init_51 : decode cX10_init 51 = .ok (.aload_n 0, 1) := by decide +kernel
theorem dX10_init_52 : decode cX10_init 52 = .ok (.new 32, 3) := by decide +kernel
theorem dX10_init_55 : decode cX10_init 55 = .ok (.dup, 1) := by decide +kernel
theorem dX10_init_56 : decode cX10_init 56 = .ok (.invokespecial 34, 3) := by decide +kernel
theorem dX10_init_59 : decode cX10_init 59 = .ok (.putfield 39, 3) := by decide +kernel
theorem dX10_init_62 : decode cX10_init 62 = .ok (.aload_n 0, 1) := by decide +kernel
theorem dX10_init_63 : decode cX10_init 63 = .ok (.iconst 0, 1) := by decide +kernel
theorem dX10_init_64 : decode cX10_init 64 = .ok (.putfield 42, 3) := by decide +kernel
theorem dX10_init_67 : decode cX10_init 67 = .ok (.return_, 1) := by decide +kernel
theorem dX10_glyph_0 : decode cX10_glyph 0 = .ok (.iload_n 1, 1) := by decide +kernel
theorem dX10_glyph_1 : decode cX10_glyph 1 = .ok (.ifCond .lt 10, 3) := by decide +kernel
theorem dX10_glyph_4 : decode cX10_glyph 4 = .ok (.iload_n 1, 1) := by decide +kernel
theorem dX10_glyph_5 : decode cX10_glyph 5 = .ok (.sipush 2000, 3) := by decide +kernel
theorem dX10_glyph_8 : decode cX10_glyph 8 = .ok (.if_icmp .le 13, 3) := by decide +kernel
theorem dX10_glyph_11 : decode cX10_glyph 11 = .ok (.new 46, 3) := by decide +kernel
theorem dX10_glyph_14 : decode cX10_glyph 14 = .ok (.dup, 1) := by decide +kernel
theorem dX10_glyph_15 : decode cX10_glyph 15 = .ok (.ldc 48, 2) := by decide +kernel
theorem dX10_glyph_17 : decode cX10_glyph 17 = .ok (.invokespecial 50, 3) := by decide +kernel
theorem dX10_glyph_20 : decode cX10_glyph 20 = .ok (.athrow, 1) := by decide +kernel
theorem dX10_glyph_21 : decode cX10_glyph 21 = .ok (.aload_n 0, 1) := by decide +kernel
theorem dX10_glyph_22 : decode cX10_glyph 22 = .ok (.getfield 35, 3) := by decide +kernel
theorem dX10_glyph_25 : decode cX10_glyph 25 = .ok (.invokevirtual 53, 3) := by decide +kernel
theorem dX10_glyph_28 : decode cX10_glyph 28 = .ok (.bipush 6, 2) := by decide +kernel
theorem dX10_glyph_30 : decode cX10_glyph 30 = .ok (.if_icmp .lt 13, 3) := by decide +kernel
theorem dX10_glyph_33 : decode cX10_glyph 33 = .ok (.new 57, 3) := by decide +kernel
theorem dX10_glyph_36 : decode cX10_glyph 36 = .ok (.dup, 1) := by decide +kernel
theorem dX10_glyph_37 : decode cX10_glyph 37 = .ok (.ldc 59, 2) := by decide +kernel
theorem dX10_glyph_39 : decode cX10_glyph 39 = .ok (.invokespecial 61, 3) := by decide +kernel
theorem dX10_glyph_42 : decode cX10_glyph 42 = .ok (.athrow, 1) := by decide +kernel
theorem dX10_glyph_43 : decode cX10_glyph 43 = .ok (.aload_n 0, 1) := by decide +kernel
theorem dX10_glyph_44 : decode cX10_glyph 44 = .ok (.invokevirtual 62, 3) := by decide +kernel
theorem dX10_glyph_47 : decode cX10_glyph 47 = .ok (.aload_n 0, 1) := by decide +kernel
theorem dX10_glyph_48 : decode cX10_glyph 48 = .ok (.getfield 35, 3) := by decide +kernel
theorem dX10_glyph_51 : decode cX10_glyph 51 = .ok (.iload_n 1, 1) := by decide +kernel
theorem dX10_glyph_52 : decode cX10_glyph 52 = .ok (.invokevirtual 65, 3) := by decide +kernel
theorem dX10_glyph_55 : decode cX10_glyph 55 = .ok (.ireturn, 1) := by decide +kernel
theorem dX10_contour_0 : decode cX10_contour 0 = .ok (.aload_n 0, 1) := by decide +kernel
theorem dX10_contour_1 : decode cX10_contour 1 = .ok (.getfield 35, 3) := by decide +kernel
theorem dX10_contour_4 : decode cX10_contour 4 = .ok (.invokevirtual 53, 3) := by decide +kernel
theorem dX10_contour_7 : decode cX10_contour 7 = .ok (.ifCond .ne 13, 3) := by decide +kernel
theorem dX10_contour_10 : decode cX10_contour 10 = .ok (.new 57, 3) := by decide +kernel
theorem dX10_contour_13 : decode cX10_contour 13 = .ok (.dup, 1) := by decide +kernel
theorem dX10_contour_14 : decode cX10_contour 14 = .ok (.ldc 69, 2) := by decide +kernel
theorem dX10_contour_16 : decode cX10_contour 16 = .ok (.invokespecial 61, 3) := by decide +kernel
theorem dX10_contour_19 : decode cX10_contour 19 = .ok (.athrow, 1) := by decide +kernel
theorem dX10_contour_20 : decode cX10_contour 20 = .ok (.aload_n 0, 1) := by decide +kernel
theorem dX10_contour_21 : decode cX10_contour 21 = .ok (.getfield 35, 3) := by decide +kernel
theorem dX10_contour_24 : decode cX10_contour 24 = .ok (.invokevirtual 71, 3) := by decide +kernel
theorem dX10_contour_27 : decode cX10_contour 27 = .ok (.astore_n 1, 1) := by decide +kernel
theorem dX10_contour_28 : decode cX10_contour 28 = .ok (.aload_n 1, 1) := by decide +kernel
theorem dX10_contour_29 : decode cX10_contour 29 = .ok (.invokevirtual 75, 3) := by decide +kernel
theorem dX10_contour_32 : decode cX10_contour 32 = .ok (.iconst 4, 1) := by decide +kernel
theorem dX10_contour_33 : decode cX10_contour 33 = .ok (.if_icmp .lt 13, 3) := by decide +kernel
theorem dX10_contour_36 : decode cX10_contour 36 = .ok (.new 57, 3) := by decide +kernel
theorem dX10_contour_39 : decode cX10_contour 39 = .ok (.dup, 1) := by decide +kernel
theorem dX10_contour_40 : decode cX10_contour 40 = .ok (.ldc 80, 2) := by decide +kernel
theorem dX10_contour_42 : decode cX10_contour 42 = .ok (.invokespecial 61, 3) := by decide +kernel
theorem dX10_contour_45 : decode cX10_contour 45 = .ok (.athrow, 1) := by decide +kernel
theorem dX10_contour_46 : decode cX10_contour 46 = .ok (.aload_n 1, 1) := by decide +kernel
theorem dX10_contour_47 : decode cX10_contour 47 = .ok (.invokevirtual 82, 3) := by decide +kernel
theorem dX10_contour_50 : decode cX10_contour 50 = .ok (.bipush 16, 2) := by decide +kernel
theorem dX10_contour_52 : decode cX10_contour 52 = .ok (.if_icmp .lt 13, 3) := by decide +kernel
theorem dX10_contour_55 : decode cX10_contour 55 = .ok (.new 57, 3) := by decide +kernel
theorem dX10_contour_58 : decode cX10_contour 58 = .ok (.dup, 1) := by decide +kernel
theorem dX10_contour_59 : decode cX10_contour 59 = .ok (.ldc 85, 2) := by decide +kernel
theorem dX10_contour_61 : decode cX10_contour 61 = .ok (.invokespecial 61, 3) := by decide +kernel
theorem dX10_contour_64 : decode cX10_contour 64 = .ok (.athrow, 1) := by decide +kernel
theorem dX10_contour_65 : decode cX10_contour 65 = .ok (.aload_n 0, 1) := by decide +kernel
theorem dX10_contour_66 : decode cX10_contour 66 = .ok (.invokevirtual 62, 3) := by decide +kernel
theorem dX10_contour_69 : decode cX10_contour 69 = .ok (.aload_n 1, 1) := by decide +kernel
theorem dX10_contour_70 : decode cX10_contour 70 = .ok (.invokevirtual 87, 3) := by decide +kernel
theorem dX10_contour_73 : decode cX10_contour 73 = .ok (.ireturn, 1) := by decide +kernel
theorem dX10_point_0 : decode cX10_point 0 = .ok (.iload_n 1, 1) := by decide +kernel
theorem dX10_point_1 : decode cX10_point 1 = .ok (.invokestatic 90, 3) := by decide +kernel
theorem dX10_point_4 : decode cX10_point 4 = .ok (.ifCond .ne 10, 3) := by decide +kernel
theorem dX10_point_7 : decode cX10_point 7 = .ok (.iload_n 2, 1) := by decide +kernel
theorem dX10_point_8 : decode cX10_point 8 = .ok (.invokestatic 90, 3) := by decide +kernel
theorem dX10_point_11 : decode cX10_point 11 = .ok (.ifCond .eq 13, 3) := by decide +kernel
theorem dX10_point_14 : decode cX10_point 14 = .ok (.new 46, 3) := by decide +kernel
theorem dX10_point_17 : decode cX10_point 17 = .ok (.dup, 1) := by decide +kernel
theorem dX10_point_18 : decode cX10_point 18 = .ok (.ldc 94, 2) := by decide +kernel
theorem dX10_point_20 : decode cX10_point 20 = .ok (.invokespecial 50, 3) := by decide +kernel
theorem dX10_point_23 : decode cX10_point 23 = .ok (.athrow, 1) := by decide +kernel
theorem dX10_point_24 : decode cX10_point 24 = .ok (.aload_n 0, 1) := by decide +kernel
theorem dX10_point_25 : decode cX10_point 25 = .ok (.getfield 35, 3) := by decide +kernel
theorem dX10_point_28 : decode cX10_point 28 = .ok (.invokevirtual 53, 3) := by decide +kernel
theorem dX10_point_31 : decode cX10_point 31 = .ok (.ifCond .ne 13, 3) := by decide +kernel
theorem dX10_point_34 : decode cX10_point 34 = .ok (.new 57, 3) := by decide +kernel
theorem dX10_point_37 : decode cX10_point 37 = .ok (.dup, 1) := by decide +kernel
theorem dX10_point_38 : decode cX10_point 38 = .ok (.ldc 69, 2) := by decide +kernel
theorem dX10_point_40 : decode cX10_point 40 = .ok (.invokespecial 61, 3) := by decide +kernel
theorem dX10_point_43 : decode cX10_point 43 = .ok (.athrow, 1) := by decide +kernel
theorem dX10_point_44 : decode cX10_point 44 = .ok (.aload_n 0, 1) := by decide +kernel
theorem dX10_point_45 : decode cX10_point 45 = .ok (.getfield 35, 3) := by decide +kernel
theorem dX10_point_48 : decode cX10_point 48 = .ok (.invokevirtual 71, 3) := by decide +kernel
theorem dX10_point_51 : decode cX10_point 51 = .ok (.astore 4, 2) := by decide +kernel
theorem dX10_point_53 : decode cX10_point 53 = .ok (.aload 4, 2) := by decide +kernel
theorem dX10_point_55 : decode cX10_point 55 = .ok (.invokevirtual 75, 3) := by decide +kernel
theorem dX10_point_58 : decode cX10_point 58 = .ok (.ifCond .ne 13, 3) := by decide +kernel
theorem dX10_point_61 : decode cX10_point 61 = .ok (.new 57, 3) := by decide +kernel
theorem dX10_point_64 : decode cX10_point 64 = .ok (.dup, 1) := by decide +kernel
theorem dX10_point_65 : decode cX10_point 65 = .ok (.ldc 96, 2) := by decide +kernel
theorem dX10_point_67 : decode cX10_point 67 = .ok (.invokespecial 61, 3) := by decide +kernel
theorem dX10_point_70 : decode cX10_point 70 = .ok (.athrow, 1) := by decide +kernel
theorem dX10_point_71 : decode cX10_point 71 = .ok (.aload 4, 2) := by decide +kernel
theorem dX10_point_73 : decode cX10_point 73 = .ok (.invokevirtual 82, 3) := by decide +kernel
theorem dX10_point_76 : decode cX10_point 76 = .ok (.bipush 16, 2) := by decide +kernel
theorem dX10_point_78 : decode cX10_point 78 = .ok (.if_icmp .lt 13, 3) := by decide +kernel
theorem dX10_point_81 : decode cX10_point 81 = .ok (.new 57, 3) := by decide +kernel
theorem dX10_point_84 : decode cX10_point 84 = .ok (.dup, 1) := by decide +kernel
theorem dX10_point_85 : decode cX10_point 85 = .ok (.ldc 85, 2) := by decide +kernel
theorem dX10_point_87 : decode cX10_point 87 = .ok (.invokespecial 61, 3) := by decide +kernel
theorem dX10_point_90 : decode cX10_point 90 = .ok (.athrow, 1) := by decide +kernel
theorem dX10_point_91 : decode cX10_point 91 = .ok (.aload 4, 2) := by decide +kernel
theorem dX10_point_93 : decode cX10_point 93 = .ok (.invokevirtual 98, 3) := by decide +kernel
theorem dX10_point_96 : decode cX10_point 96 = .ok (.aload 4, 2) := by decide +kernel
theorem dX10_point_98 : decode cX10_point 98 = .ok (.iload_n 1, 1) := by decide +kernel
theorem dX10_point_99 : decode cX10_point 99 = .ok (.iload_n 2, 1) := by decide +kernel
theorem dX10_point_100 : decode cX10_point 100 = .ok (.iload_n 3, 1) := by decide +kernel
theorem dX10_point_101 : decode cX10_point 101 = .ok (.invokevirtual 101, 3) := by decide +kernel
theorem dX10_point_104 : decode cX10_point 104 = .ok (.ireturn, 1) := by decide +kernel
theorem dX10_table_0 : decode cX10_table 0 = .ok (.iload_n 1, 1) := by decide +kernel
theorem dX10_table_1 : decode cX10_table 1 = .ok (.iconst 2, 1) := by decide +kernel
theorem dX10_table_2 : decode cX10_table 2 = .ok (.if_icmp .lt 9, 3) := by decide +kernel
theorem dX10_table_5 : decode cX10_table 5 = .ok (.iload_n 1, 1) := by decide +kernel
theorem dX10_table_6 : decode cX10_table 6 = .ok (.bipush 7, 2) := by decide +kernel
theorem dX10_table_8 : decode cX10_table 8 = .ok (.if_icmp .lt 13, 3) := by decide +kernel
theorem dX10_table_11 : decode cX10_table 11 = .ok (.new 46, 3) := by decide +kernel
theorem dX10_table_14 : decode cX10_table 14 = .ok (.dup, 1) := by decide +kernel
theorem dX10_table_15 : decode cX10_table 15 = .ok (.ldc 105, 2) := by decide +kernel
theorem dX10_table_17 : decode cX10_table 17 = .ok (.invokespecial 50, 3) := by decide +kernel
theorem dX10_table_20 : decode cX10_table 20 = .ok (.athrow, 1) := by decide +kernel
theorem dX10_table_21 : decode cX10_table 21 = .ok (.iload 4, 2) := by decide +kernel
theorem dX10_table_23 : decode cX10_table 23 = .ok (.iconst 1, 1) := by decide +kernel
theorem dX10_table_24 : decode cX10_table 24 = .ok (.if_icmp .lt 10, 3) := by decide +kernel
theorem dX10_table_27 : decode cX10_table 27 = .ok (.iload 4, 2) := by decide +kernel
theorem dX10_table_29 : decode cX10_table 29 = .ok (.bipush 8, 2) := by decide +kernel
theorem dX10_table_31 : decode cX10_table 31 = .ok (.if_icmp .le 13, 3) := by decide +kernel
theorem dX10_table_34 : decode cX10_table 34 = .ok (.new 46, 3) := by decide +kernel
theorem dX10_table_37 : decode cX10_table 37 = .ok (.dup, 1) := by decide +kernel
theorem dX10_table_38 : decode cX10_table 38 = .ok (.ldc 107, 2) := by decide +kernel
theorem dX10_table_40 : decode cX10_table 40 = .ok (.invokespecial 50, 3) := by decide +kernel
theorem dX10_table_43 : decode cX10_table 43 = .ok (.athrow, 1) := by decide +kernel
theorem dX10_table_44 : decode cX10_table 44 = .ok (.aload_n 0, 1) := by decide +kernel
theorem dX10_table_45 : decode cX10_table 45 = .ok (.getfield 35, 3) := by decide +kernel
theorem dX10_table_48 : decode cX10_table 48 = .ok (.iload_n 1, 1) := by decide +kernel
theorem dX10_table_49 : decode cX10_table 49 = .ok (.invokevirtual 109, 3) := by decide +kernel
theorem dX10_table_52 : decode cX10_table 52 = .ok (.astore 5, 2) := by decide +kernel
theorem dX10_table_54 : decode cX10_table 54 = .ok (.aload 5, 2) := by decide +kernel
theorem dX10_table_56 : decode cX10_table 56 = .ok (.invokevirtual 113, 3) := by decide +kernel
theorem dX10_table_59 : decode cX10_table 59 = .ok (.iload 4, 2) := by decide +kernel
theorem dX10_table_61 : decode cX10_table 61 = .ok (.iadd, 1) := by decide +kernel
theorem dX10_table_62 : decode cX10_table 62 = .ok (.bipush 20, 2) := by decide +kernel
theorem dX10_table_64 : decode cX10_table 64 = .ok (.if_icmp .le 13, 3) := by decide +kernel
theorem dX10_table_67 : decode cX10_table 67 = .ok (.new 57, 3) := by decide +kernel
theorem dX10_table_70 : decode cX10_table 70 = .ok (.dup, 1) := by decide +kernel
theorem dX10_table_71 : decode cX10_table 71 = .ok (.ldc 116, 2) := by decide +kernel
theorem dX10_table_73 : decode cX10_table 73 = .ok (.invokespecial 61, 3) := by decide +kernel
theorem dX10_table_76 : decode cX10_table 76 = .ok (.athrow, 1) := by decide +kernel
theorem dX10_table_77 : decode cX10_table 77 = .ok (.aload 5, 2) := by decide +kernel
theorem dX10_table_79 : decode cX10_table 79 = .ok (.lload_n 2, 1) := by decide +kernel
theorem dX10_table_80 : decode cX10_table 80 = .ok (.iload 4, 2) := by decide +kernel
theorem dX10_table_82 : decode cX10_table 82 = .ok (.invokevirtual 118, 3) := by decide +kernel
theorem dX10_table_85 : decode cX10_table 85 = .ok (.aload 5, 2) := by decide +kernel
theorem dX10_table_87 : decode cX10_table 87 = .ok (.invokevirtual 113, 3) := by decide +kernel
theorem dX10_table_90 : decode cX10_table 90 = .ok (.ireturn, 1) := by decide +kernel
theorem dX10_clear_0 : decode cX10_clear 0 = .ok (.aload_n 0, 1) := by decide +kernel
theorem dX10_clear_1 : decode cX10_clear 1 = .ok (.getfield 35, 3) := by decide +kernel
theorem dX10_clear_4 : decode cX10_clear 4 = .ok (.invokevirtual 122, 3) := by decide +kernel
theorem dX10_clear_7 : decode cX10_clear 7 = .ok (.return_, 1) := by decide +kernel
theorem dX10_pack_0 : decode cX10_pack 0 = .ok (.aload_n 0, 1) := by decide +kernel
theorem dX10_pack_1 : decode cX10_pack 1 = .ok (.invokevirtual 62, 3) := by decide +kernel
theorem dX10_pack_4 : decode cX10_pack 4 = .ok (.aload_n 0, 1) := by decide +kernel
theorem dX10_pack_5 : decode cX10_pack 5 = .ok (.getfield 21, 3) := by decide +kernel
theorem dX10_pack_8 : decode cX10_pack 8 = .ok (.aload_n 0, 1) := by decide +kernel
theorem dX10_pack_9 : decode cX10_pack 9 = .ok (.getfield 35, 3) := by decide +kernel
theorem dX10_pack_12 : decode cX10_pack 12 = .ok (.aload_n 0, 1) := by decide +kernel
theorem dX10_pack_13 : decode cX10_pack 13 = .ok (.getfield 14, 3) := by decide +kernel
theorem dX10_pack_16 : decode cX10_pack 16 = .ok (.invokevirtual 125, 3) := by decide +kernel
theorem dX10_pack_19 : decode cX10_pack 19 = .ok (.aload_n 0, 1) := by decide +kernel
theorem dX10_pack_20 : decode cX10_pack 20 = .ok (.getfield 14, 3) := by decide +kernel
theorem dX10_pack_23 : decode cX10_pack 23 = .ok (.invokevirtual 113, 3) := by decide +kernel
theorem dX10_pack_26 : decode cX10_pack 26 = .ok (.ireturn, 1) := by decide +kernel
theorem dX10_plain_0 : decode cX10_plain 0 = .ok (.aload_n 0, 1) := by decide +kernel
theorem dX10_plain_1 : decode cX10_plain 1 = .ok (.invokevirtual 62, 3) := by decide +kernel
theorem dX10_plain_4 : decode cX10_plain 4 = .ok (.aload_n 0, 1) := by decide +kernel
theorem dX10_plain_5 : decode cX10_plain 5 = .ok (.getfield 35, 3) := by decide +kernel
theorem dX10_plain_8 : decode cX10_plain 8 = .ok (.aload_n 0, 1) := by decide +kernel
theorem dX10_plain_9 : decode cX10_plain 9 = .ok (.getfield 14, 3) := by decide +kernel
theorem dX10_plain_12 : decode cX10_plain 12 = .ok (.invokestatic 129, 3) := by decide +kernel
theorem dX10_plain_15 : decode cX10_plain 15 = .ok (.aload_n 0, 1) := by decide +kernel
theorem dX10_plain_16 : decode cX10_plain 16 = .ok (.getfield 14, 3) := by decide +kernel
theorem dX10_plain_19 : decode cX10_plain 19 = .ok (.invokevirtual 113, 3) := by decide +kernel
theorem dX10_plain_22 : decode cX10_plain 22 = .ok (.ireturn, 1) := by decide +kernel
theorem dX10_read_0 : decode cX10_read 0 = .ok (.aload_n 0, 1) := by decide +kernel
theorem dX10_read_1 : decode cX10_read 1 = .ok (.aload_n 0, 1) := by decide +kernel
theorem dX10_read_2 : decode cX10_read 2 = .ok (.getfield 28, 3) := by decide +kernel
theorem dX10_read_5 : decode cX10_read 5 = .ok (.aload_n 0, 1) := by decide +kernel
theorem dX10_read_6 : decode cX10_read 6 = .ok (.getfield 14, 3) := by decide +kernel
theorem dX10_read_9 : decode cX10_read 9 = .ok (.aload_n 0, 1) := by decide +kernel
theorem dX10_read_10 : decode cX10_read 10 = .ok (.getfield 39, 3) := by decide +kernel
theorem dX10_read_13 : decode cX10_read 13 = .ok (.invokevirtual 134, 3) := by decide +kernel
theorem dX10_read_16 : decode cX10_read 16 = .ok (.putfield 42, 3) := by decide +kernel
theorem dX10_read_19 : decode cX10_read 19 = .ok (.aload_n 0, 1) := by decide +kernel
theorem dX10_read_20 : decode cX10_read 20 = .ok (.getfield 42, 3) := by decide +kernel
theorem dX10_read_23 : decode cX10_read 23 = .ok (.ifCond .eq 13, 3) := by decide +kernel
theorem dX10_read_26 : decode cX10_read 26 = .ok (.new 46, 3) := by decide +kernel
theorem dX10_read_29 : decode cX10_read 29 = .ok (.dup, 1) := by decide +kernel
theorem dX10_read_30 : decode cX10_read 30 = .ok (.ldc 138, 2) := by decide +kernel
theorem dX10_read_32 : decode cX10_read 32 = .ok (.invokespecial 50, 3) := by decide +kernel
theorem dX10_read_35 : decode cX10_read 35 = .ok (.athrow, 1) := by decide +kernel
theorem dX10_read_36 : decode cX10_read 36 = .ok (.aload_n 0, 1) := by decide +kernel
theorem dX10_read_37 : decode cX10_read 37 = .ok (.getfield 35, 3) := by decide +kernel
theorem dX10_read_40 : decode cX10_read 40 = .ok (.astore_n 1, 1) := by decide +kernel
theorem dX10_read_41 : decode cX10_read 41 = .ok (.aload_n 0, 1) := by decide +kernel
theorem dX10_read_42 : decode cX10_read 42 = .ok (.aload_n 0, 1) := by decide +kernel
theorem dX10_read_43 : decode cX10_read 43 = .ok (.getfield 39, 3) := by decide +kernel
theorem dX10_read_46 : decode cX10_read 46 = .ok (.putfield 35, 3) := by decide +kernel
theorem dX10_read_49 : decode cX10_read 49 = .ok (.aload_n 0, 1) := by decide +kernel
theorem dX10_read_50 : decode cX10_read 50 = .ok (.aload_n 1, 1) := by decide +kernel
theorem dX10_read_51 : decode cX10_read 51 = .ok (.putfield 39, 3) := by decide +kernel
theorem dX10_read_54 : decode cX10_read 54 = .ok (.aload_n 0, 1) := by decide +kernel
theorem dX10_read_55 : decode cX10_read 55 = .ok (.getfield 35, 3) := by decide +kernel
theorem dX10_read_58 : decode cX10_read 58 = .ok (.invokevirtual 140, 3) := by decide +kernel
theorem dX10_read_61 : decode cX10_read 61 = .ok (.ireturn, 1) := by decide +kernel
theorem dX10_stage_0 : decode cX10_stage 0 = .ok (.aload_n 0, 1) := by decide +kernel
theorem dX10_stage_1 : decode cX10_stage 1 = .ok (.getfield 42, 3) := by decide +kernel
theorem dX10_stage_4 : decode cX10_stage 4 = .ok (.ireturn, 1) := by decide +kernel
theorem dX10_put_0 : decode cX10_put 0 = .ok (.iload_n 3, 1) := by decide +kernel
theorem dX10_put_1 : decode cX10_put 1 = .ok (.iconst 1, 1) := by decide +kernel
theorem dX10_put_2 : decode cX10_put 2 = .ok (.if_icmp .lt 9, 3) := by decide +kernel
theorem dX10_put_5 : decode cX10_put 5 = .ok (.iload_n 3, 1) := by decide +kernel
theorem dX10_put_6 : decode cX10_put 6 = .ok (.bipush 8, 2) := by decide +kernel
theorem dX10_put_8 : decode cX10_put 8 = .ok (.if_icmp .le 13, 3) := by decide +kernel
theorem dX10_put_11 : decode cX10_put 11 = .ok (.new 46, 3) := by decide +kernel
theorem dX10_put_14 : decode cX10_put 14 = .ok (.dup, 1) := by decide +kernel
theorem dX10_put_15 : decode cX10_put 15 = .ok (.ldc 107, 2) := by decide +kernel
theorem dX10_put_17 : decode cX10_put 17 = .ok (.invokespecial 50, 3) := by decide +kernel
theorem dX10_put_20 : decode cX10_put 20 = .ok (.athrow, 1) := by decide +kernel
theorem dX10_put_21 : decode cX10_put 21 = .ok (.aload_n 0, 1) := by decide +kernel
theorem dX10_put_22 : decode cX10_put 22 = .ok (.getfield 14, 3) := by decide +kernel
theorem dX10_put_25 : decode cX10_put 25 = .ok (.invokevirtual 113, 3) := by decide +kernel
theorem dX10_put_28 : decode cX10_put 28 = .ok (.iload_n 3, 1) := by decide +kernel
theorem dX10_put_29 : decode cX10_put 29 = .ok (.iadd, 1) := by decide +kernel
theorem dX10_put_30 : decode cX10_put 30 = .ok (.sipush 1500, 3) := by decide +kernel
theorem dX10_put_33 : decode cX10_put 33 = .ok (.if_icmp .le 13, 3) := by decide +kernel
theorem dX10_put_36 : decode cX10_put 36 = .ok (.new 57, 3) := by decide +kernel
theorem dX10_put_39 : decode cX10_put 39 = .ok (.dup, 1) := by decide +kernel
theorem dX10_put_40 : decode cX10_put 40 = .ok (.ldc 143, 2) := by decide +kernel
theorem dX10_put_42 : decode cX10_put 42 = .ok (.invokespecial 61, 3) := by decide +kernel
theorem dX10_put_45 : decode cX10_put 45 = .ok (.athrow, 1) := by decide +kernel
theorem dX10_put_46 : decode cX10_put 46 = .ok (.aload_n 0, 1) := by decide +kernel
theorem dX10_put_47 : decode cX10_put 47 = .ok (.getfield 14, 3) := by decide +kernel
theorem dX10_put_50 : decode cX10_put 50 = .ok (.lload_n 1, 1) := by decide +kernel
theorem dX10_put_51 : decode cX10_put 51 = .ok (.iload_n 3, 1) := by decide +kernel
theorem dX10_put_52 : decode cX10_put 52 = .ok (.invokevirtual 118, 3) := by decide +kernel
theorem dX10_put_55 : decode cX10_put 55 = .ok (.aload_n 0, 1) := by decide +kernel
theorem dX10_put_56 : decode cX10_put 56 = .ok (.getfield 14, 3) := by decide +kernel
theorem dX10_put_59 : decode cX10_put 59 = .ok (.invokevirtual 113, 3) := by decide +kernel
theorem dX10_put_62 : decode cX10_put 62 = .ok (.ireturn, 1) := by decide +kernel
theorem dX10_set_0 : decode cX10_set 0 = .ok (.aload_n 0, 1) := by decide +kernel
theorem dX10_set_1 : decode cX10_set 1 = .ok (.iload_n 1, 1) := by decide +kernel
theorem dX10_set_2 : decode cX10_set 2 = .ok (.invokevirtual 145, 3) := by decide +kernel
theorem dX10_set_5 : decode cX10_set 5 = .ok (.iload_n 2, 1) := by decide +kernel
theorem dX10_set_6 : decode cX10_set 6 = .ok (.ifCond .lt 10, 3) := by decide +kernel
theorem dX10_set_9 : decode cX10_set 9 = .ok (.iload_n 2, 1) := by decide +kernel
theorem dX10_set_10 : decode cX10_set 10 = .ok (.sipush 255, 3) := by decide +kernel
theorem dX10_set_13 : decode cX10_set 13 = .ok (.if_icmp .le 13, 3) := by decide +kernel
theorem dX10_set_16 : decode cX10_set 16 = .ok (.new 46, 3) := by decide +kernel
theorem dX10_set_19 : decode cX10_set 19 = .ok (.dup, 1) := by decide +kernel
theorem dX10_set_20 : decode cX10_set 20 = .ok (.ldc 148, 2) := by decide +kernel
theorem dX10_set_22 : decode cX10_set 22 = .ok (.invokespecial 50, 3) := by decide +kernel
theorem dX10_set_25 : decode cX10_set 25 = .ok (.athrow, 1) := by decide +kernel
theorem dX10_set_26 : decode cX10_set 26 = .ok (.aload_n 0, 1) := by decide +kernel
theorem dX10_set_27 : decode cX10_set 27 = .ok (.getfield 14, 3) := by decide +kernel
theorem dX10_set_30 : decode cX10_set 30 = .ok (.iload_n 1, 1) := by decide +kernel
theorem dX10_set_31 : decode cX10_set 31 = .ok (.iload_n 2, 1) := by decide +kernel
theorem dX10_set_32 : decode cX10_set 32 = .ok (.invokevirtual 150, 3) := by decide +kernel
theorem dX10_set_35 : decode cX10_set 35 = .ok (.return_, 1) := by decide +kernel
theorem dX10_cut_0 : decode cX10_cut 0 = .ok (.iload_n 1, 1) := by decide +kernel
theorem dX10_cut_1 : decode cX10_cut 1 = .ok (.ifCond .lt 14, 3) := by decide +kernel
theorem dX10_cut_4 : decode cX10_cut 4 = .ok (.iload_n 1, 1) := by decide +kernel
theorem dX10_cut_5 : decode cX10_cut 5 = .ok (.aload_n 0, 1) := by decide +kernel
theorem dX10_cut_6 : decode cX10_cut 6 = .ok (.getfield 14, 3) := by decide +kernel
theorem dX10_cut_9 : decode cX10_cut 9 = .ok (.invokevirtual 113, 3) := by decide +kernel
theorem dX10_cut_12 : decode cX10_cut 12 = .ok (.if_icmp .le 13, 3) := by decide +kernel
theorem dX10_cut_15 : decode cX10_cut 15 = .ok (.new 46, 3) := by decide +kernel
theorem dX10_cut_18 : decode cX10_cut 18 = .ok (.dup, 1) := by decide +kernel
theorem dX10_cut_19 : decode cX10_cut 19 = .ok (.ldc 154, 2) := by decide +kernel
theorem dX10_cut_21 : decode cX10_cut 21 = .ok (.invokespecial 50, 3) := by decide +kernel
theorem dX10_cut_24 : decode cX10_cut 24 = .ok (.athrow, 1) := by decide +kernel
theorem dX10_cut_25 : decode cX10_cut 25 = .ok (.aload_n 0, 1) := by decide +kernel
theorem dX10_cut_26 : decode cX10_cut 26 = .ok (.getfield 14, 3) := by decide +kernel
theorem dX10_cut_29 : decode cX10_cut 29 = .ok (.iload_n 1, 1) := by decide +kernel
theorem dX10_cut_30 : decode cX10_cut 30 = .ok (.invokevirtual 156, 3) := by decide +kernel
theorem dX10_cut_33 : decode cX10_cut 33 = .ok (.return_, 1) := by decide +kernel
theorem dX10_at_0 : decode cX10_at 0 = .ok (.iload_n 1, 1) := by decide +kernel
theorem dX10_at_1 : decode cX10_at 1 = .ok (.iconst (-1), 1) := by decide +kernel
theorem dX10_at_2 : decode cX10_at 2 = .ok (.if_icmp .ne 11, 3) := by decide +kernel
theorem dX10_at_5 : decode cX10_at 5 = .ok (.aload_n 0, 1) := by decide +kernel
theorem dX10_at_6 : decode cX10_at 6 = .ok (.getfield 14, 3) := by decide +kernel
theorem dX10_at_9 : decode cX10_at 9 = .ok (.invokevirtual 113, 3) := by decide +kernel
theorem dX10_at_12 : decode cX10_at 12 = .ok (.ireturn, 1) := by decide +kernel
theorem dX10_at_13 : decode cX10_at 13 = .ok (.aload_n 0, 1) := by decide +kernel
theorem dX10_at_14 : decode cX10_at 14 = .ok (.iload_n 1, 1) := by decide +kernel
theorem dX10_at_15 : decode cX10_at 15 = .ok (.invokevirtual 145, 3) := by decide +kernel
theorem dX10_at_18 : decode cX10_at 18 = .ok (.aload_n 0, 1) := by decide +kernel
theorem dX10_at_19 : decode cX10_at 19 = .ok (.getfield 14, 3) := by decide +kernel
theorem dX10_at_22 : decode cX10_at 22 = .ok (.iload_n 1, 1) := by decide +kernel
theorem dX10_at_23 : decode cX10_at 23 = .ok (.invokevirtual 159, 3) := by decide +kernel
theorem dX10_at_26 : decode cX10_at 26 = .ok (.ireturn, 1) := by decide +kernel
theorem dX10_count_0 : decode cX10_count 0 = .ok (.iload_n 1, 1) := by decide +kernel
theorem dX10_count_1 : decode cX10_count 1 = .ok (.iconst (-1), 1) := by decide +kernel
theorem dX10_count_2 : decode cX10_count 2 = .ok (.if_icmp .ne 11, 3) := by decide +kernel
theorem dX10_count_5 : decode cX10_count 5 = .ok (.aload_n 0, 1) := by decide +kernel
theorem dX10_count_6 : decode cX10_count 6 = .ok (.getfield 35, 3) := by decide +kernel
theorem dX10_count_9 : decode cX10_count 9 = .ok (.invokevirtual 53, 3) := by decide +kernel
theorem dX10_count_12 : decode cX10_count 12 = .ok (.ireturn, 1) := by decide +kernel
theorem dX10_count_13 : decode cX10_count 13 = .ok (.aload_n 0, 1) := by decide +kernel
theorem dX10_count_14 : decode cX10_count 14 = .ok (.iload_n 1, 1) := by decide +kernel
theorem dX10_count_15 : decode cX10_count 15 = .ok (.invokevirtual 162, 3) := by decide +kernel
theorem dX10_count_18 : decode cX10_count 18 = .ok (.aload_n 0, 1) := by decide +kernel
theorem dX10_count_19 : decode cX10_count 19 = .ok (.getfield 35, 3) := by decide +kernel
theorem dX10_count_22 : decode cX10_count 22 = .ok (.iload_n 1, 1) := by decide +kernel
theorem dX10_count_23 : decode cX10_count 23 = .ok (.invokevirtual 165, 3) := by decide +kernel
theorem dX10_count_26 : decode cX10_count 26 = .ok (.invokevirtual 82, 3) := by decide +kernel
theorem dX10_count_29 : decode cX10_count 29 = .ok (.ireturn, 1) := by decide +kernel
theorem dX10_outline_0 : decode cX10_outline 0 = .ok (.aload_n 0, 1) := by decide +kernel
theorem dX10_outline_1 : decode cX10_outline 1 = .ok (.iload_n 1, 1) := by decide +kernel
theorem dX10_outline_2 : decode cX10_outline 2 = .ok (.invokevirtual 162, 3) := by decide +kernel
theorem dX10_outline_5 : decode cX10_outline 5 = .ok (.iload_n 3, 1) := by decide +kernel
theorem dX10_outline_6 : decode cX10_outline 6 = .ok (.ifCond .lt 8, 3) := by decide +kernel
theorem dX10_outline_9 : decode cX10_outline 9 = .ok (.iload_n 3, 1) := by decide +kernel
theorem dX10_outline_10 : decode cX10_outline 10 = .ok (.iconst 3, 1) := by decide +kernel
theorem dX10_outline_11 : decode cX10_outline 11 = .ok (.if_icmp .le 13, 3) := by decide +kernel
theorem dX10_outline_14 : decode cX10_outline 14 = .ok (.new 46, 3) := by decide +kernel
theorem dX10_outline_17 : decode cX10_outline 17 = .ok (.dup, 1) := by decide +kernel
theorem dX10_outline_18 : decode cX10_outline 18 = .ok (.ldc 169, 2) := by decide +kernel
theorem dX10_outline_20 : decode cX10_outline 20 = .ok (.invokespecial 50, 3) := by decide +kernel
theorem dX10_outline_23 : decode cX10_outline 23 = .ok (.athrow, 1) := by decide +kernel
theorem dX10_outline_24 : decode cX10_outline 24 = .ok (.aload_n 0, 1) := by decide +kernel
theorem dX10_outline_25 : decode cX10_outline 25 = .ok (.getfield 35, 3) := by decide +kernel
theorem dX10_outline_28 : decode cX10_outline 28 = .ok (.iload_n 1, 1) := by decide +kernel
theorem dX10_outline_29 : decode cX10_outline 29 = .ok (.invokevirtual 165, 3) := by decide +kernel
theorem dX10_outline_32 : decode cX10_outline 32 = .ok (.astore 4, 2) := by decide +kernel
theorem dX10_outline_34 : decode cX10_outline 34 = .ok (.iload_n 2, 1) := by decide +kernel
theorem dX10_outline_35 : decode cX10_outline 35 = .ok (.ifCond .lt 12, 3) := by decide +kernel
theorem dX10_outline_38 : decode cX10_outline 38 = .ok (.iload_n 2, 1) := by decide +kernel
theorem dX10_outline_39 : decode cX10_outline 39 = .ok (.aload 4, 2) := by decide +kernel
theorem dX10_outline_41 : decode cX10_outline 41 = .ok (.invokevirtual 82, 3) := by decide +kernel
theorem dX10_outline_44 : decode cX10_outline 44 = .ok (.if_icmp .lt 13, 3) := by decide +kernel
theorem dX10_outline_47 : decode cX10_outline 47 = .ok (.new 171, 3) := by decide +kernel
theorem dX10_outline_50 : decode cX10_outline 50 = .ok (.dup, 1) := by decide +kernel
theorem dX10_outline_51 : decode cX10_outline 51 = .ok (.ldc 173, 2) := by decide +kernel
theorem dX10_outline_53 : decode cX10_outline 53 = .ok (.invokespecial 175, 3) := by decide +kernel
theorem dX10_outline_56 : decode cX10_outline 56 = .ok (.athrow, 1) := by decide +kernel
theorem dX10_outline_57 : decode cX10_outline 57 = .ok (.iload_n 3, 1) := by decide +kernel
theorem dX10_outline_58 : decode cX10_outline 58 = .ok (.tableswitch 55 0 2 #[26, 33, 40], 26) := by decide +kernel
theorem dX10_outline_84 : decode cX10_outline 84 = .ok (.aload 4, 2) := by decide +kernel
theorem dX10_outline_86 : decode cX10_outline 86 = .ok (.iload_n 2, 1) := by decide +kernel
theorem dX10_outline_87 : decode cX10_outline 87 = .ok (.invokevirtual 176, 3) := by decide +kernel
theorem dX10_outline_90 : decode cX10_outline 90 = .ok (.ireturn, 1) := by decide +kernel
theorem dX10_outline_91 : decode cX10_outline 91 = .ok (.aload 4, 2) := by decide +kernel
theorem dX10_outline_93 : decode cX10_outline 93 = .ok (.iload_n 2, 1) := by decide +kernel
theorem dX10_outline_94 : decode cX10_outline 94 = .ok (.invokevirtual 179, 3) := by decide +kernel
theorem dX10_outline_97 : decode cX10_outline 97 = .ok (.ireturn, 1) := by decide +kernel
theorem dX10_outline_98 : decode cX10_outline 98 = .ok (.aload 4, 2) := by decide +kernel
theorem dX10_outline_100 : decode cX10_outline 100 = .ok (.iload_n 2, 1) := by decide +kernel
theorem dX10_outline_101 : decode cX10_outline 101 = .ok (.invokevirtual 182, 3) := by decide +kernel
theorem dX10_outline_104 : decode cX10_outline 104 = .ok (.ifCond .eq 7, 3) := by decide +kernel
theorem dX10_outline_107 : decode cX10_outline 107 = .ok (.iconst 1, 1) := by decide +kernel
theorem dX10_outline_108 : decode cX10_outline 108 = .ok (.goto 4, 3) := by decide +kernel
theorem dX10_outline_111 : decode cX10_outline 111 = .ok (.iconst 0, 1) := by decide +kernel
theorem dX10_outline_112 : decode cX10_outline 112 = .ok (.ireturn, 1) := by decide +kernel
theorem dX10_outline_113 : decode cX10_outline 113 = .ok (.aload 4, 2) := by decide +kernel
theorem dX10_outline_115 : decode cX10_outline 115 = .ok (.iload_n 2, 1) := by decide +kernel
theorem dX10_outline_116 : decode cX10_outline 116 = .ok (.invokevirtual 185, 3) := by decide +kernel
theorem dX10_outline_119 : decode cX10_outline 119 = .ok (.ireturn, 1) := by decide +kernel
theorem dX10_refuseEmptyContour_0 : decode cX10_refuseEmptyContour 0 = .ok (.aload_n 0, 1) := by decide +kernel
theorem dX10_refuseEmptyContour_1 : decode cX10_refuseEmptyContour 1 = .ok (.getfield 35, 3) := by decide +kernel
theorem dX10_refuseEmptyContour_4 : decode cX10_refuseEmptyContour 4 = .ok (.invokevirtual 188, 3) := by decide +kernel
theorem dX10_refuseEmptyContour_7 : decode cX10_refuseEmptyContour 7 = .ok (.ifCond .eq 13, 3) := by decide +kernel
theorem dX10_refuseEmptyContour_10 : decode cX10_refuseEmptyContour 10 = .ok (.new 57, 3) := by decide +kernel
theorem dX10_refuseEmptyContour_13 : decode cX10_refuseEmptyContour 13 = .ok (.dup, 1) := by decide +kernel
theorem dX10_refuseEmptyContour_14 : decode cX10_refuseEmptyContour 14 = .ok (.ldc 192, 2) := by decide +kernel
theorem dX10_refuseEmptyContour_16 : decode cX10_refuseEmptyContour 16 = .ok (.invokespecial 61, 3) := by decide +kernel
theorem dX10_refuseEmptyContour_19 : decode cX10_refuseEmptyContour 19 = .ok (.athrow, 1) := by decide +kernel
theorem dX10_refuseEmptyContour_20 : decode cX10_refuseEmptyContour 20 = .ok (.return_, 1) := by decide +kernel
theorem dX10_refuseMissingByte_0 : decode cX10_refuseMissingByte 0 = .ok (.iload_n 1, 1) := by decide +kernel
theorem dX10_refuseMissingByte_1 : decode cX10_refuseMissingByte 1 = .ok (.ifCond .lt 14, 3) := by decide +kernel
theorem dX10_refuseMissingByte_4 : decode cX10_refuseMissingByte 4 = .ok (.iload_n 1, 1) := by decide +kernel
theorem dX10_refuseMissingByte_5 : decode cX10_refuseMissingByte 5 = .ok (.aload_n 0, 1) := by decide +kernel
theorem dX10_refuseMissingByte_6 : decode cX10_refuseMissingByte 6 = .ok (.getfield 14, 3) := by decide +kernel
theorem dX10_refuseMissingByte_9 : decode cX10_refuseMissingByte 9 = .ok (.invokevirtual 113, 3) := by decide +kernel
theorem dX10_refuseMissingByte_12 : decode cX10_refuseMissingByte 12 = .ok (.if_icmp .lt 13, 3) := by decide +kernel
theorem dX10_refuseMissingByte_15 : decode cX10_refuseMissingByte 15 = .ok (.new 171, 3) := by decide +kernel
theorem dX10_refuseMissingByte_18 : decode cX10_refuseMissingByte 18 = .ok (.dup, 1) := by decide +kernel
theorem dX10_refuseMissingByte_19 : decode cX10_refuseMissingByte 19 = .ok (.ldc 194, 2) := by decide +kernel
theorem dX10_refuseMissingByte_21 : decode cX10_refuseMissingByte 21 = .ok (.invokespecial 175, 3) := by decide +kernel
theorem dX10_refuseMissingByte_24 : decode cX10_refuseMissingByte 24 = .ok (.athrow, 1) := by decide +kernel
theorem dX10_refuseMissingByte_25 : decode cX10_refuseMissingByte 25 = .ok (.return_, 1) := by decide +kernel
theorem dX10_refuseMissingGlyph_0 : decode cX10_refuseMissingGlyph 0 = .ok (.iload_n 1, 1) := by decide +kernel
theorem dX10_refuseMissingGlyph_1 : decode cX10_refuseMissingGlyph 1 = .ok (.ifCond .lt 14, 3) := by decide +kernel
theorem dX10_refuseMissingGlyph_4 : decode cX10_refuseMissingGlyph 4 = .ok (.iload_n 1, 1) := by decide +kernel
theorem dX10_refuseMissingGlyph_5 : decode cX10_refuseMissingGlyph 5 = .ok (.aload_n 0, 1) := by decide +kernel
theorem dX10_refuseMissingGlyph_6 : decode cX10_refuseMissingGlyph 6 = .ok (.getfield 35, 3) := by decide +kernel
theorem dX10_refuseMissingGlyph_9 : decode cX10_refuseMissingGlyph 9 = .ok (.invokevirtual 53, 3) := by decide +kernel
theorem dX10_refuseMissingGlyph_12 : decode cX10_refuseMissingGlyph 12 = .ok (.if_icmp .lt 13, 3) := by decide +kernel
theorem dX10_refuseMissingGlyph_15 : decode cX10_refuseMissingGlyph 15 = .ok (.new 46, 3) := by decide +kernel
theorem dX10_refuseMissingGlyph_18 : decode cX10_refuseMissingGlyph 18 = .ok (.dup, 1) := by decide +kernel
theorem dX10_refuseMissingGlyph_19 : decode cX10_refuseMissingGlyph 19 = .ok (.ldc 196, 2) := by decide +kernel
theorem dX10_refuseMissingGlyph_21 : decode cX10_refuseMissingGlyph 21 = .ok (.invokespecial 50, 3) := by decide +kernel
theorem dX10_refuseMissingGlyph_24 : decode cX10_refuseMissingGlyph 24 = .ok (.athrow, 1) := by decide +kernel
theorem dX10_refuseMissingGlyph_25 : decode cX10_refuseMissingGlyph 25 = .ok (.return_, 1) := by decide +kernel
theorem dX10_isTooFar_0 : decode cX10_isTooFar 0 = .ok (.iload_n 0, 1) := by decide +kernel
theorem dX10_isTooFar_1 : decode cX10_isTooFar 1 = .ok (.sipush (-4000), 3) := by decide +kernel
theorem dX10_isTooFar_4 : decode cX10_isTooFar 4 = .ok (.if_icmp .lt 10, 3) := by decide +kernel
theorem dX10_isTooFar_7 : decode cX10_isTooFar 7 = .ok (.iload_n 0, 1) := by decide +kernel
theorem dX10_isTooFar_8 : decode cX10_isTooFar 8 = .ok (.sipush 4000, 3) := by decide +kernel
theorem dX10_isTooFar_11 : decode cX10_isTooFar 11 = .ok (.if_icmp .le 7, 3) := by decide +kernel
theorem dX10_isTooFar_14 : decode cX10_isTooFar 14 = .ok (.iconst 1, 1) := by decide +kernel
theorem dX10_isTooFar_15 : decode cX10_isTooFar 15 = .ok (.goto 4, 3) := by decide +kernel
theorem dX10_isTooFar_18 : decode cX10_isTooFar 18 = .ok (.iconst 0, 1) := by decide +kernel
theorem dX10_isTooFar_19 : decode cX10_isTooFar 19 = .ok (.ireturn, 1) := by decide +kernel
theorem dX11_init_0 : decode cX11_init 0 = .ok (.aload_n 0, 1) := by decide +kernel
theorem dX11_init_1 : decode cX11_init 1 = .ok (.invokespecial 1, 3) := by decide +kernel
theorem dX11_init_4 : decode cX11_init 4 = .ok (.aload_n 0, 1) := by decide +kernel
theorem dX11_init_5 : decode cX11_init 5 = .ok (.bipush 6, 2) := by decide +kernel
theorem dX11_init_7 : decode cX11_init 7 = .ok (.newarray .int, 2) := by decide +kernel
theorem dX11_init_9 : decode cX11_init 9 = .ok (.putfield 7, 3) := by decide +kernel
theorem dX11_init_12 : decode cX11_init 12 = .ok (.aload_n 0, 1) := by decide +kernel
theorem dX11_init_13 : decode cX11_init 13 = .ok (.bipush 6, 2) := by decide +kernel
theorem dX11_init_15 : decode cX11_init 15 = .ok (.newarray .int, 2) := by decide +kernel
theorem dX11_init_17 : decode cX11_init 17 = .ok (.putfield 13, 3) := by decide +kernel
theorem dX11_init_20 : decode cX11_init 20 = .ok (.aload_n 0, 1) := by decide +kernel
theorem dX11_init_21 : decode cX11_init 21 = .ok (.bipush 6, 2) := by decide +kernel
theorem dX11_init_23 : decode cX11_init 23 = .ok (.newarray .int, 2) := by decide +kernel
theorem dX11_init_25 : decode cX11_init 25 = .ok (.putfield 16, 3) := by decide +kernel
theorem dX11_init_28 : decode cX11_init 28 = .ok (.aload_n 0, 1) := by decide +kernel
theorem dX11_init_29 : decode cX11_init 29 = .ok (.bipush 96, 2) := by decide +kernel
theorem dX11_init_31 : decode cX11_init 31 = .ok (.newarray .int, 2) := by decide +kernel
theorem dX11_init_33 : decode cX11_init 33 = .ok (.putfield 19, 3) := by decide +kernel
theorem dX11_init_36 : decode cX11_init 36 = .ok (.aload_n 0, 1) := by decide +kernel
theorem dX11_init_37 : decode cX11_init 37 = .ok (.bipush 96, 2) := by decide +kernel
theorem dX11_init_39 : decode cX11_init 39 = .ok (.newarray .int, 2) := by decide +kernel
theorem dX11_init_41 : decode cX11_init 41 = .ok (.putfield 22, 3) := by decide +kernel
theorem dX11_init_44 : decode cX11_init 44 = .ok (.aload_n 0, 1) := by decide +kernel
theorem dX11_init_45 : decode cX11_init 45 = .ok (.bipush 96, 2) := by decide +kernel
theorem dX11_init_47 : decode cX11_init 47 = .ok (.newarray .boolean, 2) := by decide +kernel
theorem dX11_init_49 : decode cX11_init 49 = .ok (.putfield 25, 3) := by decide +kernel
theorem dX11_init_52 : decode cX11_init 52 = .ok (.aload_n 0, 1) := by decide +kernel
theorem dX11_init_53 : decode cX11_init 53 = .ok (.bipush 96, 2) := by decide +kernel
theorem dX11_init_55 : decode cX11_init 55 = .ok (.newarray .int, 2) := by decide +kernel
theorem dX11_init_57 : decode cX11_init 57 = .ok (.putfield 29, 3) := by decide +kernel
theorem dX11_init_60 : decode cX11_init 60 = .ok (.aload_n 0, 1) := by decide +kernel
theorem dX11_init_61 : decode cX11_init 61 = .ok (.bipush 7, 2) := by decide +kernel
theorem dX11_init_63 : decode cX11_init 63 = .ok (.newarray .int, 2) := by decide +kernel
theorem dX11_init_65 : decode cX11_init 65 = .ok (.putfield 32, 3) := by decide +kernel
theorem dX11_init_68 : decode cX11_init 68 = .ok (.aload_n 0, 1) := by decide +kernel
theorem dX11_init_69 : decode cX11_init 69 = .ok (.sipush 140, 3) := by decide +kernel
theorem dX11_init_72 : decode cX11_init 72 = .ok (.newarray .int, 2) := by decide +kernel
theorem dX11_init_74 : decode cX11_init 74 = .ok (.putfield 35, 3) := by decide +kernel
theorem dX11_init_77 : decode cX11_init 77 = .ok (.aload_n 0, 1) := by decide +kernel
theorem dX11_init_78 : decode cX11_init 78 = .ok (.bipush 6, 2) := by decide +kernel
theorem dX11_init_80 : decode cX11_init 80 = .ok (.newarray .int, 2) := by decide +kernel
theorem dX11_init_82 : decode cX11_init 82 = .ok (.putfield 38, 3) := by decide +kernel
theorem dX11_init_85 : decode cX11_init 85 = .ok (.aload_n 0, 1) := by decide +kernel
theorem dX11_init_86 : decode cX11_init 86 = .ok (.bipush 6, 2) := by decide +kernel
theorem dX11_init_88 : decode cX11_init 88 = .ok (.newarray .int, 2) := by decide +kernel
theorem dX11_init_90 : decode cX11_init 90 = .ok (.putfield 41, 3) := by decide +kernel
theorem dX11_init_93 : decode cX11_init 93 = .ok (.aload_n 0, 1) := by decide +kernel
theorem dX11_init_94 : decode cX11_init 94 = .ok (.bipush 6, 2) := by decide +kernel
theorem dX11_init_96 : decode cX11_init 96 = .ok (.newarray .int, 2) := by decide +kernel
theorem dX11_init_98 : decode cX11_init 98 = .ok (.putfield 44, 3) := by decide +kernel
theorem dX11_init_101 : decode cX11_init 101 = .ok (.aload_n 0, 1) := by decide +kernel
theorem dX11_init_102 : decode cX11_init 102 = .ok (.bipush 96, 2) := by decide +kernel
theorem dX11_init_104 : decode cX11_init 104 = .ok (.newarray .int, 2) := by decide +kernel
theorem dX11_init_106 : decode cX11_init 106 = .ok (.putfield 47, 3) := by decide +kernel
theorem dX11_init_109 : decode cX11_init 109 = .ok (.aload_n 0, 1) := by decide +kernel
theorem dX11_init_110 : decode cX11_init 110 = .ok (.bipush 96, 2) := by decide +kernel
theorem dX11_init_112 : decode cX11_init 112 = .ok (.newarray .int, 2) := by decide +kernel
theorem dX11_init_114 : decode cX11_init 114 = .ok (.putfield 50, 3) := by decide +kernel
theorem dX11_init_117 : decode cX11_init 117 = .ok (.aload_n 0, 1) := by decide +kernel
theorem dX11_init_118 : decode cX11_init 118 = .ok (.bipush 96, 2) := by decide +kernel
theorem dX11_init_120 : decode cX11_init 120 = .ok (.newarray .int, 2) := by decide +kernel
theorem dX11_init_122 : decode cX11_init 122 = .ok (.putfield 53, 3) := by decide +kernel
theorem dX11_init_125 : decode cX11_init 125 = .ok (.aload_n 0, 1) := by decide +kernel
theorem dX11_init_126 : decode cX11_init 126 = .ok (.bipush 96, 2) := by decide +kernel
theorem dX11_init_128 : decode cX11_init 128 = .ok (.newarray .int, 2) := by decide +kernel
theorem dX11_init_130 : decode cX11_init 130 = .ok (.putfield 56, 3) := by decide +kernel
theorem dX11_init_133 : decode cX11_init 133 = .ok (.aload_n 0, 1) := by decide +kernel
theorem dX11_init_134 : decode cX11_init 134 = .ok (.bipush 24, 2) := by decide +kernel
theorem dX11_init_136 : decode cX11_init 136 = .ok (.newarray .int, 2) := by decide +kernel
theorem dX11_init_138 : decode cX11_init 138 = .ok (.putfield 59, 3) := by decide +kernel
theorem dX11_init_141 : decode cX11_init 141 = .ok (.aload_n 0, 1) := by decide +kernel
theorem dX11_init_142 : decode cX11_init 142 = .ok (.bipush 7, 2) := by decide +kernel
theorem dX11_init_144 : decode cX11_init 144 = .ok (.newarray .int, 2) := by decide +kernel
theorem dX11_init_146 : decode cX11_init 146 = .ok (.putfield 62, 3) := by decide +kernel
theorem dX11_init_149 : decode cX11_init 149 = .ok (.aload_n 0, 1) := by decide +kernel
theorem dX11_init_150 : decode cX11_init 150 = .ok (.sipush 140, 3) := by decide +kernel
theorem dX11_init_153 : decode cX11_init 153 = .ok (.newarray .int, 2) := by decide +kernel
theorem dX11_init_155 : decode cX11_init 155 = .ok (.putfield 65, 3) := by decide +kernel
theorem dX11_init_158 : decode cX11_init 158 = .ok (.aload_n 0, 1) := by decide +kernel
theorem dX11_init_159 : decode cX11_init 159 = .ok (.sipush 1500, 3) := by decide +kernel
theorem dX11_init_162 : decode cX11_init 162 = .ok (.newarray .int, 2) := by decide +kernel
theorem dX11_init_164 : decode cX11_init 164 = .ok (.putfield 68, 3) := by decide +kernel
theorem dX11_init_167 : decode cX11_init 167 = .ok (.aload_n 0, 1) := by decide +kernel
theorem dX11_init_168 : decode cX11_init 168 = .ok (.sipush 1100, 3) := by decide +kernel
theorem dX11_init_171 : decode cX11_init 171 = .ok (.newarray .int, 2) := by decide +kernel
theorem dX11_init_173 : decode cX11_init 173 = .ok (.putfield 71, 3) := by decide +kernel
theorem dX11_init_176 : decode cX11_init 176 = .ok (.aload_n 0, 1) := by decide +kernel
theorem dX11_init_177 : decode cX11_init 177 = .ok (.sipush 1100, 3) := by decide +kernel
theorem dX11_init_180 : decode cX11_init 180 = .ok (.newarray .int, 2) := by decide +kernel
theorem dX11_init_182 : decode cX11_init 182 = .ok (.putfield 74, 3) := by decide +kernel
theorem dX11_init_185 : decode cX11_init 185 = .ok (.aload_n 0, 1) := by decide +kernel
theorem dX11_init_186 : decode cX11_init 186 = .ok (.bipush 7, 2) := by decide +kernel
theorem dX11_init_188 : decode cX11_init 188 = .ok (.newarray .int, 2) := by decide +kernel
theorem dX11_init_190 : decode cX11_init 190 = .ok (.putfield 77, 3) := by decide +kernel
theorem dX11_init_193 : decode cX11_init 193 = .ok (.aload_n 0, 1) := by decide +kernel
theorem dX11_init_194 : decode cX11_init 194 = .ok (.bipush 7, 2) := by decide +kernel
theorem dX11_init_196 : decode cX11_init 196 = .ok (.newarray .int, 2) := by decide +kernel
theorem dX11_init_198 : decode cX11_init 198 = .ok (.putfield 80, 3) := by decide +kernel
theorem dX11_init_201 : decode cX11_init 201 = .ok (.return_, 1) := by decide +kernel
theorem dX11_thrown_0 : decode cX11_thrown 0 = .ok (.aload_n 0, 1) := by decide +kernel
theorem dX11_thrown_1 : decode cX11_thrown 1 = .ok (.getfield 83, 3) := by decide +kernel
theorem dX11_thrown_4 : decode cX11_thrown 4 = .ok (.ireturn, 1) := by decide +kernel
theorem dX11_out_0 : decode cX11_out 0 = .ok (.iload_n 0, 1) := by decide +kernel
theorem dX11_out_1 : decode cX11_out 1 = .ok (.ifCond .lt 8, 3) := by decide +kernel
theorem dX11_out_4 : decode cX11_out 4 = .ok (.iload_n 0, 1) := by decide +kernel
theorem dX11_out_5 : decode cX11_out 5 = .ok (.iload_n 1, 1) := by decide +kernel
theorem dX11_out_6 : decode cX11_out 6 = .ok (.if_icmp .lt 7, 3) := by decide +kernel
theorem dX11_out_9 : decode cX11_out 9 = .ok (.iconst 1, 1) := by decide +kernel
theorem dX11_out_10 : decode cX11_out 10 = .ok (.goto 4, 3) := by decide +kernel
theorem dX11_out_13 : decode cX11_out 13 = .ok (.iconst 0, 1) := by decide +kernel
theorem dX11_out_14 : decode cX11_out 14 = .ok (.ireturn, 1) := by decide +kernel
theorem dX11_fail_0 : decode cX11_fail 0 = .ok (.aload_n 0, 1) := by decide +kernel
theorem dX11_fail_1 : decode cX11_fail 1 = .ok (.iload_n 1, 1) := by decide +kernel
theorem dX11_fail_2 : decode cX11_fail 2 = .ok (.putfield 83, 3) := by decide +kernel
theorem dX11_fail_5 : decode cX11_fail 5 = .ok (.iconst 0, 1) := by decide +kernel
theorem dX11_fail_6 : decode cX11_fail 6 = .ok (.ireturn, 1) := by decide +kernel
theorem dX11_abs_0 : decode cX11_abs 0 = .ok (.iload_n 0, 1) := by decide +kernel
theorem dX11_abs_1 : decode cX11_abs 1 = .ok (.ifCond .ge 8, 3) := by decide +kernel
theorem dX11_abs_4 : decode cX11_abs 4 = .ok (.iload_n 0, 1) := by decide +kernel
theorem dX11_abs_5 : decode cX11_abs 5 = .ok (.ineg, 1) := by decide +kernel
theorem dX11_abs_6 : decode cX11_abs 6 = .ok (.goto 4, 3) := by decide +kernel
theorem dX11_abs_9 : decode cX11_abs 9 = .ok (.iload_n 0, 1) := by decide +kernel
theorem dX11_abs_10 : decode cX11_abs 10 = .ok (.ireturn, 1) := by decide +kernel
theorem dX11_open_0 : decode cX11_open 0 = .ok (.aload_n 0, 1) := by decide +kernel
theorem dX11_open_1 : decode cX11_open 1 = .ok (.getfield 87, 3) := by decide +kernel
theorem dX11_open_4 : decode cX11_open 4 = .ok (.ifCond .ne 5, 3) := by decide +kernel
theorem dX11_open_7 : decode cX11_open 7 = .ok (.iconst 0, 1) := by decide +kernel
theorem dX11_open_8 : decode cX11_open 8 = .ok (.ireturn, 1) := by decide +kernel
theorem dX11_open_9 : decode cX11_open 9 = .ok (.aload_n 0, 1) := by decide +kernel
theorem dX11_open_10 : decode cX11_open 10 = .ok (.getfield 87, 3) := by decide +kernel
theorem dX11_open_13 : decode cX11_open 13 = .ok (.iconst 1, 1) := by decide +kernel
theorem dX11_open_14 : decode cX11_open 14 = .ok (.isub, 1) := by decide +kernel
theorem dX11_open_15 : decode cX11_open 15 = .ok (.istore_n 1, 1) := by decide +kernel
theorem dX11_open_16 : decode cX11_open 16 = .ok (.aload_n 0, 1) := by decide +kernel
theorem dX11_open_17 : decode cX11_open 17 = .ok (.getfield 13, 3) := by decide +kernel
theorem dX11_open_20 : decode cX11_open 20 = .ok (.iload_n 1, 1) := by decide +kernel
theorem dX11_open_21 : decode cX11_open 21 = .ok (.iaload, 1) := by decide +kernel
theorem dX11_open_22 : decode cX11_open 22 = .ok (.ifCond .le 45, 3) := by decide +kernel
theorem dX11_open_25 : decode cX11_open 25 = .ok (.aload_n 0, 1) := by decide +kernel
theorem dX11_open_26 : decode cX11_open 26 = .ok (.getfield 16, 3) := by decide +kernel
theorem dX11_open_29 : decode cX11_open 29 = .ok (.iload_n 1, 1) := by decide +kernel
theorem dX11_open_30 : decode cX11_open 30 = .ok (.iaload, 1) := by decide +kernel
theorem dX11_open_31 : decode cX11_open 31 = .ok (.ifCond .eq 32, 3) := by decide +kernel
theorem dX11_open_34 : decode cX11_open 34 = .ok (.aload_n 0, 1) := by decide +kernel
theorem dX11_open_35 : decode cX11_open 35 = .ok (.getfield 29, 3) := by decide +kernel
theorem dX11_open_38 : decode cX11_open 38 = .ok (.bipush 16, 2) := by decide +kernel
theorem dX11_open_40 : decode cX11_open 40 = .ok (.iload_n 1, 1) := by decide +kernel
theorem dX11_open_41 : decode cX11_open 41 = .ok (.imul, 1) := by decide +kernel
theorem dX11_open_42 : decode cX11_open 42 = .ok (.aload_n 0, 1) := by decide +kernel
theorem dX11_open_43 : decode cX11_open 43 = .ok (.getfield 16, 3) := by decide +kernel
theorem dX11_open_46 : decode cX11_open 46 = .ok (.iload_n 1, 1) := by decide +kernel
theorem dX11_open_47 : decode cX11_open 47 = .ok (.iaload, 1) := by decide +kernel
theorem dX11_open_48 : decode cX11_open 48 = .ok (.iadd, 1) := by decide +kernel
theorem dX11_open_49 : decode cX11_open 49 = .ok (.iconst 1, 1) := by decide +kernel
theorem dX11_open_50 : decode cX11_open 50 = .ok (.isub, 1) := by decide +kernel
theorem dX11_open_51 : decode cX11_open 51 = .ok (.iaload, 1) := by decide +kernel
theorem dX11_open_52 : decode cX11_open 52 = .ok (.aload_n 0, 1) := by decide +kernel
theorem dX11_open_53 : decode cX11_open 53 = .ok (.getfield 13, 3) := by decide +kernel
theorem dX11_open_56 : decode cX11_open 56 = .ok (.iload_n 1, 1) := by decide +kernel
theorem dX11_open_57 : decode cX11_open 57 = .ok (.iaload, 1) := by decide +kernel
theorem dX11_open_58 : decode cX11_open 58 = .ok (.iconst 1, 1) := by decide +kernel
theorem dX11_open_59 : decode cX11_open 59 = .ok (.isub, 1) := by decide +kernel
theorem dX11_open_60 : decode cX11_open 60 = .ok (.if_icmp .ge 7, 3) := by decide +kernel
theorem dX11_open_63 : decode cX11_open 63 = .ok (.iconst 1, 1) := by decide +kernel
theorem dX11_open_64 : decode cX11_open 64 = .ok (.goto 4, 3) := by decide +kernel
theorem dX11_open_67 : decode cX11_open 67 = .ok (.iconst 0, 1) := by decide +kernel
theorem dX11_open_68 : decode cX11_open 68 = .ok (.ireturn, 1) := by decide +kernel
theorem dX11_glyph_0 : decode cX11_glyph 0 = .ok (.aload_n 0, 1) := by decide +kernel
theorem dX11_glyph_1 : decode cX11_glyph 1 = .ok (.iload_n 1, 1) := by decide +kernel
theorem dX11_glyph_2 : decode cX11_glyph 2 = .ok (.sipush 2001, 3) := by decide +kernel
theorem dX11_glyph_5 : decode cX11_glyph 5 = .ok (.invokestatic 90, 3) := by decide +kernel
theorem dX11_glyph_8 : decode cX11_glyph 8 = .ok (.ifCond .eq 7, 3) := by decide +kernel
theorem dX11_glyph_11 : decode cX11_glyph 11 = .ok (.iconst 1, 1) := by decide +kernel
theorem dX11_glyph_12 : decode cX11_glyph 12 = .ok (.goto 24, 3) := by decide +kernel
theorem dX11_glyph_15 : decode cX11_glyph 15 = .ok (.aload_n 0, 1) := by decide +kernel
theorem dX11_glyph_16 : decode cX11_glyph 16 = .ok (.getfield 87, 3) := by decide +kernel
theorem dX11_glyph_19 : decode cX11_glyph 19 = .ok (.bipush 6, 2) := by decide +kernel
theorem dX11_glyph_21 : decode cX11_glyph 21 = .ok (.if_icmp .eq 10, 3) := by decide +kernel
theorem dX11_glyph_24 : decode cX11_glyph 24 = .ok (.aload_n 0, 1) := by decide +kernel
theorem dX11_glyph_25 : decode cX11_glyph 25 = .ok (.invokevirtual 94, 3) := by decide +kernel
theorem dX11_glyph_28 : decode cX11_glyph 28 = .ok (.ifCond .eq 7, 3) := by decide +kernel
theorem dX11_glyph_31 : decode cX11_glyph 31 = .ok (.iconst 2, 1) := by decide +kernel
theorem dX11_glyph_32 : decode cX11_glyph 32 = .ok (.goto 4, 3) := by decide +kernel
theorem dX11_glyph_35 : decode cX11_glyph 35 = .ok (.iconst 0, 1) := by decide +kernel
theorem dX11_glyph_36 : decode cX11_glyph 36 = .ok (.putfield 83, 3) := by decide +kernel
theorem dX11_glyph_39 : decode cX11_glyph 39 = .ok (.aload_n 0, 1) := by decide +kernel
theorem dX11_glyph_40 : decode cX11_glyph 40 = .ok (.getfield 83, 3) := by decide +kernel
theorem dX11_glyph_43 : decode cX11_glyph 43 = .ok (.ifCond .le 5, 3) := by decide +kernel
theorem dX11_glyph_46 : decode cX11_glyph 46 = .ok (.iconst 0, 1) := by decide +kernel
theorem dX11_glyph_47 : decode cX11_glyph 47 = .ok (.ireturn, 1) := by decide +kernel
theorem dX11_glyph_48 : decode cX11_glyph 48 = .ok (.aload_n 0, 1) := by decide +kernel
theorem dX11_glyph_49 : decode cX11_glyph 49 = .ok (.getfield 7, 3) := by decide +kernel
theorem dX11_glyph_52 : decode cX11_glyph 52 = .ok (.aload_n 0, 1) := by decide +kernel
theorem dX11_glyph_53 : decode cX11_glyph 53 = .ok (.getfield 87, 3) := by decide +kernel
theorem dX11_glyph_56 : decode cX11_glyph 56 = .ok (.iload_n 1, 1) := by decide +kernel
theorem dX11_glyph_57 : decode cX11_glyph 57 = .ok (.iastore, 1) := by decide +kernel
theorem dX11_glyph_58 : decode cX11_glyph 58 = .ok (.aload_n 0, 1) := by decide +kernel
theorem dX11_glyph_59 : decode cX11_glyph 59 = .ok (.getfield 13, 3) := by decide +kernel
theorem dX11_glyph_62 : decode cX11_glyph 62 = .ok (.aload_n 0, 1) := by decide +kernel
theorem dX11_glyph_63 : decode cX11_glyph 63 = .ok (.getfield 87, 3) := by decide +kernel
theorem dX11_glyph_66 : decode cX11_glyph 66 = .ok (.iconst 0, 1) := by decide +kernel
theorem dX11_glyph_67 : decode cX11_glyph 67 = .ok (.iastore, 1) := by decide +kernel
theorem dX11_glyph_68 : decode cX11_glyph 68 = .ok (.aload_n 0, 1) := by decide +kernel
theorem dX11_glyph_69 : decode cX11_glyph 69 = .ok (.getfield 16, 3) := by decide +kernel
theorem dX11_glyph_72 : decode cX11_glyph 72 = .ok (.aload_n 0, 1) := by decide +kernel
theorem dX11_glyph_73 : decode cX11_glyph 73 = .ok (.getfield 87, 3) := by decide +kernel
theorem dX11_glyph_76 : decode cX11_glyph 76 = .ok (.iconst 0, 1) := by decide +kernel
theorem dX11_glyph_77 : decode cX11_glyph 77 = .ok (.iastore, 1) := by decide +kernel
theorem dX11_glyph_78 : decode cX11_glyph 78 = .ok (.aload_n 0, 1) := by decide +kernel
theorem dX11_glyph_79 : decode cX11_glyph 79 = .ok (.dup, 1) := by decide +kernel
theorem dX11_glyph_80 : decode cX11_glyph 80 = .ok (.getfield 87, 3) := by decide +kernel
theorem dX11_glyph_83 : decode cX11_glyph 83 = .ok (.iconst 1, 1) := by decide +kernel
theorem dX11_glyph_84 : decode cX11_glyph 84 = .ok (.iadd, 1) := by decide +kernel
theorem dX11_glyph_85 : decode cX11_glyph 85 = .ok (.putfield 87, 3) := by decide +kernel
theorem dX11_glyph_88 : decode cX11_glyph 88 = .ok (.aload_n 0, 1) := by decide +kernel
theorem dX11_glyph_89 : decode cX11_glyph 89 = .ok (.getfield 87, 3) := by decide +kernel
theorem dX11_glyph_92 : decode cX11_glyph 92 = .ok (.iconst 1, 1) := by decide +kernel
theorem dX11_glyph_93 : decode cX11_glyph 93 = .ok (.isub, 1) := by decide +kernel
theorem dX11_glyph_94 : decode cX11_glyph 94 = .ok (.ireturn, 1) := by decide +kernel
theorem dX11_contour_0 : decode cX11_contour 0 = .ok (.aload_n 0, 1) := by decide +kernel
theorem dX11_contour_1 : decode cX11_contour 1 = .ok (.getfield 87, 3) := by decide +kernel
theorem dX11_contour_4 : decode cX11_contour 4 = .ok (.iconst 1, 1) := by decide +kernel
theorem dX11_contour_5 : decode cX11_contour 5 = .ok (.isub, 1) := by decide +kernel
theorem dX11_contour_6 : decode cX11_contour 6 = .ok (.istore_n 1, 1) := by decide +kernel
theorem dX11_contour_7 : decode cX11_contour 7 = .ok (.aload_n 0, 1) := by decide +kernel
theorem dX11_contour_8 : decode cX11_contour 8 = .ok (.iload_n 1, 1) := by decide +kernel
theorem dX11_contour_9 : decode cX11_contour 9 = .ok (.ifCond .lt 31, 3) := by decide +kernel
theorem dX11_contour_12 : decode cX11_contour 12 = .ok (.aload_n 0, 1) := by decide +kernel
theorem dX11_contour_13 : decode cX11_contour 13 = .ok (.invokevirtual 94, 3) := by decide +kernel
theorem dX11_contour_16 : decode cX11_contour 16 = .ok (.ifCond .ne 24, 3) := by decide +kernel
theorem dX11_contour_19 : decode cX11_contour 19 = .ok (.aload_n 0, 1) := by decide +kernel
theorem dX11_contour_20 : decode cX11_contour 20 = .ok (.getfield 13, 3) := by decide +kernel
theorem dX11_contour_23 : decode cX11_contour 23 = .ok (.iload_n 1, 1) := by decide +kernel
theorem dX11_contour_24 : decode cX11_contour 24 = .ok (.iaload, 1) := by decide +kernel
theorem dX11_contour_25 : decode cX11_contour 25 = .ok (.iconst 4, 1) := by decide +kernel
theorem dX11_contour_26 : decode cX11_contour 26 = .ok (.if_icmp .eq 14, 3) := by decide +kernel
theorem dX11_contour_29 : decode cX11_contour 29 = .ok (.aload_n 0, 1) := by decide +kernel
theorem dX11_contour_30 : decode cX11_contour 30 = .ok (.getfield 16, 3) := by decide +kernel
theorem dX11_contour_33 : decode cX11_contour 33 = .ok (.iload_n 1, 1) := by decide +kernel
theorem dX11_contour_34 : decode cX11_contour 34 = .ok (.iaload, 1) := by decide +kernel
theorem dX11_contour_35 : decode cX11_contour 35 = .ok (.bipush 16, 2) := by decide +kernel
theorem dX11_contour_37 : decode cX11_contour 37 = .ok (.if_icmp .ne 7, 3) := by decide +kernel
theorem dX11_contour_40 : decode cX11_contour 40 = .ok (.iconst 1, 1) := by decide +kernel
theorem dX11_contour_41 : decode cX11_contour 41 = .ok (.goto 4, 3) := by decide +kernel
theorem dX11_contour_44 : decode cX11_contour 44 = .ok (.iconst 0, 1) := by decide +kernel
theorem dX11_contour_45 : decode cX11_contour 45 = .ok (.putfield 83, 3) := by decide +kernel
theorem dX11_contour_48 : decode cX11_contour 48 = .ok (.aload_n 0, 1) := by decide +kernel
theorem dX11_contour_49 : decode cX11_contour 49 = .ok (.getfield 83, 3) := by decide +kernel
theorem dX11_contour_52 : decode cX11_contour 52 = .ok (.ifCond .le 5, 3) := by decide +kernel
theorem dX11_contour_55 : decode cX11_contour 55 = .ok (.iconst 0, 1) := by decide +kernel
theorem dX11_contour_56 : decode cX11_contour 56 = .ok (.ireturn, 1) := by decide +kernel
theorem dX11_contour_57 : decode cX11_contour 57 = .ok (.aload_n 0, 1) := by decide +kernel
theorem dX11_contour_58 : decode cX11_contour 58 = .ok (.getfield 13, 3) := by decide +kernel
theorem dX11_contour_61 : decode cX11_contour 61 = .ok (.iload_n 1, 1) := by decide +kernel
theorem dX11_contour_62 : decode cX11_contour 62 = .ok (.dup2, 1) := by decide +kernel
theorem dX11_contour_63 : decode cX11_contour 63 = .ok (.iaload, 1) := by decide +kernel
theorem dX11_contour_64 : decode cX11_contour 64 = .ok (.iconst 1, 1) := by decide +kernel
theorem dX11_contour_65 : decode cX11_contour 65 = .ok (.iadd, 1) := by decide +kernel
theorem dX11_contour_66 : decode cX11_contour 66 = .ok (.iastore, 1) := by decide +kernel
theorem dX11_contour_67 : decode cX11_contour 67 = .ok (.aload_n 0, 1) := by decide +kernel
theorem dX11_contour_68 : decode cX11_contour 68 = .ok (.getfield 13, 3) := by decide +kernel
theorem dX11_contour_71 : decode cX11_contour 71 = .ok (.iload_n 1, 1) := by decide +kernel
theorem dX11_contour_72 : decode cX11_contour 72 = .ok (.iaload, 1) := by decide +kernel
theorem dX11_contour_73 : decode cX11_contour 73 = .ok (.iconst 1, 1) := by decide +kernel
theorem dX11_contour_74 : decode cX11_contour 74 = .ok (.isub, 1) := by decide +kernel
theorem dX11_contour_75 : decode cX11_contour 75 = .ok (.ireturn, 1) := by decide +kernel
theorem dX11_far_0 : decode cX11_far 0 = .ok (.iload_n 0, 1) := by decide +kernel
theorem dX11_far_1 : decode cX11_far 1 = .ok (.sipush (-4000), 3) := by decide +kernel
theorem dX11_far_4 : decode cX11_far 4 = .ok (.if_icmp .lt 10, 3) := by decide +kernel
theorem dX11_far_7 : decode cX11_far 7 = .ok (.iload_n 0, 1) := by decide +kernel
theorem dX11_far_8 : decode cX11_far 8 = .ok (.sipush 4000, 3) := by decide +kernel
theorem dX11_far_11 : decode cX11_far 11 = .ok (.if_icmp .le 7, 3) := by decide +kernel
theorem dX11_far_14 : decode cX11_far 14 = .ok (.iconst 1, 1) := by decide +kernel
theorem dX11_far_15 : decode cX11_far 15 = .ok (.goto 4, 3) := by decide +kernel
theorem dX11_far_18 : decode cX11_far 18 = .ok (.iconst 0, 1) := by decide +kernel
theorem dX11_far_19 : decode cX11_far 19 = .ok (.ireturn, 1) := by decide +kernel
theorem dX11_point_0 : decode cX11_point 0 = .ok (.aload_n 0, 1) := by decide +kernel
theorem dX11_point_1 : decode cX11_point 1 = .ok (.getfield 87, 3) := by decide +kernel
theorem dX11_point_4 : decode cX11_point 4 = .ok (.iconst 1, 1) := by decide +kernel
theorem dX11_point_5 : decode cX11_point 5 = .ok (.isub, 1) := by decide +kernel
theorem dX11_point_6 : decode cX11_point 6 = .ok (.istore 4, 2) := by decide +kernel
theorem dX11_point_8 : decode cX11_point 8 = .ok (.aload_n 0, 1) := by decide +kernel
theorem dX11_point_9 : decode cX11_point 9 = .ok (.iload_n 1, 1) := by decide +kernel
theorem dX11_point_10 : decode cX11_point 10 = .ok (.invokestatic 98, 3) := by decide +kernel
theorem dX11_point_13 : decode cX11_point 13 = .ok (.ifCond .ne 10, 3) := by decide +kernel
theorem dX11_point_16 : decode cX11_point 16 = .ok (.iload_n 2, 1) := by decide +kernel
theorem dX11_point_17 : decode cX11_point 17 = .ok (.invokestatic 98, 3) := by decide +kernel
theorem dX11_point_20 : decode cX11_point 20 = .ok (.ifCond .eq 7, 3) := by decide +kernel
theorem dX11_point_23 : decode cX11_point 23 = .ok (.iconst 1, 1) := by decide +kernel
theorem dX11_point_24 : decode cX11_point 24 = .ok (.goto 35, 3) := by decide +kernel
theorem dX11_point_27 : decode cX11_point 27 = .ok (.iload 4, 2) := by decide +kernel
theorem dX11_point_29 : decode cX11_point 29 = .ok (.ifCond .lt 25, 3) := by decide +kernel
theorem dX11_point_32 : decode cX11_point 32 = .ok (.aload_n 0, 1) := by decide +kernel
theorem dX11_point_33 : decode cX11_point 33 = .ok (.getfield 13, 3) := by decide +kernel
theorem dX11_point_36 : decode cX11_point 36 = .ok (.iload 4, 2) := by decide +kernel
theorem dX11_point_38 : decode cX11_point 38 = .ok (.iaload, 1) := by decide +kernel
theorem dX11_point_39 : decode cX11_point 39 = .ok (.ifCond .eq 15, 3) := by decide +kernel
theorem dX11_point_42 : decode cX11_point 42 = .ok (.aload_n 0, 1) := by decide +kernel
theorem dX11_point_43 : decode cX11_point 43 = .ok (.getfield 16, 3) := by decide +kernel
theorem dX11_point_46 : decode cX11_point 46 = .ok (.iload 4, 2) := by decide +kernel
theorem dX11_point_48 : decode cX11_point 48 = .ok (.iaload, 1) := by decide +kernel
theorem dX11_point_49 : decode cX11_point 49 = .ok (.bipush 16, 2) := by decide +kernel
theorem dX11_point_51 : decode cX11_point 51 = .ok (.if_icmp .ne 7, 3) := by decide +kernel
theorem dX11_point_54 : decode cX11_point 54 = .ok (.iconst 2, 1) := by decide +kernel
theorem dX11_point_55 : decode cX11_point 55 = .ok (.goto 4, 3) := by decide +kernel
theorem dX11_point_58 : decode cX11_point 58 = .ok (.iconst 0, 1) := by decide +kernel
theorem dX11_point_59 : decode cX11_point 59 = .ok (.putfield 83, 3) := by decide +kernel
theorem dX11_point_62 : decode cX11_point 62 = .ok (.aload_n 0, 1) := by decide +kernel
theorem dX11_point_63 : decode cX11_point 63 = .ok (.getfield 83, 3) := by decide +kernel
theorem dX11_point_66 : decode cX11_point 66 = .ok (.ifCond .le 5, 3) := by decide +kernel
theorem dX11_point_69 : decode cX11_point 69 = .ok (.iconst 0, 1) := by decide +kernel
theorem dX11_point_70 : decode cX11_point 70 = .ok (.ireturn, 1) := by decide +kernel
theorem dX11_point_71 : decode cX11_point 71 = .ok (.bipush 16, 2) := by decide +kernel
theorem dX11_point_73 : decode cX11_point 73 = .ok (.iload 4, 2) := by decide +kernel
theorem dX11_point_75 : decode cX11_point 75 = .ok (.imul, 1) := by decide +kernel
theorem dX11_point_76 : decode cX11_point 76 = .ok (.aload_n 0, 1) := by decide +kernel
theorem dX11_point_77 : decode cX11_point 77 = .ok (.getfield 16, 3) := by decide +kernel
theorem dX11_point_80 : decode cX11_point 80 = .ok (.iload 4, 2) := by decide +kernel
theorem dX11_point_82 : decode cX11_point 82 = .ok (.iaload, 1) := by decide +kernel
theorem dX11_point_83 : decode cX11_point 83 = .ok (.iadd, 1) := by decide +kernel
theorem dX11_point_84 : decode cX11_point 84 = .ok (.istore 5, 2) := by decide +kernel
theorem dX11_point_86 : decode cX11_point 86 = .ok (.aload_n 0, 1) := by decide +kernel
theorem dX11_point_87 : decode cX11_point 87 = .ok (.getfield 19, 3) := by decide +kernel
theorem dX11_point_90 : decode cX11_point 90 = .ok (.iload 5, 2) := by decide +kernel
theorem dX11_point_92 : decode cX11_point 92 = .ok (.iload_n 1, 1) := by decide +kernel
theorem dX11_point_93 : decode cX11_point 93 = .ok (.iastore, 1) := by decide +kernel
theorem dX11_point_94 : decode cX11_point 94 = .ok (.aload_n 0, 1) := by decide +kernel
theorem dX11_point_95 : decode cX11_point 95 = .ok (.getfield 22, 3) := by decide +kernel
theorem dX11_point_98 : decode cX11_point 98 = .ok (.iload 5, 2) := by decide +kernel
theorem dX11_point_100 : decode cX11_point 100 = .ok (.iload_n 2, 1) := by decide +kernel
theorem dX11_point_101 : decode cX11_point 101 = .ok (.iastore, 1) := by decide +kernel
theorem dX11_point_102 : decode cX11_point 102 = .ok (.aload_n 0, 1) := by decide +kernel
theorem dX11_point_103 : decode cX11_point 103 = .ok (.getfield 25, 3) := by decide +kernel
theorem dX11_point_106 : decode cX11_point 106 = .ok (.iload 5, 2) := by decide +kernel
theorem dX11_point_108 : decode cX11_point 108 = .ok (.iload_n 3, 1) := by decide +kernel
theorem dX11_point_109 : decode cX11_point 109 = .ok (.bastore, 1) := by decide +kernel
theorem dX11_point_110 : decode cX11_point 110 = .ok (.aload_n 0, 1) := by decide +kernel
theorem dX11_point_111 : decode cX11_point 111 = .ok (.getfield 29, 3) := by decide +kernel
theorem dX11_point_114 : decode cX11_point 114 = .ok (.iload 5, 2) := by decide +kernel
theorem dX11_point_116 : decode cX11_point 116 = .ok (.aload_n 0, 1) := by decide +kernel
theorem dX11_point_117 : decode cX11_point 117 = .ok (.getfield 13, 3) := by decide +kernel
theorem dX11_point_120 : decode cX11_point 120 = .ok (.iload 4, 2) := by decide +kernel
theorem dX11_point_122 : decode cX11_point 122 = .ok (.iaload, 1) := by decide +kernel
theorem dX11_point_123 : decode cX11_point 123 = .ok (.iconst 1, 1) := by decide +kernel
theorem dX11_point_124 : decode cX11_point 124 = .ok (.isub, 1) := by decide +kernel
theorem dX11_point_125 : decode cX11_point 125 = .ok (.iastore, 1) := by decide +kernel
theorem dX11_point_126 : decode cX11_point 126 = .ok (.aload_n 0, 1) := by decide +kernel
theorem dX11_point_127 : decode cX11_point 127 = .ok (.getfield 16, 3) := by decide +kernel
theorem dX11_point_130 : decode cX11_point 130 = .ok (.iload 4, 2) := by decide +kernel
theorem dX11_point_132 : decode cX11_point 132 = .ok (.dup2, 1) := by decide +kernel
theorem dX11_point_133 : decode cX11_point 133 = .ok (.iaload, 1) := by decide +kernel
theorem dX11_point_134 : decode cX11_point 134 = .ok (.iconst 1, 1) := by decide +kernel
theorem dX11_point_135 : decode cX11_point 135 = .ok (.iadd, 1) := by decide +kernel
theorem dX11_point_136 : decode cX11_point 136 = .ok (.iastore, 1) := by decide +kernel
theorem dX11_point_137 : decode cX11_point 137 = .ok (.aload_n 0, 1) := by decide +kernel
theorem dX11_point_138 : decode cX11_point 138 = .ok (.getfield 16, 3) := by decide +kernel
theorem dX11_point_141 : decode cX11_point 141 = .ok (.iload 4, 2) := by decide +kernel
theorem dX11_point_143 : decode cX11_point 143 = .ok (.iaload, 1) := by decide +kernel
theorem dX11_point_144 : decode cX11_point 144 = .ok (.iconst 1, 1) := by decide +kernel
theorem dX11_point_145 : decode cX11_point 145 = .ok (.isub, 1) := by decide +kernel
theorem dX11_point_146 : decode cX11_point 146 = .ok (.ireturn, 1) := by decide +kernel
theorem dX11_table_0 : decode cX11_table 0 = .ok (.aload_n 0, 1) := by decide +kernel
theorem dX11_table_1 : decode cX11_table 1 = .ok (.iload_n 1, 1) := by decide +kernel
theorem dX11_table_2 : decode cX11_table 2 = .ok (.iconst 2, 1) := by decide +kernel
theorem dX11_table_3 : decode cX11_table 3 = .ok (.if_icmp .lt 22, 3) := by decide +kernel
theorem dX11_table_6 : decode cX11_table 6 = .ok (.iload_n 1, 1) := by decide +kernel
theorem dX11_table_7 : decode cX11_table 7 = .ok (.bipush 6, 2) := by decide +kernel
theorem dX11_table_9 : decode cX11_table 9 = .ok (.if_icmp .gt 16, 3) := by decide +kernel
theorem dX11_table_12 : decode cX11_table 12 = .ok (.iload 4, 2) := by decide +kernel
theorem dX11_table_14 : decode cX11_table 14 = .ok (.iconst 1, 1) := by decide +kernel
theorem dX11_table_15 : decode cX11_table 15 = .ok (.if_icmp .lt 10, 3) := by decide +kernel
theorem dX11_table_18 : decode cX11_table 18 = .ok (.iload 4, 2) := by decide +kernel
theorem dX11_table_20 : decode cX11_table 20 = .ok (.bipush 8, 2) := by decide +kernel
theorem dX11_table_22 : decode cX11_table 22 = .ok (.if_icmp .le 7, 3) := by decide +kernel
theorem dX11_table_25 : decode cX11_table 25 = .ok (.iconst 1, 1) := by decide +kernel
theorem dX11_table_26 : decode cX11_table 26 = .ok (.goto 22, 3) := by decide +kernel
theorem dX11_table_29 : decode cX11_table 29 = .ok (.aload_n 0, 1) := by decide +kernel
theorem dX11_table_30 : decode cX11_table 30 = .ok (.getfield 32, 3) := by decide +kernel
theorem dX11_table_33 : decode cX11_table 33 = .ok (.iload_n 1, 1) := by decide +kernel
theorem dX11_table_34 : decode cX11_table 34 = .ok (.iaload, 1) := by decide +kernel
theorem dX11_table_35 : decode cX11_table 35 = .ok (.iload 4, 2) := by decide +kernel
theorem dX11_table_37 : decode cX11_table 37 = .ok (.iadd, 1) := by decide +kernel
theorem dX11_table_38 : decode cX11_table 38 = .ok (.bipush 20, 2) := by decide +kernel
theorem dX11_table_40 : decode cX11_table 40 = .ok (.if_icmp .le 7, 3) := by decide +kernel
theorem dX11_table_43 : decode cX11_table 43 = .ok (.iconst 2, 1) := by decide +kernel
theorem dX11_table_44 : decode cX11_table 44 = .ok (.goto 4, 3) := by decide +kernel
theorem dX11_table_47 : decode cX11_table 47 = .ok (.iconst 0, 1) := by decide +kernel
theorem dX11_table_48 : decode cX11_table 48 = .ok (.putfield 83, 3) := by decide +kernel
theorem dX11_table_51 : decode cX11_table 51 = .ok (.aload_n 0, 1) := by decide +kernel
theorem dX11_table_52 : decode cX11_table 52 = .ok (.getfield 83, 3) := by decide +kernel
theorem dX11_table_55 : decode cX11_table 55 = .ok (.ifCond .le 5, 3) := by decide +kernel
theorem dX11_table_58 : decode cX11_table 58 = .ok (.iconst 0, 1) := by decide +kernel
theorem dX11_table_59 : decode cX11_table 59 = .ok (.ireturn, 1) := by decide +kernel
theorem dX11_table_60 : decode cX11_table 60 = .ok (.iload 4, 2) := by decide +kernel
theorem dX11_table_62 : decode cX11_table 62 = .ok (.iconst 1, 1) := by decide +kernel
theorem dX11_table_63 : decode cX11_table 63 = .ok (.isub, 1) := by decide +kernel
theorem dX11_table_64 : decode cX11_table 64 = .ok (.istore 5, 2) := by decide +kernel
theorem dX11_table_66 : decode cX11_table 66 = .ok (.iload 5, 2) := by decide +kernel
theorem dX11_table_68 : decode cX11_table 68 = .ok (.ifCond .lt 47, 3) := by decide +kernel
theorem dX11_table_71 : decode cX11_table 71 = .ok (.aload_n 0, 1) := by decide +kernel
theorem dX11_table_72 : decode cX11_table 72 = .ok (.getfield 35, 3) := by decide +kernel
theorem dX11_table_75 : decode cX11_table 75 = .ok (.bipush 20, 2) := by decide +kernel
theorem dX11_table_77 : decode cX11_table 77 = .ok (.iload_n 1, 1) := by decide +kernel
theorem dX11_table_78 : decode cX11_table 78 = .ok (.imul, 1) := by decide +kernel
theorem dX11_table_79 : decode cX11_table 79 = .ok (.aload_n 0, 1) := by decide +kernel
theorem dX11_table_80 : decode cX11_table 80 = .ok (.getfield 32, 3) := by decide +kernel
theorem dX11_table_83 : decode cX11_table 83 = .ok (.iload_n 1, 1) := by decide +kernel
theorem dX11_table_84 : decode cX11_table 84 = .ok (.iaload, 1) := by decide +kernel
theorem dX11_table_85 : decode cX11_table 85 = .ok (.iadd, 1) := by decide +kernel
theorem dX11_table_86 : decode cX11_table 86 = .ok (.lload_n 2, 1) := by decide +kernel
theorem dX11_table_87 : decode cX11_table 87 = .ok (.bipush 8, 2) := by decide +kernel
theorem dX11_table_89 : decode cX11_table 89 = .ok (.iload 5, 2) := by decide +kernel
theorem dX11_table_91 : decode cX11_table 91 = .ok (.imul, 1) := by decide +kernel
theorem dX11_table_92 : decode cX11_table 92 = .ok (.lshr, 1) := by decide +kernel
theorem dX11_table_93 : decode cX11_table 93 = .ok (.ldc2_w 102, 3) := by decide +kernel
theorem dX11_table_96 : decode cX11_table 96 = .ok (.land, 1) := by decide +kernel
theorem dX11_table_97 : decode cX11_table 97 = .ok (.l2i, 1) := by decide +kernel
theorem dX11_table_98 : decode cX11_table 98 = .ok (.iastore, 1) := by decide +kernel
theorem dX11_table_99 : decode cX11_table 99 = .ok (.aload_n 0, 1) := by decide +kernel
theorem dX11_table_100 : decode cX11_table 100 = .ok (.getfield 32, 3) := by decide +kernel
theorem dX11_table_103 : decode cX11_table 103 = .ok (.iload_n 1, 1) := by decide +kernel
theorem dX11_table_104 : decode cX11_table 104 = .ok (.dup2, 1) := by decide +kernel
theorem dX11_table_105 : decode cX11_table 105 = .ok (.iaload, 1) := by decide +kernel
theorem dX11_table_106 : decode cX11_table 106 = .ok (.iconst 1, 1) := by decide +kernel
theorem dX11_table_107 : decode cX11_table 107 = .ok (.iadd, 1) := by decide +kernel
theorem dX11_table_108 : decode cX11_table 108 = .ok (.iastore, 1) := by decide +kernel
theorem dX11_table_109 : decode cX11_table 109 = .ok (.iinc 5 (-1), 3) := by decide +kernel
theorem dX11_table_112 : decode cX11_table 112 = .ok (.goto (-46), 3) := by decide +kernel
theorem dX11_table_115 : decode cX11_table 115 = .ok (.aload_n 0, 1) := by decide +kernel
theorem dX11_table_116 : decode cX11_table 116 = .ok (.getfield 32, 3) := by decide +kernel
theorem dX11_table_119 : decode cX11_table 119 = .ok (.iload_n 1, 1) := by decide +kernel
theorem dX11_table_120 : decode cX11_table 120 = .ok (.iaload, 1) := by decide +kernel
theorem dX11_table_121 : decode cX11_table 121 = .ok (.ireturn, 1) := by decide +kernel
theorem dX11_clear_0 : decode cX11_clear 0 = .ok (.aload_n 0, 1) := by decide +kernel
theorem dX11_clear_1 : decode cX11_clear 1 = .ok (.iconst 0, 1) := by decide +kernel
theorem dX11_clear_2 : decode cX11_clear 2 = .ok (.putfield 83, 3) := by decide +kernel
theorem dX11_clear_5 : decode cX11_clear 5 = .ok (.aload_n 0, 1) := by decide +kernel
theorem dX11_clear_6 : decode cX11_clear 6 = .ok (.iconst 0, 1) := by decide +kernel
theorem dX11_clear_7 : decode cX11_clear 7 = .ok (.putfield 87, 3) := by decide +kernel
theorem dX11_clear_10 : decode cX11_clear 10 = .ok (.iconst 0, 1) := by decide +kernel
theorem dX11_clear_11 : decode cX11_clear 11 = .ok (.istore_n 1, 1) := by decide +kernel
theorem dX11_clear_12 : decode cX11_clear 12 = .ok (.iload_n 1, 1) := by decide +kernel
theorem dX11_clear_13 : decode cX11_clear 13 = .ok (.bipush 7, 2) := by decide +kernel
theorem dX11_clear_15 : decode cX11_clear 15 = .ok (.if_icmp .ge 16, 3) := by decide +kernel
theorem dX11_clear_18 : decode cX11_clear 18 = .ok (.aload_n 0, 1) := by decide +kernel
theorem dX11_clear_19 : decode cX11_clear 19 = .ok (.getfield 32, 3) := by decide +kernel
theorem dX11_clear_22 : decode cX11_clear 22 = .ok (.iload_n 1, 1) := by decide +kernel
theorem dX11_clear_23 : decode cX11_clear 23 = .ok (.iconst 0, 1) := by decide +kernel
theorem dX11_clear_24 : decode cX11_clear 24 = .ok (.iastore, 1) := by decide +kernel
theorem dX11_clear_25 : decode cX11_clear 25 = .ok (.iinc 1 1, 3) := by decide +kernel
theorem dX11_clear_28 : decode cX11_clear 28 = .ok (.goto (-16), 3) := by decide +kernel
theorem dX11_clear_31 : decode cX11_clear 31 = .ok (.return_, 1) := by decide +kernel
theorem dX11_has_0 : decode cX11_has 0 = .ok (.iload_n 1, 1) := by decide +kernel
theorem dX11_has_1 : decode cX11_has 1 = .ok (.iconst 2, 1) := by decide +kernel
theorem dX11_has_2 : decode cX11_has 2 = .ok (.if_icmp .ge 18, 3) := by decide +kernel
theorem dX11_has_5 : decode cX11_has 5 = .ok (.aload_n 0, 1) := by decide +kernel
theorem dX11_has_6 : decode cX11_has 6 = .ok (.getfield 87, 3) := by decide +kernel
theorem dX11_has_9 : decode cX11_has 9 = .ok (.ifCond .le 7, 3) := by decide +kernel
theorem dX11_has_12 : decode cX11_has 12 = .ok (.iconst 1, 1) := by decide +kernel
theorem dX11_has_13 : decode cX11_has 13 = .ok (.goto 21, 3) := by decide +kernel
theorem dX11_has_16 : decode cX11_has 16 = .ok (.iconst 0, 1) := by decide +kernel
theorem dX11_has_17 : decode cX11_has 17 = .ok (.goto 17, 3) := by decide +kernel
theorem dX11_has_20 : decode cX11_has 20 = .ok (.aload_n 0, 1) := by decide +kernel
theorem dX11_has_21 : decode cX11_has 21 = .ok (.getfield 32, 3) := by decide +kernel
theorem dX11_has_24 : decode cX11_has 24 = .ok (.iload_n 1, 1) := by decide +kernel
theorem dX11_has_25 : decode cX11_has 25 = .ok (.iaload, 1) := by decide +kernel
theorem dX11_has_26 : decode cX11_has 26 = .ok (.ifCond .le 7, 3) := by decide +kernel
theorem dX11_has_29 : decode cX11_has 29 = .ok (.iconst 1, 1) := by decide +kernel
theorem dX11_has_30 : decode cX11_has 30 = .ok (.goto 4, 3) := by decide +kernel
theorem dX11_has_33 : decode cX11_has 33 = .ok (.iconst 0, 1) := by decide +kernel
theorem dX11_has_34 : decode cX11_has 34 = .ok (.ireturn, 1) := by decide +kernel
theorem dX11_tables_0 : decode cX11_tables 0 = .ok (.iconst 0, 1) := by decide +kernel
theorem dX11_tables_1 : decode cX11_tables 1 = .ok (.istore_n 1, 1) := by decide +kernel
theorem dX11_tables_2 : decode cX11_tables 2 = .ok (.iconst 0, 1) := by decide +kernel
theorem dX11_tables_3 : decode cX11_tables 3 = .ok (.istore_n 2, 1) := by decide +kernel
theorem dX11_tables_4 : decode cX11_tables 4 = .ok (.iload_n 2, 1) := by decide +kernel
theorem dX11_tables_5 : decode cX11_tables 5 = .ok (.bipush 7, 2) := by decide +kernel
theorem dX11_tables_7 : decode cX11_tables 7 = .ok (.if_icmp .ge 25, 3) := by decide +kernel
theorem dX11_tables_10 : decode cX11_tables 10 = .ok (.aload_n 0, 1) := by decide +kernel
theorem dX11_tables_11 : decode cX11_tables 11 = .ok (.iload_n 2, 1) := by decide +kernel
theorem dX11_tables_12 : decode cX11_tables 12 = .ok (.invokevirtual 104, 3) := by decide +kernel
theorem dX11_tables_15 : decode cX11_tables 15 = .ok (.ifCond .eq 9, 3) := by decide +kernel
theorem dX11_tables_18 : decode cX11_tables 18 = .ok (.iload_n 1, 1) := by decide +kernel
theorem dX11_tables_19 : decode cX11_tables 19 = .ok (.iconst 1, 1) := by decide +kernel
theorem dX11_tables_20 : decode cX11_tables 20 = .ok (.iadd, 1) := by decide +kernel
theorem dX11_tables_21 : decode cX11_tables 21 = .ok (.goto 4, 3) := by decide +kernel
theorem dX11_tables_24 : decode cX11_tables 24 = .ok (.iload_n 1, 1) := by decide +kernel
theorem dX11_tables_25 : decode cX11_tables 25 = .ok (.istore_n 1, 1) := by decide +kernel
theorem dX11_tables_26 : decode cX11_tables 26 = .ok (.iinc 2 1, 3) := by decide +kernel
theorem dX11_tables_29 : decode cX11_tables 29 = .ok (.goto (-25), 3) := by decide +kernel
theorem dX11_tables_32 : decode cX11_tables 32 = .ok (.iload_n 1, 1) := by decide +kernel
theorem dX11_tables_33 : decode cX11_tables 33 = .ok (.ireturn, 1) := by decide +kernel
theorem dX11_lay_0 : decode cX11_lay 0 = .ok (.aload_n 0, 1) := by decide +kernel
theorem dX11_lay_1 : decode cX11_lay 1 = .ok (.getfield 74, 3) := by decide +kernel
theorem dX11_lay_4 : decode cX11_lay 4 = .ok (.aload_n 0, 1) := by decide +kernel
theorem dX11_lay_5 : decode cX11_lay 5 = .ok (.getfield 107, 3) := by decide +kernel
theorem dX11_lay_8 : decode cX11_lay 8 = .ok (.iload_n 1, 1) := by decide +kernel
theorem dX11_lay_9 : decode cX11_lay 9 = .ok (.sipush 255, 3) := by decide +kernel
theorem dX11_lay_12 : decode cX11_lay 12 = .ok (.iand, 1) := by decide +kernel
theorem dX11_lay_13 : decode cX11_lay 13 = .ok (.iastore, 1) := by decide +kernel
theorem dX11_lay_14 : decode cX11_lay 14 = .ok (.aload_n 0, 1) := by decide +kernel
theorem dX11_lay_15 : decode cX11_lay 15 = .ok (.dup, 1) := by decide +kernel
theorem dX11_lay_16 : decode cX11_lay 16 = .ok (.getfield 107, 3) := by decide +kernel
theorem dX11_lay_19 : decode cX11_lay 19 = .ok (.iconst 1, 1) := by decide +kernel
theorem dX11_lay_20 : decode cX11_lay 20 = .ok (.iadd, 1) := by decide +kernel
theorem dX11_lay_21 : decode cX11_lay 21 = .ok (.putfield 107, 3) := by decide +kernel
theorem dX11_lay_24 : decode cX11_lay 24 = .ok (.return_, 1) := by decide +kernel
theorem dX11_stepX_0 : decode cX11_stepX 0 = .ok (.aload_n 0, 1) := by decide +kernel
theorem dX11_stepX_1 : decode cX11_stepX 1 = .ok (.getfield 19, 3) := by decide +kernel
theorem dX11_stepX_4 : decode cX11_stepX 4 = .ok (.bipush 16, 2) := by decide +kernel
theorem dX11_stepX_6 : decode cX11_stepX 6 = .ok (.iload_n 1, 1) := by decide +kernel
theorem dX11_stepX_7 : decode cX11_stepX 7 = .ok (.imul, 1) := by decide +kernel
theorem dX11_stepX_8 : decode cX11_stepX 8 = .ok (.iload_n 2, 1) := by decide +kernel
theorem dX11_stepX_9 : decode cX11_stepX 9 = .ok (.iadd, 1) := by decide +kernel
theorem dX11_stepX_10 : decode cX11_stepX 10 = .ok (.iaload, 1) := by decide +kernel
theorem dX11_stepX_11 : decode cX11_stepX 11 = .ok (.iload_n 2, 1) := by decide +kernel
theorem dX11_stepX_12 : decode cX11_stepX 12 = .ok (.ifCond .le 19, 3) := by decide +kernel
theorem dX11_stepX_15 : decode cX11_stepX 15 = .ok (.aload_n 0, 1) := by decide +kernel
theorem dX11_stepX_16 : decode cX11_stepX 16 = .ok (.getfield 19, 3) := by decide +kernel
theorem dX11_stepX_19 : decode cX11_stepX 19 = .ok (.bipush 16, 2) := by decide +kernel
theorem dX11_stepX_21 : decode cX11_stepX 21 = .ok (.iload_n 1, 1) := by decide +kernel
theorem dX11_stepX_22 : decode cX11_stepX 22 = .ok (.imul, 1) := by decide +kernel
theorem dX11_stepX_23 : decode cX11_stepX 23 = .ok (.iload_n 2, 1) := by decide +kernel
theorem dX11_stepX_24 : decode cX11_stepX 24 = .ok (.iadd, 1) := by decide +kernel
theorem dX11_stepX_25 : decode cX11_stepX 25 = .ok (.iconst 1, 1) := by decide +kernel
theorem dX11_stepX_26 : decode cX11_stepX 26 = .ok (.isub, 1) := by decide +kernel
theorem dX11_stepX_27 : decode cX11_stepX 27 = .ok (.iaload, 1) := by decide +kernel
theorem dX11_stepX_28 : decode cX11_stepX 28 = .ok (.goto 4, 3) := by decide +kernel
theorem dX11_stepX_31 : decode cX11_stepX 31 = .ok (.iconst 0, 1) := by decide +kernel
theorem dX11_stepX_32 : decode cX11_stepX 32 = .ok (.isub, 1) := by decide +kernel
theorem dX11_stepX_33 : decode cX11_stepX 33 = .ok (.ireturn, 1) := by decide +kernel
theorem dX11_stepY_0 : decode cX11_stepY 0 = .ok (.aload_n 0, 1) := by decide +kernel
theorem dX11_stepY_1 : decode cX11_stepY 1 = .ok (.getfield 22, 3) := by decide +kernel
theorem dX11_stepY_4 : decode cX11_stepY 4 = .ok (.bipush 16, 2) := by decide +kernel
theorem dX11_stepY_6 : decode cX11_stepY 6 = .ok (.iload_n 1, 1) := by decide +kernel
theorem dX11_stepY_7 : decode cX11_stepY 7 = .ok (.imul, 1) := by decide +kernel
theorem dX11_stepY_8 : decode cX11_stepY 8 = .ok (.iload_n 2, 1) := by decide +kernel
theorem dX11_stepY_9 : decode cX11_stepY 9 = .ok (.iadd, 1) := by decide +kernel
theorem dX11_stepY_10 : decode cX11_stepY 10 = .ok (.iaload, 1) := by decide +kernel
theorem dX11_stepY_11 : decode cX11_stepY 11 = .ok (.iload_n 2, 1) := by decide +kernel
theorem dX11_stepY_12 : decode cX11_stepY 12 = .ok (.ifCond .le 19, 3) := by decide +kernel
theorem dX11_stepY_15 : decode cX11_stepY 15 = .ok (.aload_n 0, 1) := by decide +kernel
theorem dX11_stepY_16 : decode cX11_stepY 16 = .ok (.getfield 22, 3) := by decide +kernel
theorem dX11_stepY_19 : decode cX11_stepY 19 = .ok (.bipush 16, 2) := by decide +kernel
theorem dX11_stepY_21 : decode cX11_stepY 21 = .ok (.iload_n 1, 1) := by decide +kernel
theorem dX11_stepY_22 : decode cX11_stepY 22 = .ok (.imul, 1) := by decide +kernel
theorem dX11_stepY_23 : decode cX11_stepY 23 = .ok (.iload_n 2, 1) := by decide +kernel
theorem dX11_stepY_24 : decode cX11_stepY 24 = .ok (.iadd, 1) := by decide +kernel
theorem dX11_stepY_25 : decode cX11_stepY 25 = .ok (.iconst 1, 1) := by decide +kernel
theorem dX11_stepY_26 : decode cX11_stepY 26 = .ok (.isub, 1) := by decide +kernel
theorem dX11_stepY_27 : decode cX11_stepY 27 = .ok (.iaload, 1) := by decide +kernel
theorem dX11_stepY_28 : decode cX11_stepY 28 = .ok (.goto 4, 3) := by decide +kernel
theorem dX11_stepY_31 : decode cX11_stepY 31 = .ok (.iconst 0, 1) := by decide +kernel
theorem dX11_stepY_32 : decode cX11_stepY 32 = .ok (.isub, 1) := by decide +kernel
theorem dX11_stepY_33 : decode cX11_stepY 33 = .ok (.ireturn, 1) := by decide +kernel
theorem dX11_flag_0 : decode cX11_flag 0 = .ok (.aload_n 0, 1) := by decide +kernel
theorem dX11_flag_1 : decode cX11_flag 1 = .ok (.iload_n 1, 1) := by decide +kernel
theorem dX11_flag_2 : decode cX11_flag 2 = .ok (.iload_n 2, 1) := by decide +kernel
theorem dX11_flag_3 : decode cX11_flag 3 = .ok (.invokevirtual 110, 3) := by decide +kernel
theorem dX11_flag_6 : decode cX11_flag 6 = .ok (.istore_n 3, 1) := by decide +kernel
theorem dX11_flag_7 : decode cX11_flag 7 = .ok (.aload_n 0, 1) := by decide +kernel
theorem dX11_flag_8 : decode cX11_flag 8 = .ok (.iload_n 1, 1) := by decide +kernel
theorem dX11_flag_9 : decode cX11_flag 9 = .ok (.iload_n 2, 1) := by decide +kernel
theorem dX11_flag_10 : decode cX11_flag 10 = .ok (.invokevirtual 114, 3) := by decide +kernel
theorem dX11_flag_13 : decode cX11_flag 13 = .ok (.istore 4, 2) := by decide +kernel
theorem dX11_flag_15 : decode cX11_flag 15 = .ok (.aload_n 0, 1) := by decide +kernel
theorem dX11_flag_16 : decode cX11_flag 16 = .ok (.getfield 25, 3) := by decide +kernel
theorem dX11_flag_19 : decode cX11_flag 19 = .ok (.bipush 16, 2) := by decide +kernel
theorem dX11_flag_21 : decode cX11_flag 21 = .ok (.iload_n 1, 1) := by decide +kernel
theorem dX11_flag_22 : decode cX11_flag 22 = .ok (.imul, 1) := by decide +kernel
theorem dX11_flag_23 : decode cX11_flag 23 = .ok (.iload_n 2, 1) := by decide +kernel
theorem dX11_flag_24 : decode cX11_flag 24 = .ok (.iadd, 1) := by decide +kernel
theorem dX11_flag_25 : decode cX11_flag 25 = .ok (.baload, 1) := by decide +kernel
theorem dX11_flag_26 : decode cX11_flag 26 = .ok (.ifCond .eq 7, 3) := by decide +kernel
theorem dX11_flag_29 : decode cX11_flag 29 = .ok (.iconst 1, 1) := by decide +kernel
theorem dX11_flag_30 : decode cX11_flag 30 = .ok (.goto 4, 3) := by decide +kernel
theorem dX11_flag_33 : decode cX11_flag 33 = .ok (.iconst 0, 1) := by decide +kernel
theorem dX11_flag_34 : decode cX11_flag 34 = .ok (.istore 5, 2) := by decide +kernel
theorem dX11_flag_36 : decode cX11_flag 36 = .ok (.iload_n 3, 1) := by decide +kernel
theorem dX11_flag_37 : decode cX11_flag 37 = .ok (.ifCond .ne 13, 3) := by decide +kernel
theorem dX11_flag_40 : decode cX11_flag 40 = .ok (.iload 5, 2) := by decide +kernel
theorem dX11_flag_42 : decode cX11_flag 42 = .ok (.bipush 16, 2) := by decide +kernel
theorem dX11_flag_44 : decode cX11_flag 44 = .ok (.iadd, 1) := by decide +kernel
theorem dX11_flag_45 : decode cX11_flag 45 = .ok (.istore 5, 2) := by decide +kernel
theorem dX11_flag_47 : decode cX11_flag 47 = .ok (.goto 28, 3) := by decide +kernel
theorem dX11_flag_50 : decode cX11_flag 50 = .ok (.iload_n 3, 1) := by decide +kernel
theorem dX11_flag_51 : decode cX11_flag 51 = .ok (.invokestatic 117, 3) := by decide +kernel
theorem dX11_flag_54 : decode cX11_flag 54 = .ok (.sipush 256, 3) := by decide +kernel
theorem dX11_flag_57 : decode cX11_flag 57 = .ok (.if_icmp .ge 18, 3) := by decide +kernel
end
section
theorem dX11_flag_60 : decode cX11_flag 60 = .ok (.iload 5, 2) := by decide +kernel
theorem dX11_flag_62 : decode cX11_flag 62 = .ok (.iload_n 3, 1) := by decide +kernel
theorem dX11_flag_63 : decode cX11_flag 63 = .ok (.ifCond .le 8, 3) := by decide +kernel
theorem dX11_flag_66 : decode cX11_flag 66 = .ok (.bipush 18, 2) := by decide +kernel
theorem dX11_flag_68 : decode cX11_flag 68 = .ok (.goto 4, 3) := by decide +kernel
theorem dX11_flag_71 : decode cX11_flag 71 = .ok (.iconst 2, 1) := by decide +kernel
theorem dX11_flag_72 : decode cX11_flag 72 = .ok (.iadd, 1) := by decide +kernel
theorem dX11_flag_73 : decode cX11_flag 73 = .ok (.istore 5, 2) := by decide +kernel
theorem dX11_flag_75 : decode cX11_flag 75 = .ok (.iload 4, 2) := by decide +kernel
theorem dX11_flag_77 : decode cX11_flag 77 = .ok (.ifCond .ne 13, 3) := by decide +kernel
theorem dX11_flag_80 : decode cX11_flag 80 = .ok (.iload 5, 2) := by decide +kernel
theorem dX11_flag_82 : decode cX11_flag 82 = .ok (.bipush 32, 2) := by decide +kernel
theorem dX11_flag_84 : decode cX11_flag 84 = .ok (.iadd, 1) := by decide +kernel
theorem dX11_flag_85 : decode cX11_flag 85 = .ok (.istore 5, 2) := by decide +kernel
theorem dX11_flag_87 : decode cX11_flag 87 = .ok (.goto 30, 3) := by decide +kernel
theorem dX11_flag_90 : decode cX11_flag 90 = .ok (.iload 4, 2) := by decide +kernel
theorem dX11_flag_92 : decode cX11_flag 92 = .ok (.invokestatic 117, 3) := by decide +kernel
theorem dX11_flag_95 : decode cX11_flag 95 = .ok (.sipush 256, 3) := by decide +kernel
theorem dX11_flag_98 : decode cX11_flag 98 = .ok (.if_icmp .ge 19, 3) := by decide +kernel
theorem dX11_flag_101 : decode cX11_flag 101 = .ok (.iload 5, 2) := by decide +kernel
theorem dX11_flag_103 : decode cX11_flag 103 = .ok (.iload 4, 2) := by decide +kernel
theorem dX11_flag_105 : decode cX11_flag 105 = .ok (.ifCond .le 8, 3) := by decide +kernel
theorem dX11_flag_108 : decode cX11_flag 108 = .ok (.bipush 36, 2) := by decide +kernel
theorem dX11_flag_110 : decode cX11_flag 110 = .ok (.goto 4, 3) := by decide +kernel
theorem dX11_flag_113 : decode cX11_flag 113 = .ok (.iconst 4, 1) := by decide +kernel
theorem dX11_flag_114 : decode cX11_flag 114 = .ok (.iadd, 1) := by decide +kernel
theorem dX11_flag_115 : decode cX11_flag 115 = .ok (.istore 5, 2) := by decide +kernel
theorem dX11_flag_117 : decode cX11_flag 117 = .ok (.iload 5, 2) := by decide +kernel
theorem dX11_flag_119 : decode cX11_flag 119 = .ok (.ireturn, 1) := by decide +kernel
theorem dX11_layStep_0 : decode cX11_layStep 0 = .ok (.iload_n 1, 1) := by decide +kernel
theorem dX11_layStep_1 : decode cX11_layStep 1 = .ok (.ifCond .ne 4, 3) := by decide +kernel
theorem dX11_layStep_4 : decode cX11_layStep 4 = .ok (.return_, 1) := by decide +kernel
theorem dX11_layStep_5 : decode cX11_layStep 5 = .ok (.iload_n 1, 1) := by decide +kernel
theorem dX11_layStep_6 : decode cX11_layStep 6 = .ok (.invokestatic 117, 3) := by decide +kernel
theorem dX11_layStep_9 : decode cX11_layStep 9 = .ok (.sipush 255, 3) := by decide +kernel
theorem dX11_layStep_12 : decode cX11_layStep 12 = .ok (.if_icmp .le 11, 3) := by decide +kernel
theorem dX11_layStep_15 : decode cX11_layStep 15 = .ok (.aload_n 0, 1) := by decide +kernel
theorem dX11_layStep_16 : decode cX11_layStep 16 = .ok (.iload_n 1, 1) := by decide +kernel
theorem dX11_layStep_17 : decode cX11_layStep 17 = .ok (.bipush 8, 2) := by decide +kernel
theorem dX11_layStep_19 : decode cX11_layStep 19 = .ok (.ishr, 1) := by decide +kernel
theorem dX11_layStep_20 : decode cX11_layStep 20 = .ok (.invokevirtual 121, 3) := by decide +kernel
theorem dX11_layStep_23 : decode cX11_layStep 23 = .ok (.aload_n 0, 1) := by decide +kernel
theorem dX11_layStep_24 : decode cX11_layStep 24 = .ok (.iload_n 1, 1) := by decide +kernel
theorem dX11_layStep_25 : decode cX11_layStep 25 = .ok (.invokestatic 117, 3) := by decide +kernel
theorem dX11_layStep_28 : decode cX11_layStep 28 = .ok (.sipush 255, 3) := by decide +kernel
theorem dX11_layStep_31 : decode cX11_layStep 31 = .ok (.if_icmp .le 7, 3) := by decide +kernel
theorem dX11_layStep_34 : decode cX11_layStep 34 = .ok (.iload_n 1, 1) := by decide +kernel
theorem dX11_layStep_35 : decode cX11_layStep 35 = .ok (.goto 7, 3) := by decide +kernel
theorem dX11_layStep_38 : decode cX11_layStep 38 = .ok (.iload_n 1, 1) := by decide +kernel
theorem dX11_layStep_39 : decode cX11_layStep 39 = .ok (.invokestatic 117, 3) := by decide +kernel
theorem dX11_layStep_42 : decode cX11_layStep 42 = .ok (.invokevirtual 121, 3) := by decide +kernel
theorem dX11_layStep_45 : decode cX11_layStep 45 = .ok (.return_, 1) := by decide +kernel
theorem dX11_layGlyph_0 : decode cX11_layGlyph 0 = .ok (.aload_n 0, 1) := by decide +kernel
theorem dX11_layGlyph_1 : decode cX11_layGlyph 1 = .ok (.getfield 13, 3) := by decide +kernel
theorem dX11_layGlyph_4 : decode cX11_layGlyph 4 = .ok (.iload_n 1, 1) := by decide +kernel
theorem dX11_layGlyph_5 : decode cX11_layGlyph 5 = .ok (.iaload, 1) := by decide +kernel
theorem dX11_layGlyph_6 : decode cX11_layGlyph 6 = .ok (.ifCond .ne 4, 3) := by decide +kernel
theorem dX11_layGlyph_9 : decode cX11_layGlyph 9 = .ok (.return_, 1) := by decide +kernel
theorem dX11_layGlyph_10 : decode cX11_layGlyph 10 = .ok (.aload_n 0, 1) := by decide +kernel
theorem dX11_layGlyph_11 : decode cX11_layGlyph 11 = .ok (.getfield 107, 3) := by decide +kernel
theorem dX11_layGlyph_14 : decode cX11_layGlyph 14 = .ok (.istore_n 2, 1) := by decide +kernel
theorem dX11_layGlyph_15 : decode cX11_layGlyph 15 = .ok (.aload_n 0, 1) := by decide +kernel
theorem dX11_layGlyph_16 : decode cX11_layGlyph 16 = .ok (.aload_n 0, 1) := by decide +kernel
theorem dX11_layGlyph_17 : decode cX11_layGlyph 17 = .ok (.getfield 13, 3) := by decide +kernel
theorem dX11_layGlyph_20 : decode cX11_layGlyph 20 = .ok (.iload_n 1, 1) := by decide +kernel
theorem dX11_layGlyph_21 : decode cX11_layGlyph 21 = .ok (.iaload, 1) := by decide +kernel
theorem dX11_layGlyph_22 : decode cX11_layGlyph 22 = .ok (.invokevirtual 121, 3) := by decide +kernel
theorem dX11_layGlyph_25 : decode cX11_layGlyph 25 = .ok (.aload_n 0, 1) := by decide +kernel
theorem dX11_layGlyph_26 : decode cX11_layGlyph 26 = .ok (.getfield 16, 3) := by decide +kernel
theorem dX11_layGlyph_29 : decode cX11_layGlyph 29 = .ok (.iload_n 1, 1) := by decide +kernel
theorem dX11_layGlyph_30 : decode cX11_layGlyph 30 = .ok (.iaload, 1) := by decide +kernel
theorem dX11_layGlyph_31 : decode cX11_layGlyph 31 = .ok (.istore_n 3, 1) := by decide +kernel
theorem dX11_layGlyph_32 : decode cX11_layGlyph 32 = .ok (.iconst 0, 1) := by decide +kernel
theorem dX11_layGlyph_33 : decode cX11_layGlyph 33 = .ok (.istore 4, 2) := by decide +kernel
theorem dX11_layGlyph_35 : decode cX11_layGlyph 35 = .ok (.iload 4, 2) := by decide +kernel
theorem dX11_layGlyph_37 : decode cX11_layGlyph 37 = .ok (.iload_n 3, 1) := by decide +kernel
theorem dX11_layGlyph_38 : decode cX11_layGlyph 38 = .ok (.if_icmp .ge 52, 3) := by decide +kernel
theorem dX11_layGlyph_41 : decode cX11_layGlyph 41 = .ok (.iload 4, 2) := by decide +kernel
theorem dX11_layGlyph_43 : decode cX11_layGlyph 43 = .ok (.iconst 1, 1) := by decide +kernel
theorem dX11_layGlyph_44 : decode cX11_layGlyph 44 = .ok (.iadd, 1) := by decide +kernel
theorem dX11_layGlyph_45 : decode cX11_layGlyph 45 = .ok (.iload_n 3, 1) := by decide +kernel
theorem dX11_layGlyph_46 : decode cX11_layGlyph 46 = .ok (.if_icmp .eq 32, 3) := by decide +kernel
theorem dX11_layGlyph_49 : decode cX11_layGlyph 49 = .ok (.aload_n 0, 1) := by decide +kernel
theorem dX11_layGlyph_50 : decode cX11_layGlyph 50 = .ok (.getfield 29, 3) := by decide +kernel
theorem dX11_layGlyph_53 : decode cX11_layGlyph 53 = .ok (.bipush 16, 2) := by decide +kernel
theorem dX11_layGlyph_55 : decode cX11_layGlyph 55 = .ok (.iload_n 1, 1) := by decide +kernel
theorem dX11_layGlyph_56 : decode cX11_layGlyph 56 = .ok (.imul, 1) := by decide +kernel
theorem dX11_layGlyph_57 : decode cX11_layGlyph 57 = .ok (.iload 4, 2) := by decide +kernel
theorem dX11_layGlyph_59 : decode cX11_layGlyph 59 = .ok (.iadd, 1) := by decide +kernel
theorem dX11_layGlyph_60 : decode cX11_layGlyph 60 = .ok (.iconst 1, 1) := by decide +kernel
theorem dX11_layGlyph_61 : decode cX11_layGlyph 61 = .ok (.iadd, 1) := by decide +kernel
theorem dX11_layGlyph_62 : decode cX11_layGlyph 62 = .ok (.iaload, 1) := by decide +kernel
theorem dX11_layGlyph_63 : decode cX11_layGlyph 63 = .ok (.aload_n 0, 1) := by decide +kernel
theorem dX11_layGlyph_64 : decode cX11_layGlyph 64 = .ok (.getfield 29, 3) := by decide +kernel
theorem dX11_layGlyph_67 : decode cX11_layGlyph 67 = .ok (.bipush 16, 2) := by decide +kernel
theorem dX11_layGlyph_69 : decode cX11_layGlyph 69 = .ok (.iload_n 1, 1) := by decide +kernel
theorem dX11_layGlyph_70 : decode cX11_layGlyph 70 = .ok (.imul, 1) := by decide +kernel
theorem dX11_layGlyph_71 : decode cX11_layGlyph 71 = .ok (.iload 4, 2) := by decide +kernel
theorem dX11_layGlyph_73 : decode cX11_layGlyph 73 = .ok (.iadd, 1) := by decide +kernel
theorem dX11_layGlyph_74 : decode cX11_layGlyph 74 = .ok (.iaload, 1) := by decide +kernel
theorem dX11_layGlyph_75 : decode cX11_layGlyph 75 = .ok (.if_icmp .le 9, 3) := by decide +kernel
theorem dX11_layGlyph_78 : decode cX11_layGlyph 78 = .ok (.aload_n 0, 1) := by decide +kernel
theorem dX11_layGlyph_79 : decode cX11_layGlyph 79 = .ok (.iload 4, 2) := by decide +kernel
theorem dX11_layGlyph_81 : decode cX11_layGlyph 81 = .ok (.invokevirtual 121, 3) := by decide +kernel
theorem dX11_layGlyph_84 : decode cX11_layGlyph 84 = .ok (.iinc 4 1, 3) := by decide +kernel
theorem dX11_layGlyph_87 : decode cX11_layGlyph 87 = .ok (.goto (-52), 3) := by decide +kernel
theorem dX11_layGlyph_90 : decode cX11_layGlyph 90 = .ok (.iconst 0, 1) := by decide +kernel
theorem dX11_layGlyph_91 : decode cX11_layGlyph 91 = .ok (.istore 4, 2) := by decide +kernel
theorem dX11_layGlyph_93 : decode cX11_layGlyph 93 = .ok (.iconst 0, 1) := by decide +kernel
theorem dX11_layGlyph_94 : decode cX11_layGlyph 94 = .ok (.istore 5, 2) := by decide +kernel
theorem dX11_layGlyph_96 : decode cX11_layGlyph 96 = .ok (.iload 5, 2) := by decide +kernel
theorem dX11_layGlyph_98 : decode cX11_layGlyph 98 = .ok (.iload_n 3, 1) := by decide +kernel
theorem dX11_layGlyph_99 : decode cX11_layGlyph 99 = .ok (.if_icmp .ge 93, 3) := by decide +kernel
theorem dX11_layGlyph_102 : decode cX11_layGlyph 102 = .ok (.aload_n 0, 1) := by decide +kernel
theorem dX11_layGlyph_103 : decode cX11_layGlyph 103 = .ok (.iload_n 1, 1) := by decide +kernel
theorem dX11_layGlyph_104 : decode cX11_layGlyph 104 = .ok (.iload 5, 2) := by decide +kernel
theorem dX11_layGlyph_106 : decode cX11_layGlyph 106 = .ok (.invokevirtual 125, 3) := by decide +kernel
theorem dX11_layGlyph_109 : decode cX11_layGlyph 109 = .ok (.istore 6, 2) := by decide +kernel
theorem dX11_layGlyph_111 : decode cX11_layGlyph 111 = .ok (.iload 4, 2) := by decide +kernel
theorem dX11_layGlyph_113 : decode cX11_layGlyph 113 = .ok (.iconst 1, 1) := by decide +kernel
theorem dX11_layGlyph_114 : decode cX11_layGlyph 114 = .ok (.iadd, 1) := by decide +kernel
theorem dX11_layGlyph_115 : decode cX11_layGlyph 115 = .ok (.istore 4, 2) := by decide +kernel
theorem dX11_layGlyph_117 : decode cX11_layGlyph 117 = .ok (.iload 5, 2) := by decide +kernel
theorem dX11_layGlyph_119 : decode cX11_layGlyph 119 = .ok (.iconst 1, 1) := by decide +kernel
theorem dX11_layGlyph_120 : decode cX11_layGlyph 120 = .ok (.iadd, 1) := by decide +kernel
theorem dX11_layGlyph_121 : decode cX11_layGlyph 121 = .ok (.iload_n 3, 1) := by decide +kernel
theorem dX11_layGlyph_122 : decode cX11_layGlyph 122 = .ok (.if_icmp .eq 17, 3) := by decide +kernel
theorem dX11_layGlyph_125 : decode cX11_layGlyph 125 = .ok (.aload_n 0, 1) := by decide +kernel
theorem dX11_layGlyph_126 : decode cX11_layGlyph 126 = .ok (.iload_n 1, 1) := by decide +kernel
theorem dX11_layGlyph_127 : decode cX11_layGlyph 127 = .ok (.iload 5, 2) := by decide +kernel
theorem dX11_layGlyph_129 : decode cX11_layGlyph 129 = .ok (.iconst 1, 1) := by decide +kernel
theorem dX11_layGlyph_130 : decode cX11_layGlyph 130 = .ok (.iadd, 1) := by decide +kernel
theorem dX11_layGlyph_131 : decode cX11_layGlyph 131 = .ok (.invokevirtual 125, 3) := by decide +kernel
theorem dX11_layGlyph_134 : decode cX11_layGlyph 134 = .ok (.iload 6, 2) := by decide +kernel
theorem dX11_layGlyph_136 : decode cX11_layGlyph 136 = .ok (.if_icmp .eq 50, 3) := by decide +kernel
theorem dX11_layGlyph_139 : decode cX11_layGlyph 139 = .ok (.iload 4, 2) := by decide +kernel
theorem dX11_layGlyph_141 : decode cX11_layGlyph 141 = .ok (.iconst 2, 1) := by decide +kernel
theorem dX11_layGlyph_142 : decode cX11_layGlyph 142 = .ok (.if_icmp .le 23, 3) := by decide +kernel
theorem dX11_layGlyph_145 : decode cX11_layGlyph 145 = .ok (.aload_n 0, 1) := by decide +kernel
theorem dX11_layGlyph_146 : decode cX11_layGlyph 146 = .ok (.iload 6, 2) := by decide +kernel
theorem dX11_layGlyph_148 : decode cX11_layGlyph 148 = .ok (.bipush 8, 2) := by decide +kernel
theorem dX11_layGlyph_150 : decode cX11_layGlyph 150 = .ok (.iadd, 1) := by decide +kernel
theorem dX11_layGlyph_151 : decode cX11_layGlyph 151 = .ok (.invokevirtual 121, 3) := by decide +kernel
theorem dX11_layGlyph_154 : decode cX11_layGlyph 154 = .ok (.aload_n 0, 1) := by decide +kernel
theorem dX11_layGlyph_155 : decode cX11_layGlyph 155 = .ok (.iload 4, 2) := by decide +kernel
theorem dX11_layGlyph_157 : decode cX11_layGlyph 157 = .ok (.iconst 1, 1) := by decide +kernel
theorem dX11_layGlyph_158 : decode cX11_layGlyph 158 = .ok (.isub, 1) := by decide +kernel
theorem dX11_layGlyph_159 : decode cX11_layGlyph 159 = .ok (.invokevirtual 121, 3) := by decide +kernel
theorem dX11_layGlyph_162 : decode cX11_layGlyph 162 = .ok (.goto 21, 3) := by decide +kernel
theorem dX11_layGlyph_165 : decode cX11_layGlyph 165 = .ok (.aload_n 0, 1) := by decide +kernel
theorem dX11_layGlyph_166 : decode cX11_layGlyph 166 = .ok (.iload 6, 2) := by decide +kernel
theorem dX11_layGlyph_168 : decode cX11_layGlyph 168 = .ok (.invokevirtual 121, 3) := by decide +kernel
theorem dX11_layGlyph_171 : decode cX11_layGlyph 171 = .ok (.iload 4, 2) := by decide +kernel
theorem dX11_layGlyph_173 : decode cX11_layGlyph 173 = .ok (.iconst 2, 1) := by decide +kernel
theorem dX11_layGlyph_174 : decode cX11_layGlyph 174 = .ok (.if_icmp .ne 9, 3) := by decide +kernel
theorem dX11_layGlyph_177 : decode cX11_layGlyph 177 = .ok (.aload_n 0, 1) := by decide +kernel
theorem dX11_layGlyph_178 : decode cX11_layGlyph 178 = .ok (.iload 6, 2) := by decide +kernel
theorem dX11_layGlyph_180 : decode cX11_layGlyph 180 = .ok (.invokevirtual 121, 3) := by decide +kernel
theorem dX11_layGlyph_183 : decode cX11_layGlyph 183 = .ok (.iconst 0, 1) := by decide +kernel
theorem dX11_layGlyph_184 : decode cX11_layGlyph 184 = .ok (.istore 4, 2) := by decide +kernel
theorem dX11_layGlyph_186 : decode cX11_layGlyph 186 = .ok (.iinc 5 1, 3) := by decide +kernel
theorem dX11_layGlyph_189 : decode cX11_layGlyph 189 = .ok (.goto (-93), 3) := by decide +kernel
theorem dX11_layGlyph_192 : decode cX11_layGlyph 192 = .ok (.iconst 0, 1) := by decide +kernel
theorem dX11_layGlyph_193 : decode cX11_layGlyph 193 = .ok (.istore 5, 2) := by decide +kernel
theorem dX11_layGlyph_195 : decode cX11_layGlyph 195 = .ok (.iload 5, 2) := by decide +kernel
theorem dX11_layGlyph_197 : decode cX11_layGlyph 197 = .ok (.iload_n 3, 1) := by decide +kernel
theorem dX11_layGlyph_198 : decode cX11_layGlyph 198 = .ok (.if_icmp .ge 20, 3) := by decide +kernel
theorem dX11_layGlyph_201 : decode cX11_layGlyph 201 = .ok (.aload_n 0, 1) := by decide +kernel
theorem dX11_layGlyph_202 : decode cX11_layGlyph 202 = .ok (.aload_n 0, 1) := by decide +kernel
theorem dX11_layGlyph_203 : decode cX11_layGlyph 203 = .ok (.iload_n 1, 1) := by decide +kernel
theorem dX11_layGlyph_204 : decode cX11_layGlyph 204 = .ok (.iload 5, 2) := by decide +kernel
theorem dX11_layGlyph_206 : decode cX11_layGlyph 206 = .ok (.invokevirtual 110, 3) := by decide +kernel
theorem dX11_layGlyph_209 : decode cX11_layGlyph 209 = .ok (.invokevirtual 128, 3) := by decide +kernel
theorem dX11_layGlyph_212 : decode cX11_layGlyph 212 = .ok (.iinc 5 1, 3) := by decide +kernel
theorem dX11_layGlyph_215 : decode cX11_layGlyph 215 = .ok (.goto (-20), 3) := by decide +kernel
theorem dX11_layGlyph_218 : decode cX11_layGlyph 218 = .ok (.iconst 0, 1) := by decide +kernel
theorem dX11_layGlyph_219 : decode cX11_layGlyph 219 = .ok (.istore 5, 2) := by decide +kernel
theorem dX11_layGlyph_221 : decode cX11_layGlyph 221 = .ok (.iload 5, 2) := by decide +kernel
theorem dX11_layGlyph_223 : decode cX11_layGlyph 223 = .ok (.iload_n 3, 1) := by decide +kernel
theorem dX11_layGlyph_224 : decode cX11_layGlyph 224 = .ok (.if_icmp .ge 20, 3) := by decide +kernel
theorem dX11_layGlyph_227 : decode cX11_layGlyph 227 = .ok (.aload_n 0, 1) := by decide +kernel
theorem dX11_layGlyph_228 : decode cX11_layGlyph 228 = .ok (.aload_n 0, 1) := by decide +kernel
theorem dX11_layGlyph_229 : decode cX11_layGlyph 229 = .ok (.iload_n 1, 1) := by decide +kernel
theorem dX11_layGlyph_230 : decode cX11_layGlyph 230 = .ok (.iload 5, 2) := by decide +kernel
theorem dX11_layGlyph_232 : decode cX11_layGlyph 232 = .ok (.invokevirtual 114, 3) := by decide +kernel
theorem dX11_layGlyph_235 : decode cX11_layGlyph 235 = .ok (.invokevirtual 128, 3) := by decide +kernel
theorem dX11_layGlyph_238 : decode cX11_layGlyph 238 = .ok (.iinc 5 1, 3) := by decide +kernel
theorem dX11_layGlyph_241 : decode cX11_layGlyph 241 = .ok (.goto (-20), 3) := by decide +kernel
theorem dX11_layGlyph_244 : decode cX11_layGlyph 244 = .ok (.aload_n 0, 1) := by decide +kernel
theorem dX11_layGlyph_245 : decode cX11_layGlyph 245 = .ok (.getfield 107, 3) := by decide +kernel
theorem dX11_layGlyph_248 : decode cX11_layGlyph 248 = .ok (.iload_n 2, 1) := by decide +kernel
theorem dX11_layGlyph_249 : decode cX11_layGlyph 249 = .ok (.isub, 1) := by decide +kernel
theorem dX11_layGlyph_250 : decode cX11_layGlyph 250 = .ok (.iconst 2, 1) := by decide +kernel
theorem dX11_layGlyph_251 : decode cX11_layGlyph 251 = .ok (.irem, 1) := by decide +kernel
theorem dX11_layGlyph_252 : decode cX11_layGlyph 252 = .ok (.ifCond .eq 8, 3) := by decide +kernel
theorem dX11_layGlyph_255 : decode cX11_layGlyph 255 = .ok (.aload_n 0, 1) := by decide +kernel
theorem dX11_layGlyph_256 : decode cX11_layGlyph 256 = .ok (.iconst 0, 1) := by decide +kernel
theorem dX11_layGlyph_257 : decode cX11_layGlyph 257 = .ok (.invokevirtual 121, 3) := by decide +kernel
theorem dX11_layGlyph_260 : decode cX11_layGlyph 260 = .ok (.return_, 1) := by decide +kernel
theorem dX11_layTable_0 : decode cX11_layTable 0 = .ok (.aload_n 0, 1) := by decide +kernel
theorem dX11_layTable_1 : decode cX11_layTable 1 = .ok (.iconst 0, 1) := by decide +kernel
theorem dX11_layTable_2 : decode cX11_layTable 2 = .ok (.putfield 107, 3) := by decide +kernel
theorem dX11_layTable_5 : decode cX11_layTable 5 = .ok (.iconst 0, 1) := by decide +kernel
theorem dX11_layTable_6 : decode cX11_layTable 6 = .ok (.istore_n 2, 1) := by decide +kernel
theorem dX11_layTable_7 : decode cX11_layTable 7 = .ok (.iload_n 2, 1) := by decide +kernel
theorem dX11_layTable_8 : decode cX11_layTable 8 = .ok (.aload_n 0, 1) := by decide +kernel
theorem dX11_layTable_9 : decode cX11_layTable 9 = .ok (.getfield 32, 3) := by decide +kernel
theorem dX11_layTable_12 : decode cX11_layTable 12 = .ok (.iload_n 1, 1) := by decide +kernel
theorem dX11_layTable_13 : decode cX11_layTable 13 = .ok (.iaload, 1) := by decide +kernel
theorem dX11_layTable_14 : decode cX11_layTable 14 = .ok (.if_icmp .ge 24, 3) := by decide +kernel
theorem dX11_layTable_17 : decode cX11_layTable 17 = .ok (.aload_n 0, 1) := by decide +kernel
theorem dX11_layTable_18 : decode cX11_layTable 18 = .ok (.aload_n 0, 1) := by decide +kernel
theorem dX11_layTable_19 : decode cX11_layTable 19 = .ok (.getfield 35, 3) := by decide +kernel
theorem dX11_layTable_22 : decode cX11_layTable 22 = .ok (.bipush 20, 2) := by decide +kernel
theorem dX11_layTable_24 : decode cX11_layTable 24 = .ok (.iload_n 1, 1) := by decide +kernel
theorem dX11_layTable_25 : decode cX11_layTable 25 = .ok (.imul, 1) := by decide +kernel
theorem dX11_layTable_26 : decode cX11_layTable 26 = .ok (.iload_n 2, 1) := by decide +kernel
theorem dX11_layTable_27 : decode cX11_layTable 27 = .ok (.iadd, 1) := by decide +kernel
theorem dX11_layTable_28 : decode cX11_layTable 28 = .ok (.iaload, 1) := by decide +kernel
theorem dX11_layTable_29 : decode cX11_layTable 29 = .ok (.invokevirtual 121, 3) := by decide +kernel
theorem dX11_layTable_32 : decode cX11_layTable 32 = .ok (.iinc 2 1, 3) := by decide +kernel
theorem dX11_layTable_35 : decode cX11_layTable 35 = .ok (.goto (-28), 3) := by decide +kernel
theorem dX11_layTable_38 : decode cX11_layTable 38 = .ok (.iconst 0, 1) := by decide +kernel
theorem dX11_layTable_39 : decode cX11_layTable 39 = .ok (.istore_n 2, 1) := by decide +kernel
theorem dX11_layTable_40 : decode cX11_layTable 40 = .ok (.iload_n 2, 1) := by decide +kernel
theorem dX11_layTable_41 : decode cX11_layTable 41 = .ok (.aload_n 0, 1) := by decide +kernel
theorem dX11_layTable_42 : decode cX11_layTable 42 = .ok (.getfield 87, 3) := by decide +kernel
theorem dX11_layTable_45 : decode cX11_layTable 45 = .ok (.if_icmp .ge 18, 3) := by decide +kernel
theorem dX11_layTable_48 : decode cX11_layTable 48 = .ok (.iload_n 1, 1) := by decide +kernel
theorem dX11_layTable_49 : decode cX11_layTable 49 = .ok (.ifCond .ne 14, 3) := by decide +kernel
theorem dX11_layTable_52 : decode cX11_layTable 52 = .ok (.aload_n 0, 1) := by decide +kernel
theorem dX11_layTable_53 : decode cX11_layTable 53 = .ok (.iload_n 2, 1) := by decide +kernel
theorem dX11_layTable_54 : decode cX11_layTable 54 = .ok (.invokevirtual 131, 3) := by decide +kernel
theorem dX11_layTable_57 : decode cX11_layTable 57 = .ok (.iinc 2 1, 3) := by decide +kernel
theorem dX11_layTable_60 : decode cX11_layTable 60 = .ok (.goto (-20), 3) := by decide +kernel
theorem dX11_layTable_63 : decode cX11_layTable 63 = .ok (.iload_n 1, 1) := by decide +kernel
theorem dX11_layTable_64 : decode cX11_layTable 64 = .ok (.iconst 1, 1) := by decide +kernel
theorem dX11_layTable_65 : decode cX11_layTable 65 = .ok (.if_icmp .eq 4, 3) := by decide +kernel
theorem dX11_layTable_68 : decode cX11_layTable 68 = .ok (.return_, 1) := by decide +kernel
theorem dX11_layTable_69 : decode cX11_layTable 69 = .ok (.iconst 0, 1) := by decide +kernel
theorem dX11_layTable_70 : decode cX11_layTable 70 = .ok (.istore_n 2, 1) := by decide +kernel
theorem dX11_layTable_71 : decode cX11_layTable 71 = .ok (.iload_n 2, 1) := by decide +kernel
theorem dX11_layTable_72 : decode cX11_layTable 72 = .ok (.aload_n 0, 1) := by decide +kernel
theorem dX11_layTable_73 : decode cX11_layTable 73 = .ok (.getfield 87, 3) := by decide +kernel
theorem dX11_layTable_76 : decode cX11_layTable 76 = .ok (.if_icmp .ge 58, 3) := by decide +kernel
theorem dX11_layTable_79 : decode cX11_layTable 79 = .ok (.aload_n 0, 1) := by decide +kernel
theorem dX11_layTable_80 : decode cX11_layTable 80 = .ok (.iload_n 2, 1) := by decide +kernel
theorem dX11_layTable_81 : decode cX11_layTable 81 = .ok (.invokevirtual 134, 3) := by decide +kernel
theorem dX11_layTable_84 : decode cX11_layTable 84 = .ok (.istore_n 3, 1) := by decide +kernel
theorem dX11_layTable_85 : decode cX11_layTable 85 = .ok (.aload_n 0, 1) := by decide +kernel
theorem dX11_layTable_86 : decode cX11_layTable 86 = .ok (.iconst 4, 1) := by decide +kernel
theorem dX11_layTable_87 : decode cX11_layTable 87 = .ok (.iload_n 2, 1) := by decide +kernel
theorem dX11_layTable_88 : decode cX11_layTable 88 = .ok (.imul, 1) := by decide +kernel
theorem dX11_layTable_89 : decode cX11_layTable 89 = .ok (.putfield 107, 3) := by decide +kernel
theorem dX11_layTable_92 : decode cX11_layTable 92 = .ok (.aload_n 0, 1) := by decide +kernel
theorem dX11_layTable_93 : decode cX11_layTable 93 = .ok (.aload_n 0, 1) := by decide +kernel
theorem dX11_layTable_94 : decode cX11_layTable 94 = .ok (.getfield 7, 3) := by decide +kernel
theorem dX11_layTable_97 : decode cX11_layTable 97 = .ok (.iload_n 2, 1) := by decide +kernel
theorem dX11_layTable_98 : decode cX11_layTable 98 = .ok (.iaload, 1) := by decide +kernel
theorem dX11_layTable_99 : decode cX11_layTable 99 = .ok (.bipush 8, 2) := by decide +kernel
theorem dX11_layTable_101 : decode cX11_layTable 101 = .ok (.ishr, 1) := by decide +kernel
theorem dX11_layTable_102 : decode cX11_layTable 102 = .ok (.invokevirtual 121, 3) := by decide +kernel
theorem dX11_layTable_105 : decode cX11_layTable 105 = .ok (.aload_n 0, 1) := by decide +kernel
theorem dX11_layTable_106 : decode cX11_layTable 106 = .ok (.aload_n 0, 1) := by decide +kernel
theorem dX11_layTable_107 : decode cX11_layTable 107 = .ok (.getfield 7, 3) := by decide +kernel
theorem dX11_layTable_110 : decode cX11_layTable 110 = .ok (.iload_n 2, 1) := by decide +kernel
theorem dX11_layTable_111 : decode cX11_layTable 111 = .ok (.iaload, 1) := by decide +kernel
theorem dX11_layTable_112 : decode cX11_layTable 112 = .ok (.invokevirtual 121, 3) := by decide +kernel
theorem dX11_layTable_115 : decode cX11_layTable 115 = .ok (.aload_n 0, 1) := by decide +kernel
theorem dX11_layTable_116 : decode cX11_layTable 116 = .ok (.iload_n 3, 1) := by decide +kernel
theorem dX11_layTable_117 : decode cX11_layTable 117 = .ok (.bipush 8, 2) := by decide +kernel
theorem dX11_layTable_119 : decode cX11_layTable 119 = .ok (.ishr, 1) := by decide +kernel
theorem dX11_layTable_120 : decode cX11_layTable 120 = .ok (.invokevirtual 121, 3) := by decide +kernel
theorem dX11_layTable_123 : decode cX11_layTable 123 = .ok (.aload_n 0, 1) := by decide +kernel
theorem dX11_layTable_124 : decode cX11_layTable 124 = .ok (.iload_n 3, 1) := by decide +kernel
theorem dX11_layTable_125 : decode cX11_layTable 125 = .ok (.invokevirtual 121, 3) := by decide +kernel
theorem dX11_layTable_128 : decode cX11_layTable 128 = .ok (.iinc 2 1, 3) := by decide +kernel
theorem dX11_layTable_131 : decode cX11_layTable 131 = .ok (.goto (-60), 3) := by decide +kernel
theorem dX11_layTable_134 : decode cX11_layTable 134 = .ok (.return_, 1) := by decide +kernel
theorem dX11_sizeBefore_0 : decode cX11_sizeBefore 0 = .ok (.aload_n 0, 1) := by decide +kernel
theorem dX11_sizeBefore_1 : decode cX11_sizeBefore 1 = .ok (.bipush 100, 2) := by decide +kernel
theorem dX11_sizeBefore_3 : decode cX11_sizeBefore 3 = .ok (.putfield 107, 3) := by decide +kernel
theorem dX11_sizeBefore_6 : decode cX11_sizeBefore 6 = .ok (.iconst 0, 1) := by decide +kernel
theorem dX11_sizeBefore_7 : decode cX11_sizeBefore 7 = .ok (.istore_n 2, 1) := by decide +kernel
theorem dX11_sizeBefore_8 : decode cX11_sizeBefore 8 = .ok (.iload_n 2, 1) := by decide +kernel
theorem dX11_sizeBefore_9 : decode cX11_sizeBefore 9 = .ok (.iload_n 1, 1) := by decide +kernel
theorem dX11_sizeBefore_10 : decode cX11_sizeBefore 10 = .ok (.if_icmp .ge 14, 3) := by decide +kernel
theorem dX11_sizeBefore_13 : decode cX11_sizeBefore 13 = .ok (.aload_n 0, 1) := by decide +kernel
theorem dX11_sizeBefore_14 : decode cX11_sizeBefore 14 = .ok (.iload_n 2, 1) := by decide +kernel
theorem dX11_sizeBefore_15 : decode cX11_sizeBefore 15 = .ok (.invokevirtual 131, 3) := by decide +kernel
theorem dX11_sizeBefore_18 : decode cX11_sizeBefore 18 = .ok (.iinc 2 1, 3) := by decide +kernel
theorem dX11_sizeBefore_21 : decode cX11_sizeBefore 21 = .ok (.goto (-13), 3) := by decide +kernel
theorem dX11_sizeBefore_24 : decode cX11_sizeBefore 24 = .ok (.aload_n 0, 1) := by decide +kernel
theorem dX11_sizeBefore_25 : decode cX11_sizeBefore 25 = .ok (.getfield 107, 3) := by decide +kernel
theorem dX11_sizeBefore_28 : decode cX11_sizeBefore 28 = .ok (.bipush 100, 2) := by decide +kernel
theorem dX11_sizeBefore_30 : decode cX11_sizeBefore 30 = .ok (.isub, 1) := by decide +kernel
theorem dX11_sizeBefore_31 : decode cX11_sizeBefore 31 = .ok (.ireturn, 1) := by decide +kernel
theorem dX11_add_0 : decode cX11_add 0 = .ok (.aload_n 0, 1) := by decide +kernel
theorem dX11_add_1 : decode cX11_add 1 = .ok (.getfield 68, 3) := by decide +kernel
theorem dX11_add_4 : decode cX11_add 4 = .ok (.aload_n 0, 1) := by decide +kernel
theorem dX11_add_5 : decode cX11_add 5 = .ok (.getfield 137, 3) := by decide +kernel
theorem dX11_add_8 : decode cX11_add 8 = .ok (.iload_n 1, 1) := by decide +kernel
theorem dX11_add_9 : decode cX11_add 9 = .ok (.sipush 255, 3) := by decide +kernel
theorem dX11_add_12 : decode cX11_add 12 = .ok (.iand, 1) := by decide +kernel
theorem dX11_add_13 : decode cX11_add 13 = .ok (.iastore, 1) := by decide +kernel
theorem dX11_add_14 : decode cX11_add 14 = .ok (.aload_n 0, 1) := by decide +kernel
theorem dX11_add_15 : decode cX11_add 15 = .ok (.dup, 1) := by decide +kernel
theorem dX11_add_16 : decode cX11_add 16 = .ok (.getfield 137, 3) := by decide +kernel
theorem dX11_add_19 : decode cX11_add 19 = .ok (.iconst 1, 1) := by decide +kernel
theorem dX11_add_20 : decode cX11_add 20 = .ok (.iadd, 1) := by decide +kernel
theorem dX11_add_21 : decode cX11_add 21 = .ok (.putfield 137, 3) := by decide +kernel
theorem dX11_add_24 : decode cX11_add 24 = .ok (.return_, 1) := by decide +kernel
theorem dX11_addLong_0 : decode cX11_addLong 0 = .ok (.iload_n 1, 1) := by decide +kernel
theorem dX11_addLong_1 : decode cX11_addLong 1 = .ok (.sipush 16383, 3) := by decide +kernel
theorem dX11_addLong_4 : decode cX11_addLong 4 = .ok (.if_icmp .le 16, 3) := by decide +kernel
theorem dX11_addLong_7 : decode cX11_addLong 7 = .ok (.aload_n 0, 1) := by decide +kernel
theorem dX11_addLong_8 : decode cX11_addLong 8 = .ok (.sipush 128, 3) := by decide +kernel
theorem dX11_addLong_11 : decode cX11_addLong 11 = .ok (.iload_n 1, 1) := by decide +kernel
theorem dX11_addLong_12 : decode cX11_addLong 12 = .ok (.sipush 16384, 3) := by decide +kernel
theorem dX11_addLong_15 : decode cX11_addLong 15 = .ok (.idiv, 1) := by decide +kernel
theorem dX11_addLong_16 : decode cX11_addLong 16 = .ok (.iadd, 1) := by decide +kernel
theorem dX11_addLong_17 : decode cX11_addLong 17 = .ok (.invokevirtual 140, 3) := by decide +kernel
theorem dX11_addLong_20 : decode cX11_addLong 20 = .ok (.iload_n 1, 1) := by decide +kernel
theorem dX11_addLong_21 : decode cX11_addLong 21 = .ok (.bipush 127, 2) := by decide +kernel
theorem dX11_addLong_23 : decode cX11_addLong 23 = .ok (.if_icmp .le 20, 3) := by decide +kernel
theorem dX11_addLong_26 : decode cX11_addLong 26 = .ok (.aload_n 0, 1) := by decide +kernel
theorem dX11_addLong_27 : decode cX11_addLong 27 = .ok (.sipush 128, 3) := by decide +kernel
theorem dX11_addLong_30 : decode cX11_addLong 30 = .ok (.iload_n 1, 1) := by decide +kernel
theorem dX11_addLong_31 : decode cX11_addLong 31 = .ok (.sipush 128, 3) := by decide +kernel
theorem dX11_addLong_34 : decode cX11_addLong 34 = .ok (.idiv, 1) := by decide +kernel
theorem dX11_addLong_35 : decode cX11_addLong 35 = .ok (.sipush 128, 3) := by decide +kernel
theorem dX11_addLong_38 : decode cX11_addLong 38 = .ok (.irem, 1) := by decide +kernel
theorem dX11_addLong_39 : decode cX11_addLong 39 = .ok (.iadd, 1) := by decide +kernel
theorem dX11_addLong_40 : decode cX11_addLong 40 = .ok (.invokevirtual 140, 3) := by decide +kernel
theorem dX11_addLong_43 : decode cX11_addLong 43 = .ok (.aload_n 0, 1) := by decide +kernel
theorem dX11_addLong_44 : decode cX11_addLong 44 = .ok (.iload_n 1, 1) := by decide +kernel
theorem dX11_addLong_45 : decode cX11_addLong 45 = .ok (.sipush 128, 3) := by decide +kernel
theorem dX11_addLong_48 : decode cX11_addLong 48 = .ok (.irem, 1) := by decide +kernel
theorem dX11_addLong_49 : decode cX11_addLong 49 = .ok (.invokevirtual 140, 3) := by decide +kernel
theorem dX11_addLong_52 : decode cX11_addLong 52 = .ok (.return_, 1) := by decide +kernel
theorem dX11_flow_0 : decode cX11_flow 0 = .ok (.aload_n 0, 1) := by decide +kernel
theorem dX11_flow_1 : decode cX11_flow 1 = .ok (.getfield 71, 3) := by decide +kernel
theorem dX11_flow_4 : decode cX11_flow 4 = .ok (.aload_n 0, 1) := by decide +kernel
theorem dX11_flow_5 : decode cX11_flow 5 = .ok (.getfield 143, 3) := by decide +kernel
theorem dX11_flow_8 : decode cX11_flow 8 = .ok (.iload_n 1, 1) := by decide +kernel
theorem dX11_flow_9 : decode cX11_flow 9 = .ok (.sipush 255, 3) := by decide +kernel
theorem dX11_flow_12 : decode cX11_flow 12 = .ok (.iand, 1) := by decide +kernel
theorem dX11_flow_13 : decode cX11_flow 13 = .ok (.iastore, 1) := by decide +kernel
theorem dX11_flow_14 : decode cX11_flow 14 = .ok (.aload_n 0, 1) := by decide +kernel
theorem dX11_flow_15 : decode cX11_flow 15 = .ok (.dup, 1) := by decide +kernel
theorem dX11_flow_16 : decode cX11_flow 16 = .ok (.getfield 143, 3) := by decide +kernel
theorem dX11_flow_19 : decode cX11_flow 19 = .ok (.iconst 1, 1) := by decide +kernel
theorem dX11_flow_20 : decode cX11_flow 20 = .ok (.iadd, 1) := by decide +kernel
theorem dX11_flow_21 : decode cX11_flow 21 = .ok (.putfield 143, 3) := by decide +kernel
theorem dX11_flow_24 : decode cX11_flow 24 = .ok (.return_, 1) := by decide +kernel
theorem dX11_flowShort_0 : decode cX11_flowShort 0 = .ok (.iload_n 1, 1) := by decide +kernel
theorem dX11_flowShort_1 : decode cX11_flowShort 1 = .ok (.sipush 761, 3) := by decide +kernel
theorem dX11_flowShort_4 : decode cX11_flowShort 4 = .ok (.if_icmp .le 13, 3) := by decide +kernel
theorem dX11_flowShort_7 : decode cX11_flowShort 7 = .ok (.aload_n 0, 1) := by decide +kernel
theorem dX11_flowShort_8 : decode cX11_flowShort 8 = .ok (.sipush 253, 3) := by decide +kernel
theorem dX11_flowShort_11 : decode cX11_flowShort 11 = .ok (.invokevirtual 146, 3) := by decide +kernel
theorem dX11_flowShort_14 : decode cX11_flowShort 14 = .ok (.goto 34, 3) := by decide +kernel
theorem dX11_flowShort_17 : decode cX11_flowShort 17 = .ok (.iload_n 1, 1) := by decide +kernel
theorem dX11_flowShort_18 : decode cX11_flowShort 18 = .ok (.sipush 505, 3) := by decide +kernel
theorem dX11_flowShort_21 : decode cX11_flowShort 21 = .ok (.if_icmp .le 13, 3) := by decide +kernel
theorem dX11_flowShort_24 : decode cX11_flowShort 24 = .ok (.aload_n 0, 1) := by decide +kernel
theorem dX11_flowShort_25 : decode cX11_flowShort 25 = .ok (.sipush 254, 3) := by decide +kernel
theorem dX11_flowShort_28 : decode cX11_flowShort 28 = .ok (.invokevirtual 146, 3) := by decide +kernel
theorem dX11_flowShort_31 : decode cX11_flowShort 31 = .ok (.goto 17, 3) := by decide +kernel
theorem dX11_flowShort_34 : decode cX11_flowShort 34 = .ok (.iload_n 1, 1) := by decide +kernel
theorem dX11_flowShort_35 : decode cX11_flowShort 35 = .ok (.sipush 252, 3) := by decide +kernel
theorem dX11_flowShort_38 : decode cX11_flowShort 38 = .ok (.if_icmp .le 10, 3) := by decide +kernel
theorem dX11_flowShort_41 : decode cX11_flowShort 41 = .ok (.aload_n 0, 1) := by decide +kernel
theorem dX11_flowShort_42 : decode cX11_flowShort 42 = .ok (.sipush 255, 3) := by decide +kernel
theorem dX11_flowShort_45 : decode cX11_flowShort 45 = .ok (.invokevirtual 146, 3) := by decide +kernel
theorem dX11_flowShort_48 : decode cX11_flowShort 48 = .ok (.iload_n 1, 1) := by decide +kernel
theorem dX11_flowShort_49 : decode cX11_flowShort 49 = .ok (.sipush 761, 3) := by decide +kernel
theorem dX11_flowShort_52 : decode cX11_flowShort 52 = .ok (.if_icmp .le 12, 3) := by decide +kernel
theorem dX11_flowShort_55 : decode cX11_flowShort 55 = .ok (.aload_n 0, 1) := by decide +kernel
theorem dX11_flowShort_56 : decode cX11_flowShort 56 = .ok (.iload_n 1, 1) := by decide +kernel
theorem dX11_flowShort_57 : decode cX11_flowShort 57 = .ok (.sipush 256, 3) := by decide +kernel
theorem dX11_flowShort_60 : decode cX11_flowShort 60 = .ok (.idiv, 1) := by decide +kernel
theorem dX11_flowShort_61 : decode cX11_flowShort 61 = .ok (.invokevirtual 146, 3) := by decide +kernel
theorem dX11_flowShort_64 : decode cX11_flowShort 64 = .ok (.aload_n 0, 1) := by decide +kernel
theorem dX11_flowShort_65 : decode cX11_flowShort 65 = .ok (.iload_n 1, 1) := by decide +kernel
theorem dX11_flowShort_66 : decode cX11_flowShort 66 = .ok (.sipush 761, 3) := by decide +kernel
theorem dX11_flowShort_69 : decode cX11_flowShort 69 = .ok (.if_icmp .le 7, 3) := by decide +kernel
theorem dX11_flowShort_72 : decode cX11_flowShort 72 = .ok (.iload_n 1, 1) := by decide +kernel
theorem dX11_flowShort_73 : decode cX11_flowShort 73 = .ok (.goto 34, 3) := by decide +kernel
theorem dX11_flowShort_76 : decode cX11_flowShort 76 = .ok (.iload_n 1, 1) := by decide +kernel
theorem dX11_flowShort_77 : decode cX11_flowShort 77 = .ok (.sipush 505, 3) := by decide +kernel
theorem dX11_flowShort_80 : decode cX11_flowShort 80 = .ok (.if_icmp .le 11, 3) := by decide +kernel
theorem dX11_flowShort_83 : decode cX11_flowShort 83 = .ok (.iload_n 1, 1) := by decide +kernel
theorem dX11_flowShort_84 : decode cX11_flowShort 84 = .ok (.sipush 506, 3) := by decide +kernel
theorem dX11_flowShort_87 : decode cX11_flowShort 87 = .ok (.isub, 1) := by decide +kernel
theorem dX11_flowShort_88 : decode cX11_flowShort 88 = .ok (.goto 19, 3) := by decide +kernel
theorem dX11_flowShort_91 : decode cX11_flowShort 91 = .ok (.iload_n 1, 1) := by decide +kernel
theorem dX11_flowShort_92 : decode cX11_flowShort 92 = .ok (.sipush 252, 3) := by decide +kernel
theorem dX11_flowShort_95 : decode cX11_flowShort 95 = .ok (.if_icmp .le 11, 3) := by decide +kernel
theorem dX11_flowShort_98 : decode cX11_flowShort 98 = .ok (.iload_n 1, 1) := by decide +kernel
theorem dX11_flowShort_99 : decode cX11_flowShort 99 = .ok (.sipush 253, 3) := by decide +kernel
theorem dX11_flowShort_102 : decode cX11_flowShort 102 = .ok (.isub, 1) := by decide +kernel
theorem dX11_flowShort_103 : decode cX11_flowShort 103 = .ok (.goto 4, 3) := by decide +kernel
theorem dX11_flowShort_106 : decode cX11_flowShort 106 = .ok (.iload_n 1, 1) := by decide +kernel
theorem dX11_flowShort_107 : decode cX11_flowShort 107 = .ok (.invokevirtual 146, 3) := by decide +kernel
theorem dX11_flowShort_110 : decode cX11_flowShort 110 = .ok (.return_, 1) := by decide +kernel
theorem dX11_signOf_0 : decode cX11_signOf 0 = .ok (.aload_n 0, 1) := by decide +kernel
theorem dX11_signOf_1 : decode cX11_signOf 1 = .ok (.iload_n 1, 1) := by decide +kernel
theorem dX11_signOf_2 : decode cX11_signOf 2 = .ok (.iload_n 2, 1) := by decide +kernel
theorem dX11_signOf_3 : decode cX11_signOf 3 = .ok (.invokevirtual 110, 3) := by decide +kernel
theorem dX11_signOf_6 : decode cX11_signOf 6 = .ok (.istore_n 3, 1) := by decide +kernel
theorem dX11_signOf_7 : decode cX11_signOf 7 = .ok (.aload_n 0, 1) := by decide +kernel
theorem dX11_signOf_8 : decode cX11_signOf 8 = .ok (.iload_n 1, 1) := by decide +kernel
theorem dX11_signOf_9 : decode cX11_signOf 9 = .ok (.iload_n 2, 1) := by decide +kernel
theorem dX11_signOf_10 : decode cX11_signOf 10 = .ok (.invokevirtual 114, 3) := by decide +kernel
theorem dX11_signOf_13 : decode cX11_signOf 13 = .ok (.istore 4, 2) := by decide +kernel
theorem dX11_signOf_15 : decode cX11_signOf 15 = .ok (.iload_n 3, 1) := by decide +kernel
theorem dX11_signOf_16 : decode cX11_signOf 16 = .ok (.invokestatic 117, 3) := by decide +kernel
theorem dX11_signOf_19 : decode cX11_signOf 19 = .ok (.istore 5, 2) := by decide +kernel
theorem dX11_signOf_21 : decode cX11_signOf 21 = .ok (.iload 4, 2) := by decide +kernel
theorem dX11_signOf_23 : decode cX11_signOf 23 = .ok (.invokestatic 117, 3) := by decide +kernel
theorem dX11_signOf_26 : decode cX11_signOf 26 = .ok (.istore 6, 2) := by decide +kernel
theorem dX11_signOf_28 : decode cX11_signOf 28 = .ok (.iload_n 3, 1) := by decide +kernel
theorem dX11_signOf_29 : decode cX11_signOf 29 = .ok (.ifCond .lt 7, 3) := by decide +kernel
theorem dX11_signOf_32 : decode cX11_signOf 32 = .ok (.iconst 1, 1) := by decide +kernel
theorem dX11_signOf_33 : decode cX11_signOf 33 = .ok (.goto 4, 3) := by decide +kernel
theorem dX11_signOf_36 : decode cX11_signOf 36 = .ok (.iconst 0, 1) := by decide +kernel
theorem dX11_signOf_37 : decode cX11_signOf 37 = .ok (.istore 7, 2) := by decide +kernel
theorem dX11_signOf_39 : decode cX11_signOf 39 = .ok (.iload 4, 2) := by decide +kernel
theorem dX11_signOf_41 : decode cX11_signOf 41 = .ok (.ifCond .lt 7, 3) := by decide +kernel
theorem dX11_signOf_44 : decode cX11_signOf 44 = .ok (.iconst 1, 1) := by decide +kernel
theorem dX11_signOf_45 : decode cX11_signOf 45 = .ok (.goto 4, 3) := by decide +kernel
theorem dX11_signOf_48 : decode cX11_signOf 48 = .ok (.iconst 0, 1) := by decide +kernel
theorem dX11_signOf_49 : decode cX11_signOf 49 = .ok (.istore 8, 2) := by decide +kernel
theorem dX11_signOf_51 : decode cX11_signOf 51 = .ok (.iload 5, 2) := by decide +kernel
theorem dX11_signOf_53 : decode cX11_signOf 53 = .ok (.ifCond .ne 23, 3) := by decide +kernel
theorem dX11_signOf_56 : decode cX11_signOf 56 = .ok (.iload 6, 2) := by decide +kernel
theorem dX11_signOf_58 : decode cX11_signOf 58 = .ok (.sipush 1280, 3) := by decide +kernel
theorem dX11_signOf_61 : decode cX11_signOf 61 = .ok (.if_icmp .ge 15, 3) := by decide +kernel
theorem dX11_signOf_64 : decode cX11_signOf 64 = .ok (.iload 6, 2) := by decide +kernel
theorem dX11_signOf_66 : decode cX11_signOf 66 = .ok (.sipush 256, 3) := by decide +kernel
theorem dX11_signOf_69 : decode cX11_signOf 69 = .ok (.idiv, 1) := by decide +kernel
theorem dX11_signOf_70 : decode cX11_signOf 70 = .ok (.iconst 2, 1) := by decide +kernel
theorem dX11_signOf_71 : decode cX11_signOf 71 = .ok (.imul, 1) := by decide +kernel
theorem dX11_signOf_72 : decode cX11_signOf 72 = .ok (.iload 8, 2) := by decide +kernel
theorem dX11_signOf_74 : decode cX11_signOf 74 = .ok (.iadd, 1) := by decide +kernel
theorem dX11_signOf_75 : decode cX11_signOf 75 = .ok (.ireturn, 1) := by decide +kernel
theorem dX11_signOf_76 : decode cX11_signOf 76 = .ok (.iload 6, 2) := by decide +kernel
theorem dX11_signOf_78 : decode cX11_signOf 78 = .ok (.ifCond .ne 26, 3) := by decide +kernel
theorem dX11_signOf_81 : decode cX11_signOf 81 = .ok (.iload 5, 2) := by decide +kernel
theorem dX11_signOf_83 : decode cX11_signOf 83 = .ok (.sipush 1280, 3) := by decide +kernel
theorem dX11_signOf_86 : decode cX11_signOf 86 = .ok (.if_icmp .ge 18, 3) := by decide +kernel
theorem dX11_signOf_89 : decode cX11_signOf 89 = .ok (.bipush 10, 2) := by decide +kernel
theorem dX11_signOf_91 : decode cX11_signOf 91 = .ok (.iload 5, 2) := by decide +kernel
theorem dX11_signOf_93 : decode cX11_signOf 93 = .ok (.sipush 256, 3) := by decide +kernel
theorem dX11_signOf_96 : decode cX11_signOf 96 = .ok (.idiv, 1) := by decide +kernel
theorem dX11_signOf_97 : decode cX11_signOf 97 = .ok (.iconst 2, 1) := by decide +kernel
theorem dX11_signOf_98 : decode cX11_signOf 98 = .ok (.imul, 1) := by decide +kernel
theorem dX11_signOf_99 : decode cX11_signOf 99 = .ok (.iadd, 1) := by decide +kernel
theorem dX11_signOf_100 : decode cX11_signOf 100 = .ok (.iload 7, 2) := by decide +kernel
theorem dX11_signOf_102 : decode cX11_signOf 102 = .ok (.iadd, 1) := by decide +kernel
theorem dX11_signOf_103 : decode cX11_signOf 103 = .ok (.ireturn, 1) := by decide +kernel
theorem dX11_signOf_104 : decode cX11_signOf 104 = .ok (.iload 5, 2) := by decide +kernel
theorem dX11_signOf_106 : decode cX11_signOf 106 = .ok (.ifCond .eq 8, 3) := by decide +kernel
theorem dX11_signOf_109 : decode cX11_signOf 109 = .ok (.iload 6, 2) := by decide +kernel
theorem dX11_signOf_111 : decode cX11_signOf 111 = .ok (.ifCond .ne 7, 3) := by decide +kernel
theorem dX11_signOf_114 : decode cX11_signOf 114 = .ok (.iconst 1, 1) := by decide +kernel
theorem dX11_signOf_115 : decode cX11_signOf 115 = .ok (.goto 4, 3) := by decide +kernel
theorem dX11_signOf_118 : decode cX11_signOf 118 = .ok (.iconst 0, 1) := by decide +kernel
theorem dX11_signOf_119 : decode cX11_signOf 119 = .ok (.istore 9, 2) := by decide +kernel
theorem dX11_signOf_121 : decode cX11_signOf 121 = .ok (.iload 9, 2) := by decide +kernel
theorem dX11_signOf_123 : decode cX11_signOf 123 = .ok (.ifCond .ne 49, 3) := by decide +kernel
theorem dX11_signOf_126 : decode cX11_signOf 126 = .ok (.iload 5, 2) := by decide +kernel
theorem dX11_signOf_128 : decode cX11_signOf 128 = .ok (.bipush 65, 2) := by decide +kernel
theorem dX11_signOf_130 : decode cX11_signOf 130 = .ok (.if_icmp .ge 42, 3) := by decide +kernel
theorem dX11_signOf_133 : decode cX11_signOf 133 = .ok (.iload 6, 2) := by decide +kernel
theorem dX11_signOf_135 : decode cX11_signOf 135 = .ok (.bipush 65, 2) := by decide +kernel
theorem dX11_signOf_137 : decode cX11_signOf 137 = .ok (.if_icmp .ge 35, 3) := by decide +kernel
theorem dX11_signOf_140 : decode cX11_signOf 140 = .ok (.bipush 20, 2) := by decide +kernel
theorem dX11_signOf_142 : decode cX11_signOf 142 = .ok (.iload 5, 2) := by decide +kernel
theorem dX11_signOf_144 : decode cX11_signOf 144 = .ok (.iconst 1, 1) := by decide +kernel
theorem dX11_signOf_145 : decode cX11_signOf 145 = .ok (.isub, 1) := by decide +kernel
theorem dX11_signOf_146 : decode cX11_signOf 146 = .ok (.bipush 16, 2) := by decide +kernel
theorem dX11_signOf_148 : decode cX11_signOf 148 = .ok (.idiv, 1) := by decide +kernel
theorem dX11_signOf_149 : decode cX11_signOf 149 = .ok (.bipush 16, 2) := by decide +kernel
theorem dX11_signOf_151 : decode cX11_signOf 151 = .ok (.imul, 1) := by decide +kernel
theorem dX11_signOf_152 : decode cX11_signOf 152 = .ok (.iadd, 1) := by decide +kernel
theorem dX11_signOf_153 : decode cX11_signOf 153 = .ok (.iload 6, 2) := by decide +kernel
theorem dX11_signOf_155 : decode cX11_signOf 155 = .ok (.iconst 1, 1) := by decide +kernel
theorem dX11_signOf_156 : decode cX11_signOf 156 = .ok (.isub, 1) := by decide +kernel
theorem dX11_signOf_157 : decode cX11_signOf 157 = .ok (.bipush 16, 2) := by decide +kernel
theorem dX11_signOf_159 : decode cX11_signOf 159 = .ok (.idiv, 1) := by decide +kernel
theorem dX11_signOf_160 : decode cX11_signOf 160 = .ok (.iconst 4, 1) := by decide +kernel
theorem dX11_signOf_161 : decode cX11_signOf 161 = .ok (.imul, 1) := by decide +kernel
theorem dX11_signOf_162 : decode cX11_signOf 162 = .ok (.iadd, 1) := by decide +kernel
theorem dX11_signOf_163 : decode cX11_signOf 163 = .ok (.iload 7, 2) := by decide +kernel
theorem dX11_signOf_165 : decode cX11_signOf 165 = .ok (.iadd, 1) := by decide +kernel
theorem dX11_signOf_166 : decode cX11_signOf 166 = .ok (.iconst 2, 1) := by decide +kernel
theorem dX11_signOf_167 : decode cX11_signOf 167 = .ok (.iload 8, 2) := by decide +kernel
theorem dX11_signOf_169 : decode cX11_signOf 169 = .ok (.imul, 1) := by decide +kernel
theorem dX11_signOf_170 : decode cX11_signOf 170 = .ok (.iadd, 1) := by decide +kernel
theorem dX11_signOf_171 : decode cX11_signOf 171 = .ok (.ireturn, 1) := by decide +kernel
theorem dX11_signOf_172 : decode cX11_signOf 172 = .ok (.iload 9, 2) := by decide +kernel
theorem dX11_signOf_174 : decode cX11_signOf 174 = .ok (.ifCond .ne 53, 3) := by decide +kernel
theorem dX11_signOf_177 : decode cX11_signOf 177 = .ok (.iload 5, 2) := by decide +kernel
theorem dX11_signOf_179 : decode cX11_signOf 179 = .ok (.sipush 769, 3) := by decide +kernel
theorem dX11_signOf_182 : decode cX11_signOf 182 = .ok (.if_icmp .ge 45, 3) := by decide +kernel
theorem dX11_signOf_185 : decode cX11_signOf 185 = .ok (.iload 6, 2) := by decide +kernel
theorem dX11_signOf_187 : decode cX11_signOf 187 = .ok (.sipush 769, 3) := by decide +kernel
theorem dX11_signOf_190 : decode cX11_signOf 190 = .ok (.if_icmp .ge 37, 3) := by decide +kernel
theorem dX11_signOf_193 : decode cX11_signOf 193 = .ok (.bipush 84, 2) := by decide +kernel
theorem dX11_signOf_195 : decode cX11_signOf 195 = .ok (.iload 5, 2) := by decide +kernel
theorem dX11_signOf_197 : decode cX11_signOf 197 = .ok (.iconst 1, 1) := by decide +kernel
theorem dX11_signOf_198 : decode cX11_signOf 198 = .ok (.isub, 1) := by decide +kernel
theorem dX11_signOf_199 : decode cX11_signOf 199 = .ok (.sipush 256, 3) := by decide +kernel
theorem dX11_signOf_202 : decode cX11_signOf 202 = .ok (.idiv, 1) := by decide +kernel
theorem dX11_signOf_203 : decode cX11_signOf 203 = .ok (.bipush 12, 2) := by decide +kernel
theorem dX11_signOf_205 : decode cX11_signOf 205 = .ok (.imul, 1) := by decide +kernel
theorem dX11_signOf_206 : decode cX11_signOf 206 = .ok (.iadd, 1) := by decide +kernel
theorem dX11_signOf_207 : decode cX11_signOf 207 = .ok (.iload 6, 2) := by decide +kernel
theorem dX11_signOf_209 : decode cX11_signOf 209 = .ok (.iconst 1, 1) := by decide +kernel
theorem dX11_signOf_210 : decode cX11_signOf 210 = .ok (.isub, 1) := by decide +kernel
theorem dX11_signOf_211 : decode cX11_signOf 211 = .ok (.sipush 256, 3) := by decide +kernel
theorem dX11_signOf_214 : decode cX11_signOf 214 = .ok (.idiv, 1) := by decide +kernel
theorem dX11_signOf_215 : decode cX11_signOf 215 = .ok (.iconst 4, 1) := by decide +kernel
theorem dX11_signOf_216 : decode cX11_signOf 216 = .ok (.imul, 1) := by decide +kernel
theorem dX11_signOf_217 : decode cX11_signOf 217 = .ok (.iadd, 1) := by decide +kernel
theorem dX11_signOf_218 : decode cX11_signOf 218 = .ok (.iload 7, 2) := by decide +kernel
theorem dX11_signOf_220 : decode cX11_signOf 220 = .ok (.iadd, 1) := by decide +kernel
theorem dX11_signOf_221 : decode cX11_signOf 221 = .ok (.iconst 2, 1) := by decide +kernel
theorem dX11_signOf_222 : decode cX11_signOf 222 = .ok (.iload 8, 2) := by decide +kernel
theorem dX11_signOf_224 : decode cX11_signOf 224 = .ok (.imul, 1) := by decide +kernel
theorem dX11_signOf_225 : decode cX11_signOf 225 = .ok (.iadd, 1) := by decide +kernel
theorem dX11_signOf_226 : decode cX11_signOf 226 = .ok (.ireturn, 1) := by decide +kernel
theorem dX11_signOf_227 : decode cX11_signOf 227 = .ok (.iload 5, 2) := by decide +kernel
theorem dX11_signOf_229 : decode cX11_signOf 229 = .ok (.sipush 4096, 3) := by decide +kernel
theorem dX11_signOf_232 : decode cX11_signOf 232 = .ok (.if_icmp .ge 16, 3) := by decide +kernel
theorem dX11_signOf_235 : decode cX11_signOf 235 = .ok (.iload 6, 2) := by decide +kernel
theorem dX11_signOf_237 : decode cX11_signOf 237 = .ok (.sipush 4096, 3) := by decide +kernel
theorem dX11_signOf_240 : decode cX11_signOf 240 = .ok (.if_icmp .ge 8, 3) := by decide +kernel
theorem dX11_signOf_243 : decode cX11_signOf 243 = .ok (.bipush 120, 2) := by decide +kernel
theorem dX11_signOf_245 : decode cX11_signOf 245 = .ok (.goto 5, 3) := by decide +kernel
theorem dX11_signOf_248 : decode cX11_signOf 248 = .ok (.bipush 124, 2) := by decide +kernel
theorem dX11_signOf_250 : decode cX11_signOf 250 = .ok (.iload 7, 2) := by decide +kernel
theorem dX11_signOf_252 : decode cX11_signOf 252 = .ok (.iadd, 1) := by decide +kernel
theorem dX11_signOf_253 : decode cX11_signOf 253 = .ok (.iconst 2, 1) := by decide +kernel
theorem dX11_signOf_254 : decode cX11_signOf 254 = .ok (.iload 8, 2) := by decide +kernel
theorem dX11_signOf_256 : decode cX11_signOf 256 = .ok (.imul, 1) := by decide +kernel
theorem dX11_signOf_257 : decode cX11_signOf 257 = .ok (.iadd, 1) := by decide +kernel
theorem dX11_signOf_258 : decode cX11_signOf 258 = .ok (.ireturn, 1) := by decide +kernel
theorem dX11_flowStep_0 : decode cX11_flowStep 0 = .ok (.aload_n 0, 1) := by decide +kernel
theorem dX11_flowStep_1 : decode cX11_flowStep 1 = .ok (.iload_n 1, 1) := by decide +kernel
theorem dX11_flowStep_2 : decode cX11_flowStep 2 = .ok (.iload_n 2, 1) := by decide +kernel
theorem dX11_flowStep_3 : decode cX11_flowStep 3 = .ok (.invokevirtual 149, 3) := by decide +kernel
theorem dX11_flowStep_6 : decode cX11_flowStep 6 = .ok (.istore_n 3, 1) := by decide +kernel
theorem dX11_flowStep_7 : decode cX11_flowStep 7 = .ok (.aload_n 0, 1) := by decide +kernel
theorem dX11_flowStep_8 : decode cX11_flowStep 8 = .ok (.iload_n 1, 1) := by decide +kernel
theorem dX11_flowStep_9 : decode cX11_flowStep 9 = .ok (.iload_n 2, 1) := by decide +kernel
theorem dX11_flowStep_10 : decode cX11_flowStep 10 = .ok (.invokevirtual 110, 3) := by decide +kernel
theorem dX11_flowStep_13 : decode cX11_flowStep 13 = .ok (.invokestatic 117, 3) := by decide +kernel
theorem dX11_flowStep_16 : decode cX11_flowStep 16 = .ok (.istore 4, 2) := by decide +kernel
theorem dX11_flowStep_18 : decode cX11_flowStep 18 = .ok (.aload_n 0, 1) := by decide +kernel
theorem dX11_flowStep_19 : decode cX11_flowStep 19 = .ok (.iload_n 1, 1) := by decide +kernel
theorem dX11_flowStep_20 : decode cX11_flowStep 20 = .ok (.iload_n 2, 1) := by decide +kernel
theorem dX11_flowStep_21 : decode cX11_flowStep 21 = .ok (.invokevirtual 114, 3) := by decide +kernel
theorem dX11_flowStep_24 : decode cX11_flowStep 24 = .ok (.invokestatic 117, 3) := by decide +kernel
theorem dX11_flowStep_27 : decode cX11_flowStep 27 = .ok (.istore 5, 2) := by decide +kernel
theorem dX11_flowStep_29 : decode cX11_flowStep 29 = .ok (.iload_n 3, 1) := by decide +kernel
theorem dX11_flowStep_30 : decode cX11_flowStep 30 = .ok (.bipush 20, 2) := by decide +kernel
theorem dX11_flowStep_32 : decode cX11_flowStep 32 = .ok (.if_icmp .ge 23, 3) := by decide +kernel
theorem dX11_flowStep_35 : decode cX11_flowStep 35 = .ok (.aload_n 0, 1) := by decide +kernel
theorem dX11_flowStep_36 : decode cX11_flowStep 36 = .ok (.iload_n 3, 1) := by decide +kernel
theorem dX11_flowStep_37 : decode cX11_flowStep 37 = .ok (.bipush 10, 2) := by decide +kernel
theorem dX11_flowStep_39 : decode cX11_flowStep 39 = .ok (.if_icmp .ge 8, 3) := by decide +kernel
theorem dX11_flowStep_42 : decode cX11_flowStep 42 = .ok (.iload 5, 2) := by decide +kernel
theorem dX11_flowStep_44 : decode cX11_flowStep 44 = .ok (.goto 5, 3) := by decide +kernel
theorem dX11_flowStep_47 : decode cX11_flowStep 47 = .ok (.iload 4, 2) := by decide +kernel
theorem dX11_flowStep_49 : decode cX11_flowStep 49 = .ok (.invokevirtual 146, 3) := by decide +kernel
theorem dX11_flowStep_52 : decode cX11_flowStep 52 = .ok (.goto 142, 3) := by decide +kernel
theorem dX11_flowStep_55 : decode cX11_flowStep 55 = .ok (.iload_n 3, 1) := by decide +kernel
theorem dX11_flowStep_56 : decode cX11_flowStep 56 = .ok (.bipush 84, 2) := by decide +kernel
theorem dX11_flowStep_58 : decode cX11_flowStep 58 = .ok (.if_icmp .ge 28, 3) := by decide +kernel
theorem dX11_flowStep_61 : decode cX11_flowStep 61 = .ok (.aload_n 0, 1) := by decide +kernel
theorem dX11_flowStep_62 : decode cX11_flowStep 62 = .ok (.iload 4, 2) := by decide +kernel
theorem dX11_flowStep_64 : decode cX11_flowStep 64 = .ok (.iconst 1, 1) := by decide +kernel
theorem dX11_flowStep_65 : decode cX11_flowStep 65 = .ok (.isub, 1) := by decide +kernel
theorem dX11_flowStep_66 : decode cX11_flowStep 66 = .ok (.bipush 16, 2) := by decide +kernel
theorem dX11_flowStep_68 : decode cX11_flowStep 68 = .ok (.irem, 1) := by decide +kernel
theorem dX11_flowStep_69 : decode cX11_flowStep 69 = .ok (.bipush 16, 2) := by decide +kernel
theorem dX11_flowStep_71 : decode cX11_flowStep 71 = .ok (.imul, 1) := by decide +kernel
theorem dX11_flowStep_72 : decode cX11_flowStep 72 = .ok (.iload 5, 2) := by decide +kernel
theorem dX11_flowStep_74 : decode cX11_flowStep 74 = .ok (.iconst 1, 1) := by decide +kernel
theorem dX11_flowStep_75 : decode cX11_flowStep 75 = .ok (.isub, 1) := by decide +kernel
theorem dX11_flowStep_76 : decode cX11_flowStep 76 = .ok (.bipush 16, 2) := by decide +kernel
theorem dX11_flowStep_78 : decode cX11_flowStep 78 = .ok (.irem, 1) := by decide +kernel
theorem dX11_flowStep_79 : decode cX11_flowStep 79 = .ok (.iadd, 1) := by decide +kernel
theorem dX11_flowStep_80 : decode cX11_flowStep 80 = .ok (.invokevirtual 146, 3) := by decide +kernel
theorem dX11_flowStep_83 : decode cX11_flowStep 83 = .ok (.goto 111, 3) := by decide +kernel
theorem dX11_flowStep_86 : decode cX11_flowStep 86 = .ok (.iload_n 3, 1) := by decide +kernel
theorem dX11_flowStep_87 : decode cX11_flowStep 87 = .ok (.bipush 120, 2) := by decide +kernel
theorem dX11_flowStep_89 : decode cX11_flowStep 89 = .ok (.if_icmp .ge 30, 3) := by decide +kernel
theorem dX11_flowStep_92 : decode cX11_flowStep 92 = .ok (.aload_n 0, 1) := by decide +kernel
theorem dX11_flowStep_93 : decode cX11_flowStep 93 = .ok (.iload 4, 2) := by decide +kernel
theorem dX11_flowStep_95 : decode cX11_flowStep 95 = .ok (.iconst 1, 1) := by decide +kernel
theorem dX11_flowStep_96 : decode cX11_flowStep 96 = .ok (.isub, 1) := by decide +kernel
theorem dX11_flowStep_97 : decode cX11_flowStep 97 = .ok (.sipush 256, 3) := by decide +kernel
theorem dX11_flowStep_100 : decode cX11_flowStep 100 = .ok (.irem, 1) := by decide +kernel
theorem dX11_flowStep_101 : decode cX11_flowStep 101 = .ok (.invokevirtual 146, 3) := by decide +kernel
theorem dX11_flowStep_104 : decode cX11_flowStep 104 = .ok (.aload_n 0, 1) := by decide +kernel
theorem dX11_flowStep_105 : decode cX11_flowStep 105 = .ok (.iload 5, 2) := by decide +kernel
theorem dX11_flowStep_107 : decode cX11_flowStep 107 = .ok (.iconst 1, 1) := by decide +kernel
theorem dX11_flowStep_108 : decode cX11_flowStep 108 = .ok (.isub, 1) := by decide +kernel
theorem dX11_flowStep_109 : decode cX11_flowStep 109 = .ok (.sipush 256, 3) := by decide +kernel
theorem dX11_flowStep_112 : decode cX11_flowStep 112 = .ok (.irem, 1) := by decide +kernel
theorem dX11_flowStep_113 : decode cX11_flowStep 113 = .ok (.invokevirtual 146, 3) := by decide +kernel
theorem dX11_flowStep_116 : decode cX11_flowStep 116 = .ok (.goto 78, 3) := by decide +kernel
theorem dX11_flowStep_119 : decode cX11_flowStep 119 = .ok (.iload_n 3, 1) := by decide +kernel
theorem dX11_flowStep_120 : decode cX11_flowStep 120 = .ok (.bipush 124, 2) := by decide +kernel
theorem dX11_flowStep_122 : decode cX11_flowStep 122 = .ok (.if_icmp .ge 40, 3) := by decide +kernel
theorem dX11_flowStep_125 : decode cX11_flowStep 125 = .ok (.aload_n 0, 1) := by decide +kernel
theorem dX11_flowStep_126 : decode cX11_flowStep 126 = .ok (.iload 4, 2) := by decide +kernel
theorem dX11_flowStep_128 : decode cX11_flowStep 128 = .ok (.bipush 16, 2) := by decide +kernel
theorem dX11_flowStep_130 : decode cX11_flowStep 130 = .ok (.idiv, 1) := by decide +kernel
theorem dX11_flowStep_131 : decode cX11_flowStep 131 = .ok (.invokevirtual 146, 3) := by decide +kernel
theorem dX11_flowStep_134 : decode cX11_flowStep 134 = .ok (.aload_n 0, 1) := by decide +kernel
theorem dX11_flowStep_135 : decode cX11_flowStep 135 = .ok (.iload 4, 2) := by decide +kernel
theorem dX11_flowStep_137 : decode cX11_flowStep 137 = .ok (.bipush 16, 2) := by decide +kernel
theorem dX11_flowStep_139 : decode cX11_flowStep 139 = .ok (.irem, 1) := by decide +kernel
theorem dX11_flowStep_140 : decode cX11_flowStep 140 = .ok (.bipush 16, 2) := by decide +kernel
theorem dX11_flowStep_142 : decode cX11_flowStep 142 = .ok (.imul, 1) := by decide +kernel
theorem dX11_flowStep_143 : decode cX11_flowStep 143 = .ok (.iload 5, 2) := by decide +kernel
theorem dX11_flowStep_145 : decode cX11_flowStep 145 = .ok (.sipush 256, 3) := by decide +kernel
theorem dX11_flowStep_148 : decode cX11_flowStep 148 = .ok (.idiv, 1) := by decide +kernel
theorem dX11_flowStep_149 : decode cX11_flowStep 149 = .ok (.iadd, 1) := by decide +kernel
theorem dX11_flowStep_150 : decode cX11_flowStep 150 = .ok (.invokevirtual 146, 3) := by decide +kernel
theorem dX11_flowStep_153 : decode cX11_flowStep 153 = .ok (.aload_n 0, 1) := by decide +kernel
theorem dX11_flowStep_154 : decode cX11_flowStep 154 = .ok (.iload 5, 2) := by decide +kernel
theorem dX11_flowStep_156 : decode cX11_flowStep 156 = .ok (.invokevirtual 146, 3) := by decide +kernel
theorem dX11_flowStep_159 : decode cX11_flowStep 159 = .ok (.goto 35, 3) := by decide +kernel
theorem dX11_flowStep_162 : decode cX11_flowStep 162 = .ok (.aload_n 0, 1) := by decide +kernel
theorem dX11_flowStep_163 : decode cX11_flowStep 163 = .ok (.iload 4, 2) := by decide +kernel
theorem dX11_flowStep_165 : decode cX11_flowStep 165 = .ok (.sipush 256, 3) := by decide +kernel
theorem dX11_flowStep_168 : decode cX11_flowStep 168 = .ok (.idiv, 1) := by decide +kernel
theorem dX11_flowStep_169 : decode cX11_flowStep 169 = .ok (.invokevirtual 146, 3) := by decide +kernel
theorem dX11_flowStep_172 : decode cX11_flowStep 172 = .ok (.aload_n 0, 1) := by decide +kernel
theorem dX11_flowStep_173 : decode cX11_flowStep 173 = .ok (.iload 4, 2) := by decide +kernel
theorem dX11_flowStep_175 : decode cX11_flowStep 175 = .ok (.invokevirtual 146, 3) := by decide +kernel
theorem dX11_flowStep_178 : decode cX11_flowStep 178 = .ok (.aload_n 0, 1) := by decide +kernel
theorem dX11_flowStep_179 : decode cX11_flowStep 179 = .ok (.iload 5, 2) := by decide +kernel
theorem dX11_flowStep_181 : decode cX11_flowStep 181 = .ok (.sipush 256, 3) := by decide +kernel
theorem dX11_flowStep_184 : decode cX11_flowStep 184 = .ok (.idiv, 1) := by decide +kernel
theorem dX11_flowStep_185 : decode cX11_flowStep 185 = .ok (.invokevirtual 146, 3) := by decide +kernel
theorem dX11_flowStep_188 : decode cX11_flowStep 188 = .ok (.aload_n 0, 1) := by decide +kernel
theorem dX11_flowStep_189 : decode cX11_flowStep 189 = .ok (.iload 5, 2) := by decide +kernel
theorem dX11_flowStep_191 : decode cX11_flowStep 191 = .ok (.invokevirtual 146, 3) := by decide +kernel
theorem dX11_flowStep_194 : decode cX11_flowStep 194 = .ok (.return_, 1) := by decide +kernel
theorem dX11_flowTable_0 : decode cX11_flowTable 0 = .ok (.iconst 0, 1) := by decide +kernel
theorem dX11_flowTable_1 : decode cX11_flowTable 1 = .ok (.istore_n 2, 1) := by decide +kernel
theorem dX11_flowTable_2 : decode cX11_flowTable 2 = .ok (.iload_n 2, 1) := by decide +kernel
theorem dX11_flowTable_3 : decode cX11_flowTable 3 = .ok (.aload_n 0, 1) := by decide +kernel
theorem dX11_flowTable_4 : decode cX11_flowTable 4 = .ok (.getfield 32, 3) := by decide +kernel
theorem dX11_flowTable_7 : decode cX11_flowTable 7 = .ok (.iload_n 1, 1) := by decide +kernel
theorem dX11_flowTable_8 : decode cX11_flowTable 8 = .ok (.iaload, 1) := by decide +kernel
theorem dX11_flowTable_9 : decode cX11_flowTable 9 = .ok (.if_icmp .ge 24, 3) := by decide +kernel
theorem dX11_flowTable_12 : decode cX11_flowTable 12 = .ok (.aload_n 0, 1) := by decide +kernel
theorem dX11_flowTable_13 : decode cX11_flowTable 13 = .ok (.aload_n 0, 1) := by decide +kernel
theorem dX11_flowTable_14 : decode cX11_flowTable 14 = .ok (.getfield 35, 3) := by decide +kernel
theorem dX11_flowTable_17 : decode cX11_flowTable 17 = .ok (.bipush 20, 2) := by decide +kernel
theorem dX11_flowTable_19 : decode cX11_flowTable 19 = .ok (.iload_n 1, 1) := by decide +kernel
theorem dX11_flowTable_20 : decode cX11_flowTable 20 = .ok (.imul, 1) := by decide +kernel
theorem dX11_flowTable_21 : decode cX11_flowTable 21 = .ok (.iload_n 2, 1) := by decide +kernel
theorem dX11_flowTable_22 : decode cX11_flowTable 22 = .ok (.iadd, 1) := by decide +kernel
theorem dX11_flowTable_23 : decode cX11_flowTable 23 = .ok (.iaload, 1) := by decide +kernel
theorem dX11_flowTable_24 : decode cX11_flowTable 24 = .ok (.invokevirtual 146, 3) := by decide +kernel
theorem dX11_flowTable_27 : decode cX11_flowTable 27 = .ok (.iinc 2 1, 3) := by decide +kernel
theorem dX11_flowTable_30 : decode cX11_flowTable 30 = .ok (.goto (-28), 3) := by decide +kernel
theorem dX11_flowTable_33 : decode cX11_flowTable 33 = .ok (.iconst 0, 1) := by decide +kernel
theorem dX11_flowTable_34 : decode cX11_flowTable 34 = .ok (.istore_n 2, 1) := by decide +kernel
theorem dX11_flowTable_35 : decode cX11_flowTable 35 = .ok (.iload_n 2, 1) := by decide +kernel
theorem dX11_flowTable_36 : decode cX11_flowTable 36 = .ok (.aload_n 0, 1) := by decide +kernel
theorem dX11_flowTable_37 : decode cX11_flowTable 37 = .ok (.getfield 87, 3) := by decide +kernel
theorem dX11_flowTable_40 : decode cX11_flowTable 40 = .ok (.if_icmp .ge 24, 3) := by decide +kernel
theorem dX11_flowTable_43 : decode cX11_flowTable 43 = .ok (.iload_n 1, 1) := by decide +kernel
theorem dX11_flowTable_44 : decode cX11_flowTable 44 = .ok (.iconst 1, 1) := by decide +kernel
theorem dX11_flowTable_45 : decode cX11_flowTable 45 = .ok (.if_icmp .ne 19, 3) := by decide +kernel
theorem dX11_flowTable_48 : decode cX11_flowTable 48 = .ok (.aload_n 0, 1) := by decide +kernel
theorem dX11_flowTable_49 : decode cX11_flowTable 49 = .ok (.aload_n 0, 1) := by decide +kernel
theorem dX11_flowTable_50 : decode cX11_flowTable 50 = .ok (.getfield 7, 3) := by decide +kernel
theorem dX11_flowTable_53 : decode cX11_flowTable 53 = .ok (.iload_n 2, 1) := by decide +kernel
theorem dX11_flowTable_54 : decode cX11_flowTable 54 = .ok (.iaload, 1) := by decide +kernel
theorem dX11_flowTable_55 : decode cX11_flowTable 55 = .ok (.invokevirtual 152, 3) := by decide +kernel
theorem dX11_flowTable_58 : decode cX11_flowTable 58 = .ok (.iinc 2 1, 3) := by decide +kernel
theorem dX11_flowTable_61 : decode cX11_flowTable 61 = .ok (.goto (-26), 3) := by decide +kernel
theorem dX11_flowTable_64 : decode cX11_flowTable 64 = .ok (.iload_n 1, 1) := by decide +kernel
theorem dX11_flowTable_65 : decode cX11_flowTable 65 = .ok (.ifCond .eq 4, 3) := by decide +kernel
theorem dX11_flowTable_68 : decode cX11_flowTable 68 = .ok (.return_, 1) := by decide +kernel
theorem dX11_flowTable_69 : decode cX11_flowTable 69 = .ok (.aload_n 0, 1) := by decide +kernel
theorem dX11_flowTable_70 : decode cX11_flowTable 70 = .ok (.aload_n 0, 1) := by decide +kernel
theorem dX11_flowTable_71 : decode cX11_flowTable 71 = .ok (.getfield 87, 3) := by decide +kernel
theorem dX11_flowTable_74 : decode cX11_flowTable 74 = .ok (.invokevirtual 146, 3) := by decide +kernel
theorem dX11_flowTable_77 : decode cX11_flowTable 77 = .ok (.iconst 0, 1) := by decide +kernel
theorem dX11_flowTable_78 : decode cX11_flowTable 78 = .ok (.istore_n 2, 1) := by decide +kernel
theorem dX11_flowTable_79 : decode cX11_flowTable 79 = .ok (.iload_n 2, 1) := by decide +kernel
theorem dX11_flowTable_80 : decode cX11_flowTable 80 = .ok (.aload_n 0, 1) := by decide +kernel
theorem dX11_flowTable_81 : decode cX11_flowTable 81 = .ok (.getfield 87, 3) := by decide +kernel
theorem dX11_flowTable_84 : decode cX11_flowTable 84 = .ok (.if_icmp .ge 19, 3) := by decide +kernel
theorem dX11_flowTable_87 : decode cX11_flowTable 87 = .ok (.aload_n 0, 1) := by decide +kernel
theorem dX11_flowTable_88 : decode cX11_flowTable 88 = .ok (.aload_n 0, 1) := by decide +kernel
theorem dX11_flowTable_89 : decode cX11_flowTable 89 = .ok (.getfield 13, 3) := by decide +kernel
theorem dX11_flowTable_92 : decode cX11_flowTable 92 = .ok (.iload_n 2, 1) := by decide +kernel
theorem dX11_flowTable_93 : decode cX11_flowTable 93 = .ok (.iaload, 1) := by decide +kernel
theorem dX11_flowTable_94 : decode cX11_flowTable 94 = .ok (.invokevirtual 146, 3) := by decide +kernel
theorem dX11_flowTable_97 : decode cX11_flowTable 97 = .ok (.iinc 2 1, 3) := by decide +kernel
theorem dX11_flowTable_100 : decode cX11_flowTable 100 = .ok (.goto (-21), 3) := by decide +kernel
theorem dX11_flowTable_103 : decode cX11_flowTable 103 = .ok (.iconst 0, 1) := by decide +kernel
theorem dX11_flowTable_104 : decode cX11_flowTable 104 = .ok (.istore_n 2, 1) := by decide +kernel
theorem dX11_flowTable_105 : decode cX11_flowTable 105 = .ok (.iload_n 2, 1) := by decide +kernel
theorem dX11_flowTable_106 : decode cX11_flowTable 106 = .ok (.aload_n 0, 1) := by decide +kernel
theorem dX11_flowTable_107 : decode cX11_flowTable 107 = .ok (.getfield 87, 3) := by decide +kernel
theorem dX11_flowTable_110 : decode cX11_flowTable 110 = .ok (.if_icmp .ge 83, 3) := by decide +kernel
theorem dX11_flowTable_113 : decode cX11_flowTable 113 = .ok (.iconst 0, 1) := by decide +kernel
theorem dX11_flowTable_114 : decode cX11_flowTable 114 = .ok (.istore_n 3, 1) := by decide +kernel
theorem dX11_flowTable_115 : decode cX11_flowTable 115 = .ok (.iload_n 3, 1) := by decide +kernel
theorem dX11_flowTable_116 : decode cX11_flowTable 116 = .ok (.aload_n 0, 1) := by decide +kernel
theorem dX11_flowTable_117 : decode cX11_flowTable 117 = .ok (.getfield 13, 3) := by decide +kernel
theorem dX11_flowTable_120 : decode cX11_flowTable 120 = .ok (.iload_n 2, 1) := by decide +kernel
theorem dX11_flowTable_121 : decode cX11_flowTable 121 = .ok (.iaload, 1) := by decide +kernel
theorem dX11_flowTable_122 : decode cX11_flowTable 122 = .ok (.if_icmp .ge 65, 3) := by decide +kernel
theorem dX11_flowTable_125 : decode cX11_flowTable 125 = .ok (.iconst 0, 1) := by decide +kernel
theorem dX11_flowTable_126 : decode cX11_flowTable 126 = .ok (.istore 4, 2) := by decide +kernel
theorem dX11_flowTable_128 : decode cX11_flowTable 128 = .ok (.iconst 0, 1) := by decide +kernel
theorem dX11_flowTable_129 : decode cX11_flowTable 129 = .ok (.istore 5, 2) := by decide +kernel
theorem dX11_flowTable_131 : decode cX11_flowTable 131 = .ok (.iload 5, 2) := by decide +kernel
theorem dX11_flowTable_133 : decode cX11_flowTable 133 = .ok (.aload_n 0, 1) := by decide +kernel
theorem dX11_flowTable_134 : decode cX11_flowTable 134 = .ok (.getfield 16, 3) := by decide +kernel
theorem dX11_flowTable_137 : decode cX11_flowTable 137 = .ok (.iload_n 2, 1) := by decide +kernel
theorem dX11_flowTable_138 : decode cX11_flowTable 138 = .ok (.iaload, 1) := by decide +kernel
theorem dX11_flowTable_139 : decode cX11_flowTable 139 = .ok (.if_icmp .ge 36, 3) := by decide +kernel
theorem dX11_flowTable_142 : decode cX11_flowTable 142 = .ok (.aload_n 0, 1) := by decide +kernel
theorem dX11_flowTable_143 : decode cX11_flowTable 143 = .ok (.getfield 29, 3) := by decide +kernel
theorem dX11_flowTable_146 : decode cX11_flowTable 146 = .ok (.bipush 16, 2) := by decide +kernel
theorem dX11_flowTable_148 : decode cX11_flowTable 148 = .ok (.iload_n 2, 1) := by decide +kernel
theorem dX11_flowTable_149 : decode cX11_flowTable 149 = .ok (.imul, 1) := by decide +kernel
theorem dX11_flowTable_150 : decode cX11_flowTable 150 = .ok (.iload 5, 2) := by decide +kernel
theorem dX11_flowTable_152 : decode cX11_flowTable 152 = .ok (.iadd, 1) := by decide +kernel
theorem dX11_flowTable_153 : decode cX11_flowTable 153 = .ok (.iaload, 1) := by decide +kernel
theorem dX11_flowTable_154 : decode cX11_flowTable 154 = .ok (.iload_n 3, 1) := by decide +kernel
theorem dX11_flowTable_155 : decode cX11_flowTable 155 = .ok (.if_icmp .ne 10, 3) := by decide +kernel
theorem dX11_flowTable_158 : decode cX11_flowTable 158 = .ok (.iload 4, 2) := by decide +kernel
theorem dX11_flowTable_160 : decode cX11_flowTable 160 = .ok (.iconst 1, 1) := by decide +kernel
theorem dX11_flowTable_161 : decode cX11_flowTable 161 = .ok (.iadd, 1) := by decide +kernel
theorem dX11_flowTable_162 : decode cX11_flowTable 162 = .ok (.goto 5, 3) := by decide +kernel
theorem dX11_flowTable_165 : decode cX11_flowTable 165 = .ok (.iload 4, 2) := by decide +kernel
theorem dX11_flowTable_167 : decode cX11_flowTable 167 = .ok (.istore 4, 2) := by decide +kernel
theorem dX11_flowTable_169 : decode cX11_flowTable 169 = .ok (.iinc 5 1, 3) := by decide +kernel
theorem dX11_flowTable_172 : decode cX11_flowTable 172 = .ok (.goto (-41), 3) := by decide +kernel
theorem dX11_flowTable_175 : decode cX11_flowTable 175 = .ok (.aload_n 0, 1) := by decide +kernel
theorem dX11_flowTable_176 : decode cX11_flowTable 176 = .ok (.iload 4, 2) := by decide +kernel
theorem dX11_flowTable_178 : decode cX11_flowTable 178 = .ok (.invokevirtual 152, 3) := by decide +kernel
theorem dX11_flowTable_181 : decode cX11_flowTable 181 = .ok (.iinc 3 1, 3) := by decide +kernel
theorem dX11_flowTable_184 : decode cX11_flowTable 184 = .ok (.goto (-69), 3) := by decide +kernel
theorem dX11_flowTable_187 : decode cX11_flowTable 187 = .ok (.iinc 2 1, 3) := by decide +kernel
theorem dX11_flowTable_190 : decode cX11_flowTable 190 = .ok (.goto (-85), 3) := by decide +kernel
theorem dX11_flowTable_193 : decode cX11_flowTable 193 = .ok (.iconst 0, 1) := by decide +kernel
theorem dX11_flowTable_194 : decode cX11_flowTable 194 = .ok (.istore_n 2, 1) := by decide +kernel
theorem dX11_flowTable_195 : decode cX11_flowTable 195 = .ok (.iload_n 2, 1) := by decide +kernel
theorem dX11_flowTable_196 : decode cX11_flowTable 196 = .ok (.aload_n 0, 1) := by decide +kernel
theorem dX11_flowTable_197 : decode cX11_flowTable 197 = .ok (.getfield 87, 3) := by decide +kernel
theorem dX11_flowTable_200 : decode cX11_flowTable 200 = .ok (.if_icmp .ge 59, 3) := by decide +kernel
theorem dX11_flowTable_203 : decode cX11_flowTable 203 = .ok (.iconst 0, 1) := by decide +kernel
theorem dX11_flowTable_204 : decode cX11_flowTable 204 = .ok (.istore_n 3, 1) := by decide +kernel
theorem dX11_flowTable_205 : decode cX11_flowTable 205 = .ok (.iload_n 3, 1) := by decide +kernel
theorem dX11_flowTable_206 : decode cX11_flowTable 206 = .ok (.aload_n 0, 1) := by decide +kernel
theorem dX11_flowTable_207 : decode cX11_flowTable 207 = .ok (.getfield 16, 3) := by decide +kernel
theorem dX11_flowTable_210 : decode cX11_flowTable 210 = .ok (.iload_n 2, 1) := by decide +kernel
theorem dX11_flowTable_211 : decode cX11_flowTable 211 = .ok (.iaload, 1) := by decide +kernel
theorem dX11_flowTable_212 : decode cX11_flowTable 212 = .ok (.if_icmp .ge 41, 3) := by decide +kernel
theorem dX11_flowTable_215 : decode cX11_flowTable 215 = .ok (.aload_n 0, 1) := by decide +kernel
theorem dX11_flowTable_216 : decode cX11_flowTable 216 = .ok (.aload_n 0, 1) := by decide +kernel
theorem dX11_flowTable_217 : decode cX11_flowTable 217 = .ok (.iload_n 2, 1) := by decide +kernel
theorem dX11_flowTable_218 : decode cX11_flowTable 218 = .ok (.iload_n 3, 1) := by decide +kernel
theorem dX11_flowTable_219 : decode cX11_flowTable 219 = .ok (.invokevirtual 149, 3) := by decide +kernel
theorem dX11_flowTable_222 : decode cX11_flowTable 222 = .ok (.aload_n 0, 1) := by decide +kernel
theorem dX11_flowTable_223 : decode cX11_flowTable 223 = .ok (.getfield 25, 3) := by decide +kernel
theorem dX11_flowTable_226 : decode cX11_flowTable 226 = .ok (.bipush 16, 2) := by decide +kernel
theorem dX11_flowTable_228 : decode cX11_flowTable 228 = .ok (.iload_n 2, 1) := by decide +kernel
theorem dX11_flowTable_229 : decode cX11_flowTable 229 = .ok (.imul, 1) := by decide +kernel
theorem dX11_flowTable_230 : decode cX11_flowTable 230 = .ok (.iload_n 3, 1) := by decide +kernel
theorem dX11_flowTable_231 : decode cX11_flowTable 231 = .ok (.iadd, 1) := by decide +kernel
theorem dX11_flowTable_232 : decode cX11_flowTable 232 = .ok (.baload, 1) := by decide +kernel
theorem dX11_flowTable_233 : decode cX11_flowTable 233 = .ok (.ifCond .eq 7, 3) := by decide +kernel
theorem dX11_flowTable_236 : decode cX11_flowTable 236 = .ok (.iconst 0, 1) := by decide +kernel
theorem dX11_flowTable_237 : decode cX11_flowTable 237 = .ok (.goto 6, 3) := by decide +kernel
theorem dX11_flowTable_240 : decode cX11_flowTable 240 = .ok (.sipush 128, 3) := by decide +kernel
theorem dX11_flowTable_243 : decode cX11_flowTable 243 = .ok (.iadd, 1) := by decide +kernel
theorem dX11_flowTable_244 : decode cX11_flowTable 244 = .ok (.invokevirtual 146, 3) := by decide +kernel
theorem dX11_flowTable_247 : decode cX11_flowTable 247 = .ok (.iinc 3 1, 3) := by decide +kernel
theorem dX11_flowTable_250 : decode cX11_flowTable 250 = .ok (.goto (-45), 3) := by decide +kernel
theorem dX11_flowTable_253 : decode cX11_flowTable 253 = .ok (.iinc 2 1, 3) := by decide +kernel
theorem dX11_flowTable_256 : decode cX11_flowTable 256 = .ok (.goto (-61), 3) := by decide +kernel
theorem dX11_flowTable_259 : decode cX11_flowTable 259 = .ok (.iconst 0, 1) := by decide +kernel
theorem dX11_flowTable_260 : decode cX11_flowTable 260 = .ok (.istore_n 2, 1) := by decide +kernel
theorem dX11_flowTable_261 : decode cX11_flowTable 261 = .ok (.iload_n 2, 1) := by decide +kernel
theorem dX11_flowTable_262 : decode cX11_flowTable 262 = .ok (.aload_n 0, 1) := by decide +kernel
theorem dX11_flowTable_263 : decode cX11_flowTable 263 = .ok (.getfield 87, 3) := by decide +kernel
theorem dX11_flowTable_266 : decode cX11_flowTable 266 = .ok (.if_icmp .ge 33, 3) := by decide +kernel
theorem dX11_flowTable_269 : decode cX11_flowTable 269 = .ok (.iconst 0, 1) := by decide +kernel
theorem dX11_flowTable_270 : decode cX11_flowTable 270 = .ok (.istore_n 3, 1) := by decide +kernel
theorem dX11_flowTable_271 : decode cX11_flowTable 271 = .ok (.iload_n 3, 1) := by decide +kernel
theorem dX11_flowTable_272 : decode cX11_flowTable 272 = .ok (.aload_n 0, 1) := by decide +kernel
theorem dX11_flowTable_273 : decode cX11_flowTable 273 = .ok (.getfield 16, 3) := by decide +kernel
theorem dX11_flowTable_276 : decode cX11_flowTable 276 = .ok (.iload_n 2, 1) := by decide +kernel
theorem dX11_flowTable_277 : decode cX11_flowTable 277 = .ok (.iaload, 1) := by decide +kernel
theorem dX11_flowTable_278 : decode cX11_flowTable 278 = .ok (.if_icmp .ge 15, 3) := by decide +kernel
theorem dX11_flowTable_281 : decode cX11_flowTable 281 = .ok (.aload_n 0, 1) := by decide +kernel
theorem dX11_flowTable_282 : decode cX11_flowTable 282 = .ok (.iload_n 2, 1) := by decide +kernel
theorem dX11_flowTable_283 : decode cX11_flowTable 283 = .ok (.iload_n 3, 1) := by decide +kernel
theorem dX11_flowTable_284 : decode cX11_flowTable 284 = .ok (.invokevirtual 155, 3) := by decide +kernel
theorem dX11_flowTable_287 : decode cX11_flowTable 287 = .ok (.iinc 3 1, 3) := by decide +kernel
theorem dX11_flowTable_290 : decode cX11_flowTable 290 = .ok (.goto (-19), 3) := by decide +kernel
theorem dX11_flowTable_293 : decode cX11_flowTable 293 = .ok (.iinc 2 1, 3) := by decide +kernel
theorem dX11_flowTable_296 : decode cX11_flowTable 296 = .ok (.goto (-35), 3) := by decide +kernel
theorem dX11_flowTable_299 : decode cX11_flowTable 299 = .ok (.return_, 1) := by decide +kernel
theorem dX11_bit_0 : decode cX11_bit 0 = .ok (.aload_n 0, 1) := by decide +kernel
theorem dX11_bit_1 : decode cX11_bit 1 = .ok (.iconst 2, 1) := by decide +kernel
theorem dX11_bit_2 : decode cX11_bit 2 = .ok (.aload_n 0, 1) := by decide +kernel
theorem dX11_bit_3 : decode cX11_bit 3 = .ok (.getfield 159, 3) := by decide +kernel
theorem dX11_bit_6 : decode cX11_bit 6 = .ok (.imul, 1) := by decide +kernel
theorem dX11_bit_7 : decode cX11_bit 7 = .ok (.iload_n 1, 1) := by decide +kernel
theorem dX11_bit_8 : decode cX11_bit 8 = .ok (.iadd, 1) := by decide +kernel
theorem dX11_bit_9 : decode cX11_bit 9 = .ok (.putfield 159, 3) := by decide +kernel
theorem dX11_bit_12 : decode cX11_bit 12 = .ok (.aload_n 0, 1) := by decide +kernel
theorem dX11_bit_13 : decode cX11_bit 13 = .ok (.dup, 1) := by decide +kernel
theorem dX11_bit_14 : decode cX11_bit 14 = .ok (.getfield 162, 3) := by decide +kernel
theorem dX11_bit_17 : decode cX11_bit 17 = .ok (.iconst 1, 1) := by decide +kernel
theorem dX11_bit_18 : decode cX11_bit 18 = .ok (.iadd, 1) := by decide +kernel
theorem dX11_bit_19 : decode cX11_bit 19 = .ok (.putfield 162, 3) := by decide +kernel
theorem dX11_bit_22 : decode cX11_bit 22 = .ok (.aload_n 0, 1) := by decide +kernel
theorem dX11_bit_23 : decode cX11_bit 23 = .ok (.getfield 162, 3) := by decide +kernel
theorem dX11_bit_26 : decode cX11_bit 26 = .ok (.bipush 8, 2) := by decide +kernel
theorem dX11_bit_28 : decode cX11_bit 28 = .ok (.if_icmp .ne 21, 3) := by decide +kernel
theorem dX11_bit_31 : decode cX11_bit 31 = .ok (.aload_n 0, 1) := by decide +kernel
theorem dX11_bit_32 : decode cX11_bit 32 = .ok (.aload_n 0, 1) := by decide +kernel
theorem dX11_bit_33 : decode cX11_bit 33 = .ok (.getfield 159, 3) := by decide +kernel
theorem dX11_bit_36 : decode cX11_bit 36 = .ok (.invokevirtual 140, 3) := by decide +kernel
theorem dX11_bit_39 : decode cX11_bit 39 = .ok (.aload_n 0, 1) := by decide +kernel
theorem dX11_bit_40 : decode cX11_bit 40 = .ok (.iconst 0, 1) := by decide +kernel
theorem dX11_bit_41 : decode cX11_bit 41 = .ok (.putfield 159, 3) := by decide +kernel
theorem dX11_bit_44 : decode cX11_bit 44 = .ok (.aload_n 0, 1) := by decide +kernel
theorem dX11_bit_45 : decode cX11_bit 45 = .ok (.iconst 0, 1) := by decide +kernel
theorem dX11_bit_46 : decode cX11_bit 46 = .ok (.putfield 162, 3) := by decide +kernel
theorem dX11_bit_49 : decode cX11_bit 49 = .ok (.return_, 1) := by decide +kernel
theorem dX11_bits_0 : decode cX11_bits 0 = .ok (.iload_n 2, 1) := by decide +kernel
theorem dX11_bits_1 : decode cX11_bits 1 = .ok (.iconst 1, 1) := by decide +kernel
theorem dX11_bits_2 : decode cX11_bits 2 = .ok (.isub, 1) := by decide +kernel
theorem dX11_bits_3 : decode cX11_bits 3 = .ok (.istore_n 3, 1) := by decide +kernel
theorem dX11_bits_4 : decode cX11_bits 4 = .ok (.iload_n 3, 1) := by decide +kernel
theorem dX11_bits_5 : decode cX11_bits 5 = .ok (.ifCond .lt 18, 3) := by decide +kernel
theorem dX11_bits_8 : decode cX11_bits 8 = .ok (.aload_n 0, 1) := by decide +kernel
theorem dX11_bits_9 : decode cX11_bits 9 = .ok (.iload_n 1, 1) := by decide +kernel
theorem dX11_bits_10 : decode cX11_bits 10 = .ok (.iload_n 3, 1) := by decide +kernel
theorem dX11_bits_11 : decode cX11_bits 11 = .ok (.ishr, 1) := by decide +kernel
theorem dX11_bits_12 : decode cX11_bits 12 = .ok (.iconst 1, 1) := by decide +kernel
theorem dX11_bits_13 : decode cX11_bits 13 = .ok (.iand, 1) := by decide +kernel
theorem dX11_bits_14 : decode cX11_bits 14 = .ok (.invokevirtual 165, 3) := by decide +kernel
theorem dX11_bits_17 : decode cX11_bits 17 = .ok (.iinc 3 (-1), 3) := by decide +kernel
theorem dX11_bits_20 : decode cX11_bits 20 = .ok (.goto (-16), 3) := by decide +kernel
theorem dX11_bits_23 : decode cX11_bits 23 = .ok (.return_, 1) := by decide +kernel
theorem dX11_gamma_0 : decode cX11_gamma 0 = .ok (.iconst 0, 1) := by decide +kernel
theorem dX11_gamma_1 : decode cX11_gamma 1 = .ok (.istore_n 2, 1) := by decide +kernel
theorem dX11_gamma_2 : decode cX11_gamma 2 = .ok (.iload_n 1, 1) := by decide +kernel
theorem dX11_gamma_3 : decode cX11_gamma 3 = .ok (.iload_n 2, 1) := by decide +kernel
theorem dX11_gamma_4 : decode cX11_gamma 4 = .ok (.ishr, 1) := by decide +kernel
theorem dX11_gamma_5 : decode cX11_gamma 5 = .ok (.iconst 1, 1) := by decide +kernel
theorem dX11_gamma_6 : decode cX11_gamma 6 = .ok (.if_icmp .le 9, 3) := by decide +kernel
theorem dX11_gamma_9 : decode cX11_gamma 9 = .ok (.iinc 2 1, 3) := by decide +kernel
theorem dX11_gamma_12 : decode cX11_gamma 12 = .ok (.goto (-10), 3) := by decide +kernel
theorem dX11_gamma_15 : decode cX11_gamma 15 = .ok (.aload_n 0, 1) := by decide +kernel
theorem dX11_gamma_16 : decode cX11_gamma 16 = .ok (.iconst 0, 1) := by decide +kernel
theorem dX11_gamma_17 : decode cX11_gamma 17 = .ok (.iload_n 2, 1) := by decide +kernel
theorem dX11_gamma_18 : decode cX11_gamma 18 = .ok (.invokevirtual 168, 3) := by decide +kernel
theorem dX11_gamma_21 : decode cX11_gamma 21 = .ok (.aload_n 0, 1) := by decide +kernel
theorem dX11_gamma_22 : decode cX11_gamma 22 = .ok (.iload_n 1, 1) := by decide +kernel
theorem dX11_gamma_23 : decode cX11_gamma 23 = .ok (.iload_n 2, 1) := by decide +kernel
theorem dX11_gamma_24 : decode cX11_gamma 24 = .ok (.iconst 1, 1) := by decide +kernel
theorem dX11_gamma_25 : decode cX11_gamma 25 = .ok (.iadd, 1) := by decide +kernel
theorem dX11_gamma_26 : decode cX11_gamma 26 = .ok (.invokevirtual 168, 3) := by decide +kernel
theorem dX11_gamma_29 : decode cX11_gamma 29 = .ok (.return_, 1) := by decide +kernel
theorem dX11_alike_0 : decode cX11_alike 0 = .ok (.iconst 0, 1) := by decide +kernel
theorem dX11_alike_1 : decode cX11_alike 1 = .ok (.istore_n 3, 1) := by decide +kernel
theorem dX11_alike_2 : decode cX11_alike 2 = .ok (.iload_n 1, 1) := by decide +kernel
theorem dX11_alike_3 : decode cX11_alike 3 = .ok (.iload_n 3, 1) := by decide +kernel
theorem dX11_alike_4 : decode cX11_alike 4 = .ok (.iadd, 1) := by decide +kernel
theorem dX11_alike_5 : decode cX11_alike 5 = .ok (.aload_n 0, 1) := by decide +kernel
theorem dX11_alike_6 : decode cX11_alike 6 = .ok (.getfield 143, 3) := by decide +kernel
theorem dX11_alike_9 : decode cX11_alike 9 = .ok (.if_icmp .ge 30, 3) := by decide +kernel
theorem dX11_alike_12 : decode cX11_alike 12 = .ok (.aload_n 0, 1) := by decide +kernel
theorem dX11_alike_13 : decode cX11_alike 13 = .ok (.getfield 71, 3) := by decide +kernel
theorem dX11_alike_16 : decode cX11_alike 16 = .ok (.iload_n 1, 1) := by decide +kernel
theorem dX11_alike_17 : decode cX11_alike 17 = .ok (.iload_n 3, 1) := by decide +kernel
theorem dX11_alike_18 : decode cX11_alike 18 = .ok (.iadd, 1) := by decide +kernel
theorem dX11_alike_19 : decode cX11_alike 19 = .ok (.iaload, 1) := by decide +kernel
theorem dX11_alike_20 : decode cX11_alike 20 = .ok (.aload_n 0, 1) := by decide +kernel
theorem dX11_alike_21 : decode cX11_alike 21 = .ok (.getfield 71, 3) := by decide +kernel
theorem dX11_alike_24 : decode cX11_alike 24 = .ok (.iload_n 1, 1) := by decide +kernel
theorem dX11_alike_25 : decode cX11_alike 25 = .ok (.iload_n 3, 1) := by decide +kernel
theorem dX11_alike_26 : decode cX11_alike 26 = .ok (.iadd, 1) := by decide +kernel
theorem dX11_alike_27 : decode cX11_alike 27 = .ok (.iload_n 2, 1) := by decide +kernel
theorem dX11_alike_28 : decode cX11_alike 28 = .ok (.isub, 1) := by decide +kernel
theorem dX11_alike_29 : decode cX11_alike 29 = .ok (.iaload, 1) := by decide +kernel
theorem dX11_alike_30 : decode cX11_alike 30 = .ok (.if_icmp .ne 9, 3) := by decide +kernel
theorem dX11_alike_33 : decode cX11_alike 33 = .ok (.iinc 3 1, 3) := by decide +kernel
theorem dX11_alike_36 : decode cX11_alike 36 = .ok (.goto (-34), 3) := by decide +kernel
theorem dX11_alike_39 : decode cX11_alike 39 = .ok (.iload_n 3, 1) := by decide +kernel
theorem dX11_alike_40 : decode cX11_alike 40 = .ok (.ireturn, 1) := by decide +kernel
theorem dX11_compress_0 : decode cX11_compress 0 = .ok (.aload_n 0, 1) := by decide +kernel
theorem dX11_compress_1 : decode cX11_compress 1 = .ok (.iconst 0, 1) := by decide +kernel
theorem dX11_compress_2 : decode cX11_compress 2 = .ok (.putfield 159, 3) := by decide +kernel
theorem dX11_compress_5 : decode cX11_compress 5 = .ok (.aload_n 0, 1) := by decide +kernel
theorem dX11_compress_6 : decode cX11_compress 6 = .ok (.iconst 0, 1) := by decide +kernel
theorem dX11_compress_7 : decode cX11_compress 7 = .ok (.putfield 162, 3) := by decide +kernel
theorem dX11_compress_10 : decode cX11_compress 10 = .ok (.iconst 0, 1) := by decide +kernel
theorem dX11_compress_11 : decode cX11_compress 11 = .ok (.istore_n 1, 1) := by decide +kernel
theorem dX11_compress_12 : decode cX11_compress 12 = .ok (.iload_n 1, 1) := by decide +kernel
theorem dX11_compress_13 : decode cX11_compress 13 = .ok (.aload_n 0, 1) := by decide +kernel
theorem dX11_compress_14 : decode cX11_compress 14 = .ok (.getfield 143, 3) := by decide +kernel
theorem dX11_compress_17 : decode cX11_compress 17 = .ok (.if_icmp .ge 104, 3) := by decide +kernel
theorem dX11_compress_20 : decode cX11_compress 20 = .ok (.iconst 0, 1) := by decide +kernel
theorem dX11_compress_21 : decode cX11_compress 21 = .ok (.istore_n 2, 1) := by decide +kernel
theorem dX11_compress_22 : decode cX11_compress 22 = .ok (.iconst 0, 1) := by decide +kernel
theorem dX11_compress_23 : decode cX11_compress 23 = .ok (.istore_n 3, 1) := by decide +kernel
theorem dX11_compress_24 : decode cX11_compress 24 = .ok (.iload_n 1, 1) := by decide +kernel
theorem dX11_compress_25 : decode cX11_compress 25 = .ok (.istore 4, 2) := by decide +kernel
theorem dX11_compress_27 : decode cX11_compress 27 = .ok (.iload 4, 2) := by decide +kernel
theorem dX11_compress_29 : decode cX11_compress 29 = .ok (.iconst 1, 1) := by decide +kernel
theorem dX11_compress_30 : decode cX11_compress 30 = .ok (.if_icmp .lt 44, 3) := by decide +kernel
theorem dX11_compress_33 : decode cX11_compress 33 = .ok (.aload_n 0, 1) := by decide +kernel
theorem dX11_compress_34 : decode cX11_compress 34 = .ok (.iload_n 1, 1) := by decide +kernel
theorem dX11_compress_35 : decode cX11_compress 35 = .ok (.iload 4, 2) := by decide +kernel
theorem dX11_compress_37 : decode cX11_compress 37 = .ok (.invokevirtual 171, 3) := by decide +kernel
theorem dX11_compress_40 : decode cX11_compress 40 = .ok (.istore 5, 2) := by decide +kernel
theorem dX11_compress_42 : decode cX11_compress 42 = .ok (.iload 5, 2) := by decide +kernel
theorem dX11_compress_44 : decode cX11_compress 44 = .ok (.iload_n 2, 1) := by decide +kernel
theorem dX11_compress_45 : decode cX11_compress 45 = .ok (.if_icmp .lt 8, 3) := by decide +kernel
theorem dX11_compress_48 : decode cX11_compress 48 = .ok (.iload 4, 2) := by decide +kernel
theorem dX11_compress_50 : decode cX11_compress 50 = .ok (.goto 4, 3) := by decide +kernel
theorem dX11_compress_53 : decode cX11_compress 53 = .ok (.iload_n 3, 1) := by decide +kernel
theorem dX11_compress_54 : decode cX11_compress 54 = .ok (.istore_n 3, 1) := by decide +kernel
theorem dX11_compress_55 : decode cX11_compress 55 = .ok (.iload 5, 2) := by decide +kernel
theorem dX11_compress_57 : decode cX11_compress 57 = .ok (.iload_n 2, 1) := by decide +kernel
theorem dX11_compress_58 : decode cX11_compress 58 = .ok (.if_icmp .lt 8, 3) := by decide +kernel
theorem dX11_compress_61 : decode cX11_compress 61 = .ok (.iload 5, 2) := by decide +kernel
theorem dX11_compress_63 : decode cX11_compress 63 = .ok (.goto 4, 3) := by decide +kernel
theorem dX11_compress_66 : decode cX11_compress 66 = .ok (.iload_n 2, 1) := by decide +kernel
theorem dX11_compress_67 : decode cX11_compress 67 = .ok (.istore_n 2, 1) := by decide +kernel
theorem dX11_compress_68 : decode cX11_compress 68 = .ok (.iinc 4 (-1), 3) := by decide +kernel
theorem dX11_compress_71 : decode cX11_compress 71 = .ok (.goto (-44), 3) := by decide +kernel
theorem dX11_compress_74 : decode cX11_compress 74 = .ok (.iload_n 2, 1) := by decide +kernel
theorem dX11_compress_75 : decode cX11_compress 75 = .ok (.iconst 2, 1) := by decide +kernel
theorem dX11_compress_76 : decode cX11_compress 76 = .ok (.if_icmp .le 27, 3) := by decide +kernel
theorem dX11_compress_79 : decode cX11_compress 79 = .ok (.aload_n 0, 1) := by decide +kernel
theorem dX11_compress_80 : decode cX11_compress 80 = .ok (.iconst 1, 1) := by decide +kernel
theorem dX11_compress_81 : decode cX11_compress 81 = .ok (.invokevirtual 165, 3) := by decide +kernel
theorem dX11_compress_84 : decode cX11_compress 84 = .ok (.aload_n 0, 1) := by decide +kernel
theorem dX11_compress_85 : decode cX11_compress 85 = .ok (.iload_n 2, 1) := by decide +kernel
theorem dX11_compress_86 : decode cX11_compress 86 = .ok (.iconst 2, 1) := by decide +kernel
theorem dX11_compress_87 : decode cX11_compress 87 = .ok (.isub, 1) := by decide +kernel
theorem dX11_compress_88 : decode cX11_compress 88 = .ok (.invokevirtual 174, 3) := by decide +kernel
theorem dX11_compress_91 : decode cX11_compress 91 = .ok (.aload_n 0, 1) := by decide +kernel
theorem dX11_compress_92 : decode cX11_compress 92 = .ok (.iload_n 3, 1) := by decide +kernel
theorem dX11_compress_93 : decode cX11_compress 93 = .ok (.invokevirtual 174, 3) := by decide +kernel
theorem dX11_compress_96 : decode cX11_compress 96 = .ok (.iload_n 1, 1) := by decide +kernel
theorem dX11_compress_97 : decode cX11_compress 97 = .ok (.iload_n 2, 1) := by decide +kernel
theorem dX11_compress_98 : decode cX11_compress 98 = .ok (.iadd, 1) := by decide +kernel
theorem dX11_compress_99 : decode cX11_compress 99 = .ok (.istore_n 1, 1) := by decide +kernel
theorem dX11_compress_100 : decode cX11_compress 100 = .ok (.goto 18, 3) := by decide +kernel
theorem dX11_compress_103 : decode cX11_compress 103 = .ok (.aload_n 0, 1) := by decide +kernel
theorem dX11_compress_104 : decode cX11_compress 104 = .ok (.aload_n 0, 1) := by decide +kernel
theorem dX11_compress_105 : decode cX11_compress 105 = .ok (.getfield 71, 3) := by decide +kernel
theorem dX11_compress_108 : decode cX11_compress 108 = .ok (.iload_n 1, 1) := by decide +kernel
theorem dX11_compress_109 : decode cX11_compress 109 = .ok (.iaload, 1) := by decide +kernel
theorem dX11_compress_110 : decode cX11_compress 110 = .ok (.bipush 9, 2) := by decide +kernel
theorem dX11_compress_112 : decode cX11_compress 112 = .ok (.invokevirtual 168, 3) := by decide +kernel
theorem dX11_compress_115 : decode cX11_compress 115 = .ok (.iinc 1 1, 3) := by decide +kernel
theorem dX11_compress_118 : decode cX11_compress 118 = .ok (.goto (-106), 3) := by decide +kernel
theorem dX11_compress_121 : decode cX11_compress 121 = .ok (.aload_n 0, 1) := by decide +kernel
theorem dX11_compress_122 : decode cX11_compress 122 = .ok (.getfield 162, 3) := by decide +kernel
theorem dX11_compress_125 : decode cX11_compress 125 = .ok (.ifCond .le 11, 3) := by decide +kernel
theorem dX11_compress_128 : decode cX11_compress 128 = .ok (.aload_n 0, 1) := by decide +kernel
theorem dX11_compress_129 : decode cX11_compress 129 = .ok (.iconst 0, 1) := by decide +kernel
theorem dX11_compress_130 : decode cX11_compress 130 = .ok (.invokevirtual 165, 3) := by decide +kernel
theorem dX11_compress_133 : decode cX11_compress 133 = .ok (.goto (-12), 3) := by decide +kernel
theorem dX11_compress_136 : decode cX11_compress 136 = .ok (.return_, 1) := by decide +kernel
theorem dX11_pack_0 : decode cX11_pack 0 = .ok (.aload_n 0, 1) := by decide +kernel
theorem dX11_pack_1 : decode cX11_pack 1 = .ok (.aload_n 0, 1) := by decide +kernel
theorem dX11_pack_2 : decode cX11_pack 2 = .ok (.invokevirtual 94, 3) := by decide +kernel
theorem dX11_pack_5 : decode cX11_pack 5 = .ok (.ifCond .eq 7, 3) := by decide +kernel
theorem dX11_pack_8 : decode cX11_pack 8 = .ok (.iconst 1, 1) := by decide +kernel
theorem dX11_pack_9 : decode cX11_pack 9 = .ok (.goto 4, 3) := by decide +kernel
theorem dX11_pack_12 : decode cX11_pack 12 = .ok (.iconst 0, 1) := by decide +kernel
theorem dX11_pack_13 : decode cX11_pack 13 = .ok (.putfield 83, 3) := by decide +kernel
theorem dX11_pack_16 : decode cX11_pack 16 = .ok (.aload_n 0, 1) := by decide +kernel
theorem dX11_pack_17 : decode cX11_pack 17 = .ok (.getfield 83, 3) := by decide +kernel
theorem dX11_pack_20 : decode cX11_pack 20 = .ok (.ifCond .le 5, 3) := by decide +kernel
theorem dX11_pack_23 : decode cX11_pack 23 = .ok (.iconst 0, 1) := by decide +kernel
theorem dX11_pack_24 : decode cX11_pack 24 = .ok (.ireturn, 1) := by decide +kernel
theorem dX11_pack_25 : decode cX11_pack 25 = .ok (.aload_n 0, 1) := by decide +kernel
theorem dX11_pack_26 : decode cX11_pack 26 = .ok (.iconst 0, 1) := by decide +kernel
theorem dX11_pack_27 : decode cX11_pack 27 = .ok (.putfield 137, 3) := by decide +kernel
theorem dX11_pack_30 : decode cX11_pack 30 = .ok (.aload_n 0, 1) := by decide +kernel
theorem dX11_pack_31 : decode cX11_pack 31 = .ok (.iconst 0, 1) := by decide +kernel
theorem dX11_pack_32 : decode cX11_pack 32 = .ok (.putfield 143, 3) := by decide +kernel
theorem dX11_pack_35 : decode cX11_pack 35 = .ok (.aload_n 0, 1) := by decide +kernel
theorem dX11_pack_36 : decode cX11_pack 36 = .ok (.bipush 119, 2) := by decide +kernel
theorem dX11_pack_38 : decode cX11_pack 38 = .ok (.invokevirtual 140, 3) := by decide +kernel
theorem dX11_pack_41 : decode cX11_pack 41 = .ok (.aload_n 0, 1) := by decide +kernel
theorem dX11_pack_42 : decode cX11_pack 42 = .ok (.bipush 50, 2) := by decide +kernel
theorem dX11_pack_44 : decode cX11_pack 44 = .ok (.invokevirtual 140, 3) := by decide +kernel
theorem dX11_pack_47 : decode cX11_pack 47 = .ok (.aload_n 0, 1) := by decide +kernel
theorem dX11_pack_48 : decode cX11_pack 48 = .ok (.aload_n 0, 1) := by decide +kernel
theorem dX11_pack_49 : decode cX11_pack 49 = .ok (.invokevirtual 177, 3) := by decide +kernel
theorem dX11_pack_52 : decode cX11_pack 52 = .ok (.invokevirtual 140, 3) := by decide +kernel
theorem dX11_pack_55 : decode cX11_pack 55 = .ok (.iconst 0, 1) := by decide +kernel
theorem dX11_pack_56 : decode cX11_pack 56 = .ok (.istore_n 1, 1) := by decide +kernel
theorem dX11_pack_57 : decode cX11_pack 57 = .ok (.iload_n 1, 1) := by decide +kernel
theorem dX11_pack_58 : decode cX11_pack 58 = .ok (.bipush 7, 2) := by decide +kernel
theorem dX11_pack_60 : decode cX11_pack 60 = .ok (.if_icmp .ge 72, 3) := by decide +kernel
theorem dX11_pack_63 : decode cX11_pack 63 = .ok (.aload_n 0, 1) := by decide +kernel
theorem dX11_pack_64 : decode cX11_pack 64 = .ok (.iload_n 1, 1) := by decide +kernel
theorem dX11_pack_65 : decode cX11_pack 65 = .ok (.invokevirtual 104, 3) := by decide +kernel
theorem dX11_pack_68 : decode cX11_pack 68 = .ok (.ifCond .eq 58, 3) := by decide +kernel
theorem dX11_pack_71 : decode cX11_pack 71 = .ok (.aload_n 0, 1) := by decide +kernel
theorem dX11_pack_72 : decode cX11_pack 72 = .ok (.getfield 143, 3) := by decide +kernel
theorem dX11_pack_75 : decode cX11_pack 75 = .ok (.istore_n 2, 1) := by decide +kernel
theorem dX11_pack_76 : decode cX11_pack 76 = .ok (.aload_n 0, 1) := by decide +kernel
theorem dX11_pack_77 : decode cX11_pack 77 = .ok (.iload_n 1, 1) := by decide +kernel
theorem dX11_pack_78 : decode cX11_pack 78 = .ok (.invokevirtual 181, 3) := by decide +kernel
theorem dX11_pack_81 : decode cX11_pack 81 = .ok (.aload_n 0, 1) := by decide +kernel
theorem dX11_pack_82 : decode cX11_pack 82 = .ok (.iload_n 1, 1) := by decide +kernel
theorem dX11_pack_83 : decode cX11_pack 83 = .ok (.invokevirtual 184, 3) := by decide +kernel
theorem dX11_pack_86 : decode cX11_pack 86 = .ok (.aload_n 0, 1) := by decide +kernel
theorem dX11_pack_87 : decode cX11_pack 87 = .ok (.iload_n 1, 1) := by decide +kernel
theorem dX11_pack_88 : decode cX11_pack 88 = .ok (.iconst 2, 1) := by decide +kernel
theorem dX11_pack_89 : decode cX11_pack 89 = .ok (.if_icmp .ge 10, 3) := by decide +kernel
theorem dX11_pack_92 : decode cX11_pack 92 = .ok (.bipush 64, 2) := by decide +kernel
theorem dX11_pack_94 : decode cX11_pack 94 = .ok (.iload_n 1, 1) := by decide +kernel
theorem dX11_pack_95 : decode cX11_pack 95 = .ok (.iadd, 1) := by decide +kernel
theorem dX11_pack_96 : decode cX11_pack 96 = .ok (.goto 4, 3) := by decide +kernel
theorem dX11_pack_99 : decode cX11_pack 99 = .ok (.iload_n 1, 1) := by decide +kernel
theorem dX11_pack_100 : decode cX11_pack 100 = .ok (.invokevirtual 140, 3) := by decide +kernel
theorem dX11_pack_103 : decode cX11_pack 103 = .ok (.aload_n 0, 1) := by decide +kernel
theorem dX11_pack_104 : decode cX11_pack 104 = .ok (.aload_n 0, 1) := by decide +kernel
theorem dX11_pack_105 : decode cX11_pack 105 = .ok (.getfield 107, 3) := by decide +kernel
theorem dX11_pack_108 : decode cX11_pack 108 = .ok (.invokevirtual 187, 3) := by decide +kernel
theorem dX11_pack_111 : decode cX11_pack 111 = .ok (.iload_n 1, 1) := by decide +kernel
theorem dX11_pack_112 : decode cX11_pack 112 = .ok (.iconst 2, 1) := by decide +kernel
theorem dX11_pack_113 : decode cX11_pack 113 = .ok (.if_icmp .ge 13, 3) := by decide +kernel
theorem dX11_pack_116 : decode cX11_pack 116 = .ok (.aload_n 0, 1) := by decide +kernel
theorem dX11_pack_117 : decode cX11_pack 117 = .ok (.aload_n 0, 1) := by decide +kernel
theorem dX11_pack_118 : decode cX11_pack 118 = .ok (.getfield 143, 3) := by decide +kernel
theorem dX11_pack_121 : decode cX11_pack 121 = .ok (.iload_n 2, 1) := by decide +kernel
theorem dX11_pack_122 : decode cX11_pack 122 = .ok (.isub, 1) := by decide +kernel
theorem dX11_pack_123 : decode cX11_pack 123 = .ok (.invokevirtual 187, 3) := by decide +kernel
theorem dX11_pack_126 : decode cX11_pack 126 = .ok (.iinc 1 1, 3) := by decide +kernel
theorem dX11_pack_129 : decode cX11_pack 129 = .ok (.goto (-72), 3) := by decide +kernel
theorem dX11_pack_132 : decode cX11_pack 132 = .ok (.aload_n 0, 1) := by decide +kernel
theorem dX11_pack_133 : decode cX11_pack 133 = .ok (.aload_n 0, 1) := by decide +kernel
theorem dX11_pack_134 : decode cX11_pack 134 = .ok (.getfield 143, 3) := by decide +kernel
theorem dX11_pack_137 : decode cX11_pack 137 = .ok (.invokevirtual 187, 3) := by decide +kernel
theorem dX11_pack_140 : decode cX11_pack 140 = .ok (.aload_n 0, 1) := by decide +kernel
theorem dX11_pack_141 : decode cX11_pack 141 = .ok (.invokevirtual 190, 3) := by decide +kernel
theorem dX11_pack_144 : decode cX11_pack 144 = .ok (.aload_n 0, 1) := by decide +kernel
theorem dX11_pack_145 : decode cX11_pack 145 = .ok (.getfield 137, 3) := by decide +kernel
theorem dX11_pack_148 : decode cX11_pack 148 = .ok (.ireturn, 1) := by decide +kernel
theorem dX11_addFour_0 : decode cX11_addFour 0 = .ok (.iconst 3, 1) := by decide +kernel
theorem dX11_addFour_1 : decode cX11_addFour 1 = .ok (.istore_n 3, 1) := by decide +kernel
theorem dX11_addFour_2 : decode cX11_addFour 2 = .ok (.iload_n 3, 1) := by decide +kernel
theorem dX11_addFour_3 : decode cX11_addFour 3 = .ok (.ifCond .lt 24, 3) := by decide +kernel
theorem dX11_addFour_6 : decode cX11_addFour 6 = .ok (.aload_n 0, 1) := by decide +kernel
theorem dX11_addFour_7 : decode cX11_addFour 7 = .ok (.lload_n 1, 1) := by decide +kernel
theorem dX11_addFour_8 : decode cX11_addFour 8 = .ok (.bipush 8, 2) := by decide +kernel
theorem dX11_addFour_10 : decode cX11_addFour 10 = .ok (.iload_n 3, 1) := by decide +kernel
theorem dX11_addFour_11 : decode cX11_addFour 11 = .ok (.imul, 1) := by decide +kernel
theorem dX11_addFour_12 : decode cX11_addFour 12 = .ok (.lshr, 1) := by decide +kernel
theorem dX11_addFour_13 : decode cX11_addFour 13 = .ok (.ldc2_w 102, 3) := by decide +kernel
theorem dX11_addFour_16 : decode cX11_addFour 16 = .ok (.land, 1) := by decide +kernel
theorem dX11_addFour_17 : decode cX11_addFour 17 = .ok (.l2i, 1) := by decide +kernel
theorem dX11_addFour_18 : decode cX11_addFour 18 = .ok (.invokevirtual 140, 3) := by decide +kernel
theorem dX11_addFour_21 : decode cX11_addFour 21 = .ok (.iinc 3 (-1), 3) := by decide +kernel
theorem dX11_addFour_24 : decode cX11_addFour 24 = .ok (.goto (-22), 3) := by decide +kernel
theorem dX11_addFour_27 : decode cX11_addFour 27 = .ok (.return_, 1) := by decide +kernel
theorem dX11_plain_0 : decode cX11_plain 0 = .ok (.aload_n 0, 1) := by decide +kernel
theorem dX11_plain_1 : decode cX11_plain 1 = .ok (.aload_n 0, 1) := by decide +kernel
theorem dX11_plain_2 : decode cX11_plain 2 = .ok (.invokevirtual 94, 3) := by decide +kernel
theorem dX11_plain_5 : decode cX11_plain 5 = .ok (.ifCond .eq 7, 3) := by decide +kernel
theorem dX11_plain_8 : decode cX11_plain 8 = .ok (.iconst 1, 1) := by decide +kernel
theorem dX11_plain_9 : decode cX11_plain 9 = .ok (.goto 4, 3) := by decide +kernel
theorem dX11_plain_12 : decode cX11_plain 12 = .ok (.iconst 0, 1) := by decide +kernel
theorem dX11_plain_13 : decode cX11_plain 13 = .ok (.putfield 83, 3) := by decide +kernel
theorem dX11_plain_16 : decode cX11_plain 16 = .ok (.aload_n 0, 1) := by decide +kernel
theorem dX11_plain_17 : decode cX11_plain 17 = .ok (.getfield 83, 3) := by decide +kernel
theorem dX11_plain_20 : decode cX11_plain 20 = .ok (.ifCond .le 5, 3) := by decide +kernel
theorem dX11_plain_23 : decode cX11_plain 23 = .ok (.iconst 0, 1) := by decide +kernel
theorem dX11_plain_24 : decode cX11_plain 24 = .ok (.ireturn, 1) := by decide +kernel
theorem dX11_plain_25 : decode cX11_plain 25 = .ok (.aload_n 0, 1) := by decide +kernel
theorem dX11_plain_26 : decode cX11_plain 26 = .ok (.iconst 0, 1) := by decide +kernel
theorem dX11_plain_27 : decode cX11_plain 27 = .ok (.putfield 137, 3) := by decide +kernel
theorem dX11_plain_30 : decode cX11_plain 30 = .ok (.iconst 1, 1) := by decide +kernel
theorem dX11_plain_31 : decode cX11_plain 31 = .ok (.bipush 9, 2) := by decide +kernel
theorem dX11_plain_33 : decode cX11_plain 33 = .ok (.aload_n 0, 1) := by decide +kernel
theorem dX11_plain_34 : decode cX11_plain 34 = .ok (.invokevirtual 177, 3) := by decide +kernel
theorem dX11_plain_37 : decode cX11_plain 37 = .ok (.imul, 1) := by decide +kernel
theorem dX11_plain_38 : decode cX11_plain 38 = .ok (.iadd, 1) := by decide +kernel
theorem dX11_plain_39 : decode cX11_plain 39 = .ok (.istore_n 1, 1) := by decide +kernel
theorem dX11_plain_40 : decode cX11_plain 40 = .ok (.aload_n 0, 1) := by decide +kernel
theorem dX11_plain_41 : decode cX11_plain 41 = .ok (.aload_n 0, 1) := by decide +kernel
theorem dX11_plain_42 : decode cX11_plain 42 = .ok (.invokevirtual 177, 3) := by decide +kernel
theorem dX11_plain_45 : decode cX11_plain 45 = .ok (.invokevirtual 140, 3) := by decide +kernel
theorem dX11_plain_48 : decode cX11_plain 48 = .ok (.iconst 0, 1) := by decide +kernel
theorem dX11_plain_49 : decode cX11_plain 49 = .ok (.istore_n 2, 1) := by decide +kernel
theorem dX11_plain_50 : decode cX11_plain 50 = .ok (.iload_n 2, 1) := by decide +kernel
theorem dX11_plain_51 : decode cX11_plain 51 = .ok (.bipush 7, 2) := by decide +kernel
theorem dX11_plain_53 : decode cX11_plain 53 = .ok (.if_icmp .ge 158, 3) := by decide +kernel
theorem dX11_plain_56 : decode cX11_plain 56 = .ok (.aload_n 0, 1) := by decide +kernel
theorem dX11_plain_57 : decode cX11_plain 57 = .ok (.iload_n 2, 1) := by decide +kernel
theorem dX11_plain_58 : decode cX11_plain 58 = .ok (.invokevirtual 104, 3) := by decide +kernel
theorem dX11_plain_61 : decode cX11_plain 61 = .ok (.ifCond .eq 144, 3) := by decide +kernel
theorem dX11_plain_64 : decode cX11_plain 64 = .ok (.aload_n 0, 1) := by decide +kernel
theorem dX11_plain_65 : decode cX11_plain 65 = .ok (.iload_n 2, 1) := by decide +kernel
theorem dX11_plain_66 : decode cX11_plain 66 = .ok (.invokevirtual 184, 3) := by decide +kernel
theorem dX11_plain_69 : decode cX11_plain 69 = .ok (.aload_n 0, 1) := by decide +kernel
theorem dX11_plain_70 : decode cX11_plain 70 = .ok (.getfield 107, 3) := by decide +kernel
theorem dX11_plain_73 : decode cX11_plain 73 = .ok (.istore_n 3, 1) := by decide +kernel
theorem dX11_plain_74 : decode cX11_plain 74 = .ok (.aload_n 0, 1) := by decide +kernel
theorem dX11_plain_75 : decode cX11_plain 75 = .ok (.getfield 107, 3) := by decide +kernel
theorem dX11_plain_78 : decode cX11_plain 78 = .ok (.iconst 4, 1) := by decide +kernel
theorem dX11_plain_79 : decode cX11_plain 79 = .ok (.irem, 1) := by decide +kernel
theorem dX11_plain_80 : decode cX11_plain 80 = .ok (.ifCond .eq 11, 3) := by decide +kernel
theorem dX11_plain_83 : decode cX11_plain 83 = .ok (.aload_n 0, 1) := by decide +kernel
theorem dX11_plain_84 : decode cX11_plain 84 = .ok (.iconst 0, 1) := by decide +kernel
theorem dX11_plain_85 : decode cX11_plain 85 = .ok (.invokevirtual 121, 3) := by decide +kernel
theorem dX11_plain_88 : decode cX11_plain 88 = .ok (.goto (-14), 3) := by decide +kernel
theorem dX11_plain_91 : decode cX11_plain 91 = .ok (.lconst 0, 1) := by decide +kernel
theorem dX11_plain_92 : decode cX11_plain 92 = .ok (.lstore 4, 2) := by decide +kernel
theorem dX11_plain_94 : decode cX11_plain 94 = .ok (.iconst 0, 1) := by decide +kernel
theorem dX11_plain_95 : decode cX11_plain 95 = .ok (.istore 6, 2) := by decide +kernel
theorem dX11_plain_97 : decode cX11_plain 97 = .ok (.iload 6, 2) := by decide +kernel
theorem dX11_plain_99 : decode cX11_plain 99 = .ok (.aload_n 0, 1) := by decide +kernel
theorem dX11_plain_100 : decode cX11_plain 100 = .ok (.getfield 107, 3) := by decide +kernel
theorem dX11_plain_103 : decode cX11_plain 103 = .ok (.if_icmp .ge 67, 3) := by decide +kernel
theorem dX11_plain_106 : decode cX11_plain 106 = .ok (.lload 4, 2) := by decide +kernel
theorem dX11_plain_108 : decode cX11_plain 108 = .ok (.aload_n 0, 1) := by decide +kernel
theorem dX11_plain_109 : decode cX11_plain 109 = .ok (.getfield 74, 3) := by decide +kernel
theorem dX11_plain_112 : decode cX11_plain 112 = .ok (.iload 6, 2) := by decide +kernel
theorem dX11_plain_114 : decode cX11_plain 114 = .ok (.iaload, 1) := by decide +kernel
theorem dX11_plain_115 : decode cX11_plain 115 = .ok (.i2l, 1) := by decide +kernel
theorem dX11_plain_116 : decode cX11_plain 116 = .ok (.ldc2_w 193, 3) := by decide +kernel
theorem dX11_plain_119 : decode cX11_plain 119 = .ok (.lmul, 1) := by decide +kernel
theorem dX11_plain_120 : decode cX11_plain 120 = .ok (.aload_n 0, 1) := by decide +kernel
theorem dX11_plain_121 : decode cX11_plain 121 = .ok (.getfield 74, 3) := by decide +kernel
theorem dX11_plain_124 : decode cX11_plain 124 = .ok (.iload 6, 2) := by decide +kernel
theorem dX11_plain_126 : decode cX11_plain 126 = .ok (.iconst 1, 1) := by decide +kernel
theorem dX11_plain_127 : decode cX11_plain 127 = .ok (.iadd, 1) := by decide +kernel
theorem dX11_plain_128 : decode cX11_plain 128 = .ok (.iaload, 1) := by decide +kernel
theorem dX11_plain_129 : decode cX11_plain 129 = .ok (.i2l, 1) := by decide +kernel
theorem dX11_plain_130 : decode cX11_plain 130 = .ok (.ladd, 1) := by decide +kernel
theorem dX11_plain_131 : decode cX11_plain 131 = .ok (.ldc2_w 193, 3) := by decide +kernel
theorem dX11_plain_134 : decode cX11_plain 134 = .ok (.lmul, 1) := by decide +kernel
theorem dX11_plain_135 : decode cX11_plain 135 = .ok (.aload_n 0, 1) := by decide +kernel
theorem dX11_plain_136 : decode cX11_plain 136 = .ok (.getfield 74, 3) := by decide +kernel
theorem dX11_plain_139 : decode cX11_plain 139 = .ok (.iload 6, 2) := by decide +kernel
theorem dX11_plain_141 : decode cX11_plain 141 = .ok (.iconst 2, 1) := by decide +kernel
theorem dX11_plain_142 : decode cX11_plain 142 = .ok (.iadd, 1) := by decide +kernel
theorem dX11_plain_143 : decode cX11_plain 143 = .ok (.iaload, 1) := by decide +kernel
theorem dX11_plain_144 : decode cX11_plain 144 = .ok (.i2l, 1) := by decide +kernel
theorem dX11_plain_145 : decode cX11_plain 145 = .ok (.ladd, 1) := by decide +kernel
theorem dX11_plain_146 : decode cX11_plain 146 = .ok (.ldc2_w 193, 3) := by decide +kernel
theorem dX11_plain_149 : decode cX11_plain 149 = .ok (.lmul, 1) := by decide +kernel
theorem dX11_plain_150 : decode cX11_plain 150 = .ok (.aload_n 0, 1) := by decide +kernel
theorem dX11_plain_151 : decode cX11_plain 151 = .ok (.getfield 74, 3) := by decide +kernel
theorem dX11_plain_154 : decode cX11_plain 154 = .ok (.iload 6, 2) := by decide +kernel
theorem dX11_plain_156 : decode cX11_plain 156 = .ok (.iconst 3, 1) := by decide +kernel
theorem dX11_plain_157 : decode cX11_plain 157 = .ok (.iadd, 1) := by decide +kernel
theorem dX11_plain_158 : decode cX11_plain 158 = .ok (.iaload, 1) := by decide +kernel
theorem dX11_plain_159 : decode cX11_plain 159 = .ok (.i2l, 1) := by decide +kernel
theorem dX11_plain_160 : decode cX11_plain 160 = .ok (.ladd, 1) := by decide +kernel
theorem dX11_plain_161 : decode cX11_plain 161 = .ok (.ladd, 1) := by decide +kernel
theorem dX11_plain_162 : decode cX11_plain 162 = .ok (.lstore 4, 2) := by decide +kernel
theorem dX11_plain_164 : decode cX11_plain 164 = .ok (.iinc 6 4, 3) := by decide +kernel
theorem dX11_plain_167 : decode cX11_plain 167 = .ok (.goto (-70), 3) := by decide +kernel
theorem dX11_plain_170 : decode cX11_plain 170 = .ok (.aload_n 0, 1) := by decide +kernel
theorem dX11_plain_171 : decode cX11_plain 171 = .ok (.iload_n 2, 1) := by decide +kernel
theorem dX11_plain_172 : decode cX11_plain 172 = .ok (.invokevirtual 140, 3) := by decide +kernel
theorem dX11_plain_175 : decode cX11_plain 175 = .ok (.aload_n 0, 1) := by decide +kernel
theorem dX11_plain_176 : decode cX11_plain 176 = .ok (.lload 4, 2) := by decide +kernel
theorem dX11_plain_178 : decode cX11_plain 178 = .ok (.ldc2_w 195, 3) := by decide +kernel
theorem dX11_plain_181 : decode cX11_plain 181 = .ok (.lrem, 1) := by decide +kernel
theorem dX11_plain_182 : decode cX11_plain 182 = .ok (.invokevirtual 197, 3) := by decide +kernel
theorem dX11_plain_185 : decode cX11_plain 185 = .ok (.aload_n 0, 1) := by decide +kernel
theorem dX11_plain_186 : decode cX11_plain 186 = .ok (.iload_n 1, 1) := by decide +kernel
theorem dX11_plain_187 : decode cX11_plain 187 = .ok (.i2l, 1) := by decide +kernel
theorem dX11_plain_188 : decode cX11_plain 188 = .ok (.ldc2_w 201, 3) := by decide +kernel
theorem dX11_plain_191 : decode cX11_plain 191 = .ok (.lmul, 1) := by decide +kernel
theorem dX11_plain_192 : decode cX11_plain 192 = .ok (.iload_n 3, 1) := by decide +kernel
theorem dX11_plain_193 : decode cX11_plain 193 = .ok (.i2l, 1) := by decide +kernel
theorem dX11_plain_194 : decode cX11_plain 194 = .ok (.ladd, 1) := by decide +kernel
theorem dX11_plain_195 : decode cX11_plain 195 = .ok (.invokevirtual 197, 3) := by decide +kernel
theorem dX11_plain_198 : decode cX11_plain 198 = .ok (.iload_n 1, 1) := by decide +kernel
theorem dX11_plain_199 : decode cX11_plain 199 = .ok (.aload_n 0, 1) := by decide +kernel
theorem dX11_plain_200 : decode cX11_plain 200 = .ok (.getfield 107, 3) := by decide +kernel
theorem dX11_plain_203 : decode cX11_plain 203 = .ok (.iadd, 1) := by decide +kernel
theorem dX11_plain_204 : decode cX11_plain 204 = .ok (.istore_n 1, 1) := by decide +kernel
theorem dX11_plain_205 : decode cX11_plain 205 = .ok (.iinc 2 1, 3) := by decide +kernel
theorem dX11_plain_208 : decode cX11_plain 208 = .ok (.goto (-158), 3) := by decide +kernel
theorem dX11_plain_211 : decode cX11_plain 211 = .ok (.iconst 0, 1) := by decide +kernel
theorem dX11_plain_212 : decode cX11_plain 212 = .ok (.istore_n 2, 1) := by decide +kernel
theorem dX11_plain_213 : decode cX11_plain 213 = .ok (.iload_n 2, 1) := by decide +kernel
theorem dX11_plain_214 : decode cX11_plain 214 = .ok (.bipush 7, 2) := by decide +kernel
theorem dX11_plain_216 : decode cX11_plain 216 = .ok (.if_icmp .ge 65, 3) := by decide +kernel
theorem dX11_plain_219 : decode cX11_plain 219 = .ok (.aload_n 0, 1) := by decide +kernel
theorem dX11_plain_220 : decode cX11_plain 220 = .ok (.iload_n 2, 1) := by decide +kernel
theorem dX11_plain_221 : decode cX11_plain 221 = .ok (.invokevirtual 104, 3) := by decide +kernel
theorem dX11_plain_224 : decode cX11_plain 224 = .ok (.ifCond .eq 51, 3) := by decide +kernel
theorem dX11_plain_227 : decode cX11_plain 227 = .ok (.aload_n 0, 1) := by decide +kernel
theorem dX11_plain_228 : decode cX11_plain 228 = .ok (.iload_n 2, 1) := by decide +kernel
theorem dX11_plain_229 : decode cX11_plain 229 = .ok (.invokevirtual 184, 3) := by decide +kernel
theorem dX11_plain_232 : decode cX11_plain 232 = .ok (.aload_n 0, 1) := by decide +kernel
theorem dX11_plain_233 : decode cX11_plain 233 = .ok (.getfield 107, 3) := by decide +kernel
theorem dX11_plain_236 : decode cX11_plain 236 = .ok (.iconst 4, 1) := by decide +kernel
theorem dX11_plain_237 : decode cX11_plain 237 = .ok (.irem, 1) := by decide +kernel
theorem dX11_plain_238 : decode cX11_plain 238 = .ok (.ifCond .eq 11, 3) := by decide +kernel
theorem dX11_plain_241 : decode cX11_plain 241 = .ok (.aload_n 0, 1) := by decide +kernel
theorem dX11_plain_242 : decode cX11_plain 242 = .ok (.iconst 0, 1) := by decide +kernel
theorem dX11_plain_243 : decode cX11_plain 243 = .ok (.invokevirtual 121, 3) := by decide +kernel
theorem dX11_plain_246 : decode cX11_plain 246 = .ok (.goto (-14), 3) := by decide +kernel
theorem dX11_plain_249 : decode cX11_plain 249 = .ok (.iconst 0, 1) := by decide +kernel
theorem dX11_plain_250 : decode cX11_plain 250 = .ok (.istore_n 3, 1) := by decide +kernel
theorem dX11_plain_251 : decode cX11_plain 251 = .ok (.iload_n 3, 1) := by decide +kernel
theorem dX11_plain_252 : decode cX11_plain 252 = .ok (.aload_n 0, 1) := by decide +kernel
theorem dX11_plain_253 : decode cX11_plain 253 = .ok (.getfield 107, 3) := by decide +kernel
theorem dX11_plain_256 : decode cX11_plain 256 = .ok (.if_icmp .ge 19, 3) := by decide +kernel
theorem dX11_plain_259 : decode cX11_plain 259 = .ok (.aload_n 0, 1) := by decide +kernel
theorem dX11_plain_260 : decode cX11_plain 260 = .ok (.aload_n 0, 1) := by decide +kernel
theorem dX11_plain_261 : decode cX11_plain 261 = .ok (.getfield 74, 3) := by decide +kernel
theorem dX11_plain_264 : decode cX11_plain 264 = .ok (.iload_n 3, 1) := by decide +kernel
theorem dX11_plain_265 : decode cX11_plain 265 = .ok (.iaload, 1) := by decide +kernel
theorem dX11_plain_266 : decode cX11_plain 266 = .ok (.invokevirtual 140, 3) := by decide +kernel
theorem dX11_plain_269 : decode cX11_plain 269 = .ok (.iinc 3 1, 3) := by decide +kernel
theorem dX11_plain_272 : decode cX11_plain 272 = .ok (.goto (-21), 3) := by decide +kernel
theorem dX11_plain_275 : decode cX11_plain 275 = .ok (.iinc 2 1, 3) := by decide +kernel
end
section
theorem dX11_plain_278 : decode cX11_plain 278 = .ok (.goto (-65), 3) := by decide +kernel
theorem dX11_plain_281 : decode cX11_plain 281 = .ok (.aload_n 0, 1) := by decide +kernel
theorem dX11_plain_282 : decode cX11_plain 282 = .ok (.getfield 137, 3) := by decide +kernel
theorem dX11_plain_285 : decode cX11_plain 285 = .ok (.ireturn, 1) := by decide +kernel
theorem dX11_next_0 : decode cX11_next 0 = .ok (.aload_n 0, 1) := by decide +kernel
theorem dX11_next_1 : decode cX11_next 1 = .ok (.getfield 203, 3) := by decide +kernel
theorem dX11_next_4 : decode cX11_next 4 = .ok (.aload_n 0, 1) := by decide +kernel
theorem dX11_next_5 : decode cX11_next 5 = .ok (.getfield 206, 3) := by decide +kernel
theorem dX11_next_8 : decode cX11_next 8 = .ok (.if_icmp .ge 10, 3) := by decide +kernel
theorem dX11_next_11 : decode cX11_next 11 = .ok (.aload_n 0, 1) := by decide +kernel
theorem dX11_next_12 : decode cX11_next 12 = .ok (.getfield 209, 3) := by decide +kernel
theorem dX11_next_15 : decode cX11_next 15 = .ok (.ifCond .eq 10, 3) := by decide +kernel
theorem dX11_next_18 : decode cX11_next 18 = .ok (.aload_n 0, 1) := by decide +kernel
theorem dX11_next_19 : decode cX11_next 19 = .ok (.iconst 1, 1) := by decide +kernel
theorem dX11_next_20 : decode cX11_next 20 = .ok (.putfield 209, 3) := by decide +kernel
theorem dX11_next_23 : decode cX11_next 23 = .ok (.iconst 0, 1) := by decide +kernel
theorem dX11_next_24 : decode cX11_next 24 = .ok (.ireturn, 1) := by decide +kernel
theorem dX11_next_25 : decode cX11_next 25 = .ok (.aload_n 0, 1) := by decide +kernel
theorem dX11_next_26 : decode cX11_next 26 = .ok (.dup, 1) := by decide +kernel
theorem dX11_next_27 : decode cX11_next 27 = .ok (.getfield 203, 3) := by decide +kernel
theorem dX11_next_30 : decode cX11_next 30 = .ok (.iconst 1, 1) := by decide +kernel
theorem dX11_next_31 : decode cX11_next 31 = .ok (.iadd, 1) := by decide +kernel
theorem dX11_next_32 : decode cX11_next 32 = .ok (.putfield 203, 3) := by decide +kernel
theorem dX11_next_35 : decode cX11_next 35 = .ok (.aload_n 0, 1) := by decide +kernel
theorem dX11_next_36 : decode cX11_next 36 = .ok (.getfield 213, 3) := by decide +kernel
theorem dX11_next_39 : decode cX11_next 39 = .ok (.ifCond .eq 17, 3) := by decide +kernel
theorem dX11_next_42 : decode cX11_next 42 = .ok (.aload_n 0, 1) := by decide +kernel
theorem dX11_next_43 : decode cX11_next 43 = .ok (.getfield 71, 3) := by decide +kernel
theorem dX11_next_46 : decode cX11_next 46 = .ok (.aload_n 0, 1) := by decide +kernel
theorem dX11_next_47 : decode cX11_next 47 = .ok (.getfield 203, 3) := by decide +kernel
theorem dX11_next_50 : decode cX11_next 50 = .ok (.iconst 1, 1) := by decide +kernel
theorem dX11_next_51 : decode cX11_next 51 = .ok (.isub, 1) := by decide +kernel
theorem dX11_next_52 : decode cX11_next 52 = .ok (.iaload, 1) := by decide +kernel
theorem dX11_next_53 : decode cX11_next 53 = .ok (.goto 14, 3) := by decide +kernel
theorem dX11_next_56 : decode cX11_next 56 = .ok (.aload_n 0, 1) := by decide +kernel
theorem dX11_next_57 : decode cX11_next 57 = .ok (.getfield 68, 3) := by decide +kernel
theorem dX11_next_60 : decode cX11_next 60 = .ok (.aload_n 0, 1) := by decide +kernel
theorem dX11_next_61 : decode cX11_next 61 = .ok (.getfield 203, 3) := by decide +kernel
theorem dX11_next_64 : decode cX11_next 64 = .ok (.iconst 1, 1) := by decide +kernel
theorem dX11_next_65 : decode cX11_next 65 = .ok (.isub, 1) := by decide +kernel
theorem dX11_next_66 : decode cX11_next 66 = .ok (.iaload, 1) := by decide +kernel
theorem dX11_next_67 : decode cX11_next 67 = .ok (.ireturn, 1) := by decide +kernel
theorem dX11_check_0 : decode cX11_check 0 = .ok (.aload_n 0, 1) := by decide +kernel
theorem dX11_check_1 : decode cX11_check 1 = .ok (.aload_n 0, 1) := by decide +kernel
theorem dX11_check_2 : decode cX11_check 2 = .ok (.getfield 209, 3) := by decide +kernel
theorem dX11_check_5 : decode cX11_check 5 = .ok (.ifCond .ne 7, 3) := by decide +kernel
theorem dX11_check_8 : decode cX11_check 8 = .ok (.iload_n 1, 1) := by decide +kernel
theorem dX11_check_9 : decode cX11_check 9 = .ok (.ifCond .ne 7, 3) := by decide +kernel
theorem dX11_check_12 : decode cX11_check 12 = .ok (.iconst 1, 1) := by decide +kernel
theorem dX11_check_13 : decode cX11_check 13 = .ok (.goto 4, 3) := by decide +kernel
theorem dX11_check_16 : decode cX11_check 16 = .ok (.iconst 0, 1) := by decide +kernel
theorem dX11_check_17 : decode cX11_check 17 = .ok (.putfield 209, 3) := by decide +kernel
theorem dX11_check_20 : decode cX11_check 20 = .ok (.return_, 1) := by decide +kernel
theorem dX11_nextShort_0 : decode cX11_nextShort 0 = .ok (.aload_n 0, 1) := by decide +kernel
theorem dX11_nextShort_1 : decode cX11_nextShort 1 = .ok (.invokevirtual 216, 3) := by decide +kernel
theorem dX11_nextShort_4 : decode cX11_nextShort 4 = .ok (.istore_n 1, 1) := by decide +kernel
theorem dX11_nextShort_5 : decode cX11_nextShort 5 = .ok (.iload_n 1, 1) := by decide +kernel
theorem dX11_nextShort_6 : decode cX11_nextShort 6 = .ok (.sipush 253, 3) := by decide +kernel
theorem dX11_nextShort_9 : decode cX11_nextShort 9 = .ok (.if_icmp .ge 5, 3) := by decide +kernel
theorem dX11_nextShort_12 : decode cX11_nextShort 12 = .ok (.iload_n 1, 1) := by decide +kernel
theorem dX11_nextShort_13 : decode cX11_nextShort 13 = .ok (.ireturn, 1) := by decide +kernel
theorem dX11_nextShort_14 : decode cX11_nextShort 14 = .ok (.aload_n 0, 1) := by decide +kernel
theorem dX11_nextShort_15 : decode cX11_nextShort 15 = .ok (.invokevirtual 216, 3) := by decide +kernel
theorem dX11_nextShort_18 : decode cX11_nextShort 18 = .ok (.istore_n 2, 1) := by decide +kernel
theorem dX11_nextShort_19 : decode cX11_nextShort 19 = .ok (.iload_n 1, 1) := by decide +kernel
theorem dX11_nextShort_20 : decode cX11_nextShort 20 = .ok (.sipush 253, 3) := by decide +kernel
theorem dX11_nextShort_23 : decode cX11_nextShort 23 = .ok (.if_icmp .ne 16, 3) := by decide +kernel
theorem dX11_nextShort_26 : decode cX11_nextShort 26 = .ok (.sipush 256, 3) := by decide +kernel
theorem dX11_nextShort_29 : decode cX11_nextShort 29 = .ok (.iload_n 2, 1) := by decide +kernel
theorem dX11_nextShort_30 : decode cX11_nextShort 30 = .ok (.imul, 1) := by decide +kernel
theorem dX11_nextShort_31 : decode cX11_nextShort 31 = .ok (.aload_n 0, 1) := by decide +kernel
theorem dX11_nextShort_32 : decode cX11_nextShort 32 = .ok (.invokevirtual 216, 3) := by decide +kernel
theorem dX11_nextShort_35 : decode cX11_nextShort 35 = .ok (.iadd, 1) := by decide +kernel
theorem dX11_nextShort_36 : decode cX11_nextShort 36 = .ok (.goto 23, 3) := by decide +kernel
theorem dX11_nextShort_39 : decode cX11_nextShort 39 = .ok (.iload_n 1, 1) := by decide +kernel
theorem dX11_nextShort_40 : decode cX11_nextShort 40 = .ok (.sipush 254, 3) := by decide +kernel
theorem dX11_nextShort_43 : decode cX11_nextShort 43 = .ok (.if_icmp .ne 11, 3) := by decide +kernel
theorem dX11_nextShort_46 : decode cX11_nextShort 46 = .ok (.sipush 506, 3) := by decide +kernel
theorem dX11_nextShort_49 : decode cX11_nextShort 49 = .ok (.iload_n 2, 1) := by decide +kernel
theorem dX11_nextShort_50 : decode cX11_nextShort 50 = .ok (.iadd, 1) := by decide +kernel
theorem dX11_nextShort_51 : decode cX11_nextShort 51 = .ok (.goto 8, 3) := by decide +kernel
theorem dX11_nextShort_54 : decode cX11_nextShort 54 = .ok (.sipush 253, 3) := by decide +kernel
theorem dX11_nextShort_57 : decode cX11_nextShort 57 = .ok (.iload_n 2, 1) := by decide +kernel
theorem dX11_nextShort_58 : decode cX11_nextShort 58 = .ok (.iadd, 1) := by decide +kernel
theorem dX11_nextShort_59 : decode cX11_nextShort 59 = .ok (.ireturn, 1) := by decide +kernel
theorem dX11_nextLong_0 : decode cX11_nextLong 0 = .ok (.aload_n 0, 1) := by decide +kernel
theorem dX11_nextLong_1 : decode cX11_nextLong 1 = .ok (.invokevirtual 216, 3) := by decide +kernel
theorem dX11_nextLong_4 : decode cX11_nextLong 4 = .ok (.istore_n 1, 1) := by decide +kernel
theorem dX11_nextLong_5 : decode cX11_nextLong 5 = .ok (.aload_n 0, 1) := by decide +kernel
theorem dX11_nextLong_6 : decode cX11_nextLong 6 = .ok (.iload_n 1, 1) := by decide +kernel
theorem dX11_nextLong_7 : decode cX11_nextLong 7 = .ok (.sipush 128, 3) := by decide +kernel
theorem dX11_nextLong_10 : decode cX11_nextLong 10 = .ok (.if_icmp .eq 7, 3) := by decide +kernel
theorem dX11_nextLong_13 : decode cX11_nextLong 13 = .ok (.iconst 1, 1) := by decide +kernel
theorem dX11_nextLong_14 : decode cX11_nextLong 14 = .ok (.goto 4, 3) := by decide +kernel
theorem dX11_nextLong_17 : decode cX11_nextLong 17 = .ok (.iconst 0, 1) := by decide +kernel
theorem dX11_nextLong_18 : decode cX11_nextLong 18 = .ok (.invokevirtual 219, 3) := by decide +kernel
theorem dX11_nextLong_21 : decode cX11_nextLong 21 = .ok (.iload_n 1, 1) := by decide +kernel
theorem dX11_nextLong_22 : decode cX11_nextLong 22 = .ok (.sipush 128, 3) := by decide +kernel
theorem dX11_nextLong_25 : decode cX11_nextLong 25 = .ok (.irem, 1) := by decide +kernel
theorem dX11_nextLong_26 : decode cX11_nextLong 26 = .ok (.istore_n 2, 1) := by decide +kernel
theorem dX11_nextLong_27 : decode cX11_nextLong 27 = .ok (.iconst 1, 1) := by decide +kernel
theorem dX11_nextLong_28 : decode cX11_nextLong 28 = .ok (.istore_n 3, 1) := by decide +kernel
theorem dX11_nextLong_29 : decode cX11_nextLong 29 = .ok (.iload_n 3, 1) := by decide +kernel
theorem dX11_nextLong_30 : decode cX11_nextLong 30 = .ok (.iconst 3, 1) := by decide +kernel
theorem dX11_nextLong_31 : decode cX11_nextLong 31 = .ok (.if_icmp .ge 32, 3) := by decide +kernel
theorem dX11_nextLong_34 : decode cX11_nextLong 34 = .ok (.iload_n 1, 1) := by decide +kernel
theorem dX11_nextLong_35 : decode cX11_nextLong 35 = .ok (.bipush 127, 2) := by decide +kernel
theorem dX11_nextLong_37 : decode cX11_nextLong 37 = .ok (.if_icmp .le 26, 3) := by decide +kernel
theorem dX11_nextLong_40 : decode cX11_nextLong 40 = .ok (.aload_n 0, 1) := by decide +kernel
theorem dX11_nextLong_41 : decode cX11_nextLong 41 = .ok (.invokevirtual 216, 3) := by decide +kernel
theorem dX11_nextLong_44 : decode cX11_nextLong 44 = .ok (.istore_n 1, 1) := by decide +kernel
theorem dX11_nextLong_45 : decode cX11_nextLong 45 = .ok (.sipush 128, 3) := by decide +kernel
theorem dX11_nextLong_48 : decode cX11_nextLong 48 = .ok (.iload_n 2, 1) := by decide +kernel
theorem dX11_nextLong_49 : decode cX11_nextLong 49 = .ok (.imul, 1) := by decide +kernel
theorem dX11_nextLong_50 : decode cX11_nextLong 50 = .ok (.iload_n 1, 1) := by decide +kernel
theorem dX11_nextLong_51 : decode cX11_nextLong 51 = .ok (.sipush 128, 3) := by decide +kernel
theorem dX11_nextLong_54 : decode cX11_nextLong 54 = .ok (.irem, 1) := by decide +kernel
theorem dX11_nextLong_55 : decode cX11_nextLong 55 = .ok (.iadd, 1) := by decide +kernel
theorem dX11_nextLong_56 : decode cX11_nextLong 56 = .ok (.istore_n 2, 1) := by decide +kernel
theorem dX11_nextLong_57 : decode cX11_nextLong 57 = .ok (.iinc 3 1, 3) := by decide +kernel
theorem dX11_nextLong_60 : decode cX11_nextLong 60 = .ok (.goto (-31), 3) := by decide +kernel
theorem dX11_nextLong_63 : decode cX11_nextLong 63 = .ok (.aload_n 0, 1) := by decide +kernel
theorem dX11_nextLong_64 : decode cX11_nextLong 64 = .ok (.iload_n 1, 1) := by decide +kernel
theorem dX11_nextLong_65 : decode cX11_nextLong 65 = .ok (.sipush 128, 3) := by decide +kernel
theorem dX11_nextLong_68 : decode cX11_nextLong 68 = .ok (.if_icmp .ge 7, 3) := by decide +kernel
theorem dX11_nextLong_71 : decode cX11_nextLong 71 = .ok (.iconst 1, 1) := by decide +kernel
theorem dX11_nextLong_72 : decode cX11_nextLong 72 = .ok (.goto 4, 3) := by decide +kernel
theorem dX11_nextLong_75 : decode cX11_nextLong 75 = .ok (.iconst 0, 1) := by decide +kernel
theorem dX11_nextLong_76 : decode cX11_nextLong 76 = .ok (.invokevirtual 219, 3) := by decide +kernel
theorem dX11_nextLong_79 : decode cX11_nextLong 79 = .ok (.iload_n 2, 1) := by decide +kernel
theorem dX11_nextLong_80 : decode cX11_nextLong 80 = .ok (.ireturn, 1) := by decide +kernel
theorem dX11_head_0 : decode cX11_head 0 = .ok (.aload_n 0, 1) := by decide +kernel
theorem dX11_head_1 : decode cX11_head 1 = .ok (.iconst 0, 1) := by decide +kernel
theorem dX11_head_2 : decode cX11_head 2 = .ok (.putfield 203, 3) := by decide +kernel
theorem dX11_head_5 : decode cX11_head 5 = .ok (.aload_n 0, 1) := by decide +kernel
theorem dX11_head_6 : decode cX11_head 6 = .ok (.aload_n 0, 1) := by decide +kernel
theorem dX11_head_7 : decode cX11_head 7 = .ok (.getfield 137, 3) := by decide +kernel
theorem dX11_head_10 : decode cX11_head 10 = .ok (.putfield 206, 3) := by decide +kernel
theorem dX11_head_13 : decode cX11_head 13 = .ok (.aload_n 0, 1) := by decide +kernel
theorem dX11_head_14 : decode cX11_head 14 = .ok (.iconst 0, 1) := by decide +kernel
theorem dX11_head_15 : decode cX11_head 15 = .ok (.putfield 213, 3) := by decide +kernel
theorem dX11_head_18 : decode cX11_head 18 = .ok (.aload_n 0, 1) := by decide +kernel
theorem dX11_head_19 : decode cX11_head 19 = .ok (.aload_n 0, 1) := by decide +kernel
theorem dX11_head_20 : decode cX11_head 20 = .ok (.invokevirtual 216, 3) := by decide +kernel
theorem dX11_head_23 : decode cX11_head 23 = .ok (.bipush 119, 2) := by decide +kernel
theorem dX11_head_25 : decode cX11_head 25 = .ok (.if_icmp .ne 7, 3) := by decide +kernel
theorem dX11_head_28 : decode cX11_head 28 = .ok (.iconst 1, 1) := by decide +kernel
theorem dX11_head_29 : decode cX11_head 29 = .ok (.goto 4, 3) := by decide +kernel
theorem dX11_head_32 : decode cX11_head 32 = .ok (.iconst 0, 1) := by decide +kernel
theorem dX11_head_33 : decode cX11_head 33 = .ok (.invokevirtual 219, 3) := by decide +kernel
theorem dX11_head_36 : decode cX11_head 36 = .ok (.aload_n 0, 1) := by decide +kernel
theorem dX11_head_37 : decode cX11_head 37 = .ok (.aload_n 0, 1) := by decide +kernel
theorem dX11_head_38 : decode cX11_head 38 = .ok (.invokevirtual 216, 3) := by decide +kernel
theorem dX11_head_41 : decode cX11_head 41 = .ok (.bipush 50, 2) := by decide +kernel
theorem dX11_head_43 : decode cX11_head 43 = .ok (.if_icmp .ne 7, 3) := by decide +kernel
theorem dX11_head_46 : decode cX11_head 46 = .ok (.iconst 1, 1) := by decide +kernel
theorem dX11_head_47 : decode cX11_head 47 = .ok (.goto 4, 3) := by decide +kernel
theorem dX11_head_50 : decode cX11_head 50 = .ok (.iconst 0, 1) := by decide +kernel
theorem dX11_head_51 : decode cX11_head 51 = .ok (.invokevirtual 219, 3) := by decide +kernel
theorem dX11_head_54 : decode cX11_head 54 = .ok (.aload_n 0, 1) := by decide +kernel
theorem dX11_head_55 : decode cX11_head 55 = .ok (.invokevirtual 216, 3) := by decide +kernel
theorem dX11_head_58 : decode cX11_head 58 = .ok (.istore_n 1, 1) := by decide +kernel
theorem dX11_head_59 : decode cX11_head 59 = .ok (.aload_n 0, 1) := by decide +kernel
theorem dX11_head_60 : decode cX11_head 60 = .ok (.iload_n 1, 1) := by decide +kernel
theorem dX11_head_61 : decode cX11_head 61 = .ok (.bipush 7, 2) := by decide +kernel
theorem dX11_head_63 : decode cX11_head 63 = .ok (.if_icmp .gt 7, 3) := by decide +kernel
theorem dX11_head_66 : decode cX11_head 66 = .ok (.iconst 1, 1) := by decide +kernel
theorem dX11_head_67 : decode cX11_head 67 = .ok (.goto 4, 3) := by decide +kernel
theorem dX11_head_70 : decode cX11_head 70 = .ok (.iconst 0, 1) := by decide +kernel
theorem dX11_head_71 : decode cX11_head 71 = .ok (.invokevirtual 219, 3) := by decide +kernel
theorem dX11_head_74 : decode cX11_head 74 = .ok (.iconst 0, 1) := by decide +kernel
theorem dX11_head_75 : decode cX11_head 75 = .ok (.istore_n 2, 1) := by decide +kernel
theorem dX11_head_76 : decode cX11_head 76 = .ok (.iload_n 2, 1) := by decide +kernel
theorem dX11_head_77 : decode cX11_head 77 = .ok (.bipush 7, 2) := by decide +kernel
theorem dX11_head_79 : decode cX11_head 79 = .ok (.if_icmp .ge 23, 3) := by decide +kernel
theorem dX11_head_82 : decode cX11_head 82 = .ok (.aload_n 0, 1) := by decide +kernel
theorem dX11_head_83 : decode cX11_head 83 = .ok (.getfield 77, 3) := by decide +kernel
theorem dX11_head_86 : decode cX11_head 86 = .ok (.iload_n 2, 1) := by decide +kernel
theorem dX11_head_87 : decode cX11_head 87 = .ok (.iconst (-1), 1) := by decide +kernel
theorem dX11_head_88 : decode cX11_head 88 = .ok (.iastore, 1) := by decide +kernel
theorem dX11_head_89 : decode cX11_head 89 = .ok (.aload_n 0, 1) := by decide +kernel
theorem dX11_head_90 : decode cX11_head 90 = .ok (.getfield 80, 3) := by decide +kernel
theorem dX11_head_93 : decode cX11_head 93 = .ok (.iload_n 2, 1) := by decide +kernel
theorem dX11_head_94 : decode cX11_head 94 = .ok (.iconst 0, 1) := by decide +kernel
theorem dX11_head_95 : decode cX11_head 95 = .ok (.iastore, 1) := by decide +kernel
theorem dX11_head_96 : decode cX11_head 96 = .ok (.iinc 2 1, 3) := by decide +kernel
theorem dX11_head_99 : decode cX11_head 99 = .ok (.goto (-23), 3) := by decide +kernel
theorem dX11_head_102 : decode cX11_head 102 = .ok (.iconst (-1), 1) := by decide +kernel
theorem dX11_head_103 : decode cX11_head 103 = .ok (.istore_n 2, 1) := by decide +kernel
theorem dX11_head_104 : decode cX11_head 104 = .ok (.iconst 0, 1) := by decide +kernel
theorem dX11_head_105 : decode cX11_head 105 = .ok (.istore_n 3, 1) := by decide +kernel
theorem dX11_head_106 : decode cX11_head 106 = .ok (.iconst 0, 1) := by decide +kernel
theorem dX11_head_107 : decode cX11_head 107 = .ok (.istore 4, 2) := by decide +kernel
theorem dX11_head_109 : decode cX11_head 109 = .ok (.iload 4, 2) := by decide +kernel
theorem dX11_head_111 : decode cX11_head 111 = .ok (.iload_n 1, 1) := by decide +kernel
theorem dX11_head_112 : decode cX11_head 112 = .ok (.if_icmp .ge 187, 3) := by decide +kernel
theorem dX11_head_115 : decode cX11_head 115 = .ok (.aload_n 0, 1) := by decide +kernel
theorem dX11_head_116 : decode cX11_head 116 = .ok (.getfield 209, 3) := by decide +kernel
theorem dX11_head_119 : decode cX11_head 119 = .ok (.ifCond .ne 180, 3) := by decide +kernel
theorem dX11_head_122 : decode cX11_head 122 = .ok (.aload_n 0, 1) := by decide +kernel
theorem dX11_head_123 : decode cX11_head 123 = .ok (.invokevirtual 216, 3) := by decide +kernel
theorem dX11_head_126 : decode cX11_head 126 = .ok (.istore 5, 2) := by decide +kernel
theorem dX11_head_128 : decode cX11_head 128 = .ok (.iload 5, 2) := by decide +kernel
theorem dX11_head_130 : decode cX11_head 130 = .ok (.bipush 64, 2) := by decide +kernel
theorem dX11_head_132 : decode cX11_head 132 = .ok (.if_icmp .lt 11, 3) := by decide +kernel
theorem dX11_head_135 : decode cX11_head 135 = .ok (.iload 5, 2) := by decide +kernel
theorem dX11_head_137 : decode cX11_head 137 = .ok (.bipush 64, 2) := by decide +kernel
theorem dX11_head_139 : decode cX11_head 139 = .ok (.isub, 1) := by decide +kernel
theorem dX11_head_140 : decode cX11_head 140 = .ok (.goto 5, 3) := by decide +kernel
theorem dX11_head_143 : decode cX11_head 143 = .ok (.iload 5, 2) := by decide +kernel
theorem dX11_head_145 : decode cX11_head 145 = .ok (.istore 6, 2) := by decide +kernel
theorem dX11_head_147 : decode cX11_head 147 = .ok (.aload_n 0, 1) := by decide +kernel
theorem dX11_head_148 : decode cX11_head 148 = .ok (.iload 6, 2) := by decide +kernel
theorem dX11_head_150 : decode cX11_head 150 = .ok (.iload_n 2, 1) := by decide +kernel
theorem dX11_head_151 : decode cX11_head 151 = .ok (.if_icmp .le 40, 3) := by decide +kernel
theorem dX11_head_154 : decode cX11_head 154 = .ok (.iload 6, 2) := by decide +kernel
theorem dX11_head_156 : decode cX11_head 156 = .ok (.bipush 6, 2) := by decide +kernel
theorem dX11_head_158 : decode cX11_head 158 = .ok (.if_icmp .gt 33, 3) := by decide +kernel
theorem dX11_head_161 : decode cX11_head 161 = .ok (.iload 5, 2) := by decide +kernel
theorem dX11_head_163 : decode cX11_head 163 = .ok (.bipush 64, 2) := by decide +kernel
theorem dX11_head_165 : decode cX11_head 165 = .ok (.if_icmp .lt 7, 3) := by decide +kernel
theorem dX11_head_168 : decode cX11_head 168 = .ok (.iconst 1, 1) := by decide +kernel
theorem dX11_head_169 : decode cX11_head 169 = .ok (.goto 4, 3) := by decide +kernel
theorem dX11_head_172 : decode cX11_head 172 = .ok (.iconst 0, 1) := by decide +kernel
theorem dX11_head_173 : decode cX11_head 173 = .ok (.iload 6, 2) := by decide +kernel
theorem dX11_head_175 : decode cX11_head 175 = .ok (.iconst 2, 1) := by decide +kernel
theorem dX11_head_176 : decode cX11_head 176 = .ok (.if_icmp .ge 7, 3) := by decide +kernel
theorem dX11_head_179 : decode cX11_head 179 = .ok (.iconst 1, 1) := by decide +kernel
theorem dX11_head_180 : decode cX11_head 180 = .ok (.goto 4, 3) := by decide +kernel
theorem dX11_head_183 : decode cX11_head 183 = .ok (.iconst 0, 1) := by decide +kernel
theorem dX11_head_184 : decode cX11_head 184 = .ok (.if_icmp .ne 7, 3) := by decide +kernel
theorem dX11_head_187 : decode cX11_head 187 = .ok (.iconst 1, 1) := by decide +kernel
theorem dX11_head_188 : decode cX11_head 188 = .ok (.goto 4, 3) := by decide +kernel
theorem dX11_head_191 : decode cX11_head 191 = .ok (.iconst 0, 1) := by decide +kernel
theorem dX11_head_192 : decode cX11_head 192 = .ok (.invokevirtual 219, 3) := by decide +kernel
theorem dX11_head_195 : decode cX11_head 195 = .ok (.aload_n 0, 1) := by decide +kernel
theorem dX11_head_196 : decode cX11_head 196 = .ok (.getfield 209, 3) := by decide +kernel
theorem dX11_head_199 : decode cX11_head 199 = .ok (.ifCond .eq 5, 3) := by decide +kernel
theorem dX11_head_202 : decode cX11_head 202 = .ok (.iconst 0, 1) := by decide +kernel
theorem dX11_head_203 : decode cX11_head 203 = .ok (.ireturn, 1) := by decide +kernel
theorem dX11_head_204 : decode cX11_head 204 = .ok (.aload_n 0, 1) := by decide +kernel
theorem dX11_head_205 : decode cX11_head 205 = .ok (.getfield 77, 3) := by decide +kernel
theorem dX11_head_208 : decode cX11_head 208 = .ok (.iload 6, 2) := by decide +kernel
theorem dX11_head_210 : decode cX11_head 210 = .ok (.aload_n 0, 1) := by decide +kernel
theorem dX11_head_211 : decode cX11_head 211 = .ok (.invokevirtual 223, 3) := by decide +kernel
theorem dX11_head_214 : decode cX11_head 214 = .ok (.iastore, 1) := by decide +kernel
theorem dX11_head_215 : decode cX11_head 215 = .ok (.aload_n 0, 1) := by decide +kernel
theorem dX11_head_216 : decode cX11_head 216 = .ok (.getfield 80, 3) := by decide +kernel
theorem dX11_head_219 : decode cX11_head 219 = .ok (.iload 6, 2) := by decide +kernel
theorem dX11_head_221 : decode cX11_head 221 = .ok (.iload 6, 2) := by decide +kernel
theorem dX11_head_223 : decode cX11_head 223 = .ok (.iconst 2, 1) := by decide +kernel
theorem dX11_head_224 : decode cX11_head 224 = .ok (.if_icmp .ge 10, 3) := by decide +kernel
theorem dX11_head_227 : decode cX11_head 227 = .ok (.aload_n 0, 1) := by decide +kernel
theorem dX11_head_228 : decode cX11_head 228 = .ok (.invokevirtual 223, 3) := by decide +kernel
theorem dX11_head_231 : decode cX11_head 231 = .ok (.goto 10, 3) := by decide +kernel
theorem dX11_head_234 : decode cX11_head 234 = .ok (.aload_n 0, 1) := by decide +kernel
theorem dX11_head_235 : decode cX11_head 235 = .ok (.getfield 77, 3) := by decide +kernel
theorem dX11_head_238 : decode cX11_head 238 = .ok (.iload 6, 2) := by decide +kernel
theorem dX11_head_240 : decode cX11_head 240 = .ok (.iaload, 1) := by decide +kernel
theorem dX11_head_241 : decode cX11_head 241 = .ok (.iastore, 1) := by decide +kernel
theorem dX11_head_242 : decode cX11_head 242 = .ok (.aload_n 0, 1) := by decide +kernel
theorem dX11_head_243 : decode cX11_head 243 = .ok (.iload 6, 2) := by decide +kernel
theorem dX11_head_245 : decode cX11_head 245 = .ok (.iconst 2, 1) := by decide +kernel
theorem dX11_head_246 : decode cX11_head 246 = .ok (.if_icmp .lt 26, 3) := by decide +kernel
theorem dX11_head_249 : decode cX11_head 249 = .ok (.aload_n 0, 1) := by decide +kernel
theorem dX11_head_250 : decode cX11_head 250 = .ok (.getfield 77, 3) := by decide +kernel
theorem dX11_head_253 : decode cX11_head 253 = .ok (.iload 6, 2) := by decide +kernel
theorem dX11_head_255 : decode cX11_head 255 = .ok (.iaload, 1) := by decide +kernel
theorem dX11_head_256 : decode cX11_head 256 = .ok (.iconst 1, 1) := by decide +kernel
theorem dX11_head_257 : decode cX11_head 257 = .ok (.if_icmp .lt 19, 3) := by decide +kernel
theorem dX11_head_260 : decode cX11_head 260 = .ok (.aload_n 0, 1) := by decide +kernel
theorem dX11_head_261 : decode cX11_head 261 = .ok (.getfield 77, 3) := by decide +kernel
theorem dX11_head_264 : decode cX11_head 264 = .ok (.iload 6, 2) := by decide +kernel
theorem dX11_head_266 : decode cX11_head 266 = .ok (.iaload, 1) := by decide +kernel
theorem dX11_head_267 : decode cX11_head 267 = .ok (.bipush 20, 2) := by decide +kernel
theorem dX11_head_269 : decode cX11_head 269 = .ok (.if_icmp .gt 7, 3) := by decide +kernel
theorem dX11_head_272 : decode cX11_head 272 = .ok (.iconst 1, 1) := by decide +kernel
theorem dX11_head_273 : decode cX11_head 273 = .ok (.goto 4, 3) := by decide +kernel
theorem dX11_head_276 : decode cX11_head 276 = .ok (.iconst 0, 1) := by decide +kernel
theorem dX11_head_277 : decode cX11_head 277 = .ok (.invokevirtual 219, 3) := by decide +kernel
theorem dX11_head_280 : decode cX11_head 280 = .ok (.iload_n 3, 1) := by decide +kernel
theorem dX11_head_281 : decode cX11_head 281 = .ok (.aload_n 0, 1) := by decide +kernel
theorem dX11_head_282 : decode cX11_head 282 = .ok (.getfield 80, 3) := by decide +kernel
theorem dX11_head_285 : decode cX11_head 285 = .ok (.iload 6, 2) := by decide +kernel
theorem dX11_head_287 : decode cX11_head 287 = .ok (.iaload, 1) := by decide +kernel
theorem dX11_head_288 : decode cX11_head 288 = .ok (.iadd, 1) := by decide +kernel
theorem dX11_head_289 : decode cX11_head 289 = .ok (.istore_n 3, 1) := by decide +kernel
theorem dX11_head_290 : decode cX11_head 290 = .ok (.iload 6, 2) := by decide +kernel
theorem dX11_head_292 : decode cX11_head 292 = .ok (.istore_n 2, 1) := by decide +kernel
theorem dX11_head_293 : decode cX11_head 293 = .ok (.iinc 4 1, 3) := by decide +kernel
theorem dX11_head_296 : decode cX11_head 296 = .ok (.goto (-187), 3) := by decide +kernel
theorem dX11_head_299 : decode cX11_head 299 = .ok (.aload_n 0, 1) := by decide +kernel
theorem dX11_head_300 : decode cX11_head 300 = .ok (.aload_n 0, 1) := by decide +kernel
theorem dX11_head_301 : decode cX11_head 301 = .ok (.getfield 77, 3) := by decide +kernel
theorem dX11_head_304 : decode cX11_head 304 = .ok (.iconst 0, 1) := by decide +kernel
theorem dX11_head_305 : decode cX11_head 305 = .ok (.iaload, 1) := by decide +kernel
theorem dX11_head_306 : decode cX11_head 306 = .ok (.ifCond .ge 7, 3) := by decide +kernel
theorem dX11_head_309 : decode cX11_head 309 = .ok (.iconst 1, 1) := by decide +kernel
theorem dX11_head_310 : decode cX11_head 310 = .ok (.goto 4, 3) := by decide +kernel
theorem dX11_head_313 : decode cX11_head 313 = .ok (.iconst 0, 1) := by decide +kernel
theorem dX11_head_314 : decode cX11_head 314 = .ok (.aload_n 0, 1) := by decide +kernel
theorem dX11_head_315 : decode cX11_head 315 = .ok (.getfield 77, 3) := by decide +kernel
theorem dX11_head_318 : decode cX11_head 318 = .ok (.iconst 1, 1) := by decide +kernel
theorem dX11_head_319 : decode cX11_head 319 = .ok (.iaload, 1) := by decide +kernel
theorem dX11_head_320 : decode cX11_head 320 = .ok (.ifCond .ge 7, 3) := by decide +kernel
theorem dX11_head_323 : decode cX11_head 323 = .ok (.iconst 1, 1) := by decide +kernel
theorem dX11_head_324 : decode cX11_head 324 = .ok (.goto 4, 3) := by decide +kernel
theorem dX11_head_327 : decode cX11_head 327 = .ok (.iconst 0, 1) := by decide +kernel
theorem dX11_head_328 : decode cX11_head 328 = .ok (.if_icmp .ne 7, 3) := by decide +kernel
theorem dX11_head_331 : decode cX11_head 331 = .ok (.iconst 1, 1) := by decide +kernel
theorem dX11_head_332 : decode cX11_head 332 = .ok (.goto 4, 3) := by decide +kernel
theorem dX11_head_335 : decode cX11_head 335 = .ok (.iconst 0, 1) := by decide +kernel
theorem dX11_head_336 : decode cX11_head 336 = .ok (.invokevirtual 219, 3) := by decide +kernel
theorem dX11_head_339 : decode cX11_head 339 = .ok (.aload_n 0, 1) := by decide +kernel
theorem dX11_head_340 : decode cX11_head 340 = .ok (.getfield 209, 3) := by decide +kernel
theorem dX11_head_343 : decode cX11_head 343 = .ok (.ifCond .eq 7, 3) := by decide +kernel
theorem dX11_head_346 : decode cX11_head 346 = .ok (.iconst 0, 1) := by decide +kernel
theorem dX11_head_347 : decode cX11_head 347 = .ok (.goto 7, 3) := by decide +kernel
theorem dX11_head_350 : decode cX11_head 350 = .ok (.aload_n 0, 1) := by decide +kernel
theorem dX11_head_351 : decode cX11_head 351 = .ok (.invokevirtual 223, 3) := by decide +kernel
theorem dX11_head_354 : decode cX11_head 354 = .ok (.istore 4, 2) := by decide +kernel
theorem dX11_head_356 : decode cX11_head 356 = .ok (.aload_n 0, 1) := by decide +kernel
theorem dX11_head_357 : decode cX11_head 357 = .ok (.iload 4, 2) := by decide +kernel
theorem dX11_head_359 : decode cX11_head 359 = .ok (.iload_n 3, 1) := by decide +kernel
theorem dX11_head_360 : decode cX11_head 360 = .ok (.if_icmp .ne 15, 3) := by decide +kernel
theorem dX11_head_363 : decode cX11_head 363 = .ok (.iload 4, 2) := by decide +kernel
theorem dX11_head_365 : decode cX11_head 365 = .ok (.sipush 1000, 3) := by decide +kernel
theorem dX11_head_368 : decode cX11_head 368 = .ok (.if_icmp .gt 7, 3) := by decide +kernel
theorem dX11_head_371 : decode cX11_head 371 = .ok (.iconst 1, 1) := by decide +kernel
theorem dX11_head_372 : decode cX11_head 372 = .ok (.goto 4, 3) := by decide +kernel
theorem dX11_head_375 : decode cX11_head 375 = .ok (.iconst 0, 1) := by decide +kernel
theorem dX11_head_376 : decode cX11_head 376 = .ok (.invokevirtual 219, 3) := by decide +kernel
theorem dX11_head_379 : decode cX11_head 379 = .ok (.iload 4, 2) := by decide +kernel
theorem dX11_head_381 : decode cX11_head 381 = .ok (.ireturn, 1) := by decide +kernel
theorem dX11_nextBit_0 : decode cX11_nextBit 0 = .ok (.aload_n 0, 1) := by decide +kernel
theorem dX11_nextBit_1 : decode cX11_nextBit 1 = .ok (.getfield 226, 3) := by decide +kernel
theorem dX11_nextBit_4 : decode cX11_nextBit 4 = .ok (.ifCond .ne 17, 3) := by decide +kernel
theorem dX11_nextBit_7 : decode cX11_nextBit 7 = .ok (.aload_n 0, 1) := by decide +kernel
theorem dX11_nextBit_8 : decode cX11_nextBit 8 = .ok (.aload_n 0, 1) := by decide +kernel
theorem dX11_nextBit_9 : decode cX11_nextBit 9 = .ok (.invokevirtual 216, 3) := by decide +kernel
theorem dX11_nextBit_12 : decode cX11_nextBit 12 = .ok (.putfield 229, 3) := by decide +kernel
theorem dX11_nextBit_15 : decode cX11_nextBit 15 = .ok (.aload_n 0, 1) := by decide +kernel
theorem dX11_nextBit_16 : decode cX11_nextBit 16 = .ok (.bipush 8, 2) := by decide +kernel
theorem dX11_nextBit_18 : decode cX11_nextBit 18 = .ok (.putfield 226, 3) := by decide +kernel
theorem dX11_nextBit_21 : decode cX11_nextBit 21 = .ok (.aload_n 0, 1) := by decide +kernel
theorem dX11_nextBit_22 : decode cX11_nextBit 22 = .ok (.dup, 1) := by decide +kernel
theorem dX11_nextBit_23 : decode cX11_nextBit 23 = .ok (.getfield 226, 3) := by decide +kernel
theorem dX11_nextBit_26 : decode cX11_nextBit 26 = .ok (.iconst 1, 1) := by decide +kernel
theorem dX11_nextBit_27 : decode cX11_nextBit 27 = .ok (.isub, 1) := by decide +kernel
theorem dX11_nextBit_28 : decode cX11_nextBit 28 = .ok (.putfield 226, 3) := by decide +kernel
theorem dX11_nextBit_31 : decode cX11_nextBit 31 = .ok (.aload_n 0, 1) := by decide +kernel
theorem dX11_nextBit_32 : decode cX11_nextBit 32 = .ok (.getfield 229, 3) := by decide +kernel
theorem dX11_nextBit_35 : decode cX11_nextBit 35 = .ok (.aload_n 0, 1) := by decide +kernel
theorem dX11_nextBit_36 : decode cX11_nextBit 36 = .ok (.getfield 226, 3) := by decide +kernel
theorem dX11_nextBit_39 : decode cX11_nextBit 39 = .ok (.ishr, 1) := by decide +kernel
theorem dX11_nextBit_40 : decode cX11_nextBit 40 = .ok (.iconst 1, 1) := by decide +kernel
theorem dX11_nextBit_41 : decode cX11_nextBit 41 = .ok (.iand, 1) := by decide +kernel
theorem dX11_nextBit_42 : decode cX11_nextBit 42 = .ok (.ireturn, 1) := by decide +kernel
theorem dX11_nextBits_0 : decode cX11_nextBits 0 = .ok (.iconst 0, 1) := by decide +kernel
theorem dX11_nextBits_1 : decode cX11_nextBits 1 = .ok (.istore_n 2, 1) := by decide +kernel
theorem dX11_nextBits_2 : decode cX11_nextBits 2 = .ok (.iconst 0, 1) := by decide +kernel
theorem dX11_nextBits_3 : decode cX11_nextBits 3 = .ok (.istore_n 3, 1) := by decide +kernel
theorem dX11_nextBits_4 : decode cX11_nextBits 4 = .ok (.iload_n 3, 1) := by decide +kernel
theorem dX11_nextBits_5 : decode cX11_nextBits 5 = .ok (.iload_n 1, 1) := by decide +kernel
theorem dX11_nextBits_6 : decode cX11_nextBits 6 = .ok (.if_icmp .ge 18, 3) := by decide +kernel
theorem dX11_nextBits_9 : decode cX11_nextBits 9 = .ok (.iconst 2, 1) := by decide +kernel
theorem dX11_nextBits_10 : decode cX11_nextBits 10 = .ok (.iload_n 2, 1) := by decide +kernel
theorem dX11_nextBits_11 : decode cX11_nextBits 11 = .ok (.imul, 1) := by decide +kernel
theorem dX11_nextBits_12 : decode cX11_nextBits 12 = .ok (.aload_n 0, 1) := by decide +kernel
theorem dX11_nextBits_13 : decode cX11_nextBits 13 = .ok (.invokevirtual 232, 3) := by decide +kernel
theorem dX11_nextBits_16 : decode cX11_nextBits 16 = .ok (.iadd, 1) := by decide +kernel
theorem dX11_nextBits_17 : decode cX11_nextBits 17 = .ok (.istore_n 2, 1) := by decide +kernel
theorem dX11_nextBits_18 : decode cX11_nextBits 18 = .ok (.iinc 3 1, 3) := by decide +kernel
theorem dX11_nextBits_21 : decode cX11_nextBits 21 = .ok (.goto (-17), 3) := by decide +kernel
theorem dX11_nextBits_24 : decode cX11_nextBits 24 = .ok (.iload_n 2, 1) := by decide +kernel
theorem dX11_nextBits_25 : decode cX11_nextBits 25 = .ok (.ireturn, 1) := by decide +kernel
theorem dX11_nextGamma_0 : decode cX11_nextGamma 0 = .ok (.iconst 0, 1) := by decide +kernel
theorem dX11_nextGamma_1 : decode cX11_nextGamma 1 = .ok (.istore_n 1, 1) := by decide +kernel
theorem dX11_nextGamma_2 : decode cX11_nextGamma 2 = .ok (.aload_n 0, 1) := by decide +kernel
theorem dX11_nextGamma_3 : decode cX11_nextGamma 3 = .ok (.getfield 209, 3) := by decide +kernel
theorem dX11_nextGamma_6 : decode cX11_nextGamma 6 = .ok (.ifCond .ne 31, 3) := by decide +kernel
theorem dX11_nextGamma_9 : decode cX11_nextGamma 9 = .ok (.aload_n 0, 1) := by decide +kernel
theorem dX11_nextGamma_10 : decode cX11_nextGamma 10 = .ok (.invokevirtual 232, 3) := by decide +kernel
theorem dX11_nextGamma_13 : decode cX11_nextGamma 13 = .ok (.ifCond .ne 24, 3) := by decide +kernel
theorem dX11_nextGamma_16 : decode cX11_nextGamma 16 = .ok (.iinc 1 1, 3) := by decide +kernel
theorem dX11_nextGamma_19 : decode cX11_nextGamma 19 = .ok (.aload_n 0, 1) := by decide +kernel
theorem dX11_nextGamma_20 : decode cX11_nextGamma 20 = .ok (.iload_n 1, 1) := by decide +kernel
theorem dX11_nextGamma_21 : decode cX11_nextGamma 21 = .ok (.bipush 16, 2) := by decide +kernel
theorem dX11_nextGamma_23 : decode cX11_nextGamma 23 = .ok (.if_icmp .ge 7, 3) := by decide +kernel
theorem dX11_nextGamma_26 : decode cX11_nextGamma 26 = .ok (.iconst 1, 1) := by decide +kernel
theorem dX11_nextGamma_27 : decode cX11_nextGamma 27 = .ok (.goto 4, 3) := by decide +kernel
theorem dX11_nextGamma_30 : decode cX11_nextGamma 30 = .ok (.iconst 0, 1) := by decide +kernel
theorem dX11_nextGamma_31 : decode cX11_nextGamma 31 = .ok (.invokevirtual 219, 3) := by decide +kernel
theorem dX11_nextGamma_34 : decode cX11_nextGamma 34 = .ok (.goto (-32), 3) := by decide +kernel
theorem dX11_nextGamma_37 : decode cX11_nextGamma 37 = .ok (.aload_n 0, 1) := by decide +kernel
theorem dX11_nextGamma_38 : decode cX11_nextGamma 38 = .ok (.getfield 209, 3) := by decide +kernel
theorem dX11_nextGamma_41 : decode cX11_nextGamma 41 = .ok (.ifCond .eq 7, 3) := by decide +kernel
theorem dX11_nextGamma_44 : decode cX11_nextGamma 44 = .ok (.iconst 0, 1) := by decide +kernel
theorem dX11_nextGamma_45 : decode cX11_nextGamma 45 = .ok (.goto 12, 3) := by decide +kernel
theorem dX11_nextGamma_48 : decode cX11_nextGamma 48 = .ok (.iconst 1, 1) := by decide +kernel
theorem dX11_nextGamma_49 : decode cX11_nextGamma 49 = .ok (.iload_n 1, 1) := by decide +kernel
theorem dX11_nextGamma_50 : decode cX11_nextGamma 50 = .ok (.ishl, 1) := by decide +kernel
theorem dX11_nextGamma_51 : decode cX11_nextGamma 51 = .ok (.aload_n 0, 1) := by decide +kernel
theorem dX11_nextGamma_52 : decode cX11_nextGamma 52 = .ok (.iload_n 1, 1) := by decide +kernel
theorem dX11_nextGamma_53 : decode cX11_nextGamma 53 = .ok (.invokevirtual 235, 3) := by decide +kernel
theorem dX11_nextGamma_56 : decode cX11_nextGamma 56 = .ok (.iadd, 1) := by decide +kernel
theorem dX11_nextGamma_57 : decode cX11_nextGamma 57 = .ok (.ireturn, 1) := by decide +kernel
theorem dX11_expand_0 : decode cX11_expand 0 = .ok (.aload_n 0, 1) := by decide +kernel
theorem dX11_expand_1 : decode cX11_expand 1 = .ok (.iconst 0, 1) := by decide +kernel
theorem dX11_expand_2 : decode cX11_expand 2 = .ok (.putfield 226, 3) := by decide +kernel
theorem dX11_expand_5 : decode cX11_expand 5 = .ok (.aload_n 0, 1) := by decide +kernel
theorem dX11_expand_6 : decode cX11_expand 6 = .ok (.iconst 0, 1) := by decide +kernel
theorem dX11_expand_7 : decode cX11_expand 7 = .ok (.putfield 143, 3) := by decide +kernel
theorem dX11_expand_10 : decode cX11_expand 10 = .ok (.aload_n 0, 1) := by decide +kernel
theorem dX11_expand_11 : decode cX11_expand 11 = .ok (.getfield 143, 3) := by decide +kernel
theorem dX11_expand_14 : decode cX11_expand 14 = .ok (.iload_n 1, 1) := by decide +kernel
theorem dX11_expand_15 : decode cX11_expand 15 = .ok (.if_icmp .ge 119, 3) := by decide +kernel
theorem dX11_expand_18 : decode cX11_expand 18 = .ok (.aload_n 0, 1) := by decide +kernel
theorem dX11_expand_19 : decode cX11_expand 19 = .ok (.getfield 209, 3) := by decide +kernel
theorem dX11_expand_22 : decode cX11_expand 22 = .ok (.ifCond .ne 112, 3) := by decide +kernel
theorem dX11_expand_25 : decode cX11_expand 25 = .ok (.aload_n 0, 1) := by decide +kernel
theorem dX11_expand_26 : decode cX11_expand 26 = .ok (.invokevirtual 232, 3) := by decide +kernel
theorem dX11_expand_29 : decode cX11_expand 29 = .ok (.ifCond .ne 16, 3) := by decide +kernel
theorem dX11_expand_32 : decode cX11_expand 32 = .ok (.aload_n 0, 1) := by decide +kernel
theorem dX11_expand_33 : decode cX11_expand 33 = .ok (.aload_n 0, 1) := by decide +kernel
theorem dX11_expand_34 : decode cX11_expand 34 = .ok (.bipush 8, 2) := by decide +kernel
theorem dX11_expand_36 : decode cX11_expand 36 = .ok (.invokevirtual 235, 3) := by decide +kernel
theorem dX11_expand_39 : decode cX11_expand 39 = .ok (.invokevirtual 146, 3) := by decide +kernel
theorem dX11_expand_42 : decode cX11_expand 42 = .ok (.goto (-32), 3) := by decide +kernel
theorem dX11_expand_45 : decode cX11_expand 45 = .ok (.aload_n 0, 1) := by decide +kernel
theorem dX11_expand_46 : decode cX11_expand 46 = .ok (.invokevirtual 238, 3) := by decide +kernel
theorem dX11_expand_49 : decode cX11_expand 49 = .ok (.iconst 2, 1) := by decide +kernel
theorem dX11_expand_50 : decode cX11_expand 50 = .ok (.iadd, 1) := by decide +kernel
theorem dX11_expand_51 : decode cX11_expand 51 = .ok (.istore_n 2, 1) := by decide +kernel
theorem dX11_expand_52 : decode cX11_expand 52 = .ok (.aload_n 0, 1) := by decide +kernel
theorem dX11_expand_53 : decode cX11_expand 53 = .ok (.invokevirtual 238, 3) := by decide +kernel
theorem dX11_expand_56 : decode cX11_expand 56 = .ok (.istore_n 3, 1) := by decide +kernel
theorem dX11_expand_57 : decode cX11_expand 57 = .ok (.aload_n 0, 1) := by decide +kernel
theorem dX11_expand_58 : decode cX11_expand 58 = .ok (.iload_n 2, 1) := by decide +kernel
theorem dX11_expand_59 : decode cX11_expand 59 = .ok (.iconst 3, 1) := by decide +kernel
theorem dX11_expand_60 : decode cX11_expand 60 = .ok (.if_icmp .lt 30, 3) := by decide +kernel
theorem dX11_expand_63 : decode cX11_expand 63 = .ok (.iload_n 2, 1) := by decide +kernel
theorem dX11_expand_64 : decode cX11_expand 64 = .ok (.iload_n 1, 1) := by decide +kernel
theorem dX11_expand_65 : decode cX11_expand 65 = .ok (.aload_n 0, 1) := by decide +kernel
theorem dX11_expand_66 : decode cX11_expand 66 = .ok (.getfield 143, 3) := by decide +kernel
theorem dX11_expand_69 : decode cX11_expand 69 = .ok (.isub, 1) := by decide +kernel
theorem dX11_expand_70 : decode cX11_expand 70 = .ok (.if_icmp .gt 20, 3) := by decide +kernel
theorem dX11_expand_73 : decode cX11_expand 73 = .ok (.iload_n 3, 1) := by decide +kernel
theorem dX11_expand_74 : decode cX11_expand 74 = .ok (.iconst 1, 1) := by decide +kernel
theorem dX11_expand_75 : decode cX11_expand 75 = .ok (.if_icmp .lt 15, 3) := by decide +kernel
theorem dX11_expand_78 : decode cX11_expand 78 = .ok (.iload_n 3, 1) := by decide +kernel
theorem dX11_expand_79 : decode cX11_expand 79 = .ok (.aload_n 0, 1) := by decide +kernel
theorem dX11_expand_80 : decode cX11_expand 80 = .ok (.getfield 143, 3) := by decide +kernel
theorem dX11_expand_83 : decode cX11_expand 83 = .ok (.if_icmp .gt 7, 3) := by decide +kernel
theorem dX11_expand_86 : decode cX11_expand 86 = .ok (.iconst 1, 1) := by decide +kernel
theorem dX11_expand_87 : decode cX11_expand 87 = .ok (.goto 4, 3) := by decide +kernel
theorem dX11_expand_90 : decode cX11_expand 90 = .ok (.iconst 0, 1) := by decide +kernel
theorem dX11_expand_91 : decode cX11_expand 91 = .ok (.invokevirtual 219, 3) := by decide +kernel
theorem dX11_expand_94 : decode cX11_expand 94 = .ok (.iconst 0, 1) := by decide +kernel
theorem dX11_expand_95 : decode cX11_expand 95 = .ok (.istore 4, 2) := by decide +kernel
theorem dX11_expand_97 : decode cX11_expand 97 = .ok (.iload 4, 2) := by decide +kernel
theorem dX11_expand_99 : decode cX11_expand 99 = .ok (.iload_n 2, 1) := by decide +kernel
theorem dX11_expand_100 : decode cX11_expand 100 = .ok (.if_icmp .ge 31, 3) := by decide +kernel
theorem dX11_expand_103 : decode cX11_expand 103 = .ok (.aload_n 0, 1) := by decide +kernel
theorem dX11_expand_104 : decode cX11_expand 104 = .ok (.getfield 209, 3) := by decide +kernel
theorem dX11_expand_107 : decode cX11_expand 107 = .ok (.ifCond .ne 24, 3) := by decide +kernel
theorem dX11_expand_110 : decode cX11_expand 110 = .ok (.aload_n 0, 1) := by decide +kernel
theorem dX11_expand_111 : decode cX11_expand 111 = .ok (.aload_n 0, 1) := by decide +kernel
theorem dX11_expand_112 : decode cX11_expand 112 = .ok (.getfield 71, 3) := by decide +kernel
theorem dX11_expand_115 : decode cX11_expand 115 = .ok (.aload_n 0, 1) := by decide +kernel
theorem dX11_expand_116 : decode cX11_expand 116 = .ok (.getfield 143, 3) := by decide +kernel
theorem dX11_expand_119 : decode cX11_expand 119 = .ok (.iload_n 3, 1) := by decide +kernel
theorem dX11_expand_120 : decode cX11_expand 120 = .ok (.isub, 1) := by decide +kernel
theorem dX11_expand_121 : decode cX11_expand 121 = .ok (.iaload, 1) := by decide +kernel
theorem dX11_expand_122 : decode cX11_expand 122 = .ok (.invokevirtual 146, 3) := by decide +kernel
theorem dX11_expand_125 : decode cX11_expand 125 = .ok (.iinc 4 1, 3) := by decide +kernel
theorem dX11_expand_128 : decode cX11_expand 128 = .ok (.goto (-31), 3) := by decide +kernel
theorem dX11_expand_131 : decode cX11_expand 131 = .ok (.goto (-121), 3) := by decide +kernel
theorem dX11_expand_134 : decode cX11_expand 134 = .ok (.aload_n 0, 1) := by decide +kernel
theorem dX11_expand_135 : decode cX11_expand 135 = .ok (.getfield 226, 3) := by decide +kernel
theorem dX11_expand_138 : decode cX11_expand 138 = .ok (.ifCond .le 29, 3) := by decide +kernel
theorem dX11_expand_141 : decode cX11_expand 141 = .ok (.aload_n 0, 1) := by decide +kernel
theorem dX11_expand_142 : decode cX11_expand 142 = .ok (.getfield 209, 3) := by decide +kernel
theorem dX11_expand_145 : decode cX11_expand 145 = .ok (.ifCond .ne 22, 3) := by decide +kernel
theorem dX11_expand_148 : decode cX11_expand 148 = .ok (.aload_n 0, 1) := by decide +kernel
theorem dX11_expand_149 : decode cX11_expand 149 = .ok (.aload_n 0, 1) := by decide +kernel
theorem dX11_expand_150 : decode cX11_expand 150 = .ok (.invokevirtual 232, 3) := by decide +kernel
theorem dX11_expand_153 : decode cX11_expand 153 = .ok (.ifCond .ne 7, 3) := by decide +kernel
theorem dX11_expand_156 : decode cX11_expand 156 = .ok (.iconst 1, 1) := by decide +kernel
theorem dX11_expand_157 : decode cX11_expand 157 = .ok (.goto 4, 3) := by decide +kernel
theorem dX11_expand_160 : decode cX11_expand 160 = .ok (.iconst 0, 1) := by decide +kernel
theorem dX11_expand_161 : decode cX11_expand 161 = .ok (.invokevirtual 219, 3) := by decide +kernel
theorem dX11_expand_164 : decode cX11_expand 164 = .ok (.goto (-30), 3) := by decide +kernel
theorem dX11_expand_167 : decode cX11_expand 167 = .ok (.aload_n 0, 1) := by decide +kernel
theorem dX11_expand_168 : decode cX11_expand 168 = .ok (.aload_n 0, 1) := by decide +kernel
theorem dX11_expand_169 : decode cX11_expand 169 = .ok (.getfield 203, 3) := by decide +kernel
theorem dX11_expand_172 : decode cX11_expand 172 = .ok (.aload_n 0, 1) := by decide +kernel
theorem dX11_expand_173 : decode cX11_expand 173 = .ok (.getfield 206, 3) := by decide +kernel
theorem dX11_expand_176 : decode cX11_expand 176 = .ok (.if_icmp .ne 7, 3) := by decide +kernel
theorem dX11_expand_179 : decode cX11_expand 179 = .ok (.iconst 1, 1) := by decide +kernel
theorem dX11_expand_180 : decode cX11_expand 180 = .ok (.goto 4, 3) := by decide +kernel
theorem dX11_expand_183 : decode cX11_expand 183 = .ok (.iconst 0, 1) := by decide +kernel
theorem dX11_expand_184 : decode cX11_expand 184 = .ok (.invokevirtual 219, 3) := by decide +kernel
theorem dX11_expand_187 : decode cX11_expand 187 = .ok (.return_, 1) := by decide +kernel
theorem dX11_takeStep_0 : decode cX11_takeStep 0 = .ok (.aload_n 0, 1) := by decide +kernel
theorem dX11_takeStep_1 : decode cX11_takeStep 1 = .ok (.getfield 53, 3) := by decide +kernel
theorem dX11_takeStep_4 : decode cX11_takeStep 4 = .ok (.bipush 16, 2) := by decide +kernel
theorem dX11_takeStep_6 : decode cX11_takeStep 6 = .ok (.iload_n 1, 1) := by decide +kernel
theorem dX11_takeStep_7 : decode cX11_takeStep 7 = .ok (.imul, 1) := by decide +kernel
theorem dX11_takeStep_8 : decode cX11_takeStep 8 = .ok (.iload_n 2, 1) := by decide +kernel
theorem dX11_takeStep_9 : decode cX11_takeStep 9 = .ok (.iadd, 1) := by decide +kernel
theorem dX11_takeStep_10 : decode cX11_takeStep 10 = .ok (.iaload, 1) := by decide +kernel
theorem dX11_takeStep_11 : decode cX11_takeStep 11 = .ok (.sipush 128, 3) := by decide +kernel
theorem dX11_takeStep_14 : decode cX11_takeStep 14 = .ok (.irem, 1) := by decide +kernel
theorem dX11_takeStep_15 : decode cX11_takeStep 15 = .ok (.istore_n 3, 1) := by decide +kernel
theorem dX11_takeStep_16 : decode cX11_takeStep 16 = .ok (.aload_n 0, 1) := by decide +kernel
theorem dX11_takeStep_17 : decode cX11_takeStep 17 = .ok (.invokevirtual 216, 3) := by decide +kernel
theorem dX11_takeStep_20 : decode cX11_takeStep 20 = .ok (.istore 4, 2) := by decide +kernel
theorem dX11_takeStep_22 : decode cX11_takeStep 22 = .ok (.iconst 0, 1) := by decide +kernel
theorem dX11_takeStep_23 : decode cX11_takeStep 23 = .ok (.istore 5, 2) := by decide +kernel
theorem dX11_takeStep_25 : decode cX11_takeStep 25 = .ok (.iconst 0, 1) := by decide +kernel
theorem dX11_takeStep_26 : decode cX11_takeStep 26 = .ok (.istore 6, 2) := by decide +kernel
theorem dX11_takeStep_28 : decode cX11_takeStep 28 = .ok (.iload_n 3, 1) := by decide +kernel
theorem dX11_takeStep_29 : decode cX11_takeStep 29 = .ok (.iconst 2, 1) := by decide +kernel
theorem dX11_takeStep_30 : decode cX11_takeStep 30 = .ok (.irem, 1) := by decide +kernel
theorem dX11_takeStep_31 : decode cX11_takeStep 31 = .ok (.iconst 1, 1) := by decide +kernel
theorem dX11_takeStep_32 : decode cX11_takeStep 32 = .ok (.if_icmp .ne 7, 3) := by decide +kernel
theorem dX11_takeStep_35 : decode cX11_takeStep 35 = .ok (.iconst 1, 1) := by decide +kernel
theorem dX11_takeStep_36 : decode cX11_takeStep 36 = .ok (.goto 4, 3) := by decide +kernel
theorem dX11_takeStep_39 : decode cX11_takeStep 39 = .ok (.iconst 0, 1) := by decide +kernel
theorem dX11_takeStep_40 : decode cX11_takeStep 40 = .ok (.istore 7, 2) := by decide +kernel
theorem dX11_takeStep_42 : decode cX11_takeStep 42 = .ok (.iload_n 3, 1) := by decide +kernel
theorem dX11_takeStep_43 : decode cX11_takeStep 43 = .ok (.bipush 10, 2) := by decide +kernel
theorem dX11_takeStep_45 : decode cX11_takeStep 45 = .ok (.if_icmp .ge 18, 3) := by decide +kernel
theorem dX11_takeStep_48 : decode cX11_takeStep 48 = .ok (.iload_n 3, 1) := by decide +kernel
theorem dX11_takeStep_49 : decode cX11_takeStep 49 = .ok (.iconst 2, 1) := by decide +kernel
theorem dX11_takeStep_50 : decode cX11_takeStep 50 = .ok (.irem, 1) := by decide +kernel
theorem dX11_takeStep_51 : decode cX11_takeStep 51 = .ok (.iconst 1, 1) := by decide +kernel
theorem dX11_takeStep_52 : decode cX11_takeStep 52 = .ok (.if_icmp .ne 7, 3) := by decide +kernel
theorem dX11_takeStep_55 : decode cX11_takeStep 55 = .ok (.iconst 1, 1) := by decide +kernel
theorem dX11_takeStep_56 : decode cX11_takeStep 56 = .ok (.goto 21, 3) := by decide +kernel
theorem dX11_takeStep_59 : decode cX11_takeStep 59 = .ok (.iconst 0, 1) := by decide +kernel
theorem dX11_takeStep_60 : decode cX11_takeStep 60 = .ok (.goto 17, 3) := by decide +kernel
theorem dX11_takeStep_63 : decode cX11_takeStep 63 = .ok (.iload_n 3, 1) := by decide +kernel
theorem dX11_takeStep_64 : decode cX11_takeStep 64 = .ok (.iconst 2, 1) := by decide +kernel
theorem dX11_takeStep_65 : decode cX11_takeStep 65 = .ok (.idiv, 1) := by decide +kernel
theorem dX11_takeStep_66 : decode cX11_takeStep 66 = .ok (.iconst 2, 1) := by decide +kernel
theorem dX11_takeStep_67 : decode cX11_takeStep 67 = .ok (.irem, 1) := by decide +kernel
theorem dX11_takeStep_68 : decode cX11_takeStep 68 = .ok (.iconst 1, 1) := by decide +kernel
theorem dX11_takeStep_69 : decode cX11_takeStep 69 = .ok (.if_icmp .ne 7, 3) := by decide +kernel
theorem dX11_takeStep_72 : decode cX11_takeStep 72 = .ok (.iconst 1, 1) := by decide +kernel
theorem dX11_takeStep_73 : decode cX11_takeStep 73 = .ok (.goto 4, 3) := by decide +kernel
theorem dX11_takeStep_76 : decode cX11_takeStep 76 = .ok (.iconst 0, 1) := by decide +kernel
theorem dX11_takeStep_77 : decode cX11_takeStep 77 = .ok (.istore 8, 2) := by decide +kernel
theorem dX11_takeStep_79 : decode cX11_takeStep 79 = .ok (.iload_n 3, 1) := by decide +kernel
theorem dX11_takeStep_80 : decode cX11_takeStep 80 = .ok (.bipush 10, 2) := by decide +kernel
theorem dX11_takeStep_82 : decode cX11_takeStep 82 = .ok (.if_icmp .ge 18, 3) := by decide +kernel
theorem dX11_takeStep_85 : decode cX11_takeStep 85 = .ok (.iload_n 3, 1) := by decide +kernel
theorem dX11_takeStep_86 : decode cX11_takeStep 86 = .ok (.iconst 2, 1) := by decide +kernel
theorem dX11_takeStep_87 : decode cX11_takeStep 87 = .ok (.idiv, 1) := by decide +kernel
theorem dX11_takeStep_88 : decode cX11_takeStep 88 = .ok (.sipush 256, 3) := by decide +kernel
theorem dX11_takeStep_91 : decode cX11_takeStep 91 = .ok (.imul, 1) := by decide +kernel
theorem dX11_takeStep_92 : decode cX11_takeStep 92 = .ok (.iload 4, 2) := by decide +kernel
theorem dX11_takeStep_94 : decode cX11_takeStep 94 = .ok (.iadd, 1) := by decide +kernel
theorem dX11_takeStep_95 : decode cX11_takeStep 95 = .ok (.istore 6, 2) := by decide +kernel
theorem dX11_takeStep_97 : decode cX11_takeStep 97 = .ok (.goto 202, 3) := by decide +kernel
theorem dX11_takeStep_100 : decode cX11_takeStep 100 = .ok (.iload_n 3, 1) := by decide +kernel
theorem dX11_takeStep_101 : decode cX11_takeStep 101 = .ok (.bipush 20, 2) := by decide +kernel
theorem dX11_takeStep_103 : decode cX11_takeStep 103 = .ok (.if_icmp .ge 21, 3) := by decide +kernel
theorem dX11_takeStep_106 : decode cX11_takeStep 106 = .ok (.iload_n 3, 1) := by decide +kernel
theorem dX11_takeStep_107 : decode cX11_takeStep 107 = .ok (.bipush 10, 2) := by decide +kernel
theorem dX11_takeStep_109 : decode cX11_takeStep 109 = .ok (.isub, 1) := by decide +kernel
theorem dX11_takeStep_110 : decode cX11_takeStep 110 = .ok (.iconst 2, 1) := by decide +kernel
theorem dX11_takeStep_111 : decode cX11_takeStep 111 = .ok (.idiv, 1) := by decide +kernel
theorem dX11_takeStep_112 : decode cX11_takeStep 112 = .ok (.sipush 256, 3) := by decide +kernel
theorem dX11_takeStep_115 : decode cX11_takeStep 115 = .ok (.imul, 1) := by decide +kernel
theorem dX11_takeStep_116 : decode cX11_takeStep 116 = .ok (.iload 4, 2) := by decide +kernel
theorem dX11_takeStep_118 : decode cX11_takeStep 118 = .ok (.iadd, 1) := by decide +kernel
theorem dX11_takeStep_119 : decode cX11_takeStep 119 = .ok (.istore 5, 2) := by decide +kernel
theorem dX11_takeStep_121 : decode cX11_takeStep 121 = .ok (.goto 178, 3) := by decide +kernel
theorem dX11_takeStep_124 : decode cX11_takeStep 124 = .ok (.iload_n 3, 1) := by decide +kernel
theorem dX11_takeStep_125 : decode cX11_takeStep 125 = .ok (.bipush 84, 2) := by decide +kernel
theorem dX11_takeStep_127 : decode cX11_takeStep 127 = .ok (.if_icmp .ge 47, 3) := by decide +kernel
theorem dX11_takeStep_130 : decode cX11_takeStep 130 = .ok (.iload_n 3, 1) := by decide +kernel
theorem dX11_takeStep_131 : decode cX11_takeStep 131 = .ok (.bipush 20, 2) := by decide +kernel
theorem dX11_takeStep_133 : decode cX11_takeStep 133 = .ok (.isub, 1) := by decide +kernel
theorem dX11_takeStep_134 : decode cX11_takeStep 134 = .ok (.bipush 16, 2) := by decide +kernel
theorem dX11_takeStep_136 : decode cX11_takeStep 136 = .ok (.idiv, 1) := by decide +kernel
theorem dX11_takeStep_137 : decode cX11_takeStep 137 = .ok (.bipush 16, 2) := by decide +kernel
theorem dX11_takeStep_139 : decode cX11_takeStep 139 = .ok (.imul, 1) := by decide +kernel
theorem dX11_takeStep_140 : decode cX11_takeStep 140 = .ok (.iload 4, 2) := by decide +kernel
theorem dX11_takeStep_142 : decode cX11_takeStep 142 = .ok (.bipush 16, 2) := by decide +kernel
theorem dX11_takeStep_144 : decode cX11_takeStep 144 = .ok (.idiv, 1) := by decide +kernel
theorem dX11_takeStep_145 : decode cX11_takeStep 145 = .ok (.iadd, 1) := by decide +kernel
theorem dX11_takeStep_146 : decode cX11_takeStep 146 = .ok (.iconst 1, 1) := by decide +kernel
theorem dX11_takeStep_147 : decode cX11_takeStep 147 = .ok (.iadd, 1) := by decide +kernel
theorem dX11_takeStep_148 : decode cX11_takeStep 148 = .ok (.istore 5, 2) := by decide +kernel
theorem dX11_takeStep_150 : decode cX11_takeStep 150 = .ok (.iload_n 3, 1) := by decide +kernel
theorem dX11_takeStep_151 : decode cX11_takeStep 151 = .ok (.bipush 20, 2) := by decide +kernel
theorem dX11_takeStep_153 : decode cX11_takeStep 153 = .ok (.isub, 1) := by decide +kernel
theorem dX11_takeStep_154 : decode cX11_takeStep 154 = .ok (.iconst 4, 1) := by decide +kernel
theorem dX11_takeStep_155 : decode cX11_takeStep 155 = .ok (.idiv, 1) := by decide +kernel
theorem dX11_takeStep_156 : decode cX11_takeStep 156 = .ok (.iconst 4, 1) := by decide +kernel
theorem dX11_takeStep_157 : decode cX11_takeStep 157 = .ok (.irem, 1) := by decide +kernel
theorem dX11_takeStep_158 : decode cX11_takeStep 158 = .ok (.bipush 16, 2) := by decide +kernel
theorem dX11_takeStep_160 : decode cX11_takeStep 160 = .ok (.imul, 1) := by decide +kernel
theorem dX11_takeStep_161 : decode cX11_takeStep 161 = .ok (.iload 4, 2) := by decide +kernel
theorem dX11_takeStep_163 : decode cX11_takeStep 163 = .ok (.bipush 16, 2) := by decide +kernel
theorem dX11_takeStep_165 : decode cX11_takeStep 165 = .ok (.irem, 1) := by decide +kernel
theorem dX11_takeStep_166 : decode cX11_takeStep 166 = .ok (.iadd, 1) := by decide +kernel
theorem dX11_takeStep_167 : decode cX11_takeStep 167 = .ok (.iconst 1, 1) := by decide +kernel
theorem dX11_takeStep_168 : decode cX11_takeStep 168 = .ok (.iadd, 1) := by decide +kernel
theorem dX11_takeStep_169 : decode cX11_takeStep 169 = .ok (.istore 6, 2) := by decide +kernel
theorem dX11_takeStep_171 : decode cX11_takeStep 171 = .ok (.goto 128, 3) := by decide +kernel
theorem dX11_takeStep_174 : decode cX11_takeStep 174 = .ok (.iload_n 3, 1) := by decide +kernel
theorem dX11_takeStep_175 : decode cX11_takeStep 175 = .ok (.bipush 120, 2) := by decide +kernel
theorem dX11_takeStep_177 : decode cX11_takeStep 177 = .ok (.if_icmp .ge 46, 3) := by decide +kernel
theorem dX11_takeStep_180 : decode cX11_takeStep 180 = .ok (.iload_n 3, 1) := by decide +kernel
theorem dX11_takeStep_181 : decode cX11_takeStep 181 = .ok (.bipush 84, 2) := by decide +kernel
theorem dX11_takeStep_183 : decode cX11_takeStep 183 = .ok (.isub, 1) := by decide +kernel
theorem dX11_takeStep_184 : decode cX11_takeStep 184 = .ok (.bipush 12, 2) := by decide +kernel
theorem dX11_takeStep_186 : decode cX11_takeStep 186 = .ok (.idiv, 1) := by decide +kernel
theorem dX11_takeStep_187 : decode cX11_takeStep 187 = .ok (.sipush 256, 3) := by decide +kernel
theorem dX11_takeStep_190 : decode cX11_takeStep 190 = .ok (.imul, 1) := by decide +kernel
theorem dX11_takeStep_191 : decode cX11_takeStep 191 = .ok (.iload 4, 2) := by decide +kernel
theorem dX11_takeStep_193 : decode cX11_takeStep 193 = .ok (.iadd, 1) := by decide +kernel
theorem dX11_takeStep_194 : decode cX11_takeStep 194 = .ok (.iconst 1, 1) := by decide +kernel
theorem dX11_takeStep_195 : decode cX11_takeStep 195 = .ok (.iadd, 1) := by decide +kernel
theorem dX11_takeStep_196 : decode cX11_takeStep 196 = .ok (.istore 5, 2) := by decide +kernel
theorem dX11_takeStep_198 : decode cX11_takeStep 198 = .ok (.iload_n 3, 1) := by decide +kernel
theorem dX11_takeStep_199 : decode cX11_takeStep 199 = .ok (.bipush 84, 2) := by decide +kernel
theorem dX11_takeStep_201 : decode cX11_takeStep 201 = .ok (.isub, 1) := by decide +kernel
theorem dX11_takeStep_202 : decode cX11_takeStep 202 = .ok (.bipush 12, 2) := by decide +kernel
theorem dX11_takeStep_204 : decode cX11_takeStep 204 = .ok (.irem, 1) := by decide +kernel
theorem dX11_takeStep_205 : decode cX11_takeStep 205 = .ok (.iconst 4, 1) := by decide +kernel
theorem dX11_takeStep_206 : decode cX11_takeStep 206 = .ok (.idiv, 1) := by decide +kernel
theorem dX11_takeStep_207 : decode cX11_takeStep 207 = .ok (.sipush 256, 3) := by decide +kernel
theorem dX11_takeStep_210 : decode cX11_takeStep 210 = .ok (.imul, 1) := by decide +kernel
theorem dX11_takeStep_211 : decode cX11_takeStep 211 = .ok (.aload_n 0, 1) := by decide +kernel
theorem dX11_takeStep_212 : decode cX11_takeStep 212 = .ok (.invokevirtual 216, 3) := by decide +kernel
theorem dX11_takeStep_215 : decode cX11_takeStep 215 = .ok (.iadd, 1) := by decide +kernel
theorem dX11_takeStep_216 : decode cX11_takeStep 216 = .ok (.iconst 1, 1) := by decide +kernel
theorem dX11_takeStep_217 : decode cX11_takeStep 217 = .ok (.iadd, 1) := by decide +kernel
theorem dX11_takeStep_218 : decode cX11_takeStep 218 = .ok (.istore 6, 2) := by decide +kernel
theorem dX11_takeStep_220 : decode cX11_takeStep 220 = .ok (.goto 79, 3) := by decide +kernel
theorem dX11_takeStep_223 : decode cX11_takeStep 223 = .ok (.iload_n 3, 1) := by decide +kernel
theorem dX11_takeStep_224 : decode cX11_takeStep 224 = .ok (.bipush 124, 2) := by decide +kernel
theorem dX11_takeStep_226 : decode cX11_takeStep 226 = .ok (.if_icmp .ge 41, 3) := by decide +kernel
theorem dX11_takeStep_229 : decode cX11_takeStep 229 = .ok (.aload_n 0, 1) := by decide +kernel
theorem dX11_takeStep_230 : decode cX11_takeStep 230 = .ok (.invokevirtual 216, 3) := by decide +kernel
theorem dX11_takeStep_233 : decode cX11_takeStep 233 = .ok (.istore 9, 2) := by decide +kernel
theorem dX11_takeStep_235 : decode cX11_takeStep 235 = .ok (.bipush 16, 2) := by decide +kernel
theorem dX11_takeStep_237 : decode cX11_takeStep 237 = .ok (.iload 4, 2) := by decide +kernel
theorem dX11_takeStep_239 : decode cX11_takeStep 239 = .ok (.imul, 1) := by decide +kernel
theorem dX11_takeStep_240 : decode cX11_takeStep 240 = .ok (.iload 9, 2) := by decide +kernel
theorem dX11_takeStep_242 : decode cX11_takeStep 242 = .ok (.bipush 16, 2) := by decide +kernel
theorem dX11_takeStep_244 : decode cX11_takeStep 244 = .ok (.idiv, 1) := by decide +kernel
theorem dX11_takeStep_245 : decode cX11_takeStep 245 = .ok (.iadd, 1) := by decide +kernel
theorem dX11_takeStep_246 : decode cX11_takeStep 246 = .ok (.istore 5, 2) := by decide +kernel
theorem dX11_takeStep_248 : decode cX11_takeStep 248 = .ok (.iload 9, 2) := by decide +kernel
theorem dX11_takeStep_250 : decode cX11_takeStep 250 = .ok (.bipush 16, 2) := by decide +kernel
theorem dX11_takeStep_252 : decode cX11_takeStep 252 = .ok (.irem, 1) := by decide +kernel
theorem dX11_takeStep_253 : decode cX11_takeStep 253 = .ok (.sipush 256, 3) := by decide +kernel
theorem dX11_takeStep_256 : decode cX11_takeStep 256 = .ok (.imul, 1) := by decide +kernel
theorem dX11_takeStep_257 : decode cX11_takeStep 257 = .ok (.aload_n 0, 1) := by decide +kernel
theorem dX11_takeStep_258 : decode cX11_takeStep 258 = .ok (.invokevirtual 216, 3) := by decide +kernel
theorem dX11_takeStep_261 : decode cX11_takeStep 261 = .ok (.iadd, 1) := by decide +kernel
theorem dX11_takeStep_262 : decode cX11_takeStep 262 = .ok (.istore 6, 2) := by decide +kernel
theorem dX11_takeStep_264 : decode cX11_takeStep 264 = .ok (.goto 35, 3) := by decide +kernel
theorem dX11_takeStep_267 : decode cX11_takeStep 267 = .ok (.sipush 256, 3) := by decide +kernel
theorem dX11_takeStep_270 : decode cX11_takeStep 270 = .ok (.iload 4, 2) := by decide +kernel
theorem dX11_takeStep_272 : decode cX11_takeStep 272 = .ok (.imul, 1) := by decide +kernel
theorem dX11_takeStep_273 : decode cX11_takeStep 273 = .ok (.aload_n 0, 1) := by decide +kernel
theorem dX11_takeStep_274 : decode cX11_takeStep 274 = .ok (.invokevirtual 216, 3) := by decide +kernel
theorem dX11_takeStep_277 : decode cX11_takeStep 277 = .ok (.iadd, 1) := by decide +kernel
theorem dX11_takeStep_278 : decode cX11_takeStep 278 = .ok (.istore 5, 2) := by decide +kernel
theorem dX11_takeStep_280 : decode cX11_takeStep 280 = .ok (.sipush 256, 3) := by decide +kernel
theorem dX11_takeStep_283 : decode cX11_takeStep 283 = .ok (.aload_n 0, 1) := by decide +kernel
theorem dX11_takeStep_284 : decode cX11_takeStep 284 = .ok (.invokevirtual 216, 3) := by decide +kernel
theorem dX11_takeStep_287 : decode cX11_takeStep 287 = .ok (.imul, 1) := by decide +kernel
theorem dX11_takeStep_288 : decode cX11_takeStep 288 = .ok (.istore 6, 2) := by decide +kernel
theorem dX11_takeStep_290 : decode cX11_takeStep 290 = .ok (.iload 6, 2) := by decide +kernel
theorem dX11_takeStep_292 : decode cX11_takeStep 292 = .ok (.aload_n 0, 1) := by decide +kernel
theorem dX11_takeStep_293 : decode cX11_takeStep 293 = .ok (.invokevirtual 216, 3) := by decide +kernel
theorem dX11_takeStep_296 : decode cX11_takeStep 296 = .ok (.iadd, 1) := by decide +kernel
theorem dX11_takeStep_297 : decode cX11_takeStep 297 = .ok (.istore 6, 2) := by decide +kernel
theorem dX11_takeStep_299 : decode cX11_takeStep 299 = .ok (.bipush 16, 2) := by decide +kernel
theorem dX11_takeStep_301 : decode cX11_takeStep 301 = .ok (.iload_n 1, 1) := by decide +kernel
theorem dX11_takeStep_302 : decode cX11_takeStep 302 = .ok (.imul, 1) := by decide +kernel
theorem dX11_takeStep_303 : decode cX11_takeStep 303 = .ok (.iload_n 2, 1) := by decide +kernel
theorem dX11_takeStep_304 : decode cX11_takeStep 304 = .ok (.iadd, 1) := by decide +kernel
theorem dX11_takeStep_305 : decode cX11_takeStep 305 = .ok (.istore 9, 2) := by decide +kernel
theorem dX11_takeStep_307 : decode cX11_takeStep 307 = .ok (.aload_n 0, 1) := by decide +kernel
theorem dX11_takeStep_308 : decode cX11_takeStep 308 = .ok (.getfield 47, 3) := by decide +kernel
theorem dX11_takeStep_311 : decode cX11_takeStep 311 = .ok (.iload 9, 2) := by decide +kernel
theorem dX11_takeStep_313 : decode cX11_takeStep 313 = .ok (.iload_n 2, 1) := by decide +kernel
theorem dX11_takeStep_314 : decode cX11_takeStep 314 = .ok (.ifCond .le 15, 3) := by decide +kernel
theorem dX11_takeStep_317 : decode cX11_takeStep 317 = .ok (.aload_n 0, 1) := by decide +kernel
theorem dX11_takeStep_318 : decode cX11_takeStep 318 = .ok (.getfield 47, 3) := by decide +kernel
theorem dX11_takeStep_321 : decode cX11_takeStep 321 = .ok (.iload 9, 2) := by decide +kernel
theorem dX11_takeStep_323 : decode cX11_takeStep 323 = .ok (.iconst 1, 1) := by decide +kernel
theorem dX11_takeStep_324 : decode cX11_takeStep 324 = .ok (.isub, 1) := by decide +kernel
theorem dX11_takeStep_325 : decode cX11_takeStep 325 = .ok (.iaload, 1) := by decide +kernel
theorem dX11_takeStep_326 : decode cX11_takeStep 326 = .ok (.goto 4, 3) := by decide +kernel
theorem dX11_takeStep_329 : decode cX11_takeStep 329 = .ok (.iconst 0, 1) := by decide +kernel
theorem dX11_takeStep_330 : decode cX11_takeStep 330 = .ok (.iload 7, 2) := by decide +kernel
theorem dX11_takeStep_332 : decode cX11_takeStep 332 = .ok (.ifCond .eq 8, 3) := by decide +kernel
theorem dX11_takeStep_335 : decode cX11_takeStep 335 = .ok (.iload 5, 2) := by decide +kernel
theorem dX11_takeStep_337 : decode cX11_takeStep 337 = .ok (.goto 6, 3) := by decide +kernel
theorem dX11_takeStep_340 : decode cX11_takeStep 340 = .ok (.iload 5, 2) := by decide +kernel
theorem dX11_takeStep_342 : decode cX11_takeStep 342 = .ok (.ineg, 1) := by decide +kernel
theorem dX11_takeStep_343 : decode cX11_takeStep 343 = .ok (.iadd, 1) := by decide +kernel
theorem dX11_takeStep_344 : decode cX11_takeStep 344 = .ok (.iastore, 1) := by decide +kernel
theorem dX11_takeStep_345 : decode cX11_takeStep 345 = .ok (.aload_n 0, 1) := by decide +kernel
theorem dX11_takeStep_346 : decode cX11_takeStep 346 = .ok (.getfield 50, 3) := by decide +kernel
theorem dX11_takeStep_349 : decode cX11_takeStep 349 = .ok (.iload 9, 2) := by decide +kernel
theorem dX11_takeStep_351 : decode cX11_takeStep 351 = .ok (.iload_n 2, 1) := by decide +kernel
theorem dX11_takeStep_352 : decode cX11_takeStep 352 = .ok (.ifCond .le 15, 3) := by decide +kernel
theorem dX11_takeStep_355 : decode cX11_takeStep 355 = .ok (.aload_n 0, 1) := by decide +kernel
theorem dX11_takeStep_356 : decode cX11_takeStep 356 = .ok (.getfield 50, 3) := by decide +kernel
theorem dX11_takeStep_359 : decode cX11_takeStep 359 = .ok (.iload 9, 2) := by decide +kernel
theorem dX11_takeStep_361 : decode cX11_takeStep 361 = .ok (.iconst 1, 1) := by decide +kernel
theorem dX11_takeStep_362 : decode cX11_takeStep 362 = .ok (.isub, 1) := by decide +kernel
theorem dX11_takeStep_363 : decode cX11_takeStep 363 = .ok (.iaload, 1) := by decide +kernel
theorem dX11_takeStep_364 : decode cX11_takeStep 364 = .ok (.goto 4, 3) := by decide +kernel
theorem dX11_takeStep_367 : decode cX11_takeStep 367 = .ok (.iconst 0, 1) := by decide +kernel
theorem dX11_takeStep_368 : decode cX11_takeStep 368 = .ok (.iload 8, 2) := by decide +kernel
theorem dX11_takeStep_370 : decode cX11_takeStep 370 = .ok (.ifCond .eq 8, 3) := by decide +kernel
theorem dX11_takeStep_373 : decode cX11_takeStep 373 = .ok (.iload 6, 2) := by decide +kernel
theorem dX11_takeStep_375 : decode cX11_takeStep 375 = .ok (.goto 6, 3) := by decide +kernel
theorem dX11_takeStep_378 : decode cX11_takeStep 378 = .ok (.iload 6, 2) := by decide +kernel
theorem dX11_takeStep_380 : decode cX11_takeStep 380 = .ok (.ineg, 1) := by decide +kernel
theorem dX11_takeStep_381 : decode cX11_takeStep 381 = .ok (.iadd, 1) := by decide +kernel
theorem dX11_takeStep_382 : decode cX11_takeStep 382 = .ok (.iastore, 1) := by decide +kernel
theorem dX11_takeStep_383 : decode cX11_takeStep 383 = .ok (.aload_n 0, 1) := by decide +kernel
theorem dX11_takeStep_384 : decode cX11_takeStep 384 = .ok (.aload_n 0, 1) := by decide +kernel
theorem dX11_takeStep_385 : decode cX11_takeStep 385 = .ok (.getfield 47, 3) := by decide +kernel
theorem dX11_takeStep_388 : decode cX11_takeStep 388 = .ok (.iload 9, 2) := by decide +kernel
theorem dX11_takeStep_390 : decode cX11_takeStep 390 = .ok (.iaload, 1) := by decide +kernel
theorem dX11_takeStep_391 : decode cX11_takeStep 391 = .ok (.invokestatic 98, 3) := by decide +kernel
theorem dX11_takeStep_394 : decode cX11_takeStep 394 = .ok (.ifCond .ne 20, 3) := by decide +kernel
theorem dX11_takeStep_397 : decode cX11_takeStep 397 = .ok (.aload_n 0, 1) := by decide +kernel
theorem dX11_takeStep_398 : decode cX11_takeStep 398 = .ok (.getfield 50, 3) := by decide +kernel
theorem dX11_takeStep_401 : decode cX11_takeStep 401 = .ok (.iload 9, 2) := by decide +kernel
theorem dX11_takeStep_403 : decode cX11_takeStep 403 = .ok (.iaload, 1) := by decide +kernel
theorem dX11_takeStep_404 : decode cX11_takeStep 404 = .ok (.invokestatic 98, 3) := by decide +kernel
theorem dX11_takeStep_407 : decode cX11_takeStep 407 = .ok (.ifCond .ne 7, 3) := by decide +kernel
theorem dX11_takeStep_410 : decode cX11_takeStep 410 = .ok (.iconst 1, 1) := by decide +kernel
theorem dX11_takeStep_411 : decode cX11_takeStep 411 = .ok (.goto 4, 3) := by decide +kernel
theorem dX11_takeStep_414 : decode cX11_takeStep 414 = .ok (.iconst 0, 1) := by decide +kernel
theorem dX11_takeStep_415 : decode cX11_takeStep 415 = .ok (.invokevirtual 219, 3) := by decide +kernel
theorem dX11_takeStep_418 : decode cX11_takeStep 418 = .ok (.return_, 1) := by decide +kernel
theorem dX11_takeGlyphs_0 : decode cX11_takeGlyphs 0 = .ok (.aload_n 0, 1) := by decide +kernel
theorem dX11_takeGlyphs_1 : decode cX11_takeGlyphs 1 = .ok (.aload_n 0, 1) := by decide +kernel
theorem dX11_takeGlyphs_2 : decode cX11_takeGlyphs 2 = .ok (.invokevirtual 216, 3) := by decide +kernel
theorem dX11_takeGlyphs_5 : decode cX11_takeGlyphs 5 = .ok (.putfield 241, 3) := by decide +kernel
theorem dX11_takeGlyphs_8 : decode cX11_takeGlyphs 8 = .ok (.aload_n 0, 1) := by decide +kernel
theorem dX11_takeGlyphs_9 : decode cX11_takeGlyphs 9 = .ok (.aload_n 0, 1) := by decide +kernel
theorem dX11_takeGlyphs_10 : decode cX11_takeGlyphs 10 = .ok (.getfield 241, 3) := by decide +kernel
theorem dX11_takeGlyphs_13 : decode cX11_takeGlyphs 13 = .ok (.iconst 1, 1) := by decide +kernel
theorem dX11_takeGlyphs_14 : decode cX11_takeGlyphs 14 = .ok (.if_icmp .lt 16, 3) := by decide +kernel
theorem dX11_takeGlyphs_17 : decode cX11_takeGlyphs 17 = .ok (.aload_n 0, 1) := by decide +kernel
theorem dX11_takeGlyphs_18 : decode cX11_takeGlyphs 18 = .ok (.getfield 241, 3) := by decide +kernel
theorem dX11_takeGlyphs_21 : decode cX11_takeGlyphs 21 = .ok (.bipush 6, 2) := by decide +kernel
theorem dX11_takeGlyphs_23 : decode cX11_takeGlyphs 23 = .ok (.if_icmp .gt 7, 3) := by decide +kernel
theorem dX11_takeGlyphs_26 : decode cX11_takeGlyphs 26 = .ok (.iconst 1, 1) := by decide +kernel
theorem dX11_takeGlyphs_27 : decode cX11_takeGlyphs 27 = .ok (.goto 4, 3) := by decide +kernel
theorem dX11_takeGlyphs_30 : decode cX11_takeGlyphs 30 = .ok (.iconst 0, 1) := by decide +kernel
theorem dX11_takeGlyphs_31 : decode cX11_takeGlyphs 31 = .ok (.invokevirtual 219, 3) := by decide +kernel
theorem dX11_takeGlyphs_34 : decode cX11_takeGlyphs 34 = .ok (.aload_n 0, 1) := by decide +kernel
theorem dX11_takeGlyphs_35 : decode cX11_takeGlyphs 35 = .ok (.getfield 209, 3) := by decide +kernel
theorem dX11_takeGlyphs_38 : decode cX11_takeGlyphs 38 = .ok (.ifCond .eq 4, 3) := by decide +kernel
theorem dX11_takeGlyphs_41 : decode cX11_takeGlyphs 41 = .ok (.return_, 1) := by decide +kernel
theorem dX11_takeGlyphs_42 : decode cX11_takeGlyphs 42 = .ok (.iconst 0, 1) := by decide +kernel
theorem dX11_takeGlyphs_43 : decode cX11_takeGlyphs 43 = .ok (.istore_n 1, 1) := by decide +kernel
theorem dX11_takeGlyphs_44 : decode cX11_takeGlyphs 44 = .ok (.iload_n 1, 1) := by decide +kernel
theorem dX11_takeGlyphs_45 : decode cX11_takeGlyphs 45 = .ok (.aload_n 0, 1) := by decide +kernel
theorem dX11_takeGlyphs_46 : decode cX11_takeGlyphs 46 = .ok (.getfield 241, 3) := by decide +kernel
theorem dX11_takeGlyphs_49 : decode cX11_takeGlyphs 49 = .ok (.if_icmp .ge 38, 3) := by decide +kernel
theorem dX11_takeGlyphs_52 : decode cX11_takeGlyphs 52 = .ok (.aload_n 0, 1) := by decide +kernel
theorem dX11_takeGlyphs_53 : decode cX11_takeGlyphs 53 = .ok (.getfield 41, 3) := by decide +kernel
theorem dX11_takeGlyphs_56 : decode cX11_takeGlyphs 56 = .ok (.iload_n 1, 1) := by decide +kernel
theorem dX11_takeGlyphs_57 : decode cX11_takeGlyphs 57 = .ok (.aload_n 0, 1) := by decide +kernel
theorem dX11_takeGlyphs_58 : decode cX11_takeGlyphs 58 = .ok (.invokevirtual 216, 3) := by decide +kernel
theorem dX11_takeGlyphs_61 : decode cX11_takeGlyphs 61 = .ok (.iastore, 1) := by decide +kernel
theorem dX11_takeGlyphs_62 : decode cX11_takeGlyphs 62 = .ok (.aload_n 0, 1) := by decide +kernel
theorem dX11_takeGlyphs_63 : decode cX11_takeGlyphs 63 = .ok (.aload_n 0, 1) := by decide +kernel
theorem dX11_takeGlyphs_64 : decode cX11_takeGlyphs 64 = .ok (.getfield 41, 3) := by decide +kernel
theorem dX11_takeGlyphs_67 : decode cX11_takeGlyphs 67 = .ok (.iload_n 1, 1) := by decide +kernel
theorem dX11_takeGlyphs_68 : decode cX11_takeGlyphs 68 = .ok (.iaload, 1) := by decide +kernel
theorem dX11_takeGlyphs_69 : decode cX11_takeGlyphs 69 = .ok (.iconst 4, 1) := by decide +kernel
theorem dX11_takeGlyphs_70 : decode cX11_takeGlyphs 70 = .ok (.if_icmp .gt 7, 3) := by decide +kernel
theorem dX11_takeGlyphs_73 : decode cX11_takeGlyphs 73 = .ok (.iconst 1, 1) := by decide +kernel
theorem dX11_takeGlyphs_74 : decode cX11_takeGlyphs 74 = .ok (.goto 4, 3) := by decide +kernel
theorem dX11_takeGlyphs_77 : decode cX11_takeGlyphs 77 = .ok (.iconst 0, 1) := by decide +kernel
theorem dX11_takeGlyphs_78 : decode cX11_takeGlyphs 78 = .ok (.invokevirtual 219, 3) := by decide +kernel
theorem dX11_takeGlyphs_81 : decode cX11_takeGlyphs 81 = .ok (.iinc 1 1, 3) := by decide +kernel
theorem dX11_takeGlyphs_84 : decode cX11_takeGlyphs 84 = .ok (.goto (-40), 3) := by decide +kernel
theorem dX11_takeGlyphs_87 : decode cX11_takeGlyphs 87 = .ok (.iconst 0, 1) := by decide +kernel
theorem dX11_takeGlyphs_88 : decode cX11_takeGlyphs 88 = .ok (.istore_n 1, 1) := by decide +kernel
theorem dX11_takeGlyphs_89 : decode cX11_takeGlyphs 89 = .ok (.iload_n 1, 1) := by decide +kernel
theorem dX11_takeGlyphs_90 : decode cX11_takeGlyphs 90 = .ok (.aload_n 0, 1) := by decide +kernel
theorem dX11_takeGlyphs_91 : decode cX11_takeGlyphs 91 = .ok (.getfield 241, 3) := by decide +kernel
theorem dX11_takeGlyphs_94 : decode cX11_takeGlyphs 94 = .ok (.if_icmp .ge 21, 3) := by decide +kernel
theorem dX11_takeGlyphs_97 : decode cX11_takeGlyphs 97 = .ok (.aload_n 0, 1) := by decide +kernel
theorem dX11_takeGlyphs_98 : decode cX11_takeGlyphs 98 = .ok (.getfield 209, 3) := by decide +kernel
theorem dX11_takeGlyphs_101 : decode cX11_takeGlyphs 101 = .ok (.ifCond .ne 14, 3) := by decide +kernel
theorem dX11_takeGlyphs_104 : decode cX11_takeGlyphs 104 = .ok (.aload_n 0, 1) := by decide +kernel
theorem dX11_takeGlyphs_105 : decode cX11_takeGlyphs 105 = .ok (.iload_n 1, 1) := by decide +kernel
theorem dX11_takeGlyphs_106 : decode cX11_takeGlyphs 106 = .ok (.invokevirtual 244, 3) := by decide +kernel
theorem dX11_takeGlyphs_109 : decode cX11_takeGlyphs 109 = .ok (.iinc 1 1, 3) := by decide +kernel
theorem dX11_takeGlyphs_112 : decode cX11_takeGlyphs 112 = .ok (.goto (-23), 3) := by decide +kernel
theorem dX11_takeGlyphs_115 : decode cX11_takeGlyphs 115 = .ok (.iconst 0, 1) := by decide +kernel
theorem dX11_takeGlyphs_116 : decode cX11_takeGlyphs 116 = .ok (.istore_n 1, 1) := by decide +kernel
theorem dX11_takeGlyphs_117 : decode cX11_takeGlyphs 117 = .ok (.iload_n 1, 1) := by decide +kernel
theorem dX11_takeGlyphs_118 : decode cX11_takeGlyphs 118 = .ok (.aload_n 0, 1) := by decide +kernel
theorem dX11_takeGlyphs_119 : decode cX11_takeGlyphs 119 = .ok (.getfield 241, 3) := by decide +kernel
theorem dX11_takeGlyphs_122 : decode cX11_takeGlyphs 122 = .ok (.if_icmp .ge 49, 3) := by decide +kernel
theorem dX11_takeGlyphs_125 : decode cX11_takeGlyphs 125 = .ok (.aload_n 0, 1) := by decide +kernel
theorem dX11_takeGlyphs_126 : decode cX11_takeGlyphs 126 = .ok (.getfield 209, 3) := by decide +kernel
theorem dX11_takeGlyphs_129 : decode cX11_takeGlyphs 129 = .ok (.ifCond .ne 42, 3) := by decide +kernel
theorem dX11_takeGlyphs_132 : decode cX11_takeGlyphs 132 = .ok (.iconst 0, 1) := by decide +kernel
theorem dX11_takeGlyphs_133 : decode cX11_takeGlyphs 133 = .ok (.istore_n 2, 1) := by decide +kernel
theorem dX11_takeGlyphs_134 : decode cX11_takeGlyphs 134 = .ok (.iload_n 2, 1) := by decide +kernel
theorem dX11_takeGlyphs_135 : decode cX11_takeGlyphs 135 = .ok (.aload_n 0, 1) := by decide +kernel
theorem dX11_takeGlyphs_136 : decode cX11_takeGlyphs 136 = .ok (.getfield 44, 3) := by decide +kernel
theorem dX11_takeGlyphs_139 : decode cX11_takeGlyphs 139 = .ok (.iload_n 1, 1) := by decide +kernel
theorem dX11_takeGlyphs_140 : decode cX11_takeGlyphs 140 = .ok (.iaload, 1) := by decide +kernel
theorem dX11_takeGlyphs_141 : decode cX11_takeGlyphs 141 = .ok (.if_icmp .ge 24, 3) := by decide +kernel
theorem dX11_takeGlyphs_144 : decode cX11_takeGlyphs 144 = .ok (.aload_n 0, 1) := by decide +kernel
theorem dX11_takeGlyphs_145 : decode cX11_takeGlyphs 145 = .ok (.getfield 53, 3) := by decide +kernel
theorem dX11_takeGlyphs_148 : decode cX11_takeGlyphs 148 = .ok (.bipush 16, 2) := by decide +kernel
theorem dX11_takeGlyphs_150 : decode cX11_takeGlyphs 150 = .ok (.iload_n 1, 1) := by decide +kernel
theorem dX11_takeGlyphs_151 : decode cX11_takeGlyphs 151 = .ok (.imul, 1) := by decide +kernel
theorem dX11_takeGlyphs_152 : decode cX11_takeGlyphs 152 = .ok (.iload_n 2, 1) := by decide +kernel
theorem dX11_takeGlyphs_153 : decode cX11_takeGlyphs 153 = .ok (.iadd, 1) := by decide +kernel
theorem dX11_takeGlyphs_154 : decode cX11_takeGlyphs 154 = .ok (.aload_n 0, 1) := by decide +kernel
theorem dX11_takeGlyphs_155 : decode cX11_takeGlyphs 155 = .ok (.invokevirtual 216, 3) := by decide +kernel
theorem dX11_takeGlyphs_158 : decode cX11_takeGlyphs 158 = .ok (.iastore, 1) := by decide +kernel
theorem dX11_takeGlyphs_159 : decode cX11_takeGlyphs 159 = .ok (.iinc 2 1, 3) := by decide +kernel
theorem dX11_takeGlyphs_162 : decode cX11_takeGlyphs 162 = .ok (.goto (-28), 3) := by decide +kernel
theorem dX11_takeGlyphs_165 : decode cX11_takeGlyphs 165 = .ok (.iinc 1 1, 3) := by decide +kernel
theorem dX11_takeGlyphs_168 : decode cX11_takeGlyphs 168 = .ok (.goto (-51), 3) := by decide +kernel
theorem dX11_takeGlyphs_171 : decode cX11_takeGlyphs 171 = .ok (.iconst 0, 1) := by decide +kernel
theorem dX11_takeGlyphs_172 : decode cX11_takeGlyphs 172 = .ok (.istore_n 1, 1) := by decide +kernel
theorem dX11_takeGlyphs_173 : decode cX11_takeGlyphs 173 = .ok (.iload_n 1, 1) := by decide +kernel
theorem dX11_takeGlyphs_174 : decode cX11_takeGlyphs 174 = .ok (.aload_n 0, 1) := by decide +kernel
theorem dX11_takeGlyphs_175 : decode cX11_takeGlyphs 175 = .ok (.getfield 241, 3) := by decide +kernel
theorem dX11_takeGlyphs_178 : decode cX11_takeGlyphs 178 = .ok (.if_icmp .ge 40, 3) := by decide +kernel
theorem dX11_takeGlyphs_181 : decode cX11_takeGlyphs 181 = .ok (.aload_n 0, 1) := by decide +kernel
theorem dX11_takeGlyphs_182 : decode cX11_takeGlyphs 182 = .ok (.getfield 209, 3) := by decide +kernel
theorem dX11_takeGlyphs_185 : decode cX11_takeGlyphs 185 = .ok (.ifCond .ne 33, 3) := by decide +kernel
theorem dX11_takeGlyphs_188 : decode cX11_takeGlyphs 188 = .ok (.iconst 0, 1) := by decide +kernel
theorem dX11_takeGlyphs_189 : decode cX11_takeGlyphs 189 = .ok (.istore_n 2, 1) := by decide +kernel
theorem dX11_takeGlyphs_190 : decode cX11_takeGlyphs 190 = .ok (.iload_n 2, 1) := by decide +kernel
theorem dX11_takeGlyphs_191 : decode cX11_takeGlyphs 191 = .ok (.aload_n 0, 1) := by decide +kernel
theorem dX11_takeGlyphs_192 : decode cX11_takeGlyphs 192 = .ok (.getfield 44, 3) := by decide +kernel
theorem dX11_takeGlyphs_195 : decode cX11_takeGlyphs 195 = .ok (.iload_n 1, 1) := by decide +kernel
theorem dX11_takeGlyphs_196 : decode cX11_takeGlyphs 196 = .ok (.iaload, 1) := by decide +kernel
theorem dX11_takeGlyphs_197 : decode cX11_takeGlyphs 197 = .ok (.if_icmp .ge 15, 3) := by decide +kernel
theorem dX11_takeGlyphs_200 : decode cX11_takeGlyphs 200 = .ok (.aload_n 0, 1) := by decide +kernel
theorem dX11_takeGlyphs_201 : decode cX11_takeGlyphs 201 = .ok (.iload_n 1, 1) := by decide +kernel
theorem dX11_takeGlyphs_202 : decode cX11_takeGlyphs 202 = .ok (.iload_n 2, 1) := by decide +kernel
theorem dX11_takeGlyphs_203 : decode cX11_takeGlyphs 203 = .ok (.invokevirtual 247, 3) := by decide +kernel
theorem dX11_takeGlyphs_206 : decode cX11_takeGlyphs 206 = .ok (.iinc 2 1, 3) := by decide +kernel
theorem dX11_takeGlyphs_209 : decode cX11_takeGlyphs 209 = .ok (.goto (-19), 3) := by decide +kernel
theorem dX11_takeGlyphs_212 : decode cX11_takeGlyphs 212 = .ok (.iinc 1 1, 3) := by decide +kernel
theorem dX11_takeGlyphs_215 : decode cX11_takeGlyphs 215 = .ok (.goto (-42), 3) := by decide +kernel
theorem dX11_takeGlyphs_218 : decode cX11_takeGlyphs 218 = .ok (.aload_n 0, 1) := by decide +kernel
theorem dX11_takeGlyphs_219 : decode cX11_takeGlyphs 219 = .ok (.aload_n 0, 1) := by decide +kernel
theorem dX11_takeGlyphs_220 : decode cX11_takeGlyphs 220 = .ok (.getfield 203, 3) := by decide +kernel
theorem dX11_takeGlyphs_223 : decode cX11_takeGlyphs 223 = .ok (.aload_n 0, 1) := by decide +kernel
theorem dX11_takeGlyphs_224 : decode cX11_takeGlyphs 224 = .ok (.getfield 206, 3) := by decide +kernel
theorem dX11_takeGlyphs_227 : decode cX11_takeGlyphs 227 = .ok (.if_icmp .ne 7, 3) := by decide +kernel
theorem dX11_takeGlyphs_230 : decode cX11_takeGlyphs 230 = .ok (.iconst 1, 1) := by decide +kernel
theorem dX11_takeGlyphs_231 : decode cX11_takeGlyphs 231 = .ok (.goto 4, 3) := by decide +kernel
theorem dX11_takeGlyphs_234 : decode cX11_takeGlyphs 234 = .ok (.iconst 0, 1) := by decide +kernel
theorem dX11_takeGlyphs_235 : decode cX11_takeGlyphs 235 = .ok (.invokevirtual 219, 3) := by decide +kernel
theorem dX11_takeGlyphs_238 : decode cX11_takeGlyphs 238 = .ok (.return_, 1) := by decide +kernel
theorem dX11_takeSizes_0 : decode cX11_takeSizes 0 = .ok (.aload_n 0, 1) := by decide +kernel
theorem dX11_takeSizes_1 : decode cX11_takeSizes 1 = .ok (.getfield 44, 3) := by decide +kernel
theorem dX11_takeSizes_4 : decode cX11_takeSizes 4 = .ok (.iload_n 1, 1) := by decide +kernel
theorem dX11_takeSizes_5 : decode cX11_takeSizes 5 = .ok (.iconst 0, 1) := by decide +kernel
theorem dX11_takeSizes_6 : decode cX11_takeSizes 6 = .ok (.iastore, 1) := by decide +kernel
theorem dX11_takeSizes_7 : decode cX11_takeSizes 7 = .ok (.iconst 0, 1) := by decide +kernel
theorem dX11_takeSizes_8 : decode cX11_takeSizes 8 = .ok (.istore_n 2, 1) := by decide +kernel
theorem dX11_takeSizes_9 : decode cX11_takeSizes 9 = .ok (.iload_n 2, 1) := by decide +kernel
theorem dX11_takeSizes_10 : decode cX11_takeSizes 10 = .ok (.aload_n 0, 1) := by decide +kernel
theorem dX11_takeSizes_11 : decode cX11_takeSizes 11 = .ok (.getfield 41, 3) := by decide +kernel
theorem dX11_takeSizes_14 : decode cX11_takeSizes 14 = .ok (.iload_n 1, 1) := by decide +kernel
theorem dX11_takeSizes_15 : decode cX11_takeSizes 15 = .ok (.iaload, 1) := by decide +kernel
theorem dX11_takeSizes_16 : decode cX11_takeSizes 16 = .ok (.if_icmp .ge 97, 3) := by decide +kernel
theorem dX11_takeSizes_19 : decode cX11_takeSizes 19 = .ok (.aload_n 0, 1) := by decide +kernel
theorem dX11_takeSizes_20 : decode cX11_takeSizes 20 = .ok (.getfield 209, 3) := by decide +kernel
theorem dX11_takeSizes_23 : decode cX11_takeSizes 23 = .ok (.ifCond .ne 90, 3) := by decide +kernel
theorem dX11_takeSizes_26 : decode cX11_takeSizes 26 = .ok (.aload_n 0, 1) := by decide +kernel
theorem dX11_takeSizes_27 : decode cX11_takeSizes 27 = .ok (.invokevirtual 250, 3) := by decide +kernel
theorem dX11_takeSizes_30 : decode cX11_takeSizes 30 = .ok (.istore_n 3, 1) := by decide +kernel
theorem dX11_takeSizes_31 : decode cX11_takeSizes 31 = .ok (.aload_n 0, 1) := by decide +kernel
theorem dX11_takeSizes_32 : decode cX11_takeSizes 32 = .ok (.iload_n 3, 1) := by decide +kernel
theorem dX11_takeSizes_33 : decode cX11_takeSizes 33 = .ok (.iconst 1, 1) := by decide +kernel
theorem dX11_takeSizes_34 : decode cX11_takeSizes 34 = .ok (.if_icmp .lt 20, 3) := by decide +kernel
theorem dX11_takeSizes_37 : decode cX11_takeSizes 37 = .ok (.aload_n 0, 1) := by decide +kernel
theorem dX11_takeSizes_38 : decode cX11_takeSizes 38 = .ok (.getfield 44, 3) := by decide +kernel
theorem dX11_takeSizes_41 : decode cX11_takeSizes 41 = .ok (.iload_n 1, 1) := by decide +kernel
theorem dX11_takeSizes_42 : decode cX11_takeSizes 42 = .ok (.iaload, 1) := by decide +kernel
theorem dX11_takeSizes_43 : decode cX11_takeSizes 43 = .ok (.iload_n 3, 1) := by decide +kernel
theorem dX11_takeSizes_44 : decode cX11_takeSizes 44 = .ok (.iadd, 1) := by decide +kernel
theorem dX11_takeSizes_45 : decode cX11_takeSizes 45 = .ok (.bipush 16, 2) := by decide +kernel
theorem dX11_takeSizes_47 : decode cX11_takeSizes 47 = .ok (.if_icmp .gt 7, 3) := by decide +kernel
theorem dX11_takeSizes_50 : decode cX11_takeSizes 50 = .ok (.iconst 1, 1) := by decide +kernel
theorem dX11_takeSizes_51 : decode cX11_takeSizes 51 = .ok (.goto 4, 3) := by decide +kernel
theorem dX11_takeSizes_54 : decode cX11_takeSizes 54 = .ok (.iconst 0, 1) := by decide +kernel
theorem dX11_takeSizes_55 : decode cX11_takeSizes 55 = .ok (.invokevirtual 219, 3) := by decide +kernel
theorem dX11_takeSizes_58 : decode cX11_takeSizes 58 = .ok (.iconst 0, 1) := by decide +kernel
theorem dX11_takeSizes_59 : decode cX11_takeSizes 59 = .ok (.istore 4, 2) := by decide +kernel
theorem dX11_takeSizes_61 : decode cX11_takeSizes 61 = .ok (.iload 4, 2) := by decide +kernel
theorem dX11_takeSizes_63 : decode cX11_takeSizes 63 = .ok (.iload_n 3, 1) := by decide +kernel
theorem dX11_takeSizes_64 : decode cX11_takeSizes 64 = .ok (.if_icmp .ge 43, 3) := by decide +kernel
theorem dX11_takeSizes_67 : decode cX11_takeSizes 67 = .ok (.aload_n 0, 1) := by decide +kernel
theorem dX11_takeSizes_68 : decode cX11_takeSizes 68 = .ok (.getfield 209, 3) := by decide +kernel
theorem dX11_takeSizes_71 : decode cX11_takeSizes 71 = .ok (.ifCond .ne 36, 3) := by decide +kernel
theorem dX11_takeSizes_74 : decode cX11_takeSizes 74 = .ok (.aload_n 0, 1) := by decide +kernel
theorem dX11_takeSizes_75 : decode cX11_takeSizes 75 = .ok (.getfield 56, 3) := by decide +kernel
theorem dX11_takeSizes_78 : decode cX11_takeSizes 78 = .ok (.bipush 16, 2) := by decide +kernel
theorem dX11_takeSizes_80 : decode cX11_takeSizes 80 = .ok (.iload_n 1, 1) := by decide +kernel
theorem dX11_takeSizes_81 : decode cX11_takeSizes 81 = .ok (.imul, 1) := by decide +kernel
theorem dX11_takeSizes_82 : decode cX11_takeSizes 82 = .ok (.aload_n 0, 1) := by decide +kernel
theorem dX11_takeSizes_83 : decode cX11_takeSizes 83 = .ok (.getfield 44, 3) := by decide +kernel
theorem dX11_takeSizes_86 : decode cX11_takeSizes 86 = .ok (.iload_n 1, 1) := by decide +kernel
theorem dX11_takeSizes_87 : decode cX11_takeSizes 87 = .ok (.iaload, 1) := by decide +kernel
theorem dX11_takeSizes_88 : decode cX11_takeSizes 88 = .ok (.iadd, 1) := by decide +kernel
theorem dX11_takeSizes_89 : decode cX11_takeSizes 89 = .ok (.iload_n 2, 1) := by decide +kernel
theorem dX11_takeSizes_90 : decode cX11_takeSizes 90 = .ok (.iastore, 1) := by decide +kernel
theorem dX11_takeSizes_91 : decode cX11_takeSizes 91 = .ok (.aload_n 0, 1) := by decide +kernel
theorem dX11_takeSizes_92 : decode cX11_takeSizes 92 = .ok (.getfield 44, 3) := by decide +kernel
theorem dX11_takeSizes_95 : decode cX11_takeSizes 95 = .ok (.iload_n 1, 1) := by decide +kernel
theorem dX11_takeSizes_96 : decode cX11_takeSizes 96 = .ok (.dup2, 1) := by decide +kernel
theorem dX11_takeSizes_97 : decode cX11_takeSizes 97 = .ok (.iaload, 1) := by decide +kernel
theorem dX11_takeSizes_98 : decode cX11_takeSizes 98 = .ok (.iconst 1, 1) := by decide +kernel
theorem dX11_takeSizes_99 : decode cX11_takeSizes 99 = .ok (.iadd, 1) := by decide +kernel
theorem dX11_takeSizes_100 : decode cX11_takeSizes 100 = .ok (.iastore, 1) := by decide +kernel
theorem dX11_takeSizes_101 : decode cX11_takeSizes 101 = .ok (.iinc 4 1, 3) := by decide +kernel
theorem dX11_takeSizes_104 : decode cX11_takeSizes 104 = .ok (.goto (-43), 3) := by decide +kernel
theorem dX11_takeSizes_107 : decode cX11_takeSizes 107 = .ok (.iinc 2 1, 3) := by decide +kernel
theorem dX11_takeSizes_110 : decode cX11_takeSizes 110 = .ok (.goto (-101), 3) := by decide +kernel
theorem dX11_takeSizes_113 : decode cX11_takeSizes 113 = .ok (.return_, 1) := by decide +kernel
theorem dX11_takeTables_0 : decode cX11_takeTables 0 = .ok (.iconst 0, 1) := by decide +kernel
theorem dX11_takeTables_1 : decode cX11_takeTables 1 = .ok (.istore_n 1, 1) := by decide +kernel
theorem dX11_takeTables_2 : decode cX11_takeTables 2 = .ok (.aload_n 0, 1) := by decide +kernel
theorem dX11_takeTables_3 : decode cX11_takeTables 3 = .ok (.iconst 0, 1) := by decide +kernel
theorem dX11_takeTables_4 : decode cX11_takeTables 4 = .ok (.putfield 241, 3) := by decide +kernel
theorem dX11_takeTables_7 : decode cX11_takeTables 7 = .ok (.aload_n 0, 1) := by decide +kernel
theorem dX11_takeTables_8 : decode cX11_takeTables 8 = .ok (.iconst 1, 1) := by decide +kernel
theorem dX11_takeTables_9 : decode cX11_takeTables 9 = .ok (.putfield 213, 3) := by decide +kernel
theorem dX11_takeTables_12 : decode cX11_takeTables 12 = .ok (.iconst 0, 1) := by decide +kernel
theorem dX11_takeTables_13 : decode cX11_takeTables 13 = .ok (.istore_n 2, 1) := by decide +kernel
theorem dX11_takeTables_14 : decode cX11_takeTables 14 = .ok (.iload_n 2, 1) := by decide +kernel
theorem dX11_takeTables_15 : decode cX11_takeTables 15 = .ok (.bipush 7, 2) := by decide +kernel
theorem dX11_takeTables_17 : decode cX11_takeTables 17 = .ok (.if_icmp .ge 82, 3) := by decide +kernel
theorem dX11_takeTables_20 : decode cX11_takeTables 20 = .ok (.aload_n 0, 1) := by decide +kernel
theorem dX11_takeTables_21 : decode cX11_takeTables 21 = .ok (.getfield 62, 3) := by decide +kernel
theorem dX11_takeTables_24 : decode cX11_takeTables 24 = .ok (.iload_n 2, 1) := by decide +kernel
theorem dX11_takeTables_25 : decode cX11_takeTables 25 = .ok (.iconst 0, 1) := by decide +kernel
theorem dX11_takeTables_26 : decode cX11_takeTables 26 = .ok (.iastore, 1) := by decide +kernel
theorem dX11_takeTables_27 : decode cX11_takeTables 27 = .ok (.aload_n 0, 1) := by decide +kernel
theorem dX11_takeTables_28 : decode cX11_takeTables 28 = .ok (.getfield 77, 3) := by decide +kernel
theorem dX11_takeTables_31 : decode cX11_takeTables 31 = .ok (.iload_n 2, 1) := by decide +kernel
theorem dX11_takeTables_32 : decode cX11_takeTables 32 = .ok (.iaload, 1) := by decide +kernel
theorem dX11_takeTables_33 : decode cX11_takeTables 33 = .ok (.ifCond .lt 60, 3) := by decide +kernel
theorem dX11_takeTables_36 : decode cX11_takeTables 36 = .ok (.aload_n 0, 1) := by decide +kernel
theorem dX11_takeTables_37 : decode cX11_takeTables 37 = .ok (.getfield 209, 3) := by decide +kernel
theorem dX11_takeTables_40 : decode cX11_takeTables 40 = .ok (.ifCond .ne 53, 3) := by decide +kernel
theorem dX11_takeTables_43 : decode cX11_takeTables 43 = .ok (.aload_n 0, 1) := by decide +kernel
theorem dX11_takeTables_44 : decode cX11_takeTables 44 = .ok (.iload_n 1, 1) := by decide +kernel
theorem dX11_takeTables_45 : decode cX11_takeTables 45 = .ok (.putfield 203, 3) := by decide +kernel
theorem dX11_takeTables_48 : decode cX11_takeTables 48 = .ok (.aload_n 0, 1) := by decide +kernel
theorem dX11_takeTables_49 : decode cX11_takeTables 49 = .ok (.iload_n 1, 1) := by decide +kernel
theorem dX11_takeTables_50 : decode cX11_takeTables 50 = .ok (.aload_n 0, 1) := by decide +kernel
theorem dX11_takeTables_51 : decode cX11_takeTables 51 = .ok (.getfield 80, 3) := by decide +kernel
theorem dX11_takeTables_54 : decode cX11_takeTables 54 = .ok (.iload_n 2, 1) := by decide +kernel
theorem dX11_takeTables_55 : decode cX11_takeTables 55 = .ok (.iaload, 1) := by decide +kernel
theorem dX11_takeTables_56 : decode cX11_takeTables 56 = .ok (.iadd, 1) := by decide +kernel
theorem dX11_takeTables_57 : decode cX11_takeTables 57 = .ok (.putfield 206, 3) := by decide +kernel
theorem dX11_takeTables_60 : decode cX11_takeTables 60 = .ok (.aload_n 0, 1) := by decide +kernel
theorem dX11_takeTables_61 : decode cX11_takeTables 61 = .ok (.getfield 206, 3) := by decide +kernel
theorem dX11_takeTables_64 : decode cX11_takeTables 64 = .ok (.istore_n 1, 1) := by decide +kernel
theorem dX11_takeTables_65 : decode cX11_takeTables 65 = .ok (.iload_n 2, 1) := by decide +kernel
theorem dX11_takeTables_66 : decode cX11_takeTables 66 = .ok (.ifCond .ne 10, 3) := by decide +kernel
theorem dX11_takeTables_69 : decode cX11_takeTables 69 = .ok (.aload_n 0, 1) := by decide +kernel
theorem dX11_takeTables_70 : decode cX11_takeTables 70 = .ok (.invokevirtual 253, 3) := by decide +kernel
theorem dX11_takeTables_73 : decode cX11_takeTables 73 = .ok (.goto 20, 3) := by decide +kernel
theorem dX11_takeTables_76 : decode cX11_takeTables 76 = .ok (.iload_n 2, 1) := by decide +kernel
theorem dX11_takeTables_77 : decode cX11_takeTables 77 = .ok (.iconst 1, 1) := by decide +kernel
theorem dX11_takeTables_78 : decode cX11_takeTables 78 = .ok (.if_icmp .ne 10, 3) := by decide +kernel
theorem dX11_takeTables_81 : decode cX11_takeTables 81 = .ok (.aload_n 0, 1) := by decide +kernel
theorem dX11_takeTables_82 : decode cX11_takeTables 82 = .ok (.invokevirtual 256, 3) := by decide +kernel
theorem dX11_takeTables_85 : decode cX11_takeTables 85 = .ok (.goto 8, 3) := by decide +kernel
theorem dX11_takeTables_88 : decode cX11_takeTables 88 = .ok (.aload_n 0, 1) := by decide +kernel
theorem dX11_takeTables_89 : decode cX11_takeTables 89 = .ok (.iload_n 2, 1) := by decide +kernel
theorem dX11_takeTables_90 : decode cX11_takeTables 90 = .ok (.invokevirtual 259, 3) := by decide +kernel
theorem dX11_takeTables_93 : decode cX11_takeTables 93 = .ok (.iinc 2 1, 3) := by decide +kernel
theorem dX11_takeTables_96 : decode cX11_takeTables 96 = .ok (.goto (-82), 3) := by decide +kernel
theorem dX11_takeTables_99 : decode cX11_takeTables 99 = .ok (.return_, 1) := by decide +kernel
theorem dX11_takeAdvances_0 : decode cX11_takeAdvances 0 = .ok (.iconst 0, 1) := by decide +kernel
theorem dX11_takeAdvances_1 : decode cX11_takeAdvances 1 = .ok (.istore_n 1, 1) := by decide +kernel
theorem dX11_takeAdvances_2 : decode cX11_takeAdvances 2 = .ok (.iload_n 1, 1) := by decide +kernel
theorem dX11_takeAdvances_3 : decode cX11_takeAdvances 3 = .ok (.aload_n 0, 1) := by decide +kernel
theorem dX11_takeAdvances_4 : decode cX11_takeAdvances 4 = .ok (.getfield 241, 3) := by decide +kernel
theorem dX11_takeAdvances_7 : decode cX11_takeAdvances 7 = .ok (.if_icmp .ge 47, 3) := by decide +kernel
theorem dX11_takeAdvances_10 : decode cX11_takeAdvances 10 = .ok (.aload_n 0, 1) := by decide +kernel
theorem dX11_takeAdvances_11 : decode cX11_takeAdvances 11 = .ok (.getfield 209, 3) := by decide +kernel
theorem dX11_takeAdvances_14 : decode cX11_takeAdvances 14 = .ok (.ifCond .ne 40, 3) := by decide +kernel
theorem dX11_takeAdvances_17 : decode cX11_takeAdvances 17 = .ok (.aload_n 0, 1) := by decide +kernel
theorem dX11_takeAdvances_18 : decode cX11_takeAdvances 18 = .ok (.getfield 38, 3) := by decide +kernel
theorem dX11_takeAdvances_21 : decode cX11_takeAdvances 21 = .ok (.iload_n 1, 1) := by decide +kernel
theorem dX11_takeAdvances_22 : decode cX11_takeAdvances 22 = .ok (.aload_n 0, 1) := by decide +kernel
theorem dX11_takeAdvances_23 : decode cX11_takeAdvances 23 = .ok (.invokevirtual 250, 3) := by decide +kernel
theorem dX11_takeAdvances_26 : decode cX11_takeAdvances 26 = .ok (.iastore, 1) := by decide +kernel
theorem dX11_takeAdvances_27 : decode cX11_takeAdvances 27 = .ok (.aload_n 0, 1) := by decide +kernel
theorem dX11_takeAdvances_28 : decode cX11_takeAdvances 28 = .ok (.aload_n 0, 1) := by decide +kernel
theorem dX11_takeAdvances_29 : decode cX11_takeAdvances 29 = .ok (.getfield 38, 3) := by decide +kernel
theorem dX11_takeAdvances_32 : decode cX11_takeAdvances 32 = .ok (.iload_n 1, 1) := by decide +kernel
theorem dX11_takeAdvances_33 : decode cX11_takeAdvances 33 = .ok (.iaload, 1) := by decide +kernel
theorem dX11_takeAdvances_34 : decode cX11_takeAdvances 34 = .ok (.sipush 2000, 3) := by decide +kernel
theorem dX11_takeAdvances_37 : decode cX11_takeAdvances 37 = .ok (.if_icmp .gt 7, 3) := by decide +kernel
theorem dX11_takeAdvances_40 : decode cX11_takeAdvances 40 = .ok (.iconst 1, 1) := by decide +kernel
theorem dX11_takeAdvances_41 : decode cX11_takeAdvances 41 = .ok (.goto 4, 3) := by decide +kernel
theorem dX11_takeAdvances_44 : decode cX11_takeAdvances 44 = .ok (.iconst 0, 1) := by decide +kernel
theorem dX11_takeAdvances_45 : decode cX11_takeAdvances 45 = .ok (.invokevirtual 219, 3) := by decide +kernel
theorem dX11_takeAdvances_48 : decode cX11_takeAdvances 48 = .ok (.iinc 1 1, 3) := by decide +kernel
theorem dX11_takeAdvances_51 : decode cX11_takeAdvances 51 = .ok (.goto (-49), 3) := by decide +kernel
theorem dX11_takeAdvances_54 : decode cX11_takeAdvances 54 = .ok (.aload_n 0, 1) := by decide +kernel
theorem dX11_takeAdvances_55 : decode cX11_takeAdvances 55 = .ok (.aload_n 0, 1) := by decide +kernel
theorem dX11_takeAdvances_56 : decode cX11_takeAdvances 56 = .ok (.getfield 203, 3) := by decide +kernel
theorem dX11_takeAdvances_59 : decode cX11_takeAdvances 59 = .ok (.aload_n 0, 1) := by decide +kernel
theorem dX11_takeAdvances_60 : decode cX11_takeAdvances 60 = .ok (.getfield 206, 3) := by decide +kernel
theorem dX11_takeAdvances_63 : decode cX11_takeAdvances 63 = .ok (.if_icmp .ne 7, 3) := by decide +kernel
theorem dX11_takeAdvances_66 : decode cX11_takeAdvances 66 = .ok (.iconst 1, 1) := by decide +kernel
theorem dX11_takeAdvances_67 : decode cX11_takeAdvances 67 = .ok (.goto 4, 3) := by decide +kernel
theorem dX11_takeAdvances_70 : decode cX11_takeAdvances 70 = .ok (.iconst 0, 1) := by decide +kernel
theorem dX11_takeAdvances_71 : decode cX11_takeAdvances 71 = .ok (.invokevirtual 219, 3) := by decide +kernel
theorem dX11_takeAdvances_74 : decode cX11_takeAdvances 74 = .ok (.return_, 1) := by decide +kernel
theorem dX11_takeRow_0 : decode cX11_takeRow 0 = .ok (.aload_n 0, 1) := by decide +kernel
theorem dX11_takeRow_1 : decode cX11_takeRow 1 = .ok (.getfield 203, 3) := by decide +kernel
theorem dX11_takeRow_4 : decode cX11_takeRow 4 = .ok (.aload_n 0, 1) := by decide +kernel
theorem dX11_takeRow_5 : decode cX11_takeRow 5 = .ok (.getfield 206, 3) := by decide +kernel
theorem dX11_takeRow_8 : decode cX11_takeRow 8 = .ok (.if_icmp .ge 36, 3) := by decide +kernel
theorem dX11_takeRow_11 : decode cX11_takeRow 11 = .ok (.aload_n 0, 1) := by decide +kernel
theorem dX11_takeRow_12 : decode cX11_takeRow 12 = .ok (.getfield 65, 3) := by decide +kernel
theorem dX11_takeRow_15 : decode cX11_takeRow 15 = .ok (.bipush 20, 2) := by decide +kernel
theorem dX11_takeRow_17 : decode cX11_takeRow 17 = .ok (.iload_n 1, 1) := by decide +kernel
theorem dX11_takeRow_18 : decode cX11_takeRow 18 = .ok (.imul, 1) := by decide +kernel
theorem dX11_takeRow_19 : decode cX11_takeRow 19 = .ok (.aload_n 0, 1) := by decide +kernel
theorem dX11_takeRow_20 : decode cX11_takeRow 20 = .ok (.getfield 62, 3) := by decide +kernel
theorem dX11_takeRow_23 : decode cX11_takeRow 23 = .ok (.iload_n 1, 1) := by decide +kernel
theorem dX11_takeRow_24 : decode cX11_takeRow 24 = .ok (.iaload, 1) := by decide +kernel
theorem dX11_takeRow_25 : decode cX11_takeRow 25 = .ok (.iadd, 1) := by decide +kernel
theorem dX11_takeRow_26 : decode cX11_takeRow 26 = .ok (.aload_n 0, 1) := by decide +kernel
theorem dX11_takeRow_27 : decode cX11_takeRow 27 = .ok (.invokevirtual 216, 3) := by decide +kernel
theorem dX11_takeRow_30 : decode cX11_takeRow 30 = .ok (.iastore, 1) := by decide +kernel
theorem dX11_takeRow_31 : decode cX11_takeRow 31 = .ok (.aload_n 0, 1) := by decide +kernel
theorem dX11_takeRow_32 : decode cX11_takeRow 32 = .ok (.getfield 62, 3) := by decide +kernel
theorem dX11_takeRow_35 : decode cX11_takeRow 35 = .ok (.iload_n 1, 1) := by decide +kernel
theorem dX11_takeRow_36 : decode cX11_takeRow 36 = .ok (.dup2, 1) := by decide +kernel
theorem dX11_takeRow_37 : decode cX11_takeRow 37 = .ok (.iaload, 1) := by decide +kernel
theorem dX11_takeRow_38 : decode cX11_takeRow 38 = .ok (.iconst 1, 1) := by decide +kernel
theorem dX11_takeRow_39 : decode cX11_takeRow 39 = .ok (.iadd, 1) := by decide +kernel
theorem dX11_takeRow_40 : decode cX11_takeRow 40 = .ok (.iastore, 1) := by decide +kernel
theorem dX11_takeRow_41 : decode cX11_takeRow 41 = .ok (.goto (-41), 3) := by decide +kernel
theorem dX11_takeRow_44 : decode cX11_takeRow 44 = .ok (.return_, 1) := by decide +kernel
theorem dX11_exchange_0 : decode cX11_exchange 0 = .ok (.aload_n 0, 1) := by decide +kernel
theorem dX11_exchange_1 : decode cX11_exchange 1 = .ok (.getfield 87, 3) := by decide +kernel
theorem dX11_exchange_4 : decode cX11_exchange 4 = .ok (.istore_n 1, 1) := by decide +kernel
theorem dX11_exchange_5 : decode cX11_exchange 5 = .ok (.aload_n 0, 1) := by decide +kernel
theorem dX11_exchange_6 : decode cX11_exchange 6 = .ok (.aload_n 0, 1) := by decide +kernel
theorem dX11_exchange_7 : decode cX11_exchange 7 = .ok (.getfield 241, 3) := by decide +kernel
theorem dX11_exchange_10 : decode cX11_exchange 10 = .ok (.putfield 87, 3) := by decide +kernel
theorem dX11_exchange_13 : decode cX11_exchange 13 = .ok (.aload_n 0, 1) := by decide +kernel
theorem dX11_exchange_14 : decode cX11_exchange 14 = .ok (.iload_n 1, 1) := by decide +kernel
theorem dX11_exchange_15 : decode cX11_exchange 15 = .ok (.putfield 241, 3) := by decide +kernel
theorem dX11_exchange_18 : decode cX11_exchange 18 = .ok (.iconst 0, 1) := by decide +kernel
theorem dX11_exchange_19 : decode cX11_exchange 19 = .ok (.istore_n 2, 1) := by decide +kernel
theorem dX11_exchange_20 : decode cX11_exchange 20 = .ok (.iload_n 2, 1) := by decide +kernel
theorem dX11_exchange_21 : decode cX11_exchange 21 = .ok (.bipush 6, 2) := by decide +kernel
theorem dX11_exchange_23 : decode cX11_exchange 23 = .ok (.if_icmp .ge 45, 3) := by decide +kernel
theorem dX11_exchange_26 : decode cX11_exchange 26 = .ok (.aload_n 0, 1) := by decide +kernel
theorem dX11_exchange_27 : decode cX11_exchange 27 = .ok (.getfield 7, 3) := by decide +kernel
theorem dX11_exchange_30 : decode cX11_exchange 30 = .ok (.aload_n 0, 1) := by decide +kernel
theorem dX11_exchange_31 : decode cX11_exchange 31 = .ok (.getfield 38, 3) := by decide +kernel
theorem dX11_exchange_34 : decode cX11_exchange 34 = .ok (.iload_n 2, 1) := by decide +kernel
theorem dX11_exchange_35 : decode cX11_exchange 35 = .ok (.invokestatic 262, 3) := by decide +kernel
theorem dX11_exchange_38 : decode cX11_exchange 38 = .ok (.aload_n 0, 1) := by decide +kernel
theorem dX11_exchange_39 : decode cX11_exchange 39 = .ok (.getfield 13, 3) := by decide +kernel
theorem dX11_exchange_42 : decode cX11_exchange 42 = .ok (.aload_n 0, 1) := by decide +kernel
theorem dX11_exchange_43 : decode cX11_exchange 43 = .ok (.getfield 41, 3) := by decide +kernel
theorem dX11_exchange_46 : decode cX11_exchange 46 = .ok (.iload_n 2, 1) := by decide +kernel
theorem dX11_exchange_47 : decode cX11_exchange 47 = .ok (.invokestatic 262, 3) := by decide +kernel
theorem dX11_exchange_50 : decode cX11_exchange 50 = .ok (.aload_n 0, 1) := by decide +kernel
theorem dX11_exchange_51 : decode cX11_exchange 51 = .ok (.getfield 16, 3) := by decide +kernel
theorem dX11_exchange_54 : decode cX11_exchange 54 = .ok (.aload_n 0, 1) := by decide +kernel
theorem dX11_exchange_55 : decode cX11_exchange 55 = .ok (.getfield 44, 3) := by decide +kernel
theorem dX11_exchange_58 : decode cX11_exchange 58 = .ok (.iload_n 2, 1) := by decide +kernel
theorem dX11_exchange_59 : decode cX11_exchange 59 = .ok (.invokestatic 262, 3) := by decide +kernel
theorem dX11_exchange_62 : decode cX11_exchange 62 = .ok (.iinc 2 1, 3) := by decide +kernel
theorem dX11_exchange_65 : decode cX11_exchange 65 = .ok (.goto (-45), 3) := by decide +kernel
theorem dX11_exchange_68 : decode cX11_exchange 68 = .ok (.iconst 0, 1) := by decide +kernel
theorem dX11_exchange_69 : decode cX11_exchange 69 = .ok (.istore_n 2, 1) := by decide +kernel
theorem dX11_exchange_70 : decode cX11_exchange 70 = .ok (.iload_n 2, 1) := by decide +kernel
theorem dX11_exchange_71 : decode cX11_exchange 71 = .ok (.bipush 96, 2) := by decide +kernel
theorem dX11_exchange_73 : decode cX11_exchange 73 = .ok (.if_icmp .ge 92, 3) := by decide +kernel
theorem dX11_exchange_76 : decode cX11_exchange 76 = .ok (.aload_n 0, 1) := by decide +kernel
theorem dX11_exchange_77 : decode cX11_exchange 77 = .ok (.getfield 19, 3) := by decide +kernel
theorem dX11_exchange_80 : decode cX11_exchange 80 = .ok (.aload_n 0, 1) := by decide +kernel
theorem dX11_exchange_81 : decode cX11_exchange 81 = .ok (.getfield 47, 3) := by decide +kernel
theorem dX11_exchange_84 : decode cX11_exchange 84 = .ok (.iload_n 2, 1) := by decide +kernel
theorem dX11_exchange_85 : decode cX11_exchange 85 = .ok (.invokestatic 262, 3) := by decide +kernel
theorem dX11_exchange_88 : decode cX11_exchange 88 = .ok (.aload_n 0, 1) := by decide +kernel
theorem dX11_exchange_89 : decode cX11_exchange 89 = .ok (.getfield 22, 3) := by decide +kernel
theorem dX11_exchange_92 : decode cX11_exchange 92 = .ok (.aload_n 0, 1) := by decide +kernel
theorem dX11_exchange_93 : decode cX11_exchange 93 = .ok (.getfield 50, 3) := by decide +kernel
theorem dX11_exchange_96 : decode cX11_exchange 96 = .ok (.iload_n 2, 1) := by decide +kernel
theorem dX11_exchange_97 : decode cX11_exchange 97 = .ok (.invokestatic 262, 3) := by decide +kernel
theorem dX11_exchange_100 : decode cX11_exchange 100 = .ok (.aload_n 0, 1) := by decide +kernel
theorem dX11_exchange_101 : decode cX11_exchange 101 = .ok (.getfield 29, 3) := by decide +kernel
theorem dX11_exchange_104 : decode cX11_exchange 104 = .ok (.aload_n 0, 1) := by decide +kernel
theorem dX11_exchange_105 : decode cX11_exchange 105 = .ok (.getfield 56, 3) := by decide +kernel
theorem dX11_exchange_108 : decode cX11_exchange 108 = .ok (.iload_n 2, 1) := by decide +kernel
theorem dX11_exchange_109 : decode cX11_exchange 109 = .ok (.invokestatic 262, 3) := by decide +kernel
theorem dX11_exchange_112 : decode cX11_exchange 112 = .ok (.aload_n 0, 1) := by decide +kernel
theorem dX11_exchange_113 : decode cX11_exchange 113 = .ok (.getfield 25, 3) := by decide +kernel
theorem dX11_exchange_116 : decode cX11_exchange 116 = .ok (.iload_n 2, 1) := by decide +kernel
theorem dX11_exchange_117 : decode cX11_exchange 117 = .ok (.baload, 1) := by decide +kernel
theorem dX11_exchange_118 : decode cX11_exchange 118 = .ok (.istore_n 3, 1) := by decide +kernel
theorem dX11_exchange_119 : decode cX11_exchange 119 = .ok (.aload_n 0, 1) := by decide +kernel
theorem dX11_exchange_120 : decode cX11_exchange 120 = .ok (.getfield 25, 3) := by decide +kernel
theorem dX11_exchange_123 : decode cX11_exchange 123 = .ok (.iload_n 2, 1) := by decide +kernel
theorem dX11_exchange_124 : decode cX11_exchange 124 = .ok (.aload_n 0, 1) := by decide +kernel
theorem dX11_exchange_125 : decode cX11_exchange 125 = .ok (.getfield 53, 3) := by decide +kernel
theorem dX11_exchange_128 : decode cX11_exchange 128 = .ok (.iload_n 2, 1) := by decide +kernel
theorem dX11_exchange_129 : decode cX11_exchange 129 = .ok (.iaload, 1) := by decide +kernel
theorem dX11_exchange_130 : decode cX11_exchange 130 = .ok (.sipush 128, 3) := by decide +kernel
theorem dX11_exchange_133 : decode cX11_exchange 133 = .ok (.if_icmp .ge 7, 3) := by decide +kernel
theorem dX11_exchange_136 : decode cX11_exchange 136 = .ok (.iconst 1, 1) := by decide +kernel
theorem dX11_exchange_137 : decode cX11_exchange 137 = .ok (.goto 4, 3) := by decide +kernel
theorem dX11_exchange_140 : decode cX11_exchange 140 = .ok (.iconst 0, 1) := by decide +kernel
theorem dX11_exchange_141 : decode cX11_exchange 141 = .ok (.bastore, 1) := by decide +kernel
theorem dX11_exchange_142 : decode cX11_exchange 142 = .ok (.aload_n 0, 1) := by decide +kernel
theorem dX11_exchange_143 : decode cX11_exchange 143 = .ok (.getfield 53, 3) := by decide +kernel
theorem dX11_exchange_146 : decode cX11_exchange 146 = .ok (.iload_n 2, 1) := by decide +kernel
theorem dX11_exchange_147 : decode cX11_exchange 147 = .ok (.iload_n 3, 1) := by decide +kernel
theorem dX11_exchange_148 : decode cX11_exchange 148 = .ok (.ifCond .eq 7, 3) := by decide +kernel
theorem dX11_exchange_151 : decode cX11_exchange 151 = .ok (.iconst 0, 1) := by decide +kernel
theorem dX11_exchange_152 : decode cX11_exchange 152 = .ok (.goto 6, 3) := by decide +kernel
theorem dX11_exchange_155 : decode cX11_exchange 155 = .ok (.sipush 128, 3) := by decide +kernel
theorem dX11_exchange_158 : decode cX11_exchange 158 = .ok (.iastore, 1) := by decide +kernel
theorem dX11_exchange_159 : decode cX11_exchange 159 = .ok (.iinc 2 1, 3) := by decide +kernel
theorem dX11_exchange_162 : decode cX11_exchange 162 = .ok (.goto (-92), 3) := by decide +kernel
theorem dX11_exchange_165 : decode cX11_exchange 165 = .ok (.iconst 0, 1) := by decide +kernel
theorem dX11_exchange_166 : decode cX11_exchange 166 = .ok (.istore_n 2, 1) := by decide +kernel
theorem dX11_exchange_167 : decode cX11_exchange 167 = .ok (.iload_n 2, 1) := by decide +kernel
theorem dX11_exchange_168 : decode cX11_exchange 168 = .ok (.bipush 7, 2) := by decide +kernel
theorem dX11_exchange_170 : decode cX11_exchange 170 = .ok (.if_icmp .ge 21, 3) := by decide +kernel
theorem dX11_exchange_173 : decode cX11_exchange 173 = .ok (.aload_n 0, 1) := by decide +kernel
theorem dX11_exchange_174 : decode cX11_exchange 174 = .ok (.getfield 32, 3) := by decide +kernel
theorem dX11_exchange_177 : decode cX11_exchange 177 = .ok (.aload_n 0, 1) := by decide +kernel
theorem dX11_exchange_178 : decode cX11_exchange 178 = .ok (.getfield 62, 3) := by decide +kernel
theorem dX11_exchange_181 : decode cX11_exchange 181 = .ok (.iload_n 2, 1) := by decide +kernel
theorem dX11_exchange_182 : decode cX11_exchange 182 = .ok (.invokestatic 262, 3) := by decide +kernel
theorem dX11_exchange_185 : decode cX11_exchange 185 = .ok (.iinc 2 1, 3) := by decide +kernel
theorem dX11_exchange_188 : decode cX11_exchange 188 = .ok (.goto (-21), 3) := by decide +kernel
theorem dX11_exchange_191 : decode cX11_exchange 191 = .ok (.iconst 0, 1) := by decide +kernel
theorem dX11_exchange_192 : decode cX11_exchange 192 = .ok (.istore_n 2, 1) := by decide +kernel
theorem dX11_exchange_193 : decode cX11_exchange 193 = .ok (.iload_n 2, 1) := by decide +kernel
theorem dX11_exchange_194 : decode cX11_exchange 194 = .ok (.sipush 140, 3) := by decide +kernel
theorem dX11_exchange_197 : decode cX11_exchange 197 = .ok (.if_icmp .ge 21, 3) := by decide +kernel
theorem dX11_exchange_200 : decode cX11_exchange 200 = .ok (.aload_n 0, 1) := by decide +kernel
theorem dX11_exchange_201 : decode cX11_exchange 201 = .ok (.getfield 35, 3) := by decide +kernel
theorem dX11_exchange_204 : decode cX11_exchange 204 = .ok (.aload_n 0, 1) := by decide +kernel
theorem dX11_exchange_205 : decode cX11_exchange 205 = .ok (.getfield 65, 3) := by decide +kernel
theorem dX11_exchange_208 : decode cX11_exchange 208 = .ok (.iload_n 2, 1) := by decide +kernel
theorem dX11_exchange_209 : decode cX11_exchange 209 = .ok (.invokestatic 262, 3) := by decide +kernel
theorem dX11_exchange_212 : decode cX11_exchange 212 = .ok (.iinc 2 1, 3) := by decide +kernel
theorem dX11_exchange_215 : decode cX11_exchange 215 = .ok (.goto (-22), 3) := by decide +kernel
theorem dX11_exchange_218 : decode cX11_exchange 218 = .ok (.return_, 1) := by decide +kernel
theorem dX11_swap_0 : decode cX11_swap 0 = .ok (.aload_n 0, 1) := by decide +kernel
theorem dX11_swap_1 : decode cX11_swap 1 = .ok (.iload_n 2, 1) := by decide +kernel
theorem dX11_swap_2 : decode cX11_swap 2 = .ok (.iaload, 1) := by decide +kernel
theorem dX11_swap_3 : decode cX11_swap 3 = .ok (.istore_n 3, 1) := by decide +kernel
theorem dX11_swap_4 : decode cX11_swap 4 = .ok (.aload_n 0, 1) := by decide +kernel
theorem dX11_swap_5 : decode cX11_swap 5 = .ok (.iload_n 2, 1) := by decide +kernel
theorem dX11_swap_6 : decode cX11_swap 6 = .ok (.aload_n 1, 1) := by decide +kernel
theorem dX11_swap_7 : decode cX11_swap 7 = .ok (.iload_n 2, 1) := by decide +kernel
theorem dX11_swap_8 : decode cX11_swap 8 = .ok (.iaload, 1) := by decide +kernel
theorem dX11_swap_9 : decode cX11_swap 9 = .ok (.iastore, 1) := by decide +kernel
theorem dX11_swap_10 : decode cX11_swap 10 = .ok (.aload_n 1, 1) := by decide +kernel
theorem dX11_swap_11 : decode cX11_swap 11 = .ok (.iload_n 2, 1) := by decide +kernel
theorem dX11_swap_12 : decode cX11_swap 12 = .ok (.iload_n 3, 1) := by decide +kernel
theorem dX11_swap_13 : decode cX11_swap 13 = .ok (.iastore, 1) := by decide +kernel
theorem dX11_swap_14 : decode cX11_swap 14 = .ok (.return_, 1) := by decide +kernel
theorem dX11_asLong_0 : decode cX11_asLong 0 = .ok (.iconst 1, 1) := by decide +kernel
theorem dX11_asLong_1 : decode cX11_asLong 1 = .ok (.istore_n 1, 1) := by decide +kernel
theorem dX11_asLong_2 : decode cX11_asLong 2 = .ok (.iconst 0, 1) := by decide +kernel
theorem dX11_asLong_3 : decode cX11_asLong 3 = .ok (.istore_n 2, 1) := by decide +kernel
theorem dX11_asLong_4 : decode cX11_asLong 4 = .ok (.iload_n 2, 1) := by decide +kernel
theorem dX11_asLong_5 : decode cX11_asLong 5 = .ok (.iconst 2, 1) := by decide +kernel
theorem dX11_asLong_6 : decode cX11_asLong 6 = .ok (.if_icmp .ge 46, 3) := by decide +kernel
theorem dX11_asLong_9 : decode cX11_asLong 9 = .ok (.aload_n 0, 1) := by decide +kernel
theorem dX11_asLong_10 : decode cX11_asLong 10 = .ok (.getfield 77, 3) := by decide +kernel
theorem dX11_asLong_13 : decode cX11_asLong 13 = .ok (.iload_n 2, 1) := by decide +kernel
theorem dX11_asLong_14 : decode cX11_asLong 14 = .ok (.iaload, 1) := by decide +kernel
theorem dX11_asLong_15 : decode cX11_asLong 15 = .ok (.ifCond .lt 31, 3) := by decide +kernel
theorem dX11_asLong_18 : decode cX11_asLong 18 = .ok (.aload_n 0, 1) := by decide +kernel
theorem dX11_asLong_19 : decode cX11_asLong 19 = .ok (.iload_n 2, 1) := by decide +kernel
theorem dX11_asLong_20 : decode cX11_asLong 20 = .ok (.invokevirtual 184, 3) := by decide +kernel
theorem dX11_asLong_23 : decode cX11_asLong 23 = .ok (.iload_n 1, 1) := by decide +kernel
theorem dX11_asLong_24 : decode cX11_asLong 24 = .ok (.ifCond .eq 20, 3) := by decide +kernel
theorem dX11_asLong_27 : decode cX11_asLong 27 = .ok (.aload_n 0, 1) := by decide +kernel
theorem dX11_asLong_28 : decode cX11_asLong 28 = .ok (.getfield 107, 3) := by decide +kernel
theorem dX11_asLong_31 : decode cX11_asLong 31 = .ok (.aload_n 0, 1) := by decide +kernel
theorem dX11_asLong_32 : decode cX11_asLong 32 = .ok (.getfield 77, 3) := by decide +kernel
theorem dX11_asLong_35 : decode cX11_asLong 35 = .ok (.iload_n 2, 1) := by decide +kernel
theorem dX11_asLong_36 : decode cX11_asLong 36 = .ok (.iaload, 1) := by decide +kernel
theorem dX11_asLong_37 : decode cX11_asLong 37 = .ok (.if_icmp .ne 7, 3) := by decide +kernel
theorem dX11_asLong_40 : decode cX11_asLong 40 = .ok (.iconst 1, 1) := by decide +kernel
theorem dX11_asLong_41 : decode cX11_asLong 41 = .ok (.goto 4, 3) := by decide +kernel
theorem dX11_asLong_44 : decode cX11_asLong 44 = .ok (.iconst 0, 1) := by decide +kernel
theorem dX11_asLong_45 : decode cX11_asLong 45 = .ok (.istore_n 1, 1) := by decide +kernel
theorem dX11_asLong_46 : decode cX11_asLong 46 = .ok (.iinc 2 1, 3) := by decide +kernel
theorem dX11_asLong_49 : decode cX11_asLong 49 = .ok (.goto (-45), 3) := by decide +kernel
theorem dX11_asLong_52 : decode cX11_asLong 52 = .ok (.iload_n 1, 1) := by decide +kernel
theorem dX11_asLong_53 : decode cX11_asLong 53 = .ok (.ireturn, 1) := by decide +kernel
theorem dX11_readStages_0 : decode cX11_readStages 0 = .ok (.aload_n 0, 1) := by decide +kernel
theorem dX11_readStages_1 : decode cX11_readStages 1 = .ok (.iconst 0, 1) := by decide +kernel
theorem dX11_readStages_2 : decode cX11_readStages 2 = .ok (.putfield 209, 3) := by decide +kernel
theorem dX11_readStages_5 : decode cX11_readStages 5 = .ok (.aload_n 0, 1) := by decide +kernel
theorem dX11_readStages_6 : decode cX11_readStages 6 = .ok (.invokevirtual 266, 3) := by decide +kernel
theorem dX11_readStages_9 : decode cX11_readStages 9 = .ok (.istore_n 1, 1) := by decide +kernel
theorem dX11_readStages_10 : decode cX11_readStages 10 = .ok (.aload_n 0, 1) := by decide +kernel
theorem dX11_readStages_11 : decode cX11_readStages 11 = .ok (.getfield 209, 3) := by decide +kernel
theorem dX11_readStages_14 : decode cX11_readStages 14 = .ok (.ifCond .eq 5, 3) := by decide +kernel
theorem dX11_readStages_17 : decode cX11_readStages 17 = .ok (.iconst 1, 1) := by decide +kernel
theorem dX11_readStages_18 : decode cX11_readStages 18 = .ok (.ireturn, 1) := by decide +kernel
theorem dX11_readStages_19 : decode cX11_readStages 19 = .ok (.aload_n 0, 1) := by decide +kernel
theorem dX11_readStages_20 : decode cX11_readStages 20 = .ok (.iload_n 1, 1) := by decide +kernel
theorem dX11_readStages_21 : decode cX11_readStages 21 = .ok (.invokevirtual 269, 3) := by decide +kernel
theorem dX11_readStages_24 : decode cX11_readStages 24 = .ok (.aload_n 0, 1) := by decide +kernel
theorem dX11_readStages_25 : decode cX11_readStages 25 = .ok (.getfield 209, 3) := by decide +kernel
theorem dX11_readStages_28 : decode cX11_readStages 28 = .ok (.ifCond .eq 5, 3) := by decide +kernel
theorem dX11_readStages_31 : decode cX11_readStages 31 = .ok (.iconst 2, 1) := by decide +kernel
end
section
theorem dX11_readStages_32 : decode cX11_readStages 32 = .ok (.ireturn, 1) := by decide +kernel
theorem dX11_readStages_33 : decode cX11_readStages 33 = .ok (.aload_n 0, 1) := by decide +kernel
theorem dX11_readStages_34 : decode cX11_readStages 34 = .ok (.invokevirtual 272, 3) := by decide +kernel
theorem dX11_readStages_37 : decode cX11_readStages 37 = .ok (.aload_n 0, 1) := by decide +kernel
theorem dX11_readStages_38 : decode cX11_readStages 38 = .ok (.getfield 209, 3) := by decide +kernel
theorem dX11_readStages_41 : decode cX11_readStages 41 = .ok (.ifCond .eq 5, 3) := by decide +kernel
theorem dX11_readStages_44 : decode cX11_readStages 44 = .ok (.iconst 3, 1) := by decide +kernel
theorem dX11_readStages_45 : decode cX11_readStages 45 = .ok (.ireturn, 1) := by decide +kernel
theorem dX11_readStages_46 : decode cX11_readStages 46 = .ok (.aload_n 0, 1) := by decide +kernel
theorem dX11_readStages_47 : decode cX11_readStages 47 = .ok (.invokevirtual 275, 3) := by decide +kernel
theorem dX11_readStages_50 : decode cX11_readStages 50 = .ok (.aload_n 0, 1) := by decide +kernel
theorem dX11_readStages_51 : decode cX11_readStages 51 = .ok (.invokevirtual 278, 3) := by decide +kernel
theorem dX11_readStages_54 : decode cX11_readStages 54 = .ok (.ifCond .eq 5, 3) := by decide +kernel
theorem dX11_readStages_57 : decode cX11_readStages 57 = .ok (.iconst 0, 1) := by decide +kernel
theorem dX11_readStages_58 : decode cX11_readStages 58 = .ok (.ireturn, 1) := by decide +kernel
theorem dX11_readStages_59 : decode cX11_readStages 59 = .ok (.aload_n 0, 1) := by decide +kernel
theorem dX11_readStages_60 : decode cX11_readStages 60 = .ok (.invokevirtual 275, 3) := by decide +kernel
theorem dX11_readStages_63 : decode cX11_readStages 63 = .ok (.iconst 4, 1) := by decide +kernel
theorem dX11_readStages_64 : decode cX11_readStages 64 = .ok (.ireturn, 1) := by decide +kernel
theorem dX11_read_0 : decode cX11_read 0 = .ok (.aload_n 0, 1) := by decide +kernel
theorem dX11_read_1 : decode cX11_read 1 = .ok (.aload_n 0, 1) := by decide +kernel
theorem dX11_read_2 : decode cX11_read 2 = .ok (.invokevirtual 281, 3) := by decide +kernel
theorem dX11_read_5 : decode cX11_read 5 = .ok (.putfield 284, 3) := by decide +kernel
theorem dX11_read_8 : decode cX11_read 8 = .ok (.aload_n 0, 1) := by decide +kernel
theorem dX11_read_9 : decode cX11_read 9 = .ok (.aload_n 0, 1) := by decide +kernel
theorem dX11_read_10 : decode cX11_read 10 = .ok (.getfield 284, 3) := by decide +kernel
theorem dX11_read_13 : decode cX11_read 13 = .ok (.ifCond .le 7, 3) := by decide +kernel
theorem dX11_read_16 : decode cX11_read 16 = .ok (.iconst 1, 1) := by decide +kernel
theorem dX11_read_17 : decode cX11_read 17 = .ok (.goto 4, 3) := by decide +kernel
theorem dX11_read_20 : decode cX11_read 20 = .ok (.iconst 0, 1) := by decide +kernel
theorem dX11_read_21 : decode cX11_read 21 = .ok (.putfield 83, 3) := by decide +kernel
theorem dX11_read_24 : decode cX11_read 24 = .ok (.aload_n 0, 1) := by decide +kernel
theorem dX11_read_25 : decode cX11_read 25 = .ok (.getfield 83, 3) := by decide +kernel
theorem dX11_read_28 : decode cX11_read 28 = .ok (.ifCond .le 7, 3) := by decide +kernel
theorem dX11_read_31 : decode cX11_read 31 = .ok (.iconst 0, 1) := by decide +kernel
theorem dX11_read_32 : decode cX11_read 32 = .ok (.goto 7, 3) := by decide +kernel
theorem dX11_read_35 : decode cX11_read 35 = .ok (.aload_n 0, 1) := by decide +kernel
theorem dX11_read_36 : decode cX11_read 36 = .ok (.invokevirtual 177, 3) := by decide +kernel
theorem dX11_read_39 : decode cX11_read 39 = .ok (.ireturn, 1) := by decide +kernel
theorem dX11_stage_0 : decode cX11_stage 0 = .ok (.aload_n 0, 1) := by decide +kernel
theorem dX11_stage_1 : decode cX11_stage 1 = .ok (.iconst 0, 1) := by decide +kernel
theorem dX11_stage_2 : decode cX11_stage 2 = .ok (.putfield 83, 3) := by decide +kernel
theorem dX11_stage_5 : decode cX11_stage 5 = .ok (.aload_n 0, 1) := by decide +kernel
theorem dX11_stage_6 : decode cX11_stage 6 = .ok (.getfield 284, 3) := by decide +kernel
theorem dX11_stage_9 : decode cX11_stage 9 = .ok (.ireturn, 1) := by decide +kernel
theorem dX11_put_0 : decode cX11_put 0 = .ok (.aload_n 0, 1) := by decide +kernel
theorem dX11_put_1 : decode cX11_put 1 = .ok (.iload_n 3, 1) := by decide +kernel
theorem dX11_put_2 : decode cX11_put 2 = .ok (.iconst 1, 1) := by decide +kernel
theorem dX11_put_3 : decode cX11_put 3 = .ok (.if_icmp .lt 9, 3) := by decide +kernel
theorem dX11_put_6 : decode cX11_put 6 = .ok (.iload_n 3, 1) := by decide +kernel
theorem dX11_put_7 : decode cX11_put 7 = .ok (.bipush 8, 2) := by decide +kernel
theorem dX11_put_9 : decode cX11_put 9 = .ok (.if_icmp .le 7, 3) := by decide +kernel
theorem dX11_put_12 : decode cX11_put 12 = .ok (.iconst 1, 1) := by decide +kernel
theorem dX11_put_13 : decode cX11_put 13 = .ok (.goto 20, 3) := by decide +kernel
theorem dX11_put_16 : decode cX11_put 16 = .ok (.aload_n 0, 1) := by decide +kernel
theorem dX11_put_17 : decode cX11_put 17 = .ok (.getfield 137, 3) := by decide +kernel
theorem dX11_put_20 : decode cX11_put 20 = .ok (.iload_n 3, 1) := by decide +kernel
theorem dX11_put_21 : decode cX11_put 21 = .ok (.iadd, 1) := by decide +kernel
theorem dX11_put_22 : decode cX11_put 22 = .ok (.sipush 1500, 3) := by decide +kernel
theorem dX11_put_25 : decode cX11_put 25 = .ok (.if_icmp .le 7, 3) := by decide +kernel
theorem dX11_put_28 : decode cX11_put 28 = .ok (.iconst 2, 1) := by decide +kernel
theorem dX11_put_29 : decode cX11_put 29 = .ok (.goto 4, 3) := by decide +kernel
theorem dX11_put_32 : decode cX11_put 32 = .ok (.iconst 0, 1) := by decide +kernel
theorem dX11_put_33 : decode cX11_put 33 = .ok (.putfield 83, 3) := by decide +kernel
theorem dX11_put_36 : decode cX11_put 36 = .ok (.aload_n 0, 1) := by decide +kernel
theorem dX11_put_37 : decode cX11_put 37 = .ok (.getfield 83, 3) := by decide +kernel
theorem dX11_put_40 : decode cX11_put 40 = .ok (.ifCond .le 5, 3) := by decide +kernel
theorem dX11_put_43 : decode cX11_put 43 = .ok (.iconst 0, 1) := by decide +kernel
theorem dX11_put_44 : decode cX11_put 44 = .ok (.ireturn, 1) := by decide +kernel
theorem dX11_put_45 : decode cX11_put 45 = .ok (.iload_n 3, 1) := by decide +kernel
theorem dX11_put_46 : decode cX11_put 46 = .ok (.iconst 1, 1) := by decide +kernel
theorem dX11_put_47 : decode cX11_put 47 = .ok (.isub, 1) := by decide +kernel
theorem dX11_put_48 : decode cX11_put 48 = .ok (.istore 4, 2) := by decide +kernel
theorem dX11_put_50 : decode cX11_put 50 = .ok (.iload 4, 2) := by decide +kernel
theorem dX11_put_52 : decode cX11_put 52 = .ok (.ifCond .lt 25, 3) := by decide +kernel
theorem dX11_put_55 : decode cX11_put 55 = .ok (.aload_n 0, 1) := by decide +kernel
theorem dX11_put_56 : decode cX11_put 56 = .ok (.lload_n 1, 1) := by decide +kernel
theorem dX11_put_57 : decode cX11_put 57 = .ok (.bipush 8, 2) := by decide +kernel
theorem dX11_put_59 : decode cX11_put 59 = .ok (.iload 4, 2) := by decide +kernel
theorem dX11_put_61 : decode cX11_put 61 = .ok (.imul, 1) := by decide +kernel
theorem dX11_put_62 : decode cX11_put 62 = .ok (.lshr, 1) := by decide +kernel
theorem dX11_put_63 : decode cX11_put 63 = .ok (.ldc2_w 102, 3) := by decide +kernel
theorem dX11_put_66 : decode cX11_put 66 = .ok (.land, 1) := by decide +kernel
theorem dX11_put_67 : decode cX11_put 67 = .ok (.l2i, 1) := by decide +kernel
theorem dX11_put_68 : decode cX11_put 68 = .ok (.invokevirtual 140, 3) := by decide +kernel
theorem dX11_put_71 : decode cX11_put 71 = .ok (.iinc 4 (-1), 3) := by decide +kernel
theorem dX11_put_74 : decode cX11_put 74 = .ok (.goto (-24), 3) := by decide +kernel
theorem dX11_put_77 : decode cX11_put 77 = .ok (.aload_n 0, 1) := by decide +kernel
theorem dX11_put_78 : decode cX11_put 78 = .ok (.getfield 137, 3) := by decide +kernel
theorem dX11_put_81 : decode cX11_put 81 = .ok (.ireturn, 1) := by decide +kernel
theorem dX11_set_0 : decode cX11_set 0 = .ok (.aload_n 0, 1) := by decide +kernel
theorem dX11_set_1 : decode cX11_set 1 = .ok (.iload_n 1, 1) := by decide +kernel
theorem dX11_set_2 : decode cX11_set 2 = .ok (.aload_n 0, 1) := by decide +kernel
theorem dX11_set_3 : decode cX11_set 3 = .ok (.getfield 137, 3) := by decide +kernel
theorem dX11_set_6 : decode cX11_set 6 = .ok (.invokestatic 90, 3) := by decide +kernel
theorem dX11_set_9 : decode cX11_set 9 = .ok (.ifCond .eq 7, 3) := by decide +kernel
theorem dX11_set_12 : decode cX11_set 12 = .ok (.iconst 1, 1) := by decide +kernel
theorem dX11_set_13 : decode cX11_set 13 = .ok (.goto 18, 3) := by decide +kernel
theorem dX11_set_16 : decode cX11_set 16 = .ok (.iload_n 2, 1) := by decide +kernel
theorem dX11_set_17 : decode cX11_set 17 = .ok (.sipush 256, 3) := by decide +kernel
theorem dX11_set_20 : decode cX11_set 20 = .ok (.invokestatic 90, 3) := by decide +kernel
theorem dX11_set_23 : decode cX11_set 23 = .ok (.ifCond .eq 7, 3) := by decide +kernel
theorem dX11_set_26 : decode cX11_set 26 = .ok (.iconst 2, 1) := by decide +kernel
theorem dX11_set_27 : decode cX11_set 27 = .ok (.goto 4, 3) := by decide +kernel
theorem dX11_set_30 : decode cX11_set 30 = .ok (.iconst 0, 1) := by decide +kernel
theorem dX11_set_31 : decode cX11_set 31 = .ok (.putfield 83, 3) := by decide +kernel
theorem dX11_set_34 : decode cX11_set 34 = .ok (.aload_n 0, 1) := by decide +kernel
theorem dX11_set_35 : decode cX11_set 35 = .ok (.getfield 83, 3) := by decide +kernel
theorem dX11_set_38 : decode cX11_set 38 = .ok (.ifCond .ne 10, 3) := by decide +kernel
theorem dX11_set_41 : decode cX11_set 41 = .ok (.aload_n 0, 1) := by decide +kernel
theorem dX11_set_42 : decode cX11_set 42 = .ok (.getfield 68, 3) := by decide +kernel
theorem dX11_set_45 : decode cX11_set 45 = .ok (.iload_n 1, 1) := by decide +kernel
theorem dX11_set_46 : decode cX11_set 46 = .ok (.iload_n 2, 1) := by decide +kernel
theorem dX11_set_47 : decode cX11_set 47 = .ok (.iastore, 1) := by decide +kernel
theorem dX11_set_48 : decode cX11_set 48 = .ok (.return_, 1) := by decide +kernel
theorem dX11_cut_0 : decode cX11_cut 0 = .ok (.aload_n 0, 1) := by decide +kernel
theorem dX11_cut_1 : decode cX11_cut 1 = .ok (.iload_n 1, 1) := by decide +kernel
theorem dX11_cut_2 : decode cX11_cut 2 = .ok (.ifCond .lt 11, 3) := by decide +kernel
theorem dX11_cut_5 : decode cX11_cut 5 = .ok (.iload_n 1, 1) := by decide +kernel
theorem dX11_cut_6 : decode cX11_cut 6 = .ok (.aload_n 0, 1) := by decide +kernel
theorem dX11_cut_7 : decode cX11_cut 7 = .ok (.getfield 137, 3) := by decide +kernel
theorem dX11_cut_10 : decode cX11_cut 10 = .ok (.if_icmp .le 7, 3) := by decide +kernel
theorem dX11_cut_13 : decode cX11_cut 13 = .ok (.iconst 1, 1) := by decide +kernel
theorem dX11_cut_14 : decode cX11_cut 14 = .ok (.goto 4, 3) := by decide +kernel
theorem dX11_cut_17 : decode cX11_cut 17 = .ok (.iconst 0, 1) := by decide +kernel
theorem dX11_cut_18 : decode cX11_cut 18 = .ok (.putfield 83, 3) := by decide +kernel
theorem dX11_cut_21 : decode cX11_cut 21 = .ok (.aload_n 0, 1) := by decide +kernel
theorem dX11_cut_22 : decode cX11_cut 22 = .ok (.getfield 83, 3) := by decide +kernel
theorem dX11_cut_25 : decode cX11_cut 25 = .ok (.ifCond .ne 8, 3) := by decide +kernel
theorem dX11_cut_28 : decode cX11_cut 28 = .ok (.aload_n 0, 1) := by decide +kernel
theorem dX11_cut_29 : decode cX11_cut 29 = .ok (.iload_n 1, 1) := by decide +kernel
theorem dX11_cut_30 : decode cX11_cut 30 = .ok (.putfield 137, 3) := by decide +kernel
theorem dX11_cut_33 : decode cX11_cut 33 = .ok (.return_, 1) := by decide +kernel
theorem dX11_at_0 : decode cX11_at 0 = .ok (.aload_n 0, 1) := by decide +kernel
theorem dX11_at_1 : decode cX11_at 1 = .ok (.iload_n 1, 1) := by decide +kernel
theorem dX11_at_2 : decode cX11_at 2 = .ok (.iconst (-1), 1) := by decide +kernel
theorem dX11_at_3 : decode cX11_at 3 = .ok (.if_icmp .lt 11, 3) := by decide +kernel
theorem dX11_at_6 : decode cX11_at 6 = .ok (.iload_n 1, 1) := by decide +kernel
theorem dX11_at_7 : decode cX11_at 7 = .ok (.aload_n 0, 1) := by decide +kernel
theorem dX11_at_8 : decode cX11_at 8 = .ok (.getfield 137, 3) := by decide +kernel
theorem dX11_at_11 : decode cX11_at 11 = .ok (.if_icmp .lt 7, 3) := by decide +kernel
theorem dX11_at_14 : decode cX11_at 14 = .ok (.iconst 1, 1) := by decide +kernel
theorem dX11_at_15 : decode cX11_at 15 = .ok (.goto 4, 3) := by decide +kernel
theorem dX11_at_18 : decode cX11_at 18 = .ok (.iconst 0, 1) := by decide +kernel
theorem dX11_at_19 : decode cX11_at 19 = .ok (.putfield 83, 3) := by decide +kernel
theorem dX11_at_22 : decode cX11_at 22 = .ok (.aload_n 0, 1) := by decide +kernel
theorem dX11_at_23 : decode cX11_at 23 = .ok (.getfield 83, 3) := by decide +kernel
theorem dX11_at_26 : decode cX11_at 26 = .ok (.ifCond .le 7, 3) := by decide +kernel
theorem dX11_at_29 : decode cX11_at 29 = .ok (.iconst 0, 1) := by decide +kernel
theorem dX11_at_30 : decode cX11_at 30 = .ok (.goto 20, 3) := by decide +kernel
theorem dX11_at_33 : decode cX11_at 33 = .ok (.iload_n 1, 1) := by decide +kernel
theorem dX11_at_34 : decode cX11_at 34 = .ok (.ifCond .ge 10, 3) := by decide +kernel
theorem dX11_at_37 : decode cX11_at 37 = .ok (.aload_n 0, 1) := by decide +kernel
theorem dX11_at_38 : decode cX11_at 38 = .ok (.getfield 137, 3) := by decide +kernel
theorem dX11_at_41 : decode cX11_at 41 = .ok (.goto 9, 3) := by decide +kernel
theorem dX11_at_44 : decode cX11_at 44 = .ok (.aload_n 0, 1) := by decide +kernel
theorem dX11_at_45 : decode cX11_at 45 = .ok (.getfield 68, 3) := by decide +kernel
theorem dX11_at_48 : decode cX11_at 48 = .ok (.iload_n 1, 1) := by decide +kernel
theorem dX11_at_49 : decode cX11_at 49 = .ok (.iaload, 1) := by decide +kernel
theorem dX11_at_50 : decode cX11_at 50 = .ok (.ireturn, 1) := by decide +kernel
theorem dX11_count_0 : decode cX11_count 0 = .ok (.aload_n 0, 1) := by decide +kernel
theorem dX11_count_1 : decode cX11_count 1 = .ok (.iconst 0, 1) := by decide +kernel
theorem dX11_count_2 : decode cX11_count 2 = .ok (.putfield 83, 3) := by decide +kernel
theorem dX11_count_5 : decode cX11_count 5 = .ok (.iload_n 1, 1) := by decide +kernel
theorem dX11_count_6 : decode cX11_count 6 = .ok (.iconst (-1), 1) := by decide +kernel
theorem dX11_count_7 : decode cX11_count 7 = .ok (.if_icmp .ne 8, 3) := by decide +kernel
theorem dX11_count_10 : decode cX11_count 10 = .ok (.aload_n 0, 1) := by decide +kernel
theorem dX11_count_11 : decode cX11_count 11 = .ok (.getfield 87, 3) := by decide +kernel
theorem dX11_count_14 : decode cX11_count 14 = .ok (.ireturn, 1) := by decide +kernel
theorem dX11_count_15 : decode cX11_count 15 = .ok (.iload_n 1, 1) := by decide +kernel
theorem dX11_count_16 : decode cX11_count 16 = .ok (.aload_n 0, 1) := by decide +kernel
theorem dX11_count_17 : decode cX11_count 17 = .ok (.getfield 87, 3) := by decide +kernel
theorem dX11_count_20 : decode cX11_count 20 = .ok (.invokestatic 90, 3) := by decide +kernel
theorem dX11_count_23 : decode cX11_count 23 = .ok (.ifCond .eq 11, 3) := by decide +kernel
theorem dX11_count_26 : decode cX11_count 26 = .ok (.aload_n 0, 1) := by decide +kernel
theorem dX11_count_27 : decode cX11_count 27 = .ok (.iconst 1, 1) := by decide +kernel
theorem dX11_count_28 : decode cX11_count 28 = .ok (.invokevirtual 287, 3) := by decide +kernel
theorem dX11_count_31 : decode cX11_count 31 = .ok (.goto 9, 3) := by decide +kernel
theorem dX11_count_34 : decode cX11_count 34 = .ok (.aload_n 0, 1) := by decide +kernel
theorem dX11_count_35 : decode cX11_count 35 = .ok (.getfield 16, 3) := by decide +kernel
theorem dX11_count_38 : decode cX11_count 38 = .ok (.iload_n 1, 1) := by decide +kernel
theorem dX11_count_39 : decode cX11_count 39 = .ok (.iaload, 1) := by decide +kernel
theorem dX11_count_40 : decode cX11_count 40 = .ok (.ireturn, 1) := by decide +kernel
theorem dX11_outline_0 : decode cX11_outline 0 = .ok (.aload_n 0, 1) := by decide +kernel
theorem dX11_outline_1 : decode cX11_outline 1 = .ok (.iconst 0, 1) := by decide +kernel
theorem dX11_outline_2 : decode cX11_outline 2 = .ok (.putfield 83, 3) := by decide +kernel
theorem dX11_outline_5 : decode cX11_outline 5 = .ok (.iload_n 1, 1) := by decide +kernel
theorem dX11_outline_6 : decode cX11_outline 6 = .ok (.aload_n 0, 1) := by decide +kernel
theorem dX11_outline_7 : decode cX11_outline 7 = .ok (.getfield 87, 3) := by decide +kernel
theorem dX11_outline_10 : decode cX11_outline 10 = .ok (.invokestatic 90, 3) := by decide +kernel
theorem dX11_outline_13 : decode cX11_outline 13 = .ok (.ifCond .ne 11, 3) := by decide +kernel
theorem dX11_outline_16 : decode cX11_outline 16 = .ok (.iload_n 3, 1) := by decide +kernel
theorem dX11_outline_17 : decode cX11_outline 17 = .ok (.iconst 4, 1) := by decide +kernel
theorem dX11_outline_18 : decode cX11_outline 18 = .ok (.invokestatic 90, 3) := by decide +kernel
theorem dX11_outline_21 : decode cX11_outline 21 = .ok (.ifCond .eq 9, 3) := by decide +kernel
theorem dX11_outline_24 : decode cX11_outline 24 = .ok (.aload_n 0, 1) := by decide +kernel
theorem dX11_outline_25 : decode cX11_outline 25 = .ok (.iconst 1, 1) := by decide +kernel
theorem dX11_outline_26 : decode cX11_outline 26 = .ok (.invokevirtual 287, 3) := by decide +kernel
theorem dX11_outline_29 : decode cX11_outline 29 = .ok (.ireturn, 1) := by decide +kernel
theorem dX11_outline_30 : decode cX11_outline 30 = .ok (.iload_n 2, 1) := by decide +kernel
theorem dX11_outline_31 : decode cX11_outline 31 = .ok (.aload_n 0, 1) := by decide +kernel
theorem dX11_outline_32 : decode cX11_outline 32 = .ok (.getfield 16, 3) := by decide +kernel
theorem dX11_outline_35 : decode cX11_outline 35 = .ok (.iload_n 1, 1) := by decide +kernel
theorem dX11_outline_36 : decode cX11_outline 36 = .ok (.iaload, 1) := by decide +kernel
theorem dX11_outline_37 : decode cX11_outline 37 = .ok (.invokestatic 90, 3) := by decide +kernel
theorem dX11_outline_40 : decode cX11_outline 40 = .ok (.ifCond .eq 9, 3) := by decide +kernel
theorem dX11_outline_43 : decode cX11_outline 43 = .ok (.aload_n 0, 1) := by decide +kernel
theorem dX11_outline_44 : decode cX11_outline 44 = .ok (.iconst 2, 1) := by decide +kernel
theorem dX11_outline_45 : decode cX11_outline 45 = .ok (.invokevirtual 287, 3) := by decide +kernel
theorem dX11_outline_48 : decode cX11_outline 48 = .ok (.ireturn, 1) := by decide +kernel
theorem dX11_outline_49 : decode cX11_outline 49 = .ok (.bipush 16, 2) := by decide +kernel
theorem dX11_outline_51 : decode cX11_outline 51 = .ok (.iload_n 1, 1) := by decide +kernel
theorem dX11_outline_52 : decode cX11_outline 52 = .ok (.imul, 1) := by decide +kernel
theorem dX11_outline_53 : decode cX11_outline 53 = .ok (.iload_n 2, 1) := by decide +kernel
theorem dX11_outline_54 : decode cX11_outline 54 = .ok (.iadd, 1) := by decide +kernel
theorem dX11_outline_55 : decode cX11_outline 55 = .ok (.istore 4, 2) := by decide +kernel
theorem dX11_outline_57 : decode cX11_outline 57 = .ok (.iload_n 3, 1) := by decide +kernel
theorem dX11_outline_58 : decode cX11_outline 58 = .ok (.ifCond .ne 13, 3) := by decide +kernel
theorem dX11_outline_61 : decode cX11_outline 61 = .ok (.aload_n 0, 1) := by decide +kernel
theorem dX11_outline_62 : decode cX11_outline 62 = .ok (.getfield 19, 3) := by decide +kernel
theorem dX11_outline_65 : decode cX11_outline 65 = .ok (.iload 4, 2) := by decide +kernel
theorem dX11_outline_67 : decode cX11_outline 67 = .ok (.iaload, 1) := by decide +kernel
theorem dX11_outline_68 : decode cX11_outline 68 = .ok (.goto 48, 3) := by decide +kernel
theorem dX11_outline_71 : decode cX11_outline 71 = .ok (.iload_n 3, 1) := by decide +kernel
theorem dX11_outline_72 : decode cX11_outline 72 = .ok (.iconst 1, 1) := by decide +kernel
theorem dX11_outline_73 : decode cX11_outline 73 = .ok (.if_icmp .ne 13, 3) := by decide +kernel
theorem dX11_outline_76 : decode cX11_outline 76 = .ok (.aload_n 0, 1) := by decide +kernel
theorem dX11_outline_77 : decode cX11_outline 77 = .ok (.getfield 22, 3) := by decide +kernel
theorem dX11_outline_80 : decode cX11_outline 80 = .ok (.iload 4, 2) := by decide +kernel
theorem dX11_outline_82 : decode cX11_outline 82 = .ok (.iaload, 1) := by decide +kernel
theorem dX11_outline_83 : decode cX11_outline 83 = .ok (.goto 33, 3) := by decide +kernel
theorem dX11_outline_86 : decode cX11_outline 86 = .ok (.iload_n 3, 1) := by decide +kernel
theorem dX11_outline_87 : decode cX11_outline 87 = .ok (.iconst 2, 1) := by decide +kernel
theorem dX11_outline_88 : decode cX11_outline 88 = .ok (.if_icmp .ne 21, 3) := by decide +kernel
theorem dX11_outline_91 : decode cX11_outline 91 = .ok (.aload_n 0, 1) := by decide +kernel
theorem dX11_outline_92 : decode cX11_outline 92 = .ok (.getfield 25, 3) := by decide +kernel
theorem dX11_outline_95 : decode cX11_outline 95 = .ok (.iload 4, 2) := by decide +kernel
theorem dX11_outline_97 : decode cX11_outline 97 = .ok (.baload, 1) := by decide +kernel
theorem dX11_outline_98 : decode cX11_outline 98 = .ok (.ifCond .eq 7, 3) := by decide +kernel
theorem dX11_outline_101 : decode cX11_outline 101 = .ok (.iconst 1, 1) := by decide +kernel
theorem dX11_outline_102 : decode cX11_outline 102 = .ok (.goto 14, 3) := by decide +kernel
theorem dX11_outline_105 : decode cX11_outline 105 = .ok (.iconst 0, 1) := by decide +kernel
theorem dX11_outline_106 : decode cX11_outline 106 = .ok (.goto 10, 3) := by decide +kernel
theorem dX11_outline_109 : decode cX11_outline 109 = .ok (.aload_n 0, 1) := by decide +kernel
theorem dX11_outline_110 : decode cX11_outline 110 = .ok (.getfield 29, 3) := by decide +kernel
theorem dX11_outline_113 : decode cX11_outline 113 = .ok (.iload 4, 2) := by decide +kernel
theorem dX11_outline_115 : decode cX11_outline 115 = .ok (.iaload, 1) := by decide +kernel
theorem dX11_outline_116 : decode cX11_outline 116 = .ok (.ireturn, 1) := by decide +kernel
theorem dJ9_floorMod_7cf53_0 : decode cJ9_floorMod_7cf53 0 = .ok (.iload_n 0, 1) := by decide +kernel
theorem dJ9_floorMod_7cf53_1 : decode cJ9_floorMod_7cf53 1 = .ok (.iload_n 1, 1) := by decide +kernel
theorem dJ9_floorMod_7cf53_2 : decode cJ9_floorMod_7cf53 2 = .ok (.irem, 1) := by decide +kernel
theorem dJ9_floorMod_7cf53_3 : decode cJ9_floorMod_7cf53 3 = .ok (.istore_n 2, 1) := by decide +kernel
theorem dJ9_floorMod_7cf53_4 : decode cJ9_floorMod_7cf53 4 = .ok (.iload_n 0, 1) := by decide +kernel
theorem dJ9_floorMod_7cf53_5 : decode cJ9_floorMod_7cf53 5 = .ok (.iload_n 1, 1) := by decide +kernel
theorem dJ9_floorMod_7cf53_6 : decode cJ9_floorMod_7cf53 6 = .ok (.ixor, 1) := by decide +kernel
theorem dJ9_floorMod_7cf53_7 : decode cJ9_floorMod_7cf53 7 = .ok (.ifCond .ge 11, 3) := by decide +kernel
theorem dJ9_floorMod_7cf53_10 : decode cJ9_floorMod_7cf53 10 = .ok (.iload_n 2, 1) := by decide +kernel
theorem dJ9_floorMod_7cf53_11 : decode cJ9_floorMod_7cf53 11 = .ok (.ifCond .eq 7, 3) := by decide +kernel
theorem dJ9_floorMod_7cf53_14 : decode cJ9_floorMod_7cf53 14 = .ok (.iload_n 2, 1) := by decide +kernel
theorem dJ9_floorMod_7cf53_15 : decode cJ9_floorMod_7cf53 15 = .ok (.iload_n 1, 1) := by decide +kernel
theorem dJ9_floorMod_7cf53_16 : decode cJ9_floorMod_7cf53 16 = .ok (.iadd, 1) := by decide +kernel
theorem dJ9_floorMod_7cf53_17 : decode cJ9_floorMod_7cf53 17 = .ok (.ireturn, 1) := by decide +kernel
theorem dJ9_floorMod_7cf53_18 : decode cJ9_floorMod_7cf53 18 = .ok (.iload_n 2, 1) := by decide +kernel
theorem dJ9_floorMod_7cf53_19 : decode cJ9_floorMod_7cf53 19 = .ok (.ireturn, 1) := by decide +kernel
theorem dJ9_abs_0f7a4_0 : decode cJ9_abs_0f7a4 0 = .ok (.iload_n 0, 1) := by decide +kernel
theorem dJ9_abs_0f7a4_1 : decode cJ9_abs_0f7a4 1 = .ok (.ifCond .ge 8, 3) := by decide +kernel
theorem dJ9_abs_0f7a4_4 : decode cJ9_abs_0f7a4 4 = .ok (.iload_n 0, 1) := by decide +kernel
theorem dJ9_abs_0f7a4_5 : decode cJ9_abs_0f7a4 5 = .ok (.ineg, 1) := by decide +kernel
theorem dJ9_abs_0f7a4_6 : decode cJ9_abs_0f7a4 6 = .ok (.goto 4, 3) := by decide +kernel
theorem dJ9_abs_0f7a4_9 : decode cJ9_abs_0f7a4 9 = .ok (.iload_n 0, 1) := by decide +kernel
theorem dJ9_abs_0f7a4_10 : decode cJ9_abs_0f7a4 10 = .ok (.ireturn, 1) := by decide +kernel
theorem dJ9_max_7cf53_0 : decode cJ9_max_7cf53 0 = .ok (.iload_n 0, 1) := by decide +kernel
theorem dJ9_max_7cf53_1 : decode cJ9_max_7cf53 1 = .ok (.iload_n 1, 1) := by decide +kernel
theorem dJ9_max_7cf53_2 : decode cJ9_max_7cf53 2 = .ok (.if_icmp .lt 7, 3) := by decide +kernel
theorem dJ9_max_7cf53_5 : decode cJ9_max_7cf53 5 = .ok (.iload_n 0, 1) := by decide +kernel
theorem dJ9_max_7cf53_6 : decode cJ9_max_7cf53 6 = .ok (.goto 4, 3) := by decide +kernel
theorem dJ9_max_7cf53_9 : decode cJ9_max_7cf53 9 = .ok (.iload_n 1, 1) := by decide +kernel
theorem dJ9_max_7cf53_10 : decode cJ9_max_7cf53 10 = .ok (.ireturn, 1) := by decide +kernel
theorem dL_glyph_0 : decode cL_glyph 0 = .ok (.aload_n 2, 1) := by decide +kernel
theorem dL_glyph_1 : decode cL_glyph 1 = .ok (.iconst 0, 1) := by decide +kernel
theorem dL_glyph_2 : decode cL_glyph 2 = .ok (.aload_n 0, 1) := by decide +kernel
theorem dL_glyph_3 : decode cL_glyph 3 = .ok (.iload_n 1, 1) := by decide +kernel
theorem dL_glyph_4 : decode cL_glyph 4 = .ok (.invokevirtual 7, 3) := by decide +kernel
theorem dL_glyph_7 : decode cL_glyph 7 = .ok (.i2l, 1) := by decide +kernel
theorem dL_glyph_8 : decode cL_glyph 8 = .ok (.lastore, 1) := by decide +kernel
theorem dL_glyph_9 : decode cL_glyph 9 = .ok (.goto 9, 3) := by decide +kernel
theorem dL_glyph_12 : decode cL_glyph 12 = .ok (.astore_n 3, 1) := by decide +kernel
theorem dL_glyph_13 : decode cL_glyph 13 = .ok (.iconst 1, 1) := by decide +kernel
theorem dL_glyph_14 : decode cL_glyph 14 = .ok (.ireturn, 1) := by decide +kernel
theorem dL_glyph_15 : decode cL_glyph 15 = .ok (.astore_n 3, 1) := by decide +kernel
theorem dL_glyph_16 : decode cL_glyph 16 = .ok (.iconst 2, 1) := by decide +kernel
theorem dL_glyph_17 : decode cL_glyph 17 = .ok (.ireturn, 1) := by decide +kernel
theorem dL_glyph_18 : decode cL_glyph 18 = .ok (.iconst 0, 1) := by decide +kernel
theorem dL_glyph_19 : decode cL_glyph 19 = .ok (.ireturn, 1) := by decide +kernel
theorem dL_contour_0 : decode cL_contour 0 = .ok (.aload_n 1, 1) := by decide +kernel
theorem dL_contour_1 : decode cL_contour 1 = .ok (.iconst 0, 1) := by decide +kernel
theorem dL_contour_2 : decode cL_contour 2 = .ok (.aload_n 0, 1) := by decide +kernel
theorem dL_contour_3 : decode cL_contour 3 = .ok (.invokevirtual 17, 3) := by decide +kernel
theorem dL_contour_6 : decode cL_contour 6 = .ok (.i2l, 1) := by decide +kernel
theorem dL_contour_7 : decode cL_contour 7 = .ok (.lastore, 1) := by decide +kernel
theorem dL_contour_8 : decode cL_contour 8 = .ok (.goto 6, 3) := by decide +kernel
theorem dL_contour_11 : decode cL_contour 11 = .ok (.astore_n 2, 1) := by decide +kernel
theorem dL_contour_12 : decode cL_contour 12 = .ok (.iconst 1, 1) := by decide +kernel
theorem dL_contour_13 : decode cL_contour 13 = .ok (.ireturn, 1) := by decide +kernel
theorem dL_contour_14 : decode cL_contour 14 = .ok (.iconst 0, 1) := by decide +kernel
theorem dL_contour_15 : decode cL_contour 15 = .ok (.ireturn, 1) := by decide +kernel
theorem dL_point_0 : decode cL_point 0 = .ok (.aload 4, 2) := by decide +kernel
theorem dL_point_2 : decode cL_point 2 = .ok (.iconst 0, 1) := by decide +kernel
theorem dL_point_3 : decode cL_point 3 = .ok (.aload_n 0, 1) := by decide +kernel
theorem dL_point_4 : decode cL_point 4 = .ok (.iload_n 1, 1) := by decide +kernel
theorem dL_point_5 : decode cL_point 5 = .ok (.iload_n 2, 1) := by decide +kernel
theorem dL_point_6 : decode cL_point 6 = .ok (.iload_n 3, 1) := by decide +kernel
theorem dL_point_7 : decode cL_point 7 = .ok (.invokevirtual 21, 3) := by decide +kernel
theorem dL_point_10 : decode cL_point 10 = .ok (.i2l, 1) := by decide +kernel
theorem dL_point_11 : decode cL_point 11 = .ok (.lastore, 1) := by decide +kernel
theorem dL_point_12 : decode cL_point 12 = .ok (.goto 11, 3) := by decide +kernel
theorem dL_point_15 : decode cL_point 15 = .ok (.astore 5, 2) := by decide +kernel
theorem dL_point_17 : decode cL_point 17 = .ok (.iconst 1, 1) := by decide +kernel
theorem dL_point_18 : decode cL_point 18 = .ok (.ireturn, 1) := by decide +kernel
theorem dL_point_19 : decode cL_point 19 = .ok (.astore 5, 2) := by decide +kernel
theorem dL_point_21 : decode cL_point 21 = .ok (.iconst 2, 1) := by decide +kernel
theorem dL_point_22 : decode cL_point 22 = .ok (.ireturn, 1) := by decide +kernel
theorem dL_point_23 : decode cL_point 23 = .ok (.iconst 0, 1) := by decide +kernel
theorem dL_point_24 : decode cL_point 24 = .ok (.ireturn, 1) := by decide +kernel
theorem dL_table_0 : decode cL_table 0 = .ok (.aload 5, 2) := by decide +kernel
theorem dL_table_2 : decode cL_table 2 = .ok (.iconst 0, 1) := by decide +kernel
theorem dL_table_3 : decode cL_table 3 = .ok (.aload_n 0, 1) := by decide +kernel
theorem dL_table_4 : decode cL_table 4 = .ok (.iload_n 1, 1) := by decide +kernel
theorem dL_table_5 : decode cL_table 5 = .ok (.lload_n 2, 1) := by decide +kernel
theorem dL_table_6 : decode cL_table 6 = .ok (.iload 4, 2) := by decide +kernel
theorem dL_table_8 : decode cL_table 8 = .ok (.invokevirtual 25, 3) := by decide +kernel
theorem dL_table_11 : decode cL_table 11 = .ok (.i2l, 1) := by decide +kernel
theorem dL_table_12 : decode cL_table 12 = .ok (.lastore, 1) := by decide +kernel
theorem dL_table_13 : decode cL_table 13 = .ok (.goto 11, 3) := by decide +kernel
theorem dL_table_16 : decode cL_table 16 = .ok (.astore 6, 2) := by decide +kernel
theorem dL_table_18 : decode cL_table 18 = .ok (.iconst 1, 1) := by decide +kernel
theorem dL_table_19 : decode cL_table 19 = .ok (.ireturn, 1) := by decide +kernel
theorem dL_table_20 : decode cL_table 20 = .ok (.astore 6, 2) := by decide +kernel
theorem dL_table_22 : decode cL_table 22 = .ok (.iconst 2, 1) := by decide +kernel
theorem dL_table_23 : decode cL_table 23 = .ok (.ireturn, 1) := by decide +kernel
theorem dL_table_24 : decode cL_table 24 = .ok (.iconst 0, 1) := by decide +kernel
theorem dL_table_25 : decode cL_table 25 = .ok (.ireturn, 1) := by decide +kernel
theorem dL_pack_0 : decode cL_pack 0 = .ok (.aload_n 1, 1) := by decide +kernel
theorem dL_pack_1 : decode cL_pack 1 = .ok (.iconst 0, 1) := by decide +kernel
theorem dL_pack_2 : decode cL_pack 2 = .ok (.aload_n 0, 1) := by decide +kernel
theorem dL_pack_3 : decode cL_pack 3 = .ok (.invokevirtual 29, 3) := by decide +kernel
theorem dL_pack_6 : decode cL_pack 6 = .ok (.i2l, 1) := by decide +kernel
theorem dL_pack_7 : decode cL_pack 7 = .ok (.lastore, 1) := by decide +kernel
theorem dL_pack_8 : decode cL_pack 8 = .ok (.goto 6, 3) := by decide +kernel
theorem dL_pack_11 : decode cL_pack 11 = .ok (.astore_n 2, 1) := by decide +kernel
theorem dL_pack_12 : decode cL_pack 12 = .ok (.iconst 1, 1) := by decide +kernel
theorem dL_pack_13 : decode cL_pack 13 = .ok (.ireturn, 1) := by decide +kernel
theorem dL_pack_14 : decode cL_pack 14 = .ok (.iconst 0, 1) := by decide +kernel
theorem dL_pack_15 : decode cL_pack 15 = .ok (.ireturn, 1) := by decide +kernel
theorem dL_plain_0 : decode cL_plain 0 = .ok (.aload_n 1, 1) := by decide +kernel
theorem dL_plain_1 : decode cL_plain 1 = .ok (.iconst 0, 1) := by decide +kernel
theorem dL_plain_2 : decode cL_plain 2 = .ok (.aload_n 0, 1) := by decide +kernel
theorem dL_plain_3 : decode cL_plain 3 = .ok (.invokevirtual 32, 3) := by decide +kernel
theorem dL_plain_6 : decode cL_plain 6 = .ok (.i2l, 1) := by decide +kernel
theorem dL_plain_7 : decode cL_plain 7 = .ok (.lastore, 1) := by decide +kernel
theorem dL_plain_8 : decode cL_plain 8 = .ok (.goto 6, 3) := by decide +kernel
theorem dL_plain_11 : decode cL_plain 11 = .ok (.astore_n 2, 1) := by decide +kernel
theorem dL_plain_12 : decode cL_plain 12 = .ok (.iconst 1, 1) := by decide +kernel
theorem dL_plain_13 : decode cL_plain 13 = .ok (.ireturn, 1) := by decide +kernel
theorem dL_plain_14 : decode cL_plain 14 = .ok (.iconst 0, 1) := by decide +kernel
theorem dL_plain_15 : decode cL_plain 15 = .ok (.ireturn, 1) := by decide +kernel
theorem dL_read_0 : decode cL_read 0 = .ok (.aload_n 1, 1) := by decide +kernel
theorem dL_read_1 : decode cL_read 1 = .ok (.iconst 0, 1) := by decide +kernel
theorem dL_read_2 : decode cL_read 2 = .ok (.aload_n 0, 1) := by decide +kernel
theorem dL_read_3 : decode cL_read 3 = .ok (.invokevirtual 35, 3) := by decide +kernel
theorem dL_read_6 : decode cL_read 6 = .ok (.i2l, 1) := by decide +kernel
theorem dL_read_7 : decode cL_read 7 = .ok (.lastore, 1) := by decide +kernel
theorem dL_read_8 : decode cL_read 8 = .ok (.goto 6, 3) := by decide +kernel
theorem dL_read_11 : decode cL_read 11 = .ok (.astore_n 2, 1) := by decide +kernel
theorem dL_read_12 : decode cL_read 12 = .ok (.iconst 1, 1) := by decide +kernel
theorem dL_read_13 : decode cL_read 13 = .ok (.ireturn, 1) := by decide +kernel
theorem dL_read_14 : decode cL_read 14 = .ok (.iconst 0, 1) := by decide +kernel
theorem dL_read_15 : decode cL_read 15 = .ok (.ireturn, 1) := by decide +kernel
theorem dL_put_0 : decode cL_put 0 = .ok (.aload 4, 2) := by decide +kernel
theorem dL_put_2 : decode cL_put 2 = .ok (.iconst 0, 1) := by decide +kernel
theorem dL_put_3 : decode cL_put 3 = .ok (.aload_n 0, 1) := by decide +kernel
theorem dL_put_4 : decode cL_put 4 = .ok (.lload_n 1, 1) := by decide +kernel
theorem dL_put_5 : decode cL_put 5 = .ok (.iload_n 3, 1) := by decide +kernel
theorem dL_put_6 : decode cL_put 6 = .ok (.invokevirtual 38, 3) := by decide +kernel
theorem dL_put_9 : decode cL_put 9 = .ok (.i2l, 1) := by decide +kernel
theorem dL_put_10 : decode cL_put 10 = .ok (.lastore, 1) := by decide +kernel
theorem dL_put_11 : decode cL_put 11 = .ok (.goto 11, 3) := by decide +kernel
theorem dL_put_14 : decode cL_put 14 = .ok (.astore 5, 2) := by decide +kernel
theorem dL_put_16 : decode cL_put 16 = .ok (.iconst 1, 1) := by decide +kernel
theorem dL_put_17 : decode cL_put 17 = .ok (.ireturn, 1) := by decide +kernel
theorem dL_put_18 : decode cL_put 18 = .ok (.astore 5, 2) := by decide +kernel
theorem dL_put_20 : decode cL_put 20 = .ok (.iconst 2, 1) := by decide +kernel
theorem dL_put_21 : decode cL_put 21 = .ok (.ireturn, 1) := by decide +kernel
theorem dL_put_22 : decode cL_put 22 = .ok (.iconst 0, 1) := by decide +kernel
theorem dL_put_23 : decode cL_put 23 = .ok (.ireturn, 1) := by decide +kernel
theorem dL_set_0 : decode cL_set 0 = .ok (.aload_n 0, 1) := by decide +kernel
theorem dL_set_1 : decode cL_set 1 = .ok (.iload_n 1, 1) := by decide +kernel
theorem dL_set_2 : decode cL_set 2 = .ok (.iload_n 2, 1) := by decide +kernel
theorem dL_set_3 : decode cL_set 3 = .ok (.invokevirtual 42, 3) := by decide +kernel
theorem dL_set_6 : decode cL_set 6 = .ok (.goto 9, 3) := by decide +kernel
theorem dL_set_9 : decode cL_set 9 = .ok (.astore_n 3, 1) := by decide +kernel
theorem dL_set_10 : decode cL_set 10 = .ok (.iconst 1, 1) := by decide +kernel
theorem dL_set_11 : decode cL_set 11 = .ok (.ireturn, 1) := by decide +kernel
theorem dL_set_12 : decode cL_set 12 = .ok (.astore_n 3, 1) := by decide +kernel
theorem dL_set_13 : decode cL_set 13 = .ok (.iconst 2, 1) := by decide +kernel
theorem dL_set_14 : decode cL_set 14 = .ok (.ireturn, 1) := by decide +kernel
theorem dL_set_15 : decode cL_set 15 = .ok (.iconst 0, 1) := by decide +kernel
theorem dL_set_16 : decode cL_set 16 = .ok (.ireturn, 1) := by decide +kernel
theorem dL_cut_0 : decode cL_cut 0 = .ok (.aload_n 0, 1) := by decide +kernel
theorem dL_cut_1 : decode cL_cut 1 = .ok (.iload_n 1, 1) := by decide +kernel
theorem dL_cut_2 : decode cL_cut 2 = .ok (.invokevirtual 48, 3) := by decide +kernel
theorem dL_cut_5 : decode cL_cut 5 = .ok (.goto 6, 3) := by decide +kernel
theorem dL_cut_8 : decode cL_cut 8 = .ok (.astore_n 2, 1) := by decide +kernel
theorem dL_cut_9 : decode cL_cut 9 = .ok (.iconst 1, 1) := by decide +kernel
theorem dL_cut_10 : decode cL_cut 10 = .ok (.ireturn, 1) := by decide +kernel
theorem dL_cut_11 : decode cL_cut 11 = .ok (.iconst 0, 1) := by decide +kernel
theorem dL_cut_12 : decode cL_cut 12 = .ok (.ireturn, 1) := by decide +kernel
theorem dL_at_0 : decode cL_at 0 = .ok (.aload_n 2, 1) := by decide +kernel
theorem dL_at_1 : decode cL_at 1 = .ok (.iconst 0, 1) := by decide +kernel
theorem dL_at_2 : decode cL_at 2 = .ok (.aload_n 0, 1) := by decide +kernel
theorem dL_at_3 : decode cL_at 3 = .ok (.iload_n 1, 1) := by decide +kernel
theorem dL_at_4 : decode cL_at 4 = .ok (.invokevirtual 52, 3) := by decide +kernel
theorem dL_at_7 : decode cL_at 7 = .ok (.i2l, 1) := by decide +kernel
theorem dL_at_8 : decode cL_at 8 = .ok (.lastore, 1) := by decide +kernel
theorem dL_at_9 : decode cL_at 9 = .ok (.goto 6, 3) := by decide +kernel
theorem dL_at_12 : decode cL_at 12 = .ok (.astore_n 3, 1) := by decide +kernel
theorem dL_at_13 : decode cL_at 13 = .ok (.iconst 1, 1) := by decide +kernel
theorem dL_at_14 : decode cL_at 14 = .ok (.ireturn, 1) := by decide +kernel
theorem dL_at_15 : decode cL_at 15 = .ok (.iconst 0, 1) := by decide +kernel
theorem dL_at_16 : decode cL_at 16 = .ok (.ireturn, 1) := by decide +kernel
theorem dL_count_0 : decode cL_count 0 = .ok (.aload_n 2, 1) := by decide +kernel
theorem dL_count_1 : decode cL_count 1 = .ok (.iconst 0, 1) := by decide +kernel
theorem dL_count_2 : decode cL_count 2 = .ok (.aload_n 0, 1) := by decide +kernel
theorem dL_count_3 : decode cL_count 3 = .ok (.iload_n 1, 1) := by decide +kernel
theorem dL_count_4 : decode cL_count 4 = .ok (.invokevirtual 55, 3) := by decide +kernel
theorem dL_count_7 : decode cL_count 7 = .ok (.i2l, 1) := by decide +kernel
theorem dL_count_8 : decode cL_count 8 = .ok (.lastore, 1) := by decide +kernel
theorem dL_count_9 : decode cL_count 9 = .ok (.goto 6, 3) := by decide +kernel
theorem dL_count_12 : decode cL_count 12 = .ok (.astore_n 3, 1) := by decide +kernel
theorem dL_count_13 : decode cL_count 13 = .ok (.iconst 1, 1) := by decide +kernel
theorem dL_count_14 : decode cL_count 14 = .ok (.ireturn, 1) := by decide +kernel
theorem dL_count_15 : decode cL_count 15 = .ok (.iconst 0, 1) := by decide +kernel
theorem dL_count_16 : decode cL_count 16 = .ok (.ireturn, 1) := by decide +kernel
theorem dL_outline_0 : decode cL_outline 0 = .ok (.aload 4, 2) := by decide +kernel
theorem dL_outline_2 : decode cL_outline 2 = .ok (.iconst 0, 1) := by decide +kernel
theorem dL_outline_3 : decode cL_outline 3 = .ok (.aload_n 0, 1) := by decide +kernel
theorem dL_outline_4 : decode cL_outline 4 = .ok (.iload_n 1, 1) := by decide +kernel
theorem dL_outline_5 : decode cL_outline 5 = .ok (.iload_n 2, 1) := by decide +kernel
theorem dL_outline_6 : decode cL_outline 6 = .ok (.iload_n 3, 1) := by decide +kernel
theorem dL_outline_7 : decode cL_outline 7 = .ok (.invokevirtual 58, 3) := by decide +kernel
theorem dL_outline_10 : decode cL_outline 10 = .ok (.i2l, 1) := by decide +kernel
theorem dL_outline_11 : decode cL_outline 11 = .ok (.lastore, 1) := by decide +kernel
theorem dL_outline_12 : decode cL_outline 12 = .ok (.goto 11, 3) := by decide +kernel
theorem dL_outline_15 : decode cL_outline 15 = .ok (.astore 5, 2) := by decide +kernel
theorem dL_outline_17 : decode cL_outline 17 = .ok (.iconst 1, 1) := by decide +kernel
theorem dL_outline_18 : decode cL_outline 18 = .ok (.ireturn, 1) := by decide +kernel
theorem dL_outline_19 : decode cL_outline 19 = .ok (.astore 5, 2) := by decide +kernel
theorem dL_outline_21 : decode cL_outline 21 = .ok (.iconst 2, 1) := by decide +kernel
theorem dL_outline_22 : decode cL_outline 22 = .ok (.ireturn, 1) := by decide +kernel
theorem dL_outline_23 : decode cL_outline 23 = .ok (.iconst 0, 1) := by decide +kernel
theorem dL_outline_24 : decode cL_outline 24 = .ok (.ireturn, 1) := by decide +kernel
theorem dL_law_0 : decode cL_law 0 = .ok (.new 8, 3) := by decide +kernel
theorem dL_law_3 : decode cL_law 3 = .ok (.dup, 1) := by decide +kernel
theorem dL_law_4 : decode cL_law 4 = .ok (.invokespecial 62, 3) := by decide +kernel
theorem dL_law_7 : decode cL_law 7 = .ok (.astore_n 1, 1) := by decide +kernel
theorem dL_law_8 : decode cL_law 8 = .ok (.new 63, 3) := by decide +kernel
theorem dL_law_11 : decode cL_law 11 = .ok (.dup, 1) := by decide +kernel
theorem dL_law_12 : decode cL_law 12 = .ok (.invokespecial 65, 3) := by decide +kernel
theorem dL_law_15 : decode cL_law 15 = .ok (.astore_n 2, 1) := by decide +kernel
theorem dL_law_16 : decode cL_law 16 = .ok (.iconst 1, 1) := by decide +kernel
theorem dL_law_17 : decode cL_law 17 = .ok (.newarray .long, 2) := by decide +kernel
theorem dL_law_19 : decode cL_law 19 = .ok (.astore_n 3, 1) := by decide +kernel
theorem dL_law_20 : decode cL_law 20 = .ok (.iconst 0, 1) := by decide +kernel
theorem dL_law_21 : decode cL_law 21 = .ok (.istore 4, 2) := by decide +kernel
theorem dL_law_23 : decode cL_law 23 = .ok (.iload 4, 2) := by decide +kernel
theorem dL_law_25 : decode cL_law 25 = .ok (.aload_n 0, 1) := by decide +kernel
theorem dL_law_26 : decode cL_law 26 = .ok (.arraylength, 1) := by decide +kernel
theorem dL_law_27 : decode cL_law 27 = .ok (.iconst 5, 1) := by decide +kernel
theorem dL_law_28 : decode cL_law 28 = .ok (.isub, 1) := by decide +kernel
theorem dL_law_29 : decode cL_law 29 = .ok (.if_icmp .gt 929, 3) := by decide +kernel
theorem dL_law_32 : decode cL_law 32 = .ok (.aload_n 0, 1) := by decide +kernel
theorem dL_law_33 : decode cL_law 33 = .ok (.iload 4, 2) := by decide +kernel
theorem dL_law_35 : decode cL_law 35 = .ok (.iaload, 1) := by decide +kernel
theorem dL_law_36 : decode cL_law 36 = .ok (.bipush 15, 2) := by decide +kernel
theorem dL_law_38 : decode cL_law 38 = .ok (.iand, 1) := by decide +kernel
theorem dL_law_39 : decode cL_law 39 = .ok (.tableswitch 913 0 14 #[73, 129, 173, 269, 381, 392, 436, 480, 524, 537, 637, 685, 721, 777, 833], 73) := by decide +kernel
theorem dL_law_112 : decode cL_law 112 = .ok (.aload_n 1, 1) := by decide +kernel
theorem dL_law_113 : decode cL_law 113 = .ok (.aload_n 0, 1) := by decide +kernel
theorem dL_law_114 : decode cL_law 114 = .ok (.iload 4, 2) := by decide +kernel
theorem dL_law_116 : decode cL_law 116 = .ok (.iconst 1, 1) := by decide +kernel
theorem dL_law_117 : decode cL_law 117 = .ok (.iadd, 1) := by decide +kernel
theorem dL_law_118 : decode cL_law 118 = .ok (.iaload, 1) := by decide +kernel
theorem dL_law_119 : decode cL_law 119 = .ok (.aload_n 3, 1) := by decide +kernel
theorem dL_law_120 : decode cL_law 120 = .ok (.invokestatic 66, 3) := by decide +kernel
theorem dL_law_123 : decode cL_law 123 = .ok (.istore 5, 2) := by decide +kernel
theorem dL_law_125 : decode cL_law 125 = .ok (.aload_n 2, 1) := by decide +kernel
theorem dL_law_126 : decode cL_law 126 = .ok (.aload_n 0, 1) := by decide +kernel
theorem dL_law_127 : decode cL_law 127 = .ok (.iload 4, 2) := by decide +kernel
theorem dL_law_129 : decode cL_law 129 = .ok (.iconst 1, 1) := by decide +kernel
theorem dL_law_130 : decode cL_law 130 = .ok (.iadd, 1) := by decide +kernel
theorem dL_law_131 : decode cL_law 131 = .ok (.iaload, 1) := by decide +kernel
theorem dL_law_132 : decode cL_law 132 = .ok (.invokevirtual 71, 3) := by decide +kernel
theorem dL_law_135 : decode cL_law 135 = .ok (.istore 6, 2) := by decide +kernel
theorem dL_law_137 : decode cL_law 137 = .ok (.aload_n 2, 1) := by decide +kernel
theorem dL_law_138 : decode cL_law 138 = .ok (.invokevirtual 72, 3) := by decide +kernel
theorem dL_law_141 : decode cL_law 141 = .ok (.iload 5, 2) := by decide +kernel
theorem dL_law_143 : decode cL_law 143 = .ok (.if_icmp .eq 5, 3) := by decide +kernel
theorem dL_law_146 : decode cL_law 146 = .ok (.iconst 0, 1) := by decide +kernel
theorem dL_law_147 : decode cL_law 147 = .ok (.ireturn, 1) := by decide +kernel
theorem dL_law_148 : decode cL_law 148 = .ok (.iload 5, 2) := by decide +kernel
theorem dL_law_150 : decode cL_law 150 = .ok (.ifCond .ne 15, 3) := by decide +kernel
theorem dL_law_153 : decode cL_law 153 = .ok (.aload_n 3, 1) := by decide +kernel
theorem dL_law_154 : decode cL_law 154 = .ok (.iconst 0, 1) := by decide +kernel
theorem dL_law_155 : decode cL_law 155 = .ok (.laload, 1) := by decide +kernel
theorem dL_law_156 : decode cL_law 156 = .ok (.iload 6, 2) := by decide +kernel
theorem dL_law_158 : decode cL_law 158 = .ok (.i2l, 1) := by decide +kernel
theorem dL_law_159 : decode cL_law 159 = .ok (.lcmp, 1) := by decide +kernel
theorem dL_law_160 : decode cL_law 160 = .ok (.ifCond .eq 5, 3) := by decide +kernel
theorem dL_law_163 : decode cL_law 163 = .ok (.iconst 0, 1) := by decide +kernel
theorem dL_law_164 : decode cL_law 164 = .ok (.ireturn, 1) := by decide +kernel
theorem dL_law_165 : decode cL_law 165 = .ok (.goto 787, 3) := by decide +kernel
theorem dL_law_168 : decode cL_law 168 = .ok (.aload_n 1, 1) := by decide +kernel
theorem dL_law_169 : decode cL_law 169 = .ok (.aload_n 3, 1) := by decide +kernel
theorem dL_law_170 : decode cL_law 170 = .ok (.invokestatic 75, 3) := by decide +kernel
theorem dL_law_173 : decode cL_law 173 = .ok (.istore 5, 2) := by decide +kernel
theorem dL_law_175 : decode cL_law 175 = .ok (.aload_n 2, 1) := by decide +kernel
theorem dL_law_176 : decode cL_law 176 = .ok (.invokevirtual 78, 3) := by decide +kernel
theorem dL_law_179 : decode cL_law 179 = .ok (.istore 6, 2) := by decide +kernel
theorem dL_law_181 : decode cL_law 181 = .ok (.aload_n 2, 1) := by decide +kernel
theorem dL_law_182 : decode cL_law 182 = .ok (.invokevirtual 72, 3) := by decide +kernel
theorem dL_law_185 : decode cL_law 185 = .ok (.iload 5, 2) := by decide +kernel
theorem dL_law_187 : decode cL_law 187 = .ok (.if_icmp .eq 5, 3) := by decide +kernel
theorem dL_law_190 : decode cL_law 190 = .ok (.iconst 0, 1) := by decide +kernel
theorem dL_law_191 : decode cL_law 191 = .ok (.ireturn, 1) := by decide +kernel
theorem dL_law_192 : decode cL_law 192 = .ok (.iload 5, 2) := by decide +kernel
theorem dL_law_194 : decode cL_law 194 = .ok (.ifCond .ne 15, 3) := by decide +kernel
theorem dL_law_197 : decode cL_law 197 = .ok (.aload_n 3, 1) := by decide +kernel
theorem dL_law_198 : decode cL_law 198 = .ok (.iconst 0, 1) := by decide +kernel
theorem dL_law_199 : decode cL_law 199 = .ok (.laload, 1) := by decide +kernel
theorem dL_law_200 : decode cL_law 200 = .ok (.iload 6, 2) := by decide +kernel
theorem dL_law_202 : decode cL_law 202 = .ok (.i2l, 1) := by decide +kernel
theorem dL_law_203 : decode cL_law 203 = .ok (.lcmp, 1) := by decide +kernel
theorem dL_law_204 : decode cL_law 204 = .ok (.ifCond .eq 5, 3) := by decide +kernel
theorem dL_law_207 : decode cL_law 207 = .ok (.iconst 0, 1) := by decide +kernel
theorem dL_law_208 : decode cL_law 208 = .ok (.ireturn, 1) := by decide +kernel
theorem dL_law_209 : decode cL_law 209 = .ok (.goto 743, 3) := by decide +kernel
theorem dL_law_212 : decode cL_law 212 = .ok (.aload_n 1, 1) := by decide +kernel
theorem dL_law_213 : decode cL_law 213 = .ok (.aload_n 0, 1) := by decide +kernel
theorem dL_law_214 : decode cL_law 214 = .ok (.iload 4, 2) := by decide +kernel
theorem dL_law_216 : decode cL_law 216 = .ok (.iconst 1, 1) := by decide +kernel
theorem dL_law_217 : decode cL_law 217 = .ok (.iadd, 1) := by decide +kernel
theorem dL_law_218 : decode cL_law 218 = .ok (.iaload, 1) := by decide +kernel
theorem dL_law_219 : decode cL_law 219 = .ok (.aload_n 0, 1) := by decide +kernel
theorem dL_law_220 : decode cL_law 220 = .ok (.iload 4, 2) := by decide +kernel
theorem dL_law_222 : decode cL_law 222 = .ok (.iconst 2, 1) := by decide +kernel
theorem dL_law_223 : decode cL_law 223 = .ok (.iadd, 1) := by decide +kernel
theorem dL_law_224 : decode cL_law 224 = .ok (.iaload, 1) := by decide +kernel
theorem dL_law_225 : decode cL_law 225 = .ok (.aload_n 0, 1) := by decide +kernel
theorem dL_law_226 : decode cL_law 226 = .ok (.iload 4, 2) := by decide +kernel
theorem dL_law_228 : decode cL_law 228 = .ok (.iconst 3, 1) := by decide +kernel
theorem dL_law_229 : decode cL_law 229 = .ok (.iadd, 1) := by decide +kernel
theorem dL_law_230 : decode cL_law 230 = .ok (.iaload, 1) := by decide +kernel
theorem dL_law_231 : decode cL_law 231 = .ok (.ifCond .eq 7, 3) := by decide +kernel
theorem dL_law_234 : decode cL_law 234 = .ok (.iconst 1, 1) := by decide +kernel
theorem dL_law_235 : decode cL_law 235 = .ok (.goto 4, 3) := by decide +kernel
theorem dL_law_238 : decode cL_law 238 = .ok (.iconst 0, 1) := by decide +kernel
theorem dL_law_239 : decode cL_law 239 = .ok (.aload_n 3, 1) := by decide +kernel
theorem dL_law_240 : decode cL_law 240 = .ok (.invokestatic 79, 3) := by decide +kernel
theorem dL_law_243 : decode cL_law 243 = .ok (.istore 5, 2) := by decide +kernel
theorem dL_law_245 : decode cL_law 245 = .ok (.aload_n 2, 1) := by decide +kernel
theorem dL_law_246 : decode cL_law 246 = .ok (.aload_n 0, 1) := by decide +kernel
theorem dL_law_247 : decode cL_law 247 = .ok (.iload 4, 2) := by decide +kernel
theorem dL_law_249 : decode cL_law 249 = .ok (.iconst 1, 1) := by decide +kernel
theorem dL_law_250 : decode cL_law 250 = .ok (.iadd, 1) := by decide +kernel
theorem dL_law_251 : decode cL_law 251 = .ok (.iaload, 1) := by decide +kernel
theorem dL_law_252 : decode cL_law 252 = .ok (.aload_n 0, 1) := by decide +kernel
theorem dL_law_253 : decode cL_law 253 = .ok (.iload 4, 2) := by decide +kernel
theorem dL_law_255 : decode cL_law 255 = .ok (.iconst 2, 1) := by decide +kernel
theorem dL_law_256 : decode cL_law 256 = .ok (.iadd, 1) := by decide +kernel
theorem dL_law_257 : decode cL_law 257 = .ok (.iaload, 1) := by decide +kernel
theorem dL_law_258 : decode cL_law 258 = .ok (.aload_n 0, 1) := by decide +kernel
theorem dL_law_259 : decode cL_law 259 = .ok (.iload 4, 2) := by decide +kernel
theorem dL_law_261 : decode cL_law 261 = .ok (.iconst 3, 1) := by decide +kernel
theorem dL_law_262 : decode cL_law 262 = .ok (.iadd, 1) := by decide +kernel
theorem dL_law_263 : decode cL_law 263 = .ok (.iaload, 1) := by decide +kernel
theorem dL_law_264 : decode cL_law 264 = .ok (.ifCond .eq 7, 3) := by decide +kernel
theorem dL_law_267 : decode cL_law 267 = .ok (.iconst 1, 1) := by decide +kernel
theorem dL_law_268 : decode cL_law 268 = .ok (.goto 4, 3) := by decide +kernel
theorem dL_law_271 : decode cL_law 271 = .ok (.iconst 0, 1) := by decide +kernel
theorem dL_law_272 : decode cL_law 272 = .ok (.invokevirtual 82, 3) := by decide +kernel
theorem dL_law_275 : decode cL_law 275 = .ok (.istore 6, 2) := by decide +kernel
theorem dL_law_277 : decode cL_law 277 = .ok (.aload_n 2, 1) := by decide +kernel
theorem dL_law_278 : decode cL_law 278 = .ok (.invokevirtual 72, 3) := by decide +kernel
theorem dL_law_281 : decode cL_law 281 = .ok (.iload 5, 2) := by decide +kernel
theorem dL_law_283 : decode cL_law 283 = .ok (.if_icmp .eq 5, 3) := by decide +kernel
theorem dL_law_286 : decode cL_law 286 = .ok (.iconst 0, 1) := by decide +kernel
theorem dL_law_287 : decode cL_law 287 = .ok (.ireturn, 1) := by decide +kernel
theorem dL_law_288 : decode cL_law 288 = .ok (.iload 5, 2) := by decide +kernel
theorem dL_law_290 : decode cL_law 290 = .ok (.ifCond .ne 15, 3) := by decide +kernel
theorem dL_law_293 : decode cL_law 293 = .ok (.aload_n 3, 1) := by decide +kernel
theorem dL_law_294 : decode cL_law 294 = .ok (.iconst 0, 1) := by decide +kernel
theorem dL_law_295 : decode cL_law 295 = .ok (.laload, 1) := by decide +kernel
theorem dL_law_296 : decode cL_law 296 = .ok (.iload 6, 2) := by decide +kernel
theorem dL_law_298 : decode cL_law 298 = .ok (.i2l, 1) := by decide +kernel
theorem dL_law_299 : decode cL_law 299 = .ok (.lcmp, 1) := by decide +kernel
theorem dL_law_300 : decode cL_law 300 = .ok (.ifCond .eq 5, 3) := by decide +kernel
theorem dL_law_303 : decode cL_law 303 = .ok (.iconst 0, 1) := by decide +kernel
theorem dL_law_304 : decode cL_law 304 = .ok (.ireturn, 1) := by decide +kernel
theorem dL_law_305 : decode cL_law 305 = .ok (.goto 647, 3) := by decide +kernel
theorem dL_law_308 : decode cL_law 308 = .ok (.aload_n 1, 1) := by decide +kernel
theorem dL_law_309 : decode cL_law 309 = .ok (.aload_n 0, 1) := by decide +kernel
theorem dL_law_310 : decode cL_law 310 = .ok (.iload 4, 2) := by decide +kernel
theorem dL_law_312 : decode cL_law 312 = .ok (.iconst 1, 1) := by decide +kernel
theorem dL_law_313 : decode cL_law 313 = .ok (.iadd, 1) := by decide +kernel
theorem dL_law_314 : decode cL_law 314 = .ok (.iaload, 1) := by decide +kernel
theorem dL_law_315 : decode cL_law 315 = .ok (.aload_n 0, 1) := by decide +kernel
theorem dL_law_316 : decode cL_law 316 = .ok (.iload 4, 2) := by decide +kernel
theorem dL_law_318 : decode cL_law 318 = .ok (.iconst 2, 1) := by decide +kernel
theorem dL_law_319 : decode cL_law 319 = .ok (.iadd, 1) := by decide +kernel
theorem dL_law_320 : decode cL_law 320 = .ok (.iaload, 1) := by decide +kernel
theorem dL_law_321 : decode cL_law 321 = .ok (.i2l, 1) := by decide +kernel
theorem dL_law_322 : decode cL_law 322 = .ok (.bipush 32, 2) := by decide +kernel
theorem dL_law_324 : decode cL_law 324 = .ok (.lshl, 1) := by decide +kernel
theorem dL_law_325 : decode cL_law 325 = .ok (.aload_n 0, 1) := by decide +kernel
theorem dL_law_326 : decode cL_law 326 = .ok (.iload 4, 2) := by decide +kernel
theorem dL_law_328 : decode cL_law 328 = .ok (.iconst 3, 1) := by decide +kernel
theorem dL_law_329 : decode cL_law 329 = .ok (.iadd, 1) := by decide +kernel
theorem dL_law_330 : decode cL_law 330 = .ok (.iaload, 1) := by decide +kernel
theorem dL_law_331 : decode cL_law 331 = .ok (.i2l, 1) := by decide +kernel
theorem dL_law_332 : decode cL_law 332 = .ok (.ldc2_w 83, 3) := by decide +kernel
theorem dL_law_335 : decode cL_law 335 = .ok (.land, 1) := by decide +kernel
theorem dL_law_336 : decode cL_law 336 = .ok (.lor, 1) := by decide +kernel
theorem dL_law_337 : decode cL_law 337 = .ok (.aload_n 0, 1) := by decide +kernel
theorem dL_law_338 : decode cL_law 338 = .ok (.iload 4, 2) := by decide +kernel
theorem dL_law_340 : decode cL_law 340 = .ok (.iconst 4, 1) := by decide +kernel
theorem dL_law_341 : decode cL_law 341 = .ok (.iadd, 1) := by decide +kernel
theorem dL_law_342 : decode cL_law 342 = .ok (.iaload, 1) := by decide +kernel
theorem dL_law_343 : decode cL_law 343 = .ok (.aload_n 3, 1) := by decide +kernel
theorem dL_law_344 : decode cL_law 344 = .ok (.invokestatic 85, 3) := by decide +kernel
theorem dL_law_347 : decode cL_law 347 = .ok (.istore 5, 2) := by decide +kernel
theorem dL_law_349 : decode cL_law 349 = .ok (.aload_n 2, 1) := by decide +kernel
theorem dL_law_350 : decode cL_law 350 = .ok (.aload_n 0, 1) := by decide +kernel
theorem dL_law_351 : decode cL_law 351 = .ok (.iload 4, 2) := by decide +kernel
theorem dL_law_353 : decode cL_law 353 = .ok (.iconst 1, 1) := by decide +kernel
theorem dL_law_354 : decode cL_law 354 = .ok (.iadd, 1) := by decide +kernel
theorem dL_law_355 : decode cL_law 355 = .ok (.iaload, 1) := by decide +kernel
theorem dL_law_356 : decode cL_law 356 = .ok (.aload_n 0, 1) := by decide +kernel
theorem dL_law_357 : decode cL_law 357 = .ok (.iload 4, 2) := by decide +kernel
theorem dL_law_359 : decode cL_law 359 = .ok (.iconst 2, 1) := by decide +kernel
theorem dL_law_360 : decode cL_law 360 = .ok (.iadd, 1) := by decide +kernel
theorem dL_law_361 : decode cL_law 361 = .ok (.iaload, 1) := by decide +kernel
theorem dL_law_362 : decode cL_law 362 = .ok (.i2l, 1) := by decide +kernel
theorem dL_law_363 : decode cL_law 363 = .ok (.bipush 32, 2) := by decide +kernel
theorem dL_law_365 : decode cL_law 365 = .ok (.lshl, 1) := by decide +kernel
theorem dL_law_366 : decode cL_law 366 = .ok (.aload_n 0, 1) := by decide +kernel
theorem dL_law_367 : decode cL_law 367 = .ok (.iload 4, 2) := by decide +kernel
theorem dL_law_369 : decode cL_law 369 = .ok (.iconst 3, 1) := by decide +kernel
theorem dL_law_370 : decode cL_law 370 = .ok (.iadd, 1) := by decide +kernel
theorem dL_law_371 : decode cL_law 371 = .ok (.iaload, 1) := by decide +kernel
theorem dL_law_372 : decode cL_law 372 = .ok (.i2l, 1) := by decide +kernel
theorem dL_law_373 : decode cL_law 373 = .ok (.ldc2_w 83, 3) := by decide +kernel
theorem dL_law_376 : decode cL_law 376 = .ok (.land, 1) := by decide +kernel
theorem dL_law_377 : decode cL_law 377 = .ok (.lor, 1) := by decide +kernel
theorem dL_law_378 : decode cL_law 378 = .ok (.aload_n 0, 1) := by decide +kernel
theorem dL_law_379 : decode cL_law 379 = .ok (.iload 4, 2) := by decide +kernel
theorem dL_law_381 : decode cL_law 381 = .ok (.iconst 4, 1) := by decide +kernel
theorem dL_law_382 : decode cL_law 382 = .ok (.iadd, 1) := by decide +kernel
theorem dL_law_383 : decode cL_law 383 = .ok (.iaload, 1) := by decide +kernel
theorem dL_law_384 : decode cL_law 384 = .ok (.invokevirtual 88, 3) := by decide +kernel
theorem dL_law_387 : decode cL_law 387 = .ok (.istore 6, 2) := by decide +kernel
theorem dL_law_389 : decode cL_law 389 = .ok (.aload_n 2, 1) := by decide +kernel
theorem dL_law_390 : decode cL_law 390 = .ok (.invokevirtual 72, 3) := by decide +kernel
theorem dL_law_393 : decode cL_law 393 = .ok (.iload 5, 2) := by decide +kernel
theorem dL_law_395 : decode cL_law 395 = .ok (.if_icmp .eq 5, 3) := by decide +kernel
theorem dL_law_398 : decode cL_law 398 = .ok (.iconst 0, 1) := by decide +kernel
theorem dL_law_399 : decode cL_law 399 = .ok (.ireturn, 1) := by decide +kernel
theorem dL_law_400 : decode cL_law 400 = .ok (.iload 5, 2) := by decide +kernel
theorem dL_law_402 : decode cL_law 402 = .ok (.ifCond .ne 15, 3) := by decide +kernel
theorem dL_law_405 : decode cL_law 405 = .ok (.aload_n 3, 1) := by decide +kernel
theorem dL_law_406 : decode cL_law 406 = .ok (.iconst 0, 1) := by decide +kernel
theorem dL_law_407 : decode cL_law 407 = .ok (.laload, 1) := by decide +kernel
theorem dL_law_408 : decode cL_law 408 = .ok (.iload 6, 2) := by decide +kernel
theorem dL_law_410 : decode cL_law 410 = .ok (.i2l, 1) := by decide +kernel
theorem dL_law_411 : decode cL_law 411 = .ok (.lcmp, 1) := by decide +kernel
theorem dL_law_412 : decode cL_law 412 = .ok (.ifCond .eq 5, 3) := by decide +kernel
theorem dL_law_415 : decode cL_law 415 = .ok (.iconst 0, 1) := by decide +kernel
theorem dL_law_416 : decode cL_law 416 = .ok (.ireturn, 1) := by decide +kernel
theorem dL_law_417 : decode cL_law 417 = .ok (.goto 535, 3) := by decide +kernel
theorem dL_law_420 : decode cL_law 420 = .ok (.aload_n 1, 1) := by decide +kernel
theorem dL_law_421 : decode cL_law 421 = .ok (.invokevirtual 89, 3) := by decide +kernel
theorem dL_law_424 : decode cL_law 424 = .ok (.aload_n 2, 1) := by decide +kernel
theorem dL_law_425 : decode cL_law 425 = .ok (.invokevirtual 92, 3) := by decide +kernel
theorem dL_law_428 : decode cL_law 428 = .ok (.goto 524, 3) := by decide +kernel
theorem dL_law_431 : decode cL_law 431 = .ok (.aload_n 1, 1) := by decide +kernel
theorem dL_law_432 : decode cL_law 432 = .ok (.aload_n 3, 1) := by decide +kernel
theorem dL_law_433 : decode cL_law 433 = .ok (.invokestatic 93, 3) := by decide +kernel
theorem dL_law_436 : decode cL_law 436 = .ok (.istore 5, 2) := by decide +kernel
theorem dL_law_438 : decode cL_law 438 = .ok (.aload_n 2, 1) := by decide +kernel
theorem dL_law_439 : decode cL_law 439 = .ok (.invokevirtual 95, 3) := by decide +kernel
theorem dL_law_442 : decode cL_law 442 = .ok (.istore 6, 2) := by decide +kernel
theorem dL_law_444 : decode cL_law 444 = .ok (.aload_n 2, 1) := by decide +kernel
theorem dL_law_445 : decode cL_law 445 = .ok (.invokevirtual 72, 3) := by decide +kernel
theorem dL_law_448 : decode cL_law 448 = .ok (.iload 5, 2) := by decide +kernel
theorem dL_law_450 : decode cL_law 450 = .ok (.if_icmp .eq 5, 3) := by decide +kernel
theorem dL_law_453 : decode cL_law 453 = .ok (.iconst 0, 1) := by decide +kernel
theorem dL_law_454 : decode cL_law 454 = .ok (.ireturn, 1) := by decide +kernel
theorem dL_law_455 : decode cL_law 455 = .ok (.iload 5, 2) := by decide +kernel
theorem dL_law_457 : decode cL_law 457 = .ok (.ifCond .ne 15, 3) := by decide +kernel
theorem dL_law_460 : decode cL_law 460 = .ok (.aload_n 3, 1) := by decide +kernel
theorem dL_law_461 : decode cL_law 461 = .ok (.iconst 0, 1) := by decide +kernel
theorem dL_law_462 : decode cL_law 462 = .ok (.laload, 1) := by decide +kernel
theorem dL_law_463 : decode cL_law 463 = .ok (.iload 6, 2) := by decide +kernel
theorem dL_law_465 : decode cL_law 465 = .ok (.i2l, 1) := by decide +kernel
theorem dL_law_466 : decode cL_law 466 = .ok (.lcmp, 1) := by decide +kernel
theorem dL_law_467 : decode cL_law 467 = .ok (.ifCond .eq 5, 3) := by decide +kernel
theorem dL_law_470 : decode cL_law 470 = .ok (.iconst 0, 1) := by decide +kernel
theorem dL_law_471 : decode cL_law 471 = .ok (.ireturn, 1) := by decide +kernel
theorem dL_law_472 : decode cL_law 472 = .ok (.goto 480, 3) := by decide +kernel
theorem dL_law_475 : decode cL_law 475 = .ok (.aload_n 1, 1) := by decide +kernel
theorem dL_law_476 : decode cL_law 476 = .ok (.aload_n 3, 1) := by decide +kernel
theorem dL_law_477 : decode cL_law 477 = .ok (.invokestatic 96, 3) := by decide +kernel
theorem dL_law_480 : decode cL_law 480 = .ok (.istore 5, 2) := by decide +kernel
theorem dL_law_482 : decode cL_law 482 = .ok (.aload_n 2, 1) := by decide +kernel
theorem dL_law_483 : decode cL_law 483 = .ok (.invokevirtual 98, 3) := by decide +kernel
theorem dL_law_486 : decode cL_law 486 = .ok (.istore 6, 2) := by decide +kernel
theorem dL_law_488 : decode cL_law 488 = .ok (.aload_n 2, 1) := by decide +kernel
theorem dL_law_489 : decode cL_law 489 = .ok (.invokevirtual 72, 3) := by decide +kernel
theorem dL_law_492 : decode cL_law 492 = .ok (.iload 5, 2) := by decide +kernel
theorem dL_law_494 : decode cL_law 494 = .ok (.if_icmp .eq 5, 3) := by decide +kernel
theorem dL_law_497 : decode cL_law 497 = .ok (.iconst 0, 1) := by decide +kernel
theorem dL_law_498 : decode cL_law 498 = .ok (.ireturn, 1) := by decide +kernel
theorem dL_law_499 : decode cL_law 499 = .ok (.iload 5, 2) := by decide +kernel
theorem dL_law_501 : decode cL_law 501 = .ok (.ifCond .ne 15, 3) := by decide +kernel
theorem dL_law_504 : decode cL_law 504 = .ok (.aload_n 3, 1) := by decide +kernel
theorem dL_law_505 : decode cL_law 505 = .ok (.iconst 0, 1) := by decide +kernel
theorem dL_law_506 : decode cL_law 506 = .ok (.laload, 1) := by decide +kernel
theorem dL_law_507 : decode cL_law 507 = .ok (.iload 6, 2) := by decide +kernel
theorem dL_law_509 : decode cL_law 509 = .ok (.i2l, 1) := by decide +kernel
theorem dL_law_510 : decode cL_law 510 = .ok (.lcmp, 1) := by decide +kernel
theorem dL_law_511 : decode cL_law 511 = .ok (.ifCond .eq 5, 3) := by decide +kernel
theorem dL_law_514 : decode cL_law 514 = .ok (.iconst 0, 1) := by decide +kernel
theorem dL_law_515 : decode cL_law 515 = .ok (.ireturn, 1) := by decide +kernel
theorem dL_law_516 : decode cL_law 516 = .ok (.goto 436, 3) := by decide +kernel
theorem dL_law_519 : decode cL_law 519 = .ok (.aload_n 1, 1) := by decide +kernel
theorem dL_law_520 : decode cL_law 520 = .ok (.aload_n 3, 1) := by decide +kernel
theorem dL_law_521 : decode cL_law 521 = .ok (.invokestatic 99, 3) := by decide +kernel
theorem dL_law_524 : decode cL_law 524 = .ok (.istore 5, 2) := by decide +kernel
theorem dL_law_526 : decode cL_law 526 = .ok (.aload_n 2, 1) := by decide +kernel
theorem dL_law_527 : decode cL_law 527 = .ok (.invokevirtual 101, 3) := by decide +kernel
theorem dL_law_530 : decode cL_law 530 = .ok (.istore 6, 2) := by decide +kernel
theorem dL_law_532 : decode cL_law 532 = .ok (.aload_n 2, 1) := by decide +kernel
theorem dL_law_533 : decode cL_law 533 = .ok (.invokevirtual 72, 3) := by decide +kernel
theorem dL_law_536 : decode cL_law 536 = .ok (.iload 5, 2) := by decide +kernel
theorem dL_law_538 : decode cL_law 538 = .ok (.if_icmp .eq 5, 3) := by decide +kernel
theorem dL_law_541 : decode cL_law 541 = .ok (.iconst 0, 1) := by decide +kernel
theorem dL_law_542 : decode cL_law 542 = .ok (.ireturn, 1) := by decide +kernel
theorem dL_law_543 : decode cL_law 543 = .ok (.iload 5, 2) := by decide +kernel
theorem dL_law_545 : decode cL_law 545 = .ok (.ifCond .ne 15, 3) := by decide +kernel
theorem dL_law_548 : decode cL_law 548 = .ok (.aload_n 3, 1) := by decide +kernel
theorem dL_law_549 : decode cL_law 549 = .ok (.iconst 0, 1) := by decide +kernel
theorem dL_law_550 : decode cL_law 550 = .ok (.laload, 1) := by decide +kernel
theorem dL_law_551 : decode cL_law 551 = .ok (.iload 6, 2) := by decide +kernel
theorem dL_law_553 : decode cL_law 553 = .ok (.i2l, 1) := by decide +kernel
theorem dL_law_554 : decode cL_law 554 = .ok (.lcmp, 1) := by decide +kernel
theorem dL_law_555 : decode cL_law 555 = .ok (.ifCond .eq 5, 3) := by decide +kernel
theorem dL_law_558 : decode cL_law 558 = .ok (.iconst 0, 1) := by decide +kernel
theorem dL_law_559 : decode cL_law 559 = .ok (.ireturn, 1) := by decide +kernel
theorem dL_law_560 : decode cL_law 560 = .ok (.goto 392, 3) := by decide +kernel
theorem dL_law_563 : decode cL_law 563 = .ok (.aload_n 1, 1) := by decide +kernel
theorem dL_law_564 : decode cL_law 564 = .ok (.invokevirtual 102, 3) := by decide +kernel
theorem dL_law_567 : decode cL_law 567 = .ok (.aload_n 2, 1) := by decide +kernel
theorem dL_law_568 : decode cL_law 568 = .ok (.invokevirtual 105, 3) := by decide +kernel
theorem dL_law_571 : decode cL_law 571 = .ok (.if_icmp .eq 381, 3) := by decide +kernel
theorem dL_law_574 : decode cL_law 574 = .ok (.iconst 0, 1) := by decide +kernel
theorem dL_law_575 : decode cL_law 575 = .ok (.ireturn, 1) := by decide +kernel
theorem dL_law_576 : decode cL_law 576 = .ok (.aload_n 1, 1) := by decide +kernel
theorem dL_law_577 : decode cL_law 577 = .ok (.aload_n 0, 1) := by decide +kernel
theorem dL_law_578 : decode cL_law 578 = .ok (.iload 4, 2) := by decide +kernel
theorem dL_law_580 : decode cL_law 580 = .ok (.iconst 1, 1) := by decide +kernel
theorem dL_law_581 : decode cL_law 581 = .ok (.iadd, 1) := by decide +kernel
theorem dL_law_582 : decode cL_law 582 = .ok (.iaload, 1) := by decide +kernel
theorem dL_law_583 : decode cL_law 583 = .ok (.i2l, 1) := by decide +kernel
theorem dL_law_584 : decode cL_law 584 = .ok (.bipush 32, 2) := by decide +kernel
theorem dL_law_586 : decode cL_law 586 = .ok (.lshl, 1) := by decide +kernel
theorem dL_law_587 : decode cL_law 587 = .ok (.aload_n 0, 1) := by decide +kernel
theorem dL_law_588 : decode cL_law 588 = .ok (.iload 4, 2) := by decide +kernel
theorem dL_law_590 : decode cL_law 590 = .ok (.iconst 2, 1) := by decide +kernel
theorem dL_law_591 : decode cL_law 591 = .ok (.iadd, 1) := by decide +kernel
theorem dL_law_592 : decode cL_law 592 = .ok (.iaload, 1) := by decide +kernel
theorem dL_law_593 : decode cL_law 593 = .ok (.i2l, 1) := by decide +kernel
theorem dL_law_594 : decode cL_law 594 = .ok (.ldc2_w 83, 3) := by decide +kernel
theorem dL_law_597 : decode cL_law 597 = .ok (.land, 1) := by decide +kernel
theorem dL_law_598 : decode cL_law 598 = .ok (.lor, 1) := by decide +kernel
theorem dL_law_599 : decode cL_law 599 = .ok (.aload_n 0, 1) := by decide +kernel
theorem dL_law_600 : decode cL_law 600 = .ok (.iload 4, 2) := by decide +kernel
theorem dL_law_602 : decode cL_law 602 = .ok (.iconst 3, 1) := by decide +kernel
theorem dL_law_603 : decode cL_law 603 = .ok (.iadd, 1) := by decide +kernel
theorem dL_law_604 : decode cL_law 604 = .ok (.iaload, 1) := by decide +kernel
theorem dL_law_605 : decode cL_law 605 = .ok (.aload_n 3, 1) := by decide +kernel
theorem dL_law_606 : decode cL_law 606 = .ok (.invokestatic 106, 3) := by decide +kernel
theorem dL_law_609 : decode cL_law 609 = .ok (.istore 5, 2) := by decide +kernel
theorem dL_law_611 : decode cL_law 611 = .ok (.aload_n 2, 1) := by decide +kernel
theorem dL_law_612 : decode cL_law 612 = .ok (.aload_n 0, 1) := by decide +kernel
theorem dL_law_613 : decode cL_law 613 = .ok (.iload 4, 2) := by decide +kernel
theorem dL_law_615 : decode cL_law 615 = .ok (.iconst 1, 1) := by decide +kernel
theorem dL_law_616 : decode cL_law 616 = .ok (.iadd, 1) := by decide +kernel
theorem dL_law_617 : decode cL_law 617 = .ok (.iaload, 1) := by decide +kernel
theorem dL_law_618 : decode cL_law 618 = .ok (.i2l, 1) := by decide +kernel
theorem dL_law_619 : decode cL_law 619 = .ok (.bipush 32, 2) := by decide +kernel
theorem dL_law_621 : decode cL_law 621 = .ok (.lshl, 1) := by decide +kernel
theorem dL_law_622 : decode cL_law 622 = .ok (.aload_n 0, 1) := by decide +kernel
theorem dL_law_623 : decode cL_law 623 = .ok (.iload 4, 2) := by decide +kernel
theorem dL_law_625 : decode cL_law 625 = .ok (.iconst 2, 1) := by decide +kernel
theorem dL_law_626 : decode cL_law 626 = .ok (.iadd, 1) := by decide +kernel
theorem dL_law_627 : decode cL_law 627 = .ok (.iaload, 1) := by decide +kernel
theorem dL_law_628 : decode cL_law 628 = .ok (.i2l, 1) := by decide +kernel
theorem dL_law_629 : decode cL_law 629 = .ok (.ldc2_w 83, 3) := by decide +kernel
theorem dL_law_632 : decode cL_law 632 = .ok (.land, 1) := by decide +kernel
theorem dL_law_633 : decode cL_law 633 = .ok (.lor, 1) := by decide +kernel
theorem dL_law_634 : decode cL_law 634 = .ok (.aload_n 0, 1) := by decide +kernel
theorem dL_law_635 : decode cL_law 635 = .ok (.iload 4, 2) := by decide +kernel
theorem dL_law_637 : decode cL_law 637 = .ok (.iconst 3, 1) := by decide +kernel
theorem dL_law_638 : decode cL_law 638 = .ok (.iadd, 1) := by decide +kernel
theorem dL_law_639 : decode cL_law 639 = .ok (.iaload, 1) := by decide +kernel
theorem dL_law_640 : decode cL_law 640 = .ok (.invokevirtual 109, 3) := by decide +kernel
theorem dL_law_643 : decode cL_law 643 = .ok (.istore 6, 2) := by decide +kernel
theorem dL_law_645 : decode cL_law 645 = .ok (.aload_n 2, 1) := by decide +kernel
theorem dL_law_646 : decode cL_law 646 = .ok (.invokevirtual 72, 3) := by decide +kernel
theorem dL_law_649 : decode cL_law 649 = .ok (.iload 5, 2) := by decide +kernel
theorem dL_law_651 : decode cL_law 651 = .ok (.if_icmp .eq 5, 3) := by decide +kernel
theorem dL_law_654 : decode cL_law 654 = .ok (.iconst 0, 1) := by decide +kernel
theorem dL_law_655 : decode cL_law 655 = .ok (.ireturn, 1) := by decide +kernel
theorem dL_law_656 : decode cL_law 656 = .ok (.iload 5, 2) := by decide +kernel
theorem dL_law_658 : decode cL_law 658 = .ok (.ifCond .ne 15, 3) := by decide +kernel
theorem dL_law_661 : decode cL_law 661 = .ok (.aload_n 3, 1) := by decide +kernel
theorem dL_law_662 : decode cL_law 662 = .ok (.iconst 0, 1) := by decide +kernel
theorem dL_law_663 : decode cL_law 663 = .ok (.laload, 1) := by decide +kernel
theorem dL_law_664 : decode cL_law 664 = .ok (.iload 6, 2) := by decide +kernel
theorem dL_law_666 : decode cL_law 666 = .ok (.i2l, 1) := by decide +kernel
theorem dL_law_667 : decode cL_law 667 = .ok (.lcmp, 1) := by decide +kernel
theorem dL_law_668 : decode cL_law 668 = .ok (.ifCond .eq 5, 3) := by decide +kernel
theorem dL_law_671 : decode cL_law 671 = .ok (.iconst 0, 1) := by decide +kernel
theorem dL_law_672 : decode cL_law 672 = .ok (.ireturn, 1) := by decide +kernel
theorem dL_law_673 : decode cL_law 673 = .ok (.goto 279, 3) := by decide +kernel
theorem dL_law_676 : decode cL_law 676 = .ok (.aload_n 1, 1) := by decide +kernel
theorem dL_law_677 : decode cL_law 677 = .ok (.aload_n 0, 1) := by decide +kernel
theorem dL_law_678 : decode cL_law 678 = .ok (.iload 4, 2) := by decide +kernel
theorem dL_law_680 : decode cL_law 680 = .ok (.iconst 1, 1) := by decide +kernel
theorem dL_law_681 : decode cL_law 681 = .ok (.iadd, 1) := by decide +kernel
theorem dL_law_682 : decode cL_law 682 = .ok (.iaload, 1) := by decide +kernel
theorem dL_law_683 : decode cL_law 683 = .ok (.aload_n 0, 1) := by decide +kernel
theorem dL_law_684 : decode cL_law 684 = .ok (.iload 4, 2) := by decide +kernel
theorem dL_law_686 : decode cL_law 686 = .ok (.iconst 2, 1) := by decide +kernel
theorem dL_law_687 : decode cL_law 687 = .ok (.iadd, 1) := by decide +kernel
theorem dL_law_688 : decode cL_law 688 = .ok (.iaload, 1) := by decide +kernel
theorem dL_law_689 : decode cL_law 689 = .ok (.invokestatic 110, 3) := by decide +kernel
theorem dL_law_692 : decode cL_law 692 = .ok (.istore 5, 2) := by decide +kernel
theorem dL_law_694 : decode cL_law 694 = .ok (.aload_n 2, 1) := by decide +kernel
theorem dL_law_695 : decode cL_law 695 = .ok (.aload_n 0, 1) := by decide +kernel
theorem dL_law_696 : decode cL_law 696 = .ok (.iload 4, 2) := by decide +kernel
theorem dL_law_698 : decode cL_law 698 = .ok (.iconst 1, 1) := by decide +kernel
theorem dL_law_699 : decode cL_law 699 = .ok (.iadd, 1) := by decide +kernel
theorem dL_law_700 : decode cL_law 700 = .ok (.iaload, 1) := by decide +kernel
theorem dL_law_701 : decode cL_law 701 = .ok (.aload_n 0, 1) := by decide +kernel
theorem dL_law_702 : decode cL_law 702 = .ok (.iload 4, 2) := by decide +kernel
theorem dL_law_704 : decode cL_law 704 = .ok (.iconst 2, 1) := by decide +kernel
theorem dL_law_705 : decode cL_law 705 = .ok (.iadd, 1) := by decide +kernel
theorem dL_law_706 : decode cL_law 706 = .ok (.iaload, 1) := by decide +kernel
theorem dL_law_707 : decode cL_law 707 = .ok (.invokevirtual 113, 3) := by decide +kernel
theorem dL_law_710 : decode cL_law 710 = .ok (.aload_n 2, 1) := by decide +kernel
theorem dL_law_711 : decode cL_law 711 = .ok (.invokevirtual 72, 3) := by decide +kernel
theorem dL_law_714 : decode cL_law 714 = .ok (.iload 5, 2) := by decide +kernel
theorem dL_law_716 : decode cL_law 716 = .ok (.if_icmp .eq 5, 3) := by decide +kernel
theorem dL_law_719 : decode cL_law 719 = .ok (.iconst 0, 1) := by decide +kernel
theorem dL_law_720 : decode cL_law 720 = .ok (.ireturn, 1) := by decide +kernel
theorem dL_law_721 : decode cL_law 721 = .ok (.goto 231, 3) := by decide +kernel
theorem dL_law_724 : decode cL_law 724 = .ok (.aload_n 1, 1) := by decide +kernel
theorem dL_law_725 : decode cL_law 725 = .ok (.aload_n 0, 1) := by decide +kernel
theorem dL_law_726 : decode cL_law 726 = .ok (.iload 4, 2) := by decide +kernel
theorem dL_law_728 : decode cL_law 728 = .ok (.iconst 1, 1) := by decide +kernel
theorem dL_law_729 : decode cL_law 729 = .ok (.iadd, 1) := by decide +kernel
theorem dL_law_730 : decode cL_law 730 = .ok (.iaload, 1) := by decide +kernel
theorem dL_law_731 : decode cL_law 731 = .ok (.invokestatic 114, 3) := by decide +kernel
theorem dL_law_734 : decode cL_law 734 = .ok (.istore 5, 2) := by decide +kernel
theorem dL_law_736 : decode cL_law 736 = .ok (.aload_n 2, 1) := by decide +kernel
theorem dL_law_737 : decode cL_law 737 = .ok (.aload_n 0, 1) := by decide +kernel
theorem dL_law_738 : decode cL_law 738 = .ok (.iload 4, 2) := by decide +kernel
theorem dL_law_740 : decode cL_law 740 = .ok (.iconst 1, 1) := by decide +kernel
theorem dL_law_741 : decode cL_law 741 = .ok (.iadd, 1) := by decide +kernel
theorem dL_law_742 : decode cL_law 742 = .ok (.iaload, 1) := by decide +kernel
theorem dL_law_743 : decode cL_law 743 = .ok (.invokevirtual 117, 3) := by decide +kernel
theorem dL_law_746 : decode cL_law 746 = .ok (.aload_n 2, 1) := by decide +kernel
theorem dL_law_747 : decode cL_law 747 = .ok (.invokevirtual 72, 3) := by decide +kernel
theorem dL_law_750 : decode cL_law 750 = .ok (.iload 5, 2) := by decide +kernel
theorem dL_law_752 : decode cL_law 752 = .ok (.if_icmp .eq 5, 3) := by decide +kernel
theorem dL_law_755 : decode cL_law 755 = .ok (.iconst 0, 1) := by decide +kernel
theorem dL_law_756 : decode cL_law 756 = .ok (.ireturn, 1) := by decide +kernel
theorem dL_law_757 : decode cL_law 757 = .ok (.goto 195, 3) := by decide +kernel
theorem dL_law_760 : decode cL_law 760 = .ok (.aload_n 1, 1) := by decide +kernel
theorem dL_law_761 : decode cL_law 761 = .ok (.aload_n 0, 1) := by decide +kernel
theorem dL_law_762 : decode cL_law 762 = .ok (.iload 4, 2) := by decide +kernel
theorem dL_law_764 : decode cL_law 764 = .ok (.iconst 1, 1) := by decide +kernel
theorem dL_law_765 : decode cL_law 765 = .ok (.iadd, 1) := by decide +kernel
theorem dL_law_766 : decode cL_law 766 = .ok (.iaload, 1) := by decide +kernel
theorem dL_law_767 : decode cL_law 767 = .ok (.aload_n 3, 1) := by decide +kernel
theorem dL_law_768 : decode cL_law 768 = .ok (.invokestatic 118, 3) := by decide +kernel
theorem dL_law_771 : decode cL_law 771 = .ok (.istore 5, 2) := by decide +kernel
theorem dL_law_773 : decode cL_law 773 = .ok (.aload_n 2, 1) := by decide +kernel
theorem dL_law_774 : decode cL_law 774 = .ok (.aload_n 0, 1) := by decide +kernel
theorem dL_law_775 : decode cL_law 775 = .ok (.iload 4, 2) := by decide +kernel
theorem dL_law_777 : decode cL_law 777 = .ok (.iconst 1, 1) := by decide +kernel
theorem dL_law_778 : decode cL_law 778 = .ok (.iadd, 1) := by decide +kernel
theorem dL_law_779 : decode cL_law 779 = .ok (.iaload, 1) := by decide +kernel
theorem dL_law_780 : decode cL_law 780 = .ok (.invokevirtual 120, 3) := by decide +kernel
theorem dL_law_783 : decode cL_law 783 = .ok (.istore 6, 2) := by decide +kernel
theorem dL_law_785 : decode cL_law 785 = .ok (.aload_n 2, 1) := by decide +kernel
theorem dL_law_786 : decode cL_law 786 = .ok (.invokevirtual 72, 3) := by decide +kernel
theorem dL_law_789 : decode cL_law 789 = .ok (.iload 5, 2) := by decide +kernel
theorem dL_law_791 : decode cL_law 791 = .ok (.if_icmp .eq 5, 3) := by decide +kernel
theorem dL_law_794 : decode cL_law 794 = .ok (.iconst 0, 1) := by decide +kernel
theorem dL_law_795 : decode cL_law 795 = .ok (.ireturn, 1) := by decide +kernel
theorem dL_law_796 : decode cL_law 796 = .ok (.iload 5, 2) := by decide +kernel
theorem dL_law_798 : decode cL_law 798 = .ok (.ifCond .ne 15, 3) := by decide +kernel
theorem dL_law_801 : decode cL_law 801 = .ok (.aload_n 3, 1) := by decide +kernel
theorem dL_law_802 : decode cL_law 802 = .ok (.iconst 0, 1) := by decide +kernel
theorem dL_law_803 : decode cL_law 803 = .ok (.laload, 1) := by decide +kernel
theorem dL_law_804 : decode cL_law 804 = .ok (.iload 6, 2) := by decide +kernel
theorem dL_law_806 : decode cL_law 806 = .ok (.i2l, 1) := by decide +kernel
theorem dL_law_807 : decode cL_law 807 = .ok (.lcmp, 1) := by decide +kernel
theorem dL_law_808 : decode cL_law 808 = .ok (.ifCond .eq 5, 3) := by decide +kernel
theorem dL_law_811 : decode cL_law 811 = .ok (.iconst 0, 1) := by decide +kernel
theorem dL_law_812 : decode cL_law 812 = .ok (.ireturn, 1) := by decide +kernel
theorem dL_law_813 : decode cL_law 813 = .ok (.goto 139, 3) := by decide +kernel
theorem dL_law_816 : decode cL_law 816 = .ok (.aload_n 1, 1) := by decide +kernel
theorem dL_law_817 : decode cL_law 817 = .ok (.aload_n 0, 1) := by decide +kernel
theorem dL_law_818 : decode cL_law 818 = .ok (.iload 4, 2) := by decide +kernel
theorem dL_law_820 : decode cL_law 820 = .ok (.iconst 1, 1) := by decide +kernel
theorem dL_law_821 : decode cL_law 821 = .ok (.iadd, 1) := by decide +kernel
theorem dL_law_822 : decode cL_law 822 = .ok (.iaload, 1) := by decide +kernel
theorem dL_law_823 : decode cL_law 823 = .ok (.aload_n 3, 1) := by decide +kernel
theorem dL_law_824 : decode cL_law 824 = .ok (.invokestatic 121, 3) := by decide +kernel
theorem dL_law_827 : decode cL_law 827 = .ok (.istore 5, 2) := by decide +kernel
theorem dL_law_829 : decode cL_law 829 = .ok (.aload_n 2, 1) := by decide +kernel
theorem dL_law_830 : decode cL_law 830 = .ok (.aload_n 0, 1) := by decide +kernel
theorem dL_law_831 : decode cL_law 831 = .ok (.iload 4, 2) := by decide +kernel
theorem dL_law_833 : decode cL_law 833 = .ok (.iconst 1, 1) := by decide +kernel
theorem dL_law_834 : decode cL_law 834 = .ok (.iadd, 1) := by decide +kernel
theorem dL_law_835 : decode cL_law 835 = .ok (.iaload, 1) := by decide +kernel
theorem dL_law_836 : decode cL_law 836 = .ok (.invokevirtual 123, 3) := by decide +kernel
theorem dL_law_839 : decode cL_law 839 = .ok (.istore 6, 2) := by decide +kernel
theorem dL_law_841 : decode cL_law 841 = .ok (.aload_n 2, 1) := by decide +kernel
theorem dL_law_842 : decode cL_law 842 = .ok (.invokevirtual 72, 3) := by decide +kernel
theorem dL_law_845 : decode cL_law 845 = .ok (.iload 5, 2) := by decide +kernel
theorem dL_law_847 : decode cL_law 847 = .ok (.if_icmp .eq 5, 3) := by decide +kernel
theorem dL_law_850 : decode cL_law 850 = .ok (.iconst 0, 1) := by decide +kernel
theorem dL_law_851 : decode cL_law 851 = .ok (.ireturn, 1) := by decide +kernel
theorem dL_law_852 : decode cL_law 852 = .ok (.iload 5, 2) := by decide +kernel
theorem dL_law_854 : decode cL_law 854 = .ok (.ifCond .ne 15, 3) := by decide +kernel
theorem dL_law_857 : decode cL_law 857 = .ok (.aload_n 3, 1) := by decide +kernel
theorem dL_law_858 : decode cL_law 858 = .ok (.iconst 0, 1) := by decide +kernel
theorem dL_law_859 : decode cL_law 859 = .ok (.laload, 1) := by decide +kernel
theorem dL_law_860 : decode cL_law 860 = .ok (.iload 6, 2) := by decide +kernel
theorem dL_law_862 : decode cL_law 862 = .ok (.i2l, 1) := by decide +kernel
theorem dL_law_863 : decode cL_law 863 = .ok (.lcmp, 1) := by decide +kernel
theorem dL_law_864 : decode cL_law 864 = .ok (.ifCond .eq 5, 3) := by decide +kernel
theorem dL_law_867 : decode cL_law 867 = .ok (.iconst 0, 1) := by decide +kernel
theorem dL_law_868 : decode cL_law 868 = .ok (.ireturn, 1) := by decide +kernel
theorem dL_law_869 : decode cL_law 869 = .ok (.goto 83, 3) := by decide +kernel
theorem dL_law_872 : decode cL_law 872 = .ok (.aload_n 1, 1) := by decide +kernel
theorem dL_law_873 : decode cL_law 873 = .ok (.aload_n 0, 1) := by decide +kernel
theorem dL_law_874 : decode cL_law 874 = .ok (.iload 4, 2) := by decide +kernel
theorem dL_law_876 : decode cL_law 876 = .ok (.iconst 1, 1) := by decide +kernel
theorem dL_law_877 : decode cL_law 877 = .ok (.iadd, 1) := by decide +kernel
theorem dL_law_878 : decode cL_law 878 = .ok (.iaload, 1) := by decide +kernel
theorem dL_law_879 : decode cL_law 879 = .ok (.aload_n 0, 1) := by decide +kernel
theorem dL_law_880 : decode cL_law 880 = .ok (.iload 4, 2) := by decide +kernel
theorem dL_law_882 : decode cL_law 882 = .ok (.iconst 2, 1) := by decide +kernel
theorem dL_law_883 : decode cL_law 883 = .ok (.iadd, 1) := by decide +kernel
theorem dL_law_884 : decode cL_law 884 = .ok (.iaload, 1) := by decide +kernel
theorem dL_law_885 : decode cL_law 885 = .ok (.aload_n 0, 1) := by decide +kernel
theorem dL_law_886 : decode cL_law 886 = .ok (.iload 4, 2) := by decide +kernel
theorem dL_law_888 : decode cL_law 888 = .ok (.iconst 3, 1) := by decide +kernel
theorem dL_law_889 : decode cL_law 889 = .ok (.iadd, 1) := by decide +kernel
theorem dL_law_890 : decode cL_law 890 = .ok (.iaload, 1) := by decide +kernel
theorem dL_law_891 : decode cL_law 891 = .ok (.aload_n 3, 1) := by decide +kernel
theorem dL_law_892 : decode cL_law 892 = .ok (.invokestatic 124, 3) := by decide +kernel
theorem dL_law_895 : decode cL_law 895 = .ok (.istore 5, 2) := by decide +kernel
theorem dL_law_897 : decode cL_law 897 = .ok (.aload_n 2, 1) := by decide +kernel
theorem dL_law_898 : decode cL_law 898 = .ok (.aload_n 0, 1) := by decide +kernel
theorem dL_law_899 : decode cL_law 899 = .ok (.iload 4, 2) := by decide +kernel
theorem dL_law_901 : decode cL_law 901 = .ok (.iconst 1, 1) := by decide +kernel
theorem dL_law_902 : decode cL_law 902 = .ok (.iadd, 1) := by decide +kernel
theorem dL_law_903 : decode cL_law 903 = .ok (.iaload, 1) := by decide +kernel
theorem dL_law_904 : decode cL_law 904 = .ok (.aload_n 0, 1) := by decide +kernel
theorem dL_law_905 : decode cL_law 905 = .ok (.iload 4, 2) := by decide +kernel
theorem dL_law_907 : decode cL_law 907 = .ok (.iconst 2, 1) := by decide +kernel
theorem dL_law_908 : decode cL_law 908 = .ok (.iadd, 1) := by decide +kernel
theorem dL_law_909 : decode cL_law 909 = .ok (.iaload, 1) := by decide +kernel
theorem dL_law_910 : decode cL_law 910 = .ok (.aload_n 0, 1) := by decide +kernel
theorem dL_law_911 : decode cL_law 911 = .ok (.iload 4, 2) := by decide +kernel
theorem dL_law_913 : decode cL_law 913 = .ok (.iconst 3, 1) := by decide +kernel
theorem dL_law_914 : decode cL_law 914 = .ok (.iadd, 1) := by decide +kernel
theorem dL_law_915 : decode cL_law 915 = .ok (.iaload, 1) := by decide +kernel
theorem dL_law_916 : decode cL_law 916 = .ok (.invokevirtual 127, 3) := by decide +kernel
theorem dL_law_919 : decode cL_law 919 = .ok (.istore 6, 2) := by decide +kernel
theorem dL_law_921 : decode cL_law 921 = .ok (.aload_n 2, 1) := by decide +kernel
theorem dL_law_922 : decode cL_law 922 = .ok (.invokevirtual 72, 3) := by decide +kernel
theorem dL_law_925 : decode cL_law 925 = .ok (.iload 5, 2) := by decide +kernel
theorem dL_law_927 : decode cL_law 927 = .ok (.if_icmp .eq 5, 3) := by decide +kernel
theorem dL_law_930 : decode cL_law 930 = .ok (.iconst 0, 1) := by decide +kernel
theorem dL_law_931 : decode cL_law 931 = .ok (.ireturn, 1) := by decide +kernel
theorem dL_law_932 : decode cL_law 932 = .ok (.iload 5, 2) := by decide +kernel
theorem dL_law_934 : decode cL_law 934 = .ok (.ifCond .ne 15, 3) := by decide +kernel
theorem dL_law_937 : decode cL_law 937 = .ok (.aload_n 3, 1) := by decide +kernel
theorem dL_law_938 : decode cL_law 938 = .ok (.iconst 0, 1) := by decide +kernel
theorem dL_law_939 : decode cL_law 939 = .ok (.laload, 1) := by decide +kernel
theorem dL_law_940 : decode cL_law 940 = .ok (.iload 6, 2) := by decide +kernel
theorem dL_law_942 : decode cL_law 942 = .ok (.i2l, 1) := by decide +kernel
theorem dL_law_943 : decode cL_law 943 = .ok (.lcmp, 1) := by decide +kernel
theorem dL_law_944 : decode cL_law 944 = .ok (.ifCond .eq 5, 3) := by decide +kernel
theorem dL_law_947 : decode cL_law 947 = .ok (.iconst 0, 1) := by decide +kernel
theorem dL_law_948 : decode cL_law 948 = .ok (.ireturn, 1) := by decide +kernel
theorem dL_law_949 : decode cL_law 949 = .ok (.goto 3, 3) := by decide +kernel
theorem dL_law_952 : decode cL_law 952 = .ok (.iinc 4 5, 3) := by decide +kernel
theorem dL_law_955 : decode cL_law 955 = .ok (.goto (-932), 3) := by decide +kernel
theorem dL_law_958 : decode cL_law 958 = .ok (.iconst 1, 1) := by decide +kernel
theorem dL_law_959 : decode cL_law 959 = .ok (.ireturn, 1) := by decide +kernel
end
section
/-! THE WORLD: one state for the class, the reference and the law's long array.
    St: rows as lists (by row number), all other numbers (by a key and a place), the objects that a call makes (address, kind, row), the long of the law's array. -/
abbrev St : Type := (Nat → List Int32) × (Nat → Nat → Int32) × List (Nat × Nat × Nat) × Int64
/-- class ids and slots; class ids of int[], boolean[], long[], Glyph[], Row[]; addresses by number; the cells that may change -/
abbrev Gx : Type := va_G × (ClassId × ClassId × ClassId × ClassId × ClassId) × (Nat → Nat) × (Nat → Prop)
abbrev gad (g : Gx) : Nat → Nat := g.2.2.1
abbrev gA (g : Gx) : Nat → Prop := g.2.2.2
def gtys (g : Gx) : List (ClassId × FieldType) := [(g.2.1.1, .int), (g.2.1.2.1, .boolean), (g.2.1.2.2.1, .long), (g.2.1.2.2.2.1, .object "FontPacker$Glyph"), (g.2.1.2.2.2.2, .object "FontPacker$Row")]
def bw : List Cond := lw_tbl.filter goodWord
theorem bw_at {w : Cond} (k : Nat) (h : lw_tbl[k]? = some w) (g : goodWord w = true) : w ∈ bw := List.mem_filter.mpr ⟨List.mem_of_getElem? h, g⟩
theorem bw_good {w : Cond} (h : w ∈ bw) : goodWord w = true := (List.mem_filter.mp h).2
def gw_cap (r : Nat) : Nat := if r < 48 then (if r % 4 = 0 then 4 else 16) else if r < 62 then (if (r - 48) % 7 = 0 then 516 else if (r - 48) % 7 = 1 then 24 else 20) else if r = 62 then 1500 else if r = 63 then 384 else if r < 66 then 1000 else 7
def gw_ml (a : Nat) : Nat := [6, 6, 6, 96, 96, 96, 96, 7, 140, 6, 6, 6, 96, 96, 96, 96, 24, 7, 140, 1500, 1100, 1100, 7, 7].getD a 0
/-- which font is the font: 0 or 1 -/
def gw_fx (S : St) : Nat := if S.2.1 3 1 = 0 then 0 else 1
theorem gw_fx_le (S : St) : gw_fx S ≤ 1 := by unfold gw_fx; split <;> omega
def gw_model (ad : Nat → Nat) (V : Nat → Int32) : List Value :=
  [.int (V 0), .int (V 1), .ref (ad 159), .ref (ad 160), .ref (ad 161), .ref (ad 162), .ref (ad 163), .ref (ad 164), .ref (ad 165), .ref (ad 166), .ref (ad 167), .int (V 2), .ref (ad 168), .ref (ad 169), .ref (ad 170), .ref (ad 171), .ref (ad 172), .ref (ad 173), .ref (ad 174), .ref (ad 175), .ref (ad 176), .ref (ad 177), .int (V 3), .ref (ad 178), .int (V 4), .ref (ad 179), .int (V 5), .ref (ad 180), .int (V 6), .int (V 7), .int (V 8), .int (V 9), .int (V 10), .int (V 11), .int (V 12), .int (V 13), .int (V 14), .ref (ad 181), .ref (ad 182)]
def gw_e (g : Gx) (S : St) (Gb : Nat → Nat → Int32) (i : Nat) : va_E :=
  if i < 68 then .inr (7, [.ref (gad g (68 + i)), .int (nI (S.1 i).length)])
  else if i < 136 then .inl (g.2.1.1, (gw_cap (i - 68), .inl (Gb (i - 68))))
  else if i < 148 then .inr (4, [.ref (gad g (4 * (i - 136))), .ref (gad g (4 * (i - 136) + 1)), .ref (gad g (4 * (i - 136) + 2)), .ref (gad g (4 * (i - 136) + 3)), .int (S.2.1 0 (i - 136))])
  else if i < 150 then .inr (3, [.ref (gad g (150 + (i - 148))), .ref (gad g (152 + (i - 148))), .int (S.2.1 1 (i - 148))])
  else if i < 152 then .inl (g.2.1.2.2.2.1, (6, .inr (.inr (.inr (.inr (fun k => some (gad g (136 + (6 * (i - 150) + k)))))))))
  else if i < 154 then .inl (g.2.1.2.2.2.2, (7, .inr (.inr (.inr (.inr (fun k => some (gad g (48 + 7 * (i - 152) + k))))))))
  else if i = 154 then .inr (8, [.ref (gad g 63)])
  else if i = 155 then .inr (6, [.ref (gad g 154), .ref (gad g 64)])
  else if i = 156 then .inr (5, [.ref (gad g 65), .ref (gad g 66), .ref (gad g 67), .int (S.2.1 2 0), .int (S.2.1 2 1), .int (S.2.1 2 2), .int (S.2.1 2 3)])
  else if i = 157 then .inr (9, [.ref (gad g 62), .ref (gad g 155), .ref (gad g 156), .ref (gad g (148 + gw_fx S)), .ref (gad g (148 + (1 - gw_fx S))), .int (S.2.1 3 0)])
  else if i = 158 then .inr (10, gw_model (gad g) (S.2.1 9))
  else if i = 164 then .inl (g.2.1.2.1, (96, .inl (S.2.1 15)))
  else if i = 183 then .inl (g.2.1.2.2.1, (1, .inr (.inl (fun _ => S.2.2.2))))
  else .inl (g.2.1.1, (gw_ml (i - 159), .inl (S.2.1 (10 + (i - 159)))))
/-- an object that a call makes: 0 a bit reader, 1 a bit writer, 2 a cursor -/
def gw_t (g : Gx) (S : St) (t : Nat × Nat × Nat) : va_E :=
  if t.2.1 = 0 then .inr (0, [.ref (gad g t.2.2), .int (S.2.1 (1000 + t.1) 0), .int (S.2.1 (1000 + t.1) 1), .int (S.2.1 (1000 + t.1) 2)])
  else if t.2.1 = 1 then .inr (1, [.ref (gad g t.2.2), .int (S.2.1 (1000 + t.1) 0), .int (S.2.1 (1000 + t.1) 1)])
  else .inr (2, [.ref (gad g t.2.2), .int (S.2.1 (1000 + t.1) 0), .int (S.2.1 (1000 + t.1) 1), .int (S.2.1 (1000 + t.1) 2)])
def gw_rows (S : St) (Gb : Nat → Nat → Int32) : Prop := ∀ r, r < 68 → (S.1 r).length ≤ gw_cap r ∧ ∀ j, j < (S.1 r).length → Gb r j = (S.1 r).getD j 0
def wl (g : Gx) (S : St) (Gb : Nat → Nat → Int32) : va_W := (List.range 184).map (fun i => (gad g i, gw_e g S Gb i)) ++ S.2.2.1.map (fun t => (t.1, gw_t g S t))
theorem wl_get (g : Gx) (S : St) (Gb : Nat → Nat → Int32) {i : Nat} (hi : i < 184) : (wl g S Gb)[i]? = some (gad g i, gw_e g S Gb i) := by
  unfold wl
  rw [List.getElem?_append_left (by simpa using hi)]
  simp [hi]
theorem wl_getT (g : Gx) (S : St) (Gb : Nat → Nat → Int32) {t : Nat × Nat × Nat} (h : t ∈ S.2.2.1) : ∃ k, S.2.2.1[k]? = some t ∧ (wl g S Gb)[184 + k]? = some (t.1, gw_t g S t) := by
  obtain ⟨k, hk⟩ := List.mem_iff_getElem?.mp h
  refine ⟨k, hk, ?_⟩
  unfold wl
  rw [List.getElem?_append_right (by simp)]
  simp [hk]
theorem wl_set (g : Gx) (S S' : St) (Gb Gb' : Nat → Nat → Int32) {i0 : Nat} {e : va_E} (hi : i0 < 184) (he : gw_e g S' Gb' i0 = e) (ho : ∀ i, i < 184 → i ≠ i0 → gw_e g S' Gb' i = gw_e g S Gb i) (hT : S'.2.2.1 = S.2.2.1) (ht : ∀ t ∈ S.2.2.1, gw_t g S' t = gw_t g S t) :
    (wl g S Gb).set i0 (gad g i0, e) = wl g S' Gb' := by
  unfold wl
  rw [List.set_append_left _ _ (by simpa using hi), hT]
  congr 1
  · apply List.ext_getElem?
    intro j
    by_cases hj : j < 184
    · by_cases hji : j = i0
      · subst hji
        simp [hj, he]
      · rw [List.getElem?_set_ne (fun h => hji h.symm)]
        simp [hj, ho j hj hji]
    · simp [hj, Nat.not_lt.mp hj]
  · exact List.map_congr_left fun t h => by rw [ht t h]
/-- what throws need of the tables: words that don't keep by themselves, the texts, two statics of Throwable -/
def nx_str : List (Nat × String) := [(48, "the advance is not 0 .. 2000"), (59, "there are 6 glyphs"), (69, "there is no glyph"), (80, "the glyph has 4 contours"), (85, "the glyph has 16 points"), (94, "x or y is not -4000 .. 4000"), (96, "the glyph has no contour"), (105, "the table is not 2 .. 6"), (107, "n is not 1 .. 8"), (116, "the table would have more than 20 bytes"), (138, "the buffer is not a packed font"), (143, "the buffer would have more than 1500 bytes"), (148, "b is not 0 .. 255"), (154, "there are not n bytes"), (169, "what is not 0 .. 3"), (173, "there is no such point"), (192, "the latest contour has no points"), (194, "there is no such byte"), (196, "there is no such glyph")]
def nx_iae : String := "java/lang/IllegalArgumentException"
def nx_ise : String := "java/lang/IllegalStateException"
def nx_ioe : String := "java/lang/IndexOutOfBoundsException"
def NX (g : Gx) (U : State) (H : Heap) : Prop := (va_Nw (.methodLinkNest RX5 182 yX10_isTooFar RX10) U ∧ va_Nw (.castable nx_iae nx_iae) U ∧ va_Nw (.castable nx_ise nx_ise) U ∧ va_Nw (.castable nx_ioe nx_ioe) U) ∧ (∀ x ∈ nx_str, ∃ a, vk_R RX10 x.1 x.2 a U) ∧ vx_Zq Bundle.tN "UNASSIGNED_STACK" Bundle.steD (gA g) U H ∧ vx_Zq Bundle.tN "SUPPRESSED_SENTINEL" Bundle.listD (gA g) U H
theorem NX.go {g : Gx} {s U : State} {H0 H : Heap} (h : NX g s H0) (hW : s.WarmedH U.vm) (hS : ∀ q : Nat, q < H0.size → ¬ gA g q → H[q]? = H0[q]?) : NX g U H := by
  obtain ⟨⟨a1, a2, a3, a4⟩, hs, hu, hn⟩ := h
  refine ⟨⟨va_Nw.warmM hW a1, va_Nw.warmC hW a2, va_Nw.warmC hW a3, va_Nw.warmC hW a4⟩, fun x hx => ?_, (hu.kept hS).moved hW.alike, (hn.kept hS).moved hW.alike⟩
  obtain ⟨a, ha⟩ := hs x hx
  exact ⟨a, ha.warm hW⟩
theorem NX.same {g : Gx} {s U : State} {H : Heap} (h : NX g s H) (hv : U.vm = s.vm) : NX g U H := by
  obtain ⟨⟨a1, a2, a3, a4⟩, hs, hu, hn⟩ := h
  have hal : s.vm.Alike U.vm := by rw [hv]; exact Vm.Alike.refl _
  refine ⟨⟨va_Nw.same rfl hv.symm a1, va_Nw.same rfl hv.symm a2, va_Nw.same rfl hv.symm a3, va_Nw.same rfl hv.symm a4⟩, fun x hx => ?_, hu.moved hal, hn.moved hal⟩
  obtain ⟨a, ha⟩ := hs x hx
  exact ⟨a, ha.same hv⟩
/-- a heap that holds a state, the caller's heap H0 unchanged but for the cells that may change -/
def Hp (g : Gx) (S : St) (H0 H : Heap) (locs : List Loc) : Prop := ∃ Gb, gw_rows S Gb ∧ va_P g.1 vwCl (wl g S Gb) H ∧ va_D (gA g) (wl g S Gb) ∧ va_S (gA g) H0 H locs ∧ ∀ q, H0.size ≤ q → gA g q
/-- the same of a machine's state, with the tables -/
def hw (g : Gx) (S : St) (U : State) : Prop := (∃ Gb, gw_rows S Gb ∧ va_P g.1 vwCl (wl g S Gb) U.heap ∧ va_D (gA g) (wl g S Gb)) ∧ va_K g.1 vwCl (gtys g) U ∧ NX g U U.heap ∧ ∀ q, U.heap.size ≤ q → gA g q
abbrev Fx : Type := Program × Launch × Env × State × MethodId × Array Value × List Frame × Method × Code
def fW (f : Fx) (R : Room) (H : Heap) (locs : List Loc) (cells slots : Nat) (Q : State → Prop) (j : JFrame) : Prop := W f.1 f.2.1 f.2.2.1 R f.2.2.2.1 f.2.2.2.2.1 f.2.2.2.2.2.1 f.2.2.2.2.2.2.1 f.2.2.2.2.2.2.2.1 f.2.2.2.2.2.2.2.2 H locs cells slots Q j
abbrev fs (f : Fx) : State := f.2.2.2.1
abbrev fm (f : Fx) : MethodId := f.2.2.2.2.1
abbrev fargs (f : Fx) : Array Value := f.2.2.2.2.2.1
abbrev fbelow (f : Fx) : List Frame := f.2.2.2.2.2.2.1
abbrev fmeth (f : Fx) : Method := f.2.2.2.2.2.2.2.1
abbrev fcode (f : Fx) : Code := f.2.2.2.2.2.2.2.2
/-- what is fixed while a method runs -/
def Cx (f : Fx) (g : Gx) (cc : ByteArray) (nL : Nat) (own : String) : Prop := f.1.tables.exec = Jvm.exec ∧ (fcode f).code = cc ∧ (fcode f).maxLocals = nL ∧ (fs f).vm.findClass own = some (fm f).cls ∧ (∀ w ∈ bw, w.before (fargs f) (fs f) = true) ∧ va_K g.1 vwCl (gtys g) (fs f) ∧ (fmeth f).locks = false ∧ NX g (fs f) (fs f).heap
/-- at pc, with these locals and this stack, in any heap that holds S: the machine comes to Q -/
def WW (f : Fx) (R : Room) (g : Gx) (nL cells slots : Nat) (Q : State → Prop) (S : St) (pc : Nat) (lv : List (Nat × Value)) (st : List Value) : Prop :=
  ∀ (H : Heap) (locs : List Loc) (ls : Array Slot), Hp g S (fs f).heap H locs → lv_has ls nL lv → fW f R H locs cells slots Q (F0 (fm f) pc ls st)
end
section
section WR
variable {f : Fx} {R : Room} {g : Gx} {cc : ByteArray} {nL cells slots pc : Nat} {own : String} {Q : State → Prop} {S : St} {lv : List (Nat × Value)} {st : List Value}
theorem ww_iadd (C : Cx f g cc nL own) {x y : Int32} (d : decode cc pc = .ok (.iadd, 1)) (k : WW f R g nL cells slots Q S (pc + 1) lv (.int (x + y) :: st)) : WW f R g nL cells slots Q S pc lv (.int y :: .int x :: st) := fun H locs ls h hl => lv_iadd C.1 C.2.1 d (k H locs ls h hl)
theorem ww_isub (C : Cx f g cc nL own) {x y : Int32} (d : decode cc pc = .ok (.isub, 1)) (k : WW f R g nL cells slots Q S (pc + 1) lv (.int (x - y) :: st)) : WW f R g nL cells slots Q S pc lv (.int y :: .int x :: st) := fun H locs ls h hl => lv_isub C.1 C.2.1 d (k H locs ls h hl)
theorem ww_imul (C : Cx f g cc nL own) {x y : Int32} (d : decode cc pc = .ok (.imul, 1)) (k : WW f R g nL cells slots Q S (pc + 1) lv (.int (x * y) :: st)) : WW f R g nL cells slots Q S pc lv (.int y :: .int x :: st) := fun H locs ls h hl => lv_imul C.1 C.2.1 d (k H locs ls h hl)
theorem ww_iand (C : Cx f g cc nL own) {x y : Int32} (d : decode cc pc = .ok (.iand, 1)) (k : WW f R g nL cells slots Q S (pc + 1) lv (.int (x &&& y) :: st)) : WW f R g nL cells slots Q S pc lv (.int y :: .int x :: st) := fun H locs ls h hl => lv_iand C.1 C.2.1 d (k H locs ls h hl)
theorem ww_ixor (C : Cx f g cc nL own) {x y : Int32} (d : decode cc pc = .ok (.ixor, 1)) (k : WW f R g nL cells slots Q S (pc + 1) lv (.int (x ^^^ y) :: st)) : WW f R g nL cells slots Q S pc lv (.int y :: .int x :: st) := fun H locs ls h hl => lv_ixor C.1 C.2.1 d (k H locs ls h hl)
theorem ww_ior (C : Cx f g cc nL own) {x y : Int32} (d : decode cc pc = .ok (.ior, 1)) (k : WW f R g nL cells slots Q S (pc + 1) lv (.int (x ||| y) :: st)) : WW f R g nL cells slots Q S pc lv (.int y :: .int x :: st) := fun H locs ls h hl => lv_ior C.1 C.2.1 d (k H locs ls h hl)
theorem ww_ishl (C : Cx f g cc nL own) {x y : Int32} (d : decode cc pc = .ok (.ishl, 1)) (k : WW f R g nL cells slots Q S (pc + 1) lv (.int (x <<< (y &&& 31)) :: st)) : WW f R g nL cells slots Q S pc lv (.int y :: .int x :: st) := fun H locs ls h hl => lv_ishl C.1 C.2.1 d (k H locs ls h hl)
theorem ww_ishr (C : Cx f g cc nL own) {x y : Int32} (d : decode cc pc = .ok (.ishr, 1)) (k : WW f R g nL cells slots Q S (pc + 1) lv (.int (x >>> (y &&& 31)) :: st)) : WW f R g nL cells slots Q S pc lv (.int y :: .int x :: st) := fun H locs ls h hl => lv_ishr C.1 C.2.1 d (k H locs ls h hl)
theorem ww_idiv (C : Cx f g cc nL own) {x y : Int32} (d : decode cc pc = .ok (.idiv, 1)) (hne : ¬ y = 0) (k : WW f R g nL cells slots Q S (pc + 1) lv (.int (x / y) :: st)) : WW f R g nL cells slots Q S pc lv (.int y :: .int x :: st) := fun H locs ls h hl => lv_idiv C.1 C.2.1 d hne (k H locs ls h hl)
theorem ww_irem (C : Cx f g cc nL own) {x y : Int32} (d : decode cc pc = .ok (.irem, 1)) (hne : ¬ y = 0) (k : WW f R g nL cells slots Q S (pc + 1) lv (.int (x - x / y * y) :: st)) : WW f R g nL cells slots Q S pc lv (.int y :: .int x :: st) := fun H locs ls h hl => lv_irem C.1 C.2.1 d hne (k H locs ls h hl)
theorem ww_ineg (C : Cx f g cc nL own) {x : Int32} (d : decode cc pc = .ok (.ineg, 1)) (k : WW f R g nL cells slots Q S (pc + 1) lv (.int (-x) :: st)) : WW f R g nL cells slots Q S pc lv (.int x :: st) := fun H locs ls h hl => lv_ineg C.1 C.2.1 d (k H locs ls h hl)
theorem ww_ladd (C : Cx f g cc nL own) {x y : Int64} (d : decode cc pc = .ok (.ladd, 1)) (k : WW f R g nL cells slots Q S (pc + 1) lv (.long (x + y) :: st)) : WW f R g nL cells slots Q S pc lv (.long y :: .long x :: st) := fun H locs ls h hl => lv_ladd C.1 C.2.1 d (k H locs ls h hl)
theorem ww_lmul (C : Cx f g cc nL own) {x y : Int64} (d : decode cc pc = .ok (.lmul, 1)) (k : WW f R g nL cells slots Q S (pc + 1) lv (.long (x * y) :: st)) : WW f R g nL cells slots Q S pc lv (.long y :: .long x :: st) := fun H locs ls h hl => lv_lmul C.1 C.2.1 d (k H locs ls h hl)
theorem ww_land (C : Cx f g cc nL own) {x y : Int64} (d : decode cc pc = .ok (.land, 1)) (k : WW f R g nL cells slots Q S (pc + 1) lv (.long (x &&& y) :: st)) : WW f R g nL cells slots Q S pc lv (.long y :: .long x :: st) := fun H locs ls h hl => lv_land C.1 C.2.1 d (k H locs ls h hl)
theorem ww_lor (C : Cx f g cc nL own) {x y : Int64} (d : decode cc pc = .ok (.lor, 1)) (k : WW f R g nL cells slots Q S (pc + 1) lv (.long (x ||| y) :: st)) : WW f R g nL cells slots Q S pc lv (.long y :: .long x :: st) := fun H locs ls h hl => lv_lor C.1 C.2.1 d (k H locs ls h hl)
theorem ww_lrem (C : Cx f g cc nL own) {x y : Int64} (d : decode cc pc = .ok (.lrem, 1)) (hne : ¬ y = 0) (k : WW f R g nL cells slots Q S (pc + 1) lv (.long (x - x / y * y) :: st)) : WW f R g nL cells slots Q S pc lv (.long y :: .long x :: st) := fun H locs ls h hl => lv_lrem C.1 C.2.1 d hne (k H locs ls h hl)
theorem ww_lshl (C : Cx f g cc nL own) {x : Int64} {y : Int32} (d : decode cc pc = .ok (.lshl, 1)) (k : WW f R g nL cells slots Q S (pc + 1) lv (.long (x <<< (y.toInt64 &&& 63)) :: st)) : WW f R g nL cells slots Q S pc lv (.int y :: .long x :: st) := fun H locs ls h hl => lv_lshl C.1 C.2.1 d rfl (k H locs ls h hl)
theorem ww_lshr (C : Cx f g cc nL own) {x : Int64} {y : Int32} (d : decode cc pc = .ok (.lshr, 1)) (k : WW f R g nL cells slots Q S (pc + 1) lv (.long (x >>> (y.toInt64 &&& 63)) :: st)) : WW f R g nL cells slots Q S pc lv (.int y :: .long x :: st) := fun H locs ls h hl => lv_lshr C.1 C.2.1 d rfl (k H locs ls h hl)
theorem ww_i2l (C : Cx f g cc nL own) {x : Int32} (d : decode cc pc = .ok (.i2l, 1)) (k : WW f R g nL cells slots Q S (pc + 1) lv (.long x.toInt64 :: st)) : WW f R g nL cells slots Q S pc lv (.int x :: st) := fun H locs ls h hl => lv_i2l C.1 C.2.1 d rfl (k H locs ls h hl)
theorem ww_l2i (C : Cx f g cc nL own) {x : Int64} (d : decode cc pc = .ok (.l2i, 1)) (k : WW f R g nL cells slots Q S (pc + 1) lv (.int x.toInt32 :: st)) : WW f R g nL cells slots Q S pc lv (.long x :: st) := fun H locs ls h hl => lv_l2i C.1 C.2.1 d rfl (k H locs ls h hl)
theorem ww_lcmp (C : Cx f g cc nL own) {x y : Int64} (d : decode cc pc = .ok (.lcmp, 1)) (k : WW f R g nL cells slots Q S (pc + 1) lv (.int (lg_cmp x y) :: st)) : WW f R g nL cells slots Q S pc lv (.long y :: .long x :: st) := fun H locs ls h hl => W.lcmp C.1 C.2.1 d (k H locs ls h hl)
theorem ww_dup (C : Cx f g cc nL own) {v : Value} (d : decode cc pc = .ok (.dup, 1)) (hv : v.category = 1) (k : WW f R g nL cells slots Q S (pc + 1) lv (v :: v :: st)) : WW f R g nL cells slots Q S pc lv (v :: st) := fun H locs ls h hl => lv_dup C.1 C.2.1 d hv (k H locs ls h hl)
theorem ww_dup2 (C : Cx f g cc nL own) {v w : Value} (d : decode cc pc = .ok (.dup2, 1)) (hv : v.category = 1) (hw : w.category = 1) (k : WW f R g nL cells slots Q S (pc + 1) lv (v :: w :: v :: w :: st)) : WW f R g nL cells slots Q S pc lv (v :: w :: st) := fun H locs ls h hl => lv_dup2_11 C.1 C.2.1 d hv hw (k H locs ls h hl)
theorem ww_pop (C : Cx f g cc nL own) {v : Value} (d : decode cc pc = .ok (.pop, 1)) (hv : v.category = 1) (k : WW f R g nL cells slots Q S (pc + 1) lv (st)) : WW f R g nL cells slots Q S pc lv (v :: st) := fun H locs ls h hl => lv_pop C.1 C.2.1 d hv (k H locs ls h hl)
theorem ww_iconst (C : Cx f g cc nL own) {n : Int} {v : Int32} (d : decode cc pc = .ok (.iconst n, 1)) (hv : Int32.ofInt n = v) (k : WW f R g nL cells slots Q S (pc + 1) lv (.int v :: st)) : WW f R g nL cells slots Q S pc lv (st) := fun H locs ls h hl => lv_iconst C.1 C.2.1 d hv (k H locs ls h hl)
theorem ww_bipush (C : Cx f g cc nL own) {n : Int} {v : Int32} (d : decode cc pc = .ok (.bipush n, 2)) (hv : (Int8.ofInt n).toInt32 = v) (k : WW f R g nL cells slots Q S (pc + 2) lv (.int v :: st)) : WW f R g nL cells slots Q S pc lv (st) := fun H locs ls h hl => lv_bipush C.1 C.2.1 d hv (k H locs ls h hl)
theorem ww_sipush (C : Cx f g cc nL own) {n : Int} {v : Int32} (d : decode cc pc = .ok (.sipush n, 3)) (hv : (Int16.ofInt n).toInt32 = v) (k : WW f R g nL cells slots Q S (pc + 3) lv (.int v :: st)) : WW f R g nL cells slots Q S pc lv (st) := fun H locs ls h hl => lv_sipush C.1 C.2.1 d hv (k H locs ls h hl)
theorem ww_lconst (C : Cx f g cc nL own) {n : Fin 2} {v : Int64} (d : decode cc pc = .ok (.lconst n, 1)) (hv : Int64.ofNat (n : Nat) = v) (k : WW f R g nL cells slots Q S (pc + 1) lv (.long v :: st)) : WW f R g nL cells slots Q S pc lv (st) := fun H locs ls h hl => lv_lconst C.1 C.2.1 d hv (k H locs ls h hl)
theorem ww_iload_n (C : Cx f g cc nL own) {j : Fin 4} {x : Int32} (d : decode cc pc = .ok (.iload_n j, 1)) (k0 : Nat) (hk : lv[k0]? = some ((j : Nat), .int x)) (k : WW f R g nL cells slots Q S (pc + 1) lv (.int x :: st)) : WW f R g nL cells slots Q S pc lv st := fun H locs ls h hl => lv_iload_n C.1 C.2.1 d rfl (lv_at hl k0 hk) (k H locs ls h hl)
theorem ww_iload (C : Cx f g cc nL own) {j : Nat} {x : Int32} (d : decode cc pc = .ok (.iload j, 2)) (k0 : Nat) (hk : lv[k0]? = some (j, .int x)) (k : WW f R g nL cells slots Q S (pc + 2) lv (.int x :: st)) : WW f R g nL cells slots Q S pc lv st := fun H locs ls h hl => lv_iload C.1 C.2.1 d (lv_at hl k0 hk) (k H locs ls h hl)
theorem ww_lload_n (C : Cx f g cc nL own) {j : Fin 4} {x : Int64} (d : decode cc pc = .ok (.lload_n j, 1)) (k0 : Nat) (hk : lv[k0]? = some ((j : Nat), .long x)) (k : WW f R g nL cells slots Q S (pc + 1) lv (.long x :: st)) : WW f R g nL cells slots Q S pc lv st := fun H locs ls h hl => lv_lload_n C.1 C.2.1 d rfl (lv_at hl k0 hk) (k H locs ls h hl)
theorem ww_lload (C : Cx f g cc nL own) {j : Nat} {x : Int64} (d : decode cc pc = .ok (.lload j, 2)) (k0 : Nat) (hk : lv[k0]? = some (j, .long x)) (k : WW f R g nL cells slots Q S (pc + 2) lv (.long x :: st)) : WW f R g nL cells slots Q S pc lv st := fun H locs ls h hl => lv_lload C.1 C.2.1 d (lv_at hl k0 hk) (k H locs ls h hl)
theorem ww_aload_n (C : Cx f g cc nL own) {j : Fin 4} {x : Nat} (d : decode cc pc = .ok (.aload_n j, 1)) (k0 : Nat) (hk : lv[k0]? = some ((j : Nat), .ref x)) (k : WW f R g nL cells slots Q S (pc + 1) lv (.ref x :: st)) : WW f R g nL cells slots Q S pc lv st := fun H locs ls h hl => lv_aload_n C.1 C.2.1 d rfl (lv_at hl k0 hk) (k H locs ls h hl)
theorem ww_aload (C : Cx f g cc nL own) {j : Nat} {x : Nat} (d : decode cc pc = .ok (.aload j, 2)) (k0 : Nat) (hk : lv[k0]? = some (j, .ref x)) (k : WW f R g nL cells slots Q S (pc + 2) lv (.ref x :: st)) : WW f R g nL cells slots Q S pc lv st := fun H locs ls h hl => lv_aload C.1 C.2.1 d (lv_at hl k0 hk) (k H locs ls h hl)
theorem ww_istore_n (C : Cx f g cc nL own) {j : Fin 4} {i : Nat} {x : Int32} {lv2 : List (Nat × Value)} (d : decode cc pc = .ok (.istore_n j, 1)) (hi : (j : Nat) = i) (hn : i < nL) (hl2 : (i, .int x) :: lv.filter (fun q => !(q.1 == i) && !(q.1 + 1 == i && q.2.category == 2)) = lv2) (k : WW f R g nL cells slots Q S (pc + 1) lv2 st) : WW f R g nL cells slots Q S pc lv (.int x :: st) := fun H locs ls h hl => lv_istore_n C.1 C.2.1 d hi hl hn hl2 (fun ls2 hl3 => k H locs ls2 h hl3)
theorem ww_istore (C : Cx f g cc nL own) {i : Nat} {x : Int32} {lv2 : List (Nat × Value)} (d : decode cc pc = .ok (.istore i, 2)) (hn : i < nL) (hl2 : (i, .int x) :: lv.filter (fun q => !(q.1 == i) && !(q.1 + 1 == i && q.2.category == 2)) = lv2) (k : WW f R g nL cells slots Q S (pc + 2) lv2 st) : WW f R g nL cells slots Q S pc lv (.int x :: st) := fun H locs ls h hl => lv_istore C.1 C.2.1 d hl hn hl2 (fun ls2 hl3 => k H locs ls2 h hl3)
theorem ww_lstore_n (C : Cx f g cc nL own) {j : Fin 4} {i : Nat} {x : Int64} {lv2 : List (Nat × Value)} (d : decode cc pc = .ok (.lstore_n j, 1)) (hi : (j : Nat) = i) (hn : i + 1 < nL) (hl2 : (i, .long x) :: lv.filter (fun q => !(q.1 == i) && (!(q.1 == i + 1) && !(q.1 + 1 == i && q.2.category == 2))) = lv2) (k : WW f R g nL cells slots Q S (pc + 1) lv2 st) : WW f R g nL cells slots Q S pc lv (.long x :: st) := fun H locs ls h hl => lv_lstore_n C.1 C.2.1 d hi hl hn hl2 (fun ls2 hl3 => k H locs ls2 h hl3)
theorem ww_lstore (C : Cx f g cc nL own) {i : Nat} {x : Int64} {lv2 : List (Nat × Value)} (d : decode cc pc = .ok (.lstore i, 2)) (hn : i + 1 < nL) (hl2 : (i, .long x) :: lv.filter (fun q => !(q.1 == i) && (!(q.1 == i + 1) && !(q.1 + 1 == i && q.2.category == 2))) = lv2) (k : WW f R g nL cells slots Q S (pc + 2) lv2 st) : WW f R g nL cells slots Q S pc lv (.long x :: st) := fun H locs ls h hl => lv_lstore C.1 C.2.1 d hl hn hl2 (fun ls2 hl3 => k H locs ls2 h hl3)
theorem ww_astore_n (C : Cx f g cc nL own) {j : Fin 4} {i : Nat} {x : Nat} {lv2 : List (Nat × Value)} (d : decode cc pc = .ok (.astore_n j, 1)) (hi : (j : Nat) = i) (hn : i < nL) (hl2 : (i, .ref x) :: lv.filter (fun q => !(q.1 == i) && !(q.1 + 1 == i && q.2.category == 2)) = lv2) (k : WW f R g nL cells slots Q S (pc + 1) lv2 st) : WW f R g nL cells slots Q S pc lv (.ref x :: st) := fun H locs ls h hl => lv_astore_n C.1 C.2.1 d hi hl hn hl2 (fun ls2 hl3 => k H locs ls2 h hl3)
theorem ww_astore (C : Cx f g cc nL own) {i : Nat} {x : Nat} {lv2 : List (Nat × Value)} (d : decode cc pc = .ok (.astore i, 2)) (hn : i < nL) (hl2 : (i, .ref x) :: lv.filter (fun q => !(q.1 == i) && !(q.1 + 1 == i && q.2.category == 2)) = lv2) (k : WW f R g nL cells slots Q S (pc + 2) lv2 st) : WW f R g nL cells slots Q S pc lv (.ref x :: st) := fun H locs ls h hl => lv_astore C.1 C.2.1 d hl hn hl2 (fun ls2 hl3 => k H locs ls2 h hl3)
theorem ww_iinc (C : Cx f g cc nL own) {i : Nat} {n : Int} {x v : Int32} {lv2 : List (Nat × Value)} (d : decode cc pc = .ok (.iinc i n, 3)) (k0 : Nat) (hk : lv[k0]? = some (i, .int x)) (hv : x + Int32.ofInt n = v) (hn : i < nL) (hl2 : (i, .int v) :: lv.filter (fun q => !(q.1 == i) && !(q.1 + 1 == i && q.2.category == 2)) = lv2) (k : WW f R g nL cells slots Q S (pc + 3) lv2 st) : WW f R g nL cells slots Q S pc lv st := fun H locs ls h hl => lv_iinc C.1 C.2.1 d hl hk hv hn hl2 (fun ls2 hl3 => k H locs ls2 h hl3)
theorem ww_goto (C : Cx f g cc nL own) {off : Int} (d : decode cc pc = .ok (.goto off, 3)) {tgt : Nat} (ht : (pc : Int) + off = (tgt : Int)) (k : WW f R g nL cells slots Q S tgt lv st) : WW f R g nL cells slots Q S pc lv st := fun H locs ls h hl => lv_goto C.1 C.2.1 d ht (k H locs ls h hl)
theorem ww_icmp_lt (C : Cx f g cc nL own) {x y : Int32} {off : Int} (d : decode cc pc = .ok (.if_icmp .lt off, 3)) {tgt : Nat} (ht : (pc : Int) + off = (tgt : Int)) (kt : x < y → WW f R g nL cells slots Q S tgt lv st) (kf : ¬ x < y → WW f R g nL cells slots Q S (pc + 3) lv st) : WW f R g nL cells slots Q S pc lv (.int y :: .int x :: st) := fun H locs ls h hl => lv_icmp_lt C.1 C.2.1 d ht (fun q => kt q H locs ls h hl) (fun q => kf q H locs ls h hl)
theorem ww_if_lt (C : Cx f g cc nL own) {x : Int32} {off : Int} (d : decode cc pc = .ok (.ifCond .lt off, 3)) {tgt : Nat} (ht : (pc : Int) + off = (tgt : Int)) (kt : x < 0 → WW f R g nL cells slots Q S tgt lv st) (kf : ¬ x < 0 → WW f R g nL cells slots Q S (pc + 3) lv st) : WW f R g nL cells slots Q S pc lv (.int x :: st) := fun H locs ls h hl => lv_if_lt C.1 C.2.1 d ht (fun q => kt q H locs ls h hl) (fun q => kf q H locs ls h hl)
theorem ww_icmp_ge (C : Cx f g cc nL own) {x y : Int32} {off : Int} (d : decode cc pc = .ok (.if_icmp .ge off, 3)) {tgt : Nat} (ht : (pc : Int) + off = (tgt : Int)) (kt : y ≤ x → WW f R g nL cells slots Q S tgt lv st) (kf : ¬ y ≤ x → WW f R g nL cells slots Q S (pc + 3) lv st) : WW f R g nL cells slots Q S pc lv (.int y :: .int x :: st) := fun H locs ls h hl => lv_icmp_ge C.1 C.2.1 d ht (fun q => kt q H locs ls h hl) (fun q => kf q H locs ls h hl)
theorem ww_if_ge (C : Cx f g cc nL own) {x : Int32} {off : Int} (d : decode cc pc = .ok (.ifCond .ge off, 3)) {tgt : Nat} (ht : (pc : Int) + off = (tgt : Int)) (kt : 0 ≤ x → WW f R g nL cells slots Q S tgt lv st) (kf : ¬ 0 ≤ x → WW f R g nL cells slots Q S (pc + 3) lv st) : WW f R g nL cells slots Q S pc lv (.int x :: st) := fun H locs ls h hl => lv_if_ge C.1 C.2.1 d ht (fun q => kt q H locs ls h hl) (fun q => kf q H locs ls h hl)
theorem ww_icmp_gt (C : Cx f g cc nL own) {x y : Int32} {off : Int} (d : decode cc pc = .ok (.if_icmp .gt off, 3)) {tgt : Nat} (ht : (pc : Int) + off = (tgt : Int)) (kt : y < x → WW f R g nL cells slots Q S tgt lv st) (kf : ¬ y < x → WW f R g nL cells slots Q S (pc + 3) lv st) : WW f R g nL cells slots Q S pc lv (.int y :: .int x :: st) := fun H locs ls h hl => lv_icmp_gt C.1 C.2.1 d ht (fun q => kt q H locs ls h hl) (fun q => kf q H locs ls h hl)
theorem ww_if_gt (C : Cx f g cc nL own) {x : Int32} {off : Int} (d : decode cc pc = .ok (.ifCond .gt off, 3)) {tgt : Nat} (ht : (pc : Int) + off = (tgt : Int)) (kt : 0 < x → WW f R g nL cells slots Q S tgt lv st) (kf : ¬ 0 < x → WW f R g nL cells slots Q S (pc + 3) lv st) : WW f R g nL cells slots Q S pc lv (.int x :: st) := fun H locs ls h hl => lv_if_gt C.1 C.2.1 d ht (fun q => kt q H locs ls h hl) (fun q => kf q H locs ls h hl)
theorem ww_icmp_le (C : Cx f g cc nL own) {x y : Int32} {off : Int} (d : decode cc pc = .ok (.if_icmp .le off, 3)) {tgt : Nat} (ht : (pc : Int) + off = (tgt : Int)) (kt : x ≤ y → WW f R g nL cells slots Q S tgt lv st) (kf : ¬ x ≤ y → WW f R g nL cells slots Q S (pc + 3) lv st) : WW f R g nL cells slots Q S pc lv (.int y :: .int x :: st) := fun H locs ls h hl => lv_icmp_le C.1 C.2.1 d ht (fun q => kt q H locs ls h hl) (fun q => kf q H locs ls h hl)
theorem ww_if_le (C : Cx f g cc nL own) {x : Int32} {off : Int} (d : decode cc pc = .ok (.ifCond .le off, 3)) {tgt : Nat} (ht : (pc : Int) + off = (tgt : Int)) (kt : x ≤ 0 → WW f R g nL cells slots Q S tgt lv st) (kf : ¬ x ≤ 0 → WW f R g nL cells slots Q S (pc + 3) lv st) : WW f R g nL cells slots Q S pc lv (.int x :: st) := fun H locs ls h hl => lv_if_le C.1 C.2.1 d ht (fun q => kt q H locs ls h hl) (fun q => kf q H locs ls h hl)
theorem ww_icmp_eq (C : Cx f g cc nL own) {x y : Int32} {off : Int} (d : decode cc pc = .ok (.if_icmp .eq off, 3)) {tgt : Nat} (ht : (pc : Int) + off = (tgt : Int)) (kt : x = y → WW f R g nL cells slots Q S tgt lv st) (kf : ¬ x = y → WW f R g nL cells slots Q S (pc + 3) lv st) : WW f R g nL cells slots Q S pc lv (.int y :: .int x :: st) := fun H locs ls h hl => lv_icmp_eq C.1 C.2.1 d ht (fun q => kt q H locs ls h hl) (fun q => kf q H locs ls h hl)
theorem ww_if_eq (C : Cx f g cc nL own) {x : Int32} {off : Int} (d : decode cc pc = .ok (.ifCond .eq off, 3)) {tgt : Nat} (ht : (pc : Int) + off = (tgt : Int)) (kt : x = 0 → WW f R g nL cells slots Q S tgt lv st) (kf : ¬ x = 0 → WW f R g nL cells slots Q S (pc + 3) lv st) : WW f R g nL cells slots Q S pc lv (.int x :: st) := fun H locs ls h hl => lv_if_eq C.1 C.2.1 d ht (fun q => kt q H locs ls h hl) (fun q => kf q H locs ls h hl)
theorem ww_icmp_ne (C : Cx f g cc nL own) {x y : Int32} {off : Int} (d : decode cc pc = .ok (.if_icmp .ne off, 3)) {tgt : Nat} (ht : (pc : Int) + off = (tgt : Int)) (kt : ¬ x = y → WW f R g nL cells slots Q S tgt lv st) (kf : x = y → WW f R g nL cells slots Q S (pc + 3) lv st) : WW f R g nL cells slots Q S pc lv (.int y :: .int x :: st) := fun H locs ls h hl => lv_icmp_ne C.1 C.2.1 d ht (fun q => kt q H locs ls h hl) (fun q => kf q H locs ls h hl)
theorem ww_if_ne (C : Cx f g cc nL own) {x : Int32} {off : Int} (d : decode cc pc = .ok (.ifCond .ne off, 3)) {tgt : Nat} (ht : (pc : Int) + off = (tgt : Int)) (kt : ¬ x = 0 → WW f R g nL cells slots Q S tgt lv st) (kf : x = 0 → WW f R g nL cells slots Q S (pc + 3) lv st) : WW f R g nL cells slots Q S pc lv (.int x :: st) := fun H locs ls h hl => lv_if_ne C.1 C.2.1 d ht (fun q => kt q H locs ls h hl) (fun q => kf q H locs ls h hl)
theorem ww_ldc2 (C : Cx f g cc nL own) {index : Nat} {v : Int64} (d : decode cc pc = .ok (.ldc2_w index, 3)) (hw : Cond.constantLong own index v ∈ bw) (k : WW f R g nL cells slots Q S (pc + 3) lv (.long v :: st)) : WW f R g nL cells slots Q S pc lv st := fun H locs ls h hl => lv_ldc2 C.1 C.2.1 C.2.2.2.1 (C.2.2.2.2.1 _ hw) d (k H locs ls h hl)
theorem ww_table_in (C : Cx f g cc nL own) {dflt lo hi : Int} {offs : Array Int} {len : Nat} {x : Int32} {off : Int} (d : decode cc pc = .ok (.tableswitch dflt lo hi offs, len)) (h1 : ¬ x.toInt < lo) (h2 : ¬ hi < x.toInt) (ho : offs[(x.toInt - lo).toNat]? = some off) {tgt : Nat} (ht : (pc : Int) + off = (tgt : Int)) (k : WW f R g nL cells slots Q S tgt lv st) : WW f R g nL cells slots Q S pc lv (.int x :: st) := fun H locs ls h hl => lv_tableIn C.1 C.2.1 d h1 h2 ho ht (k H locs ls h hl)
theorem ww_table_out (C : Cx f g cc nL own) {dflt lo hi : Int} {offs : Array Int} {len : Nat} {x : Int32} (d : decode cc pc = .ok (.tableswitch dflt lo hi offs, len)) (h1 : x.toInt < lo ∨ hi < x.toInt) {tgt : Nat} (ht : (pc : Int) + dflt = (tgt : Int)) (k : WW f R g nL cells slots Q S tgt lv st) : WW f R g nL cells slots Q S pc lv (.int x :: st) := fun H locs ls h hl => lv_tableOut C.1 C.2.1 d h1 ht (k H locs ls h hl)
theorem ww_sub {lv2 : List (Nat × Value)} (ks : List Nat) (hl2 : lv_pick lv ks = lv2) (k : WW f R g nL cells slots Q S pc lv2 st) : WW f R g nL cells slots Q S pc lv st := fun H locs ls h hl => k H locs ls h (lv_sub hl ks hl2)
theorem ww_widen {c2 s2 : Nat} (h1 : cells ≤ c2) (h2 : slots ≤ s2) (k : WW f R g nL c2 s2 Q S pc lv st) : WW f R g nL cells slots Q S pc lv st := fun H locs ls h hl => W.widen h1 h2 (k H locs ls h hl)
end WR
end
section
def stX (S : St) (r : Nat) (l : List Int32) : St := (va_up S.1 r l, S.2)
def stM (S : St) (k p : Nat) (v : Int32) : St := (S.1, (fun k' => if k' = k then va_up (S.2.1 k) p v else S.2.1 k'), S.2.2)
def stO (S : St) (v : Int64) : St := (S.1, S.2.1, S.2.2.1, v)
def stT (S : St) (t : List (Nat × Nat × Nat)) : St := (S.1, S.2.1, t, S.2.2.2)
section WX
variable {f : Fx} {R : Room} {g : Gx} {cc : ByteArray} {nL cells slots pc : Nat} {own : String} {Q : State → Prop} {S : St} {lv : List (Nat × Value)} {st : List Value}
theorem va_P.one {D : va_G} {cl : List vw_C} {ws : va_W} {H : Heap} (h : va_P D cl ws H) {k : Nat} {q : Nat × va_E} (hk : ws[k]? = some q) : va_P D cl [q] H := fun j q2 hj => by
  cases j with
  | zero => simp at hj; subst hj; exact h k _ hk
  | succ j => simp at hj
/-- a field of a thing at a place of the world -/
theorem ww_getq (C : Cx f g cc nL own) {CN ref : String} {T : u_T} {N ci index a : Nat} {fl : List Value} {v : Value} (he : ∀ Gb, ∃ q0 : Nat, (wl g S Gb)[q0]? = some (a, .inr (ci, fl))) (hc : vwCl[ci]? = some (CN, T, N)) (hin : ∀ w ∈ u_ws CN T N, w ∈ bw) (k : Nat) (hk : k < N)
    (hlink : Cond.fieldLink own index ref (T k).2.1 (T k).2.2.1 ∈ bw) (href : (T k).1 = ref) (hv : fl[k]? = some v) (d : decode cc pc = .ok (.getfield index, 3)) (kk : WW f R g nL cells slots Q S (pc + 3) lv (v :: st)) : WW f R g nL cells slots Q S pc lv (.ref a :: st) := by
  intro H locs ls h hl
  obtain ⟨Gb, h1, h2, h3, h4, h5⟩ := id h
  obtain ⟨q0, hq0⟩ := he Gb
  exact va_get C.1 C.2.1 C.2.2.2.2.1 hin C.2.2.2.1 C.2.2.2.2.2.1 h2 q0 hq0 hc k hk (C.2.2.2.2.1 _ hlink) (fun x hx => by rw [← href]; exact hx) hv d (kk H locs ls h hl)
theorem ww_getf (C : Cx f g cc nL own) {i : Nat} (hi : i < 184) {CN ref : String} {T : u_T} {N ci index : Nat} {fl : List Value} {v : Value} (he : ∀ Gb, gw_e g S Gb i = .inr (ci, fl)) (hc : vwCl[ci]? = some (CN, T, N)) (hin : ∀ w ∈ u_ws CN T N, w ∈ bw) (k : Nat) (hk : k < N)
    (hlink : Cond.fieldLink own index ref (T k).2.1 (T k).2.2.1 ∈ bw) (href : (T k).1 = ref) (hv : fl[k]? = some v) (d : decode cc pc = .ok (.getfield index, 3)) (kk : WW f R g nL cells slots Q S (pc + 3) lv (v :: st)) : WW f R g nL cells slots Q S pc lv (.ref (gad g i) :: st) :=
  ww_getq C (fun Gb => ⟨i, by rw [wl_get g S Gb hi, he Gb]⟩) hc hin k hk hlink href hv d kk
/-- what an update of one thing must keep: the rows, and all other things -/
def updOK (g : Gx) (S S' : St) (i : Nat) (e : va_E) : Prop := (∀ Gb, gw_rows S Gb → ∃ Gb', gw_rows S' Gb' ∧ gw_e g S' Gb' i = e ∧ ∀ j, j < 184 → j ≠ i → gw_e g S' Gb' j = gw_e g S Gb j) ∧ S'.2.2.1 = S.2.2.1 ∧ ∀ t ∈ S.2.2.1, gw_t g S' t = gw_t g S t
theorem ww_putf (C : Cx f g cc nL own) {i : Nat} (hi : i < 184) {CN ref : String} {T : u_T} {N ci index : Nat} {fl : List Value} {v : Value} {S' : St} (he : ∀ Gb, gw_e g S Gb i = .inr (ci, fl)) (hc : vwCl[ci]? = some (CN, T, N)) (hin : ∀ w ∈ u_ws CN T N, w ∈ bw) (ty0 : Nat → FieldType) (hty : ∀ k, k < N → parseFieldDescriptor (T k).2.2.1 = some (ty0 k)) (hnm : ∀ a, a < N → ∀ b, b < N → a ≠ b → (T a).2.1 ≠ (T b).2.1) (k : Nat) (hk : k < N)
    (hlink : Cond.fieldLink own index ref (T k).2.1 (T k).2.2.1 ∈ bw) (href : (T k).1 = ref) (hfin : (T k).2.2.2 = false) {ty : FieldType} (hd : parseFieldDescriptor (T k).2.2.1 = some ty) (hn : narrow ty v = v) (hfit : fits ty v = true) (hlen : k < fl.length) (hU : updOK g S S' i (.inr (ci, fl.set k v))) (d : decode cc pc = .ok (.putfield index, 3)) (kk : WW f R g nL cells slots Q S' (pc + 3) lv st) : WW f R g nL cells slots Q S pc lv (v :: .ref (gad g i) :: st) := by
  intro H locs ls h hl
  obtain ⟨Gb, h1, h2, h3, h4, h5⟩ := id h
  obtain ⟨hG, hT, ht⟩ := hU
  obtain ⟨Gb', g1, g2, g3⟩ := hG Gb h1
  refine va_put C.1 C.2.1 C.2.2.2.2.1 hin ty0 hty hnm C.2.2.2.1 C.2.2.2.2.2.1 h2 h3 h4 i (by rw [wl_get g S Gb hi, he Gb]) hc k hk (C.2.2.2.2.1 _ hlink) (fun x hx => by rw [← href]; exact hx) hfin hd hn hfit hlen d (fun H1 locs1 hP hD hS => ?_)
  rw [wl_set g S S' Gb Gb' hi g2 g3 hT ht] at hP hD
  exact kk H1 locs1 ls ⟨Gb', g1, hP, hD, hS, h5⟩ hl
/-- a field of an object that a call made -/
theorem ww_putt (C : Cx f g cc nL own) {t : Nat × Nat × Nat} (hm : t ∈ S.2.2.1) {CN ref : String} {T : u_T} {N ci index : Nat} {fl : List Value} {v : Value} {S' : St} (he : gw_t g S t = .inr (ci, fl)) (hc : vwCl[ci]? = some (CN, T, N)) (hin : ∀ w ∈ u_ws CN T N, w ∈ bw) (ty0 : Nat → FieldType) (hty : ∀ k, k < N → parseFieldDescriptor (T k).2.2.1 = some (ty0 k)) (hnm : ∀ a, a < N → ∀ b, b < N → a ≠ b → (T a).2.1 ≠ (T b).2.1) (k : Nat) (hk : k < N)
    (hlink : Cond.fieldLink own index ref (T k).2.1 (T k).2.2.1 ∈ bw) (href : (T k).1 = ref) (hfin : (T k).2.2.2 = false) {ty : FieldType} (hd : parseFieldDescriptor (T k).2.2.1 = some ty) (hn : narrow ty v = v) (hfit : fits ty v = true) (hlen : k < fl.length) (hT : S'.2.2.1 = S.2.2.1) (hX : S'.1 = S.1) (hE : ∀ Gb j, j < 184 → gw_e g S' Gb j = gw_e g S Gb j) (he' : gw_t g S' t = .inr (ci, fl.set k v)) (ho : ∀ u : Nat × Nat × Nat, u.1 ≠ t.1 → gw_t g S' u = gw_t g S u) (d : decode cc pc = .ok (.putfield index, 3)) (kk : WW f R g nL cells slots Q S' (pc + 3) lv st) : WW f R g nL cells slots Q S pc lv (v :: .ref t.1 :: st) := by
  intro H locs ls h hl
  obtain ⟨Gb, h1, h2, h3, h4, h5⟩ := id h
  obtain ⟨k0, hk0, hw0⟩ := wl_getT g S Gb hm
  rw [he] at hw0
  refine va_put C.1 C.2.1 C.2.2.2.2.1 hin ty0 hty hnm C.2.2.2.1 C.2.2.2.2.2.1 h2 h3 h4 (184 + k0) hw0 hc k hk (C.2.2.2.2.1 _ hlink) (fun x hx => by rw [← href]; exact hx) hfin hd hn hfit hlen d (fun H1 locs1 hP hD hS => ?_)
  have e : (wl g S Gb).set (184 + k0) (t.1, .inr (ci, fl.set k v)) = wl g S' Gb := by
    unfold wl
    rw [List.set_append_right _ _ (by simp), hT]
    congr 1
    · exact List.map_congr_left fun j hj => by rw [hE Gb j (by simpa using hj)]
    · apply List.ext_getElem?
      intro j
      have hlenT : k0 < S.2.2.1.length := (List.getElem?_eq_some_iff.mp hk0).1
      have hne : 184 + k0 - (List.map (fun i => (gad g i, gw_e g S Gb i)) (List.range 184)).length = k0 := by simp
      rw [hne]
      by_cases hj : j = k0
      · subst hj
        rw [List.getElem?_set_self (by simpa using hlenT)]
        simp [hk0, he']
      · rw [List.getElem?_set_ne (fun h => hj h.symm)]
        simp only [List.getElem?_map]
        rcases hu : S.2.2.1[j]? with _ | u
        · rfl
        · have hwj : (wl g S Gb)[184 + j]? = some (u.1, gw_t g S u) := by
            unfold wl
            rw [List.getElem?_append_right (by simp)]
            simp [hu]
          have hne1 : u.1 ≠ t.1 := fun q => hj (by have := h3.1 _ _ _ _ hwj hw0 q; omega)
          simp [ho u hne1]
  rw [e] at hP hD
  exact kk H1 locs1 ls ⟨Gb, by intro r hr; rw [hX]; exact h1 r hr, hP, hD, hS, h5⟩ hl
/-- an int array of the world -/
theorem ww_iald (C : Cx f g cc nL own) {i : Nat} (hi : i < 184) {n : Nat} {v : Int32} {x : Int32} (he : ∀ Gb, gw_rows S Gb → ∃ F, gw_e g S Gb i = .inl (g.2.1.1, (n, .inl F)) ∧ F x.toNatClampNeg = v) (hin : vp_in x n) (d : decode cc pc = .ok (.iaload, 1)) (kk : WW f R g nL cells slots Q S (pc + 1) lv (.int v :: st)) : WW f R g nL cells slots Q S pc lv (.int x :: .ref (gad g i) :: st) := by
  intro H locs ls h hl
  obtain ⟨Gb, h1, h2, h3, h4, h5⟩ := id h
  obtain ⟨F, e1, e2⟩ := he Gb h1
  refine va_iald C.1 C.2.1 C.2.2.2.2.2.1 h2 i 0 (by rw [wl_get g S Gb hi, e1]) rfl hin d ?_
  rw [e2]
  exact kk H locs ls h hl
theorem ww_iast (C : Cx f g cc nL own) {i : Nat} (hi : i < 184) {n : Nat} {v x : Int32} {S' : St} (hin : vp_in x n) (hU : ∀ Gb, gw_rows S Gb → ∃ F Gb', gw_e g S Gb i = .inl (g.2.1.1, (n, .inl F)) ∧ gw_rows S' Gb' ∧ gw_e g S' Gb' i = .inl (g.2.1.1, (n, .inl (upd F x.toNatClampNeg v))) ∧ ∀ j, j < 184 → j ≠ i → gw_e g S' Gb' j = gw_e g S Gb j) (hT : S'.2.2.1 = S.2.2.1) (ht : ∀ t ∈ S.2.2.1, gw_t g S' t = gw_t g S t) (d : decode cc pc = .ok (.iastore, 1)) (kk : WW f R g nL cells slots Q S' (pc + 1) lv st) : WW f R g nL cells slots Q S pc lv (.int v :: .int x :: .ref (gad g i) :: st) := by
  intro H locs ls h hl
  obtain ⟨Gb, h1, h2, h3, h4, h5⟩ := id h
  obtain ⟨F, Gb', e1, g1, g2, g3⟩ := hU Gb h1
  refine va_iast C.1 C.2.1 C.2.2.2.2.2.1 h2 h3 h4 i 0 (by rw [wl_get g S Gb hi, e1]) rfl hin d (fun H1 locs1 hP hD hS => ?_)
  rw [wl_set g S S' Gb Gb' hi g2 g3 hT ht] at hP hD
  exact kk H1 locs1 ls ⟨Gb', g1, hP, hD, hS, h5⟩ hl
theorem ww_alen (C : Cx f g cc nL own) {i : Nat} (hi : i < 184) {cA : ClassId} {n : Nat} {ty : FieldType} (he : ∀ Gb, ∃ F, gw_e g S Gb i = .inl (cA, (n, F))) (t0 : Nat) (ht : (gtys g)[t0]? = some (cA, ty)) {v : Int32} (hv : nI n = v) (d : decode cc pc = .ok (.arraylength, 1)) (kk : WW f R g nL cells slots Q S (pc + 1) lv (.int v :: st)) : WW f R g nL cells slots Q S pc lv (.ref (gad g i) :: st) := by
  intro H locs ls h hl
  obtain ⟨Gb, h1, h2, h3, h4, h5⟩ := id h
  obtain ⟨F, e1⟩ := he Gb
  exact va_alen (x := (n, F)) C.1 C.2.1 C.2.2.2.2.2.1 h2 i t0 (by rw [wl_get g S Gb hi, e1]) ht hv d (kk H locs ls h hl)
theorem ww_aald (C : Cx f g cc nL own) {i : Nat} (hi : i < 184) {cA : ClassId} {n a : Nat} {CN : String} {F : Nat → Option Nat} {x : Int32} (he : ∀ Gb, gw_e g S Gb i = .inl (cA, (n, .inr (.inr (.inr (.inr F)))))) (t0 : Nat) (ht : (gtys g)[t0]? = some (cA, .object CN)) (hin : vp_in x n) (hv : F x.toNatClampNeg = some a) (d : decode cc pc = .ok (.aaload, 1)) (kk : WW f R g nL cells slots Q S (pc + 1) lv (.ref a :: st)) : WW f R g nL cells slots Q S pc lv (.int x :: .ref (gad g i) :: st) := by
  intro H locs ls h hl
  obtain ⟨Gb, h1, h2, h3, h4, h5⟩ := id h
  refine va_aldq C.1 C.2.1 C.2.2.2.2.2.1 h2 i t0 (by rw [wl_get g S Gb hi, he Gb]) ht hin d ?_
  rw [hv]
  exact kk H locs ls h hl
end WX
end
section
section WC
variable {f : Fx} {R : Room} {g : Gx} {cc : ByteArray} {nL cells slots pc : Nat} {own : String} {Q : State → Prop} {S : St} {lv : List (Nat × Value)} {st : List Value}
/-- contracts: from any state that holds S the method ends, answers r, and holds S2, with P r S2 -/
def CMi (g : Gx) (l : Launch) (y : MethodName) (cb : ByteArray) (nl : Nat) (ret : Option FieldType) (rm : Room) (av : List Value) (S : St) (P : Int32 → St → Prop) : Prop := Met l y (.code y cb nl ret :: bw) rm (va_Pc av (hw g S)) (va_Qi P (hw g) (gA g)) rm.cells rm.slots (gA g)
def CMv (g : Gx) (l : Launch) (y : MethodName) (cb : ByteArray) (nl : Nat) (ret : Option FieldType) (rm : Room) (av : List Value) (S : St) (P : St → Prop) : Prop := Met l y (.code y cb nl ret :: bw) rm (va_Pc av (hw g S)) (va_Qv P (hw g) (gA g)) rm.cells rm.slots (gA g)
def CMr (g : Gx) (l : Launch) (y : MethodName) (cb : ByteArray) (nl : Nat) (ret : Option FieldType) (rm : Room) (av : List Value) (S : St) (i : Nat) : Prop := Met l y (.code y cb nl ret :: bw) rm (va_Pc av (hw g S)) (va_Qr (fun S2 : St => S2 = S) (fun S2 a t => a = gad g i ∧ hw g S2 t) (gA g)) rm.cells rm.slots (gA g)
abbrev Qi (f : Fx) (g : Gx) (mc ms : Nat) (P : Int32 → St → Prop) : State → Prop := MQ (fbelow f) (va_Qi P (hw g) (gA g)) (fargs f) (fs f) mc ms (gA g)
abbrev Qv (f : Fx) (g : Gx) (mc ms : Nat) (P : St → Prop) : State → Prop := MQ (fbelow f) (va_Qv P (hw g) (gA g)) (fargs f) (fs f) mc ms (gA g)
abbrev Qr (f : Fx) (g : Gx) (mc ms : Nat) (S : St) (i : Nat) : State → Prop := MQ (fbelow f) (va_Qr (fun S2 : St => S2 = S) (fun S2 a t => a = gad g i ∧ hw g S2 t) (gA g)) (fargs f) (fs f) mc ms (gA g)
theorem hw_back {H : Heap} {locs : List Loc} (C : Cx f g cc nL own) (h : Hp g S (fs f).heap H locs) {t : State} (ht : t.heap = H) (hW : (fs f).WarmedH t.vm) : hw g S t := by
  obtain ⟨Gb, h1, h2, h3, h4, h5⟩ := h
  refine ⟨⟨Gb, h1, by rw [ht]; exact h2, h3⟩, va_K.moved hW.alike C.2.2.2.2.2.1, ?_, fun q hq => h5 q (Nat.le_trans h4.1 (by rw [← ht]; exact hq))⟩
  rw [ht]
  exact C.2.2.2.2.2.2.2.go hW h4.2.1
theorem Hp.fr {H0 H : Heap} {locs : List Loc} (h : Hp g S H0 H locs) : va_S (gA g) H0 H locs := by obtain ⟨Gb, h1, h2, h3, h4, h5⟩ := h; exact h4
theorem ww_iret (C : Cx f g cc nL own) {P : Int32 → St → Prop} {v : Int32} (hr : (fmeth f).sig.returnType = some .int) (d : decode cc pc = .ok (.ireturn, 1)) (h : P v S) : WW f R g nL cells slots (Qi f g cells slots P) S pc lv [.int v] := fun H locs ls hh hl =>
  W.iret C.1 C.2.1 hr (fun t ht hW => ⟨⟨v, S, rfl, h, hw_back C hh ht hW⟩, (Hp.fr hh).F ht⟩) (Hp.fr hh).2.2 d C.2.2.2.2.2.2.1
theorem ww_zret (C : Cx f g cc nL own) {P : Int32 → St → Prop} {v : Int32} (hr : (fmeth f).sig.returnType = some .boolean) (d : decode cc pc = .ok (.ireturn, 1)) (hz : v = 0 ∨ v = 1) (h : P v S) : WW f R g nL cells slots (Qi f g cells slots P) S pc lv [.int v] := fun H locs ls hh hl =>
  W.zret C.1 C.2.1 hr (by rcases hz with rfl | rfl <;> rfl) (fun t ht hW => ⟨⟨v, S, rfl, h, hw_back C hh ht hW⟩, (Hp.fr hh).F ht⟩) (Hp.fr hh).2.2 d C.2.2.2.2.2.2.1
theorem ww_vret (C : Cx f g cc nL own) {P : St → Prop} (hr : (fmeth f).sig.returnType = none) (d : decode cc pc = .ok (.return_, 1)) (h : P S) : WW f R g nL cells slots (Qv f g cells slots P) S pc lv [] := fun H locs ls hh hl =>
  W.vret C.1 C.2.1 hr (fun t ht hW => ⟨⟨S, rfl, h, hw_back C hh ht hW⟩, (Hp.fr hh).F ht⟩) (Hp.fr hh).2.2 d C.2.2.2.2.2.2.1
theorem ww_aret (C : Cx f g cc nL own) {i : Nat} {cn : String} (hr : (fmeth f).sig.returnType = some (.object cn)) (d : decode cc pc = .ok (.areturn, 1)) : WW f R g nL cells slots (Qr f g cells slots S i) S pc lv [.ref (gad g i)] := fun H locs ls hh hl =>
  W.aret C.1 C.2.1 hr (Or.inl ⟨_, rfl⟩) (Or.inr ⟨_, rfl⟩) (fun t ht hW => ⟨⟨S, gad g i, rfl, rfl, rfl, hw_back C hh ht hW⟩, (Hp.fr hh).F ht⟩) (Hp.fr hh).2.2 d C.2.2.2.2.2.2.1
theorem cm_entry {l : Launch} {y : MethodName} {cb : ByteArray} {nl : Nat} {ret : Option FieldType} {rm : Room} {av : List Value} {Qc : Array Value → State → Outcome → State → Prop} {lv0 : List (Nat × Value)} (hy : plainName y.cls = true) (ho : y.cls = own) (hlen : (lg_sl av).length ≤ nl) (hlv : lv_args 0 av = lv0)
    (body : ∀ f : Fx, f.2.1 = l → Cx f g cb nl own → (fmeth f).sig.returnType = ret → WW f rm g nl 0 0 (MQ (fbelow f) Qc (fargs f) (fs f) rm.cells rm.slots (gA g)) S 0 lv0 []) : Met l y (.code y cb nl ret :: bw) rm (va_Pc av (hw g S)) Qc rm.cells rm.slots (gA g) := by
  refine Met.ofW (cc := cb) (maxL := nl) (ret := ret) hy rfl ?_
  intro p e s m args below meth c s₁ B hml hv
  obtain ⟨rfl, ⟨Gb, h1, h2, h3⟩, hK, hN, hA⟩ := hv
  have hl := lv_entry av (n := nl) hlen
  rw [lg_entry_eq]
  rw [hlv] at hl
  exact body (p, l, e, s, m, _, below, meth, c) rfl ⟨B.exec, B.bytes, hml, by rw [← ho]; exact findClass_of_methodNamed B.named, fun w hw => atoms_spec (ws := .code y cb nl ret :: bw) B.pre w (List.mem_cons_of_mem _ hw), hK, B.notSynchronized, hN⟩ B.returns s.heap [] _ ⟨Gb, h1, h2, h3, va_S.rf, hA⟩ hl
/-- a callee's facts: an instance method, a static one -/
def MOK (y : MethodName) (CN : String) (cb : ByteArray) (nl : Nat) (ret : Option FieldType) (n : Nat) : Prop := Cond.instanceMethod y ∈ bw ∧ Cond.selects CN y y ∈ bw ∧ Cond.initialized CN ∈ bw ∧ Cond.code y cb nl ret ∈ bw ∧ (y.cls = CN ∧ y.cls ≠ "java/lang/invoke/MethodHandle" ∧ y.cls ≠ "java/lang/invoke/VarHandle" ∧ (parseMethodDescriptor y.desc).map (fun d => d.parameters.length) = some n)
def SOK (y : MethodName) (cb : ByteArray) (nl : Nat) (ret : Option FieldType) (n : Nat) : Prop := Cond.static y ∈ bw ∧ Cond.initialized y.cls ∈ bw ∧ Cond.code y cb nl ret ∈ bw ∧ (y.cls ≠ "java/lang/invoke/MethodHandle" ∧ y.cls ≠ "java/lang/invoke/VarHandle" ∧ (parseMethodDescriptor y.desc).map (fun d => d.parameters.length) = some n)
/-- the receiver is an object of the class -/
def Recv (g : Gx) (S : St) (CN : String) (b : Nat) : Prop := ∀ Gb, ∃ (q0 ci : Nat) (fl : List Value) (q : vw_C), (wl g S Gb)[q0]? = some (b, .inr (ci, fl)) ∧ vwCl[ci]? = some q ∧ q.1 = CN
theorem bw_sub {y : MethodName} {cb : ByteArray} {nl : Nat} {ret : Option FieldType} (h : Cond.code y cb nl ret ∈ bw) : GoodIn bw (.code y cb nl ret :: bw) := fun w hw => by
  have : w ∈ bw := by rcases List.mem_cons.mp hw with rfl | h2 <;> assumption
  exact ⟨this, good_of_word (bw_good this)⟩
theorem hw_blind {av : List Value} : FrameBlind (va_Pc av (hw g S)) := fun a U j mk q => by
  obtain ⟨q0, q1, qK, qN, qA⟩ := q
  exact ⟨q0, q1, va_K.moved (u := U) (U := U.calling j mk a) (Vm.Alike.refl U.vm) qK, qN.same rfl, qA⟩
theorem cx_V (C : Cx f g cc nL own) {y : MethodName} {CN : String} {cb : ByteArray} {nl n index : Nat} {ret : Option FieldType} {rm : Room} (hM : MOK y CN cb nl ret n) (hl : Cond.methodLink own index y ∈ bw) (hR : rm.frames + 1 ≤ R.frames ∧ 8 + (nl + 11) + rm.locals ≤ R.locals) : CallW R (fs f) (fargs f) own CN index y cb nl ret (.code y cb nl ret :: bw) rm rm.cells rm.slots n := by
  obtain ⟨h1, h2, h3, h4, h5⟩ := hM
  refine cwV n C.2.2.2.2.1 (fun w hw => ?_) rfl rfl rfl h5 hR
  rcases List.mem_append.mp (show w ∈ ([.methodLink own index y, .instanceMethod y, .selects CN y y, .initialized CN] : List Cond) ++ (.code y cb nl ret :: bw) from hw) with h | h
  · have : w ∈ bw := by
      rcases List.mem_cons.mp h with rfl | h
      · exact hl
      rcases List.mem_cons.mp h with rfl | h
      · exact h1
      rcases List.mem_cons.mp h with rfl | h
      · exact h2
      rcases List.mem_cons.mp h with rfl | h
      · exact h3
      cases h
    exact ⟨this, good_of_word (bw_good this)⟩
  · exact bw_sub h4 w h
theorem cx_S (C : Cx f g cc nL own) {y : MethodName} {cb : ByteArray} {nl n index : Nat} {ret : Option FieldType} {rm : Room} (hM : SOK y cb nl ret n) (hl : Cond.methodLink own index y ∈ bw) (hR : rm.frames + 1 ≤ R.frames ∧ 8 + (nl + 11) + rm.locals ≤ R.locals) : CallB R (fs f) (fargs f) own index y cb nl ret (.code y cb nl ret :: bw) rm rm.cells rm.slots n ∧ (Cond.static y).before (fargs f) (fs f) = true := by
  obtain ⟨h1, h2, h4, h5⟩ := hM
  exact ⟨callB_of n C.2.2.2.2.1 (bw_sub h4) rfl rfl rfl (C.2.2.2.2.1 _ h2) (C.2.2.2.2.1 _ hl) h5 hR, C.2.2.2.2.1 _ h1⟩
theorem cx_fix (C : Cx f g cc nL own) : CallFix f.1 (fm f) (fcode f) cc nL (fs f) (fargs f) bw own := ⟨C.1, C.2.1, C.2.2.1, C.2.2.2.1, C.2.2.2.2.1⟩
theorem cx_pre {H : Heap} {locs : List Loc} (C : Cx f g cc nL own) (h : Hp g S (fs f).heap H locs) {av : List Value} : ∀ U : State, U.heap = H → (fs f).WarmedH U.vm → va_Pc av (hw g S) av.toArray U := fun U hU hW => ⟨rfl, hw_back C h hU hW⟩
theorem cx_recv {H : Heap} {locs : List Loc} (C : Cx f g cc nL own) (h : Hp g S (fs f).heap H locs) {CN : String} {b : Nat} (hr : Recv g S CN b) : ∃ cellB : Cell, H[b]? = some cellB ∧ cellB.vm.isStatics = false ∧ (fs f).vm.findClass CN = some cellB.cls := by
  obtain ⟨Gb, h1, h2, h3, h4, h5⟩ := h
  obtain ⟨q0, ci, fl, q, e1, e2, rfl⟩ := hr Gb
  exact va_recv C.2.2.2.2.2.1 h2 e2 e1
theorem Hp.back {H0 H1 : Heap} {locs1 : List Loc} {S2 : St} {t : State} (ht : t.heap = H1) (h : hw g S2 t) (hS : va_S (gA g) H0 H1 locs1) (h5 : ∀ q, H0.size ≤ q → gA g q) : Hp g S2 H0 H1 locs1 := by
  obtain ⟨⟨Gb, h1, h2, h3⟩, -, -, -⟩ := h
  exact ⟨Gb, h1, by rw [← ht]; exact h2, h3, hS, h5⟩
theorem Hp.A {H0 H : Heap} {locs : List Loc} (h : Hp g S H0 H locs) : ∀ q, H0.size ≤ q → gA g q := by obtain ⟨Gb, h1, h2, h3, h4, h5⟩ := h; exact h5
variable {y : MethodName} {CN : String} {cb : ByteArray} {nl n index : Nat} {ret : Option FieldType} {rm : Room} {As rest : List Value} {b : Nat}
theorem ww_cVi (C : Cx f g cc nL own) {P : Int32 → St → Prop} (hM : MOK y CN cb nl ret n) (hl : Cond.methodLink own index y ∈ bw) (d : decode cc pc = .ok (.invokevirtual index, 3)) (hc : CMi g f.2.1 y cb nl ret rm (.ref b :: As) S P) (hrc : Recv g S CN b) (hn : As.length = n) (hR : rm.frames + 1 ≤ R.frames ∧ 8 + (nl + 11) + rm.locals ≤ R.locals) (hrm : (rest.map fun v => v.category).sum ≤ 8) (hf : cells + rm.cells ≤ R.cells ∧ slots + rm.slots ≤ R.slots) (hst : As.reverse ++ .ref b :: rest = st)
    (k : ∀ (r : Int32) (S2 : St), P r S2 → WW f R g nL (cells + rm.cells) (slots + rm.slots) Q S2 (pc + 3) lv (.int r :: rest)) : WW f R g nL cells slots Q S pc lv st := by
  subst hst
  exact fun H locs ls h hl2 => va_calli (va_runV (As := As) (rest := rest) (cx_fix C) hc (cx_V C hM hl hR) ⟨hw_blind, cx_recv C h hrc, cx_pre C h⟩ rfl hn hl2.1 rfl (lv_room hrm) d hf) (Hp.fr h) (fun _ _ z => z) (fun _ z => z) (fun r u t H1 locs1 ht hvm hp hB _ _ hS => k r u hp H1 locs1 ls (Hp.back ht hB hS (Hp.A h)) hl2)
theorem ww_cVv (C : Cx f g cc nL own) {P : St → Prop} (hM : MOK y CN cb nl ret n) (hl : Cond.methodLink own index y ∈ bw) (d : decode cc pc = .ok (.invokevirtual index, 3)) (hc : CMv g f.2.1 y cb nl ret rm (.ref b :: As) S P) (hrc : Recv g S CN b) (hn : As.length = n) (hR : rm.frames + 1 ≤ R.frames ∧ 8 + (nl + 11) + rm.locals ≤ R.locals) (hrm : (rest.map fun v => v.category).sum ≤ 8) (hf : cells + rm.cells ≤ R.cells ∧ slots + rm.slots ≤ R.slots) (hst : As.reverse ++ .ref b :: rest = st)
    (k : ∀ (S2 : St), P S2 → WW f R g nL (cells + rm.cells) (slots + rm.slots) Q S2 (pc + 3) lv rest) : WW f R g nL cells slots Q S pc lv st := by
  subst hst
  exact fun H locs ls h hl2 => va_callv (va_runV (As := As) (rest := rest) (cx_fix C) hc (cx_V C hM hl hR) ⟨hw_blind, cx_recv C h hrc, cx_pre C h⟩ rfl hn hl2.1 rfl (lv_room hrm) d hf) (Hp.fr h) (fun _ _ z => z) (fun _ z => z) (fun u t H1 locs1 ht hvm hp hB _ _ hS => k u hp H1 locs1 ls (Hp.back ht hB hS (Hp.A h)) hl2)
theorem ww_cVr (C : Cx f g cc nL own) {i : Nat} (hM : MOK y CN cb nl ret n) (hl : Cond.methodLink own index y ∈ bw) (d : decode cc pc = .ok (.invokevirtual index, 3)) (hc : CMr g f.2.1 y cb nl ret rm (.ref b :: As) S i) (hrc : Recv g S CN b) (hn : As.length = n) (hR : rm.frames + 1 ≤ R.frames ∧ 8 + (nl + 11) + rm.locals ≤ R.locals) (hrm : (rest.map fun v => v.category).sum ≤ 8) (hf : cells + rm.cells ≤ R.cells ∧ slots + rm.slots ≤ R.slots) (hst : As.reverse ++ .ref b :: rest = st)
    (k : WW f R g nL (cells + rm.cells) (slots + rm.slots) Q S (pc + 3) lv (.ref (gad g i) :: rest)) : WW f R g nL cells slots Q S pc lv st := by
  subst hst
  exact fun H locs ls h hl2 => va_callr (va_runV (As := As) (rest := rest) (cx_fix C) hc (cx_V C hM hl hR) ⟨hw_blind, cx_recv C h hrc, cx_pre C h⟩ rfl hn hl2.1 rfl (lv_room hrm) d hf) (Hp.fr h) (fun _ _ z => z) (fun _ z => z) (fun u a t H1 locs1 ht hvm hp hB _ _ hS => by
    obtain ⟨rfl, hB⟩ := hB
    subst hp
    exact k H1 locs1 ls (Hp.back ht hB hS (Hp.A h)) hl2)
theorem ww_cSi (C : Cx f g cc nL own) {P : Int32 → St → Prop} (hM : SOK y cb nl ret n) (hl : Cond.methodLink own index y ∈ bw) (d : decode cc pc = .ok (.invokestatic index, 3)) (hc : CMi g f.2.1 y cb nl ret rm As S P) (hn : As.length = n) (hR : rm.frames + 1 ≤ R.frames ∧ 8 + (nl + 11) + rm.locals ≤ R.locals) (hrm : (rest.map fun v => v.category).sum ≤ 8) (hf : cells + rm.cells ≤ R.cells ∧ slots + rm.slots ≤ R.slots) (hst : As.reverse ++ rest = st)
    (k : ∀ (r : Int32) (S2 : St), P r S2 → WW f R g nL (cells + rm.cells) (slots + rm.slots) Q S2 (pc + 3) lv (.int r :: rest)) : WW f R g nL cells slots Q S pc lv st := by
  subst hst
  exact fun H locs ls h hl2 => va_calli (va_runS (As := As) (rest := rest) (cx_fix C) hc (cx_S C hM hl hR) ⟨hw_blind, cx_pre C h⟩ rfl hn hl2.1 rfl (lv_room hrm) d hf) (Hp.fr h) (fun _ _ z => z) (fun _ z => z) (fun r u t H1 locs1 ht hvm hp hB _ _ hS => k r u hp H1 locs1 ls (Hp.back ht hB hS (Hp.A h)) hl2)
theorem ww_cSv (C : Cx f g cc nL own) {P : St → Prop} (hM : SOK y cb nl ret n) (hl : Cond.methodLink own index y ∈ bw) (d : decode cc pc = .ok (.invokestatic index, 3)) (hc : CMv g f.2.1 y cb nl ret rm As S P) (hn : As.length = n) (hR : rm.frames + 1 ≤ R.frames ∧ 8 + (nl + 11) + rm.locals ≤ R.locals) (hrm : (rest.map fun v => v.category).sum ≤ 8) (hf : cells + rm.cells ≤ R.cells ∧ slots + rm.slots ≤ R.slots) (hst : As.reverse ++ rest = st)
    (k : ∀ (S2 : St), P S2 → WW f R g nL (cells + rm.cells) (slots + rm.slots) Q S2 (pc + 3) lv rest) : WW f R g nL cells slots Q S pc lv st := by
  subst hst
  exact fun H locs ls h hl2 => va_callv (va_runS (As := As) (rest := rest) (cx_fix C) hc (cx_S C hM hl hR) ⟨hw_blind, cx_pre C h⟩ rfl hn hl2.1 rfl (lv_room hrm) d hf) (Hp.fr h) (fun _ _ z => z) (fun _ z => z) (fun u t H1 locs1 ht hvm hp hB _ _ hS => k u hp H1 locs1 ls (Hp.back ht hB hS (Hp.A h)) hl2)
/-- the one static call of a nest mate's private method -/
theorem ww_cNi (C : Cx f g cc nL RX5) {P : Int32 → St → Prop} (hM : SOK yX10_isTooFar cb nl ret n) (d : decode cc pc = .ok (.invokestatic 182, 3)) (hc : CMi g f.2.1 yX10_isTooFar cb nl ret rm As S P) (hn : As.length = n) (hR : rm.frames + 1 ≤ R.frames ∧ 8 + (nl + 11) + rm.locals ≤ R.locals) (hrm : (rest.map fun v => v.category).sum ≤ 8) (hf : cells + rm.cells ≤ R.cells ∧ slots + rm.slots ≤ R.slots) (hst : As.reverse ++ rest = st)
    (k : ∀ (r : Int32) (S2 : St), P r S2 → WW f R g nL (cells + rm.cells) (slots + rm.slots) Q S2 (pc + 3) lv (.int r :: rest)) : WW f R g nL cells slots Q S pc lv st := by
  subst hst
  obtain ⟨h1, h2, h4, h5⟩ := hM
  exact fun H locs ls h hl2 => va_calli (va_runSN (As := As) (rest := rest) (cx_fix C) hc ⟨va_cnB n C.2.2.2.2.1 (bw_sub h4) rfl rfl rfl C.2.2.2.2.2.2.2.1.1 (C.2.2.2.2.1 _ h2) h5 hR, C.2.2.2.2.1 _ h1, trivial⟩ ⟨hw_blind, cx_pre C h⟩ rfl hn hl2.1 rfl (lv_room hrm) d hf) (Hp.fr h) (fun _ _ z => z) (fun _ z => z) (fun r u t H1 locs1 ht hvm hp hB _ _ hS => k r u hp H1 locs1 ls (Hp.back ht hB hS (Hp.A h)) hl2)
end WC
end
