section
-- ===== PART A: goes FIRST, ahead of the names: the tables' words, and 'selects' of the private methods out of them =====
/-- a private method of a class that the tables say can be made, by its rows of tables_1 -/
def lw_okq (q : MethodName × Nat) : Prop := (q.1.cls ≠ "java/lang/invoke/MethodHandle" ∧ q.1.cls ≠ "java/lang/invoke/VarHandle") ∧ Cond.instantiable q.1.cls q.2 ∈ tables_1 ∧ Cond.privateMethod q.1 ∈ tables_1 ∧ Cond.instanceMethod q.1 ∈ tables_1
theorem lw_p0 : lw_okq (⟨"RecordBench$TextReader", "skipBlanks", "()V"⟩, 6) := ⟨⟨by decide +kernel, by decide +kernel⟩, List.mem_of_getElem? (i := 50) (by decide +kernel), List.mem_of_getElem? (i := 287) (by decide +kernel), List.mem_of_getElem? (i := 288) (by decide +kernel)⟩
theorem lw_p1 : lw_okq (⟨"RecordBench$TextReader", "refuse", "(II)Z"⟩, 6) := ⟨⟨by decide +kernel, by decide +kernel⟩, List.mem_of_getElem? (i := 50) (by decide +kernel), List.mem_of_getElem? (i := 299) (by decide +kernel), List.mem_of_getElem? (i := 300) (by decide +kernel)⟩
theorem lw_p2 : lw_okq (⟨"RecordBench$TextReader", "takeField", "(ILRecordBench$Make;)Z"⟩, 6) := ⟨⟨by decide +kernel, by decide +kernel⟩, List.mem_of_getElem? (i := 50) (by decide +kernel), List.mem_of_getElem? (i := 303) (by decide +kernel), List.mem_of_getElem? (i := 304) (by decide +kernel)⟩
theorem lw_p3 : lw_okq (⟨"RecordBench$TextReader", "takeNumber", "(LRecordBench$Field;LRecordBench$Make;)Z"⟩, 6) := ⟨⟨by decide +kernel, by decide +kernel⟩, List.mem_of_getElem? (i := 50) (by decide +kernel), List.mem_of_getElem? (i := 361) (by decide +kernel), List.mem_of_getElem? (i := 362) (by decide +kernel)⟩
theorem lw_p4 : lw_okq (⟨"RecordBench$TextReader", "isDigit", "(I)Z"⟩, 6) := ⟨⟨by decide +kernel, by decide +kernel⟩, List.mem_of_getElem? (i := 50) (by decide +kernel), List.mem_of_getElem? (i := 365) (by decide +kernel), List.mem_of_getElem? (i := 366) (by decide +kernel)⟩
theorem lw_p5 : lw_okq (⟨"RecordBench$TextReader", "digitAt", "(I)I"⟩, 6) := ⟨⟨by decide +kernel, by decide +kernel⟩, List.mem_of_getElem? (i := 50) (by decide +kernel), List.mem_of_getElem? (i := 369) (by decide +kernel), List.mem_of_getElem? (i := 370) (by decide +kernel)⟩
theorem lw_p6 : lw_okq (⟨"RecordBench$TextReader", "isLetter", "(I)Z"⟩, 6) := ⟨⟨by decide +kernel, by decide +kernel⟩, List.mem_of_getElem? (i := 50) (by decide +kernel), List.mem_of_getElem? (i := 377) (by decide +kernel), List.mem_of_getElem? (i := 378) (by decide +kernel)⟩
theorem lw_p7 : lw_okq (⟨"RecordBench$TextReader", "takeName", "(LRecordBench$Field;LRecordBench$Make;)Z"⟩, 6) := ⟨⟨by decide +kernel, by decide +kernel⟩, List.mem_of_getElem? (i := 50) (by decide +kernel), List.mem_of_getElem? (i := 381) (by decide +kernel), List.mem_of_getElem? (i := 382) (by decide +kernel)⟩
theorem lw_p8 : lw_okq (⟨"RecordBench$TextReader", "takeWord", "()Ljava/lang/String;"⟩, 6) := ⟨⟨by decide +kernel, by decide +kernel⟩, List.mem_of_getElem? (i := 50) (by decide +kernel), List.mem_of_getElem? (i := 385) (by decide +kernel), List.mem_of_getElem? (i := 386) (by decide +kernel)⟩
theorem lw_p9 : lw_okq (⟨"RecordBench$TextReader", "takeKind", "(LRecordBench$Field;I)Z"⟩, 6) := ⟨⟨by decide +kernel, by decide +kernel⟩, List.mem_of_getElem? (i := 50) (by decide +kernel), List.mem_of_getElem? (i := 598) (by decide +kernel), List.mem_of_getElem? (i := 599) (by decide +kernel)⟩
theorem lw_p10 : lw_okq (⟨"RecordBench$TextReader", "takeRec", "(LRecordBench$Field;I)Z"⟩, 6) := ⟨⟨by decide +kernel, by decide +kernel⟩, List.mem_of_getElem? (i := 50) (by decide +kernel), List.mem_of_getElem? (i := 602) (by decide +kernel), List.mem_of_getElem? (i := 603) (by decide +kernel)⟩
theorem lw_p11 : lw_okq (⟨"RecordBench$TextReader", "takeGroup", "(LRecordBench$Field;)Z"⟩, 6) := ⟨⟨by decide +kernel, by decide +kernel⟩, List.mem_of_getElem? (i := 50) (by decide +kernel), List.mem_of_getElem? (i := 609) (by decide +kernel), List.mem_of_getElem? (i := 610) (by decide +kernel)⟩
theorem lw_p12 : lw_okq (⟨"RecordBench$TextReader", "takeDefault", "(LRecordBench$Field;)Z"⟩, 6) := ⟨⟨by decide +kernel, by decide +kernel⟩, List.mem_of_getElem? (i := 50) (by decide +kernel), List.mem_of_getElem? (i := 614) (by decide +kernel), List.mem_of_getElem? (i := 615) (by decide +kernel)⟩
theorem lw_p13 : lw_okq (⟨"RecordBench$TextReader", "takeText", "(LRecordBench$Field;)Z"⟩, 6) := ⟨⟨by decide +kernel, by decide +kernel⟩, List.mem_of_getElem? (i := 50) (by decide +kernel), List.mem_of_getElem? (i := 618) (by decide +kernel), List.mem_of_getElem? (i := 619) (by decide +kernel)⟩
theorem lw_p14 : lw_okq (⟨"RecordBench$TextReader", "takeValue", "(LRecordBench$Field;)Z"⟩, 6) := ⟨⟨by decide +kernel, by decide +kernel⟩, List.mem_of_getElem? (i := 50) (by decide +kernel), List.mem_of_getElem? (i := 628) (by decide +kernel), List.mem_of_getElem? (i := 629) (by decide +kernel)⟩
theorem lw_p15 : lw_okq (⟨"RecordBench$TextReader", "takeClose", "()Z"⟩, 6) := ⟨⟨by decide +kernel, by decide +kernel⟩, List.mem_of_getElem? (i := 50) (by decide +kernel), List.mem_of_getElem? (i := 642) (by decide +kernel), List.mem_of_getElem? (i := 643) (by decide +kernel)⟩
def lw_privs_1 : List (MethodName × Nat) := [(⟨"RecordBench$TextReader", "skipBlanks", "()V"⟩, 6), (⟨"RecordBench$TextReader", "refuse", "(II)Z"⟩, 6), (⟨"RecordBench$TextReader", "takeField", "(ILRecordBench$Make;)Z"⟩, 6), (⟨"RecordBench$TextReader", "takeNumber", "(LRecordBench$Field;LRecordBench$Make;)Z"⟩, 6), (⟨"RecordBench$TextReader", "isDigit", "(I)Z"⟩, 6), (⟨"RecordBench$TextReader", "digitAt", "(I)I"⟩, 6), (⟨"RecordBench$TextReader", "isLetter", "(I)Z"⟩, 6), (⟨"RecordBench$TextReader", "takeName", "(LRecordBench$Field;LRecordBench$Make;)Z"⟩, 6), (⟨"RecordBench$TextReader", "takeWord", "()Ljava/lang/String;"⟩, 6), (⟨"RecordBench$TextReader", "takeKind", "(LRecordBench$Field;I)Z"⟩, 6), (⟨"RecordBench$TextReader", "takeRec", "(LRecordBench$Field;I)Z"⟩, 6), (⟨"RecordBench$TextReader", "takeGroup", "(LRecordBench$Field;)Z"⟩, 6), (⟨"RecordBench$TextReader", "takeDefault", "(LRecordBench$Field;)Z"⟩, 6), (⟨"RecordBench$TextReader", "takeText", "(LRecordBench$Field;)Z"⟩, 6), (⟨"RecordBench$TextReader", "takeValue", "(LRecordBench$Field;)Z"⟩, 6), (⟨"RecordBench$TextReader", "takeClose", "()Z"⟩, 6)]
theorem lw_r1 : ∀ q ∈ lw_privs_1, lw_okq q := List.forall_mem_cons.mpr ⟨lw_p0, List.forall_mem_cons.mpr ⟨lw_p1, List.forall_mem_cons.mpr ⟨lw_p2, List.forall_mem_cons.mpr ⟨lw_p3, List.forall_mem_cons.mpr ⟨lw_p4, List.forall_mem_cons.mpr ⟨lw_p5, List.forall_mem_cons.mpr ⟨lw_p6, List.forall_mem_cons.mpr ⟨lw_p7, List.forall_mem_cons.mpr ⟨lw_p8, List.forall_mem_cons.mpr ⟨lw_p9, List.forall_mem_cons.mpr ⟨lw_p10, List.forall_mem_cons.mpr ⟨lw_p11, List.forall_mem_cons.mpr ⟨lw_p12, List.forall_mem_cons.mpr ⟨lw_p13, List.forall_mem_cons.mpr ⟨lw_p14, List.forall_mem_cons.mpr ⟨lw_p15, fun _ h => absurd h List.not_mem_nil⟩⟩⟩⟩⟩⟩⟩⟩⟩⟩⟩⟩⟩⟩⟩⟩
theorem lw_p16 : lw_okq (⟨"RecordBench", "fieldOf", "(II)LRecordBench$Field;"⟩, 12) := ⟨⟨by decide +kernel, by decide +kernel⟩, List.mem_of_getElem? (i := 22) (by decide +kernel), List.mem_of_getElem? (i := 670) (by decide +kernel), List.mem_of_getElem? (i := 671) (by decide +kernel)⟩
theorem lw_p17 : lw_okq (⟨"RecordBench", "recordOf", "(I)LRecordBench$Row;"⟩, 12) := ⟨⟨by decide +kernel, by decide +kernel⟩, List.mem_of_getElem? (i := 22) (by decide +kernel), List.mem_of_getElem? (i := 690) (by decide +kernel), List.mem_of_getElem? (i := 691) (by decide +kernel)⟩
theorem lw_p18 : lw_okq (⟨"RecordBench$RecordReader", "scan", "(LRecordBench$Row;IILRecordBench$Make;I)Z"⟩, 4) := ⟨⟨by decide +kernel, by decide +kernel⟩, List.mem_of_getElem? (i := 108) (by decide +kernel), List.mem_of_getElem? (i := 716) (by decide +kernel), List.mem_of_getElem? (i := 717) (by decide +kernel)⟩
theorem lw_p19 : lw_okq (⟨"RecordBench$RecordReader", "refuse", "(II)Z"⟩, 4) := ⟨⟨by decide +kernel, by decide +kernel⟩, List.mem_of_getElem? (i := 108) (by decide +kernel), List.mem_of_getElem? (i := 720) (by decide +kernel), List.mem_of_getElem? (i := 721) (by decide +kernel)⟩
theorem lw_p20 : lw_okq (⟨"RecordBench$Piece", "takeVarint", "(LRecordBench$Row;I)J"⟩, 8) := ⟨⟨by decide +kernel, by decide +kernel⟩, List.mem_of_getElem? (i := 115) (by decide +kernel), List.mem_of_getElem? (i := 728) (by decide +kernel), List.mem_of_getElem? (i := 729) (by decide +kernel)⟩
theorem lw_p21 : lw_okq (⟨"RecordBench$Piece", "place", "(JI)V"⟩, 8) := ⟨⟨by decide +kernel, by decide +kernel⟩, List.mem_of_getElem? (i := 115) (by decide +kernel), List.mem_of_getElem? (i := 734) (by decide +kernel), List.mem_of_getElem? (i := 735) (by decide +kernel)⟩
theorem lw_p22 : lw_okq (⟨"RecordBench", "settle", "(LRecordBench$Row;LRecordBench$Make;II)I"⟩, 12) := ⟨⟨by decide +kernel, by decide +kernel⟩, List.mem_of_getElem? (i := 22) (by decide +kernel), List.mem_of_getElem? (i := 789) (by decide +kernel), List.mem_of_getElem? (i := 790) (by decide +kernel)⟩
theorem lw_p23 : lw_okq (⟨"RecordBench$RecordWriter", "copyPiece", "(LRecordBench$Row;ILRecordBench$Field;LRecordBench$Row;I)V"⟩, 3) := ⟨⟨by decide +kernel, by decide +kernel⟩, List.mem_of_getElem? (i := 170) (by decide +kernel), List.mem_of_getElem? (i := 805) (by decide +kernel), List.mem_of_getElem? (i := 806) (by decide +kernel)⟩
theorem lw_p24 : lw_okq (⟨"RecordBench$RecordWriter", "copyAll", "(LRecordBench$Row;IILRecordBench$Make;LRecordBench$Row;I)V"⟩, 3) := ⟨⟨by decide +kernel, by decide +kernel⟩, List.mem_of_getElem? (i := 170) (by decide +kernel), List.mem_of_getElem? (i := 816) (by decide +kernel), List.mem_of_getElem? (i := 817) (by decide +kernel)⟩
theorem lw_p25 : lw_okq (⟨"RecordBench", "lookAlong", "(III)I"⟩, 12) := ⟨⟨by decide +kernel, by decide +kernel⟩, List.mem_of_getElem? (i := 22) (by decide +kernel), List.mem_of_getElem? (i := 895) (by decide +kernel), List.mem_of_getElem? (i := 896) (by decide +kernel)⟩
theorem lw_p26 : lw_okq (⟨"RecordBench$Walks", "firstNumber", "(LRecordBench$Make;LRecordBench$Make;LRecordBench$Make;ZI)I"⟩, 2) := ⟨⟨by decide +kernel, by decide +kernel⟩, List.mem_of_getElem? (i := 190) (by decide +kernel), List.mem_of_getElem? (i := 899) (by decide +kernel), List.mem_of_getElem? (i := 900) (by decide +kernel)⟩
theorem lw_p27 : lw_okq (⟨"RecordBench$Walks", "whyBy", "(ILRecordBench$Make;LRecordBench$Make;LRecordBench$Make;ZI)I"⟩, 2) := ⟨⟨by decide +kernel, by decide +kernel⟩, List.mem_of_getElem? (i := 190) (by decide +kernel), List.mem_of_getElem? (i := 903) (by decide +kernel), List.mem_of_getElem? (i := 904) (by decide +kernel)⟩
theorem lw_p28 : lw_okq (⟨"RecordBench$Walks", "recBreaks", "(LRecordBench$Field;LRecordBench$Field;LRecordBench$Field;ZI)Z"⟩, 2) := ⟨⟨by decide +kernel, by decide +kernel⟩, List.mem_of_getElem? (i := 190) (by decide +kernel), List.mem_of_getElem? (i := 935) (by decide +kernel), List.mem_of_getElem? (i := 936) (by decide +kernel)⟩
theorem lw_p29 : lw_okq (⟨"RecordBench$Walks", "breaks", "(IIIZI)Z"⟩, 2) := ⟨⟨by decide +kernel, by decide +kernel⟩, List.mem_of_getElem? (i := 190) (by decide +kernel), List.mem_of_getElem? (i := 939) (by decide +kernel), List.mem_of_getElem? (i := 940) (by decide +kernel)⟩
theorem lw_p30 : lw_okq (⟨"RecordBenchModel", "next", "()I"⟩, 60) := ⟨⟨by decide +kernel, by decide +kernel⟩, List.mem_of_getElem? (i := 959) (by decide +kernel), List.mem_of_getElem? (i := 1165) (by decide +kernel), List.mem_of_getElem? (i := 1166) (by decide +kernel)⟩
theorem lw_p31 : lw_okq (⟨"RecordBenchModel", "field", "(I)V"⟩, 60) := ⟨⟨by decide +kernel, by decide +kernel⟩, List.mem_of_getElem? (i := 959) (by decide +kernel), List.mem_of_getElem? (i := 1169) (by decide +kernel), List.mem_of_getElem? (i := 1170) (by decide +kernel)⟩
def lw_privs_2 : List (MethodName × Nat) := [(⟨"RecordBench", "fieldOf", "(II)LRecordBench$Field;"⟩, 12), (⟨"RecordBench", "recordOf", "(I)LRecordBench$Row;"⟩, 12), (⟨"RecordBench$RecordReader", "scan", "(LRecordBench$Row;IILRecordBench$Make;I)Z"⟩, 4), (⟨"RecordBench$RecordReader", "refuse", "(II)Z"⟩, 4), (⟨"RecordBench$Piece", "takeVarint", "(LRecordBench$Row;I)J"⟩, 8), (⟨"RecordBench$Piece", "place", "(JI)V"⟩, 8), (⟨"RecordBench", "settle", "(LRecordBench$Row;LRecordBench$Make;II)I"⟩, 12), (⟨"RecordBench$RecordWriter", "copyPiece", "(LRecordBench$Row;ILRecordBench$Field;LRecordBench$Row;I)V"⟩, 3), (⟨"RecordBench$RecordWriter", "copyAll", "(LRecordBench$Row;IILRecordBench$Make;LRecordBench$Row;I)V"⟩, 3), (⟨"RecordBench", "lookAlong", "(III)I"⟩, 12), (⟨"RecordBench$Walks", "firstNumber", "(LRecordBench$Make;LRecordBench$Make;LRecordBench$Make;ZI)I"⟩, 2), (⟨"RecordBench$Walks", "whyBy", "(ILRecordBench$Make;LRecordBench$Make;LRecordBench$Make;ZI)I"⟩, 2), (⟨"RecordBench$Walks", "recBreaks", "(LRecordBench$Field;LRecordBench$Field;LRecordBench$Field;ZI)Z"⟩, 2), (⟨"RecordBench$Walks", "breaks", "(IIIZI)Z"⟩, 2), (⟨"RecordBenchModel", "next", "()I"⟩, 60), (⟨"RecordBenchModel", "field", "(I)V"⟩, 60)]
theorem lw_r2 : ∀ q ∈ lw_privs_2, lw_okq q := List.forall_mem_cons.mpr ⟨lw_p16, List.forall_mem_cons.mpr ⟨lw_p17, List.forall_mem_cons.mpr ⟨lw_p18, List.forall_mem_cons.mpr ⟨lw_p19, List.forall_mem_cons.mpr ⟨lw_p20, List.forall_mem_cons.mpr ⟨lw_p21, List.forall_mem_cons.mpr ⟨lw_p22, List.forall_mem_cons.mpr ⟨lw_p23, List.forall_mem_cons.mpr ⟨lw_p24, List.forall_mem_cons.mpr ⟨lw_p25, List.forall_mem_cons.mpr ⟨lw_p26, List.forall_mem_cons.mpr ⟨lw_p27, List.forall_mem_cons.mpr ⟨lw_p28, List.forall_mem_cons.mpr ⟨lw_p29, List.forall_mem_cons.mpr ⟨lw_p30, List.forall_mem_cons.mpr ⟨lw_p31, fun _ h => absurd h List.not_mem_nil⟩⟩⟩⟩⟩⟩⟩⟩⟩⟩⟩⟩⟩⟩⟩⟩
theorem lw_p32 : lw_okq (⟨"RecordBenchModel", "fail", "(II)V"⟩, 60) := ⟨⟨by decide +kernel, by decide +kernel⟩, List.mem_of_getElem? (i := 959) (by decide +kernel), List.mem_of_getElem? (i := 1173) (by decide +kernel), List.mem_of_getElem? (i := 1174) (by decide +kernel)⟩
theorem lw_p33 : lw_okq (⟨"RecordBenchModel", "number", "(III)I"⟩, 60) := ⟨⟨by decide +kernel, by decide +kernel⟩, List.mem_of_getElem? (i := 959) (by decide +kernel), List.mem_of_getElem? (i := 1177) (by decide +kernel), List.mem_of_getElem? (i := 1178) (by decide +kernel)⟩
theorem lw_p34 : lw_okq (⟨"RecordBenchModel", "word", "()J"⟩, 60) := ⟨⟨by decide +kernel, by decide +kernel⟩, List.mem_of_getElem? (i := 959) (by decide +kernel), List.mem_of_getElem? (i := 1184) (by decide +kernel), List.mem_of_getElem? (i := 1185) (by decide +kernel)⟩
theorem lw_p35 : lw_okq (⟨"RecordBenchModel", "wordEnd", "()I"⟩, 60) := ⟨⟨by decide +kernel, by decide +kernel⟩, List.mem_of_getElem? (i := 959) (by decide +kernel), List.mem_of_getElem? (i := 1188) (by decide +kernel), List.mem_of_getElem? (i := 1189) (by decide +kernel)⟩
theorem lw_p36 : lw_okq (⟨"RecordBenchModel", "takes", "()V"⟩, 60) := ⟨⟨by decide +kernel, by decide +kernel⟩, List.mem_of_getElem? (i := 959) (by decide +kernel), List.mem_of_getElem? (i := 1196) (by decide +kernel), List.mem_of_getElem? (i := 1197) (by decide +kernel)⟩
theorem lw_p37 : lw_okq (⟨"RecordBenchModel", "sign", "(I)V"⟩, 60) := ⟨⟨by decide +kernel, by decide +kernel⟩, List.mem_of_getElem? (i := 959) (by decide +kernel), List.mem_of_getElem? (i := 1200) (by decide +kernel), List.mem_of_getElem? (i := 1201) (by decide +kernel)⟩
theorem lw_p38 : lw_okq (⟨"RecordBenchModel", "kindOf", "(J)I"⟩, 60) := ⟨⟨by decide +kernel, by decide +kernel⟩, List.mem_of_getElem? (i := 959) (by decide +kernel), List.mem_of_getElem? (i := 1204) (by decide +kernel), List.mem_of_getElem? (i := 1205) (by decide +kernel)⟩
theorem lw_p39 : lw_okq (⟨"RecordBenchModel", "kinds", "(III)V"⟩, 60) := ⟨⟨by decide +kernel, by decide +kernel⟩, List.mem_of_getElem? (i := 959) (by decide +kernel), List.mem_of_getElem? (i := 1208) (by decide +kernel), List.mem_of_getElem? (i := 1209) (by decide +kernel)⟩
theorem lw_p40 : lw_okq (⟨"RecordBenchModel", "digit", "()I"⟩, 60) := ⟨⟨by decide +kernel, by decide +kernel⟩, List.mem_of_getElem? (i := 959) (by decide +kernel), List.mem_of_getElem? (i := 1212) (by decide +kernel), List.mem_of_getElem? (i := 1213) (by decide +kernel)⟩
theorem lw_p41 : lw_okq (⟨"RecordBenchModel", "ends", "()V"⟩, 60) := ⟨⟨by decide +kernel, by decide +kernel⟩, List.mem_of_getElem? (i := 959) (by decide +kernel), List.mem_of_getElem? (i := 1216) (by decide +kernel), List.mem_of_getElem? (i := 1217) (by decide +kernel)⟩
theorem lw_p42 : lw_okq (⟨"RecordBenchModel", "textValue", "(I)V"⟩, 60) := ⟨⟨by decide +kernel, by decide +kernel⟩, List.mem_of_getElem? (i := 959) (by decide +kernel), List.mem_of_getElem? (i := 1220) (by decide +kernel), List.mem_of_getElem? (i := 1221) (by decide +kernel)⟩
theorem lw_p43 : lw_okq (⟨"RecordBenchModel", "value", "(II)V"⟩, 60) := ⟨⟨by decide +kernel, by decide +kernel⟩, List.mem_of_getElem? (i := 959) (by decide +kernel), List.mem_of_getElem? (i := 1224) (by decide +kernel), List.mem_of_getElem? (i := 1225) (by decide +kernel)⟩
theorem lw_p44 : lw_okq (⟨"RecordBenchModel", "isField", "(II)Z"⟩, 60) := ⟨⟨by decide +kernel, by decide +kernel⟩, List.mem_of_getElem? (i := 959) (by decide +kernel), List.mem_of_getElem? (i := 1246) (by decide +kernel), List.mem_of_getElem? (i := 1247) (by decide +kernel)⟩
theorem lw_p45 : lw_okq (⟨"RecordBenchModel", "isMake", "(I)Z"⟩, 60) := ⟨⟨by decide +kernel, by decide +kernel⟩, List.mem_of_getElem? (i := 959) (by decide +kernel), List.mem_of_getElem? (i := 1250) (by decide +kernel), List.mem_of_getElem? (i := 1251) (by decide +kernel)⟩
theorem lw_p46 : lw_okq (⟨"RecordBenchModel", "has", "(II)Z"⟩, 60) := ⟨⟨by decide +kernel, by decide +kernel⟩, List.mem_of_getElem? (i := 959) (by decide +kernel), List.mem_of_getElem? (i := 1258) (by decide +kernel), List.mem_of_getElem? (i := 1259) (by decide +kernel)⟩
theorem lw_p47 : lw_okq (⟨"RecordBenchModel", "isRead", "(II)Z"⟩, 60) := ⟨⟨by decide +kernel, by decide +kernel⟩, List.mem_of_getElem? (i := 959) (by decide +kernel), List.mem_of_getElem? (i := 1281) (by decide +kernel), List.mem_of_getElem? (i := 1282) (by decide +kernel)⟩
def lw_privs_3 : List (MethodName × Nat) := [(⟨"RecordBenchModel", "fail", "(II)V"⟩, 60), (⟨"RecordBenchModel", "number", "(III)I"⟩, 60), (⟨"RecordBenchModel", "word", "()J"⟩, 60), (⟨"RecordBenchModel", "wordEnd", "()I"⟩, 60), (⟨"RecordBenchModel", "takes", "()V"⟩, 60), (⟨"RecordBenchModel", "sign", "(I)V"⟩, 60), (⟨"RecordBenchModel", "kindOf", "(J)I"⟩, 60), (⟨"RecordBenchModel", "kinds", "(III)V"⟩, 60), (⟨"RecordBenchModel", "digit", "()I"⟩, 60), (⟨"RecordBenchModel", "ends", "()V"⟩, 60), (⟨"RecordBenchModel", "textValue", "(I)V"⟩, 60), (⟨"RecordBenchModel", "value", "(II)V"⟩, 60), (⟨"RecordBenchModel", "isField", "(II)Z"⟩, 60), (⟨"RecordBenchModel", "isMake", "(I)Z"⟩, 60), (⟨"RecordBenchModel", "has", "(II)Z"⟩, 60), (⟨"RecordBenchModel", "isRead", "(II)Z"⟩, 60)]
theorem lw_r3 : ∀ q ∈ lw_privs_3, lw_okq q := List.forall_mem_cons.mpr ⟨lw_p32, List.forall_mem_cons.mpr ⟨lw_p33, List.forall_mem_cons.mpr ⟨lw_p34, List.forall_mem_cons.mpr ⟨lw_p35, List.forall_mem_cons.mpr ⟨lw_p36, List.forall_mem_cons.mpr ⟨lw_p37, List.forall_mem_cons.mpr ⟨lw_p38, List.forall_mem_cons.mpr ⟨lw_p39, List.forall_mem_cons.mpr ⟨lw_p40, List.forall_mem_cons.mpr ⟨lw_p41, List.forall_mem_cons.mpr ⟨lw_p42, List.forall_mem_cons.mpr ⟨lw_p43, List.forall_mem_cons.mpr ⟨lw_p44, List.forall_mem_cons.mpr ⟨lw_p45, List.forall_mem_cons.mpr ⟨lw_p46, List.forall_mem_cons.mpr ⟨lw_p47, fun _ h => absurd h List.not_mem_nil⟩⟩⟩⟩⟩⟩⟩⟩⟩⟩⟩⟩⟩⟩⟩⟩
theorem lw_p48 : lw_okq (⟨"RecordBenchModel", "loads", "(I)V"⟩, 60) := ⟨⟨by decide +kernel, by decide +kernel⟩, List.mem_of_getElem? (i := 959) (by decide +kernel), List.mem_of_getElem? (i := 1285) (by decide +kernel), List.mem_of_getElem? (i := 1286) (by decide +kernel)⟩
theorem lw_p49 : lw_okq (⟨"RecordBenchModel", "reads", "(II)Z"⟩, 60) := ⟨⟨by decide +kernel, by decide +kernel⟩, List.mem_of_getElem? (i := 959) (by decide +kernel), List.mem_of_getElem? (i := 1289) (by decide +kernel), List.mem_of_getElem? (i := 1290) (by decide +kernel)⟩
theorem lw_p50 : lw_okq (⟨"RecordBenchModel", "opens", "(IIII)V"⟩, 60) := ⟨⟨by decide +kernel, by decide +kernel⟩, List.mem_of_getElem? (i := 959) (by decide +kernel), List.mem_of_getElem? (i := 1293) (by decide +kernel), List.mem_of_getElem? (i := 1294) (by decide +kernel)⟩
theorem lw_p51 : lw_okq (⟨"RecordBenchModel", "piece", "(IIIII)V"⟩, 60) := ⟨⟨by decide +kernel, by decide +kernel⟩, List.mem_of_getElem? (i := 959) (by decide +kernel), List.mem_of_getElem? (i := 1297) (by decide +kernel), List.mem_of_getElem? (i := 1298) (by decide +kernel)⟩
theorem lw_p52 : lw_okq (⟨"RecordBenchModel", "varint", "(II)Z"⟩, 60) := ⟨⟨by decide +kernel, by decide +kernel⟩, List.mem_of_getElem? (i := 959) (by decide +kernel), List.mem_of_getElem? (i := 1301) (by decide +kernel), List.mem_of_getElem? (i := 1302) (by decide +kernel)⟩
theorem lw_p53 : lw_okq (⟨"RecordBenchModel", "pieceOf", "(I)I"⟩, 60) := ⟨⟨by decide +kernel, by decide +kernel⟩, List.mem_of_getElem? (i := 959) (by decide +kernel), List.mem_of_getElem? (i := 1319) (by decide +kernel), List.mem_of_getElem? (i := 1320) (by decide +kernel)⟩
theorem lw_p54 : lw_okq (⟨"RecordBenchModel", "writes", "(II)V"⟩, 60) := ⟨⟨by decide +kernel, by decide +kernel⟩, List.mem_of_getElem? (i := 959) (by decide +kernel), List.mem_of_getElem? (i := 1328) (by decide +kernel), List.mem_of_getElem? (i := 1329) (by decide +kernel)⟩
theorem lw_p55 : lw_okq (⟨"RecordBenchModel", "laysVarint", "(IJ)V"⟩, 60) := ⟨⟨by decide +kernel, by decide +kernel⟩, List.mem_of_getElem? (i := 959) (by decide +kernel), List.mem_of_getElem? (i := 1332) (by decide +kernel), List.mem_of_getElem? (i := 1333) (by decide +kernel)⟩
theorem lw_p56 : lw_okq (⟨"RecordBenchModel", "lays", "(II)V"⟩, 60) := ⟨⟨by decide +kernel, by decide +kernel⟩, List.mem_of_getElem? (i := 959) (by decide +kernel), List.mem_of_getElem? (i := 1336) (by decide +kernel), List.mem_of_getElem? (i := 1337) (by decide +kernel)⟩
theorem lw_p57 : lw_okq (⟨"RecordBenchModel", "comes", "(I)V"⟩, 60) := ⟨⟨by decide +kernel, by decide +kernel⟩, List.mem_of_getElem? (i := 959) (by decide +kernel), List.mem_of_getElem? (i := 1343) (by decide +kernel), List.mem_of_getElem? (i := 1344) (by decide +kernel)⟩
theorem lw_p58 : lw_okq (⟨"RecordBenchModel", "keepsFresh", "()V"⟩, 60) := ⟨⟨by decide +kernel, by decide +kernel⟩, List.mem_of_getElem? (i := 959) (by decide +kernel), List.mem_of_getElem? (i := 1351) (by decide +kernel), List.mem_of_getElem? (i := 1352) (by decide +kernel)⟩
theorem lw_p59 : lw_okq (⟨"RecordBenchModel", "puts", "(III)I"⟩, 60) := ⟨⟨by decide +kernel, by decide +kernel⟩, List.mem_of_getElem? (i := 959) (by decide +kernel), List.mem_of_getElem? (i := 1355) (by decide +kernel), List.mem_of_getElem? (i := 1356) (by decide +kernel)⟩
theorem lw_p60 : lw_okq (⟨"RecordBenchModel", "walks", "()V"⟩, 60) := ⟨⟨by decide +kernel, by decide +kernel⟩, List.mem_of_getElem? (i := 959) (by decide +kernel), List.mem_of_getElem? (i := 1379) (by decide +kernel), List.mem_of_getElem? (i := 1380) (by decide +kernel)⟩
theorem lw_p61 : lw_okq (⟨"RecordBenchModel", "whyOf", "(IIIII)I"⟩, 60) := ⟨⟨by decide +kernel, by decide +kernel⟩, List.mem_of_getElem? (i := 959) (by decide +kernel), List.mem_of_getElem? (i := 1386) (by decide +kernel), List.mem_of_getElem? (i := 1387) (by decide +kernel)⟩
theorem lw_p62 : lw_okq (⟨"RecordBenchModel", "isOther", "(III)Z"⟩, 60) := ⟨⟨by decide +kernel, by decide +kernel⟩, List.mem_of_getElem? (i := 959) (by decide +kernel), List.mem_of_getElem? (i := 1390) (by decide +kernel), List.mem_of_getElem? (i := 1391) (by decide +kernel)⟩
theorem lw_p63 : lw_okq (⟨"RecordBenchModel", "sortOf", "(II)I"⟩, 60) := ⟨⟨by decide +kernel, by decide +kernel⟩, List.mem_of_getElem? (i := 959) (by decide +kernel), List.mem_of_getElem? (i := 1394) (by decide +kernel), List.mem_of_getElem? (i := 1395) (by decide +kernel)⟩
def lw_privs_4 : List (MethodName × Nat) := [(⟨"RecordBenchModel", "loads", "(I)V"⟩, 60), (⟨"RecordBenchModel", "reads", "(II)Z"⟩, 60), (⟨"RecordBenchModel", "opens", "(IIII)V"⟩, 60), (⟨"RecordBenchModel", "piece", "(IIIII)V"⟩, 60), (⟨"RecordBenchModel", "varint", "(II)Z"⟩, 60), (⟨"RecordBenchModel", "pieceOf", "(I)I"⟩, 60), (⟨"RecordBenchModel", "writes", "(II)V"⟩, 60), (⟨"RecordBenchModel", "laysVarint", "(IJ)V"⟩, 60), (⟨"RecordBenchModel", "lays", "(II)V"⟩, 60), (⟨"RecordBenchModel", "comes", "(I)V"⟩, 60), (⟨"RecordBenchModel", "keepsFresh", "()V"⟩, 60), (⟨"RecordBenchModel", "puts", "(III)I"⟩, 60), (⟨"RecordBenchModel", "walks", "()V"⟩, 60), (⟨"RecordBenchModel", "whyOf", "(IIIII)I"⟩, 60), (⟨"RecordBenchModel", "isOther", "(III)Z"⟩, 60), (⟨"RecordBenchModel", "sortOf", "(II)I"⟩, 60)]
theorem lw_r4 : ∀ q ∈ lw_privs_4, lw_okq q := List.forall_mem_cons.mpr ⟨lw_p48, List.forall_mem_cons.mpr ⟨lw_p49, List.forall_mem_cons.mpr ⟨lw_p50, List.forall_mem_cons.mpr ⟨lw_p51, List.forall_mem_cons.mpr ⟨lw_p52, List.forall_mem_cons.mpr ⟨lw_p53, List.forall_mem_cons.mpr ⟨lw_p54, List.forall_mem_cons.mpr ⟨lw_p55, List.forall_mem_cons.mpr ⟨lw_p56, List.forall_mem_cons.mpr ⟨lw_p57, List.forall_mem_cons.mpr ⟨lw_p58, List.forall_mem_cons.mpr ⟨lw_p59, List.forall_mem_cons.mpr ⟨lw_p60, List.forall_mem_cons.mpr ⟨lw_p61, List.forall_mem_cons.mpr ⟨lw_p62, List.forall_mem_cons.mpr ⟨lw_p63, fun _ h => absurd h List.not_mem_nil⟩⟩⟩⟩⟩⟩⟩⟩⟩⟩⟩⟩⟩⟩⟩⟩
theorem lw_p64 : lw_okq (⟨"RecordBenchModel", "isNarrower", "(III)Z"⟩, 60) := ⟨⟨by decide +kernel, by decide +kernel⟩, List.mem_of_getElem? (i := 959) (by decide +kernel), List.mem_of_getElem? (i := 1398) (by decide +kernel), List.mem_of_getElem? (i := 1399) (by decide +kernel)⟩
theorem lw_p65 : lw_okq (⟨"RecordBenchModel", "differs", "(III)Z"⟩, 60) := ⟨⟨by decide +kernel, by decide +kernel⟩, List.mem_of_getElem? (i := 959) (by decide +kernel), List.mem_of_getElem? (i := 1402) (by decide +kernel), List.mem_of_getElem? (i := 1403) (by decide +kernel)⟩
theorem lw_p66 : lw_okq (⟨"RecordBenchModel", "isMated", "(III)Z"⟩, 60) := ⟨⟨by decide +kernel, by decide +kernel⟩, List.mem_of_getElem? (i := 959) (by decide +kernel), List.mem_of_getElem? (i := 1406) (by decide +kernel), List.mem_of_getElem? (i := 1407) (by decide +kernel)⟩
theorem lw_p67 : lw_okq (⟨"RecordBenchModel", "withinOf", "(IIIII)I"⟩, 60) := ⟨⟨by decide +kernel, by decide +kernel⟩, List.mem_of_getElem? (i := 959) (by decide +kernel), List.mem_of_getElem? (i := 1410) (by decide +kernel), List.mem_of_getElem? (i := 1411) (by decide +kernel)⟩
def lw_privs_5 : List (MethodName × Nat) := [(⟨"RecordBenchModel", "isNarrower", "(III)Z"⟩, 60), (⟨"RecordBenchModel", "differs", "(III)Z"⟩, 60), (⟨"RecordBenchModel", "isMated", "(III)Z"⟩, 60), (⟨"RecordBenchModel", "withinOf", "(IIIII)I"⟩, 60)]
theorem lw_r5 : ∀ q ∈ lw_privs_5, lw_okq q := List.forall_mem_cons.mpr ⟨lw_p64, List.forall_mem_cons.mpr ⟨lw_p65, List.forall_mem_cons.mpr ⟨lw_p66, List.forall_mem_cons.mpr ⟨lw_p67, fun _ h => absurd h List.not_mem_nil⟩⟩⟩⟩
def lw_privs : List (MethodName × Nat) := lw_privs_1 ++ (lw_privs_2 ++ (lw_privs_3 ++ (lw_privs_4 ++ (lw_privs_5))))
def lw_tbl : List Cond := k2_sels lw_privs ++ tables_1
theorem lw_privs_ok : ∀ q ∈ lw_privs, lw_okq q := by
  show ∀ q ∈ lw_privs_1 ++ (lw_privs_2 ++ (lw_privs_3 ++ (lw_privs_4 ++ (lw_privs_5)))), lw_okq q
  exact List.forall_mem_append.mpr ⟨lw_r1, List.forall_mem_append.mpr ⟨lw_r2, List.forall_mem_append.mpr ⟨lw_r3, List.forall_mem_append.mpr ⟨lw_r4, lw_r5⟩⟩⟩⟩
-- ===== end of PART A; then your names; then what follows =====
/-! ===== BEGIN words of one list among another's, by their places ===== -/
theorem goodIn_r {big : List Cond} (ws : List Cond) (ps : List Nat) (hp : ws = ps.filterMap (fun i => big[i]?)) (h : ws.all goodWord = true) : GoodIn big ws := by
  intro w hw
  have h1 := List.all_eq_true.mp h w hw
  rw [hp] at hw
  obtain ⟨i, -, hi⟩ := List.mem_filterMap.mp hw
  have hm : w ∈ big := by first | exact List.mem_of_getElem? hi | exact List.getElem?_mem hi
  exact ⟨hm, good_of_word h1⟩
theorem goodIn_app {big a b : List Cond} (ha : GoodIn big a) (hb : GoodIn big b) : GoodIn big (a ++ b) := fun w h => (List.mem_append.mp h).elim (ha w) (hb w)
theorem goodIn_ca {big a b : List Cond} {c : Cond} (ha : GoodIn big (c :: a)) (hb : GoodIn big b) : GoodIn big (c :: (a ++ b)) := fun w h => (List.mem_cons.mp h).elim (fun e => ha w (List.mem_cons.mpr (Or.inl e))) (fun h => (List.mem_append.mp h).elim (fun h => ha w (List.mem_cons.mpr (Or.inr h))) (hb w))
theorem goodIn_sub {big ws : List Cond} (hm : ∀ w ∈ ws, w ∈ big) (h : ws.all goodWord = true) : GoodIn big ws := fun w hw => ⟨hm w hw, good_of_word (List.all_eq_true.mp h w hw)⟩
/-! ===== END ===== -/

/-! ===== BEGIN printed: names, fields, word lists, decode rows ===== -/
def RX0 : String := "RecordBench$Field"
def TX0 : u_T := fun k => match k with
  | 0 => ("RecordBench$Field", "number", "I", false)
  | 1 => ("RecordBench$Field", "kind", "I", false)
  | 2 => ("RecordBench$Field", "group", "I", false)
  | 3 => ("RecordBench$Field", "rec", "I", false)
  | 4 => ("RecordBench$Field", "name", "Ljava/lang/String;", false)
  | 5 => ("RecordBench$Field", "text", "Ljava/lang/String;", false)
  | _ => ("RecordBench$Field", "value", "J", false)
def tyX0 : Nat → FieldType := fun k => match k with
  | 0 => .int
  | 1 => .int
  | 2 => .int
  | 3 => .int
  | 4 => .object "java/lang/String"
  | 5 => .object "java/lang/String"
  | _ => .long
abbrev wsX00 : List Cond := u_ws RX0 TX0 7
theorem nmX0 : ∀ a, a < 7 → ∀ b, b < 7 → a ≠ b → (TX0 a).2.1 ≠ (TX0 b).2.1 := by decide +kernel
theorem tyX0_ok : ∀ k, k < 7 → parseFieldDescriptor (TX0 k).2.2.1 = some (tyX0 k) := by decide +kernel
abbrev cX0_init : ByteArray := prog_2_method_1_code
def yX0_init : MethodName := ⟨RX0, "<init>", "()V"⟩
abbrev cX0_isNumber : ByteArray := prog_2_method_2_code
def yX0_isNumber : MethodName := ⟨RX0, "isNumber", "()Z"⟩
abbrev cX0_hasLength : ByteArray := prog_2_method_3_code
def yX0_hasLength : MethodName := ⟨RX0, "hasLength", "()Z"⟩
abbrev cX0_holds : ByteArray := prog_2_method_4_code
def yX0_holds : MethodName := ⟨RX0, "holds", "(J)Z"⟩
abbrev cX0_plainNumber : ByteArray := prog_2_method_5_code
def yX0_plainNumber : MethodName := ⟨RX0, "plainNumber", "()J"⟩
abbrev cX0_sharesGroup : ByteArray := prog_2_method_6_code
def yX0_sharesGroup : MethodName := ⟨RX0, "sharesGroup", "(LRecordBench$Field;)Z"⟩
abbrev cX0_isOtherSort : ByteArray := prog_2_method_7_code
def yX0_isOtherSort : MethodName := ⟨RX0, "isOtherSort", "(LRecordBench$Field;)Z"⟩
abbrev cX0_isNarrower : ByteArray := prog_2_method_8_code
def yX0_isNarrower : MethodName := ⟨RX0, "isNarrower", "(LRecordBench$Field;)Z"⟩
abbrev cX0_hasOtherDefault : ByteArray := prog_2_method_9_code
def yX0_hasOtherDefault : MethodName := ⟨RX0, "hasOtherDefault", "(LRecordBench$Field;)Z"⟩
def RX1 : String := "RecordBench$Make"
def TX1 : u_T := fun k => match k with
  | 0 => ("RecordBench$Make", "fields", "[LRecordBench$Field;", true)
  | _ => ("RecordBench$Make", "count", "I", false)
def tyX1 : Nat → FieldType := fun k => match k with
  | 0 => .array (.object "RecordBench$Field")
  | _ => .int
abbrev wsX10 : List Cond := u_ws RX1 TX1 2
theorem nmX1 : ∀ a, a < 2 → ∀ b, b < 2 → a ≠ b → (TX1 a).2.1 ≠ (TX1 b).2.1 := by decide +kernel
theorem tyX1_ok : ∀ k, k < 2 → parseFieldDescriptor (TX1 k).2.2.1 = some (tyX1 k) := by decide +kernel
abbrev cX1_init : ByteArray := prog_3_method_1_code
def yX1_init : MethodName := ⟨RX1, "<init>", "()V"⟩
abbrev cX1_count : ByteArray := prog_3_method_2_code
def yX1_count : MethodName := ⟨RX1, "count", "()I"⟩
abbrev cX1_fieldAt : ByteArray := prog_3_method_3_code
def yX1_fieldAt : MethodName := ⟨RX1, "fieldAt", "(I)LRecordBench$Field;"⟩
abbrev cX1_knownAt : ByteArray := prog_3_method_4_code
def yX1_knownAt : MethodName := ⟨RX1, "knownAt", "(I)LRecordBench$Field;"⟩
abbrev cX1_hasName : ByteArray := prog_3_method_5_code
def yX1_hasName : MethodName := ⟨RX1, "hasName", "(Ljava/lang/String;)Z"⟩
abbrev cX1_add : ByteArray := prog_3_method_6_code
def yX1_add : MethodName := ⟨RX1, "add", "(LRecordBench$Field;)Z"⟩
def RX2 : String := "RecordBench$Piece"
def TX2 : u_T := fun k => match k with
  | 0 => ("RecordBench$Piece", "number", "I", false)
  | 1 => ("RecordBench$Piece", "withLength", "Z", false)
  | 2 => ("RecordBench$Piece", "raw", "J", false)
  | 3 => ("RecordBench$Piece", "body", "I", false)
  | 4 => ("RecordBench$Piece", "end", "I", false)
  | 5 => ("RecordBench$Piece", "fault", "I", false)
  | 6 => ("RecordBench$Piece", "pos", "I", false)
  | _ => ("RecordBench$Piece", "broken", "Z", false)
def tyX2 : Nat → FieldType := fun k => match k with
  | 0 => .int
  | 1 => .boolean
  | 2 => .long
  | 3 => .int
  | 4 => .int
  | 5 => .int
  | 6 => .int
  | _ => .boolean
abbrev wsX20 : List Cond := u_ws RX2 TX2 8
theorem nmX2 : ∀ a, a < 8 → ∀ b, b < 8 → a ≠ b → (TX2 a).2.1 ≠ (TX2 b).2.1 := by decide +kernel
theorem tyX2_ok : ∀ k, k < 8 → parseFieldDescriptor (TX2 k).2.2.1 = some (tyX2 k) := by decide +kernel
abbrev cX2_init : ByteArray := prog_4_method_1_code
def yX2_init : MethodName := ⟨RX2, "<init>", "()V"⟩
abbrev cX2_look : ByteArray := prog_4_method_2_code
def yX2_look : MethodName := ⟨RX2, "look", "(LRecordBench$Row;II)V"⟩
abbrev cX2_place : ByteArray := prog_4_method_3_code
def yX2_place : MethodName := ⟨RX2, "place", "(JI)V"⟩
abbrev cX2_takeVarint : ByteArray := prog_4_method_4_code
def yX2_takeVarint : MethodName := ⟨RX2, "takeVarint", "(LRecordBench$Row;I)J"⟩
abbrev cX2_asNumber : ByteArray := prog_4_method_5_code
def yX2_asNumber : MethodName := ⟨RX2, "asNumber", "()J"⟩
abbrev cX2_tells : ByteArray := prog_4_method_6_code
def yX2_tells : MethodName := ⟨RX2, "tells", "()J"⟩
def RX3 : String := "RecordBench$RecordReader"
def TX3 : u_T := fun k => match k with
  | 0 => ("RecordBench$RecordReader", "makes", "[LRecordBench$Make;", true)
  | 1 => ("RecordBench$RecordReader", "pieces", "[LRecordBench$Piece;", true)
  | 2 => ("RecordBench$RecordReader", "fault", "I", false)
  | _ => ("RecordBench$RecordReader", "place", "I", false)
def tyX3 : Nat → FieldType := fun k => match k with
  | 0 => .array (.object "RecordBench$Make")
  | 1 => .array (.object "RecordBench$Piece")
  | 2 => .int
  | _ => .int
abbrev wsX30 : List Cond := u_ws RX3 TX3 4
theorem nmX3 : ∀ a, a < 4 → ∀ b, b < 4 → a ≠ b → (TX3 a).2.1 ≠ (TX3 b).2.1 := by decide +kernel
theorem tyX3_ok : ∀ k, k < 4 → parseFieldDescriptor (TX3 k).2.2.1 = some (tyX3 k) := by decide +kernel
abbrev cX3_init : ByteArray := prog_5_method_1_code
def yX3_init : MethodName := ⟨RX3, "<init>", "([LRecordBench$Make;)V"⟩
abbrev cX3_faultFound : ByteArray := prog_5_method_2_code
def yX3_faultFound : MethodName := ⟨RX3, "faultFound", "()I"⟩
abbrev cX3_placeFound : ByteArray := prog_5_method_3_code
def yX3_placeFound : MethodName := ⟨RX3, "placeFound", "()I"⟩
abbrev cX3_isSound : ByteArray := prog_5_method_4_code
def yX3_isSound : MethodName := ⟨RX3, "isSound", "(LRecordBench$Row;LRecordBench$Make;)Z"⟩
abbrev cX3_scan : ByteArray := prog_5_method_5_code
def yX3_scan : MethodName := ⟨RX3, "scan", "(LRecordBench$Row;IILRecordBench$Make;I)Z"⟩
abbrev cX3_refuse : ByteArray := prog_5_method_6_code
def yX3_refuse : MethodName := ⟨RX3, "refuse", "(II)Z"⟩
abbrev cX3_faultOf : ByteArray := prog_5_method_7_code
def yX3_faultOf : MethodName := ⟨RX3, "faultOf", "(LRecordBench$Piece;LRecordBench$Field;LRecordBench$Row;II)I"⟩
abbrev cX3_fits : ByteArray := prog_5_method_8_code
def yX3_fits : MethodName := ⟨RX3, "fits", "(LRecordBench$Piece;LRecordBench$Field;LRecordBench$Row;)Z"⟩
abbrev cX3_isRec : ByteArray := prog_5_method_9_code
def yX3_isRec : MethodName := ⟨RX3, "isRec", "(LRecordBench$Field;)Z"⟩
abbrev cX3_groupBit : ByteArray := prog_5_method_10_code
def yX3_groupBit : MethodName := ⟨RX3, "groupBit", "(LRecordBench$Field;)I"⟩
abbrev cX3_countPieces : ByteArray := prog_5_method_11_code
def yX3_countPieces : MethodName := ⟨RX3, "countPieces", "(LRecordBench$Row;LRecordBench$Make;Z)I"⟩
abbrev cX3_find : ByteArray := prog_5_method_12_code
def yX3_find : MethodName := ⟨RX3, "find", "(LRecordBench$Row;I)LRecordBench$Piece;"⟩
def RX4 : String := "RecordBench$RecordWriter"
def TX4 : u_T := fun k => match k with
  | 0 => ("RecordBench$RecordWriter", "makes", "[LRecordBench$Make;", true)
  | 1 => ("RecordBench$RecordWriter", "pieces", "[LRecordBench$Piece;", true)
  | _ => ("RecordBench$RecordWriter", "nothing", "LRecordBench$Row;", true)
def tyX4 : Nat → FieldType := fun k => match k with
  | 0 => .array (.object "RecordBench$Make")
  | 1 => .array (.object "RecordBench$Piece")
  | _ => .object "RecordBench$Row"
abbrev wsX40 : List Cond := u_ws RX4 TX4 3
theorem nmX4 : ∀ a, a < 3 → ∀ b, b < 3 → a ≠ b → (TX4 a).2.1 ≠ (TX4 b).2.1 := by decide +kernel
theorem tyX4_ok : ∀ k, k < 3 → parseFieldDescriptor (TX4 k).2.2.1 = some (tyX4 k) := by decide +kernel
abbrev cX4_init : ByteArray := prog_6_method_1_code
def yX4_init : MethodName := ⟨RX4, "<init>", "([LRecordBench$Make;)V"⟩
abbrev cX4_rewrite : ByteArray := prog_6_method_2_code
def yX4_rewrite : MethodName := ⟨RX4, "rewrite", "(LRecordBench$Row;LRecordBench$Make;LRecordBench$Row;)V"⟩
abbrev cX4_rewriteWith : ByteArray := prog_6_method_3_code
def yX4_rewriteWith : MethodName := ⟨RX4, "rewriteWith", "(LRecordBench$Row;LRecordBench$Make;IILRecordBench$Row;LRecordBench$Row;)V"⟩
abbrev cX4_copyAll : ByteArray := prog_6_method_4_code
def yX4_copyAll : MethodName := ⟨RX4, "copyAll", "(LRecordBench$Row;IILRecordBench$Make;LRecordBench$Row;I)V"⟩
abbrev cX4_copyPiece : ByteArray := prog_6_method_5_code
def yX4_copyPiece : MethodName := ⟨RX4, "copyPiece", "(LRecordBench$Row;ILRecordBench$Field;LRecordBench$Row;I)V"⟩
def RX5 : String := "RecordBench$Row"
def TX5 : u_T := fun k => match k with
  | 0 => ("RecordBench$Row", "bytes", "[I", true)
  | _ => ("RecordBench$Row", "size", "I", false)
def tyX5 : Nat → FieldType := fun k => match k with
  | 0 => .array .int
  | _ => .int
abbrev wsX50 : List Cond := u_ws RX5 TX5 2
theorem nmX5 : ∀ a, a < 2 → ∀ b, b < 2 → a ≠ b → (TX5 a).2.1 ≠ (TX5 b).2.1 := by decide +kernel
theorem tyX5_ok : ∀ k, k < 2 → parseFieldDescriptor (TX5 k).2.2.1 = some (tyX5 k) := by decide +kernel
abbrev cX5_init : ByteArray := prog_7_method_1_code
def yX5_init : MethodName := ⟨RX5, "<init>", "(I)V"⟩
abbrev cX5_size : ByteArray := prog_7_method_2_code
def yX5_size : MethodName := ⟨RX5, "size", "()I"⟩
abbrev cX5_byteAt : ByteArray := prog_7_method_3_code
def yX5_byteAt : MethodName := ⟨RX5, "byteAt", "(I)I"⟩
abbrev cX5_cut : ByteArray := prog_7_method_4_code
def yX5_cut : MethodName := ⟨RX5, "cut", "(I)Z"⟩
abbrev cX5_push : ByteArray := prog_7_method_5_code
def yX5_push : MethodName := ⟨RX5, "push", "(I)V"⟩
abbrev cX5_pushWord : ByteArray := prog_7_method_6_code
def yX5_pushWord : MethodName := ⟨RX5, "pushWord", "(I)V"⟩
abbrev cX5_pushVarint : ByteArray := prog_7_method_7_code
def yX5_pushVarint : MethodName := ⟨RX5, "pushVarint", "(J)V"⟩
abbrev cX5_pushNumber : ByteArray := prog_7_method_8_code
def yX5_pushNumber : MethodName := ⟨RX5, "pushNumber", "(J)V"⟩
abbrev cX5_pushKey : ByteArray := prog_7_method_9_code
def yX5_pushKey : MethodName := ⟨RX5, "pushKey", "(LRecordBench$Field;)V"⟩
abbrev cX5_append : ByteArray := prog_7_method_10_code
def yX5_append : MethodName := ⟨RX5, "append", "(LRecordBench$Row;II)V"⟩
abbrev cX5_replace : ByteArray := prog_7_method_11_code
def yX5_replace : MethodName := ⟨RX5, "replace", "(II)V"⟩
abbrev cX5_become : ByteArray := prog_7_method_12_code
def yX5_become : MethodName := ⟨RX5, "become", "(LRecordBench$Row;II)V"⟩
abbrev cX5_isText : ByteArray := prog_7_method_13_code
def yX5_isText : MethodName := ⟨RX5, "isText", "(II)Z"⟩
abbrev cX5_isTextByte : ByteArray := prog_7_method_14_code
def yX5_isTextByte : MethodName := ⟨RX5, "isTextByte", "(I)Z"⟩
def RX6 : String := "RecordBench$TextReader"
def TX6 : u_T := fun k => match k with
  | 0 => ("RecordBench$TextReader", "tape", "LRecordBench$Row;", true)
  | 1 => ("RecordBench$TextReader", "makes", "[LRecordBench$Make;", true)
  | 2 => ("RecordBench$TextReader", "letters", "Ljava/lang/StringBuilder;", true)
  | 3 => ("RecordBench$TextReader", "pos", "I", false)
  | 4 => ("RecordBench$TextReader", "fault", "I", false)
  | _ => ("RecordBench$TextReader", "place", "I", false)
def tyX6 : Nat → FieldType := fun k => match k with
  | 0 => .object "RecordBench$Row"
  | 1 => .array (.object "RecordBench$Make")
  | 2 => .object "java/lang/StringBuilder"
  | 3 => .int
  | 4 => .int
  | _ => .int
abbrev wsX60 : List Cond := u_ws RX6 TX6 6
theorem nmX6 : ∀ a, a < 6 → ∀ b, b < 6 → a ≠ b → (TX6 a).2.1 ≠ (TX6 b).2.1 := by decide +kernel
theorem tyX6_ok : ∀ k, k < 6 → parseFieldDescriptor (TX6 k).2.2.1 = some (tyX6 k) := by decide +kernel
abbrev cX6_init : ByteArray := prog_8_method_1_code
def yX6_init : MethodName := ⟨RX6, "<init>", "(LRecordBench$Row;[LRecordBench$Make;)V"⟩
abbrev cX6_faultFound : ByteArray := prog_8_method_2_code
def yX6_faultFound : MethodName := ⟨RX6, "faultFound", "()I"⟩
abbrev cX6_placeFound : ByteArray := prog_8_method_3_code
def yX6_placeFound : MethodName := ⟨RX6, "placeFound", "()I"⟩
abbrev cX6_tell : ByteArray := prog_8_method_4_code
def yX6_tell : MethodName := ⟨RX6, "tell", "(I)LRecordBench$Make;"⟩
abbrev cX6_refuse : ByteArray := prog_8_method_5_code
def yX6_refuse : MethodName := ⟨RX6, "refuse", "(II)Z"⟩
abbrev cX6_takeField : ByteArray := prog_8_method_6_code
def yX6_takeField : MethodName := ⟨RX6, "takeField", "(ILRecordBench$Make;)Z"⟩
abbrev cX6_takeNumber : ByteArray := prog_8_method_7_code
def yX6_takeNumber : MethodName := ⟨RX6, "takeNumber", "(LRecordBench$Field;LRecordBench$Make;)Z"⟩
abbrev cX6_takeName : ByteArray := prog_8_method_8_code
def yX6_takeName : MethodName := ⟨RX6, "takeName", "(LRecordBench$Field;LRecordBench$Make;)Z"⟩
abbrev cX6_takeKind : ByteArray := prog_8_method_9_code
def yX6_takeKind : MethodName := ⟨RX6, "takeKind", "(LRecordBench$Field;I)Z"⟩
abbrev cX6_takeRec : ByteArray := prog_8_method_10_code
def yX6_takeRec : MethodName := ⟨RX6, "takeRec", "(LRecordBench$Field;I)Z"⟩
abbrev cX6_takeGroup : ByteArray := prog_8_method_11_code
def yX6_takeGroup : MethodName := ⟨RX6, "takeGroup", "(LRecordBench$Field;)Z"⟩
abbrev cX6_takeDefault : ByteArray := prog_8_method_12_code
def yX6_takeDefault : MethodName := ⟨RX6, "takeDefault", "(LRecordBench$Field;)Z"⟩
abbrev cX6_takeValue : ByteArray := prog_8_method_13_code
def yX6_takeValue : MethodName := ⟨RX6, "takeValue", "(LRecordBench$Field;)Z"⟩
abbrev cX6_takeText : ByteArray := prog_8_method_14_code
def yX6_takeText : MethodName := ⟨RX6, "takeText", "(LRecordBench$Field;)Z"⟩
abbrev cX6_takeClose : ByteArray := prog_8_method_15_code
def yX6_takeClose : MethodName := ⟨RX6, "takeClose", "()Z"⟩
abbrev cX6_takeWord : ByteArray := prog_8_method_16_code
def yX6_takeWord : MethodName := ⟨RX6, "takeWord", "()Ljava/lang/String;"⟩
abbrev cX6_skipBlanks : ByteArray := prog_8_method_17_code
def yX6_skipBlanks : MethodName := ⟨RX6, "skipBlanks", "()V"⟩
abbrev cX6_isLetter : ByteArray := prog_8_method_18_code
def yX6_isLetter : MethodName := ⟨RX6, "isLetter", "(I)Z"⟩
abbrev cX6_isDigit : ByteArray := prog_8_method_19_code
def yX6_isDigit : MethodName := ⟨RX6, "isDigit", "(I)Z"⟩
abbrev cX6_digitAt : ByteArray := prog_8_method_20_code
def yX6_digitAt : MethodName := ⟨RX6, "digitAt", "(I)I"⟩
abbrev cX6_isBlank : ByteArray := prog_8_method_21_code
def yX6_isBlank : MethodName := ⟨RX6, "isBlank", "(I)Z"⟩
abbrev cX6_isQuotable : ByteArray := prog_8_method_22_code
def yX6_isQuotable : MethodName := ⟨RX6, "isQuotable", "(I)Z"⟩
abbrev cX6_kindOf : ByteArray := prog_8_method_23_code
def yX6_kindOf : MethodName := ⟨RX6, "kindOf", "(Ljava/lang/String;)I"⟩
def RX7 : String := "RecordBench$Walks"
def TX7 : u_T := fun k => match k with
  | 0 => ("RecordBench$Walks", "makes", "[LRecordBench$Make;", true)
  | _ => ("RecordBench$Walks", "seen", "[I", true)
def tyX7 : Nat → FieldType := fun k => match k with
  | 0 => .array (.object "RecordBench$Make")
  | _ => .array .int
abbrev wsX70 : List Cond := u_ws RX7 TX7 2
theorem nmX7 : ∀ a, a < 2 → ∀ b, b < 2 → a ≠ b → (TX7 a).2.1 ≠ (TX7 b).2.1 := by decide +kernel
theorem tyX7_ok : ∀ k, k < 2 → parseFieldDescriptor (TX7 k).2.2.1 = some (tyX7 k) := by decide +kernel
abbrev cX7_init : ByteArray := prog_9_method_1_code
def yX7_init : MethodName := ⟨RX7, "<init>", "([LRecordBench$Make;)V"⟩
abbrev cX7_breaks : ByteArray := prog_9_method_2_code
def yX7_breaks : MethodName := ⟨RX7, "breaks", "(IIIZI)Z"⟩
abbrev cX7_firstNumber : ByteArray := prog_9_method_3_code
def yX7_firstNumber : MethodName := ⟨RX7, "firstNumber", "(LRecordBench$Make;LRecordBench$Make;LRecordBench$Make;ZI)I"⟩
abbrev cX7_whyBy : ByteArray := prog_9_method_4_code
def yX7_whyBy : MethodName := ⟨RX7, "whyBy", "(ILRecordBench$Make;LRecordBench$Make;LRecordBench$Make;ZI)I"⟩
abbrev cX7_isOtherSort : ByteArray := prog_9_method_5_code
def yX7_isOtherSort : MethodName := ⟨RX7, "isOtherSort", "(LRecordBench$Field;LRecordBench$Field;)Z"⟩
abbrev cX7_isNarrower : ByteArray := prog_9_method_6_code
def yX7_isNarrower : MethodName := ⟨RX7, "isNarrower", "(LRecordBench$Field;LRecordBench$Field;)Z"⟩
abbrev cX7_isCrowded : ByteArray := prog_9_method_7_code
def yX7_isCrowded : MethodName := ⟨RX7, "isCrowded", "(LRecordBench$Field;LRecordBench$Make;LRecordBench$Make;)Z"⟩
abbrev cX7_recBreaks : ByteArray := prog_9_method_8_code
def yX7_recBreaks : MethodName := ⟨RX7, "recBreaks", "(LRecordBench$Field;LRecordBench$Field;LRecordBench$Field;ZI)Z"⟩
def RX8 : String := "RecordBench"
def TX8 : u_T := fun k => match k with
  | 0 => ("RecordBench", "tape", "LRecordBench$Row;", true)
  | 1 => ("RecordBench", "records", "[LRecordBench$Row;", true)
  | 2 => ("RecordBench", "makes", "[LRecordBench$Make;", true)
  | 3 => ("RecordBench", "texts", "LRecordBench$TextReader;", true)
  | 4 => ("RecordBench", "reader", "LRecordBench$RecordReader;", true)
  | 5 => ("RecordBench", "writer", "LRecordBench$RecordWriter;", true)
  | 6 => ("RecordBench", "walks", "LRecordBench$Walks;", true)
  | 7 => ("RecordBench", "fresh", "LRecordBench$Row;", true)
  | 8 => ("RecordBench", "work", "LRecordBench$Row;", true)
  | 9 => ("RecordBench", "latestFault", "I", false)
  | 10 => ("RecordBench", "latestPlace", "I", false)
  | _ => ("RecordBench", "latestNumber", "I", false)
def tyX8 : Nat → FieldType := fun k => match k with
  | 0 => .object "RecordBench$Row"
  | 1 => .array (.object "RecordBench$Row")
  | 2 => .array (.object "RecordBench$Make")
  | 3 => .object "RecordBench$TextReader"
  | 4 => .object "RecordBench$RecordReader"
  | 5 => .object "RecordBench$RecordWriter"
  | 6 => .object "RecordBench$Walks"
  | 7 => .object "RecordBench$Row"
  | 8 => .object "RecordBench$Row"
  | 9 => .int
  | 10 => .int
  | _ => .int
abbrev wsX80 : List Cond := u_ws RX8 TX8 12
theorem nmX8 : ∀ a, a < 12 → ∀ b, b < 12 → a ≠ b → (TX8 a).2.1 ≠ (TX8 b).2.1 := by decide +kernel
theorem tyX8_ok : ∀ k, k < 12 → parseFieldDescriptor (TX8 k).2.2.1 = some (tyX8 k) := by decide +kernel
abbrev cX8_init : ByteArray := prog_1_method_1_code
def yX8_init : MethodName := ⟨RX8, "<init>", "()V"⟩
abbrev cX8_feed : ByteArray := prog_1_method_2_code
def yX8_feed : MethodName := ⟨RX8, "feed", "(IIIII)I"⟩
abbrev cX8_end : ByteArray := prog_1_method_3_code
def yX8_end : MethodName := ⟨RX8, "end", "(I)Z"⟩
abbrev cX8_make : ByteArray := prog_1_method_4_code
def yX8_make : MethodName := ⟨RX8, "make", "(I)I"⟩
abbrev cX8_fault : ByteArray := prog_1_method_5_code
def yX8_fault : MethodName := ⟨RX8, "fault", "(I)I"⟩
abbrev cX8_field : ByteArray := prog_1_method_6_code
def yX8_field : MethodName := ⟨RX8, "field", "(III)I"⟩
abbrev cX8_plain : ByteArray := prog_1_method_7_code
def yX8_plain : MethodName := ⟨RX8, "plain", "(II)J"⟩
abbrev cX8_clear : ByteArray := prog_1_method_8_code
def yX8_clear : MethodName := ⟨RX8, "clear", "(I)I"⟩
abbrev cX8_load : ByteArray := prog_1_method_9_code
def yX8_load : MethodName := ⟨RX8, "load", "(I)I"⟩
abbrev cX8_set : ByteArray := prog_1_method_10_code
def yX8_set : MethodName := ⟨RX8, "set", "(IIIJ)I"⟩
abbrev cX8_say : ByteArray := prog_1_method_11_code
def yX8_say : MethodName := ⟨RX8, "say", "(III)I"⟩
abbrev cX8_nest : ByteArray := prog_1_method_12_code
def yX8_nest : MethodName := ⟨RX8, "nest", "(IIII)I"⟩
abbrev cX8_drop : ByteArray := prog_1_method_13_code
def yX8_drop : MethodName := ⟨RX8, "drop", "(III)I"⟩
abbrev cX8_read : ByteArray := prog_1_method_14_code
def yX8_read : MethodName := ⟨RX8, "read", "(II)I"⟩
abbrev cX8_get : ByteArray := prog_1_method_15_code
def yX8_get : MethodName := ⟨RX8, "get", "(IIII)J"⟩
abbrev cX8_kept : ByteArray := prog_1_method_16_code
def yX8_kept : MethodName := ⟨RX8, "kept", "(II)I"⟩
abbrev cX8_write : ByteArray := prog_1_method_17_code
def yX8_write : MethodName := ⟨RX8, "write", "(III)I"⟩
abbrev cX8_at : ByteArray := prog_1_method_18_code
def yX8_at : MethodName := ⟨RX8, "at", "(II)I"⟩
abbrev cX8_open : ByteArray := prog_1_method_19_code
def yX8_open : MethodName := ⟨RX8, "open", "(IIII)I"⟩
abbrev cX8_step : ByteArray := prog_1_method_20_code
def yX8_step : MethodName := ⟨RX8, "step", "(II)I"⟩
abbrev cX8_walk : ByteArray := prog_1_method_21_code
def yX8_walk : MethodName := ⟨RX8, "walk", "(III)I"⟩
abbrev cX8_by : ByteArray := prog_1_method_22_code
def yX8_by : MethodName := ⟨RX8, "by", "()I"⟩
abbrev cX8_readers : ByteArray := prog_1_method_23_code
def yX8_readers : MethodName := ⟨RX8, "readers", "(I)I"⟩
abbrev cX8_lookAlong : ByteArray := prog_1_method_24_code
def yX8_lookAlong : MethodName := ⟨RX8, "lookAlong", "(III)I"⟩
abbrev cX8_settle : ByteArray := prog_1_method_25_code
def yX8_settle : MethodName := ⟨RX8, "settle", "(LRecordBench$Row;LRecordBench$Make;II)I"⟩
abbrev cX8_recordOf : ByteArray := prog_1_method_26_code
def yX8_recordOf : MethodName := ⟨RX8, "recordOf", "(I)LRecordBench$Row;"⟩
abbrev cX8_fieldOf : ByteArray := prog_1_method_27_code
def yX8_fieldOf : MethodName := ⟨RX8, "fieldOf", "(II)LRecordBench$Field;"⟩
abbrev cX8_makeOf : ByteArray := prog_1_method_28_code
def yX8_makeOf : MethodName := ⟨RX8, "makeOf", "([LRecordBench$Make;I)LRecordBench$Make;"⟩
def RX9 : String := "RecordBenchModel"
def TX9 : u_T := fun k => match k with
  | 0 => ("RecordBenchModel", "told", "[Z", true)
  | 1 => ("RecordBenchModel", "kind", "[I", true)
  | 2 => ("RecordBenchModel", "group", "[I", true)
  | 3 => ("RecordBenchModel", "inner", "[I", true)
  | 4 => ("RecordBenchModel", "letters", "[I", true)
  | 5 => ("RecordBenchModel", "name", "[J", true)
  | 6 => ("RecordBenchModel", "plain", "[J", true)
  | 7 => ("RecordBenchModel", "plainText", "[I", true)
  | 8 => ("RecordBenchModel", "isThere", "[Z", true)
  | 9 => ("RecordBenchModel", "tape", "[I", true)
  | 10 => ("RecordBenchModel", "taped", "I", false)
  | 11 => ("RecordBenchModel", "at", "I", false)
  | 12 => ("RecordBenchModel", "size", "I", false)
  | 13 => ("RecordBenchModel", "bad", "I", false)
  | 14 => ("RecordBenchModel", "badPlace", "I", false)
  | 15 => ("RecordBenchModel", "fault", "I", false)
  | 16 => ("RecordBenchModel", "faultPlace", "I", false)
  | 17 => ("RecordBenchModel", "begun", "I", false)
  | 18 => ("RecordBenchModel", "ended", "I", false)
  | 19 => ("RecordBenchModel", "goneWord", "J", true)
  | 20 => ("RecordBenchModel", "flagWord", "J", true)
  | 21 => ("RecordBenchModel", "smallWord", "J", true)
  | 22 => ("RecordBenchModel", "intWord", "J", true)
  | 23 => ("RecordBenchModel", "longWord", "J", true)
  | 24 => ("RecordBenchModel", "textWord", "J", true)
  | 25 => ("RecordBenchModel", "recWord", "J", true)
  | 26 => ("RecordBenchModel", "inWord", "J", true)
  | 27 => ("RecordBenchModel", "fields", "I", false)
  | 28 => ("RecordBenchModel", "bytes", "[I", true)
  | 29 => ("RecordBenchModel", "long0", "[I", true)
  | 30 => ("RecordBenchModel", "row", "[I", true)
  | 31 => ("RecordBenchModel", "varint", "J", false)
  | 32 => ("RecordBenchModel", "varintEnd", "I", false)
  | 33 => ("RecordBenchModel", "number", "I", false)
  | 34 => ("RecordBenchModel", "isLong", "Z", false)
  | 35 => ("RecordBenchModel", "from", "I", false)
  | 36 => ("RecordBenchModel", "to", "I", false)
  | 37 => ("RecordBenchModel", "value", "J", false)
  | 38 => ("RecordBenchModel", "pieceFault", "I", false)
  | 39 => ("RecordBenchModel", "readFault", "I", false)
  | 40 => ("RecordBenchModel", "readPlace", "I", false)
  | 41 => ("RecordBenchModel", "pieces", "I", false)
  | 42 => ("RecordBenchModel", "pieceNumber", "[I", true)
  | 43 => ("RecordBenchModel", "pieceBegin", "[I", true)
  | 44 => ("RecordBenchModel", "pieceFrom", "[I", true)
  | 45 => ("RecordBenchModel", "pieceTo", "[I", true)
  | 46 => ("RecordBenchModel", "pieceValue", "[J", true)
  | 47 => ("RecordBenchModel", "pileMake", "[I", true)
  | 48 => ("RecordBenchModel", "pileAt", "[I", true)
  | 49 => ("RecordBenchModel", "pileEnd", "[I", true)
  | 50 => ("RecordBenchModel", "pileLast", "[I", true)
  | 51 => ("RecordBenchModel", "pileGroups", "[I", true)
  | 52 => ("RecordBenchModel", "laid", "[I", true)
  | 53 => ("RecordBenchModel", "laidLong", "[I", true)
  | 54 => ("RecordBenchModel", "levelKey", "[I", true)
  | 55 => ("RecordBenchModel", "fresh", "[I", true)
  | 56 => ("RecordBenchModel", "freshLong", "I", false)
  | 57 => ("RecordBenchModel", "why", "[I", true)
  | 58 => ("RecordBenchModel", "byNumber", "[I", true)
  | _ => ("RecordBenchModel", "by", "I", false)
def tyX9 : Nat → FieldType := fun k => match k with
  | 0 => .array .boolean
  | 1 => .array .int
  | 2 => .array .int
  | 3 => .array .int
  | 4 => .array .int
  | 5 => .array .long
  | 6 => .array .long
  | 7 => .array .int
  | 8 => .array .boolean
  | 9 => .array .int
  | 10 => .int
  | 11 => .int
  | 12 => .int
  | 13 => .int
  | 14 => .int
  | 15 => .int
  | 16 => .int
  | 17 => .int
  | 18 => .int
  | 19 => .long
  | 20 => .long
  | 21 => .long
  | 22 => .long
  | 23 => .long
  | 24 => .long
  | 25 => .long
  | 26 => .long
  | 27 => .int
  | 28 => .array .int
  | 29 => .array .int
  | 30 => .array .int
  | 31 => .long
  | 32 => .int
  | 33 => .int
  | 34 => .boolean
  | 35 => .int
  | 36 => .int
  | 37 => .long
  | 38 => .int
  | 39 => .int
  | 40 => .int
  | 41 => .int
  | 42 => .array .int
  | 43 => .array .int
  | 44 => .array .int
  | 45 => .array .int
  | 46 => .array .long
  | 47 => .array .int
  | 48 => .array .int
  | 49 => .array .int
  | 50 => .array .int
  | 51 => .array .int
  | 52 => .array .int
  | 53 => .array .int
  | 54 => .array .int
  | 55 => .array .int
  | 56 => .int
  | 57 => .array .int
  | 58 => .array .int
  | _ => .int
abbrev wsX90 : List Cond := u_ws RX9 TX9 60
theorem nmX9 : ∀ a, a < 60 → ∀ b, b < 60 → a ≠ b → (TX9 a).2.1 ≠ (TX9 b).2.1 := by decide +kernel
theorem tyX9_ok : ∀ k, k < 60 → parseFieldDescriptor (TX9 k).2.2.1 = some (tyX9 k) := by decide +kernel
abbrev cX9_init : ByteArray := prog_11_method_1_code
def yX9_init : MethodName := ⟨RX9, "<init>", "()V"⟩
abbrev cX9_isMake : ByteArray := prog_11_method_2_code
def yX9_isMake : MethodName := ⟨RX9, "isMake", "(I)Z"⟩
abbrev cX9_has : ByteArray := prog_11_method_3_code
def yX9_has : MethodName := ⟨RX9, "has", "(II)Z"⟩
abbrev cX9_feed : ByteArray := prog_11_method_4_code
def yX9_feed : MethodName := ⟨RX9, "feed", "(IIIII)I"⟩
abbrev cX9_end : ByteArray := prog_11_method_5_code
def yX9_end : MethodName := ⟨RX9, "end", "(I)Z"⟩
abbrev cX9_fail : ByteArray := prog_11_method_6_code
def yX9_fail : MethodName := ⟨RX9, "fail", "(II)V"⟩
abbrev cX9_isLetter : ByteArray := prog_11_method_7_code
def yX9_isLetter : MethodName := ⟨RX9, "isLetter", "(I)Z"⟩
abbrev cX9_isDigit : ByteArray := prog_11_method_8_code
def yX9_isDigit : MethodName := ⟨RX9, "isDigit", "(I)Z"⟩
abbrev cX9_next : ByteArray := prog_11_method_9_code
def yX9_next : MethodName := ⟨RX9, "next", "()I"⟩
abbrev cX9_sign : ByteArray := prog_11_method_10_code
def yX9_sign : MethodName := ⟨RX9, "sign", "(I)V"⟩
abbrev cX9_number : ByteArray := prog_11_method_11_code
def yX9_number : MethodName := ⟨RX9, "number", "(III)I"⟩
abbrev cX9_digit : ByteArray := prog_11_method_12_code
def yX9_digit : MethodName := ⟨RX9, "digit", "()I"⟩
abbrev cX9_ends : ByteArray := prog_11_method_13_code
def yX9_ends : MethodName := ⟨RX9, "ends", "()V"⟩
abbrev cX9_wordEnd : ByteArray := prog_11_method_14_code
def yX9_wordEnd : MethodName := ⟨RX9, "wordEnd", "()I"⟩
abbrev cX9_packed : ByteArray := prog_11_method_15_code
def yX9_packed : MethodName := ⟨RX9, "packed", "(CCCCC)J"⟩
abbrev cX9_word : ByteArray := prog_11_method_16_code
def yX9_word : MethodName := ⟨RX9, "word", "()J"⟩
abbrev cX9_takes : ByteArray := prog_11_method_17_code
def yX9_takes : MethodName := ⟨RX9, "takes", "()V"⟩
abbrev cX9_kindOf : ByteArray := prog_11_method_18_code
def yX9_kindOf : MethodName := ⟨RX9, "kindOf", "(J)I"⟩
abbrev cX9_field : ByteArray := prog_11_method_19_code
def yX9_field : MethodName := ⟨RX9, "field", "(I)V"⟩
abbrev cX9_kinds : ByteArray := prog_11_method_20_code
def yX9_kinds : MethodName := ⟨RX9, "kinds", "(III)V"⟩
abbrev cX9_isOf : ByteArray := prog_11_method_21_code
def yX9_isOf : MethodName := ⟨RX9, "isOf", "(JI)Z"⟩
abbrev cX9_value : ByteArray := prog_11_method_22_code
def yX9_value : MethodName := ⟨RX9, "value", "(II)V"⟩
abbrev cX9_textValue : ByteArray := prog_11_method_23_code
def yX9_textValue : MethodName := ⟨RX9, "textValue", "(I)V"⟩
abbrev cX9_make : ByteArray := prog_11_method_24_code
def yX9_make : MethodName := ⟨RX9, "make", "(I)I"⟩
abbrev cX9_fault : ByteArray := prog_11_method_25_code
def yX9_fault : MethodName := ⟨RX9, "fault", "(I)I"⟩
abbrev cX9_isField : ByteArray := prog_11_method_26_code
def yX9_isField : MethodName := ⟨RX9, "isField", "(II)Z"⟩
abbrev cX9_field_ : ByteArray := prog_11_method_27_code
def yX9_field_ : MethodName := ⟨RX9, "field", "(III)I"⟩
abbrev cX9_plain : ByteArray := prog_11_method_28_code
def yX9_plain : MethodName := ⟨RX9, "plain", "(II)J"⟩
abbrev cX9_isRecord : ByteArray := prog_11_method_29_code
def yX9_isRecord : MethodName := ⟨RX9, "isRecord", "(I)Z"⟩
abbrev cX9_clear : ByteArray := prog_11_method_30_code
def yX9_clear : MethodName := ⟨RX9, "clear", "(I)I"⟩
abbrev cX9_load : ByteArray := prog_11_method_31_code
def yX9_load : MethodName := ⟨RX9, "load", "(I)I"⟩
abbrev cX9_at : ByteArray := prog_11_method_32_code
def yX9_at : MethodName := ⟨RX9, "at", "(II)I"⟩
abbrev cX9_varint : ByteArray := prog_11_method_33_code
def yX9_varint : MethodName := ⟨RX9, "varint", "(II)Z"⟩
abbrev cX9_piece : ByteArray := prog_11_method_34_code
def yX9_piece : MethodName := ⟨RX9, "piece", "(IIIII)V"⟩
abbrev cX9_isText : ByteArray := prog_11_method_35_code
def yX9_isText : MethodName := ⟨RX9, "isText", "([III)Z"⟩
abbrev cX9_reads : ByteArray := prog_11_method_36_code
def yX9_reads : MethodName := ⟨RX9, "reads", "(II)Z"⟩
abbrev cX9_opens : ByteArray := prog_11_method_37_code
def yX9_opens : MethodName := ⟨RX9, "opens", "(IIII)V"⟩
abbrev cX9_loads : ByteArray := prog_11_method_38_code
def yX9_loads : MethodName := ⟨RX9, "loads", "(I)V"⟩
abbrev cX9_isRead : ByteArray := prog_11_method_39_code
def yX9_isRead : MethodName := ⟨RX9, "isRead", "(II)Z"⟩
abbrev cX9_read : ByteArray := prog_11_method_40_code
def yX9_read : MethodName := ⟨RX9, "read", "(II)I"⟩
abbrev cX9_kept : ByteArray := prog_11_method_41_code
def yX9_kept : MethodName := ⟨RX9, "kept", "(II)I"⟩
abbrev cX9_pieceOf : ByteArray := prog_11_method_42_code
def yX9_pieceOf : MethodName := ⟨RX9, "pieceOf", "(I)I"⟩
abbrev cX9_get : ByteArray := prog_11_method_43_code
def yX9_get : MethodName := ⟨RX9, "get", "(IIII)J"⟩
abbrev cX9_lays : ByteArray := prog_11_method_44_code
def yX9_lays : MethodName := ⟨RX9, "lays", "(II)V"⟩
abbrev cX9_laysVarint : ByteArray := prog_11_method_45_code
def yX9_laysVarint : MethodName := ⟨RX9, "laysVarint", "(IJ)V"⟩
abbrev cX9_folded : ByteArray := prog_11_method_46_code
def yX9_folded : MethodName := ⟨RX9, "folded", "(J)J"⟩
abbrev cX9_writes : ByteArray := prog_11_method_47_code
def yX9_writes : MethodName := ⟨RX9, "writes", "(II)V"⟩
abbrev cX9_comes : ByteArray := prog_11_method_48_code
def yX9_comes : MethodName := ⟨RX9, "comes", "(I)V"⟩
abbrev cX9_write : ByteArray := prog_11_method_49_code
def yX9_write : MethodName := ⟨RX9, "write", "(III)I"⟩
abbrev cX9_keepsFresh : ByteArray := prog_11_method_50_code
def yX9_keepsFresh : MethodName := ⟨RX9, "keepsFresh", "()V"⟩
abbrev cX9_puts : ByteArray := prog_11_method_51_code
def yX9_puts : MethodName := ⟨RX9, "puts", "(III)I"⟩
abbrev cX9_set : ByteArray := prog_11_method_52_code
def yX9_set : MethodName := ⟨RX9, "set", "(IIIJ)I"⟩
abbrev cX9_say : ByteArray := prog_11_method_53_code
def yX9_say : MethodName := ⟨RX9, "say", "(III)I"⟩
abbrev cX9_nest : ByteArray := prog_11_method_54_code
def yX9_nest : MethodName := ⟨RX9, "nest", "(IIII)I"⟩
abbrev cX9_drop : ByteArray := prog_11_method_55_code
def yX9_drop : MethodName := ⟨RX9, "drop", "(III)I"⟩
abbrev cX9_open : ByteArray := prog_11_method_56_code
def yX9_open : MethodName := ⟨RX9, "open", "(IIII)I"⟩
abbrev cX9_place : ByteArray := prog_11_method_57_code
def yX9_place : MethodName := ⟨RX9, "place", "(IIII)I"⟩
abbrev cX9_sortOf : ByteArray := prog_11_method_58_code
def yX9_sortOf : MethodName := ⟨RX9, "sortOf", "(II)I"⟩
abbrev cX9_isOther : ByteArray := prog_11_method_59_code
def yX9_isOther : MethodName := ⟨RX9, "isOther", "(III)Z"⟩
abbrev cX9_isNarrower : ByteArray := prog_11_method_60_code
def yX9_isNarrower : MethodName := ⟨RX9, "isNarrower", "(III)Z"⟩
abbrev cX9_differs : ByteArray := prog_11_method_61_code
def yX9_differs : MethodName := ⟨RX9, "differs", "(III)Z"⟩
abbrev cX9_isMated : ByteArray := prog_11_method_62_code
def yX9_isMated : MethodName := ⟨RX9, "isMated", "(III)Z"⟩
abbrev cX9_withinOf : ByteArray := prog_11_method_63_code
def yX9_withinOf : MethodName := ⟨RX9, "withinOf", "(IIIII)I"⟩
abbrev cX9_whyOf : ByteArray := prog_11_method_64_code
def yX9_whyOf : MethodName := ⟨RX9, "whyOf", "(IIIII)I"⟩
abbrev cX9_walks : ByteArray := prog_11_method_65_code
def yX9_walks : MethodName := ⟨RX9, "walks", "()V"⟩
abbrev cX9_walk : ByteArray := prog_11_method_66_code
def yX9_walk : MethodName := ⟨RX9, "walk", "(III)I"⟩
abbrev cX9_step : ByteArray := prog_11_method_67_code
def yX9_step : MethodName := ⟨RX9, "step", "(II)I"⟩
abbrev cX9_by : ByteArray := prog_11_method_68_code
def yX9_by : MethodName := ⟨RX9, "by", "()I"⟩
abbrev cX9_readers : ByteArray := prog_11_method_69_code
def yX9_readers : MethodName := ⟨RX9, "readers", "(I)I"⟩
def RJ5 : String := "java/lang/AbstractStringBuilder"
def TJ5 : u_T := fun k => match k with
  | _ => ("", "", "", false)
def tyJ5 : Nat → FieldType := fun k => match k with
  | _ => .int
abbrev wsJ50 : List Cond := u_ws RJ5 TJ5 0
theorem nmJ5 : ∀ a, a < 0 → ∀ b, b < 0 → a ≠ b → (TJ5 a).2.1 ≠ (TJ5 b).2.1 := by decide +kernel
theorem tyJ5_ok : ∀ k, k < 0 → parseFieldDescriptor (TJ5 k).2.2.1 = some (tyJ5 k) := by decide +kernel
abbrev cJ5_init_d00df : ByteArray := prog_12_method_2_code
def yJ5_init_d00df : MethodName := ⟨RJ5, "<init>", "(I)V"⟩
abbrev cJ5_length_8abf5 : ByteArray := prog_12_method_6_code
def yJ5_length_8abf5 : MethodName := ⟨RJ5, "length", "()I"⟩
abbrev cJ5_ensureCapacityInternal_d00df : ByteArray := prog_12_method_9_code
def yJ5_ensureCapacityInternal_d00df : MethodName := ⟨RJ5, "ensureCapacityInternal", "(I)V"⟩
abbrev cJ5_newCapacity_0f7a4 : ByteArray := prog_12_method_10_code
def yJ5_newCapacity_0f7a4 : MethodName := ⟨RJ5, "newCapacity", "(I)I"⟩
abbrev cJ5_inflate_da8c8 : ByteArray := prog_12_method_11_code
def yJ5_inflate_da8c8 : MethodName := ⟨RJ5, "inflate", "()V"⟩
abbrev cJ5_setLength_d00df : ByteArray := prog_12_method_13_code
def yJ5_setLength_d00df : MethodName := ⟨RJ5, "setLength", "(I)V"⟩
abbrev cJ5_append_3fe6f : ByteArray := prog_12_method_31_code
def yJ5_append_3fe6f : MethodName := ⟨RJ5, "append", "(C)Ljava/lang/AbstractStringBuilder;"⟩
abbrev cJ5_getValue_6d5f1 : ByteArray := prog_12_method_64_code
def yJ5_getValue_6d5f1 : MethodName := ⟨RJ5, "getValue", "()[B"⟩
abbrev cJ5_isLatin1_aae02 : ByteArray := prog_12_method_68_code
def yJ5_isLatin1_aae02 : MethodName := ⟨RJ5, "isLatin1", "()Z"⟩
def RJx8e188 : String := "java/lang/Cloneable"
def TJx8e188 : u_T := fun k => match k with
  | _ => ("", "", "", false)
def tyJx8e188 : Nat → FieldType := fun k => match k with
  | _ => .int
abbrev wsJx8e1880 : List Cond := u_ws RJx8e188 TJx8e188 0
theorem nmJx8e188 : ∀ a, a < 0 → ∀ b, b < 0 → a ≠ b → (TJx8e188 a).2.1 ≠ (TJx8e188 b).2.1 := by decide +kernel
theorem tyJx8e188_ok : ∀ k, k < 0 → parseFieldDescriptor (TJx8e188 k).2.2.1 = some (tyJx8e188 k) := by decide +kernel
def RJ9 : String := "java/lang/Math"
def TJ9 : u_T := fun k => match k with
  | _ => ("", "", "", false)
def tyJ9 : Nat → FieldType := fun k => match k with
  | _ => .int
abbrev wsJ90 : List Cond := u_ws RJ9 TJ9 0
theorem nmJ9 : ∀ a, a < 0 → ∀ b, b < 0 → a ≠ b → (TJ9 a).2.1 ≠ (TJ9 b).2.1 := by decide +kernel
theorem tyJ9_ok : ∀ k, k < 0 → parseFieldDescriptor (TJ9 k).2.2.1 = some (tyJ9 k) := by decide +kernel
abbrev cJ9_max_7cf53 : ByteArray := prog_14_method_65_code
def yJ9_max_7cf53 : MethodName := ⟨RJ9, "max", "(II)I"⟩
abbrev cJ9_min_7cf53 : ByteArray := prog_14_method_69_code
def yJ9_min_7cf53 : MethodName := ⟨RJ9, "min", "(II)I"⟩
def RJ0 : String := "java/lang/String"
def TJ0 : u_T := fun k => match k with
  | 0 => ("java/lang/String", "value", "[B", true)
  | 1 => ("java/lang/String", "coder", "B", true)
  | 2 => ("java/lang/String", "hash", "I", false)
  | _ => ("java/lang/String", "hashIsZero", "Z", false)
def tyJ0 : Nat → FieldType := fun k => match k with
  | 0 => .array .byte
  | 1 => .byte
  | 2 => .int
  | _ => .boolean
abbrev wsJ00 : List Cond := u_ws RJ0 TJ0 4
theorem nmJ0 : ∀ a, a < 4 → ∀ b, b < 4 → a ≠ b → (TJ0 a).2.1 ≠ (TJ0 b).2.1 := by decide +kernel
theorem tyJ0_ok : ∀ k, k < 4 → parseFieldDescriptor (TJ0 k).2.2.1 = some (tyJ0 k) := by decide +kernel
abbrev cJ0_init_81219 : ByteArray := prog_15_method_53_code
def yJ0_init_81219 : MethodName := ⟨RJ0, "<init>", "(Ljava/lang/StringBuilder;)V"⟩
abbrev cJ0_length_8abf5 : ByteArray := prog_15_method_54_code
def yJ0_length_8abf5 : MethodName := ⟨RJ0, "length", "()I"⟩
abbrev cJ0_isEmpty_aae02 : ByteArray := prog_15_method_55_code
def yJ0_isEmpty_aae02 : MethodName := ⟨RJ0, "isEmpty", "()Z"⟩
abbrev cJ0_equals_9ea2d : ByteArray := prog_15_method_66_code
def yJ0_equals_9ea2d : MethodName := ⟨RJ0, "equals", "(Ljava/lang/Object;)Z"⟩
abbrev cJ0_init_db425 : ByteArray := prog_15_method_150_code
def yJ0_init_db425 : MethodName := ⟨RJ0, "<init>", "(Ljava/lang/AbstractStringBuilder;Ljava/lang/Void;)V"⟩
abbrev cJ0_coder_7d493 : ByteArray := prog_15_method_152_code
def yJ0_coder_7d493 : MethodName := ⟨RJ0, "coder", "()B"⟩
abbrev cJ0_checkIndex_df160 : ByteArray := prog_15_method_155_code
def yJ0_checkIndex_df160 : MethodName := ⟨RJ0, "checkIndex", "(II)V"⟩
abbrev cJ0_checkBoundsOffCount_cabcc : ByteArray := prog_15_method_157_code
def yJ0_checkBoundsOffCount_cabcc : MethodName := ⟨RJ0, "checkBoundsOffCount", "(III)I"⟩
def RJ4 : String := "java/lang/StringBuilder"
def TJ4 : u_T := fun k => match k with
  | 0 => ("java/lang/AbstractStringBuilder", "value", "[B", false)
  | 1 => ("java/lang/AbstractStringBuilder", "coder", "B", false)
  | 2 => ("java/lang/AbstractStringBuilder", "maybeLatin1", "Z", false)
  | _ => ("java/lang/AbstractStringBuilder", "count", "I", false)
def tyJ4 : Nat → FieldType := fun k => match k with
  | 0 => .array .byte
  | 1 => .byte
  | 2 => .boolean
  | _ => .int
abbrev wsJ40 : List Cond := u_ws RJ4 TJ4 4
theorem nmJ4 : ∀ a, a < 4 → ∀ b, b < 4 → a ≠ b → (TJ4 a).2.1 ≠ (TJ4 b).2.1 := by decide +kernel
theorem tyJ4_ok : ∀ k, k < 4 → parseFieldDescriptor (TJ4 k).2.2.1 = some (tyJ4 k) := by decide +kernel
abbrev cJ4_init_da8c8 : ByteArray := prog_16_method_1_code
def yJ4_init_da8c8 : MethodName := ⟨RJ4, "<init>", "()V"⟩
abbrev cJ4_append_cf468 : ByteArray := prog_16_method_14_code
def yJ4_append_cf468 : MethodName := ⟨RJ4, "append", "(C)Ljava/lang/StringBuilder;"⟩
abbrev cJ4_toString_0e30d : ByteArray := prog_16_method_42_code
def yJ4_toString_0e30d : MethodName := ⟨RJ4, "toString", "()Ljava/lang/String;"⟩
abbrev cJ4_setLength_d00df : ByteArray := prog_16_method_89_code
def yJ4_setLength_d00df : MethodName := ⟨RJ4, "setLength", "(I)V"⟩
abbrev cJ4_length_8abf5 : ByteArray := prog_16_method_93_code
def yJ4_length_8abf5 : MethodName := ⟨RJ4, "length", "()I"⟩
def RJ1 : String := "java/lang/StringLatin1"
def TJ1 : u_T := fun k => match k with
  | _ => ("", "", "", false)
def tyJ1 : Nat → FieldType := fun k => match k with
  | _ => .int
abbrev wsJ10 : List Cond := u_ws RJ1 TJ1 0
theorem nmJ1 : ∀ a, a < 0 → ∀ b, b < 0 → a ≠ b → (TJ1 a).2.1 ≠ (TJ1 b).2.1 := by decide +kernel
theorem tyJ1_ok : ∀ k, k < 0 → parseFieldDescriptor (TJ1 k).2.2.1 = some (tyJ1 k) := by decide +kernel
abbrev cJ1_canEncode_fc78d : ByteArray := prog_17_method_3_code
def yJ1_canEncode_fc78d : MethodName := ⟨RJ1, "canEncode", "(C)Z"⟩
abbrev cJ1_equals_b5fdf : ByteArray := prog_17_method_13_code
def yJ1_equals_b5fdf : MethodName := ⟨RJ1, "equals", "([B[B)Z"⟩
abbrev cJ1_fillNull_b72d1 : ByteArray := prog_17_method_48_code
def yJ1_fillNull_b72d1 : MethodName := ⟨RJ1, "fillNull", "([BII)V"⟩
abbrev cJ1_inflate_0e8fd : ByteArray := prog_17_method_50_code
def yJ1_inflate_0e8fd : MethodName := ⟨RJ1, "inflate", "([BI[BII)V"⟩
def RJ2 : String := "java/lang/StringUTF16"
def TJ2 : u_T := fun k => match k with
  | _ => ("", "", "", false)
def tyJ2 : Nat → FieldType := fun k => match k with
  | _ => .int
abbrev wsJ20 : List Cond := u_ws RJ2 TJ2 0
theorem nmJ2 : ∀ a, a < 0 → ∀ b, b < 0 → a ≠ b → (TJ2 a).2.1 ≠ (TJ2 b).2.1 := by decide +kernel
theorem tyJ2_ok : ∀ k, k < 0 → parseFieldDescriptor (TJ2 k).2.2.1 = some (tyJ2 k) := by decide +kernel
abbrev cJ2_newBytesFor_77867 : ByteArray := prog_18_method_2_code
def yJ2_newBytesFor_77867 : MethodName := ⟨RJ2, "newBytesFor", "(I)[B"⟩
abbrev cJ2_newBytesLength_0f7a4 : ByteArray := prog_18_method_3_code
def yJ2_newBytesLength_0f7a4 : MethodName := ⟨RJ2, "newBytesLength", "(I)I"⟩
abbrev cJ2_putChar_b72d1 : ByteArray := prog_18_method_4_code
def yJ2_putChar_b72d1 : MethodName := ⟨RJ2, "putChar", "([BII)V"⟩
abbrev cJ2_getChar_3b067 : ByteArray := prog_18_method_5_code
def yJ2_getChar_3b067 : MethodName := ⟨RJ2, "getChar", "([BI)C"⟩
abbrev cJ2_length_9d52b : ByteArray := prog_18_method_6_code
def yJ2_length_9d52b : MethodName := ⟨RJ2, "length", "([B)I"⟩
abbrev cJ2_coderFromArrayLen_85cad : ByteArray := prog_18_method_15_code
def yJ2_coderFromArrayLen_85cad : MethodName := ⟨RJ2, "coderFromArrayLen", "([BI)B"⟩
abbrev cJ2_compress_39247 : ByteArray := prog_18_method_17_code
def yJ2_compress_39247 : MethodName := ⟨RJ2, "compress", "([BII)[B"⟩
abbrev cJ2_compress_5af95 : ByteArray := prog_18_method_22_code
def yJ2_compress_5af95 : MethodName := ⟨RJ2, "compress", "([BI[BII)I"⟩
abbrev cJ2_fillNull_b72d1 : ByteArray := prog_18_method_70_code
def yJ2_fillNull_b72d1 : MethodName := ⟨RJ2, "fillNull", "([BII)V"⟩
abbrev cJ2_putCharSB_b72d1 : ByteArray := prog_18_method_71_code
def yJ2_putCharSB_b72d1 : MethodName := ⟨RJ2, "putCharSB", "([BII)V"⟩
abbrev cJ2_inflate_0e8fd : ByteArray := prog_18_method_86_code
def yJ2_inflate_0e8fd : MethodName := ⟨RJ2, "inflate", "([BI[BII)V"⟩
abbrev cJ2_checkIndex_2214a : ByteArray := prog_18_method_91_code
def yJ2_checkIndex_2214a : MethodName := ⟨RJ2, "checkIndex", "(I[B)V"⟩
abbrev cJ2_checkBoundsOffCount_d044e : ByteArray := prog_18_method_94_code
def yJ2_checkBoundsOffCount_d044e : MethodName := ⟨RJ2, "checkBoundsOffCount", "(II[B)V"⟩
def RJ10 : String := "java/lang/System"
def TJ10 : u_T := fun k => match k with
  | _ => ("", "", "", false)
def tyJ10 : Nat → FieldType := fun k => match k with
  | _ => .int
abbrev wsJ100 : List Cond := u_ws RJ10 TJ10 0
theorem nmJ10 : ∀ a, a < 0 → ∀ b, b < 0 → a ≠ b → (TJ10 a).2.1 ≠ (TJ10 b).2.1 := by decide +kernel
theorem tyJ10_ok : ∀ k, k < 0 → parseFieldDescriptor (TJ10 k).2.2.1 = some (tyJ10 k) := by decide +kernel
def RJ7 : String := "java/util/Arrays"
def TJ7 : u_T := fun k => match k with
  | _ => ("", "", "", false)
def tyJ7 : Nat → FieldType := fun k => match k with
  | _ => .int
abbrev wsJ70 : List Cond := u_ws RJ7 TJ7 0
theorem nmJ7 : ∀ a, a < 0 → ∀ b, b < 0 → a ≠ b → (TJ7 a).2.1 ≠ (TJ7 b).2.1 := by decide +kernel
theorem tyJ7_ok : ∀ k, k < 0 → parseFieldDescriptor (TJ7 k).2.2.1 = some (tyJ7 k) := by decide +kernel
abbrev cJ7_rangeCheck_23922 : ByteArray := prog_20_method_30_code
def yJ7_rangeCheck_23922 : MethodName := ⟨RJ7, "rangeCheck", "(III)V"⟩
abbrev cJ7_fill_eb02e : ByteArray := prog_20_method_110_code
def yJ7_fill_eb02e : MethodName := ⟨RJ7, "fill", "([BIIB)V"⟩
abbrev cJ7_copyOf_9075b : ByteArray := prog_20_method_121_code
def yJ7_copyOf_9075b : MethodName := ⟨RJ7, "copyOf", "([BI)[B"⟩
abbrev cJ7_checkLength_df160 : ByteArray := prog_20_method_131_code
def yJ7_checkLength_df160 : MethodName := ⟨RJ7, "checkLength", "(II)V"⟩
abbrev cJ7_copyOfRange_39247 : ByteArray := prog_20_method_132_code
def yJ7_copyOfRange_39247 : MethodName := ⟨RJ7, "copyOfRange", "([BII)[B"⟩
abbrev cJ7_copyOfRangeByte_39247 : ByteArray := prog_20_method_133_code
def yJ7_copyOfRangeByte_39247 : MethodName := ⟨RJ7, "copyOfRangeByte", "([BII)[B"⟩
def RJ8 : String := "jdk/internal/util/ArraysSupport"
def TJ8 : u_T := fun k => match k with
  | _ => ("", "", "", false)
def tyJ8 : Nat → FieldType := fun k => match k with
  | _ => .int
abbrev wsJ80 : List Cond := u_ws RJ8 TJ8 0
theorem nmJ8 : ∀ a, a < 0 → ∀ b, b < 0 → a ≠ b → (TJ8 a).2.1 ≠ (TJ8 b).2.1 := by decide +kernel
theorem tyJ8_ok : ∀ k, k < 0 → parseFieldDescriptor (TJ8 k).2.2.1 = some (tyJ8 k) := by decide +kernel
abbrev cJ8_newLength_cabcc : ByteArray := prog_21_method_27_code
def yJ8_newLength_cabcc : MethodName := ⟨RJ8, "newLength", "(III)I"⟩
abbrev cJ8_hugeLength_7cf53 : ByteArray := prog_21_method_28_code
def yJ8_hugeLength_7cf53 : MethodName := ⟨RJ8, "hugeLength", "(II)I"⟩
def RJ3 : String := "jdk/internal/util/Preconditions"
def TJ3 : u_T := fun k => match k with
  | _ => ("", "", "", false)
def tyJ3 : Nat → FieldType := fun k => match k with
  | _ => .int
abbrev wsJ30 : List Cond := u_ws RJ3 TJ3 0
theorem nmJ3 : ∀ a, a < 0 → ∀ b, b < 0 → a ≠ b → (TJ3 a).2.1 ≠ (TJ3 b).2.1 := by decide +kernel
theorem tyJ3_ok : ∀ k, k < 0 → parseFieldDescriptor (TJ3 k).2.2.1 = some (tyJ3 k) := by decide +kernel
abbrev cJ3_checkIndex_8e157 : ByteArray := prog_22_method_11_code
def yJ3_checkIndex_8e157 : MethodName := ⟨RJ3, "checkIndex", "(IILjava/util/function/BiFunction;)I"⟩
abbrev cJ3_checkFromIndexSize_8c36e : ByteArray := prog_22_method_13_code
def yJ3_checkFromIndexSize_8c36e : MethodName := ⟨RJ3, "checkFromIndexSize", "(IIILjava/util/function/BiFunction;)I"⟩
def RL : String := "RecordBenchLaw"
abbrev cL_law : ByteArray := code
def yL_law : MethodName := ⟨RL, "law", "([I)Z"⟩
abbrev vwCl : List vw_C := [(RJ0, TJ0, 4), (RJ4, TJ4, 4), (RX0, TX0, 7), (RX1, TX1, 2), (RX2, TX2, 8), (RX3, TX3, 4), (RX4, TX4, 3), (RX5, TX5, 2), (RX6, TX6, 6), (RX7, TX7, 2), (RX8, TX8, 12), (RX9, TX9, 60)]
end
section
/-- what is said of String's switch for compact texts -/
def cz (A : Nat → Prop) (U : State) (H : Heap) : Prop := va_Z "java/lang/String" "COMPACT_STRINGS" "Z" (.int 1) A U H
/-- links to nest mates, and the arrays of references that may be made -/
def NX (U : State) : Prop := va_Nw (.methodLinkNest RX3 21 yX2_init "RecordBench") U ∧ va_Nw (.methodLinkNest RX4 21 yX2_init "RecordBench") U ∧ va_Nw (.methodLinkNest RX6 38 yX1_init "RecordBench") U ∧ va_AO RX5 U ∧ va_AO RX1 U ∧ va_AO RX2 U ∧ va_AO RX0 U
theorem NX.warm {s U : State} (hW : s.WarmedH U.vm) (h : NX s) : NX U :=
  ⟨va_Nw.warmM hW h.1, va_Nw.warmM hW h.2.1, va_Nw.warmM hW h.2.2.1, va_AO.moved hW.alike h.2.2.2.1, va_AO.moved hW.alike h.2.2.2.2.1, va_AO.moved hW.alike h.2.2.2.2.2.1, va_AO.moved hW.alike h.2.2.2.2.2.2⟩
theorem NX.same {s U : State} (hv : s.vm = U.vm) (h : NX s) : NX U :=
  ⟨va_Nw.same rfl hv h.1, va_Nw.same rfl hv h.2.1, va_Nw.same rfl hv h.2.2.1, va_AO.moved (hv ▸ Vm.Alike.refl s.vm) h.2.2.2.1, va_AO.moved (hv ▸ Vm.Alike.refl s.vm) h.2.2.2.2.1, va_AO.moved (hv ▸ Vm.Alike.refl s.vm) h.2.2.2.2.2.1, va_AO.moved (hv ▸ Vm.Alike.refl s.vm) h.2.2.2.2.2.2⟩
/-- a method's start: the world, the tables, the links -/
def Pr (D : va_G) (tys : List (ClassId × FieldType)) (w0 : va_W) (sz : Nat) (U : State) : Prop := U.heap.size = sz ∧ va_P D vwCl w0 U.heap ∧ va_K D vwCl tys U ∧ va_D (fun _ => True) w0 ∧ NX U ∧ cz (va_A w0 sz) U U.heap
theorem Pr.blind {D : va_G} {tys : List (ClassId × FieldType)} {w0 : va_W} {sz : Nat} (av : List Value) : FrameBlind (va_Pc av (Pr D tys w0 sz)) := by
  intro a U g mk q
  obtain ⟨q0, q1, qP, qK, qD, qN, qZ⟩ := q
  exact ⟨q0, q1, qP, va_K.moved (u := U) (U := U.calling g mk a) (Vm.Alike.refl U.vm) qK, qD, NX.same (s := U) (U := U.calling g mk a) rfl qN, va_Z.moved (u := U) (U := U.calling g mk a) (Vm.Alike.refl U.vm) qZ⟩
theorem Pr.at {D : va_G} {tys : List (ClassId × FieldType)} {w0 : va_W} {s U : State} {H : Heap} {A A0 : Nat → Prop} {locs : List Loc} (hP : va_P D vwCl w0 H) (hK : va_K D vwCl tys s) (hD : va_D A w0) (hN : NX s) (hZ : cz A0 s s.heap) (hS : va_S A0 s.heap H locs) (hF : ∀ q, va_A w0 H.size q → A0 q) (hU : U.heap = H) (hW : s.WarmedH U.vm) : Pr D tys w0 H.size U := by
  refine ⟨by rw [hU], by rw [hU]; exact hP, va_K.moved hW.alike hK, hD.weaken (fun _ _ _ _ => trivial), NX.warm hW hN, ?_⟩
  rw [hU]
  exact va_Z.narrow (va_Z.kept (va_Z.moved hW.alike hZ) hS.2.1) hF
/-- a method's end: the world behind it -/
abbrev Bq {S : Type} (D : va_G) (w : S → va_W) (ty : S → List (ClassId × FieldType)) (A : Nat → Prop) (u : S) (t : State) : Prop := va_P D vwCl (w u) t.heap ∧ va_K D vwCl (ty u) t ∧ va_D A (w u)
theorem Bq.join {S : Type} {D : va_G} {w : S → va_W} {ty : S → List (ClassId × FieldType)} {u : S} {t s : State} {A0 : Nat → Prop} {ws wc wr : va_W} {tys : List (ClassId × FieldType)} {H H1 : Heap} (hB : Bq D w ty (va_A wc H.size) u t) (ht : t.heap = H1) (hvm : s.vm.Alike t.vm) (hP : va_P D vwCl ws H) (hD : va_D A0 ws) (isC isR : List Nat) (hC : isC.map (fun i => ws[i]?) = wc.map some) (hR : isR.map (fun i => ws[i]?) = wr.map some) (hn : va_nd isR = true) (hdis : ∀ i ∈ isR, i ∉ isC)
    (hk : ∀ q : Nat, q < H.size → ¬ va_A wc H.size q → H1[q]? = H[q]?) (hF : ∀ q, va_A wc H.size q → A0 q) (hK : va_K D vwCl tys s) : va_P D vwCl (wr ++ w u) H1 ∧ va_D A0 (wr ++ w u) ∧ va_K D vwCl (tys ++ ty u) s := by
  obtain ⟨hP1, hK1, hD1⟩ := hB
  rw [ht] at hP1
  obtain ⟨h1, h2⟩ := va_join hP hD isC isR hC hR hn hdis hk hF hP1 hD1
  exact ⟨h1, h2, hK.app (va_K.moved hvm.symm hK1)⟩
/-- two ways that come together: the rest is walked once -/
theorem W_join {α : Type} {p : Program} {l : Launch} {e : Env} {R : Room} {s : State} {m : MethodId} {args : Array Value} {below : List Frame} {meth : Method} {c : Code} {H : Heap} {locs : List Loc} {cells slots : Nat} {Q : State → Prop} {at' pc nL : Nat} {ls0 : Array Slot} {st st0 : List Value} (lv : α → List (Nat × Value))
    (k : ∀ (g : α) (ls : Array Slot), lv_has ls nL (lv g) → W p l e R s m args below meth c H locs cells slots Q (F0 m at' ls st))
    (b : (∀ (g : α) (ls : Array Slot), lv_has ls nL (lv g) → W p l e R s m args below meth c H locs cells slots Q (F0 m at' ls st)) → W p l e R s m args below meth c H locs cells slots Q (F0 m pc ls0 st0)) : W p l e R s m args below meth c H locs cells slots Q (F0 m pc ls0 st0) := b k
theorem W_toi {p : Program} {l : Launch} {e : Env} {R : Room} {s : State} {m : MethodId} {args : Array Value} {below : List Frame} {meth : Method} {c : Code} {H : Heap} {locs : List Loc} {cells slots : Nat} {Q : State → Prop} {pc : Nat} {ls : Array Slot} {rest : List Value} {x y : Int32} (h : x = y) (k : W p l e R s m args below meth c H locs cells slots Q (F0 m pc ls (.int y :: rest))) : W p l e R s m args below meth c H locs cells slots Q (F0 m pc ls (.int x :: rest)) := h ▸ k
theorem W_tol {p : Program} {l : Launch} {e : Env} {R : Room} {s : State} {m : MethodId} {args : Array Value} {below : List Frame} {meth : Method} {c : Code} {H : Heap} {locs : List Loc} {cells slots : Nat} {Q : State → Prop} {pc : Nat} {ls : Array Slot} {rest : List Value} {x y : Int64} (h : x = y) (k : W p l e R s m args below meth c H locs cells slots Q (F0 m pc ls (.long y :: rest))) : W p l e R s m args below meth c H locs cells slots Q (F0 m pc ls (.long x :: rest)) := h ▸ k
theorem nb4 {k : Nat} (h : k ≤ 400) : k * componentBytes .int ≤ 536870912 := by
  have e4 : componentBytes .int = 4 := rfl
  rw [e4]
  omega
theorem rf_or (o : Option Nat) : va_rf o = .null ∨ ∃ a, va_rf o = .ref a := by
  cases o with
  | none => exact Or.inl rfl
  | some a => exact Or.inr ⟨a, rfl⟩
theorem in_of {x : Int32} (n : Nat) {N : Int32} (hN : nI n = N) (hn : n < 2 ^ 31) (h1 : ¬ x < 0) (h2 : ¬ N ≤ x) : vp_in x n := by
  subst hN
  obtain ⟨j, hj, rfl⟩ := nI_of h1
  rcases Nat.lt_or_ge j n with h | h
  · exact vp_in_nI h hn
  · exact absurd (nI_le h hj) h2
theorem rec4 {x : Int32} {f : Nat → Option Nat} {a b c d : Nat} (h : vp_in x 4) (h0 : f 0 = some a) (h1 : f 1 = some b) (h2 : f 2 = some c) (h3 : f 3 = some d) : f x.toNatClampNeg = some a ∨ f x.toNatClampNeg = some b ∨ f x.toNatClampNeg = some c ∨ f x.toNatClampNeg = some d := by
  obtain ⟨j, hj, rfl⟩ := vp_in_of h (by decide)
  rw [nI_clamp (by omega)]
  rcases (show j = 0 ∨ j = 1 ∨ j = 2 ∨ j = 3 by omega) with rfl | rfl | rfl | rfl
  · exact Or.inl h0
  · exact Or.inr (Or.inl h1)
  · exact Or.inr (Or.inr (Or.inl h2))
  · exact Or.inr (Or.inr (Or.inr h3))
theorem nlt0 {x : Int32} (h : ¬ x < 0) : 0 ≤ x := Int32.not_lt.mp h
theorem in_mn {x : Int32} (h : vp_in x 8) (n : Nat) (hn : n < 31) : vp_in (31 * x + nI n) 248 := by
  obtain ⟨j, hj, rfl⟩ := vp_in_of h (by decide)
  show vp_in (nI 31 * nI j + nI n) 248
  rw [pk_mul, nI_add]
  exact vp_in_nI (by omega) (by decide)
set_option maxRecDepth 20000 in
theorem fsJ4_ok : ∀ j, j < 4 → defaultValue (tyJ4 j) = vp_V [.null, .int 0, .int 0, .int 0] j := fun j hj => by
  rcases (show j = 0 ∨ j = 1 ∨ j = 2 ∨ j = 3 by omega) with rfl | rfl | rfl | rfl <;> rfl
set_option maxRecDepth 20000 in
theorem fsX0_ok : ∀ j, j < 7 → defaultValue (tyX0 j) = vp_V [.int 0, .int 0, .int 0, .int 0, .null, .null, .long 0] j := fun j hj => by
  rcases (show j = 0 ∨ j = 1 ∨ j = 2 ∨ j = 3 ∨ j = 4 ∨ j = 5 ∨ j = 6 by omega) with rfl | rfl | rfl | rfl | rfl | rfl | rfl <;> rfl
set_option maxRecDepth 20000 in
theorem fsX1_ok : ∀ j, j < 2 → defaultValue (tyX1 j) = vp_V [.null, .int 0] j := fun j hj => by
  rcases (show j = 0 ∨ j = 1 by omega) with rfl | rfl <;> rfl
set_option maxRecDepth 20000 in
theorem fsX2_ok : ∀ j, j < 8 → defaultValue (tyX2 j) = vp_V [.int 0, .int 0, .long 0, .int 0, .int 0, .int 0, .int 0, .int 0] j := fun j hj => by
  rcases (show j = 0 ∨ j = 1 ∨ j = 2 ∨ j = 3 ∨ j = 4 ∨ j = 5 ∨ j = 6 ∨ j = 7 by omega) with rfl | rfl | rfl | rfl | rfl | rfl | rfl | rfl <;> rfl
set_option maxRecDepth 20000 in
theorem fsX3_ok : ∀ j, j < 4 → defaultValue (tyX3 j) = vp_V [.null, .null, .int 0, .int 0] j := fun j hj => by
  rcases (show j = 0 ∨ j = 1 ∨ j = 2 ∨ j = 3 by omega) with rfl | rfl | rfl | rfl <;> rfl
set_option maxRecDepth 20000 in
theorem fsX4_ok : ∀ j, j < 3 → defaultValue (tyX4 j) = vp_V [.null, .null, .null] j := fun j hj => by
  rcases (show j = 0 ∨ j = 1 ∨ j = 2 by omega) with rfl | rfl | rfl <;> rfl
set_option maxRecDepth 20000 in
theorem fsX5_ok : ∀ j, j < 2 → defaultValue (tyX5 j) = vp_V [.null, .int 0] j := fun j hj => by
  rcases (show j = 0 ∨ j = 1 by omega) with rfl | rfl <;> rfl
set_option maxRecDepth 20000 in
theorem fsX6_ok : ∀ j, j < 6 → defaultValue (tyX6 j) = vp_V [.null, .null, .null, .int 0, .int 0, .int 0] j := fun j hj => by
  rcases (show j = 0 ∨ j = 1 ∨ j = 2 ∨ j = 3 ∨ j = 4 ∨ j = 5 by omega) with rfl | rfl | rfl | rfl | rfl | rfl <;> rfl
set_option maxRecDepth 20000 in
theorem fsX7_ok : ∀ j, j < 2 → defaultValue (tyX7 j) = vp_V [.null, .null] j := fun j hj => by
  rcases (show j = 0 ∨ j = 1 by omega) with rfl | rfl <;> rfl
set_option maxRecDepth 20000 in
theorem fsX8_ok : ∀ j, j < 12 → defaultValue (tyX8 j) = vp_V [.null, .null, .null, .null, .null, .null, .null, .null, .null, .int 0, .int 0, .int 0] j := fun j hj => by
  rcases (show j = 0 ∨ j = 1 ∨ j = 2 ∨ j = 3 ∨ j = 4 ∨ j = 5 ∨ j = 6 ∨ j = 7 ∨ j = 8 ∨ j = 9 ∨ j = 10 ∨ j = 11 by omega) with rfl | rfl | rfl | rfl | rfl | rfl | rfl | rfl | rfl | rfl | rfl | rfl <;> rfl
set_option maxRecDepth 20000 in
theorem fsX9_ok : ∀ j, j < 60 → defaultValue (tyX9 j) = vp_V [.null, .null, .null, .null, .null, .null, .null, .null, .null, .null, .int 0, .int 0, .int 0, .int 0, .int 0, .int 0, .int 0, .int 0, .int 0, .long 0, .long 0, .long 0, .long 0, .long 0, .long 0, .long 0, .long 0, .int 0, .null, .null, .null, .long 0, .int 0, .int 0, .int 0, .int 0, .int 0, .long 0, .int 0, .int 0, .int 0, .int 0, .null, .null, .null, .null, .null, .null, .null, .null, .null, .null, .null, .null, .null, .null, .int 0, .null, .null, .int 0] j := fun j hj => by
  rcases (show j = 0 ∨ j = 1 ∨ j = 2 ∨ j = 3 ∨ j = 4 ∨ j = 5 ∨ j = 6 ∨ j = 7 ∨ j = 8 ∨ j = 9 ∨ j = 10 ∨ j = 11 ∨ j = 12 ∨ j = 13 ∨ j = 14 ∨ j = 15 ∨ j = 16 ∨ j = 17 ∨ j = 18 ∨ j = 19 ∨ j = 20 ∨ j = 21 ∨ j = 22 ∨ j = 23 ∨ j = 24 ∨ j = 25 ∨ j = 26 ∨ j = 27 ∨ j = 28 ∨ j = 29 ∨ j = 30 ∨ j = 31 ∨ j = 32 ∨ j = 33 ∨ j = 34 ∨ j = 35 ∨ j = 36 ∨ j = 37 ∨ j = 38 ∨ j = 39 ∨ j = 40 ∨ j = 41 ∨ j = 42 ∨ j = 43 ∨ j = 44 ∨ j = 45 ∨ j = 46 ∨ j = 47 ∨ j = 48 ∨ j = 49 ∨ j = 50 ∨ j = 51 ∨ j = 52 ∨ j = 53 ∨ j = 54 ∨ j = 55 ∨ j = 56 ∨ j = 57 ∨ j = 58 ∨ j = 59 by omega) with rfl | rfl | rfl | rfl | rfl | rfl | rfl | rfl | rfl | rfl | rfl | rfl | rfl | rfl | rfl | rfl | rfl | rfl | rfl | rfl | rfl | rfl | rfl | rfl | rfl | rfl | rfl | rfl | rfl | rfl | rfl | rfl | rfl | rfl | rfl | rfl | rfl | rfl | rfl | rfl | rfl | rfl | rfl | rfl | rfl | rfl | rfl | rfl | rfl | rfl | rfl | rfl | rfl | rfl | rfl | rfl | rfl | rfl | rfl | rfl <;> rfl
end
section
theorem dX5_become_0 : decode cX5_become 0 = .ok (.iconst 0, 1) := by decide +kernel
theorem dX5_become_1 : decode cX5_become 1 = .ok (.istore 4, 2) := by decide +kernel
theorem dX5_become_3 : decode cX5_become 3 = .ok (.iload_n 2, 1) := by decide +kernel
theorem dX5_become_4 : decode cX5_become 4 = .ok (.istore 5, 2) := by decide +kernel
theorem dX5_become_48 : decode cX5_become 48 = .ok (.aload_n 0, 1) := by decide +kernel
theorem dX5_become_49 : decode cX5_become 49 = .ok (.iload 4, 2) := by decide +kernel
theorem dX5_become_51 : decode cX5_become 51 = .ok (.putfield 21, 3) := by decide +kernel
theorem dX5_become_54 : decode cX5_become 54 = .ok (.return_, 1) := by decide +kernel
theorem dX5_become_6 : decode cX5_become 6 = .ok (.iload 5, 2) := by decide +kernel
theorem dX5_become_8 : decode cX5_become 8 = .ok (.iload_n 3, 1) := by decide +kernel
theorem dX5_become_9 : decode cX5_become 9 = .ok (.if_icmp .ge 39, 3) := by decide +kernel
theorem dX5_byteAt_0 : decode cX5_byteAt 0 = .ok (.iload_n 1, 1) := by decide +kernel
theorem dX5_byteAt_1 : decode cX5_byteAt 1 = .ok (.ifCond .lt 20, 3) := by decide +kernel
theorem dX5_byteAt_21 : decode cX5_byteAt 21 = .ok (.iconst (-1), 1) := by decide +kernel
theorem dX5_byteAt_22 : decode cX5_byteAt 22 = .ok (.ireturn, 1) := by decide +kernel
theorem dX5_byteAt_4 : decode cX5_byteAt 4 = .ok (.iload_n 1, 1) := by decide +kernel
theorem dX5_byteAt_5 : decode cX5_byteAt 5 = .ok (.aload_n 0, 1) := by decide +kernel
theorem dX5_byteAt_6 : decode cX5_byteAt 6 = .ok (.getfield 21, 3) := by decide +kernel
theorem dX5_byteAt_9 : decode cX5_byteAt 9 = .ok (.if_icmp .ge 12, 3) := by decide +kernel
theorem dX5_cut_0 : decode cX5_cut 0 = .ok (.iload_n 1, 1) := by decide +kernel
theorem dX5_cut_1 : decode cX5_cut 1 = .ok (.ifCond .lt 11, 3) := by decide +kernel
theorem dX5_cut_12 : decode cX5_cut 12 = .ok (.iconst 0, 1) := by decide +kernel
theorem dX5_cut_13 : decode cX5_cut 13 = .ok (.ireturn, 1) := by decide +kernel
theorem dX5_cut_14 : decode cX5_cut 14 = .ok (.aload_n 0, 1) := by decide +kernel
theorem dX5_cut_15 : decode cX5_cut 15 = .ok (.iload_n 1, 1) := by decide +kernel
theorem dX5_cut_16 : decode cX5_cut 16 = .ok (.putfield 21, 3) := by decide +kernel
theorem dX5_cut_19 : decode cX5_cut 19 = .ok (.iconst 1, 1) := by decide +kernel
theorem dX5_cut_20 : decode cX5_cut 20 = .ok (.ireturn, 1) := by decide +kernel
theorem dX5_cut_4 : decode cX5_cut 4 = .ok (.iload_n 1, 1) := by decide +kernel
theorem dX5_cut_5 : decode cX5_cut 5 = .ok (.aload_n 0, 1) := by decide +kernel
theorem dX5_cut_6 : decode cX5_cut 6 = .ok (.getfield 21, 3) := by decide +kernel
theorem dX5_cut_9 : decode cX5_cut 9 = .ok (.if_icmp .le 5, 3) := by decide +kernel
theorem dX5_init_0 : decode cX5_init 0 = .ok (.aload_n 0, 1) := by decide +kernel
theorem dX5_init_1 : decode cX5_init 1 = .ok (.invokespecial 3, 3) := by decide +kernel
theorem dX5_init_10 : decode cX5_init 10 = .ok (.newarray .int, 2) := by decide +kernel
theorem dX5_init_12 : decode cX5_init 12 = .ok (.putfield 15, 3) := by decide +kernel
theorem dX5_init_15 : decode cX5_init 15 = .ok (.aload_n 0, 1) := by decide +kernel
theorem dX5_init_16 : decode cX5_init 16 = .ok (.iconst 0, 1) := by decide +kernel
theorem dX5_init_17 : decode cX5_init 17 = .ok (.putfield 21, 3) := by decide +kernel
theorem dX5_init_20 : decode cX5_init 20 = .ok (.return_, 1) := by decide +kernel
theorem dX5_init_4 : decode cX5_init 4 = .ok (.aload_n 0, 1) := by decide +kernel
theorem dX5_init_5 : decode cX5_init 5 = .ok (.iload_n 1, 1) := by decide +kernel
theorem dX5_init_6 : decode cX5_init 6 = .ok (.iconst 0, 1) := by decide +kernel
theorem dX5_init_7 : decode cX5_init 7 = .ok (.invokestatic 9, 3) := by decide +kernel
theorem dX5_pushWord_0 : decode cX5_pushWord 0 = .ok (.aload_n 0, 1) := by decide +kernel
theorem dX5_pushWord_1 : decode cX5_pushWord 1 = .ok (.iload_n 1, 1) := by decide +kernel
theorem dX5_pushWord_10 : decode cX5_pushWord 10 = .ok (.bipush 16, 2) := by decide +kernel
theorem dX5_pushWord_12 : decode cX5_pushWord 12 = .ok (.iushr, 1) := by decide +kernel
theorem dX5_pushWord_13 : decode cX5_pushWord 13 = .ok (.invokevirtual 25, 3) := by decide +kernel
theorem dX5_pushWord_16 : decode cX5_pushWord 16 = .ok (.aload_n 0, 1) := by decide +kernel
theorem dX5_pushWord_17 : decode cX5_pushWord 17 = .ok (.iload_n 1, 1) := by decide +kernel
theorem dX5_pushWord_18 : decode cX5_pushWord 18 = .ok (.bipush 8, 2) := by decide +kernel
theorem dX5_pushWord_2 : decode cX5_pushWord 2 = .ok (.bipush 24, 2) := by decide +kernel
theorem dX5_pushWord_20 : decode cX5_pushWord 20 = .ok (.iushr, 1) := by decide +kernel
theorem dX5_pushWord_21 : decode cX5_pushWord 21 = .ok (.invokevirtual 25, 3) := by decide +kernel
theorem dX5_pushWord_24 : decode cX5_pushWord 24 = .ok (.aload_n 0, 1) := by decide +kernel
theorem dX5_pushWord_25 : decode cX5_pushWord 25 = .ok (.iload_n 1, 1) := by decide +kernel
theorem dX5_pushWord_26 : decode cX5_pushWord 26 = .ok (.invokevirtual 25, 3) := by decide +kernel
theorem dX5_pushWord_29 : decode cX5_pushWord 29 = .ok (.return_, 1) := by decide +kernel
theorem dX5_pushWord_4 : decode cX5_pushWord 4 = .ok (.iushr, 1) := by decide +kernel
theorem dX5_pushWord_5 : decode cX5_pushWord 5 = .ok (.invokevirtual 25, 3) := by decide +kernel
theorem dX5_pushWord_8 : decode cX5_pushWord 8 = .ok (.aload_n 0, 1) := by decide +kernel
theorem dX5_pushWord_9 : decode cX5_pushWord 9 = .ok (.iload_n 1, 1) := by decide +kernel
theorem dX5_push_0 : decode cX5_push 0 = .ok (.aload_n 0, 1) := by decide +kernel
theorem dX5_push_1 : decode cX5_push 1 = .ok (.getfield 21, 3) := by decide +kernel
theorem dX5_push_12 : decode cX5_push 12 = .ok (.aload_n 0, 1) := by decide +kernel
theorem dX5_push_13 : decode cX5_push 13 = .ok (.getfield 15, 3) := by decide +kernel
theorem dX5_push_16 : decode cX5_push 16 = .ok (.aload_n 0, 1) := by decide +kernel
theorem dX5_push_17 : decode cX5_push 17 = .ok (.getfield 21, 3) := by decide +kernel
theorem dX5_push_20 : decode cX5_push 20 = .ok (.iload_n 1, 1) := by decide +kernel
theorem dX5_push_21 : decode cX5_push 21 = .ok (.sipush 255, 3) := by decide +kernel
theorem dX5_push_24 : decode cX5_push 24 = .ok (.iand, 1) := by decide +kernel
theorem dX5_push_25 : decode cX5_push 25 = .ok (.iastore, 1) := by decide +kernel
theorem dX5_push_26 : decode cX5_push 26 = .ok (.aload_n 0, 1) := by decide +kernel
theorem dX5_push_27 : decode cX5_push 27 = .ok (.dup, 1) := by decide +kernel
theorem dX5_push_28 : decode cX5_push 28 = .ok (.getfield 21, 3) := by decide +kernel
theorem dX5_push_31 : decode cX5_push 31 = .ok (.iconst 1, 1) := by decide +kernel
theorem dX5_push_32 : decode cX5_push 32 = .ok (.iadd, 1) := by decide +kernel
theorem dX5_push_33 : decode cX5_push 33 = .ok (.putfield 21, 3) := by decide +kernel
theorem dX5_push_36 : decode cX5_push 36 = .ok (.return_, 1) := by decide +kernel
theorem dX5_push_4 : decode cX5_push 4 = .ok (.aload_n 0, 1) := by decide +kernel
theorem dX5_push_5 : decode cX5_push 5 = .ok (.getfield 15, 3) := by decide +kernel
theorem dX5_push_8 : decode cX5_push 8 = .ok (.arraylength, 1) := by decide +kernel
theorem dX5_push_9 : decode cX5_push 9 = .ok (.if_icmp .ge 27, 3) := by decide +kernel
theorem dX5_size_0 : decode cX5_size 0 = .ok (.aload_n 0, 1) := by decide +kernel
theorem dX5_size_1 : decode cX5_size 1 = .ok (.getfield 21, 3) := by decide +kernel
theorem dX5_size_4 : decode cX5_size 4 = .ok (.ireturn, 1) := by decide +kernel
def wp_X5_init : List Cond := .code yX5_init cX5_init 2 none :: ([.methodLink RX5 3 objectInit, .instanceMethod objectInit, .code objectInit ⟨#[0xb1]⟩ 1 none, .methodLink RX5 9 Lib.Math.max.name, .static Lib.Math.max.name, .initialized "java/lang/Math", .code Lib.Math.max.name Lib.Math.max.code 2 (some .int), .arrayClass .int, .fieldLink RX5 15 "RecordBench$Row" "bytes" "[I", .fieldLink RX5 21 "RecordBench$Row" "size" "I"] ++ wsX50)
set_option maxHeartbeats 4000000 in
set_option maxRecDepth 100000 in
theorem c_X5_init (l : Launch) (dC : Nat → ClassId) (dI : Nat → Nat → Nat) (h0 : Nat) (p0 : Int32) (k : Nat) (hp : ¬ p0 < 0) (hk : p0.toNatClampNeg = k) (hk4 : k ≤ 400) (sz : Nat) : Met l yX5_init wp_X5_init ({ frames := 1, cells := 1, slots := k, locals := 18 }) (va_Pc [.ref h0, .int p0] (Pr (dC, dI) [] [(h0, .inr (7, [.null, .int 0]))] sz)) (va_Qv (fun (u : Nat × ClassId) => match u with | (q, cA) => True) (Bq (dC, dI) (fun (u : Nat × ClassId) => match u with | (q, cA) => [(h0, .inr (7, [.ref q, .int 0])), (q, .inl (cA, k, .inl (fun _ => 0)))]) (fun (u : Nat × ClassId) => match u with | (q, cA) => [(cA, .int)]) (va_A [(h0, .inr (7, [.null, .int 0]))] sz)) (va_A [(h0, .inr (7, [.null, .int 0]))] sz)) 1 k (va_A [(h0, .inr (7, [.null, .int 0]))] sz) := by
  refine Met.ofW (cc := cX5_init) (maxL := 2) (ret := none) (by decide) rfl ?_
  intro p e s m args below meth c s₁ B hml hv
  obtain ⟨rfl, hsz, hP, hK, hD0, hN, hZ⟩ := hv
  have hx := B.exec
  have hb := B.bytes
  have hr := B.returns
  have hts := atoms_spec (ws := wp_X5_init) B.pre
  have hown : s.vm.findClass RX5 = some m.cls := findClass_of_methodNamed B.named
  have hlocks := B.notSynchronized
  have hin : meth.name = "<init>" := (name_of_methodNamed B.named B.method).1
  have iRX5 : ∀ w ∈ u_ws RX5 TX5 2, w ∈ wp_X5_init := by decide +kernel
  subst hsz
  have hD := hD0.self (sz := s.heap.size)
  generalize hAe : va_A [(h0, .inr (7, [.null, .int 0]))] s.heap.size = A at hD hZ ⊢
  have hA : ∀ q : Nat, s.heap.size ≤ q → A q := fun q h => by rw [← hAe]; exact Or.inr h
  have hS : va_S A s.heap s.heap [] := va_S.rf
  have hP : va_P (dC, dI) vwCl [(h0, .inr (7, [.null, .int 0]))] s.heap := hP
  have hl := lv_entry ([.ref h0, .int p0]) (n := 2) (Nat.le_of_ble_eq_true rfl)
  rw [lg_entry_eq]
  generalize (lg_sl ([.ref h0, .int p0]) ++ List.replicate (2 - (lg_sl ([.ref h0, .int p0])).length) Slot.unset).toArray = ls at hl ⊢
  have hl : lv_has ls 2 [(0, .ref h0), (1, .int p0)] := hl
  refine lv_aload_n hx hb dX5_init_0 rfl (lv_at hl 0 rfl) ?_
  refine W.objInit hx hb hown (hts (.methodLink RX5 3 objectInit) (by decide +kernel)) (hts (.instanceMethod objectInit) (by decide +kernel)) (hts (.code objectInit ⟨#[0xb1]⟩ 1 none) (by decide +kernel)) rfl (by rw [hml]; exact hl.1) rfl dX5_init_1 (Nat.le_of_ble_eq_true rfl) (Nat.le_of_ble_eq_true rfl) ?_
  refine W.eq (g2 := F0 m 4 ls []) rfl ?_
  refine lv_aload_n hx hb dX5_init_4 rfl (lv_at hl 0 rfl) ?_
  refine lv_iload_n hx hb dX5_init_5 rfl (lv_at hl 1 rfl) ?_
  refine lv_iconst (v := 0) hx hb dX5_init_6 (by decide) ?_
  refine va_mmax hx hb (by rw [hml]; exact hl.1.symm) hown (hts (.methodLink RX5 9 Lib.Math.max.name) (by decide +kernel)) (hts (.static Lib.Math.max.name) (by decide +kernel)) (hts (.initialized "java/lang/Math") (by decide +kernel)) (hts (.code Lib.Math.max.name Lib.Math.max.code 2 (some .int)) (by decide +kernel)) (Nat.le_of_ble_eq_true rfl) (Nat.le_of_ble_eq_true rfl) (Nat.zero_le _) (Nat.zero_le _) dX5_init_7 ?_
  refine W_toi (y := p0) (by rw [if_neg hp]) ?_
  refine va_newa (atype := .int) (ty := .int) (a0 := (k, .inl (fun _ => 0))) hx hb (hts (.arrayClass .int) (by decide +kernel)) rfl hK hP hD hS hA (fun _ => rfl) hp hk (nb4 hk4) (Nat.le_of_ble_eq_true rfl) (by show 0 + k ≤ k; omega) dX5_init_10 (fun q_1 cA_2 H hK hP hD hS => ?_)
  have hP : va_P (dC, dI) vwCl [(h0, .inr (7, [.null, .int 0])), (q_1, .inl (cA_2, k, .inl (fun _ => 0)))] H := hP
  have hD : va_D A [(h0, .inr (7, [.null, .int 0])), (q_1, .inl (cA_2, k, .inl (fun _ => 0)))] := hD
  have hK : va_K (dC, dI) vwCl [(cA_2, .int)] s := hK
  refine W.widen (k := 1) (n := k) (by omega) (by omega) ?_
  refine va_putF (D := (dC, dI)) (ci := 7) (v := .ref q_1) (ty := (.array .int)) (C := RX5) (T := TX5) (N := 2) hx hb hts iRX5 tyX5 tyX5_ok nmX5 hown hK hP hD hS 0 rfl rfl 0 (by decide) (hts (.fieldLink RX5 15 "RecordBench$Row" "bytes" "[I") (by decide +kernel)) (fun _ h9 => h9) rfl hin rfl (by decide +kernel) rfl rfl (Nat.le_of_ble_eq_true rfl) dX5_init_12 (fun H locs hP hD hS => ?_)
  have hP : va_P (dC, dI) vwCl [(h0, .inr (7, [.ref q_1, .int 0])), (q_1, .inl (cA_2, k, .inl (fun _ => 0)))] H := hP
  have hD : va_D A [(h0, .inr (7, [.ref q_1, .int 0])), (q_1, .inl (cA_2, k, .inl (fun _ => 0)))] := hD
  refine lv_aload_n hx hb dX5_init_15 rfl (lv_at hl 0 rfl) ?_
  refine lv_iconst (v := 0) hx hb dX5_init_16 (by decide) ?_
  refine va_put (D := (dC, dI)) (ci := 7) (v := .int 0) (ty := .int) (C := RX5) (T := TX5) (N := 2) hx hb hts iRX5 tyX5 tyX5_ok nmX5 hown hK hP hD hS 0 rfl rfl 1 (by decide) (hts (.fieldLink RX5 21 "RecordBench$Row" "size" "I") (by decide +kernel)) (fun _ h9 => h9) rfl (by decide +kernel) rfl rfl (Nat.le_of_ble_eq_true rfl) dX5_init_17 (fun H locs hP hD hS => ?_)
  have hP : va_P (dC, dI) vwCl [(h0, .inr (7, [.ref q_1, .int 0])), (q_1, .inl (cA_2, k, .inl (fun _ => 0)))] H := hP
  have hD : va_D A [(h0, .inr (7, [.ref q_1, .int 0])), (q_1, .inl (cA_2, k, .inl (fun _ => 0)))] := hD
  have hP9 := hP.sub (ws' := [(h0, .inr (7, [.ref q_1, .int 0])), (q_1, .inl (cA_2, k, .inl (fun _ => 0)))]) [0, 1] rfl
  have hD9 := hD.sub (ws' := [(h0, .inr (7, [.ref q_1, .int 0])), (q_1, .inl (cA_2, k, .inl (fun _ => 0)))]) [0, 1] (by decide) rfl
  have hK9 := hK.sub (tys' := [(cA_2, .int)]) [0] rfl
  exact W.vret hx hb hr (fun t ht hW => ⟨⟨(q_1, cA_2), rfl, trivial, by rw [ht]; exact hP9, va_K.moved hW.alike hK9, hD9⟩, hS.F ht⟩) hS.2.2 dX5_init_20
def wp_X5_size : List Cond := .code yX5_size cX5_size 1 (some .int) :: ([.fieldLink RX5 21 "RecordBench$Row" "size" "I"] ++ wsX50)
set_option maxHeartbeats 4000000 in
set_option maxRecDepth 100000 in
theorem c_X5_size (l : Launch) (dC : Nat → ClassId) (dI : Nat → Nat → Nat) (h0 : Nat) (b0 : Nat) (n0 : Int32) (sz : Nat) : Met l yX5_size wp_X5_size ({ frames := 0, cells := 0, slots := 0, locals := 0 }) (va_Pc [.ref h0] (Pr (dC, dI) [] [(h0, .inr (7, [.ref b0, .int n0]))] sz)) (va_Qi (fun r : Int32 => (fun _ : Unit => r = n0)) (Bq (dC, dI) (fun _ : Unit => [(h0, .inr (7, [.ref b0, .int n0]))]) (fun _ : Unit => []) (va_A [(h0, .inr (7, [.ref b0, .int n0]))] sz)) (va_A [(h0, .inr (7, [.ref b0, .int n0]))] sz)) 0 0 (va_A [(h0, .inr (7, [.ref b0, .int n0]))] sz) := by
  refine Met.ofW (cc := cX5_size) (maxL := 1) (ret := (some .int)) (by decide) rfl ?_
  intro p e s m args below meth c s₁ B hml hv
  obtain ⟨rfl, hsz, hP, hK, hD0, hN, hZ⟩ := hv
  have hx := B.exec
  have hb := B.bytes
  have hr := B.returns
  have hts := atoms_spec (ws := wp_X5_size) B.pre
  have hown : s.vm.findClass RX5 = some m.cls := findClass_of_methodNamed B.named
  have hlocks := B.notSynchronized
  have iRX5 : ∀ w ∈ u_ws RX5 TX5 2, w ∈ wp_X5_size := by decide +kernel
  subst hsz
  have hD := hD0.self (sz := s.heap.size)
  generalize hAe : va_A [(h0, .inr (7, [.ref b0, .int n0]))] s.heap.size = A at hD hZ ⊢
  have hA : ∀ q : Nat, s.heap.size ≤ q → A q := fun q h => by rw [← hAe]; exact Or.inr h
  have hS : va_S A s.heap s.heap [] := va_S.rf
  have hP : va_P (dC, dI) vwCl [(h0, .inr (7, [.ref b0, .int n0]))] s.heap := hP
  have hl := lv_entry ([.ref h0]) (n := 1) (Nat.le_of_ble_eq_true rfl)
  rw [lg_entry_eq]
  generalize (lg_sl ([.ref h0]) ++ List.replicate (1 - (lg_sl ([.ref h0])).length) Slot.unset).toArray = ls at hl ⊢
  have hl : lv_has ls 1 [(0, .ref h0)] := hl
  refine lv_aload_n hx hb dX5_size_0 rfl (lv_at hl 0 rfl) ?_
  refine va_get (D := (dC, dI)) (ci := 7) (v := .int n0) (C := RX5) (T := TX5) (N := 2) hx hb hts iRX5 hown hK hP 0 rfl rfl 1 (by decide) (hts (.fieldLink RX5 21 "RecordBench$Row" "size" "I") (by decide +kernel)) (fun _ h9 => h9) rfl dX5_size_1 ?_
  have hP9 := hP.sub (ws' := [(h0, .inr (7, [.ref b0, .int n0]))]) [0] rfl
  have hD9 := hD.sub (ws' := [(h0, .inr (7, [.ref b0, .int n0]))]) [0] (by decide) rfl
  have hK9 := hK.sub (tys' := []) [] rfl
  exact W.iret (v := n0) hx hb hr (fun t ht hW => ⟨⟨n0, (), rfl, rfl, by rw [ht]; exact hP9, va_K.moved hW.alike hK9, hD9⟩, hS.F ht⟩) hS.2.2 dX5_size_4
def wp_X5_cut0 : List Cond := .code yX5_cut cX5_cut 2 (some .boolean) :: ([.fieldLink RX5 21 "RecordBench$Row" "size" "I"] ++ wsX50)
set_option maxHeartbeats 4000000 in
set_option maxRecDepth 100000 in
theorem c_X5_cut0 (l : Launch) (dC : Nat → ClassId) (dI : Nat → Nat → Nat) (h0 : Nat) (b0 : Nat) (sz : Nat) : Met l yX5_cut wp_X5_cut0 ({ frames := 0, cells := 0, slots := 0, locals := 0 }) (va_Pc [.ref h0, .int 0] (Pr (dC, dI) [] [(h0, .inr (7, [.ref b0, .int 0]))] sz)) (va_Qi (fun r : Int32 => (fun _ : Unit => r = 1)) (Bq (dC, dI) (fun _ : Unit => [(h0, .inr (7, [.ref b0, .int 0]))]) (fun _ : Unit => []) (va_A [(h0, .inr (7, [.ref b0, .int 0]))] sz)) (va_A [(h0, .inr (7, [.ref b0, .int 0]))] sz)) 0 0 (va_A [(h0, .inr (7, [.ref b0, .int 0]))] sz) := by
  refine Met.ofW (cc := cX5_cut) (maxL := 2) (ret := (some .boolean)) (by decide) rfl ?_
  intro p e s m args below meth c s₁ B hml hv
  obtain ⟨rfl, hsz, hP, hK, hD0, hN, hZ⟩ := hv
  have hx := B.exec
  have hb := B.bytes
  have hr := B.returns
  have hts := atoms_spec (ws := wp_X5_cut0) B.pre
  have hown : s.vm.findClass RX5 = some m.cls := findClass_of_methodNamed B.named
  have hlocks := B.notSynchronized
  have iRX5 : ∀ w ∈ u_ws RX5 TX5 2, w ∈ wp_X5_cut0 := by decide +kernel
  subst hsz
  have hD := hD0.self (sz := s.heap.size)
  generalize hAe : va_A [(h0, .inr (7, [.ref b0, .int 0]))] s.heap.size = A at hD hZ ⊢
  have hA : ∀ q : Nat, s.heap.size ≤ q → A q := fun q h => by rw [← hAe]; exact Or.inr h
  have hS : va_S A s.heap s.heap [] := va_S.rf
  have hP : va_P (dC, dI) vwCl [(h0, .inr (7, [.ref b0, .int 0]))] s.heap := hP
  have hl := lv_entry ([.ref h0, .int 0]) (n := 2) (Nat.le_of_ble_eq_true rfl)
  rw [lg_entry_eq]
  generalize (lg_sl ([.ref h0, .int 0]) ++ List.replicate (2 - (lg_sl ([.ref h0, .int 0])).length) Slot.unset).toArray = ls at hl ⊢
  have hl : lv_has ls 2 [(0, .ref h0), (1, .int 0)] := hl
  refine lv_iload_n hx hb dX5_cut_0 rfl (lv_at hl 1 rfl) ?_
  refine lv_if_lt (tgt := 12) hx hb dX5_cut_1 (by decide) (fun c_1 => absurd c_1 (by decide)) (fun c_1 => ?_)
  refine lv_iload_n hx hb dX5_cut_4 rfl (lv_at hl 1 rfl) ?_
  refine lv_aload_n hx hb dX5_cut_5 rfl (lv_at hl 0 rfl) ?_
  refine va_get (D := (dC, dI)) (ci := 7) (v := .int 0) (C := RX5) (T := TX5) (N := 2) hx hb hts iRX5 hown hK hP 0 rfl rfl 1 (by decide) (hts (.fieldLink RX5 21 "RecordBench$Row" "size" "I") (by decide +kernel)) (fun _ h9 => h9) rfl dX5_cut_6 ?_
  refine lv_icmp_le (tgt := 14) hx hb dX5_cut_9 (by decide) (fun c_2 => ?_) (fun c_2 => absurd (by decide) c_2)
  refine lv_aload_n hx hb dX5_cut_14 rfl (lv_at hl 0 rfl) ?_
  refine lv_iload_n hx hb dX5_cut_15 rfl (lv_at hl 1 rfl) ?_
  refine va_put (D := (dC, dI)) (ci := 7) (v := .int 0) (ty := .int) (C := RX5) (T := TX5) (N := 2) hx hb hts iRX5 tyX5 tyX5_ok nmX5 hown hK hP hD hS 0 rfl rfl 1 (by decide) (hts (.fieldLink RX5 21 "RecordBench$Row" "size" "I") (by decide +kernel)) (fun _ h9 => h9) rfl (by decide +kernel) rfl rfl (Nat.le_of_ble_eq_true rfl) dX5_cut_16 (fun H locs hP hD hS => ?_)
  have hP : va_P (dC, dI) vwCl [(h0, .inr (7, [.ref b0, .int 0]))] H := hP
  have hD : va_D A [(h0, .inr (7, [.ref b0, .int 0]))] := hD
  refine lv_iconst (v := 1) hx hb dX5_cut_19 (by decide) ?_
  have hP9 := hP.sub (ws' := [(h0, .inr (7, [.ref b0, .int 0]))]) [0] rfl
  have hD9 := hD.sub (ws' := [(h0, .inr (7, [.ref b0, .int 0]))]) [0] (by decide) rfl
  have hK9 := hK.sub (tys' := []) [] rfl
  exact W.zret (v := 1) hx hb hr rfl (fun t ht hW => ⟨⟨1, (), rfl, rfl, by rw [ht]; exact hP9, va_K.moved hW.alike hK9, hD9⟩, hS.F ht⟩) hS.2.2 dX5_cut_20
def wp_X5_cutA : List Cond := .code yX5_cut cX5_cut 2 (some .boolean) :: ([.fieldLink RX5 21 "RecordBench$Row" "size" "I"] ++ wsX50)
set_option maxHeartbeats 4000000 in
set_option maxRecDepth 100000 in
theorem c_X5_cutA (l : Launch) (dC : Nat → ClassId) (dI : Nat → Nat → Nat) (h0 : Nat) (b0 : Nat) (p0 : Int32) (sz : Nat) : Met l yX5_cut wp_X5_cutA ({ frames := 0, cells := 0, slots := 0, locals := 0 }) (va_Pc [.ref h0, .int p0] (Pr (dC, dI) [] [(h0, .inr (7, [.ref b0, .int 0]))] sz)) (va_Qi (fun r : Int32 => (fun _ : Unit => r = if p0 < 0 ∨ ¬ p0 ≤ 0 then 0 else 1)) (Bq (dC, dI) (fun _ : Unit => []) (fun _ : Unit => []) (va_A [(h0, .inr (7, [.ref b0, .int 0]))] sz)) (va_A [(h0, .inr (7, [.ref b0, .int 0]))] sz)) 0 0 (va_A [(h0, .inr (7, [.ref b0, .int 0]))] sz) := by
  refine Met.ofW (cc := cX5_cut) (maxL := 2) (ret := (some .boolean)) (by decide) rfl ?_
  intro p e s m args below meth c s₁ B hml hv
  obtain ⟨rfl, hsz, hP, hK, hD0, hN, hZ⟩ := hv
  have hx := B.exec
  have hb := B.bytes
  have hr := B.returns
  have hts := atoms_spec (ws := wp_X5_cutA) B.pre
  have hown : s.vm.findClass RX5 = some m.cls := findClass_of_methodNamed B.named
  have hlocks := B.notSynchronized
  have iRX5 : ∀ w ∈ u_ws RX5 TX5 2, w ∈ wp_X5_cutA := by decide +kernel
  subst hsz
  have hD := hD0.self (sz := s.heap.size)
  generalize hAe : va_A [(h0, .inr (7, [.ref b0, .int 0]))] s.heap.size = A at hD hZ ⊢
  have hA : ∀ q : Nat, s.heap.size ≤ q → A q := fun q h => by rw [← hAe]; exact Or.inr h
  have hS : va_S A s.heap s.heap [] := va_S.rf
  have hP : va_P (dC, dI) vwCl [(h0, .inr (7, [.ref b0, .int 0]))] s.heap := hP
  have hl := lv_entry ([.ref h0, .int p0]) (n := 2) (Nat.le_of_ble_eq_true rfl)
  rw [lg_entry_eq]
  generalize (lg_sl ([.ref h0, .int p0]) ++ List.replicate (2 - (lg_sl ([.ref h0, .int p0])).length) Slot.unset).toArray = ls at hl ⊢
  have hl : lv_has ls 2 [(0, .ref h0), (1, .int p0)] := hl
  refine lv_iload_n hx hb dX5_cut_0 rfl (lv_at hl 1 rfl) ?_
  refine lv_if_lt (tgt := 12) hx hb dX5_cut_1 (by decide) (fun c_1 => ?_) (fun c_1 => ?_)
  · refine lv_iconst (v := 0) hx hb dX5_cut_12 (by decide) ?_
    have hP9 := hP.sub (ws' := []) [] rfl
    have hD9 := hD.sub (ws' := []) [] (by decide) rfl
    have hK9 := hK.sub (tys' := []) [] rfl
    exact W.zret (v := 0) hx hb hr rfl (fun t ht hW => ⟨⟨0, (), rfl, (if_pos (Or.inl c_1)).symm, by rw [ht]; exact hP9, va_K.moved hW.alike hK9, hD9⟩, hS.F ht⟩) hS.2.2 dX5_cut_13
  · refine lv_iload_n hx hb dX5_cut_4 rfl (lv_at hl 1 rfl) ?_
    refine lv_aload_n hx hb dX5_cut_5 rfl (lv_at hl 0 rfl) ?_
    refine va_get (D := (dC, dI)) (ci := 7) (v := .int 0) (C := RX5) (T := TX5) (N := 2) hx hb hts iRX5 hown hK hP 0 rfl rfl 1 (by decide) (hts (.fieldLink RX5 21 "RecordBench$Row" "size" "I") (by decide +kernel)) (fun _ h9 => h9) rfl dX5_cut_6 ?_
    refine lv_icmp_le (tgt := 14) hx hb dX5_cut_9 (by decide) (fun c_2 => ?_) (fun c_2 => ?_)
    · refine lv_aload_n hx hb dX5_cut_14 rfl (lv_at hl 0 rfl) ?_
      refine lv_iload_n hx hb dX5_cut_15 rfl (lv_at hl 1 rfl) ?_
      refine va_put (D := (dC, dI)) (ci := 7) (v := .int p0) (ty := .int) (C := RX5) (T := TX5) (N := 2) hx hb hts iRX5 tyX5 tyX5_ok nmX5 hown hK hP hD hS 0 rfl rfl 1 (by decide) (hts (.fieldLink RX5 21 "RecordBench$Row" "size" "I") (by decide +kernel)) (fun _ h9 => h9) rfl (by decide +kernel) rfl rfl (Nat.le_of_ble_eq_true rfl) dX5_cut_16 (fun H locs hP hD hS => ?_)
      have hP : va_P (dC, dI) vwCl [(h0, .inr (7, [.ref b0, .int p0]))] H := hP
      have hD : va_D A [(h0, .inr (7, [.ref b0, .int p0]))] := hD
      refine lv_iconst (v := 1) hx hb dX5_cut_19 (by decide) ?_
      have hP9 := hP.sub (ws' := []) [] rfl
      have hD9 := hD.sub (ws' := []) [] (by decide) rfl
      have hK9 := hK.sub (tys' := []) [] rfl
      exact W.zret (v := 1) hx hb hr rfl (fun t ht hW => ⟨⟨1, (), rfl, (if_neg (fun h => h.elim c_1 (fun h2 => h2 c_2))).symm, by rw [ht]; exact hP9, va_K.moved hW.alike hK9, hD9⟩, hS.F ht⟩) hS.2.2 dX5_cut_20
    · refine lv_iconst (v := 0) hx hb dX5_cut_12 (by decide) ?_
      have hP9 := hP.sub (ws' := []) [] rfl
      have hD9 := hD.sub (ws' := []) [] (by decide) rfl
      have hK9 := hK.sub (tys' := []) [] rfl
      exact W.zret (v := 0) hx hb hr rfl (fun t ht hW => ⟨⟨0, (), rfl, (if_pos (Or.inr c_2)).symm, by rw [ht]; exact hP9, va_K.moved hW.alike hK9, hD9⟩, hS.F ht⟩) hS.2.2 dX5_cut_13
def wp_X5_push : List Cond := .code yX5_push cX5_push 2 none :: ([.fieldLink RX5 21 "RecordBench$Row" "size" "I", .fieldLink RX5 15 "RecordBench$Row" "bytes" "[I"] ++ wsX50)
set_option maxHeartbeats 4000000 in
set_option maxRecDepth 100000 in
theorem c_X5_push (l : Launch) (dC : Nat → ClassId) (dI : Nat → Nat → Nat) (h0 : Nat) (b0 : Nat) (j : Nat) (cA : ClassId) (f0 : Nat → Int32) (p0 : Int32) (hj : j < 400) (sz : Nat) : Met l yX5_push wp_X5_push ({ frames := 0, cells := 0, slots := 0, locals := 0 }) (va_Pc [.ref h0, .int p0] (Pr (dC, dI) [(cA, .int)] [(h0, .inr (7, [.ref b0, .int (nI j)])), (b0, .inl (cA, 400, .inl f0))] sz)) (va_Qv (fun (f1 : Nat → Int32) => True) (Bq (dC, dI) (fun (f1 : Nat → Int32) => [(h0, .inr (7, [.ref b0, .int (nI (j + 1))])), (b0, .inl (cA, 400, .inl f1))]) (fun (f1 : Nat → Int32) => []) (va_A [(h0, .inr (7, [.ref b0, .int (nI j)])), (b0, .inl (cA, 400, .inl f0))] sz)) (va_A [(h0, .inr (7, [.ref b0, .int (nI j)])), (b0, .inl (cA, 400, .inl f0))] sz)) 0 0 (va_A [(h0, .inr (7, [.ref b0, .int (nI j)])), (b0, .inl (cA, 400, .inl f0))] sz) := by
  refine Met.ofW (cc := cX5_push) (maxL := 2) (ret := none) (by decide) rfl ?_
  intro p e s m args below meth c s₁ B hml hv
  obtain ⟨rfl, hsz, hP, hK, hD0, hN, hZ⟩ := hv
  have hx := B.exec
  have hb := B.bytes
  have hr := B.returns
  have hts := atoms_spec (ws := wp_X5_push) B.pre
  have hown : s.vm.findClass RX5 = some m.cls := findClass_of_methodNamed B.named
  have hlocks := B.notSynchronized
  have iRX5 : ∀ w ∈ u_ws RX5 TX5 2, w ∈ wp_X5_push := by decide +kernel
  subst hsz
  have hD := hD0.self (sz := s.heap.size)
  generalize hAe : va_A [(h0, .inr (7, [.ref b0, .int (nI j)])), (b0, .inl (cA, 400, .inl f0))] s.heap.size = A at hD hZ ⊢
  have hA : ∀ q : Nat, s.heap.size ≤ q → A q := fun q h => by rw [← hAe]; exact Or.inr h
  have hS : va_S A s.heap s.heap [] := va_S.rf
  have hP : va_P (dC, dI) vwCl [(h0, .inr (7, [.ref b0, .int (nI j)])), (b0, .inl (cA, 400, .inl f0))] s.heap := hP
  have hl := lv_entry ([.ref h0, .int p0]) (n := 2) (Nat.le_of_ble_eq_true rfl)
  rw [lg_entry_eq]
  generalize (lg_sl ([.ref h0, .int p0]) ++ List.replicate (2 - (lg_sl ([.ref h0, .int p0])).length) Slot.unset).toArray = ls at hl ⊢
  have hl : lv_has ls 2 [(0, .ref h0), (1, .int p0)] := hl
  refine lv_aload_n hx hb dX5_push_0 rfl (lv_at hl 0 rfl) ?_
  refine va_get (D := (dC, dI)) (ci := 7) (v := .int (nI j)) (C := RX5) (T := TX5) (N := 2) hx hb hts iRX5 hown hK hP 0 rfl rfl 1 (by decide) (hts (.fieldLink RX5 21 "RecordBench$Row" "size" "I") (by decide +kernel)) (fun _ h9 => h9) rfl dX5_push_1 ?_
  refine lv_aload_n hx hb dX5_push_4 rfl (lv_at hl 0 rfl) ?_
  refine va_get (D := (dC, dI)) (ci := 7) (v := .ref b0) (C := RX5) (T := TX5) (N := 2) hx hb hts iRX5 hown hK hP 0 rfl rfl 0 (by decide) (hts (.fieldLink RX5 15 "RecordBench$Row" "bytes" "[I") (by decide +kernel)) (fun _ h9 => h9) rfl dX5_push_5 ?_
  refine va_alen (v := 400) hx hb hK hP 1 0 rfl rfl rfl dX5_push_8 ?_
  refine lv_icmp_ge (tgt := 36) hx hb dX5_push_9 (by decide) (fun c_1 => absurd c_1 (nI_ge (show j < 400 from hj) (by decide))) (fun c_1 => ?_)
  refine lv_aload_n hx hb dX5_push_12 rfl (lv_at hl 0 rfl) ?_
  refine va_get (D := (dC, dI)) (ci := 7) (v := .ref b0) (C := RX5) (T := TX5) (N := 2) hx hb hts iRX5 hown hK hP 0 rfl rfl 0 (by decide) (hts (.fieldLink RX5 15 "RecordBench$Row" "bytes" "[I") (by decide +kernel)) (fun _ h9 => h9) rfl dX5_push_13 ?_
  refine lv_aload_n hx hb dX5_push_16 rfl (lv_at hl 0 rfl) ?_
  refine va_get (D := (dC, dI)) (ci := 7) (v := .int (nI j)) (C := RX5) (T := TX5) (N := 2) hx hb hts iRX5 hown hK hP 0 rfl rfl 1 (by decide) (hts (.fieldLink RX5 21 "RecordBench$Row" "size" "I") (by decide +kernel)) (fun _ h9 => h9) rfl dX5_push_17 ?_
  refine lv_iload_n hx hb dX5_push_20 rfl (lv_at hl 1 rfl) ?_
  refine lv_sipush (v := 255) hx hb dX5_push_21 (by decide) ?_
  refine lv_iand hx hb dX5_push_24 ?_
  refine lv_topi (fun z_2 ez_2 => ?_)
  refine va_iast hx hb hK hP hD hS 1 0 rfl rfl (vp_in_nI hj (by decide)) dX5_push_25 (fun H locs hP hD hS => ?_)
  obtain ⟨f_3, ef_3⟩ : ∃ y : Nat → Int32, y = upd f0 (nI j : Int32).toNatClampNeg z_2 := ⟨_, rfl⟩
  have hP : va_P (dC, dI) vwCl [(h0, .inr (7, [.ref b0, .int (nI j)])), (b0, .inl (cA, 400, .inl f_3))] H := by rw [ef_3]; exact hP
  have hD : va_D A [(h0, .inr (7, [.ref b0, .int (nI j)])), (b0, .inl (cA, 400, .inl f_3))] := by rw [ef_3]; exact hD
  refine lv_aload_n hx hb dX5_push_26 rfl (lv_at hl 0 rfl) ?_
  refine lv_dup hx hb dX5_push_27 rfl ?_
  refine va_get (D := (dC, dI)) (ci := 7) (v := .int (nI j)) (C := RX5) (T := TX5) (N := 2) hx hb hts iRX5 hown hK hP 0 rfl rfl 1 (by decide) (hts (.fieldLink RX5 21 "RecordBench$Row" "size" "I") (by decide +kernel)) (fun _ h9 => h9) rfl dX5_push_28 ?_
  refine lv_iconst (v := 1) hx hb dX5_push_31 (by decide) ?_
  refine lv_iadd hx hb dX5_push_32 ?_
  refine W_toi (y := nI (j + 1)) (nI_1 j) ?_
  refine va_put (D := (dC, dI)) (ci := 7) (v := .int (nI (j + 1))) (ty := .int) (C := RX5) (T := TX5) (N := 2) hx hb hts iRX5 tyX5 tyX5_ok nmX5 hown hK hP hD hS 0 rfl rfl 1 (by decide) (hts (.fieldLink RX5 21 "RecordBench$Row" "size" "I") (by decide +kernel)) (fun _ h9 => h9) rfl (by decide +kernel) rfl rfl (Nat.le_of_ble_eq_true rfl) dX5_push_33 (fun H locs hP hD hS => ?_)
  have hP : va_P (dC, dI) vwCl [(h0, .inr (7, [.ref b0, .int (nI (j + 1))])), (b0, .inl (cA, 400, .inl f_3))] H := hP
  have hD : va_D A [(h0, .inr (7, [.ref b0, .int (nI (j + 1))])), (b0, .inl (cA, 400, .inl f_3))] := hD
  have hP9 := hP.sub (ws' := [(h0, .inr (7, [.ref b0, .int (nI (j + 1))])), (b0, .inl (cA, 400, .inl f_3))]) [0, 1] rfl
  have hD9 := hD.sub (ws' := [(h0, .inr (7, [.ref b0, .int (nI (j + 1))])), (b0, .inl (cA, 400, .inl f_3))]) [0, 1] (by decide) rfl
  have hK9 := hK.sub (tys' := []) [] rfl
  exact W.vret hx hb hr (fun t ht hW => ⟨⟨f_3, rfl, trivial, by rw [ht]; exact hP9, va_K.moved hW.alike hK9, hD9⟩, hS.F ht⟩) hS.2.2 dX5_push_36
def wp_X5_pushWord : List Cond := .code yX5_pushWord cX5_pushWord 2 none :: ([.methodLink RX5 25 yX5_push, .instanceMethod yX5_push, .selects RX5 yX5_push yX5_push, .initialized RX5, .code yX5_push cX5_push 2 none, .fieldLink RX5 21 "RecordBench$Row" "size" "I", .fieldLink RX5 15 "RecordBench$Row" "bytes" "[I"] ++ wsX50)
set_option maxRecDepth 20000 in
theorem gp_X5_pushWord_X5_push_25 : GoodIn wp_X5_pushWord (wsV RX5 25 RX5 yX5_push wp_X5_push) := goodIn_p _ [5] rfl (by decide +kernel)
set_option maxHeartbeats 4000000 in
set_option maxRecDepth 100000 in
theorem c_X5_pushWord (l : Launch) (dC : Nat → ClassId) (dI : Nat → Nat → Nat) (h0 : Nat) (b0 : Nat) (j : Nat) (cA : ClassId) (f0 : Nat → Int32) (p0 : Int32) (hj : j + 4 ≤ 400) (sz : Nat) : Met l yX5_pushWord wp_X5_pushWord ({ frames := 1, cells := 0, slots := 0, locals := 25 }) (va_Pc [.ref h0, .int p0] (Pr (dC, dI) [(cA, .int)] [(h0, .inr (7, [.ref b0, .int (nI j)])), (b0, .inl (cA, 400, .inl f0))] sz)) (va_Qv (fun (f1 : Nat → Int32) => True) (Bq (dC, dI) (fun (f1 : Nat → Int32) => [(h0, .inr (7, [.ref b0, .int (nI (j + 4))])), (b0, .inl (cA, 400, .inl f1))]) (fun (f1 : Nat → Int32) => []) (va_A [(h0, .inr (7, [.ref b0, .int (nI j)])), (b0, .inl (cA, 400, .inl f0))] sz)) (va_A [(h0, .inr (7, [.ref b0, .int (nI j)])), (b0, .inl (cA, 400, .inl f0))] sz)) 0 0 (va_A [(h0, .inr (7, [.ref b0, .int (nI j)])), (b0, .inl (cA, 400, .inl f0))] sz) := by
  refine Met.ofW (cc := cX5_pushWord) (maxL := 2) (ret := none) (by decide) rfl ?_
  intro p e s m args below meth c s₁ B hml hv
  obtain ⟨rfl, hsz, hP, hK, hD0, hN, hZ⟩ := hv
  have hx := B.exec
  have hb := B.bytes
  have hr := B.returns
  have hts := atoms_spec (ws := wp_X5_pushWord) B.pre
  have hown : s.vm.findClass RX5 = some m.cls := findClass_of_methodNamed B.named
  have hlocks := B.notSynchronized
  subst hsz
  have hD := hD0.self (sz := s.heap.size)
  generalize hAe : va_A [(h0, .inr (7, [.ref b0, .int (nI j)])), (b0, .inl (cA, 400, .inl f0))] s.heap.size = A at hD hZ ⊢
  have hA : ∀ q : Nat, s.heap.size ≤ q → A q := fun q h => by rw [← hAe]; exact Or.inr h
  have hS : va_S A s.heap s.heap [] := va_S.rf
  have hP : va_P (dC, dI) vwCl [(h0, .inr (7, [.ref b0, .int (nI j)])), (b0, .inl (cA, 400, .inl f0))] s.heap := hP
  have hl := lv_entry ([.ref h0, .int p0]) (n := 2) (Nat.le_of_ble_eq_true rfl)
  rw [lg_entry_eq]
  generalize (lg_sl ([.ref h0, .int p0]) ++ List.replicate (2 - (lg_sl ([.ref h0, .int p0])).length) Slot.unset).toArray = ls at hl ⊢
  have hl : lv_has ls 2 [(0, .ref h0), (1, .int p0)] := hl
  refine lv_aload_n hx hb dX5_pushWord_0 rfl (lv_at hl 0 rfl) ?_
  refine lv_iload_n hx hb dX5_pushWord_1 rfl (lv_at hl 1 rfl) ?_
  refine lv_bipush (v := 24) hx hb dX5_pushWord_2 (by decide) ?_
  obtain ⟨z_1, ez_1⟩ : ∃ y : Int32, y = ((p0 : Int32).toUInt32 >>> ((24 : Int32).toUInt32 &&& Int32.toUInt32 31)).toInt32 := ⟨_, rfl⟩
  refine lv_iushr (v := z_1) hx hb dX5_pushWord_4 ez_1.symm ?_
  have hFc := va_free (wc := [(h0, .inr (7, [.ref b0, .int (nI j)])), (b0, .inl (cA, 400, .inl f0))]) hD hS hA [0, 1] rfl
  refine va_callv (va_runV (As := [.int z_1]) (rest := []) ⟨hx, hb, hml, hown, hts⟩ (c_X5_push l dC dI h0 b0 j cA f0 z_1 (by omega) s.heap.size) (cwV 1 hts gp_X5_pushWord_X5_push_25 rfl rfl rfl (by decide +kernel) ⟨Nat.le_of_ble_eq_true rfl, Nat.le_of_ble_eq_true rfl⟩) ⟨Pr.blind _, va_recv hK hP (ci := 7) (q0 := 0) rfl rfl, fun U hU hW => ⟨rfl, Pr.at (hP.sub (ws' := [(h0, .inr (7, [.ref b0, .int (nI j)])), (b0, .inl (cA, 400, .inl f0))]) [0, 1] rfl) (hK.sub (tys' := [(cA, .int)]) [0] rfl) (hD.sub (ws' := [(h0, .inr (7, [.ref b0, .int (nI j)])), (b0, .inl (cA, 400, .inl f0))]) [0, 1] (by decide) rfl) hN hZ hS hFc hU hW⟩⟩ rfl rfl hl.1 rfl (lv_room (Nat.le_of_ble_eq_true rfl)) dX5_pushWord_5 ⟨Nat.le_of_ble_eq_true rfl, Nat.le_of_ble_eq_true rfl⟩) hS (fun q _ h => hFc q h) hFc (fun u t H1 locs ht hvm hw_3 hB hz1 hk1 hS => ?_)
  obtain ⟨f1_4, rfl⟩ : ∃ z, z = u := ⟨_, rfl⟩
  obtain ⟨hP, hD, hK⟩ := Bq.join (wr := []) hB ht hvm hP hD [0, 1] [] rfl rfl (by decide) (by decide) hk1 hFc hK
  generalize H1 = H at hP hS ⊢
  have hP : va_P (dC, dI) vwCl [(h0, .inr (7, [.ref b0, .int (nI (j + 1))])), (b0, .inl (cA, 400, .inl f1_4))] H := hP
  have hD : va_D A [(h0, .inr (7, [.ref b0, .int (nI (j + 1))])), (b0, .inl (cA, 400, .inl f1_4))] := hD
  have hK : va_K (dC, dI) vwCl [(cA, .int)] s := hK
  refine lv_aload_n hx hb dX5_pushWord_8 rfl (lv_at hl 0 rfl) ?_
  refine lv_iload_n hx hb dX5_pushWord_9 rfl (lv_at hl 1 rfl) ?_
  refine lv_bipush (v := 16) hx hb dX5_pushWord_10 (by decide) ?_
  obtain ⟨z_5, ez_5⟩ : ∃ y : Int32, y = ((p0 : Int32).toUInt32 >>> ((16 : Int32).toUInt32 &&& Int32.toUInt32 31)).toInt32 := ⟨_, rfl⟩
  refine lv_iushr (v := z_5) hx hb dX5_pushWord_12 ez_5.symm ?_
  have hFc := va_free (wc := [(h0, .inr (7, [.ref b0, .int (nI (j + 1))])), (b0, .inl (cA, 400, .inl f1_4))]) hD hS hA [0, 1] rfl
  refine va_callv (va_runV (As := [.int z_5]) (rest := []) ⟨hx, hb, hml, hown, hts⟩ (c_X5_push l dC dI h0 b0 (j + 1) cA f1_4 z_5 (by omega) H.size) (cwV 1 hts gp_X5_pushWord_X5_push_25 rfl rfl rfl (by decide +kernel) ⟨Nat.le_of_ble_eq_true rfl, Nat.le_of_ble_eq_true rfl⟩) ⟨Pr.blind _, va_recv hK hP (ci := 7) (q0 := 0) rfl rfl, fun U hU hW => ⟨rfl, Pr.at (hP.sub (ws' := [(h0, .inr (7, [.ref b0, .int (nI (j + 1))])), (b0, .inl (cA, 400, .inl f1_4))]) [0, 1] rfl) (hK.sub (tys' := [(cA, .int)]) [0] rfl) (hD.sub (ws' := [(h0, .inr (7, [.ref b0, .int (nI (j + 1))])), (b0, .inl (cA, 400, .inl f1_4))]) [0, 1] (by decide) rfl) hN hZ hS hFc hU hW⟩⟩ rfl rfl hl.1 rfl (lv_room (Nat.le_of_ble_eq_true rfl)) dX5_pushWord_13 ⟨Nat.le_of_ble_eq_true rfl, Nat.le_of_ble_eq_true rfl⟩) hS (fun q _ h => hFc q h) hFc (fun u t H1 locs ht hvm hw_7 hB hz1 hk1 hS => ?_)
  obtain ⟨f1_8, rfl⟩ : ∃ z, z = u := ⟨_, rfl⟩
  obtain ⟨hP, hD, hK⟩ := Bq.join (wr := []) hB ht hvm hP hD [0, 1] [] rfl rfl (by decide) (by decide) hk1 hFc hK
  generalize H1 = H at hP hS ⊢
  have hP : va_P (dC, dI) vwCl [(h0, .inr (7, [.ref b0, .int (nI ((j + 1) + 1))])), (b0, .inl (cA, 400, .inl f1_8))] H := hP
  have hD : va_D A [(h0, .inr (7, [.ref b0, .int (nI ((j + 1) + 1))])), (b0, .inl (cA, 400, .inl f1_8))] := hD
  have hK : va_K (dC, dI) vwCl [(cA, .int)] s := hK
  refine lv_aload_n hx hb dX5_pushWord_16 rfl (lv_at hl 0 rfl) ?_
  refine lv_iload_n hx hb dX5_pushWord_17 rfl (lv_at hl 1 rfl) ?_
  refine lv_bipush (v := 8) hx hb dX5_pushWord_18 (by decide) ?_
  obtain ⟨z_9, ez_9⟩ : ∃ y : Int32, y = ((p0 : Int32).toUInt32 >>> ((8 : Int32).toUInt32 &&& Int32.toUInt32 31)).toInt32 := ⟨_, rfl⟩
  refine lv_iushr (v := z_9) hx hb dX5_pushWord_20 ez_9.symm ?_
  have hFc := va_free (wc := [(h0, .inr (7, [.ref b0, .int (nI ((j + 1) + 1))])), (b0, .inl (cA, 400, .inl f1_8))]) hD hS hA [0, 1] rfl
  refine va_callv (va_runV (As := [.int z_9]) (rest := []) ⟨hx, hb, hml, hown, hts⟩ (c_X5_push l dC dI h0 b0 ((j + 1) + 1) cA f1_8 z_9 (by omega) H.size) (cwV 1 hts gp_X5_pushWord_X5_push_25 rfl rfl rfl (by decide +kernel) ⟨Nat.le_of_ble_eq_true rfl, Nat.le_of_ble_eq_true rfl⟩) ⟨Pr.blind _, va_recv hK hP (ci := 7) (q0 := 0) rfl rfl, fun U hU hW => ⟨rfl, Pr.at (hP.sub (ws' := [(h0, .inr (7, [.ref b0, .int (nI ((j + 1) + 1))])), (b0, .inl (cA, 400, .inl f1_8))]) [0, 1] rfl) (hK.sub (tys' := [(cA, .int)]) [0] rfl) (hD.sub (ws' := [(h0, .inr (7, [.ref b0, .int (nI ((j + 1) + 1))])), (b0, .inl (cA, 400, .inl f1_8))]) [0, 1] (by decide) rfl) hN hZ hS hFc hU hW⟩⟩ rfl rfl hl.1 rfl (lv_room (Nat.le_of_ble_eq_true rfl)) dX5_pushWord_21 ⟨Nat.le_of_ble_eq_true rfl, Nat.le_of_ble_eq_true rfl⟩) hS (fun q _ h => hFc q h) hFc (fun u t H1 locs ht hvm hw_11 hB hz1 hk1 hS => ?_)
  obtain ⟨f1_12, rfl⟩ : ∃ z, z = u := ⟨_, rfl⟩
  obtain ⟨hP, hD, hK⟩ := Bq.join (wr := []) hB ht hvm hP hD [0, 1] [] rfl rfl (by decide) (by decide) hk1 hFc hK
  generalize H1 = H at hP hS ⊢
  have hP : va_P (dC, dI) vwCl [(h0, .inr (7, [.ref b0, .int (nI (((j + 1) + 1) + 1))])), (b0, .inl (cA, 400, .inl f1_12))] H := hP
  have hD : va_D A [(h0, .inr (7, [.ref b0, .int (nI (((j + 1) + 1) + 1))])), (b0, .inl (cA, 400, .inl f1_12))] := hD
  have hK : va_K (dC, dI) vwCl [(cA, .int)] s := hK
  refine lv_aload_n hx hb dX5_pushWord_24 rfl (lv_at hl 0 rfl) ?_
  refine lv_iload_n hx hb dX5_pushWord_25 rfl (lv_at hl 1 rfl) ?_
  have hFc := va_free (wc := [(h0, .inr (7, [.ref b0, .int (nI (((j + 1) + 1) + 1))])), (b0, .inl (cA, 400, .inl f1_12))]) hD hS hA [0, 1] rfl
  refine va_callv (va_runV (As := [.int p0]) (rest := []) ⟨hx, hb, hml, hown, hts⟩ (c_X5_push l dC dI h0 b0 (((j + 1) + 1) + 1) cA f1_12 p0 (by omega) H.size) (cwV 1 hts gp_X5_pushWord_X5_push_25 rfl rfl rfl (by decide +kernel) ⟨Nat.le_of_ble_eq_true rfl, Nat.le_of_ble_eq_true rfl⟩) ⟨Pr.blind _, va_recv hK hP (ci := 7) (q0 := 0) rfl rfl, fun U hU hW => ⟨rfl, Pr.at (hP.sub (ws' := [(h0, .inr (7, [.ref b0, .int (nI (((j + 1) + 1) + 1))])), (b0, .inl (cA, 400, .inl f1_12))]) [0, 1] rfl) (hK.sub (tys' := [(cA, .int)]) [0] rfl) (hD.sub (ws' := [(h0, .inr (7, [.ref b0, .int (nI (((j + 1) + 1) + 1))])), (b0, .inl (cA, 400, .inl f1_12))]) [0, 1] (by decide) rfl) hN hZ hS hFc hU hW⟩⟩ rfl rfl hl.1 rfl (lv_room (Nat.le_of_ble_eq_true rfl)) dX5_pushWord_26 ⟨Nat.le_of_ble_eq_true rfl, Nat.le_of_ble_eq_true rfl⟩) hS (fun q _ h => hFc q h) hFc (fun u t H1 locs ht hvm hw_14 hB hz1 hk1 hS => ?_)
  obtain ⟨f1_15, rfl⟩ : ∃ z, z = u := ⟨_, rfl⟩
  obtain ⟨hP, hD, hK⟩ := Bq.join (wr := []) hB ht hvm hP hD [0, 1] [] rfl rfl (by decide) (by decide) hk1 hFc hK
  generalize H1 = H at hP hS ⊢
  have hP : va_P (dC, dI) vwCl [(h0, .inr (7, [.ref b0, .int (nI ((((j + 1) + 1) + 1) + 1))])), (b0, .inl (cA, 400, .inl f1_15))] H := hP
  have hD : va_D A [(h0, .inr (7, [.ref b0, .int (nI ((((j + 1) + 1) + 1) + 1))])), (b0, .inl (cA, 400, .inl f1_15))] := hD
  have hK : va_K (dC, dI) vwCl [(cA, .int)] s := hK
  have hP9 := hP.sub (ws' := [(h0, .inr (7, [.ref b0, .int (nI ((((j + 1) + 1) + 1) + 1))])), (b0, .inl (cA, 400, .inl f1_15))]) [0, 1] rfl
  have hD9 := hD.sub (ws' := [(h0, .inr (7, [.ref b0, .int (nI ((((j + 1) + 1) + 1) + 1))])), (b0, .inl (cA, 400, .inl f1_15))]) [0, 1] (by decide) rfl
  have hK9 := hK.sub (tys' := []) [] rfl
  exact W.vret hx hb hr (fun t ht hW => ⟨⟨f1_15, rfl, trivial, by rw [ht]; exact hP9, va_K.moved hW.alike hK9, hD9⟩, hS.F ht⟩) hS.2.2 dX5_pushWord_29
def wp_X5_byteAt0 : List Cond := .code yX5_byteAt cX5_byteAt 2 (some .int) :: ([.fieldLink RX5 21 "RecordBench$Row" "size" "I"] ++ wsX50)
set_option maxHeartbeats 4000000 in
set_option maxRecDepth 100000 in
theorem c_X5_byteAt0 (l : Launch) (dC : Nat → ClassId) (dI : Nat → Nat → Nat) (h0 : Nat) (b0 : Nat) (p0 : Int32) (sz : Nat) : Met l yX5_byteAt wp_X5_byteAt0 ({ frames := 0, cells := 0, slots := 0, locals := 0 }) (va_Pc [.ref h0, .int p0] (Pr (dC, dI) [] [(h0, .inr (7, [.ref b0, .int 0]))] sz)) (va_Qi (fun r : Int32 => (fun _ : Unit => r = -1)) (Bq (dC, dI) (fun _ : Unit => []) (fun _ : Unit => []) (va_A [(h0, .inr (7, [.ref b0, .int 0]))] sz)) (va_A [(h0, .inr (7, [.ref b0, .int 0]))] sz)) 0 0 (va_A [(h0, .inr (7, [.ref b0, .int 0]))] sz) := by
  refine Met.ofW (cc := cX5_byteAt) (maxL := 2) (ret := (some .int)) (by decide) rfl ?_
  intro p e s m args below meth c s₁ B hml hv
  obtain ⟨rfl, hsz, hP, hK, hD0, hN, hZ⟩ := hv
  have hx := B.exec
  have hb := B.bytes
  have hr := B.returns
  have hts := atoms_spec (ws := wp_X5_byteAt0) B.pre
  have hown : s.vm.findClass RX5 = some m.cls := findClass_of_methodNamed B.named
  have hlocks := B.notSynchronized
  have iRX5 : ∀ w ∈ u_ws RX5 TX5 2, w ∈ wp_X5_byteAt0 := by decide +kernel
  subst hsz
  have hD := hD0.self (sz := s.heap.size)
  generalize hAe : va_A [(h0, .inr (7, [.ref b0, .int 0]))] s.heap.size = A at hD hZ ⊢
  have hA : ∀ q : Nat, s.heap.size ≤ q → A q := fun q h => by rw [← hAe]; exact Or.inr h
  have hS : va_S A s.heap s.heap [] := va_S.rf
  have hP : va_P (dC, dI) vwCl [(h0, .inr (7, [.ref b0, .int 0]))] s.heap := hP
  have hl := lv_entry ([.ref h0, .int p0]) (n := 2) (Nat.le_of_ble_eq_true rfl)
  rw [lg_entry_eq]
  generalize (lg_sl ([.ref h0, .int p0]) ++ List.replicate (2 - (lg_sl ([.ref h0, .int p0])).length) Slot.unset).toArray = ls at hl ⊢
  have hl : lv_has ls 2 [(0, .ref h0), (1, .int p0)] := hl
  refine lv_iload_n hx hb dX5_byteAt_0 rfl (lv_at hl 1 rfl) ?_
  refine lv_if_lt (tgt := 21) hx hb dX5_byteAt_1 (by decide) (fun c_1 => ?_) (fun c_1 => ?_)
  · refine lv_iconst (v := (-1)) hx hb dX5_byteAt_21 (by decide) ?_
    have hP9 := hP.sub (ws' := []) [] rfl
    have hD9 := hD.sub (ws' := []) [] (by decide) rfl
    have hK9 := hK.sub (tys' := []) [] rfl
    exact W.iret (v := (-1)) hx hb hr (fun t ht hW => ⟨⟨(-1), (), rfl, rfl, by rw [ht]; exact hP9, va_K.moved hW.alike hK9, hD9⟩, hS.F ht⟩) hS.2.2 dX5_byteAt_22
  · refine lv_iload_n hx hb dX5_byteAt_4 rfl (lv_at hl 1 rfl) ?_
    refine lv_aload_n hx hb dX5_byteAt_5 rfl (lv_at hl 0 rfl) ?_
    refine va_get (D := (dC, dI)) (ci := 7) (v := .int 0) (C := RX5) (T := TX5) (N := 2) hx hb hts iRX5 hown hK hP 0 rfl rfl 1 (by decide) (hts (.fieldLink RX5 21 "RecordBench$Row" "size" "I") (by decide +kernel)) (fun _ h9 => h9) rfl dX5_byteAt_6 ?_
    refine lv_icmp_ge (tgt := 21) hx hb dX5_byteAt_9 (by decide) (fun c_2 => ?_) (fun c_2 => absurd (nlt0 c_1) c_2)
    refine lv_iconst (v := (-1)) hx hb dX5_byteAt_21 (by decide) ?_
    have hP9 := hP.sub (ws' := []) [] rfl
    have hD9 := hD.sub (ws' := []) [] (by decide) rfl
    have hK9 := hK.sub (tys' := []) [] rfl
    exact W.iret (v := (-1)) hx hb hr (fun t ht hW => ⟨⟨(-1), (), rfl, rfl, by rw [ht]; exact hP9, va_K.moved hW.alike hK9, hD9⟩, hS.F ht⟩) hS.2.2 dX5_byteAt_22
def wp_X5_become0 : List Cond := .code yX5_become cX5_become 6 none :: ([.fieldLink RX5 21 "RecordBench$Row" "size" "I"] ++ wsX50)
set_option maxHeartbeats 4000000 in
set_option maxRecDepth 100000 in
theorem c_X5_become0 (l : Launch) (dC : Nat → ClassId) (dI : Nat → Nat → Nat) (h0 : Nat) (b0 : Nat) (n0 : Int32) (h1 : Nat) (b1 : Nat) (n1 : Int32) (sz : Nat) : Met l yX5_become wp_X5_become0 ({ frames := 0, cells := 0, slots := 0, locals := 0 }) (va_Pc [.ref h0, .ref h1, .int 0, .int 0] (Pr (dC, dI) [] [(h0, .inr (7, [.ref b0, .int n0])), (h1, .inr (7, [.ref b1, .int n1]))] sz)) (va_Qv (fun _ : Unit => True) (Bq (dC, dI) (fun _ : Unit => [(h0, .inr (7, [.ref b0, .int 0])), (h1, .inr (7, [.ref b1, .int n1]))]) (fun _ : Unit => []) (va_A [(h0, .inr (7, [.ref b0, .int n0])), (h1, .inr (7, [.ref b1, .int n1]))] sz)) (va_A [(h0, .inr (7, [.ref b0, .int n0])), (h1, .inr (7, [.ref b1, .int n1]))] sz)) 0 0 (va_A [(h0, .inr (7, [.ref b0, .int n0])), (h1, .inr (7, [.ref b1, .int n1]))] sz) := by
  refine Met.ofW (cc := cX5_become) (maxL := 6) (ret := none) (by decide) rfl ?_
  intro p e s m args below meth c s₁ B hml hv
  obtain ⟨rfl, hsz, hP, hK, hD0, hN, hZ⟩ := hv
  have hx := B.exec
  have hb := B.bytes
  have hr := B.returns
  have hts := atoms_spec (ws := wp_X5_become0) B.pre
  have hown : s.vm.findClass RX5 = some m.cls := findClass_of_methodNamed B.named
  have hlocks := B.notSynchronized
  have iRX5 : ∀ w ∈ u_ws RX5 TX5 2, w ∈ wp_X5_become0 := by decide +kernel
  subst hsz
  have hD := hD0.self (sz := s.heap.size)
  generalize hAe : va_A [(h0, .inr (7, [.ref b0, .int n0])), (h1, .inr (7, [.ref b1, .int n1]))] s.heap.size = A at hD hZ ⊢
  have hA : ∀ q : Nat, s.heap.size ≤ q → A q := fun q h => by rw [← hAe]; exact Or.inr h
  have hS : va_S A s.heap s.heap [] := va_S.rf
  have hP : va_P (dC, dI) vwCl [(h0, .inr (7, [.ref b0, .int n0])), (h1, .inr (7, [.ref b1, .int n1]))] s.heap := hP
  have hl := lv_entry ([.ref h0, .ref h1, .int 0, .int 0]) (n := 6) (Nat.le_of_ble_eq_true rfl)
  rw [lg_entry_eq]
  generalize (lg_sl ([.ref h0, .ref h1, .int 0, .int 0]) ++ List.replicate (6 - (lg_sl ([.ref h0, .ref h1, .int 0, .int 0])).length) Slot.unset).toArray = ls at hl ⊢
  have hl : lv_has ls 6 [(0, .ref h0), (1, .ref h1), (2, .int 0), (3, .int 0)] := hl
  refine lv_iconst (v := 0) hx hb dX5_become_0 (by decide) ?_
  refine lv_istore (lv' := [(4, .int 0), (0, .ref h0), (1, .ref h1), (2, .int 0), (3, .int 0)]) hx hb dX5_become_1 hl (by decide) rfl (fun ls hl => ?_)
  refine lv_iload_n hx hb dX5_become_3 rfl (lv_at hl 3 rfl) ?_
  refine lv_istore (lv' := [(5, .int 0), (4, .int 0), (0, .ref h0), (1, .ref h1), (2, .int 0), (3, .int 0)]) hx hb dX5_become_4 hl (by decide) rfl (fun ls hl => ?_)
  refine lv_iload hx hb dX5_become_6 (lv_at hl 0 rfl) ?_
  refine lv_iload_n hx hb dX5_become_8 rfl (lv_at hl 5 rfl) ?_
  refine lv_icmp_ge (tgt := 48) hx hb dX5_become_9 (by decide) (fun c_1 => ?_) (fun c_1 => absurd (by decide) c_1)
  refine lv_aload_n hx hb dX5_become_48 rfl (lv_at hl 2 rfl) ?_
  refine lv_iload hx hb dX5_become_49 (lv_at hl 1 rfl) ?_
  refine va_put (D := (dC, dI)) (ci := 7) (v := .int 0) (ty := .int) (C := RX5) (T := TX5) (N := 2) hx hb hts iRX5 tyX5 tyX5_ok nmX5 hown hK hP hD hS 0 rfl rfl 1 (by decide) (hts (.fieldLink RX5 21 "RecordBench$Row" "size" "I") (by decide +kernel)) (fun _ h9 => h9) rfl (by decide +kernel) rfl rfl (Nat.le_of_ble_eq_true rfl) dX5_become_51 (fun H locs hP hD hS => ?_)
  have hP : va_P (dC, dI) vwCl [(h0, .inr (7, [.ref b0, .int 0])), (h1, .inr (7, [.ref b1, .int n1]))] H := hP
  have hD : va_D A [(h0, .inr (7, [.ref b0, .int 0])), (h1, .inr (7, [.ref b1, .int n1]))] := hD
  have hP9 := hP.sub (ws' := [(h0, .inr (7, [.ref b0, .int 0])), (h1, .inr (7, [.ref b1, .int n1]))]) [0, 1] rfl
  have hD9 := hD.sub (ws' := [(h0, .inr (7, [.ref b0, .int 0])), (h1, .inr (7, [.ref b1, .int n1]))]) [0, 1] (by decide) rfl
  have hK9 := hK.sub (tys' := []) [] rfl
  exact W.vret hx hb hr (fun t ht hW => ⟨⟨(), rfl, trivial, by rw [ht]; exact hP9, va_K.moved hW.alike hK9, hD9⟩, hS.F ht⟩) hS.2.2 dX5_become_54
end
section
theorem dJ4_init_da8c8_0 : decode cJ4_init_da8c8 0 = .ok (.aload_n 0, 1) := by decide +kernel
theorem dJ4_init_da8c8_1 : decode cJ4_init_da8c8 1 = .ok (.bipush 16, 2) := by decide +kernel
theorem dJ4_init_da8c8_3 : decode cJ4_init_da8c8 3 = .ok (.invokespecial 1, 3) := by decide +kernel
theorem dJ4_init_da8c8_6 : decode cJ4_init_da8c8 6 = .ok (.return_, 1) := by decide +kernel
theorem dJ5_init_d00df_0 : decode cJ5_init_d00df 0 = .ok (.aload_n 0, 1) := by decide +kernel
theorem dJ5_init_d00df_1 : decode cJ5_init_d00df 1 = .ok (.invokespecial 3, 3) := by decide +kernel
theorem dJ5_init_d00df_10 : decode cJ5_init_d00df 10 = .ok (.aload_n 0, 1) := by decide +kernel
theorem dJ5_init_d00df_11 : decode cJ5_init_d00df 11 = .ok (.iload_n 1, 1) := by decide +kernel
theorem dJ5_init_d00df_12 : decode cJ5_init_d00df 12 = .ok (.newarray .byte, 2) := by decide +kernel
theorem dJ5_init_d00df_14 : decode cJ5_init_d00df 14 = .ok (.putfield 15, 3) := by decide +kernel
theorem dJ5_init_d00df_17 : decode cJ5_init_d00df 17 = .ok (.aload_n 0, 1) := by decide +kernel
theorem dJ5_init_d00df_18 : decode cJ5_init_d00df 18 = .ok (.iconst 0, 1) := by decide +kernel
theorem dJ5_init_d00df_19 : decode cJ5_init_d00df 19 = .ok (.putfield 22, 3) := by decide +kernel
theorem dJ5_init_d00df_22 : decode cJ5_init_d00df 22 = .ok (.goto 16, 3) := by decide +kernel
theorem dJ5_init_d00df_38 : decode cJ5_init_d00df 38 = .ok (.return_, 1) := by decide +kernel
theorem dJ5_init_d00df_4 : decode cJ5_init_d00df 4 = .ok (.getstatic 18, 3) := by decide +kernel
theorem dJ5_init_d00df_7 : decode cJ5_init_d00df 7 = .ok (.ifCond .eq 18, 3) := by decide +kernel
theorem dX1_count_0 : decode cX1_count 0 = .ok (.aload_n 0, 1) := by decide +kernel
theorem dX1_count_1 : decode cX1_count 1 = .ok (.getfield 17, 3) := by decide +kernel
theorem dX1_count_4 : decode cX1_count 4 = .ok (.ireturn, 1) := by decide +kernel
theorem dX1_init_0 : decode cX1_init 0 = .ok (.aload_n 0, 1) := by decide +kernel
theorem dX1_init_1 : decode cX1_init 1 = .ok (.invokespecial 3, 3) := by decide +kernel
theorem dX1_init_10 : decode cX1_init 10 = .ok (.putfield 11, 3) := by decide +kernel
theorem dX1_init_13 : decode cX1_init 13 = .ok (.aload_n 0, 1) := by decide +kernel
theorem dX1_init_14 : decode cX1_init 14 = .ok (.iconst 0, 1) := by decide +kernel
theorem dX1_init_15 : decode cX1_init 15 = .ok (.putfield 17, 3) := by decide +kernel
theorem dX1_init_18 : decode cX1_init 18 = .ok (.return_, 1) := by decide +kernel
theorem dX1_init_4 : decode cX1_init 4 = .ok (.aload_n 0, 1) := by decide +kernel
theorem dX1_init_5 : decode cX1_init 5 = .ok (.bipush 31, 2) := by decide +kernel
theorem dX1_init_7 : decode cX1_init 7 = .ok (.anewarray 9, 3) := by decide +kernel
theorem dX2_init_0 : decode cX2_init 0 = .ok (.aload_n 0, 1) := by decide +kernel
theorem dX2_init_1 : decode cX2_init 1 = .ok (.invokespecial 3, 3) := by decide +kernel
theorem dX2_init_10 : decode cX2_init 10 = .ok (.iconst 0, 1) := by decide +kernel
theorem dX2_init_11 : decode cX2_init 11 = .ok (.putfield 15, 3) := by decide +kernel
theorem dX2_init_14 : decode cX2_init 14 = .ok (.aload_n 0, 1) := by decide +kernel
theorem dX2_init_15 : decode cX2_init 15 = .ok (.lconst 0, 1) := by decide +kernel
theorem dX2_init_16 : decode cX2_init 16 = .ok (.putfield 19, 3) := by decide +kernel
theorem dX2_init_19 : decode cX2_init 19 = .ok (.aload_n 0, 1) := by decide +kernel
theorem dX2_init_20 : decode cX2_init 20 = .ok (.iconst 0, 1) := by decide +kernel
theorem dX2_init_21 : decode cX2_init 21 = .ok (.putfield 23, 3) := by decide +kernel
theorem dX2_init_24 : decode cX2_init 24 = .ok (.aload_n 0, 1) := by decide +kernel
theorem dX2_init_25 : decode cX2_init 25 = .ok (.iconst 0, 1) := by decide +kernel
theorem dX2_init_26 : decode cX2_init 26 = .ok (.putfield 26, 3) := by decide +kernel
theorem dX2_init_29 : decode cX2_init 29 = .ok (.aload_n 0, 1) := by decide +kernel
theorem dX2_init_30 : decode cX2_init 30 = .ok (.iconst 0, 1) := by decide +kernel
theorem dX2_init_31 : decode cX2_init 31 = .ok (.putfield 29, 3) := by decide +kernel
theorem dX2_init_34 : decode cX2_init 34 = .ok (.aload_n 0, 1) := by decide +kernel
theorem dX2_init_35 : decode cX2_init 35 = .ok (.iconst 0, 1) := by decide +kernel
theorem dX2_init_36 : decode cX2_init 36 = .ok (.putfield 32, 3) := by decide +kernel
theorem dX2_init_39 : decode cX2_init 39 = .ok (.aload_n 0, 1) := by decide +kernel
theorem dX2_init_4 : decode cX2_init 4 = .ok (.aload_n 0, 1) := by decide +kernel
theorem dX2_init_40 : decode cX2_init 40 = .ok (.iconst 0, 1) := by decide +kernel
theorem dX2_init_41 : decode cX2_init 41 = .ok (.putfield 35, 3) := by decide +kernel
theorem dX2_init_44 : decode cX2_init 44 = .ok (.return_, 1) := by decide +kernel
theorem dX2_init_5 : decode cX2_init 5 = .ok (.iconst 0, 1) := by decide +kernel
theorem dX2_init_6 : decode cX2_init 6 = .ok (.putfield 9, 3) := by decide +kernel
theorem dX2_init_9 : decode cX2_init 9 = .ok (.aload_n 0, 1) := by decide +kernel
theorem dX3_init_0 : decode cX3_init 0 = .ok (.aload_n 0, 1) := by decide +kernel
theorem dX3_init_1 : decode cX3_init 1 = .ok (.invokespecial 3, 3) := by decide +kernel
theorem dX3_init_10 : decode cX3_init 10 = .ok (.bipush 8, 2) := by decide +kernel
theorem dX3_init_12 : decode cX3_init 12 = .ok (.anewarray 15, 3) := by decide +kernel
theorem dX3_init_15 : decode cX3_init 15 = .ok (.putfield 17, 3) := by decide +kernel
theorem dX3_init_18 : decode cX3_init 18 = .ok (.iconst 0, 1) := by decide +kernel
theorem dX3_init_19 : decode cX3_init 19 = .ok (.istore_n 2, 1) := by decide +kernel
theorem dX3_init_20 : decode cX3_init 20 = .ok (.iload_n 2, 1) := by decide +kernel
theorem dX3_init_21 : decode cX3_init 21 = .ok (.bipush 8, 2) := by decide +kernel
theorem dX3_init_23 : decode cX3_init 23 = .ok (.if_icmp .ge 22, 3) := by decide +kernel
theorem dX3_init_26 : decode cX3_init 26 = .ok (.aload_n 0, 1) := by decide +kernel
theorem dX3_init_27 : decode cX3_init 27 = .ok (.getfield 17, 3) := by decide +kernel
theorem dX3_init_30 : decode cX3_init 30 = .ok (.iload_n 2, 1) := by decide +kernel
theorem dX3_init_31 : decode cX3_init 31 = .ok (.new 15, 3) := by decide +kernel
theorem dX3_init_34 : decode cX3_init 34 = .ok (.dup, 1) := by decide +kernel
theorem dX3_init_35 : decode cX3_init 35 = .ok (.invokespecial 21, 3) := by decide +kernel
theorem dX3_init_38 : decode cX3_init 38 = .ok (.aastore, 1) := by decide +kernel
theorem dX3_init_39 : decode cX3_init 39 = .ok (.iinc 2 1, 3) := by decide +kernel
theorem dX3_init_4 : decode cX3_init 4 = .ok (.aload_n 0, 1) := by decide +kernel
theorem dX3_init_42 : decode cX3_init 42 = .ok (.goto (-22), 3) := by decide +kernel
theorem dX3_init_45 : decode cX3_init 45 = .ok (.aload_n 0, 1) := by decide +kernel
theorem dX3_init_46 : decode cX3_init 46 = .ok (.iconst 0, 1) := by decide +kernel
theorem dX3_init_47 : decode cX3_init 47 = .ok (.putfield 22, 3) := by decide +kernel
theorem dX3_init_5 : decode cX3_init 5 = .ok (.aload_n 1, 1) := by decide +kernel
theorem dX3_init_50 : decode cX3_init 50 = .ok (.aload_n 0, 1) := by decide +kernel
theorem dX3_init_51 : decode cX3_init 51 = .ok (.iconst (-1), 1) := by decide +kernel
theorem dX3_init_52 : decode cX3_init 52 = .ok (.putfield 26, 3) := by decide +kernel
theorem dX3_init_55 : decode cX3_init 55 = .ok (.return_, 1) := by decide +kernel
theorem dX3_init_6 : decode cX3_init 6 = .ok (.putfield 9, 3) := by decide +kernel
theorem dX3_init_9 : decode cX3_init 9 = .ok (.aload_n 0, 1) := by decide +kernel
theorem dX4_init_0 : decode cX4_init 0 = .ok (.aload_n 0, 1) := by decide +kernel
theorem dX4_init_1 : decode cX4_init 1 = .ok (.invokespecial 3, 3) := by decide +kernel
theorem dX4_init_10 : decode cX4_init 10 = .ok (.bipush 8, 2) := by decide +kernel
theorem dX4_init_12 : decode cX4_init 12 = .ok (.anewarray 15, 3) := by decide +kernel
theorem dX4_init_15 : decode cX4_init 15 = .ok (.putfield 17, 3) := by decide +kernel
theorem dX4_init_18 : decode cX4_init 18 = .ok (.iconst 0, 1) := by decide +kernel
theorem dX4_init_19 : decode cX4_init 19 = .ok (.istore_n 2, 1) := by decide +kernel
theorem dX4_init_20 : decode cX4_init 20 = .ok (.iload_n 2, 1) := by decide +kernel
theorem dX4_init_21 : decode cX4_init 21 = .ok (.bipush 8, 2) := by decide +kernel
theorem dX4_init_23 : decode cX4_init 23 = .ok (.if_icmp .ge 22, 3) := by decide +kernel
theorem dX4_init_26 : decode cX4_init 26 = .ok (.aload_n 0, 1) := by decide +kernel
theorem dX4_init_27 : decode cX4_init 27 = .ok (.getfield 17, 3) := by decide +kernel
theorem dX4_init_30 : decode cX4_init 30 = .ok (.iload_n 2, 1) := by decide +kernel
theorem dX4_init_31 : decode cX4_init 31 = .ok (.new 15, 3) := by decide +kernel
theorem dX4_init_34 : decode cX4_init 34 = .ok (.dup, 1) := by decide +kernel
theorem dX4_init_35 : decode cX4_init 35 = .ok (.invokespecial 21, 3) := by decide +kernel
theorem dX4_init_38 : decode cX4_init 38 = .ok (.aastore, 1) := by decide +kernel
theorem dX4_init_39 : decode cX4_init 39 = .ok (.iinc 2 1, 3) := by decide +kernel
theorem dX4_init_4 : decode cX4_init 4 = .ok (.aload_n 0, 1) := by decide +kernel
theorem dX4_init_42 : decode cX4_init 42 = .ok (.goto (-22), 3) := by decide +kernel
theorem dX4_init_45 : decode cX4_init 45 = .ok (.aload_n 0, 1) := by decide +kernel
theorem dX4_init_46 : decode cX4_init 46 = .ok (.new 22, 3) := by decide +kernel
theorem dX4_init_49 : decode cX4_init 49 = .ok (.dup, 1) := by decide +kernel
theorem dX4_init_5 : decode cX4_init 5 = .ok (.aload_n 1, 1) := by decide +kernel
theorem dX4_init_50 : decode cX4_init 50 = .ok (.iconst 0, 1) := by decide +kernel
theorem dX4_init_51 : decode cX4_init 51 = .ok (.invokespecial 24, 3) := by decide +kernel
theorem dX4_init_54 : decode cX4_init 54 = .ok (.putfield 27, 3) := by decide +kernel
theorem dX4_init_57 : decode cX4_init 57 = .ok (.return_, 1) := by decide +kernel
theorem dX4_init_6 : decode cX4_init 6 = .ok (.putfield 9, 3) := by decide +kernel
theorem dX4_init_9 : decode cX4_init 9 = .ok (.aload_n 0, 1) := by decide +kernel
theorem dX6_faultFound_0 : decode cX6_faultFound 0 = .ok (.aload_n 0, 1) := by decide +kernel
theorem dX6_faultFound_1 : decode cX6_faultFound 1 = .ok (.getfield 30, 3) := by decide +kernel
theorem dX6_faultFound_4 : decode cX6_faultFound 4 = .ok (.ireturn, 1) := by decide +kernel
theorem dX6_init_0 : decode cX6_init 0 = .ok (.aload_n 0, 1) := by decide +kernel
theorem dX6_init_1 : decode cX6_init 1 = .ok (.invokespecial 3, 3) := by decide +kernel
theorem dX6_init_10 : decode cX6_init 10 = .ok (.aload_n 2, 1) := by decide +kernel
theorem dX6_init_11 : decode cX6_init 11 = .ok (.putfield 15, 3) := by decide +kernel
theorem dX6_init_14 : decode cX6_init 14 = .ok (.aload_n 0, 1) := by decide +kernel
theorem dX6_init_15 : decode cX6_init 15 = .ok (.new 19, 3) := by decide +kernel
theorem dX6_init_18 : decode cX6_init 18 = .ok (.dup, 1) := by decide +kernel
theorem dX6_init_19 : decode cX6_init 19 = .ok (.invokespecial 21, 3) := by decide +kernel
theorem dX6_init_22 : decode cX6_init 22 = .ok (.putfield 22, 3) := by decide +kernel
theorem dX6_init_25 : decode cX6_init 25 = .ok (.aload_n 0, 1) := by decide +kernel
theorem dX6_init_26 : decode cX6_init 26 = .ok (.iconst 0, 1) := by decide +kernel
theorem dX6_init_27 : decode cX6_init 27 = .ok (.putfield 26, 3) := by decide +kernel
theorem dX6_init_30 : decode cX6_init 30 = .ok (.aload_n 0, 1) := by decide +kernel
theorem dX6_init_31 : decode cX6_init 31 = .ok (.iconst 0, 1) := by decide +kernel
theorem dX6_init_32 : decode cX6_init 32 = .ok (.putfield 30, 3) := by decide +kernel
theorem dX6_init_35 : decode cX6_init 35 = .ok (.aload_n 0, 1) := by decide +kernel
theorem dX6_init_36 : decode cX6_init 36 = .ok (.iconst (-1), 1) := by decide +kernel
theorem dX6_init_37 : decode cX6_init 37 = .ok (.putfield 33, 3) := by decide +kernel
theorem dX6_init_4 : decode cX6_init 4 = .ok (.aload_n 0, 1) := by decide +kernel
theorem dX6_init_40 : decode cX6_init 40 = .ok (.return_, 1) := by decide +kernel
theorem dX6_init_5 : decode cX6_init 5 = .ok (.aload_n 1, 1) := by decide +kernel
theorem dX6_init_6 : decode cX6_init 6 = .ok (.putfield 9, 3) := by decide +kernel
theorem dX6_init_9 : decode cX6_init 9 = .ok (.aload_n 0, 1) := by decide +kernel
theorem dX6_placeFound_0 : decode cX6_placeFound 0 = .ok (.aload_n 0, 1) := by decide +kernel
theorem dX6_placeFound_1 : decode cX6_placeFound 1 = .ok (.getfield 33, 3) := by decide +kernel
theorem dX6_placeFound_4 : decode cX6_placeFound 4 = .ok (.ireturn, 1) := by decide +kernel
theorem dX6_skipBlanks_0 : decode cX6_skipBlanks 0 = .ok (.aload_n 0, 1) := by decide +kernel
theorem dX6_skipBlanks_1 : decode cX6_skipBlanks 1 = .ok (.getfield 26, 3) := by decide +kernel
theorem dX6_skipBlanks_12 : decode cX6_skipBlanks 12 = .ok (.invokevirtual 42, 3) := by decide +kernel
theorem dX6_skipBlanks_15 : decode cX6_skipBlanks 15 = .ok (.if_icmp .ge 33, 3) := by decide +kernel
theorem dX6_skipBlanks_4 : decode cX6_skipBlanks 4 = .ok (.istore_n 1, 1) := by decide +kernel
theorem dX6_skipBlanks_48 : decode cX6_skipBlanks 48 = .ok (.return_, 1) := by decide +kernel
theorem dX6_skipBlanks_5 : decode cX6_skipBlanks 5 = .ok (.iload_n 1, 1) := by decide +kernel
theorem dX6_skipBlanks_6 : decode cX6_skipBlanks 6 = .ok (.istore_n 2, 1) := by decide +kernel
theorem dX6_skipBlanks_7 : decode cX6_skipBlanks 7 = .ok (.iload_n 2, 1) := by decide +kernel
theorem dX6_skipBlanks_8 : decode cX6_skipBlanks 8 = .ok (.aload_n 0, 1) := by decide +kernel
theorem dX6_skipBlanks_9 : decode cX6_skipBlanks 9 = .ok (.getfield 9, 3) := by decide +kernel
theorem dX6_tell_0 : decode cX6_tell 0 = .ok (.aload_n 0, 1) := by decide +kernel
theorem dX6_tell_1 : decode cX6_tell 1 = .ok (.iconst 0, 1) := by decide +kernel
theorem dX6_tell_10 : decode cX6_tell 10 = .ok (.aload_n 0, 1) := by decide +kernel
theorem dX6_tell_11 : decode cX6_tell 11 = .ok (.iconst (-1), 1) := by decide +kernel
theorem dX6_tell_12 : decode cX6_tell 12 = .ok (.putfield 33, 3) := by decide +kernel
theorem dX6_tell_15 : decode cX6_tell 15 = .ok (.new 36, 3) := by decide +kernel
theorem dX6_tell_18 : decode cX6_tell 18 = .ok (.dup, 1) := by decide +kernel
theorem dX6_tell_19 : decode cX6_tell 19 = .ok (.invokespecial 38, 3) := by decide +kernel
theorem dX6_tell_2 : decode cX6_tell 2 = .ok (.putfield 26, 3) := by decide +kernel
theorem dX6_tell_22 : decode cX6_tell 22 = .ok (.astore_n 2, 1) := by decide +kernel
theorem dX6_tell_23 : decode cX6_tell 23 = .ok (.iconst 0, 1) := by decide +kernel
theorem dX6_tell_24 : decode cX6_tell 24 = .ok (.istore_n 3, 1) := by decide +kernel
theorem dX6_tell_25 : decode cX6_tell 25 = .ok (.iload_n 3, 1) := by decide +kernel
theorem dX6_tell_26 : decode cX6_tell 26 = .ok (.bipush 10, 2) := by decide +kernel
theorem dX6_tell_28 : decode cX6_tell 28 = .ok (.if_icmp .gt 62, 3) := by decide +kernel
theorem dX6_tell_31 : decode cX6_tell 31 = .ok (.aload_n 0, 1) := by decide +kernel
theorem dX6_tell_32 : decode cX6_tell 32 = .ok (.getfield 30, 3) := by decide +kernel
theorem dX6_tell_35 : decode cX6_tell 35 = .ok (.ifCond .ne 55, 3) := by decide +kernel
theorem dX6_tell_38 : decode cX6_tell 38 = .ok (.aload_n 0, 1) := by decide +kernel
theorem dX6_tell_39 : decode cX6_tell 39 = .ok (.invokevirtual 39, 3) := by decide +kernel
theorem dX6_tell_42 : decode cX6_tell 42 = .ok (.aload_n 0, 1) := by decide +kernel
theorem dX6_tell_43 : decode cX6_tell 43 = .ok (.getfield 26, 3) := by decide +kernel
theorem dX6_tell_46 : decode cX6_tell 46 = .ok (.aload_n 0, 1) := by decide +kernel
theorem dX6_tell_47 : decode cX6_tell 47 = .ok (.getfield 9, 3) := by decide +kernel
theorem dX6_tell_5 : decode cX6_tell 5 = .ok (.aload_n 0, 1) := by decide +kernel
theorem dX6_tell_50 : decode cX6_tell 50 = .ok (.invokevirtual 42, 3) := by decide +kernel
theorem dX6_tell_53 : decode cX6_tell 53 = .ok (.if_icmp .lt 5, 3) := by decide +kernel
theorem dX6_tell_56 : decode cX6_tell 56 = .ok (.aload_n 2, 1) := by decide +kernel
theorem dX6_tell_57 : decode cX6_tell 57 = .ok (.areturn, 1) := by decide +kernel
theorem dX6_tell_6 : decode cX6_tell 6 = .ok (.iconst 0, 1) := by decide +kernel
theorem dX6_tell_7 : decode cX6_tell 7 = .ok (.putfield 30, 3) := by decide +kernel
theorem dX7_init_0 : decode cX7_init 0 = .ok (.aload_n 0, 1) := by decide +kernel
theorem dX7_init_1 : decode cX7_init 1 = .ok (.invokespecial 3, 3) := by decide +kernel
theorem dX7_init_10 : decode cX7_init 10 = .ok (.sipush 1024, 3) := by decide +kernel
theorem dX7_init_13 : decode cX7_init 13 = .ok (.newarray .int, 2) := by decide +kernel
theorem dX7_init_15 : decode cX7_init 15 = .ok (.putfield 15, 3) := by decide +kernel
theorem dX7_init_18 : decode cX7_init 18 = .ok (.return_, 1) := by decide +kernel
theorem dX7_init_4 : decode cX7_init 4 = .ok (.aload_n 0, 1) := by decide +kernel
theorem dX7_init_5 : decode cX7_init 5 = .ok (.aload_n 1, 1) := by decide +kernel
theorem dX7_init_6 : decode cX7_init 6 = .ok (.putfield 9, 3) := by decide +kernel
theorem dX7_init_9 : decode cX7_init 9 = .ok (.aload_n 0, 1) := by decide +kernel
def wp_X1_init : List Cond := .code yX1_init cX1_init 1 none :: ([.methodLink RX1 3 objectInit, .instanceMethod objectInit, .code objectInit ⟨#[0xb1]⟩ 1 none, .classLink RX1 9 RX0, .fieldLink RX1 11 "RecordBench$Make" "fields" "[LRecordBench$Field;", .fieldLink RX1 17 "RecordBench$Make" "count" "I"] ++ wsX10)
set_option maxHeartbeats 4000000 in
set_option maxRecDepth 100000 in
theorem c_X1_init (l : Launch) (dC : Nat → ClassId) (dI : Nat → Nat → Nat) (h0 : Nat) (sz : Nat) : Met l yX1_init wp_X1_init ({ frames := 1, cells := 1, slots := 31, locals := 16 }) (va_Pc [.ref h0] (Pr (dC, dI) [] [(h0, .inr (3, [.null, .int 0]))] sz)) (va_Qv (fun (q : Nat) => True) (Bq (dC, dI) (fun (q : Nat) => [(h0, .inr (3, [.ref q, .int 0]))]) (fun (q : Nat) => []) (va_A [(h0, .inr (3, [.null, .int 0]))] sz)) (va_A [(h0, .inr (3, [.null, .int 0]))] sz)) 1 31 (va_A [(h0, .inr (3, [.null, .int 0]))] sz) := by
  refine Met.ofW (cc := cX1_init) (maxL := 1) (ret := none) (by decide) rfl ?_
  intro p e s m args below meth c s₁ B hml hv
  obtain ⟨rfl, hsz, hP, hK, hD0, hN, hZ⟩ := hv
  have hx := B.exec
  have hb := B.bytes
  have hr := B.returns
  have hts := atoms_spec (ws := wp_X1_init) B.pre
  have hown : s.vm.findClass RX1 = some m.cls := findClass_of_methodNamed B.named
  have hlocks := B.notSynchronized
  have hin : meth.name = "<init>" := (name_of_methodNamed B.named B.method).1
  have iRX1 : ∀ w ∈ u_ws RX1 TX1 2, w ∈ wp_X1_init := by decide +kernel
  subst hsz
  have hD := hD0.self (sz := s.heap.size)
  generalize hAe : va_A [(h0, .inr (3, [.null, .int 0]))] s.heap.size = A at hD hZ ⊢
  have hA : ∀ q : Nat, s.heap.size ≤ q → A q := fun q h => by rw [← hAe]; exact Or.inr h
  have hS : va_S A s.heap s.heap [] := va_S.rf
  have hP : va_P (dC, dI) vwCl [(h0, .inr (3, [.null, .int 0]))] s.heap := hP
  have hl := lv_entry ([.ref h0]) (n := 1) (Nat.le_of_ble_eq_true rfl)
  rw [lg_entry_eq]
  generalize (lg_sl ([.ref h0]) ++ List.replicate (1 - (lg_sl ([.ref h0])).length) Slot.unset).toArray = ls at hl ⊢
  have hl : lv_has ls 1 [(0, .ref h0)] := hl
  refine lv_aload_n hx hb dX1_init_0 rfl (lv_at hl 0 rfl) ?_
  refine W.objInit hx hb hown (hts (.methodLink RX1 3 objectInit) (by decide +kernel)) (hts (.instanceMethod objectInit) (by decide +kernel)) (hts (.code objectInit ⟨#[0xb1]⟩ 1 none) (by decide +kernel)) rfl (by rw [hml]; exact hl.1) rfl dX1_init_1 (Nat.le_of_ble_eq_true rfl) (Nat.le_of_ble_eq_true rfl) ?_
  refine W.eq (g2 := F0 m 4 ls []) rfl ?_
  refine lv_aload_n hx hb dX1_init_4 rfl (lv_at hl 0 rfl) ?_
  refine lv_bipush (v := 31) hx hb dX1_init_5 (by decide) ?_
  refine va_newq (C := RX0) hx hb hown (hts (.classLink RX1 9 RX0) (by decide +kernel)) hN.2.2.2.2.2.2 hK hP hD hS hA (n := 31) (N' := 31) (by decide) (by decide) (by decide) (Nat.le_of_ble_eq_true rfl) (Nat.le_of_ble_eq_true rfl) dX1_init_7 (fun q_1 cA_2 H hK hP hD hS => ?_)
  have hP : va_P (dC, dI) vwCl [(h0, .inr (3, [.null, .int 0])), (q_1, .inl (cA_2, 31, .inr (.inr (.inr (.inr (fun _ => none))))))] H := hP
  have hD : va_D A [(h0, .inr (3, [.null, .int 0])), (q_1, .inl (cA_2, 31, .inr (.inr (.inr (.inr (fun _ => none))))))] := hD
  have hK : va_K (dC, dI) vwCl [(cA_2, .object RX0)] s := hK
  refine W.widen (k := 1) (n := 31) (by omega) (by omega) ?_
  refine va_putF (D := (dC, dI)) (ci := 3) (v := .ref q_1) (ty := (.array (.object "RecordBench$Field"))) (C := RX1) (T := TX1) (N := 2) hx hb hts iRX1 tyX1 tyX1_ok nmX1 hown hK hP hD hS 0 rfl rfl 0 (by decide) (hts (.fieldLink RX1 11 "RecordBench$Make" "fields" "[LRecordBench$Field;") (by decide +kernel)) (fun _ h9 => h9) rfl hin rfl (by decide +kernel) rfl rfl (Nat.le_of_ble_eq_true rfl) dX1_init_10 (fun H locs hP hD hS => ?_)
  have hP : va_P (dC, dI) vwCl [(h0, .inr (3, [.ref q_1, .int 0])), (q_1, .inl (cA_2, 31, .inr (.inr (.inr (.inr (fun _ => none))))))] H := hP
  have hD : va_D A [(h0, .inr (3, [.ref q_1, .int 0])), (q_1, .inl (cA_2, 31, .inr (.inr (.inr (.inr (fun _ => none))))))] := hD
  refine lv_aload_n hx hb dX1_init_13 rfl (lv_at hl 0 rfl) ?_
  refine lv_iconst (v := 0) hx hb dX1_init_14 (by decide) ?_
  refine va_put (D := (dC, dI)) (ci := 3) (v := .int 0) (ty := .int) (C := RX1) (T := TX1) (N := 2) hx hb hts iRX1 tyX1 tyX1_ok nmX1 hown hK hP hD hS 0 rfl rfl 1 (by decide) (hts (.fieldLink RX1 17 "RecordBench$Make" "count" "I") (by decide +kernel)) (fun _ h9 => h9) rfl (by decide +kernel) rfl rfl (Nat.le_of_ble_eq_true rfl) dX1_init_15 (fun H locs hP hD hS => ?_)
  have hP : va_P (dC, dI) vwCl [(h0, .inr (3, [.ref q_1, .int 0])), (q_1, .inl (cA_2, 31, .inr (.inr (.inr (.inr (fun _ => none))))))] H := hP
  have hD : va_D A [(h0, .inr (3, [.ref q_1, .int 0])), (q_1, .inl (cA_2, 31, .inr (.inr (.inr (.inr (fun _ => none))))))] := hD
  have hP9 := hP.sub (ws' := [(h0, .inr (3, [.ref q_1, .int 0]))]) [0] rfl
  have hD9 := hD.sub (ws' := [(h0, .inr (3, [.ref q_1, .int 0]))]) [0] (by decide) rfl
  have hK9 := hK.sub (tys' := []) [] rfl
  exact W.vret hx hb hr (fun t ht hW => ⟨⟨q_1, rfl, trivial, by rw [ht]; exact hP9, va_K.moved hW.alike hK9, hD9⟩, hS.F ht⟩) hS.2.2 dX1_init_18
def wp_X1_count : List Cond := .code yX1_count cX1_count 1 (some .int) :: ([.fieldLink RX1 17 "RecordBench$Make" "count" "I"] ++ wsX10)
set_option maxHeartbeats 4000000 in
set_option maxRecDepth 100000 in
theorem c_X1_count (l : Launch) (dC : Nat → ClassId) (dI : Nat → Nat → Nat) (h0 : Nat) (q0 : Nat) (n0 : Int32) (sz : Nat) : Met l yX1_count wp_X1_count ({ frames := 0, cells := 0, slots := 0, locals := 0 }) (va_Pc [.ref h0] (Pr (dC, dI) [] [(h0, .inr (3, [.ref q0, .int n0]))] sz)) (va_Qi (fun r : Int32 => (fun _ : Unit => r = n0)) (Bq (dC, dI) (fun _ : Unit => [(h0, .inr (3, [.ref q0, .int n0]))]) (fun _ : Unit => []) (va_A [(h0, .inr (3, [.ref q0, .int n0]))] sz)) (va_A [(h0, .inr (3, [.ref q0, .int n0]))] sz)) 0 0 (va_A [(h0, .inr (3, [.ref q0, .int n0]))] sz) := by
  refine Met.ofW (cc := cX1_count) (maxL := 1) (ret := (some .int)) (by decide) rfl ?_
  intro p e s m args below meth c s₁ B hml hv
  obtain ⟨rfl, hsz, hP, hK, hD0, hN, hZ⟩ := hv
  have hx := B.exec
  have hb := B.bytes
  have hr := B.returns
  have hts := atoms_spec (ws := wp_X1_count) B.pre
  have hown : s.vm.findClass RX1 = some m.cls := findClass_of_methodNamed B.named
  have hlocks := B.notSynchronized
  have iRX1 : ∀ w ∈ u_ws RX1 TX1 2, w ∈ wp_X1_count := by decide +kernel
  subst hsz
  have hD := hD0.self (sz := s.heap.size)
  generalize hAe : va_A [(h0, .inr (3, [.ref q0, .int n0]))] s.heap.size = A at hD hZ ⊢
  have hA : ∀ q : Nat, s.heap.size ≤ q → A q := fun q h => by rw [← hAe]; exact Or.inr h
  have hS : va_S A s.heap s.heap [] := va_S.rf
  have hP : va_P (dC, dI) vwCl [(h0, .inr (3, [.ref q0, .int n0]))] s.heap := hP
  have hl := lv_entry ([.ref h0]) (n := 1) (Nat.le_of_ble_eq_true rfl)
  rw [lg_entry_eq]
  generalize (lg_sl ([.ref h0]) ++ List.replicate (1 - (lg_sl ([.ref h0])).length) Slot.unset).toArray = ls at hl ⊢
  have hl : lv_has ls 1 [(0, .ref h0)] := hl
  refine lv_aload_n hx hb dX1_count_0 rfl (lv_at hl 0 rfl) ?_
  refine va_get (D := (dC, dI)) (ci := 3) (v := .int n0) (C := RX1) (T := TX1) (N := 2) hx hb hts iRX1 hown hK hP 0 rfl rfl 1 (by decide) (hts (.fieldLink RX1 17 "RecordBench$Make" "count" "I") (by decide +kernel)) (fun _ h9 => h9) rfl dX1_count_1 ?_
  have hP9 := hP.sub (ws' := [(h0, .inr (3, [.ref q0, .int n0]))]) [0] rfl
  have hD9 := hD.sub (ws' := [(h0, .inr (3, [.ref q0, .int n0]))]) [0] (by decide) rfl
  have hK9 := hK.sub (tys' := []) [] rfl
  exact W.iret (v := n0) hx hb hr (fun t ht hW => ⟨⟨n0, (), rfl, rfl, by rw [ht]; exact hP9, va_K.moved hW.alike hK9, hD9⟩, hS.F ht⟩) hS.2.2 dX1_count_4
def wp_X2_init : List Cond := .code yX2_init cX2_init 1 none :: ([.methodLink RX2 3 objectInit, .instanceMethod objectInit, .code objectInit ⟨#[0xb1]⟩ 1 none, .fieldLink RX2 9 "RecordBench$Piece" "number" "I", .fieldLink RX2 15 "RecordBench$Piece" "withLength" "Z", .fieldLink RX2 19 "RecordBench$Piece" "raw" "J", .fieldLink RX2 23 "RecordBench$Piece" "body" "I", .fieldLink RX2 26 "RecordBench$Piece" "end" "I", .fieldLink RX2 29 "RecordBench$Piece" "fault" "I", .fieldLink RX2 32 "RecordBench$Piece" "pos" "I", .fieldLink RX2 35 "RecordBench$Piece" "broken" "Z"] ++ wsX20)
set_option maxHeartbeats 4000000 in
set_option maxRecDepth 100000 in
theorem c_X2_init (l : Launch) (dC : Nat → ClassId) (dI : Nat → Nat → Nat) (h0 : Nat) (sz : Nat) : Met l yX2_init wp_X2_init ({ frames := 1, cells := 0, slots := 0, locals := 16 }) (va_Pc [.ref h0] (Pr (dC, dI) [] [(h0, .inr (4, [.int 0, .int 0, .long 0, .int 0, .int 0, .int 0, .int 0, .int 0]))] sz)) (va_Qv (fun _ : Unit => True) (Bq (dC, dI) (fun _ : Unit => [(h0, .inr (4, [.int 0, .int 0, .long 0, .int 0, .int 0, .int 0, .int 0, .int 0]))]) (fun _ : Unit => []) (va_A [(h0, .inr (4, [.int 0, .int 0, .long 0, .int 0, .int 0, .int 0, .int 0, .int 0]))] sz)) (va_A [(h0, .inr (4, [.int 0, .int 0, .long 0, .int 0, .int 0, .int 0, .int 0, .int 0]))] sz)) 0 0 (va_A [(h0, .inr (4, [.int 0, .int 0, .long 0, .int 0, .int 0, .int 0, .int 0, .int 0]))] sz) := by
  refine Met.ofW (cc := cX2_init) (maxL := 1) (ret := none) (by decide) rfl ?_
  intro p e s m args below meth c s₁ B hml hv
  obtain ⟨rfl, hsz, hP, hK, hD0, hN, hZ⟩ := hv
  have hx := B.exec
  have hb := B.bytes
  have hr := B.returns
  have hts := atoms_spec (ws := wp_X2_init) B.pre
  have hown : s.vm.findClass RX2 = some m.cls := findClass_of_methodNamed B.named
  have hlocks := B.notSynchronized
  have iRX2 : ∀ w ∈ u_ws RX2 TX2 8, w ∈ wp_X2_init := by decide +kernel
  subst hsz
  have hD := hD0.self (sz := s.heap.size)
  generalize hAe : va_A [(h0, .inr (4, [.int 0, .int 0, .long 0, .int 0, .int 0, .int 0, .int 0, .int 0]))] s.heap.size = A at hD hZ ⊢
  have hA : ∀ q : Nat, s.heap.size ≤ q → A q := fun q h => by rw [← hAe]; exact Or.inr h
  have hS : va_S A s.heap s.heap [] := va_S.rf
  have hP : va_P (dC, dI) vwCl [(h0, .inr (4, [.int 0, .int 0, .long 0, .int 0, .int 0, .int 0, .int 0, .int 0]))] s.heap := hP
  have hl := lv_entry ([.ref h0]) (n := 1) (Nat.le_of_ble_eq_true rfl)
  rw [lg_entry_eq]
  generalize (lg_sl ([.ref h0]) ++ List.replicate (1 - (lg_sl ([.ref h0])).length) Slot.unset).toArray = ls at hl ⊢
  have hl : lv_has ls 1 [(0, .ref h0)] := hl
  refine lv_aload_n hx hb dX2_init_0 rfl (lv_at hl 0 rfl) ?_
  refine W.objInit hx hb hown (hts (.methodLink RX2 3 objectInit) (by decide +kernel)) (hts (.instanceMethod objectInit) (by decide +kernel)) (hts (.code objectInit ⟨#[0xb1]⟩ 1 none) (by decide +kernel)) rfl (by rw [hml]; exact hl.1) rfl dX2_init_1 (Nat.le_of_ble_eq_true rfl) (Nat.le_of_ble_eq_true rfl) ?_
  refine W.eq (g2 := F0 m 4 ls []) rfl ?_
  refine lv_aload_n hx hb dX2_init_4 rfl (lv_at hl 0 rfl) ?_
  refine lv_iconst (v := 0) hx hb dX2_init_5 (by decide) ?_
  refine va_put (D := (dC, dI)) (ci := 4) (v := .int 0) (ty := .int) (C := RX2) (T := TX2) (N := 8) hx hb hts iRX2 tyX2 tyX2_ok nmX2 hown hK hP hD hS 0 rfl rfl 0 (by decide) (hts (.fieldLink RX2 9 "RecordBench$Piece" "number" "I") (by decide +kernel)) (fun _ h9 => h9) rfl (by decide +kernel) rfl rfl (Nat.le_of_ble_eq_true rfl) dX2_init_6 (fun H locs hP hD hS => ?_)
  have hP : va_P (dC, dI) vwCl [(h0, .inr (4, [.int 0, .int 0, .long 0, .int 0, .int 0, .int 0, .int 0, .int 0]))] H := hP
  have hD : va_D A [(h0, .inr (4, [.int 0, .int 0, .long 0, .int 0, .int 0, .int 0, .int 0, .int 0]))] := hD
  refine lv_aload_n hx hb dX2_init_9 rfl (lv_at hl 0 rfl) ?_
  refine lv_iconst (v := 0) hx hb dX2_init_10 (by decide) ?_
  refine va_put (D := (dC, dI)) (ci := 4) (v := .int 0) (ty := .boolean) (C := RX2) (T := TX2) (N := 8) hx hb hts iRX2 tyX2 tyX2_ok nmX2 hown hK hP hD hS 0 rfl rfl 1 (by decide) (hts (.fieldLink RX2 15 "RecordBench$Piece" "withLength" "Z") (by decide +kernel)) (fun _ h9 => h9) rfl (by decide +kernel) rfl rfl (Nat.le_of_ble_eq_true rfl) dX2_init_11 (fun H locs hP hD hS => ?_)
  have hP : va_P (dC, dI) vwCl [(h0, .inr (4, [.int 0, .int 0, .long 0, .int 0, .int 0, .int 0, .int 0, .int 0]))] H := hP
  have hD : va_D A [(h0, .inr (4, [.int 0, .int 0, .long 0, .int 0, .int 0, .int 0, .int 0, .int 0]))] := hD
  refine lv_aload_n hx hb dX2_init_14 rfl (lv_at hl 0 rfl) ?_
  refine lv_lconst (v := 0) hx hb dX2_init_15 (by decide) ?_
  refine va_put (D := (dC, dI)) (ci := 4) (v := .long 0) (ty := .long) (C := RX2) (T := TX2) (N := 8) hx hb hts iRX2 tyX2 tyX2_ok nmX2 hown hK hP hD hS 0 rfl rfl 2 (by decide) (hts (.fieldLink RX2 19 "RecordBench$Piece" "raw" "J") (by decide +kernel)) (fun _ h9 => h9) rfl (by decide +kernel) rfl rfl (Nat.le_of_ble_eq_true rfl) dX2_init_16 (fun H locs hP hD hS => ?_)
  have hP : va_P (dC, dI) vwCl [(h0, .inr (4, [.int 0, .int 0, .long 0, .int 0, .int 0, .int 0, .int 0, .int 0]))] H := hP
  have hD : va_D A [(h0, .inr (4, [.int 0, .int 0, .long 0, .int 0, .int 0, .int 0, .int 0, .int 0]))] := hD
  refine lv_aload_n hx hb dX2_init_19 rfl (lv_at hl 0 rfl) ?_
  refine lv_iconst (v := 0) hx hb dX2_init_20 (by decide) ?_
  refine va_put (D := (dC, dI)) (ci := 4) (v := .int 0) (ty := .int) (C := RX2) (T := TX2) (N := 8) hx hb hts iRX2 tyX2 tyX2_ok nmX2 hown hK hP hD hS 0 rfl rfl 3 (by decide) (hts (.fieldLink RX2 23 "RecordBench$Piece" "body" "I") (by decide +kernel)) (fun _ h9 => h9) rfl (by decide +kernel) rfl rfl (Nat.le_of_ble_eq_true rfl) dX2_init_21 (fun H locs hP hD hS => ?_)
  have hP : va_P (dC, dI) vwCl [(h0, .inr (4, [.int 0, .int 0, .long 0, .int 0, .int 0, .int 0, .int 0, .int 0]))] H := hP
  have hD : va_D A [(h0, .inr (4, [.int 0, .int 0, .long 0, .int 0, .int 0, .int 0, .int 0, .int 0]))] := hD
  refine lv_aload_n hx hb dX2_init_24 rfl (lv_at hl 0 rfl) ?_
  refine lv_iconst (v := 0) hx hb dX2_init_25 (by decide) ?_
  refine va_put (D := (dC, dI)) (ci := 4) (v := .int 0) (ty := .int) (C := RX2) (T := TX2) (N := 8) hx hb hts iRX2 tyX2 tyX2_ok nmX2 hown hK hP hD hS 0 rfl rfl 4 (by decide) (hts (.fieldLink RX2 26 "RecordBench$Piece" "end" "I") (by decide +kernel)) (fun _ h9 => h9) rfl (by decide +kernel) rfl rfl (Nat.le_of_ble_eq_true rfl) dX2_init_26 (fun H locs hP hD hS => ?_)
  have hP : va_P (dC, dI) vwCl [(h0, .inr (4, [.int 0, .int 0, .long 0, .int 0, .int 0, .int 0, .int 0, .int 0]))] H := hP
  have hD : va_D A [(h0, .inr (4, [.int 0, .int 0, .long 0, .int 0, .int 0, .int 0, .int 0, .int 0]))] := hD
  refine lv_aload_n hx hb dX2_init_29 rfl (lv_at hl 0 rfl) ?_
  refine lv_iconst (v := 0) hx hb dX2_init_30 (by decide) ?_
  refine va_put (D := (dC, dI)) (ci := 4) (v := .int 0) (ty := .int) (C := RX2) (T := TX2) (N := 8) hx hb hts iRX2 tyX2 tyX2_ok nmX2 hown hK hP hD hS 0 rfl rfl 5 (by decide) (hts (.fieldLink RX2 29 "RecordBench$Piece" "fault" "I") (by decide +kernel)) (fun _ h9 => h9) rfl (by decide +kernel) rfl rfl (Nat.le_of_ble_eq_true rfl) dX2_init_31 (fun H locs hP hD hS => ?_)
  have hP : va_P (dC, dI) vwCl [(h0, .inr (4, [.int 0, .int 0, .long 0, .int 0, .int 0, .int 0, .int 0, .int 0]))] H := hP
  have hD : va_D A [(h0, .inr (4, [.int 0, .int 0, .long 0, .int 0, .int 0, .int 0, .int 0, .int 0]))] := hD
  refine lv_aload_n hx hb dX2_init_34 rfl (lv_at hl 0 rfl) ?_
  refine lv_iconst (v := 0) hx hb dX2_init_35 (by decide) ?_
  refine va_put (D := (dC, dI)) (ci := 4) (v := .int 0) (ty := .int) (C := RX2) (T := TX2) (N := 8) hx hb hts iRX2 tyX2 tyX2_ok nmX2 hown hK hP hD hS 0 rfl rfl 6 (by decide) (hts (.fieldLink RX2 32 "RecordBench$Piece" "pos" "I") (by decide +kernel)) (fun _ h9 => h9) rfl (by decide +kernel) rfl rfl (Nat.le_of_ble_eq_true rfl) dX2_init_36 (fun H locs hP hD hS => ?_)
  have hP : va_P (dC, dI) vwCl [(h0, .inr (4, [.int 0, .int 0, .long 0, .int 0, .int 0, .int 0, .int 0, .int 0]))] H := hP
  have hD : va_D A [(h0, .inr (4, [.int 0, .int 0, .long 0, .int 0, .int 0, .int 0, .int 0, .int 0]))] := hD
  refine lv_aload_n hx hb dX2_init_39 rfl (lv_at hl 0 rfl) ?_
  refine lv_iconst (v := 0) hx hb dX2_init_40 (by decide) ?_
  refine va_put (D := (dC, dI)) (ci := 4) (v := .int 0) (ty := .boolean) (C := RX2) (T := TX2) (N := 8) hx hb hts iRX2 tyX2 tyX2_ok nmX2 hown hK hP hD hS 0 rfl rfl 7 (by decide) (hts (.fieldLink RX2 35 "RecordBench$Piece" "broken" "Z") (by decide +kernel)) (fun _ h9 => h9) rfl (by decide +kernel) rfl rfl (Nat.le_of_ble_eq_true rfl) dX2_init_41 (fun H locs hP hD hS => ?_)
  have hP : va_P (dC, dI) vwCl [(h0, .inr (4, [.int 0, .int 0, .long 0, .int 0, .int 0, .int 0, .int 0, .int 0]))] H := hP
  have hD : va_D A [(h0, .inr (4, [.int 0, .int 0, .long 0, .int 0, .int 0, .int 0, .int 0, .int 0]))] := hD
  have hP9 := hP.sub (ws' := [(h0, .inr (4, [.int 0, .int 0, .long 0, .int 0, .int 0, .int 0, .int 0, .int 0]))]) [0] rfl
  have hD9 := hD.sub (ws' := [(h0, .inr (4, [.int 0, .int 0, .long 0, .int 0, .int 0, .int 0, .int 0, .int 0]))]) [0] (by decide) rfl
  have hK9 := hK.sub (tys' := []) [] rfl
  exact W.vret hx hb hr (fun t ht hW => ⟨⟨(), rfl, trivial, by rw [ht]; exact hP9, va_K.moved hW.alike hK9, hD9⟩, hS.F ht⟩) hS.2.2 dX2_init_44
def wp_X3_init : List Cond := .code yX3_init cX3_init 3 none :: ([.methodLink RX3 3 objectInit, .instanceMethod objectInit, .code objectInit ⟨#[0xb1]⟩ 1 none, .fieldLink RX3 9 "RecordBench$RecordReader" "makes" "[LRecordBench$Make;", .classLink RX3 15 RX2, .fieldLink RX3 17 "RecordBench$RecordReader" "pieces" "[LRecordBench$Piece;", .instantiable RX2 8, .initialized RX2, .instanceMethod yX2_init, .fieldLink RX3 22 "RecordBench$RecordReader" "fault" "I", .fieldLink RX3 26 "RecordBench$RecordReader" "place" "I", .code yX2_init cX2_init 1 none, .methodLink RX2 3 objectInit, .fieldLink RX2 9 "RecordBench$Piece" "number" "I", .fieldLink RX2 15 "RecordBench$Piece" "withLength" "Z", .fieldLink RX2 19 "RecordBench$Piece" "raw" "J", .fieldLink RX2 23 "RecordBench$Piece" "body" "I", .fieldLink RX2 26 "RecordBench$Piece" "end" "I", .fieldLink RX2 29 "RecordBench$Piece" "fault" "I", .fieldLink RX2 32 "RecordBench$Piece" "pos" "I", .fieldLink RX2 35 "RecordBench$Piece" "broken" "Z"] ++ wsX30 ++ wsX20)
set_option maxRecDepth 20000 in
theorem gp_X3_init_X2_init_21 : GoodIn wp_X3_init (wp_X2_init) := goodIn_p _ [12, 3] rfl (by decide +kernel)
set_option maxHeartbeats 4000000 in
set_option maxRecDepth 100000 in
theorem c_X3_init (l : Launch) (dC : Nat → ClassId) (dI : Nat → Nat → Nat) (h0 : Nat) (m0 : Nat) (sz : Nat) : Met l yX3_init wp_X3_init ({ frames := 2, cells := 9, slots := 72, locals := 40 }) (va_Pc [.ref h0, .ref m0] (Pr (dC, dI) [] [(h0, .inr (5, [.null, .null, .int 0, .int 0]))] sz)) (va_Qv (fun _ : Unit => True) (Bq (dC, dI) (fun _ : Unit => []) (fun _ : Unit => []) (va_A [(h0, .inr (5, [.null, .null, .int 0, .int 0]))] sz)) (va_A [(h0, .inr (5, [.null, .null, .int 0, .int 0]))] sz)) 9 72 (va_A [(h0, .inr (5, [.null, .null, .int 0, .int 0]))] sz) := by
  refine Met.ofW (cc := cX3_init) (maxL := 3) (ret := none) (by decide) rfl ?_
  intro p e s m args below meth c s₁ B hml hv
  obtain ⟨rfl, hsz, hP, hK, hD0, hN, hZ⟩ := hv
  have hx := B.exec
  have hb := B.bytes
  have hr := B.returns
  have hts := atoms_spec (ws := wp_X3_init) B.pre
  have hown : s.vm.findClass RX3 = some m.cls := findClass_of_methodNamed B.named
  have hlocks := B.notSynchronized
  have hin : meth.name = "<init>" := (name_of_methodNamed B.named B.method).1
  have iRX3 : ∀ w ∈ u_ws RX3 TX3 4, w ∈ wp_X3_init := by decide +kernel
  have iRX2 : ∀ w ∈ u_ws RX2 TX2 8, w ∈ wp_X3_init := by decide +kernel
  subst hsz
  have hD := hD0.self (sz := s.heap.size)
  generalize hAe : va_A [(h0, .inr (5, [.null, .null, .int 0, .int 0]))] s.heap.size = A at hD hZ ⊢
  have hA : ∀ q : Nat, s.heap.size ≤ q → A q := fun q h => by rw [← hAe]; exact Or.inr h
  have hS : va_S A s.heap s.heap [] := va_S.rf
  have hP : va_P (dC, dI) vwCl [(h0, .inr (5, [.null, .null, .int 0, .int 0]))] s.heap := hP
  have hl := lv_entry ([.ref h0, .ref m0]) (n := 3) (Nat.le_of_ble_eq_true rfl)
  rw [lg_entry_eq]
  generalize (lg_sl ([.ref h0, .ref m0]) ++ List.replicate (3 - (lg_sl ([.ref h0, .ref m0])).length) Slot.unset).toArray = ls at hl ⊢
  have hl : lv_has ls 3 [(0, .ref h0), (1, .ref m0)] := hl
  refine lv_aload_n hx hb dX3_init_0 rfl (lv_at hl 0 rfl) ?_
  refine W.objInit hx hb hown (hts (.methodLink RX3 3 objectInit) (by decide +kernel)) (hts (.instanceMethod objectInit) (by decide +kernel)) (hts (.code objectInit ⟨#[0xb1]⟩ 1 none) (by decide +kernel)) rfl (by rw [hml]; exact hl.1) rfl dX3_init_1 (Nat.le_of_ble_eq_true rfl) (Nat.le_of_ble_eq_true rfl) ?_
  refine W.eq (g2 := F0 m 4 ls []) rfl ?_
  refine lv_aload_n hx hb dX3_init_4 rfl (lv_at hl 0 rfl) ?_
  refine lv_aload_n hx hb dX3_init_5 rfl (lv_at hl 1 rfl) ?_
  refine va_putF (D := (dC, dI)) (ci := 5) (v := .ref m0) (ty := (.array (.object "RecordBench$Make"))) (C := RX3) (T := TX3) (N := 4) hx hb hts iRX3 tyX3 tyX3_ok nmX3 hown hK hP hD hS 0 rfl rfl 0 (by decide) (hts (.fieldLink RX3 9 "RecordBench$RecordReader" "makes" "[LRecordBench$Make;") (by decide +kernel)) (fun _ h9 => h9) rfl hin rfl (by decide +kernel) rfl rfl (Nat.le_of_ble_eq_true rfl) dX3_init_6 (fun H locs hP hD hS => ?_)
  have hP : va_P (dC, dI) vwCl [(h0, .inr (5, [.ref m0, .null, .int 0, .int 0]))] H := hP
  have hD : va_D A [(h0, .inr (5, [.ref m0, .null, .int 0, .int 0]))] := hD
  refine lv_aload_n hx hb dX3_init_9 rfl (lv_at hl 0 rfl) ?_
  refine lv_bipush (v := 8) hx hb dX3_init_10 (by decide) ?_
  refine va_newq (C := RX2) hx hb hown (hts (.classLink RX3 15 RX2) (by decide +kernel)) hN.2.2.2.2.2.1 hK hP hD hS hA (n := 8) (N' := 8) (by decide) (by decide) (by decide) (Nat.le_of_ble_eq_true rfl) (Nat.le_of_ble_eq_true rfl) dX3_init_12 (fun q_1 cA_2 H hK hP hD hS => ?_)
  have hP : va_P (dC, dI) vwCl [(h0, .inr (5, [.ref m0, .null, .int 0, .int 0])), (q_1, .inl (cA_2, 8, .inr (.inr (.inr (.inr (fun _ => none))))))] H := hP
  have hD : va_D A [(h0, .inr (5, [.ref m0, .null, .int 0, .int 0])), (q_1, .inl (cA_2, 8, .inr (.inr (.inr (.inr (fun _ => none))))))] := hD
  have hK : va_K (dC, dI) vwCl [(cA_2, .object RX2)] s := hK
  refine W.widen (k := 1) (n := 8) (by omega) (by omega) ?_
  refine va_putF (D := (dC, dI)) (ci := 5) (v := .ref q_1) (ty := (.array (.object "RecordBench$Piece"))) (C := RX3) (T := TX3) (N := 4) hx hb hts iRX3 tyX3 tyX3_ok nmX3 hown hK hP hD hS 0 rfl rfl 1 (by decide) (hts (.fieldLink RX3 17 "RecordBench$RecordReader" "pieces" "[LRecordBench$Piece;") (by decide +kernel)) (fun _ h9 => h9) rfl hin rfl (by decide +kernel) rfl rfl (Nat.le_of_ble_eq_true rfl) dX3_init_15 (fun H locs hP hD hS => ?_)
  have hP : va_P (dC, dI) vwCl [(h0, .inr (5, [.ref m0, .ref q_1, .int 0, .int 0])), (q_1, .inl (cA_2, 8, .inr (.inr (.inr (.inr (fun _ => none))))))] H := hP
  have hD : va_D A [(h0, .inr (5, [.ref m0, .ref q_1, .int 0, .int 0])), (q_1, .inl (cA_2, 8, .inr (.inr (.inr (.inr (fun _ => none))))))] := hD
  refine lv_iconst (v := 0) hx hb dX3_init_18 (by decide) ?_
  refine lv_istore_n (lv' := [(2, .int 0), (0, .ref h0), (1, .ref m0)]) hx hb dX3_init_19 rfl hl (by decide) rfl (fun ls hl => ?_)
  refine lv_iload_n hx hb dX3_init_20 rfl (lv_at hl 0 rfl) ?_
  refine lv_bipush (v := 8) hx hb dX3_init_21 (by decide) ?_
  refine lv_icmp_ge (tgt := 45) hx hb dX3_init_23 (by decide) (fun c_3 => absurd c_3 (by decide)) (fun c_3 => ?_)
  refine lv_aload_n hx hb dX3_init_26 rfl (lv_at hl 1 rfl) ?_
  refine va_get (D := (dC, dI)) (ci := 5) (v := .ref q_1) (C := RX3) (T := TX3) (N := 4) hx hb hts iRX3 hown hK hP 0 rfl rfl 1 (by decide) (hts (.fieldLink RX3 17 "RecordBench$RecordReader" "pieces" "[LRecordBench$Piece;") (by decide +kernel)) (fun _ h9 => h9) rfl dX3_init_27 ?_
  refine lv_iload_n hx hb dX3_init_30 rfl (lv_at hl 0 rfl) ?_
  refine va_new (ci := 4) (fs := [.int 0, .int 0, .long 0, .int 0, .int 0, .int 0, .int 0, .int 0]) (C := RX2) (T := TX2) (N := 8) hx hb hts iRX2 tyX2 tyX2_ok hown (hts (.classLink RX3 15 RX2) (by decide +kernel)) (hts (.instantiable RX2 8) (by decide +kernel)) (hts (.initialized RX2) (by decide +kernel)) hK hP hD hS hA rfl fsX2_ok (Nat.le_of_ble_eq_true rfl) (Nat.le_of_ble_eq_true rfl) dX3_init_31 (fun q_4 H hP hD hS => ?_)
  have hP : va_P (dC, dI) vwCl [(h0, .inr (5, [.ref m0, .ref q_1, .int 0, .int 0])), (q_1, .inl (cA_2, 8, .inr (.inr (.inr (.inr (fun _ => none)))))), (q_4, .inr (4, [.int 0, .int 0, .long 0, .int 0, .int 0, .int 0, .int 0, .int 0]))] H := hP
  have hD : va_D A [(h0, .inr (5, [.ref m0, .ref q_1, .int 0, .int 0])), (q_1, .inl (cA_2, 8, .inr (.inr (.inr (.inr (fun _ => none)))))), (q_4, .inr (4, [.int 0, .int 0, .long 0, .int 0, .int 0, .int 0, .int 0, .int 0]))] := hD
  refine W.widen (k := 2) (n := 16) (by omega) (by omega) ?_
  refine lv_dup hx hb dX3_init_34 rfl ?_
  have hFc := va_free (wc := [(q_4, .inr (4, [.int 0, .int 0, .long 0, .int 0, .int 0, .int 0, .int 0, .int 0]))]) hD hS hA [2] rfl
  refine va_callv (va_runIN (As := []) (rest := [.ref q_4, .int 0, .ref q_1]) ⟨hx, hb, hml, hown, hts⟩ (c_X2_init l dC dI q_4 H.size) ⟨va_cnB 0 hts gp_X3_init_X2_init_21 rfl rfl rfl hN.1 (hts (.initialized RX2) (by decide +kernel)) (by decide +kernel) ⟨Nat.le_of_ble_eq_true rfl, Nat.le_of_ble_eq_true rfl⟩, rfl, (hts (.instanceMethod yX2_init) (by decide +kernel))⟩ ⟨Pr.blind _, fun U hU hW => ⟨rfl, Pr.at (hP.sub (ws' := [(q_4, .inr (4, [.int 0, .int 0, .long 0, .int 0, .int 0, .int 0, .int 0, .int 0]))]) [2] rfl) (hK.sub (tys' := []) [] rfl) (hD.sub (ws' := [(q_4, .inr (4, [.int 0, .int 0, .long 0, .int 0, .int 0, .int 0, .int 0, .int 0]))]) [2] (by decide) rfl) hN hZ hS hFc hU hW⟩⟩ rfl rfl hl.1 rfl (lv_room (Nat.le_of_ble_eq_true rfl)) dX3_init_35 ⟨Nat.le_of_ble_eq_true rfl, Nat.le_of_ble_eq_true rfl⟩) hS (fun q _ h => hFc q h) hFc (fun u t H1 locs ht hvm hw_6 hB hz1 hk1 hS => ?_)
  obtain ⟨hP, hD, hK⟩ := Bq.join (wr := [(h0, .inr (5, [.ref m0, .ref q_1, .int 0, .int 0])), (q_1, .inl (cA_2, 8, .inr (.inr (.inr (.inr (fun _ => none))))))]) hB ht hvm hP hD [2] [0, 1] rfl rfl (by decide) (by decide) hk1 hFc hK
  generalize H1 = H at hP hS ⊢
  have hP : va_P (dC, dI) vwCl [(h0, .inr (5, [.ref m0, .ref q_1, .int 0, .int 0])), (q_1, .inl (cA_2, 8, .inr (.inr (.inr (.inr (fun _ => none)))))), (q_4, .inr (4, [.int 0, .int 0, .long 0, .int 0, .int 0, .int 0, .int 0, .int 0]))] H := hP
  have hD : va_D A [(h0, .inr (5, [.ref m0, .ref q_1, .int 0, .int 0])), (q_1, .inl (cA_2, 8, .inr (.inr (.inr (.inr (fun _ => none)))))), (q_4, .inr (4, [.int 0, .int 0, .long 0, .int 0, .int 0, .int 0, .int 0, .int 0]))] := hD
  have hK : va_K (dC, dI) vwCl [(cA_2, .object RX2)] s := hK
  refine va_astq hx hb hK hP hD hS 1 0 2 4 rfl rfl rfl rfl (by unfold vp_in; decide) dX3_init_38 (fun H locs hP hD hS => ?_)
  obtain ⟨f_7, ef_7⟩ : ∃ y : Nat → Option Nat, y = va_up (fun _ => none) 0 (some q_4) := ⟨_, rfl⟩
  have hP : va_P (dC, dI) vwCl [(h0, .inr (5, [.ref m0, .ref q_1, .int 0, .int 0])), (q_1, .inl (cA_2, 8, .inr (.inr (.inr (.inr f_7))))), (q_4, .inr (4, [.int 0, .int 0, .long 0, .int 0, .int 0, .int 0, .int 0, .int 0]))] H := by rw [ef_7]; exact hP
  have hD : va_D A [(h0, .inr (5, [.ref m0, .ref q_1, .int 0, .int 0])), (q_1, .inl (cA_2, 8, .inr (.inr (.inr (.inr f_7))))), (q_4, .inr (4, [.int 0, .int 0, .long 0, .int 0, .int 0, .int 0, .int 0, .int 0]))] := by rw [ef_7]; exact hD
  have hP := hP.sub (ws' := [(h0, .inr (5, [.ref m0, .ref q_1, .int 0, .int 0])), (q_1, .inl (cA_2, 8, .inr (.inr (.inr (.inr f_7)))))]) [0, 1] rfl
  have hD := hD.sub (ws' := [(h0, .inr (5, [.ref m0, .ref q_1, .int 0, .int 0])), (q_1, .inl (cA_2, 8, .inr (.inr (.inr (.inr f_7)))))]) [0, 1] (by decide) rfl
  refine lv_iinc (v := 1) (lv' := [(2, .int 1), (0, .ref h0), (1, .ref m0)]) hx hb dX3_init_39 hl (k := 0) rfl (by decide) (by decide) rfl (fun ls hl => ?_)
  refine lv_goto (tgt := 20) hx hb dX3_init_42 (by decide) ?_
  refine lv_iload_n hx hb dX3_init_20 rfl (lv_at hl 0 rfl) ?_
  refine lv_bipush (v := 8) hx hb dX3_init_21 (by decide) ?_
  refine lv_icmp_ge (tgt := 45) hx hb dX3_init_23 (by decide) (fun c_8 => absurd c_8 (by decide)) (fun c_8 => ?_)
  refine lv_aload_n hx hb dX3_init_26 rfl (lv_at hl 1 rfl) ?_
  refine va_get (D := (dC, dI)) (ci := 5) (v := .ref q_1) (C := RX3) (T := TX3) (N := 4) hx hb hts iRX3 hown hK hP 0 rfl rfl 1 (by decide) (hts (.fieldLink RX3 17 "RecordBench$RecordReader" "pieces" "[LRecordBench$Piece;") (by decide +kernel)) (fun _ h9 => h9) rfl dX3_init_27 ?_
  refine lv_iload_n hx hb dX3_init_30 rfl (lv_at hl 0 rfl) ?_
  refine va_new (ci := 4) (fs := [.int 0, .int 0, .long 0, .int 0, .int 0, .int 0, .int 0, .int 0]) (C := RX2) (T := TX2) (N := 8) hx hb hts iRX2 tyX2 tyX2_ok hown (hts (.classLink RX3 15 RX2) (by decide +kernel)) (hts (.instantiable RX2 8) (by decide +kernel)) (hts (.initialized RX2) (by decide +kernel)) hK hP hD hS hA rfl fsX2_ok (Nat.le_of_ble_eq_true rfl) (Nat.le_of_ble_eq_true rfl) dX3_init_31 (fun q_9 H hP hD hS => ?_)
  have hP : va_P (dC, dI) vwCl [(h0, .inr (5, [.ref m0, .ref q_1, .int 0, .int 0])), (q_1, .inl (cA_2, 8, .inr (.inr (.inr (.inr f_7))))), (q_9, .inr (4, [.int 0, .int 0, .long 0, .int 0, .int 0, .int 0, .int 0, .int 0]))] H := hP
  have hD : va_D A [(h0, .inr (5, [.ref m0, .ref q_1, .int 0, .int 0])), (q_1, .inl (cA_2, 8, .inr (.inr (.inr (.inr f_7))))), (q_9, .inr (4, [.int 0, .int 0, .long 0, .int 0, .int 0, .int 0, .int 0, .int 0]))] := hD
  refine W.widen (k := 3) (n := 24) (by omega) (by omega) ?_
  refine lv_dup hx hb dX3_init_34 rfl ?_
  have hFc := va_free (wc := [(q_9, .inr (4, [.int 0, .int 0, .long 0, .int 0, .int 0, .int 0, .int 0, .int 0]))]) hD hS hA [2] rfl
  refine va_callv (va_runIN (As := []) (rest := [.ref q_9, .int 1, .ref q_1]) ⟨hx, hb, hml, hown, hts⟩ (c_X2_init l dC dI q_9 H.size) ⟨va_cnB 0 hts gp_X3_init_X2_init_21 rfl rfl rfl hN.1 (hts (.initialized RX2) (by decide +kernel)) (by decide +kernel) ⟨Nat.le_of_ble_eq_true rfl, Nat.le_of_ble_eq_true rfl⟩, rfl, (hts (.instanceMethod yX2_init) (by decide +kernel))⟩ ⟨Pr.blind _, fun U hU hW => ⟨rfl, Pr.at (hP.sub (ws' := [(q_9, .inr (4, [.int 0, .int 0, .long 0, .int 0, .int 0, .int 0, .int 0, .int 0]))]) [2] rfl) (hK.sub (tys' := []) [] rfl) (hD.sub (ws' := [(q_9, .inr (4, [.int 0, .int 0, .long 0, .int 0, .int 0, .int 0, .int 0, .int 0]))]) [2] (by decide) rfl) hN hZ hS hFc hU hW⟩⟩ rfl rfl hl.1 rfl (lv_room (Nat.le_of_ble_eq_true rfl)) dX3_init_35 ⟨Nat.le_of_ble_eq_true rfl, Nat.le_of_ble_eq_true rfl⟩) hS (fun q _ h => hFc q h) hFc (fun u t H1 locs ht hvm hw_11 hB hz1 hk1 hS => ?_)
  obtain ⟨hP, hD, hK⟩ := Bq.join (wr := [(h0, .inr (5, [.ref m0, .ref q_1, .int 0, .int 0])), (q_1, .inl (cA_2, 8, .inr (.inr (.inr (.inr f_7)))))]) hB ht hvm hP hD [2] [0, 1] rfl rfl (by decide) (by decide) hk1 hFc hK
  generalize H1 = H at hP hS ⊢
  have hP : va_P (dC, dI) vwCl [(h0, .inr (5, [.ref m0, .ref q_1, .int 0, .int 0])), (q_1, .inl (cA_2, 8, .inr (.inr (.inr (.inr f_7))))), (q_9, .inr (4, [.int 0, .int 0, .long 0, .int 0, .int 0, .int 0, .int 0, .int 0]))] H := hP
  have hD : va_D A [(h0, .inr (5, [.ref m0, .ref q_1, .int 0, .int 0])), (q_1, .inl (cA_2, 8, .inr (.inr (.inr (.inr f_7))))), (q_9, .inr (4, [.int 0, .int 0, .long 0, .int 0, .int 0, .int 0, .int 0, .int 0]))] := hD
  have hK : va_K (dC, dI) vwCl [(cA_2, .object RX2)] s := hK
  refine va_astq hx hb hK hP hD hS 1 0 2 4 rfl rfl rfl rfl (by unfold vp_in; decide) dX3_init_38 (fun H locs hP hD hS => ?_)
  obtain ⟨f_12, ef_12⟩ : ∃ y : Nat → Option Nat, y = va_up f_7 1 (some q_9) := ⟨_, rfl⟩
  have hP : va_P (dC, dI) vwCl [(h0, .inr (5, [.ref m0, .ref q_1, .int 0, .int 0])), (q_1, .inl (cA_2, 8, .inr (.inr (.inr (.inr f_12))))), (q_9, .inr (4, [.int 0, .int 0, .long 0, .int 0, .int 0, .int 0, .int 0, .int 0]))] H := by rw [ef_12]; exact hP
  have hD : va_D A [(h0, .inr (5, [.ref m0, .ref q_1, .int 0, .int 0])), (q_1, .inl (cA_2, 8, .inr (.inr (.inr (.inr f_12))))), (q_9, .inr (4, [.int 0, .int 0, .long 0, .int 0, .int 0, .int 0, .int 0, .int 0]))] := by rw [ef_12]; exact hD
  have hP := hP.sub (ws' := [(h0, .inr (5, [.ref m0, .ref q_1, .int 0, .int 0])), (q_1, .inl (cA_2, 8, .inr (.inr (.inr (.inr f_12)))))]) [0, 1] rfl
  have hD := hD.sub (ws' := [(h0, .inr (5, [.ref m0, .ref q_1, .int 0, .int 0])), (q_1, .inl (cA_2, 8, .inr (.inr (.inr (.inr f_12)))))]) [0, 1] (by decide) rfl
  refine lv_iinc (v := 2) (lv' := [(2, .int 2), (0, .ref h0), (1, .ref m0)]) hx hb dX3_init_39 hl (k := 0) rfl (by decide) (by decide) rfl (fun ls hl => ?_)
  refine lv_goto (tgt := 20) hx hb dX3_init_42 (by decide) ?_
  refine lv_iload_n hx hb dX3_init_20 rfl (lv_at hl 0 rfl) ?_
  refine lv_bipush (v := 8) hx hb dX3_init_21 (by decide) ?_
  refine lv_icmp_ge (tgt := 45) hx hb dX3_init_23 (by decide) (fun c_13 => absurd c_13 (by decide)) (fun c_13 => ?_)
  refine lv_aload_n hx hb dX3_init_26 rfl (lv_at hl 1 rfl) ?_
  refine va_get (D := (dC, dI)) (ci := 5) (v := .ref q_1) (C := RX3) (T := TX3) (N := 4) hx hb hts iRX3 hown hK hP 0 rfl rfl 1 (by decide) (hts (.fieldLink RX3 17 "RecordBench$RecordReader" "pieces" "[LRecordBench$Piece;") (by decide +kernel)) (fun _ h9 => h9) rfl dX3_init_27 ?_
  refine lv_iload_n hx hb dX3_init_30 rfl (lv_at hl 0 rfl) ?_
  refine va_new (ci := 4) (fs := [.int 0, .int 0, .long 0, .int 0, .int 0, .int 0, .int 0, .int 0]) (C := RX2) (T := TX2) (N := 8) hx hb hts iRX2 tyX2 tyX2_ok hown (hts (.classLink RX3 15 RX2) (by decide +kernel)) (hts (.instantiable RX2 8) (by decide +kernel)) (hts (.initialized RX2) (by decide +kernel)) hK hP hD hS hA rfl fsX2_ok (Nat.le_of_ble_eq_true rfl) (Nat.le_of_ble_eq_true rfl) dX3_init_31 (fun q_14 H hP hD hS => ?_)
  have hP : va_P (dC, dI) vwCl [(h0, .inr (5, [.ref m0, .ref q_1, .int 0, .int 0])), (q_1, .inl (cA_2, 8, .inr (.inr (.inr (.inr f_12))))), (q_14, .inr (4, [.int 0, .int 0, .long 0, .int 0, .int 0, .int 0, .int 0, .int 0]))] H := hP
  have hD : va_D A [(h0, .inr (5, [.ref m0, .ref q_1, .int 0, .int 0])), (q_1, .inl (cA_2, 8, .inr (.inr (.inr (.inr f_12))))), (q_14, .inr (4, [.int 0, .int 0, .long 0, .int 0, .int 0, .int 0, .int 0, .int 0]))] := hD
  refine W.widen (k := 4) (n := 32) (by omega) (by omega) ?_
  refine lv_dup hx hb dX3_init_34 rfl ?_
  have hFc := va_free (wc := [(q_14, .inr (4, [.int 0, .int 0, .long 0, .int 0, .int 0, .int 0, .int 0, .int 0]))]) hD hS hA [2] rfl
  refine va_callv (va_runIN (As := []) (rest := [.ref q_14, .int 2, .ref q_1]) ⟨hx, hb, hml, hown, hts⟩ (c_X2_init l dC dI q_14 H.size) ⟨va_cnB 0 hts gp_X3_init_X2_init_21 rfl rfl rfl hN.1 (hts (.initialized RX2) (by decide +kernel)) (by decide +kernel) ⟨Nat.le_of_ble_eq_true rfl, Nat.le_of_ble_eq_true rfl⟩, rfl, (hts (.instanceMethod yX2_init) (by decide +kernel))⟩ ⟨Pr.blind _, fun U hU hW => ⟨rfl, Pr.at (hP.sub (ws' := [(q_14, .inr (4, [.int 0, .int 0, .long 0, .int 0, .int 0, .int 0, .int 0, .int 0]))]) [2] rfl) (hK.sub (tys' := []) [] rfl) (hD.sub (ws' := [(q_14, .inr (4, [.int 0, .int 0, .long 0, .int 0, .int 0, .int 0, .int 0, .int 0]))]) [2] (by decide) rfl) hN hZ hS hFc hU hW⟩⟩ rfl rfl hl.1 rfl (lv_room (Nat.le_of_ble_eq_true rfl)) dX3_init_35 ⟨Nat.le_of_ble_eq_true rfl, Nat.le_of_ble_eq_true rfl⟩) hS (fun q _ h => hFc q h) hFc (fun u t H1 locs ht hvm hw_16 hB hz1 hk1 hS => ?_)
  obtain ⟨hP, hD, hK⟩ := Bq.join (wr := [(h0, .inr (5, [.ref m0, .ref q_1, .int 0, .int 0])), (q_1, .inl (cA_2, 8, .inr (.inr (.inr (.inr f_12)))))]) hB ht hvm hP hD [2] [0, 1] rfl rfl (by decide) (by decide) hk1 hFc hK
  generalize H1 = H at hP hS ⊢
  have hP : va_P (dC, dI) vwCl [(h0, .inr (5, [.ref m0, .ref q_1, .int 0, .int 0])), (q_1, .inl (cA_2, 8, .inr (.inr (.inr (.inr f_12))))), (q_14, .inr (4, [.int 0, .int 0, .long 0, .int 0, .int 0, .int 0, .int 0, .int 0]))] H := hP
  have hD : va_D A [(h0, .inr (5, [.ref m0, .ref q_1, .int 0, .int 0])), (q_1, .inl (cA_2, 8, .inr (.inr (.inr (.inr f_12))))), (q_14, .inr (4, [.int 0, .int 0, .long 0, .int 0, .int 0, .int 0, .int 0, .int 0]))] := hD
  have hK : va_K (dC, dI) vwCl [(cA_2, .object RX2)] s := hK
  refine va_astq hx hb hK hP hD hS 1 0 2 4 rfl rfl rfl rfl (by unfold vp_in; decide) dX3_init_38 (fun H locs hP hD hS => ?_)
  obtain ⟨f_17, ef_17⟩ : ∃ y : Nat → Option Nat, y = va_up f_12 2 (some q_14) := ⟨_, rfl⟩
  have hP : va_P (dC, dI) vwCl [(h0, .inr (5, [.ref m0, .ref q_1, .int 0, .int 0])), (q_1, .inl (cA_2, 8, .inr (.inr (.inr (.inr f_17))))), (q_14, .inr (4, [.int 0, .int 0, .long 0, .int 0, .int 0, .int 0, .int 0, .int 0]))] H := by rw [ef_17]; exact hP
  have hD : va_D A [(h0, .inr (5, [.ref m0, .ref q_1, .int 0, .int 0])), (q_1, .inl (cA_2, 8, .inr (.inr (.inr (.inr f_17))))), (q_14, .inr (4, [.int 0, .int 0, .long 0, .int 0, .int 0, .int 0, .int 0, .int 0]))] := by rw [ef_17]; exact hD
  have hP := hP.sub (ws' := [(h0, .inr (5, [.ref m0, .ref q_1, .int 0, .int 0])), (q_1, .inl (cA_2, 8, .inr (.inr (.inr (.inr f_17)))))]) [0, 1] rfl
  have hD := hD.sub (ws' := [(h0, .inr (5, [.ref m0, .ref q_1, .int 0, .int 0])), (q_1, .inl (cA_2, 8, .inr (.inr (.inr (.inr f_17)))))]) [0, 1] (by decide) rfl
  refine lv_iinc (v := 3) (lv' := [(2, .int 3), (0, .ref h0), (1, .ref m0)]) hx hb dX3_init_39 hl (k := 0) rfl (by decide) (by decide) rfl (fun ls hl => ?_)
  refine lv_goto (tgt := 20) hx hb dX3_init_42 (by decide) ?_
  refine lv_iload_n hx hb dX3_init_20 rfl (lv_at hl 0 rfl) ?_
  refine lv_bipush (v := 8) hx hb dX3_init_21 (by decide) ?_
  refine lv_icmp_ge (tgt := 45) hx hb dX3_init_23 (by decide) (fun c_18 => absurd c_18 (by decide)) (fun c_18 => ?_)
  refine lv_aload_n hx hb dX3_init_26 rfl (lv_at hl 1 rfl) ?_
  refine va_get (D := (dC, dI)) (ci := 5) (v := .ref q_1) (C := RX3) (T := TX3) (N := 4) hx hb hts iRX3 hown hK hP 0 rfl rfl 1 (by decide) (hts (.fieldLink RX3 17 "RecordBench$RecordReader" "pieces" "[LRecordBench$Piece;") (by decide +kernel)) (fun _ h9 => h9) rfl dX3_init_27 ?_
  refine lv_iload_n hx hb dX3_init_30 rfl (lv_at hl 0 rfl) ?_
  refine va_new (ci := 4) (fs := [.int 0, .int 0, .long 0, .int 0, .int 0, .int 0, .int 0, .int 0]) (C := RX2) (T := TX2) (N := 8) hx hb hts iRX2 tyX2 tyX2_ok hown (hts (.classLink RX3 15 RX2) (by decide +kernel)) (hts (.instantiable RX2 8) (by decide +kernel)) (hts (.initialized RX2) (by decide +kernel)) hK hP hD hS hA rfl fsX2_ok (Nat.le_of_ble_eq_true rfl) (Nat.le_of_ble_eq_true rfl) dX3_init_31 (fun q_19 H hP hD hS => ?_)
  have hP : va_P (dC, dI) vwCl [(h0, .inr (5, [.ref m0, .ref q_1, .int 0, .int 0])), (q_1, .inl (cA_2, 8, .inr (.inr (.inr (.inr f_17))))), (q_19, .inr (4, [.int 0, .int 0, .long 0, .int 0, .int 0, .int 0, .int 0, .int 0]))] H := hP
  have hD : va_D A [(h0, .inr (5, [.ref m0, .ref q_1, .int 0, .int 0])), (q_1, .inl (cA_2, 8, .inr (.inr (.inr (.inr f_17))))), (q_19, .inr (4, [.int 0, .int 0, .long 0, .int 0, .int 0, .int 0, .int 0, .int 0]))] := hD
  refine W.widen (k := 5) (n := 40) (by omega) (by omega) ?_
  refine lv_dup hx hb dX3_init_34 rfl ?_
  have hFc := va_free (wc := [(q_19, .inr (4, [.int 0, .int 0, .long 0, .int 0, .int 0, .int 0, .int 0, .int 0]))]) hD hS hA [2] rfl
  refine va_callv (va_runIN (As := []) (rest := [.ref q_19, .int 3, .ref q_1]) ⟨hx, hb, hml, hown, hts⟩ (c_X2_init l dC dI q_19 H.size) ⟨va_cnB 0 hts gp_X3_init_X2_init_21 rfl rfl rfl hN.1 (hts (.initialized RX2) (by decide +kernel)) (by decide +kernel) ⟨Nat.le_of_ble_eq_true rfl, Nat.le_of_ble_eq_true rfl⟩, rfl, (hts (.instanceMethod yX2_init) (by decide +kernel))⟩ ⟨Pr.blind _, fun U hU hW => ⟨rfl, Pr.at (hP.sub (ws' := [(q_19, .inr (4, [.int 0, .int 0, .long 0, .int 0, .int 0, .int 0, .int 0, .int 0]))]) [2] rfl) (hK.sub (tys' := []) [] rfl) (hD.sub (ws' := [(q_19, .inr (4, [.int 0, .int 0, .long 0, .int 0, .int 0, .int 0, .int 0, .int 0]))]) [2] (by decide) rfl) hN hZ hS hFc hU hW⟩⟩ rfl rfl hl.1 rfl (lv_room (Nat.le_of_ble_eq_true rfl)) dX3_init_35 ⟨Nat.le_of_ble_eq_true rfl, Nat.le_of_ble_eq_true rfl⟩) hS (fun q _ h => hFc q h) hFc (fun u t H1 locs ht hvm hw_21 hB hz1 hk1 hS => ?_)
  obtain ⟨hP, hD, hK⟩ := Bq.join (wr := [(h0, .inr (5, [.ref m0, .ref q_1, .int 0, .int 0])), (q_1, .inl (cA_2, 8, .inr (.inr (.inr (.inr f_17)))))]) hB ht hvm hP hD [2] [0, 1] rfl rfl (by decide) (by decide) hk1 hFc hK
  generalize H1 = H at hP hS ⊢
  have hP : va_P (dC, dI) vwCl [(h0, .inr (5, [.ref m0, .ref q_1, .int 0, .int 0])), (q_1, .inl (cA_2, 8, .inr (.inr (.inr (.inr f_17))))), (q_19, .inr (4, [.int 0, .int 0, .long 0, .int 0, .int 0, .int 0, .int 0, .int 0]))] H := hP
  have hD : va_D A [(h0, .inr (5, [.ref m0, .ref q_1, .int 0, .int 0])), (q_1, .inl (cA_2, 8, .inr (.inr (.inr (.inr f_17))))), (q_19, .inr (4, [.int 0, .int 0, .long 0, .int 0, .int 0, .int 0, .int 0, .int 0]))] := hD
  have hK : va_K (dC, dI) vwCl [(cA_2, .object RX2)] s := hK
  refine va_astq hx hb hK hP hD hS 1 0 2 4 rfl rfl rfl rfl (by unfold vp_in; decide) dX3_init_38 (fun H locs hP hD hS => ?_)
  obtain ⟨f_22, ef_22⟩ : ∃ y : Nat → Option Nat, y = va_up f_17 3 (some q_19) := ⟨_, rfl⟩
  have hP : va_P (dC, dI) vwCl [(h0, .inr (5, [.ref m0, .ref q_1, .int 0, .int 0])), (q_1, .inl (cA_2, 8, .inr (.inr (.inr (.inr f_22))))), (q_19, .inr (4, [.int 0, .int 0, .long 0, .int 0, .int 0, .int 0, .int 0, .int 0]))] H := by rw [ef_22]; exact hP
  have hD : va_D A [(h0, .inr (5, [.ref m0, .ref q_1, .int 0, .int 0])), (q_1, .inl (cA_2, 8, .inr (.inr (.inr (.inr f_22))))), (q_19, .inr (4, [.int 0, .int 0, .long 0, .int 0, .int 0, .int 0, .int 0, .int 0]))] := by rw [ef_22]; exact hD
  have hP := hP.sub (ws' := [(h0, .inr (5, [.ref m0, .ref q_1, .int 0, .int 0])), (q_1, .inl (cA_2, 8, .inr (.inr (.inr (.inr f_22)))))]) [0, 1] rfl
  have hD := hD.sub (ws' := [(h0, .inr (5, [.ref m0, .ref q_1, .int 0, .int 0])), (q_1, .inl (cA_2, 8, .inr (.inr (.inr (.inr f_22)))))]) [0, 1] (by decide) rfl
  refine lv_iinc (v := 4) (lv' := [(2, .int 4), (0, .ref h0), (1, .ref m0)]) hx hb dX3_init_39 hl (k := 0) rfl (by decide) (by decide) rfl (fun ls hl => ?_)
  refine lv_goto (tgt := 20) hx hb dX3_init_42 (by decide) ?_
  refine lv_iload_n hx hb dX3_init_20 rfl (lv_at hl 0 rfl) ?_
  refine lv_bipush (v := 8) hx hb dX3_init_21 (by decide) ?_
  refine lv_icmp_ge (tgt := 45) hx hb dX3_init_23 (by decide) (fun c_23 => absurd c_23 (by decide)) (fun c_23 => ?_)
  refine lv_aload_n hx hb dX3_init_26 rfl (lv_at hl 1 rfl) ?_
  refine va_get (D := (dC, dI)) (ci := 5) (v := .ref q_1) (C := RX3) (T := TX3) (N := 4) hx hb hts iRX3 hown hK hP 0 rfl rfl 1 (by decide) (hts (.fieldLink RX3 17 "RecordBench$RecordReader" "pieces" "[LRecordBench$Piece;") (by decide +kernel)) (fun _ h9 => h9) rfl dX3_init_27 ?_
  refine lv_iload_n hx hb dX3_init_30 rfl (lv_at hl 0 rfl) ?_
  refine va_new (ci := 4) (fs := [.int 0, .int 0, .long 0, .int 0, .int 0, .int 0, .int 0, .int 0]) (C := RX2) (T := TX2) (N := 8) hx hb hts iRX2 tyX2 tyX2_ok hown (hts (.classLink RX3 15 RX2) (by decide +kernel)) (hts (.instantiable RX2 8) (by decide +kernel)) (hts (.initialized RX2) (by decide +kernel)) hK hP hD hS hA rfl fsX2_ok (Nat.le_of_ble_eq_true rfl) (Nat.le_of_ble_eq_true rfl) dX3_init_31 (fun q_24 H hP hD hS => ?_)
  have hP : va_P (dC, dI) vwCl [(h0, .inr (5, [.ref m0, .ref q_1, .int 0, .int 0])), (q_1, .inl (cA_2, 8, .inr (.inr (.inr (.inr f_22))))), (q_24, .inr (4, [.int 0, .int 0, .long 0, .int 0, .int 0, .int 0, .int 0, .int 0]))] H := hP
  have hD : va_D A [(h0, .inr (5, [.ref m0, .ref q_1, .int 0, .int 0])), (q_1, .inl (cA_2, 8, .inr (.inr (.inr (.inr f_22))))), (q_24, .inr (4, [.int 0, .int 0, .long 0, .int 0, .int 0, .int 0, .int 0, .int 0]))] := hD
  refine W.widen (k := 6) (n := 48) (by omega) (by omega) ?_
  refine lv_dup hx hb dX3_init_34 rfl ?_
  have hFc := va_free (wc := [(q_24, .inr (4, [.int 0, .int 0, .long 0, .int 0, .int 0, .int 0, .int 0, .int 0]))]) hD hS hA [2] rfl
  refine va_callv (va_runIN (As := []) (rest := [.ref q_24, .int 4, .ref q_1]) ⟨hx, hb, hml, hown, hts⟩ (c_X2_init l dC dI q_24 H.size) ⟨va_cnB 0 hts gp_X3_init_X2_init_21 rfl rfl rfl hN.1 (hts (.initialized RX2) (by decide +kernel)) (by decide +kernel) ⟨Nat.le_of_ble_eq_true rfl, Nat.le_of_ble_eq_true rfl⟩, rfl, (hts (.instanceMethod yX2_init) (by decide +kernel))⟩ ⟨Pr.blind _, fun U hU hW => ⟨rfl, Pr.at (hP.sub (ws' := [(q_24, .inr (4, [.int 0, .int 0, .long 0, .int 0, .int 0, .int 0, .int 0, .int 0]))]) [2] rfl) (hK.sub (tys' := []) [] rfl) (hD.sub (ws' := [(q_24, .inr (4, [.int 0, .int 0, .long 0, .int 0, .int 0, .int 0, .int 0, .int 0]))]) [2] (by decide) rfl) hN hZ hS hFc hU hW⟩⟩ rfl rfl hl.1 rfl (lv_room (Nat.le_of_ble_eq_true rfl)) dX3_init_35 ⟨Nat.le_of_ble_eq_true rfl, Nat.le_of_ble_eq_true rfl⟩) hS (fun q _ h => hFc q h) hFc (fun u t H1 locs ht hvm hw_26 hB hz1 hk1 hS => ?_)
  obtain ⟨hP, hD, hK⟩ := Bq.join (wr := [(h0, .inr (5, [.ref m0, .ref q_1, .int 0, .int 0])), (q_1, .inl (cA_2, 8, .inr (.inr (.inr (.inr f_22)))))]) hB ht hvm hP hD [2] [0, 1] rfl rfl (by decide) (by decide) hk1 hFc hK
  generalize H1 = H at hP hS ⊢
  have hP : va_P (dC, dI) vwCl [(h0, .inr (5, [.ref m0, .ref q_1, .int 0, .int 0])), (q_1, .inl (cA_2, 8, .inr (.inr (.inr (.inr f_22))))), (q_24, .inr (4, [.int 0, .int 0, .long 0, .int 0, .int 0, .int 0, .int 0, .int 0]))] H := hP
  have hD : va_D A [(h0, .inr (5, [.ref m0, .ref q_1, .int 0, .int 0])), (q_1, .inl (cA_2, 8, .inr (.inr (.inr (.inr f_22))))), (q_24, .inr (4, [.int 0, .int 0, .long 0, .int 0, .int 0, .int 0, .int 0, .int 0]))] := hD
  have hK : va_K (dC, dI) vwCl [(cA_2, .object RX2)] s := hK
  refine va_astq hx hb hK hP hD hS 1 0 2 4 rfl rfl rfl rfl (by unfold vp_in; decide) dX3_init_38 (fun H locs hP hD hS => ?_)
  obtain ⟨f_27, ef_27⟩ : ∃ y : Nat → Option Nat, y = va_up f_22 4 (some q_24) := ⟨_, rfl⟩
  have hP : va_P (dC, dI) vwCl [(h0, .inr (5, [.ref m0, .ref q_1, .int 0, .int 0])), (q_1, .inl (cA_2, 8, .inr (.inr (.inr (.inr f_27))))), (q_24, .inr (4, [.int 0, .int 0, .long 0, .int 0, .int 0, .int 0, .int 0, .int 0]))] H := by rw [ef_27]; exact hP
  have hD : va_D A [(h0, .inr (5, [.ref m0, .ref q_1, .int 0, .int 0])), (q_1, .inl (cA_2, 8, .inr (.inr (.inr (.inr f_27))))), (q_24, .inr (4, [.int 0, .int 0, .long 0, .int 0, .int 0, .int 0, .int 0, .int 0]))] := by rw [ef_27]; exact hD
  have hP := hP.sub (ws' := [(h0, .inr (5, [.ref m0, .ref q_1, .int 0, .int 0])), (q_1, .inl (cA_2, 8, .inr (.inr (.inr (.inr f_27)))))]) [0, 1] rfl
  have hD := hD.sub (ws' := [(h0, .inr (5, [.ref m0, .ref q_1, .int 0, .int 0])), (q_1, .inl (cA_2, 8, .inr (.inr (.inr (.inr f_27)))))]) [0, 1] (by decide) rfl
  refine lv_iinc (v := 5) (lv' := [(2, .int 5), (0, .ref h0), (1, .ref m0)]) hx hb dX3_init_39 hl (k := 0) rfl (by decide) (by decide) rfl (fun ls hl => ?_)
  refine lv_goto (tgt := 20) hx hb dX3_init_42 (by decide) ?_
  refine lv_iload_n hx hb dX3_init_20 rfl (lv_at hl 0 rfl) ?_
  refine lv_bipush (v := 8) hx hb dX3_init_21 (by decide) ?_
  refine lv_icmp_ge (tgt := 45) hx hb dX3_init_23 (by decide) (fun c_28 => absurd c_28 (by decide)) (fun c_28 => ?_)
  refine lv_aload_n hx hb dX3_init_26 rfl (lv_at hl 1 rfl) ?_
  refine va_get (D := (dC, dI)) (ci := 5) (v := .ref q_1) (C := RX3) (T := TX3) (N := 4) hx hb hts iRX3 hown hK hP 0 rfl rfl 1 (by decide) (hts (.fieldLink RX3 17 "RecordBench$RecordReader" "pieces" "[LRecordBench$Piece;") (by decide +kernel)) (fun _ h9 => h9) rfl dX3_init_27 ?_
  refine lv_iload_n hx hb dX3_init_30 rfl (lv_at hl 0 rfl) ?_
  refine va_new (ci := 4) (fs := [.int 0, .int 0, .long 0, .int 0, .int 0, .int 0, .int 0, .int 0]) (C := RX2) (T := TX2) (N := 8) hx hb hts iRX2 tyX2 tyX2_ok hown (hts (.classLink RX3 15 RX2) (by decide +kernel)) (hts (.instantiable RX2 8) (by decide +kernel)) (hts (.initialized RX2) (by decide +kernel)) hK hP hD hS hA rfl fsX2_ok (Nat.le_of_ble_eq_true rfl) (Nat.le_of_ble_eq_true rfl) dX3_init_31 (fun q_29 H hP hD hS => ?_)
  have hP : va_P (dC, dI) vwCl [(h0, .inr (5, [.ref m0, .ref q_1, .int 0, .int 0])), (q_1, .inl (cA_2, 8, .inr (.inr (.inr (.inr f_27))))), (q_29, .inr (4, [.int 0, .int 0, .long 0, .int 0, .int 0, .int 0, .int 0, .int 0]))] H := hP
  have hD : va_D A [(h0, .inr (5, [.ref m0, .ref q_1, .int 0, .int 0])), (q_1, .inl (cA_2, 8, .inr (.inr (.inr (.inr f_27))))), (q_29, .inr (4, [.int 0, .int 0, .long 0, .int 0, .int 0, .int 0, .int 0, .int 0]))] := hD
  refine W.widen (k := 7) (n := 56) (by omega) (by omega) ?_
  refine lv_dup hx hb dX3_init_34 rfl ?_
  have hFc := va_free (wc := [(q_29, .inr (4, [.int 0, .int 0, .long 0, .int 0, .int 0, .int 0, .int 0, .int 0]))]) hD hS hA [2] rfl
  refine va_callv (va_runIN (As := []) (rest := [.ref q_29, .int 5, .ref q_1]) ⟨hx, hb, hml, hown, hts⟩ (c_X2_init l dC dI q_29 H.size) ⟨va_cnB 0 hts gp_X3_init_X2_init_21 rfl rfl rfl hN.1 (hts (.initialized RX2) (by decide +kernel)) (by decide +kernel) ⟨Nat.le_of_ble_eq_true rfl, Nat.le_of_ble_eq_true rfl⟩, rfl, (hts (.instanceMethod yX2_init) (by decide +kernel))⟩ ⟨Pr.blind _, fun U hU hW => ⟨rfl, Pr.at (hP.sub (ws' := [(q_29, .inr (4, [.int 0, .int 0, .long 0, .int 0, .int 0, .int 0, .int 0, .int 0]))]) [2] rfl) (hK.sub (tys' := []) [] rfl) (hD.sub (ws' := [(q_29, .inr (4, [.int 0, .int 0, .long 0, .int 0, .int 0, .int 0, .int 0, .int 0]))]) [2] (by decide) rfl) hN hZ hS hFc hU hW⟩⟩ rfl rfl hl.1 rfl (lv_room (Nat.le_of_ble_eq_true rfl)) dX3_init_35 ⟨Nat.le_of_ble_eq_true rfl, Nat.le_of_ble_eq_true rfl⟩) hS (fun q _ h => hFc q h) hFc (fun u t H1 locs ht hvm hw_31 hB hz1 hk1 hS => ?_)
  obtain ⟨hP, hD, hK⟩ := Bq.join (wr := [(h0, .inr (5, [.ref m0, .ref q_1, .int 0, .int 0])), (q_1, .inl (cA_2, 8, .inr (.inr (.inr (.inr f_27)))))]) hB ht hvm hP hD [2] [0, 1] rfl rfl (by decide) (by decide) hk1 hFc hK
  generalize H1 = H at hP hS ⊢
  have hP : va_P (dC, dI) vwCl [(h0, .inr (5, [.ref m0, .ref q_1, .int 0, .int 0])), (q_1, .inl (cA_2, 8, .inr (.inr (.inr (.inr f_27))))), (q_29, .inr (4, [.int 0, .int 0, .long 0, .int 0, .int 0, .int 0, .int 0, .int 0]))] H := hP
  have hD : va_D A [(h0, .inr (5, [.ref m0, .ref q_1, .int 0, .int 0])), (q_1, .inl (cA_2, 8, .inr (.inr (.inr (.inr f_27))))), (q_29, .inr (4, [.int 0, .int 0, .long 0, .int 0, .int 0, .int 0, .int 0, .int 0]))] := hD
  have hK : va_K (dC, dI) vwCl [(cA_2, .object RX2)] s := hK
  refine va_astq hx hb hK hP hD hS 1 0 2 4 rfl rfl rfl rfl (by unfold vp_in; decide) dX3_init_38 (fun H locs hP hD hS => ?_)
  obtain ⟨f_32, ef_32⟩ : ∃ y : Nat → Option Nat, y = va_up f_27 5 (some q_29) := ⟨_, rfl⟩
  have hP : va_P (dC, dI) vwCl [(h0, .inr (5, [.ref m0, .ref q_1, .int 0, .int 0])), (q_1, .inl (cA_2, 8, .inr (.inr (.inr (.inr f_32))))), (q_29, .inr (4, [.int 0, .int 0, .long 0, .int 0, .int 0, .int 0, .int 0, .int 0]))] H := by rw [ef_32]; exact hP
  have hD : va_D A [(h0, .inr (5, [.ref m0, .ref q_1, .int 0, .int 0])), (q_1, .inl (cA_2, 8, .inr (.inr (.inr (.inr f_32))))), (q_29, .inr (4, [.int 0, .int 0, .long 0, .int 0, .int 0, .int 0, .int 0, .int 0]))] := by rw [ef_32]; exact hD
  have hP := hP.sub (ws' := [(h0, .inr (5, [.ref m0, .ref q_1, .int 0, .int 0])), (q_1, .inl (cA_2, 8, .inr (.inr (.inr (.inr f_32)))))]) [0, 1] rfl
  have hD := hD.sub (ws' := [(h0, .inr (5, [.ref m0, .ref q_1, .int 0, .int 0])), (q_1, .inl (cA_2, 8, .inr (.inr (.inr (.inr f_32)))))]) [0, 1] (by decide) rfl
  refine lv_iinc (v := 6) (lv' := [(2, .int 6), (0, .ref h0), (1, .ref m0)]) hx hb dX3_init_39 hl (k := 0) rfl (by decide) (by decide) rfl (fun ls hl => ?_)
  refine lv_goto (tgt := 20) hx hb dX3_init_42 (by decide) ?_
  refine lv_iload_n hx hb dX3_init_20 rfl (lv_at hl 0 rfl) ?_
  refine lv_bipush (v := 8) hx hb dX3_init_21 (by decide) ?_
  refine lv_icmp_ge (tgt := 45) hx hb dX3_init_23 (by decide) (fun c_33 => absurd c_33 (by decide)) (fun c_33 => ?_)
  refine lv_aload_n hx hb dX3_init_26 rfl (lv_at hl 1 rfl) ?_
  refine va_get (D := (dC, dI)) (ci := 5) (v := .ref q_1) (C := RX3) (T := TX3) (N := 4) hx hb hts iRX3 hown hK hP 0 rfl rfl 1 (by decide) (hts (.fieldLink RX3 17 "RecordBench$RecordReader" "pieces" "[LRecordBench$Piece;") (by decide +kernel)) (fun _ h9 => h9) rfl dX3_init_27 ?_
  refine lv_iload_n hx hb dX3_init_30 rfl (lv_at hl 0 rfl) ?_
  refine va_new (ci := 4) (fs := [.int 0, .int 0, .long 0, .int 0, .int 0, .int 0, .int 0, .int 0]) (C := RX2) (T := TX2) (N := 8) hx hb hts iRX2 tyX2 tyX2_ok hown (hts (.classLink RX3 15 RX2) (by decide +kernel)) (hts (.instantiable RX2 8) (by decide +kernel)) (hts (.initialized RX2) (by decide +kernel)) hK hP hD hS hA rfl fsX2_ok (Nat.le_of_ble_eq_true rfl) (Nat.le_of_ble_eq_true rfl) dX3_init_31 (fun q_34 H hP hD hS => ?_)
  have hP : va_P (dC, dI) vwCl [(h0, .inr (5, [.ref m0, .ref q_1, .int 0, .int 0])), (q_1, .inl (cA_2, 8, .inr (.inr (.inr (.inr f_32))))), (q_34, .inr (4, [.int 0, .int 0, .long 0, .int 0, .int 0, .int 0, .int 0, .int 0]))] H := hP
  have hD : va_D A [(h0, .inr (5, [.ref m0, .ref q_1, .int 0, .int 0])), (q_1, .inl (cA_2, 8, .inr (.inr (.inr (.inr f_32))))), (q_34, .inr (4, [.int 0, .int 0, .long 0, .int 0, .int 0, .int 0, .int 0, .int 0]))] := hD
  refine W.widen (k := 8) (n := 64) (by omega) (by omega) ?_
  refine lv_dup hx hb dX3_init_34 rfl ?_
  have hFc := va_free (wc := [(q_34, .inr (4, [.int 0, .int 0, .long 0, .int 0, .int 0, .int 0, .int 0, .int 0]))]) hD hS hA [2] rfl
  refine va_callv (va_runIN (As := []) (rest := [.ref q_34, .int 6, .ref q_1]) ⟨hx, hb, hml, hown, hts⟩ (c_X2_init l dC dI q_34 H.size) ⟨va_cnB 0 hts gp_X3_init_X2_init_21 rfl rfl rfl hN.1 (hts (.initialized RX2) (by decide +kernel)) (by decide +kernel) ⟨Nat.le_of_ble_eq_true rfl, Nat.le_of_ble_eq_true rfl⟩, rfl, (hts (.instanceMethod yX2_init) (by decide +kernel))⟩ ⟨Pr.blind _, fun U hU hW => ⟨rfl, Pr.at (hP.sub (ws' := [(q_34, .inr (4, [.int 0, .int 0, .long 0, .int 0, .int 0, .int 0, .int 0, .int 0]))]) [2] rfl) (hK.sub (tys' := []) [] rfl) (hD.sub (ws' := [(q_34, .inr (4, [.int 0, .int 0, .long 0, .int 0, .int 0, .int 0, .int 0, .int 0]))]) [2] (by decide) rfl) hN hZ hS hFc hU hW⟩⟩ rfl rfl hl.1 rfl (lv_room (Nat.le_of_ble_eq_true rfl)) dX3_init_35 ⟨Nat.le_of_ble_eq_true rfl, Nat.le_of_ble_eq_true rfl⟩) hS (fun q _ h => hFc q h) hFc (fun u t H1 locs ht hvm hw_36 hB hz1 hk1 hS => ?_)
  obtain ⟨hP, hD, hK⟩ := Bq.join (wr := [(h0, .inr (5, [.ref m0, .ref q_1, .int 0, .int 0])), (q_1, .inl (cA_2, 8, .inr (.inr (.inr (.inr f_32)))))]) hB ht hvm hP hD [2] [0, 1] rfl rfl (by decide) (by decide) hk1 hFc hK
  generalize H1 = H at hP hS ⊢
  have hP : va_P (dC, dI) vwCl [(h0, .inr (5, [.ref m0, .ref q_1, .int 0, .int 0])), (q_1, .inl (cA_2, 8, .inr (.inr (.inr (.inr f_32))))), (q_34, .inr (4, [.int 0, .int 0, .long 0, .int 0, .int 0, .int 0, .int 0, .int 0]))] H := hP
  have hD : va_D A [(h0, .inr (5, [.ref m0, .ref q_1, .int 0, .int 0])), (q_1, .inl (cA_2, 8, .inr (.inr (.inr (.inr f_32))))), (q_34, .inr (4, [.int 0, .int 0, .long 0, .int 0, .int 0, .int 0, .int 0, .int 0]))] := hD
  have hK : va_K (dC, dI) vwCl [(cA_2, .object RX2)] s := hK
  refine va_astq hx hb hK hP hD hS 1 0 2 4 rfl rfl rfl rfl (by unfold vp_in; decide) dX3_init_38 (fun H locs hP hD hS => ?_)
  obtain ⟨f_37, ef_37⟩ : ∃ y : Nat → Option Nat, y = va_up f_32 6 (some q_34) := ⟨_, rfl⟩
  have hP : va_P (dC, dI) vwCl [(h0, .inr (5, [.ref m0, .ref q_1, .int 0, .int 0])), (q_1, .inl (cA_2, 8, .inr (.inr (.inr (.inr f_37))))), (q_34, .inr (4, [.int 0, .int 0, .long 0, .int 0, .int 0, .int 0, .int 0, .int 0]))] H := by rw [ef_37]; exact hP
  have hD : va_D A [(h0, .inr (5, [.ref m0, .ref q_1, .int 0, .int 0])), (q_1, .inl (cA_2, 8, .inr (.inr (.inr (.inr f_37))))), (q_34, .inr (4, [.int 0, .int 0, .long 0, .int 0, .int 0, .int 0, .int 0, .int 0]))] := by rw [ef_37]; exact hD
  have hP := hP.sub (ws' := [(h0, .inr (5, [.ref m0, .ref q_1, .int 0, .int 0])), (q_1, .inl (cA_2, 8, .inr (.inr (.inr (.inr f_37)))))]) [0, 1] rfl
  have hD := hD.sub (ws' := [(h0, .inr (5, [.ref m0, .ref q_1, .int 0, .int 0])), (q_1, .inl (cA_2, 8, .inr (.inr (.inr (.inr f_37)))))]) [0, 1] (by decide) rfl
  refine lv_iinc (v := 7) (lv' := [(2, .int 7), (0, .ref h0), (1, .ref m0)]) hx hb dX3_init_39 hl (k := 0) rfl (by decide) (by decide) rfl (fun ls hl => ?_)
  refine lv_goto (tgt := 20) hx hb dX3_init_42 (by decide) ?_
  refine lv_iload_n hx hb dX3_init_20 rfl (lv_at hl 0 rfl) ?_
  refine lv_bipush (v := 8) hx hb dX3_init_21 (by decide) ?_
  refine lv_icmp_ge (tgt := 45) hx hb dX3_init_23 (by decide) (fun c_38 => absurd c_38 (by decide)) (fun c_38 => ?_)
  refine lv_aload_n hx hb dX3_init_26 rfl (lv_at hl 1 rfl) ?_
  refine va_get (D := (dC, dI)) (ci := 5) (v := .ref q_1) (C := RX3) (T := TX3) (N := 4) hx hb hts iRX3 hown hK hP 0 rfl rfl 1 (by decide) (hts (.fieldLink RX3 17 "RecordBench$RecordReader" "pieces" "[LRecordBench$Piece;") (by decide +kernel)) (fun _ h9 => h9) rfl dX3_init_27 ?_
  refine lv_iload_n hx hb dX3_init_30 rfl (lv_at hl 0 rfl) ?_
  refine va_new (ci := 4) (fs := [.int 0, .int 0, .long 0, .int 0, .int 0, .int 0, .int 0, .int 0]) (C := RX2) (T := TX2) (N := 8) hx hb hts iRX2 tyX2 tyX2_ok hown (hts (.classLink RX3 15 RX2) (by decide +kernel)) (hts (.instantiable RX2 8) (by decide +kernel)) (hts (.initialized RX2) (by decide +kernel)) hK hP hD hS hA rfl fsX2_ok (Nat.le_of_ble_eq_true rfl) (Nat.le_of_ble_eq_true rfl) dX3_init_31 (fun q_39 H hP hD hS => ?_)
  have hP : va_P (dC, dI) vwCl [(h0, .inr (5, [.ref m0, .ref q_1, .int 0, .int 0])), (q_1, .inl (cA_2, 8, .inr (.inr (.inr (.inr f_37))))), (q_39, .inr (4, [.int 0, .int 0, .long 0, .int 0, .int 0, .int 0, .int 0, .int 0]))] H := hP
  have hD : va_D A [(h0, .inr (5, [.ref m0, .ref q_1, .int 0, .int 0])), (q_1, .inl (cA_2, 8, .inr (.inr (.inr (.inr f_37))))), (q_39, .inr (4, [.int 0, .int 0, .long 0, .int 0, .int 0, .int 0, .int 0, .int 0]))] := hD
  refine W.widen (k := 9) (n := 72) (by omega) (by omega) ?_
  refine lv_dup hx hb dX3_init_34 rfl ?_
  have hFc := va_free (wc := [(q_39, .inr (4, [.int 0, .int 0, .long 0, .int 0, .int 0, .int 0, .int 0, .int 0]))]) hD hS hA [2] rfl
  refine va_callv (va_runIN (As := []) (rest := [.ref q_39, .int 7, .ref q_1]) ⟨hx, hb, hml, hown, hts⟩ (c_X2_init l dC dI q_39 H.size) ⟨va_cnB 0 hts gp_X3_init_X2_init_21 rfl rfl rfl hN.1 (hts (.initialized RX2) (by decide +kernel)) (by decide +kernel) ⟨Nat.le_of_ble_eq_true rfl, Nat.le_of_ble_eq_true rfl⟩, rfl, (hts (.instanceMethod yX2_init) (by decide +kernel))⟩ ⟨Pr.blind _, fun U hU hW => ⟨rfl, Pr.at (hP.sub (ws' := [(q_39, .inr (4, [.int 0, .int 0, .long 0, .int 0, .int 0, .int 0, .int 0, .int 0]))]) [2] rfl) (hK.sub (tys' := []) [] rfl) (hD.sub (ws' := [(q_39, .inr (4, [.int 0, .int 0, .long 0, .int 0, .int 0, .int 0, .int 0, .int 0]))]) [2] (by decide) rfl) hN hZ hS hFc hU hW⟩⟩ rfl rfl hl.1 rfl (lv_room (Nat.le_of_ble_eq_true rfl)) dX3_init_35 ⟨Nat.le_of_ble_eq_true rfl, Nat.le_of_ble_eq_true rfl⟩) hS (fun q _ h => hFc q h) hFc (fun u t H1 locs ht hvm hw_41 hB hz1 hk1 hS => ?_)
  obtain ⟨hP, hD, hK⟩ := Bq.join (wr := [(h0, .inr (5, [.ref m0, .ref q_1, .int 0, .int 0])), (q_1, .inl (cA_2, 8, .inr (.inr (.inr (.inr f_37)))))]) hB ht hvm hP hD [2] [0, 1] rfl rfl (by decide) (by decide) hk1 hFc hK
  generalize H1 = H at hP hS ⊢
  have hP : va_P (dC, dI) vwCl [(h0, .inr (5, [.ref m0, .ref q_1, .int 0, .int 0])), (q_1, .inl (cA_2, 8, .inr (.inr (.inr (.inr f_37))))), (q_39, .inr (4, [.int 0, .int 0, .long 0, .int 0, .int 0, .int 0, .int 0, .int 0]))] H := hP
  have hD : va_D A [(h0, .inr (5, [.ref m0, .ref q_1, .int 0, .int 0])), (q_1, .inl (cA_2, 8, .inr (.inr (.inr (.inr f_37))))), (q_39, .inr (4, [.int 0, .int 0, .long 0, .int 0, .int 0, .int 0, .int 0, .int 0]))] := hD
  have hK : va_K (dC, dI) vwCl [(cA_2, .object RX2)] s := hK
  refine va_astq hx hb hK hP hD hS 1 0 2 4 rfl rfl rfl rfl (by unfold vp_in; decide) dX3_init_38 (fun H locs hP hD hS => ?_)
  obtain ⟨f_42, ef_42⟩ : ∃ y : Nat → Option Nat, y = va_up f_37 7 (some q_39) := ⟨_, rfl⟩
  have hP : va_P (dC, dI) vwCl [(h0, .inr (5, [.ref m0, .ref q_1, .int 0, .int 0])), (q_1, .inl (cA_2, 8, .inr (.inr (.inr (.inr f_42))))), (q_39, .inr (4, [.int 0, .int 0, .long 0, .int 0, .int 0, .int 0, .int 0, .int 0]))] H := by rw [ef_42]; exact hP
  have hD : va_D A [(h0, .inr (5, [.ref m0, .ref q_1, .int 0, .int 0])), (q_1, .inl (cA_2, 8, .inr (.inr (.inr (.inr f_42))))), (q_39, .inr (4, [.int 0, .int 0, .long 0, .int 0, .int 0, .int 0, .int 0, .int 0]))] := by rw [ef_42]; exact hD
  have hP := hP.sub (ws' := [(h0, .inr (5, [.ref m0, .ref q_1, .int 0, .int 0])), (q_1, .inl (cA_2, 8, .inr (.inr (.inr (.inr f_42)))))]) [0, 1] rfl
  have hD := hD.sub (ws' := [(h0, .inr (5, [.ref m0, .ref q_1, .int 0, .int 0])), (q_1, .inl (cA_2, 8, .inr (.inr (.inr (.inr f_42)))))]) [0, 1] (by decide) rfl
  refine lv_iinc (v := 8) (lv' := [(2, .int 8), (0, .ref h0), (1, .ref m0)]) hx hb dX3_init_39 hl (k := 0) rfl (by decide) (by decide) rfl (fun ls hl => ?_)
  refine lv_goto (tgt := 20) hx hb dX3_init_42 (by decide) ?_
  refine lv_iload_n hx hb dX3_init_20 rfl (lv_at hl 0 rfl) ?_
  refine lv_bipush (v := 8) hx hb dX3_init_21 (by decide) ?_
  refine lv_icmp_ge (tgt := 45) hx hb dX3_init_23 (by decide) (fun c_43 => ?_) (fun c_43 => absurd (by decide) c_43)
  refine lv_aload_n hx hb dX3_init_45 rfl (lv_at hl 1 rfl) ?_
  refine lv_iconst (v := 0) hx hb dX3_init_46 (by decide) ?_
  refine va_put (D := (dC, dI)) (ci := 5) (v := .int 0) (ty := .int) (C := RX3) (T := TX3) (N := 4) hx hb hts iRX3 tyX3 tyX3_ok nmX3 hown hK hP hD hS 0 rfl rfl 2 (by decide) (hts (.fieldLink RX3 22 "RecordBench$RecordReader" "fault" "I") (by decide +kernel)) (fun _ h9 => h9) rfl (by decide +kernel) rfl rfl (Nat.le_of_ble_eq_true rfl) dX3_init_47 (fun H locs hP hD hS => ?_)
  have hP : va_P (dC, dI) vwCl [(h0, .inr (5, [.ref m0, .ref q_1, .int 0, .int 0])), (q_1, .inl (cA_2, 8, .inr (.inr (.inr (.inr f_42)))))] H := hP
  have hD : va_D A [(h0, .inr (5, [.ref m0, .ref q_1, .int 0, .int 0])), (q_1, .inl (cA_2, 8, .inr (.inr (.inr (.inr f_42)))))] := hD
  refine lv_aload_n hx hb dX3_init_50 rfl (lv_at hl 1 rfl) ?_
  refine lv_iconst (v := (-1)) hx hb dX3_init_51 (by decide) ?_
  refine va_put (D := (dC, dI)) (ci := 5) (v := .int ((-1))) (ty := .int) (C := RX3) (T := TX3) (N := 4) hx hb hts iRX3 tyX3 tyX3_ok nmX3 hown hK hP hD hS 0 rfl rfl 3 (by decide) (hts (.fieldLink RX3 26 "RecordBench$RecordReader" "place" "I") (by decide +kernel)) (fun _ h9 => h9) rfl (by decide +kernel) rfl rfl (Nat.le_of_ble_eq_true rfl) dX3_init_52 (fun H locs hP hD hS => ?_)
  have hP : va_P (dC, dI) vwCl [(h0, .inr (5, [.ref m0, .ref q_1, .int 0, .int ((-1))])), (q_1, .inl (cA_2, 8, .inr (.inr (.inr (.inr f_42)))))] H := hP
  have hD : va_D A [(h0, .inr (5, [.ref m0, .ref q_1, .int 0, .int ((-1))])), (q_1, .inl (cA_2, 8, .inr (.inr (.inr (.inr f_42)))))] := hD
  have hP9 := hP.sub (ws' := []) [] rfl
  have hD9 := hD.sub (ws' := []) [] (by decide) rfl
  have hK9 := hK.sub (tys' := []) [] rfl
  exact W.vret hx hb hr (fun t ht hW => ⟨⟨(), rfl, trivial, by rw [ht]; exact hP9, va_K.moved hW.alike hK9, hD9⟩, hS.F ht⟩) hS.2.2 dX3_init_55
def wp_X4_init : List Cond := .code yX4_init cX4_init 3 none :: ([.methodLink RX4 3 objectInit, .instanceMethod objectInit, .code objectInit ⟨#[0xb1]⟩ 1 none, .fieldLink RX4 9 "RecordBench$RecordWriter" "makes" "[LRecordBench$Make;", .classLink RX4 15 RX2, .fieldLink RX4 17 "RecordBench$RecordWriter" "pieces" "[LRecordBench$Piece;", .instantiable RX2 8, .initialized RX2, .instanceMethod yX2_init, .classLink RX4 22 RX5, .instantiable RX5 2, .initialized RX5, .instanceMethod yX5_init, .methodLink RX4 24 yX5_init, .fieldLink RX4 27 "RecordBench$RecordWriter" "nothing" "LRecordBench$Row;", .code yX2_init cX2_init 1 none, .methodLink RX2 3 objectInit, .fieldLink RX2 9 "RecordBench$Piece" "number" "I", .fieldLink RX2 15 "RecordBench$Piece" "withLength" "Z", .fieldLink RX2 19 "RecordBench$Piece" "raw" "J", .fieldLink RX2 23 "RecordBench$Piece" "body" "I", .fieldLink RX2 26 "RecordBench$Piece" "end" "I", .fieldLink RX2 29 "RecordBench$Piece" "fault" "I", .fieldLink RX2 32 "RecordBench$Piece" "pos" "I", .fieldLink RX2 35 "RecordBench$Piece" "broken" "Z", .code yX5_init cX5_init 2 none, .methodLink RX5 3 objectInit, .methodLink RX5 9 Lib.Math.max.name, .static Lib.Math.max.name, .initialized "java/lang/Math", .code Lib.Math.max.name Lib.Math.max.code 2 (some .int), .arrayClass .int, .fieldLink RX5 15 "RecordBench$Row" "bytes" "[I", .fieldLink RX5 21 "RecordBench$Row" "size" "I"] ++ wsX40 ++ wsX20 ++ wsX50)
set_option maxRecDepth 20000 in
theorem gp_X4_init_X2_init_21 : GoodIn wp_X4_init (wp_X2_init) := goodIn_p _ [16, 3] rfl (by decide +kernel)
set_option maxRecDepth 20000 in
theorem gp_X4_init_X5_init_24 : GoodIn wp_X4_init (wp_X5_init) := goodIn_p _ [26, 3, 31] rfl (by decide +kernel)
set_option maxHeartbeats 4000000 in
set_option maxRecDepth 100000 in
theorem c_X4_init (l : Launch) (dC : Nat → ClassId) (dI : Nat → Nat → Nat) (h0 : Nat) (m0 : Nat) (sz : Nat) : Met l yX4_init wp_X4_init ({ frames := 2, cells := 11, slots := 74, locals := 43 }) (va_Pc [.ref h0, .ref m0] (Pr (dC, dI) [] [(h0, .inr (6, [.null, .null, .null]))] sz)) (va_Qv (fun _ : Unit => True) (Bq (dC, dI) (fun _ : Unit => []) (fun _ : Unit => []) (va_A [(h0, .inr (6, [.null, .null, .null]))] sz)) (va_A [(h0, .inr (6, [.null, .null, .null]))] sz)) 11 74 (va_A [(h0, .inr (6, [.null, .null, .null]))] sz) := by
  refine Met.ofW (cc := cX4_init) (maxL := 3) (ret := none) (by decide) rfl ?_
  intro p e s m args below meth c s₁ B hml hv
  obtain ⟨rfl, hsz, hP, hK, hD0, hN, hZ⟩ := hv
  have hx := B.exec
  have hb := B.bytes
  have hr := B.returns
  have hts := atoms_spec (ws := wp_X4_init) B.pre
  have hown : s.vm.findClass RX4 = some m.cls := findClass_of_methodNamed B.named
  have hlocks := B.notSynchronized
  have hin : meth.name = "<init>" := (name_of_methodNamed B.named B.method).1
  have iRX4 : ∀ w ∈ u_ws RX4 TX4 3, w ∈ wp_X4_init := by decide +kernel
  have iRX2 : ∀ w ∈ u_ws RX2 TX2 8, w ∈ wp_X4_init := by decide +kernel
  have iRX5 : ∀ w ∈ u_ws RX5 TX5 2, w ∈ wp_X4_init := by decide +kernel
  subst hsz
  have hD := hD0.self (sz := s.heap.size)
  generalize hAe : va_A [(h0, .inr (6, [.null, .null, .null]))] s.heap.size = A at hD hZ ⊢
  have hA : ∀ q : Nat, s.heap.size ≤ q → A q := fun q h => by rw [← hAe]; exact Or.inr h
  have hS : va_S A s.heap s.heap [] := va_S.rf
  have hP : va_P (dC, dI) vwCl [(h0, .inr (6, [.null, .null, .null]))] s.heap := hP
  have hl := lv_entry ([.ref h0, .ref m0]) (n := 3) (Nat.le_of_ble_eq_true rfl)
  rw [lg_entry_eq]
  generalize (lg_sl ([.ref h0, .ref m0]) ++ List.replicate (3 - (lg_sl ([.ref h0, .ref m0])).length) Slot.unset).toArray = ls at hl ⊢
  have hl : lv_has ls 3 [(0, .ref h0), (1, .ref m0)] := hl
  refine lv_aload_n hx hb dX4_init_0 rfl (lv_at hl 0 rfl) ?_
  refine W.objInit hx hb hown (hts (.methodLink RX4 3 objectInit) (by decide +kernel)) (hts (.instanceMethod objectInit) (by decide +kernel)) (hts (.code objectInit ⟨#[0xb1]⟩ 1 none) (by decide +kernel)) rfl (by rw [hml]; exact hl.1) rfl dX4_init_1 (Nat.le_of_ble_eq_true rfl) (Nat.le_of_ble_eq_true rfl) ?_
  refine W.eq (g2 := F0 m 4 ls []) rfl ?_
  refine lv_aload_n hx hb dX4_init_4 rfl (lv_at hl 0 rfl) ?_
  refine lv_aload_n hx hb dX4_init_5 rfl (lv_at hl 1 rfl) ?_
  refine va_putF (D := (dC, dI)) (ci := 6) (v := .ref m0) (ty := (.array (.object "RecordBench$Make"))) (C := RX4) (T := TX4) (N := 3) hx hb hts iRX4 tyX4 tyX4_ok nmX4 hown hK hP hD hS 0 rfl rfl 0 (by decide) (hts (.fieldLink RX4 9 "RecordBench$RecordWriter" "makes" "[LRecordBench$Make;") (by decide +kernel)) (fun _ h9 => h9) rfl hin rfl (by decide +kernel) rfl rfl (Nat.le_of_ble_eq_true rfl) dX4_init_6 (fun H locs hP hD hS => ?_)
  have hP : va_P (dC, dI) vwCl [(h0, .inr (6, [.ref m0, .null, .null]))] H := hP
  have hD : va_D A [(h0, .inr (6, [.ref m0, .null, .null]))] := hD
  refine lv_aload_n hx hb dX4_init_9 rfl (lv_at hl 0 rfl) ?_
  refine lv_bipush (v := 8) hx hb dX4_init_10 (by decide) ?_
  refine va_newq (C := RX2) hx hb hown (hts (.classLink RX4 15 RX2) (by decide +kernel)) hN.2.2.2.2.2.1 hK hP hD hS hA (n := 8) (N' := 8) (by decide) (by decide) (by decide) (Nat.le_of_ble_eq_true rfl) (Nat.le_of_ble_eq_true rfl) dX4_init_12 (fun q_1 cA_2 H hK hP hD hS => ?_)
  have hP : va_P (dC, dI) vwCl [(h0, .inr (6, [.ref m0, .null, .null])), (q_1, .inl (cA_2, 8, .inr (.inr (.inr (.inr (fun _ => none))))))] H := hP
  have hD : va_D A [(h0, .inr (6, [.ref m0, .null, .null])), (q_1, .inl (cA_2, 8, .inr (.inr (.inr (.inr (fun _ => none))))))] := hD
  have hK : va_K (dC, dI) vwCl [(cA_2, .object RX2)] s := hK
  refine W.widen (k := 1) (n := 8) (by omega) (by omega) ?_
  refine va_putF (D := (dC, dI)) (ci := 6) (v := .ref q_1) (ty := (.array (.object "RecordBench$Piece"))) (C := RX4) (T := TX4) (N := 3) hx hb hts iRX4 tyX4 tyX4_ok nmX4 hown hK hP hD hS 0 rfl rfl 1 (by decide) (hts (.fieldLink RX4 17 "RecordBench$RecordWriter" "pieces" "[LRecordBench$Piece;") (by decide +kernel)) (fun _ h9 => h9) rfl hin rfl (by decide +kernel) rfl rfl (Nat.le_of_ble_eq_true rfl) dX4_init_15 (fun H locs hP hD hS => ?_)
  have hP : va_P (dC, dI) vwCl [(h0, .inr (6, [.ref m0, .ref q_1, .null])), (q_1, .inl (cA_2, 8, .inr (.inr (.inr (.inr (fun _ => none))))))] H := hP
  have hD : va_D A [(h0, .inr (6, [.ref m0, .ref q_1, .null])), (q_1, .inl (cA_2, 8, .inr (.inr (.inr (.inr (fun _ => none))))))] := hD
  refine lv_iconst (v := 0) hx hb dX4_init_18 (by decide) ?_
  refine lv_istore_n (lv' := [(2, .int 0), (0, .ref h0), (1, .ref m0)]) hx hb dX4_init_19 rfl hl (by decide) rfl (fun ls hl => ?_)
  refine lv_iload_n hx hb dX4_init_20 rfl (lv_at hl 0 rfl) ?_
  refine lv_bipush (v := 8) hx hb dX4_init_21 (by decide) ?_
  refine lv_icmp_ge (tgt := 45) hx hb dX4_init_23 (by decide) (fun c_3 => absurd c_3 (by decide)) (fun c_3 => ?_)
  refine lv_aload_n hx hb dX4_init_26 rfl (lv_at hl 1 rfl) ?_
  refine va_get (D := (dC, dI)) (ci := 6) (v := .ref q_1) (C := RX4) (T := TX4) (N := 3) hx hb hts iRX4 hown hK hP 0 rfl rfl 1 (by decide) (hts (.fieldLink RX4 17 "RecordBench$RecordWriter" "pieces" "[LRecordBench$Piece;") (by decide +kernel)) (fun _ h9 => h9) rfl dX4_init_27 ?_
  refine lv_iload_n hx hb dX4_init_30 rfl (lv_at hl 0 rfl) ?_
  refine va_new (ci := 4) (fs := [.int 0, .int 0, .long 0, .int 0, .int 0, .int 0, .int 0, .int 0]) (C := RX2) (T := TX2) (N := 8) hx hb hts iRX2 tyX2 tyX2_ok hown (hts (.classLink RX4 15 RX2) (by decide +kernel)) (hts (.instantiable RX2 8) (by decide +kernel)) (hts (.initialized RX2) (by decide +kernel)) hK hP hD hS hA rfl fsX2_ok (Nat.le_of_ble_eq_true rfl) (Nat.le_of_ble_eq_true rfl) dX4_init_31 (fun q_4 H hP hD hS => ?_)
  have hP : va_P (dC, dI) vwCl [(h0, .inr (6, [.ref m0, .ref q_1, .null])), (q_1, .inl (cA_2, 8, .inr (.inr (.inr (.inr (fun _ => none)))))), (q_4, .inr (4, [.int 0, .int 0, .long 0, .int 0, .int 0, .int 0, .int 0, .int 0]))] H := hP
  have hD : va_D A [(h0, .inr (6, [.ref m0, .ref q_1, .null])), (q_1, .inl (cA_2, 8, .inr (.inr (.inr (.inr (fun _ => none)))))), (q_4, .inr (4, [.int 0, .int 0, .long 0, .int 0, .int 0, .int 0, .int 0, .int 0]))] := hD
  refine W.widen (k := 2) (n := 16) (by omega) (by omega) ?_
  refine lv_dup hx hb dX4_init_34 rfl ?_
  have hFc := va_free (wc := [(q_4, .inr (4, [.int 0, .int 0, .long 0, .int 0, .int 0, .int 0, .int 0, .int 0]))]) hD hS hA [2] rfl
  refine va_callv (va_runIN (As := []) (rest := [.ref q_4, .int 0, .ref q_1]) ⟨hx, hb, hml, hown, hts⟩ (c_X2_init l dC dI q_4 H.size) ⟨va_cnB 0 hts gp_X4_init_X2_init_21 rfl rfl rfl hN.2.1 (hts (.initialized RX2) (by decide +kernel)) (by decide +kernel) ⟨Nat.le_of_ble_eq_true rfl, Nat.le_of_ble_eq_true rfl⟩, rfl, (hts (.instanceMethod yX2_init) (by decide +kernel))⟩ ⟨Pr.blind _, fun U hU hW => ⟨rfl, Pr.at (hP.sub (ws' := [(q_4, .inr (4, [.int 0, .int 0, .long 0, .int 0, .int 0, .int 0, .int 0, .int 0]))]) [2] rfl) (hK.sub (tys' := []) [] rfl) (hD.sub (ws' := [(q_4, .inr (4, [.int 0, .int 0, .long 0, .int 0, .int 0, .int 0, .int 0, .int 0]))]) [2] (by decide) rfl) hN hZ hS hFc hU hW⟩⟩ rfl rfl hl.1 rfl (lv_room (Nat.le_of_ble_eq_true rfl)) dX4_init_35 ⟨Nat.le_of_ble_eq_true rfl, Nat.le_of_ble_eq_true rfl⟩) hS (fun q _ h => hFc q h) hFc (fun u t H1 locs ht hvm hw_6 hB hz1 hk1 hS => ?_)
  obtain ⟨hP, hD, hK⟩ := Bq.join (wr := [(h0, .inr (6, [.ref m0, .ref q_1, .null])), (q_1, .inl (cA_2, 8, .inr (.inr (.inr (.inr (fun _ => none))))))]) hB ht hvm hP hD [2] [0, 1] rfl rfl (by decide) (by decide) hk1 hFc hK
  generalize H1 = H at hP hS ⊢
  have hP : va_P (dC, dI) vwCl [(h0, .inr (6, [.ref m0, .ref q_1, .null])), (q_1, .inl (cA_2, 8, .inr (.inr (.inr (.inr (fun _ => none)))))), (q_4, .inr (4, [.int 0, .int 0, .long 0, .int 0, .int 0, .int 0, .int 0, .int 0]))] H := hP
  have hD : va_D A [(h0, .inr (6, [.ref m0, .ref q_1, .null])), (q_1, .inl (cA_2, 8, .inr (.inr (.inr (.inr (fun _ => none)))))), (q_4, .inr (4, [.int 0, .int 0, .long 0, .int 0, .int 0, .int 0, .int 0, .int 0]))] := hD
  have hK : va_K (dC, dI) vwCl [(cA_2, .object RX2)] s := hK
  refine va_astq hx hb hK hP hD hS 1 0 2 4 rfl rfl rfl rfl (by unfold vp_in; decide) dX4_init_38 (fun H locs hP hD hS => ?_)
  obtain ⟨f_7, ef_7⟩ : ∃ y : Nat → Option Nat, y = va_up (fun _ => none) 0 (some q_4) := ⟨_, rfl⟩
  have hP : va_P (dC, dI) vwCl [(h0, .inr (6, [.ref m0, .ref q_1, .null])), (q_1, .inl (cA_2, 8, .inr (.inr (.inr (.inr f_7))))), (q_4, .inr (4, [.int 0, .int 0, .long 0, .int 0, .int 0, .int 0, .int 0, .int 0]))] H := by rw [ef_7]; exact hP
  have hD : va_D A [(h0, .inr (6, [.ref m0, .ref q_1, .null])), (q_1, .inl (cA_2, 8, .inr (.inr (.inr (.inr f_7))))), (q_4, .inr (4, [.int 0, .int 0, .long 0, .int 0, .int 0, .int 0, .int 0, .int 0]))] := by rw [ef_7]; exact hD
  have hP := hP.sub (ws' := [(h0, .inr (6, [.ref m0, .ref q_1, .null])), (q_1, .inl (cA_2, 8, .inr (.inr (.inr (.inr f_7)))))]) [0, 1] rfl
  have hD := hD.sub (ws' := [(h0, .inr (6, [.ref m0, .ref q_1, .null])), (q_1, .inl (cA_2, 8, .inr (.inr (.inr (.inr f_7)))))]) [0, 1] (by decide) rfl
  refine lv_iinc (v := 1) (lv' := [(2, .int 1), (0, .ref h0), (1, .ref m0)]) hx hb dX4_init_39 hl (k := 0) rfl (by decide) (by decide) rfl (fun ls hl => ?_)
  refine lv_goto (tgt := 20) hx hb dX4_init_42 (by decide) ?_
  refine lv_iload_n hx hb dX4_init_20 rfl (lv_at hl 0 rfl) ?_
  refine lv_bipush (v := 8) hx hb dX4_init_21 (by decide) ?_
  refine lv_icmp_ge (tgt := 45) hx hb dX4_init_23 (by decide) (fun c_8 => absurd c_8 (by decide)) (fun c_8 => ?_)
  refine lv_aload_n hx hb dX4_init_26 rfl (lv_at hl 1 rfl) ?_
  refine va_get (D := (dC, dI)) (ci := 6) (v := .ref q_1) (C := RX4) (T := TX4) (N := 3) hx hb hts iRX4 hown hK hP 0 rfl rfl 1 (by decide) (hts (.fieldLink RX4 17 "RecordBench$RecordWriter" "pieces" "[LRecordBench$Piece;") (by decide +kernel)) (fun _ h9 => h9) rfl dX4_init_27 ?_
  refine lv_iload_n hx hb dX4_init_30 rfl (lv_at hl 0 rfl) ?_
  refine va_new (ci := 4) (fs := [.int 0, .int 0, .long 0, .int 0, .int 0, .int 0, .int 0, .int 0]) (C := RX2) (T := TX2) (N := 8) hx hb hts iRX2 tyX2 tyX2_ok hown (hts (.classLink RX4 15 RX2) (by decide +kernel)) (hts (.instantiable RX2 8) (by decide +kernel)) (hts (.initialized RX2) (by decide +kernel)) hK hP hD hS hA rfl fsX2_ok (Nat.le_of_ble_eq_true rfl) (Nat.le_of_ble_eq_true rfl) dX4_init_31 (fun q_9 H hP hD hS => ?_)
  have hP : va_P (dC, dI) vwCl [(h0, .inr (6, [.ref m0, .ref q_1, .null])), (q_1, .inl (cA_2, 8, .inr (.inr (.inr (.inr f_7))))), (q_9, .inr (4, [.int 0, .int 0, .long 0, .int 0, .int 0, .int 0, .int 0, .int 0]))] H := hP
  have hD : va_D A [(h0, .inr (6, [.ref m0, .ref q_1, .null])), (q_1, .inl (cA_2, 8, .inr (.inr (.inr (.inr f_7))))), (q_9, .inr (4, [.int 0, .int 0, .long 0, .int 0, .int 0, .int 0, .int 0, .int 0]))] := hD
  refine W.widen (k := 3) (n := 24) (by omega) (by omega) ?_
  refine lv_dup hx hb dX4_init_34 rfl ?_
  have hFc := va_free (wc := [(q_9, .inr (4, [.int 0, .int 0, .long 0, .int 0, .int 0, .int 0, .int 0, .int 0]))]) hD hS hA [2] rfl
  refine va_callv (va_runIN (As := []) (rest := [.ref q_9, .int 1, .ref q_1]) ⟨hx, hb, hml, hown, hts⟩ (c_X2_init l dC dI q_9 H.size) ⟨va_cnB 0 hts gp_X4_init_X2_init_21 rfl rfl rfl hN.2.1 (hts (.initialized RX2) (by decide +kernel)) (by decide +kernel) ⟨Nat.le_of_ble_eq_true rfl, Nat.le_of_ble_eq_true rfl⟩, rfl, (hts (.instanceMethod yX2_init) (by decide +kernel))⟩ ⟨Pr.blind _, fun U hU hW => ⟨rfl, Pr.at (hP.sub (ws' := [(q_9, .inr (4, [.int 0, .int 0, .long 0, .int 0, .int 0, .int 0, .int 0, .int 0]))]) [2] rfl) (hK.sub (tys' := []) [] rfl) (hD.sub (ws' := [(q_9, .inr (4, [.int 0, .int 0, .long 0, .int 0, .int 0, .int 0, .int 0, .int 0]))]) [2] (by decide) rfl) hN hZ hS hFc hU hW⟩⟩ rfl rfl hl.1 rfl (lv_room (Nat.le_of_ble_eq_true rfl)) dX4_init_35 ⟨Nat.le_of_ble_eq_true rfl, Nat.le_of_ble_eq_true rfl⟩) hS (fun q _ h => hFc q h) hFc (fun u t H1 locs ht hvm hw_11 hB hz1 hk1 hS => ?_)
  obtain ⟨hP, hD, hK⟩ := Bq.join (wr := [(h0, .inr (6, [.ref m0, .ref q_1, .null])), (q_1, .inl (cA_2, 8, .inr (.inr (.inr (.inr f_7)))))]) hB ht hvm hP hD [2] [0, 1] rfl rfl (by decide) (by decide) hk1 hFc hK
  generalize H1 = H at hP hS ⊢
  have hP : va_P (dC, dI) vwCl [(h0, .inr (6, [.ref m0, .ref q_1, .null])), (q_1, .inl (cA_2, 8, .inr (.inr (.inr (.inr f_7))))), (q_9, .inr (4, [.int 0, .int 0, .long 0, .int 0, .int 0, .int 0, .int 0, .int 0]))] H := hP
  have hD : va_D A [(h0, .inr (6, [.ref m0, .ref q_1, .null])), (q_1, .inl (cA_2, 8, .inr (.inr (.inr (.inr f_7))))), (q_9, .inr (4, [.int 0, .int 0, .long 0, .int 0, .int 0, .int 0, .int 0, .int 0]))] := hD
  have hK : va_K (dC, dI) vwCl [(cA_2, .object RX2)] s := hK
  refine va_astq hx hb hK hP hD hS 1 0 2 4 rfl rfl rfl rfl (by unfold vp_in; decide) dX4_init_38 (fun H locs hP hD hS => ?_)
  obtain ⟨f_12, ef_12⟩ : ∃ y : Nat → Option Nat, y = va_up f_7 1 (some q_9) := ⟨_, rfl⟩
  have hP : va_P (dC, dI) vwCl [(h0, .inr (6, [.ref m0, .ref q_1, .null])), (q_1, .inl (cA_2, 8, .inr (.inr (.inr (.inr f_12))))), (q_9, .inr (4, [.int 0, .int 0, .long 0, .int 0, .int 0, .int 0, .int 0, .int 0]))] H := by rw [ef_12]; exact hP
  have hD : va_D A [(h0, .inr (6, [.ref m0, .ref q_1, .null])), (q_1, .inl (cA_2, 8, .inr (.inr (.inr (.inr f_12))))), (q_9, .inr (4, [.int 0, .int 0, .long 0, .int 0, .int 0, .int 0, .int 0, .int 0]))] := by rw [ef_12]; exact hD
  have hP := hP.sub (ws' := [(h0, .inr (6, [.ref m0, .ref q_1, .null])), (q_1, .inl (cA_2, 8, .inr (.inr (.inr (.inr f_12)))))]) [0, 1] rfl
  have hD := hD.sub (ws' := [(h0, .inr (6, [.ref m0, .ref q_1, .null])), (q_1, .inl (cA_2, 8, .inr (.inr (.inr (.inr f_12)))))]) [0, 1] (by decide) rfl
  refine lv_iinc (v := 2) (lv' := [(2, .int 2), (0, .ref h0), (1, .ref m0)]) hx hb dX4_init_39 hl (k := 0) rfl (by decide) (by decide) rfl (fun ls hl => ?_)
  refine lv_goto (tgt := 20) hx hb dX4_init_42 (by decide) ?_
  refine lv_iload_n hx hb dX4_init_20 rfl (lv_at hl 0 rfl) ?_
  refine lv_bipush (v := 8) hx hb dX4_init_21 (by decide) ?_
  refine lv_icmp_ge (tgt := 45) hx hb dX4_init_23 (by decide) (fun c_13 => absurd c_13 (by decide)) (fun c_13 => ?_)
  refine lv_aload_n hx hb dX4_init_26 rfl (lv_at hl 1 rfl) ?_
  refine va_get (D := (dC, dI)) (ci := 6) (v := .ref q_1) (C := RX4) (T := TX4) (N := 3) hx hb hts iRX4 hown hK hP 0 rfl rfl 1 (by decide) (hts (.fieldLink RX4 17 "RecordBench$RecordWriter" "pieces" "[LRecordBench$Piece;") (by decide +kernel)) (fun _ h9 => h9) rfl dX4_init_27 ?_
  refine lv_iload_n hx hb dX4_init_30 rfl (lv_at hl 0 rfl) ?_
  refine va_new (ci := 4) (fs := [.int 0, .int 0, .long 0, .int 0, .int 0, .int 0, .int 0, .int 0]) (C := RX2) (T := TX2) (N := 8) hx hb hts iRX2 tyX2 tyX2_ok hown (hts (.classLink RX4 15 RX2) (by decide +kernel)) (hts (.instantiable RX2 8) (by decide +kernel)) (hts (.initialized RX2) (by decide +kernel)) hK hP hD hS hA rfl fsX2_ok (Nat.le_of_ble_eq_true rfl) (Nat.le_of_ble_eq_true rfl) dX4_init_31 (fun q_14 H hP hD hS => ?_)
  have hP : va_P (dC, dI) vwCl [(h0, .inr (6, [.ref m0, .ref q_1, .null])), (q_1, .inl (cA_2, 8, .inr (.inr (.inr (.inr f_12))))), (q_14, .inr (4, [.int 0, .int 0, .long 0, .int 0, .int 0, .int 0, .int 0, .int 0]))] H := hP
  have hD : va_D A [(h0, .inr (6, [.ref m0, .ref q_1, .null])), (q_1, .inl (cA_2, 8, .inr (.inr (.inr (.inr f_12))))), (q_14, .inr (4, [.int 0, .int 0, .long 0, .int 0, .int 0, .int 0, .int 0, .int 0]))] := hD
  refine W.widen (k := 4) (n := 32) (by omega) (by omega) ?_
  refine lv_dup hx hb dX4_init_34 rfl ?_
  have hFc := va_free (wc := [(q_14, .inr (4, [.int 0, .int 0, .long 0, .int 0, .int 0, .int 0, .int 0, .int 0]))]) hD hS hA [2] rfl
  refine va_callv (va_runIN (As := []) (rest := [.ref q_14, .int 2, .ref q_1]) ⟨hx, hb, hml, hown, hts⟩ (c_X2_init l dC dI q_14 H.size) ⟨va_cnB 0 hts gp_X4_init_X2_init_21 rfl rfl rfl hN.2.1 (hts (.initialized RX2) (by decide +kernel)) (by decide +kernel) ⟨Nat.le_of_ble_eq_true rfl, Nat.le_of_ble_eq_true rfl⟩, rfl, (hts (.instanceMethod yX2_init) (by decide +kernel))⟩ ⟨Pr.blind _, fun U hU hW => ⟨rfl, Pr.at (hP.sub (ws' := [(q_14, .inr (4, [.int 0, .int 0, .long 0, .int 0, .int 0, .int 0, .int 0, .int 0]))]) [2] rfl) (hK.sub (tys' := []) [] rfl) (hD.sub (ws' := [(q_14, .inr (4, [.int 0, .int 0, .long 0, .int 0, .int 0, .int 0, .int 0, .int 0]))]) [2] (by decide) rfl) hN hZ hS hFc hU hW⟩⟩ rfl rfl hl.1 rfl (lv_room (Nat.le_of_ble_eq_true rfl)) dX4_init_35 ⟨Nat.le_of_ble_eq_true rfl, Nat.le_of_ble_eq_true rfl⟩) hS (fun q _ h => hFc q h) hFc (fun u t H1 locs ht hvm hw_16 hB hz1 hk1 hS => ?_)
  obtain ⟨hP, hD, hK⟩ := Bq.join (wr := [(h0, .inr (6, [.ref m0, .ref q_1, .null])), (q_1, .inl (cA_2, 8, .inr (.inr (.inr (.inr f_12)))))]) hB ht hvm hP hD [2] [0, 1] rfl rfl (by decide) (by decide) hk1 hFc hK
  generalize H1 = H at hP hS ⊢
  have hP : va_P (dC, dI) vwCl [(h0, .inr (6, [.ref m0, .ref q_1, .null])), (q_1, .inl (cA_2, 8, .inr (.inr (.inr (.inr f_12))))), (q_14, .inr (4, [.int 0, .int 0, .long 0, .int 0, .int 0, .int 0, .int 0, .int 0]))] H := hP
  have hD : va_D A [(h0, .inr (6, [.ref m0, .ref q_1, .null])), (q_1, .inl (cA_2, 8, .inr (.inr (.inr (.inr f_12))))), (q_14, .inr (4, [.int 0, .int 0, .long 0, .int 0, .int 0, .int 0, .int 0, .int 0]))] := hD
  have hK : va_K (dC, dI) vwCl [(cA_2, .object RX2)] s := hK
  refine va_astq hx hb hK hP hD hS 1 0 2 4 rfl rfl rfl rfl (by unfold vp_in; decide) dX4_init_38 (fun H locs hP hD hS => ?_)
  obtain ⟨f_17, ef_17⟩ : ∃ y : Nat → Option Nat, y = va_up f_12 2 (some q_14) := ⟨_, rfl⟩
  have hP : va_P (dC, dI) vwCl [(h0, .inr (6, [.ref m0, .ref q_1, .null])), (q_1, .inl (cA_2, 8, .inr (.inr (.inr (.inr f_17))))), (q_14, .inr (4, [.int 0, .int 0, .long 0, .int 0, .int 0, .int 0, .int 0, .int 0]))] H := by rw [ef_17]; exact hP
  have hD : va_D A [(h0, .inr (6, [.ref m0, .ref q_1, .null])), (q_1, .inl (cA_2, 8, .inr (.inr (.inr (.inr f_17))))), (q_14, .inr (4, [.int 0, .int 0, .long 0, .int 0, .int 0, .int 0, .int 0, .int 0]))] := by rw [ef_17]; exact hD
  have hP := hP.sub (ws' := [(h0, .inr (6, [.ref m0, .ref q_1, .null])), (q_1, .inl (cA_2, 8, .inr (.inr (.inr (.inr f_17)))))]) [0, 1] rfl
  have hD := hD.sub (ws' := [(h0, .inr (6, [.ref m0, .ref q_1, .null])), (q_1, .inl (cA_2, 8, .inr (.inr (.inr (.inr f_17)))))]) [0, 1] (by decide) rfl
  refine lv_iinc (v := 3) (lv' := [(2, .int 3), (0, .ref h0), (1, .ref m0)]) hx hb dX4_init_39 hl (k := 0) rfl (by decide) (by decide) rfl (fun ls hl => ?_)
  refine lv_goto (tgt := 20) hx hb dX4_init_42 (by decide) ?_
  refine lv_iload_n hx hb dX4_init_20 rfl (lv_at hl 0 rfl) ?_
  refine lv_bipush (v := 8) hx hb dX4_init_21 (by decide) ?_
  refine lv_icmp_ge (tgt := 45) hx hb dX4_init_23 (by decide) (fun c_18 => absurd c_18 (by decide)) (fun c_18 => ?_)
  refine lv_aload_n hx hb dX4_init_26 rfl (lv_at hl 1 rfl) ?_
  refine va_get (D := (dC, dI)) (ci := 6) (v := .ref q_1) (C := RX4) (T := TX4) (N := 3) hx hb hts iRX4 hown hK hP 0 rfl rfl 1 (by decide) (hts (.fieldLink RX4 17 "RecordBench$RecordWriter" "pieces" "[LRecordBench$Piece;") (by decide +kernel)) (fun _ h9 => h9) rfl dX4_init_27 ?_
  refine lv_iload_n hx hb dX4_init_30 rfl (lv_at hl 0 rfl) ?_
  refine va_new (ci := 4) (fs := [.int 0, .int 0, .long 0, .int 0, .int 0, .int 0, .int 0, .int 0]) (C := RX2) (T := TX2) (N := 8) hx hb hts iRX2 tyX2 tyX2_ok hown (hts (.classLink RX4 15 RX2) (by decide +kernel)) (hts (.instantiable RX2 8) (by decide +kernel)) (hts (.initialized RX2) (by decide +kernel)) hK hP hD hS hA rfl fsX2_ok (Nat.le_of_ble_eq_true rfl) (Nat.le_of_ble_eq_true rfl) dX4_init_31 (fun q_19 H hP hD hS => ?_)
  have hP : va_P (dC, dI) vwCl [(h0, .inr (6, [.ref m0, .ref q_1, .null])), (q_1, .inl (cA_2, 8, .inr (.inr (.inr (.inr f_17))))), (q_19, .inr (4, [.int 0, .int 0, .long 0, .int 0, .int 0, .int 0, .int 0, .int 0]))] H := hP
  have hD : va_D A [(h0, .inr (6, [.ref m0, .ref q_1, .null])), (q_1, .inl (cA_2, 8, .inr (.inr (.inr (.inr f_17))))), (q_19, .inr (4, [.int 0, .int 0, .long 0, .int 0, .int 0, .int 0, .int 0, .int 0]))] := hD
  refine W.widen (k := 5) (n := 40) (by omega) (by omega) ?_
  refine lv_dup hx hb dX4_init_34 rfl ?_
  have hFc := va_free (wc := [(q_19, .inr (4, [.int 0, .int 0, .long 0, .int 0, .int 0, .int 0, .int 0, .int 0]))]) hD hS hA [2] rfl
  refine va_callv (va_runIN (As := []) (rest := [.ref q_19, .int 3, .ref q_1]) ⟨hx, hb, hml, hown, hts⟩ (c_X2_init l dC dI q_19 H.size) ⟨va_cnB 0 hts gp_X4_init_X2_init_21 rfl rfl rfl hN.2.1 (hts (.initialized RX2) (by decide +kernel)) (by decide +kernel) ⟨Nat.le_of_ble_eq_true rfl, Nat.le_of_ble_eq_true rfl⟩, rfl, (hts (.instanceMethod yX2_init) (by decide +kernel))⟩ ⟨Pr.blind _, fun U hU hW => ⟨rfl, Pr.at (hP.sub (ws' := [(q_19, .inr (4, [.int 0, .int 0, .long 0, .int 0, .int 0, .int 0, .int 0, .int 0]))]) [2] rfl) (hK.sub (tys' := []) [] rfl) (hD.sub (ws' := [(q_19, .inr (4, [.int 0, .int 0, .long 0, .int 0, .int 0, .int 0, .int 0, .int 0]))]) [2] (by decide) rfl) hN hZ hS hFc hU hW⟩⟩ rfl rfl hl.1 rfl (lv_room (Nat.le_of_ble_eq_true rfl)) dX4_init_35 ⟨Nat.le_of_ble_eq_true rfl, Nat.le_of_ble_eq_true rfl⟩) hS (fun q _ h => hFc q h) hFc (fun u t H1 locs ht hvm hw_21 hB hz1 hk1 hS => ?_)
  obtain ⟨hP, hD, hK⟩ := Bq.join (wr := [(h0, .inr (6, [.ref m0, .ref q_1, .null])), (q_1, .inl (cA_2, 8, .inr (.inr (.inr (.inr f_17)))))]) hB ht hvm hP hD [2] [0, 1] rfl rfl (by decide) (by decide) hk1 hFc hK
  generalize H1 = H at hP hS ⊢
  have hP : va_P (dC, dI) vwCl [(h0, .inr (6, [.ref m0, .ref q_1, .null])), (q_1, .inl (cA_2, 8, .inr (.inr (.inr (.inr f_17))))), (q_19, .inr (4, [.int 0, .int 0, .long 0, .int 0, .int 0, .int 0, .int 0, .int 0]))] H := hP
  have hD : va_D A [(h0, .inr (6, [.ref m0, .ref q_1, .null])), (q_1, .inl (cA_2, 8, .inr (.inr (.inr (.inr f_17))))), (q_19, .inr (4, [.int 0, .int 0, .long 0, .int 0, .int 0, .int 0, .int 0, .int 0]))] := hD
  have hK : va_K (dC, dI) vwCl [(cA_2, .object RX2)] s := hK
  refine va_astq hx hb hK hP hD hS 1 0 2 4 rfl rfl rfl rfl (by unfold vp_in; decide) dX4_init_38 (fun H locs hP hD hS => ?_)
  obtain ⟨f_22, ef_22⟩ : ∃ y : Nat → Option Nat, y = va_up f_17 3 (some q_19) := ⟨_, rfl⟩
  have hP : va_P (dC, dI) vwCl [(h0, .inr (6, [.ref m0, .ref q_1, .null])), (q_1, .inl (cA_2, 8, .inr (.inr (.inr (.inr f_22))))), (q_19, .inr (4, [.int 0, .int 0, .long 0, .int 0, .int 0, .int 0, .int 0, .int 0]))] H := by rw [ef_22]; exact hP
  have hD : va_D A [(h0, .inr (6, [.ref m0, .ref q_1, .null])), (q_1, .inl (cA_2, 8, .inr (.inr (.inr (.inr f_22))))), (q_19, .inr (4, [.int 0, .int 0, .long 0, .int 0, .int 0, .int 0, .int 0, .int 0]))] := by rw [ef_22]; exact hD
  have hP := hP.sub (ws' := [(h0, .inr (6, [.ref m0, .ref q_1, .null])), (q_1, .inl (cA_2, 8, .inr (.inr (.inr (.inr f_22)))))]) [0, 1] rfl
  have hD := hD.sub (ws' := [(h0, .inr (6, [.ref m0, .ref q_1, .null])), (q_1, .inl (cA_2, 8, .inr (.inr (.inr (.inr f_22)))))]) [0, 1] (by decide) rfl
  refine lv_iinc (v := 4) (lv' := [(2, .int 4), (0, .ref h0), (1, .ref m0)]) hx hb dX4_init_39 hl (k := 0) rfl (by decide) (by decide) rfl (fun ls hl => ?_)
  refine lv_goto (tgt := 20) hx hb dX4_init_42 (by decide) ?_
  refine lv_iload_n hx hb dX4_init_20 rfl (lv_at hl 0 rfl) ?_
  refine lv_bipush (v := 8) hx hb dX4_init_21 (by decide) ?_
  refine lv_icmp_ge (tgt := 45) hx hb dX4_init_23 (by decide) (fun c_23 => absurd c_23 (by decide)) (fun c_23 => ?_)
  refine lv_aload_n hx hb dX4_init_26 rfl (lv_at hl 1 rfl) ?_
  refine va_get (D := (dC, dI)) (ci := 6) (v := .ref q_1) (C := RX4) (T := TX4) (N := 3) hx hb hts iRX4 hown hK hP 0 rfl rfl 1 (by decide) (hts (.fieldLink RX4 17 "RecordBench$RecordWriter" "pieces" "[LRecordBench$Piece;") (by decide +kernel)) (fun _ h9 => h9) rfl dX4_init_27 ?_
  refine lv_iload_n hx hb dX4_init_30 rfl (lv_at hl 0 rfl) ?_
  refine va_new (ci := 4) (fs := [.int 0, .int 0, .long 0, .int 0, .int 0, .int 0, .int 0, .int 0]) (C := RX2) (T := TX2) (N := 8) hx hb hts iRX2 tyX2 tyX2_ok hown (hts (.classLink RX4 15 RX2) (by decide +kernel)) (hts (.instantiable RX2 8) (by decide +kernel)) (hts (.initialized RX2) (by decide +kernel)) hK hP hD hS hA rfl fsX2_ok (Nat.le_of_ble_eq_true rfl) (Nat.le_of_ble_eq_true rfl) dX4_init_31 (fun q_24 H hP hD hS => ?_)
  have hP : va_P (dC, dI) vwCl [(h0, .inr (6, [.ref m0, .ref q_1, .null])), (q_1, .inl (cA_2, 8, .inr (.inr (.inr (.inr f_22))))), (q_24, .inr (4, [.int 0, .int 0, .long 0, .int 0, .int 0, .int 0, .int 0, .int 0]))] H := hP
  have hD : va_D A [(h0, .inr (6, [.ref m0, .ref q_1, .null])), (q_1, .inl (cA_2, 8, .inr (.inr (.inr (.inr f_22))))), (q_24, .inr (4, [.int 0, .int 0, .long 0, .int 0, .int 0, .int 0, .int 0, .int 0]))] := hD
  refine W.widen (k := 6) (n := 48) (by omega) (by omega) ?_
  refine lv_dup hx hb dX4_init_34 rfl ?_
  have hFc := va_free (wc := [(q_24, .inr (4, [.int 0, .int 0, .long 0, .int 0, .int 0, .int 0, .int 0, .int 0]))]) hD hS hA [2] rfl
  refine va_callv (va_runIN (As := []) (rest := [.ref q_24, .int 4, .ref q_1]) ⟨hx, hb, hml, hown, hts⟩ (c_X2_init l dC dI q_24 H.size) ⟨va_cnB 0 hts gp_X4_init_X2_init_21 rfl rfl rfl hN.2.1 (hts (.initialized RX2) (by decide +kernel)) (by decide +kernel) ⟨Nat.le_of_ble_eq_true rfl, Nat.le_of_ble_eq_true rfl⟩, rfl, (hts (.instanceMethod yX2_init) (by decide +kernel))⟩ ⟨Pr.blind _, fun U hU hW => ⟨rfl, Pr.at (hP.sub (ws' := [(q_24, .inr (4, [.int 0, .int 0, .long 0, .int 0, .int 0, .int 0, .int 0, .int 0]))]) [2] rfl) (hK.sub (tys' := []) [] rfl) (hD.sub (ws' := [(q_24, .inr (4, [.int 0, .int 0, .long 0, .int 0, .int 0, .int 0, .int 0, .int 0]))]) [2] (by decide) rfl) hN hZ hS hFc hU hW⟩⟩ rfl rfl hl.1 rfl (lv_room (Nat.le_of_ble_eq_true rfl)) dX4_init_35 ⟨Nat.le_of_ble_eq_true rfl, Nat.le_of_ble_eq_true rfl⟩) hS (fun q _ h => hFc q h) hFc (fun u t H1 locs ht hvm hw_26 hB hz1 hk1 hS => ?_)
  obtain ⟨hP, hD, hK⟩ := Bq.join (wr := [(h0, .inr (6, [.ref m0, .ref q_1, .null])), (q_1, .inl (cA_2, 8, .inr (.inr (.inr (.inr f_22)))))]) hB ht hvm hP hD [2] [0, 1] rfl rfl (by decide) (by decide) hk1 hFc hK
  generalize H1 = H at hP hS ⊢
  have hP : va_P (dC, dI) vwCl [(h0, .inr (6, [.ref m0, .ref q_1, .null])), (q_1, .inl (cA_2, 8, .inr (.inr (.inr (.inr f_22))))), (q_24, .inr (4, [.int 0, .int 0, .long 0, .int 0, .int 0, .int 0, .int 0, .int 0]))] H := hP
  have hD : va_D A [(h0, .inr (6, [.ref m0, .ref q_1, .null])), (q_1, .inl (cA_2, 8, .inr (.inr (.inr (.inr f_22))))), (q_24, .inr (4, [.int 0, .int 0, .long 0, .int 0, .int 0, .int 0, .int 0, .int 0]))] := hD
  have hK : va_K (dC, dI) vwCl [(cA_2, .object RX2)] s := hK
  refine va_astq hx hb hK hP hD hS 1 0 2 4 rfl rfl rfl rfl (by unfold vp_in; decide) dX4_init_38 (fun H locs hP hD hS => ?_)
  obtain ⟨f_27, ef_27⟩ : ∃ y : Nat → Option Nat, y = va_up f_22 4 (some q_24) := ⟨_, rfl⟩
  have hP : va_P (dC, dI) vwCl [(h0, .inr (6, [.ref m0, .ref q_1, .null])), (q_1, .inl (cA_2, 8, .inr (.inr (.inr (.inr f_27))))), (q_24, .inr (4, [.int 0, .int 0, .long 0, .int 0, .int 0, .int 0, .int 0, .int 0]))] H := by rw [ef_27]; exact hP
  have hD : va_D A [(h0, .inr (6, [.ref m0, .ref q_1, .null])), (q_1, .inl (cA_2, 8, .inr (.inr (.inr (.inr f_27))))), (q_24, .inr (4, [.int 0, .int 0, .long 0, .int 0, .int 0, .int 0, .int 0, .int 0]))] := by rw [ef_27]; exact hD
  have hP := hP.sub (ws' := [(h0, .inr (6, [.ref m0, .ref q_1, .null])), (q_1, .inl (cA_2, 8, .inr (.inr (.inr (.inr f_27)))))]) [0, 1] rfl
  have hD := hD.sub (ws' := [(h0, .inr (6, [.ref m0, .ref q_1, .null])), (q_1, .inl (cA_2, 8, .inr (.inr (.inr (.inr f_27)))))]) [0, 1] (by decide) rfl
  refine lv_iinc (v := 5) (lv' := [(2, .int 5), (0, .ref h0), (1, .ref m0)]) hx hb dX4_init_39 hl (k := 0) rfl (by decide) (by decide) rfl (fun ls hl => ?_)
  refine lv_goto (tgt := 20) hx hb dX4_init_42 (by decide) ?_
  refine lv_iload_n hx hb dX4_init_20 rfl (lv_at hl 0 rfl) ?_
  refine lv_bipush (v := 8) hx hb dX4_init_21 (by decide) ?_
  refine lv_icmp_ge (tgt := 45) hx hb dX4_init_23 (by decide) (fun c_28 => absurd c_28 (by decide)) (fun c_28 => ?_)
  refine lv_aload_n hx hb dX4_init_26 rfl (lv_at hl 1 rfl) ?_
  refine va_get (D := (dC, dI)) (ci := 6) (v := .ref q_1) (C := RX4) (T := TX4) (N := 3) hx hb hts iRX4 hown hK hP 0 rfl rfl 1 (by decide) (hts (.fieldLink RX4 17 "RecordBench$RecordWriter" "pieces" "[LRecordBench$Piece;") (by decide +kernel)) (fun _ h9 => h9) rfl dX4_init_27 ?_
  refine lv_iload_n hx hb dX4_init_30 rfl (lv_at hl 0 rfl) ?_
  refine va_new (ci := 4) (fs := [.int 0, .int 0, .long 0, .int 0, .int 0, .int 0, .int 0, .int 0]) (C := RX2) (T := TX2) (N := 8) hx hb hts iRX2 tyX2 tyX2_ok hown (hts (.classLink RX4 15 RX2) (by decide +kernel)) (hts (.instantiable RX2 8) (by decide +kernel)) (hts (.initialized RX2) (by decide +kernel)) hK hP hD hS hA rfl fsX2_ok (Nat.le_of_ble_eq_true rfl) (Nat.le_of_ble_eq_true rfl) dX4_init_31 (fun q_29 H hP hD hS => ?_)
  have hP : va_P (dC, dI) vwCl [(h0, .inr (6, [.ref m0, .ref q_1, .null])), (q_1, .inl (cA_2, 8, .inr (.inr (.inr (.inr f_27))))), (q_29, .inr (4, [.int 0, .int 0, .long 0, .int 0, .int 0, .int 0, .int 0, .int 0]))] H := hP
  have hD : va_D A [(h0, .inr (6, [.ref m0, .ref q_1, .null])), (q_1, .inl (cA_2, 8, .inr (.inr (.inr (.inr f_27))))), (q_29, .inr (4, [.int 0, .int 0, .long 0, .int 0, .int 0, .int 0, .int 0, .int 0]))] := hD
  refine W.widen (k := 7) (n := 56) (by omega) (by omega) ?_
  refine lv_dup hx hb dX4_init_34 rfl ?_
  have hFc := va_free (wc := [(q_29, .inr (4, [.int 0, .int 0, .long 0, .int 0, .int 0, .int 0, .int 0, .int 0]))]) hD hS hA [2] rfl
  refine va_callv (va_runIN (As := []) (rest := [.ref q_29, .int 5, .ref q_1]) ⟨hx, hb, hml, hown, hts⟩ (c_X2_init l dC dI q_29 H.size) ⟨va_cnB 0 hts gp_X4_init_X2_init_21 rfl rfl rfl hN.2.1 (hts (.initialized RX2) (by decide +kernel)) (by decide +kernel) ⟨Nat.le_of_ble_eq_true rfl, Nat.le_of_ble_eq_true rfl⟩, rfl, (hts (.instanceMethod yX2_init) (by decide +kernel))⟩ ⟨Pr.blind _, fun U hU hW => ⟨rfl, Pr.at (hP.sub (ws' := [(q_29, .inr (4, [.int 0, .int 0, .long 0, .int 0, .int 0, .int 0, .int 0, .int 0]))]) [2] rfl) (hK.sub (tys' := []) [] rfl) (hD.sub (ws' := [(q_29, .inr (4, [.int 0, .int 0, .long 0, .int 0, .int 0, .int 0, .int 0, .int 0]))]) [2] (by decide) rfl) hN hZ hS hFc hU hW⟩⟩ rfl rfl hl.1 rfl (lv_room (Nat.le_of_ble_eq_true rfl)) dX4_init_35 ⟨Nat.le_of_ble_eq_true rfl, Nat.le_of_ble_eq_true rfl⟩) hS (fun q _ h => hFc q h) hFc (fun u t H1 locs ht hvm hw_31 hB hz1 hk1 hS => ?_)
  obtain ⟨hP, hD, hK⟩ := Bq.join (wr := [(h0, .inr (6, [.ref m0, .ref q_1, .null])), (q_1, .inl (cA_2, 8, .inr (.inr (.inr (.inr f_27)))))]) hB ht hvm hP hD [2] [0, 1] rfl rfl (by decide) (by decide) hk1 hFc hK
  generalize H1 = H at hP hS ⊢
  have hP : va_P (dC, dI) vwCl [(h0, .inr (6, [.ref m0, .ref q_1, .null])), (q_1, .inl (cA_2, 8, .inr (.inr (.inr (.inr f_27))))), (q_29, .inr (4, [.int 0, .int 0, .long 0, .int 0, .int 0, .int 0, .int 0, .int 0]))] H := hP
  have hD : va_D A [(h0, .inr (6, [.ref m0, .ref q_1, .null])), (q_1, .inl (cA_2, 8, .inr (.inr (.inr (.inr f_27))))), (q_29, .inr (4, [.int 0, .int 0, .long 0, .int 0, .int 0, .int 0, .int 0, .int 0]))] := hD
  have hK : va_K (dC, dI) vwCl [(cA_2, .object RX2)] s := hK
  refine va_astq hx hb hK hP hD hS 1 0 2 4 rfl rfl rfl rfl (by unfold vp_in; decide) dX4_init_38 (fun H locs hP hD hS => ?_)
  obtain ⟨f_32, ef_32⟩ : ∃ y : Nat → Option Nat, y = va_up f_27 5 (some q_29) := ⟨_, rfl⟩
  have hP : va_P (dC, dI) vwCl [(h0, .inr (6, [.ref m0, .ref q_1, .null])), (q_1, .inl (cA_2, 8, .inr (.inr (.inr (.inr f_32))))), (q_29, .inr (4, [.int 0, .int 0, .long 0, .int 0, .int 0, .int 0, .int 0, .int 0]))] H := by rw [ef_32]; exact hP
  have hD : va_D A [(h0, .inr (6, [.ref m0, .ref q_1, .null])), (q_1, .inl (cA_2, 8, .inr (.inr (.inr (.inr f_32))))), (q_29, .inr (4, [.int 0, .int 0, .long 0, .int 0, .int 0, .int 0, .int 0, .int 0]))] := by rw [ef_32]; exact hD
  have hP := hP.sub (ws' := [(h0, .inr (6, [.ref m0, .ref q_1, .null])), (q_1, .inl (cA_2, 8, .inr (.inr (.inr (.inr f_32)))))]) [0, 1] rfl
  have hD := hD.sub (ws' := [(h0, .inr (6, [.ref m0, .ref q_1, .null])), (q_1, .inl (cA_2, 8, .inr (.inr (.inr (.inr f_32)))))]) [0, 1] (by decide) rfl
  refine lv_iinc (v := 6) (lv' := [(2, .int 6), (0, .ref h0), (1, .ref m0)]) hx hb dX4_init_39 hl (k := 0) rfl (by decide) (by decide) rfl (fun ls hl => ?_)
  refine lv_goto (tgt := 20) hx hb dX4_init_42 (by decide) ?_
  refine lv_iload_n hx hb dX4_init_20 rfl (lv_at hl 0 rfl) ?_
  refine lv_bipush (v := 8) hx hb dX4_init_21 (by decide) ?_
  refine lv_icmp_ge (tgt := 45) hx hb dX4_init_23 (by decide) (fun c_33 => absurd c_33 (by decide)) (fun c_33 => ?_)
  refine lv_aload_n hx hb dX4_init_26 rfl (lv_at hl 1 rfl) ?_
  refine va_get (D := (dC, dI)) (ci := 6) (v := .ref q_1) (C := RX4) (T := TX4) (N := 3) hx hb hts iRX4 hown hK hP 0 rfl rfl 1 (by decide) (hts (.fieldLink RX4 17 "RecordBench$RecordWriter" "pieces" "[LRecordBench$Piece;") (by decide +kernel)) (fun _ h9 => h9) rfl dX4_init_27 ?_
  refine lv_iload_n hx hb dX4_init_30 rfl (lv_at hl 0 rfl) ?_
  refine va_new (ci := 4) (fs := [.int 0, .int 0, .long 0, .int 0, .int 0, .int 0, .int 0, .int 0]) (C := RX2) (T := TX2) (N := 8) hx hb hts iRX2 tyX2 tyX2_ok hown (hts (.classLink RX4 15 RX2) (by decide +kernel)) (hts (.instantiable RX2 8) (by decide +kernel)) (hts (.initialized RX2) (by decide +kernel)) hK hP hD hS hA rfl fsX2_ok (Nat.le_of_ble_eq_true rfl) (Nat.le_of_ble_eq_true rfl) dX4_init_31 (fun q_34 H hP hD hS => ?_)
  have hP : va_P (dC, dI) vwCl [(h0, .inr (6, [.ref m0, .ref q_1, .null])), (q_1, .inl (cA_2, 8, .inr (.inr (.inr (.inr f_32))))), (q_34, .inr (4, [.int 0, .int 0, .long 0, .int 0, .int 0, .int 0, .int 0, .int 0]))] H := hP
  have hD : va_D A [(h0, .inr (6, [.ref m0, .ref q_1, .null])), (q_1, .inl (cA_2, 8, .inr (.inr (.inr (.inr f_32))))), (q_34, .inr (4, [.int 0, .int 0, .long 0, .int 0, .int 0, .int 0, .int 0, .int 0]))] := hD
  refine W.widen (k := 8) (n := 64) (by omega) (by omega) ?_
  refine lv_dup hx hb dX4_init_34 rfl ?_
  have hFc := va_free (wc := [(q_34, .inr (4, [.int 0, .int 0, .long 0, .int 0, .int 0, .int 0, .int 0, .int 0]))]) hD hS hA [2] rfl
  refine va_callv (va_runIN (As := []) (rest := [.ref q_34, .int 6, .ref q_1]) ⟨hx, hb, hml, hown, hts⟩ (c_X2_init l dC dI q_34 H.size) ⟨va_cnB 0 hts gp_X4_init_X2_init_21 rfl rfl rfl hN.2.1 (hts (.initialized RX2) (by decide +kernel)) (by decide +kernel) ⟨Nat.le_of_ble_eq_true rfl, Nat.le_of_ble_eq_true rfl⟩, rfl, (hts (.instanceMethod yX2_init) (by decide +kernel))⟩ ⟨Pr.blind _, fun U hU hW => ⟨rfl, Pr.at (hP.sub (ws' := [(q_34, .inr (4, [.int 0, .int 0, .long 0, .int 0, .int 0, .int 0, .int 0, .int 0]))]) [2] rfl) (hK.sub (tys' := []) [] rfl) (hD.sub (ws' := [(q_34, .inr (4, [.int 0, .int 0, .long 0, .int 0, .int 0, .int 0, .int 0, .int 0]))]) [2] (by decide) rfl) hN hZ hS hFc hU hW⟩⟩ rfl rfl hl.1 rfl (lv_room (Nat.le_of_ble_eq_true rfl)) dX4_init_35 ⟨Nat.le_of_ble_eq_true rfl, Nat.le_of_ble_eq_true rfl⟩) hS (fun q _ h => hFc q h) hFc (fun u t H1 locs ht hvm hw_36 hB hz1 hk1 hS => ?_)
  obtain ⟨hP, hD, hK⟩ := Bq.join (wr := [(h0, .inr (6, [.ref m0, .ref q_1, .null])), (q_1, .inl (cA_2, 8, .inr (.inr (.inr (.inr f_32)))))]) hB ht hvm hP hD [2] [0, 1] rfl rfl (by decide) (by decide) hk1 hFc hK
  generalize H1 = H at hP hS ⊢
  have hP : va_P (dC, dI) vwCl [(h0, .inr (6, [.ref m0, .ref q_1, .null])), (q_1, .inl (cA_2, 8, .inr (.inr (.inr (.inr f_32))))), (q_34, .inr (4, [.int 0, .int 0, .long 0, .int 0, .int 0, .int 0, .int 0, .int 0]))] H := hP
  have hD : va_D A [(h0, .inr (6, [.ref m0, .ref q_1, .null])), (q_1, .inl (cA_2, 8, .inr (.inr (.inr (.inr f_32))))), (q_34, .inr (4, [.int 0, .int 0, .long 0, .int 0, .int 0, .int 0, .int 0, .int 0]))] := hD
  have hK : va_K (dC, dI) vwCl [(cA_2, .object RX2)] s := hK
  refine va_astq hx hb hK hP hD hS 1 0 2 4 rfl rfl rfl rfl (by unfold vp_in; decide) dX4_init_38 (fun H locs hP hD hS => ?_)
  obtain ⟨f_37, ef_37⟩ : ∃ y : Nat → Option Nat, y = va_up f_32 6 (some q_34) := ⟨_, rfl⟩
  have hP : va_P (dC, dI) vwCl [(h0, .inr (6, [.ref m0, .ref q_1, .null])), (q_1, .inl (cA_2, 8, .inr (.inr (.inr (.inr f_37))))), (q_34, .inr (4, [.int 0, .int 0, .long 0, .int 0, .int 0, .int 0, .int 0, .int 0]))] H := by rw [ef_37]; exact hP
  have hD : va_D A [(h0, .inr (6, [.ref m0, .ref q_1, .null])), (q_1, .inl (cA_2, 8, .inr (.inr (.inr (.inr f_37))))), (q_34, .inr (4, [.int 0, .int 0, .long 0, .int 0, .int 0, .int 0, .int 0, .int 0]))] := by rw [ef_37]; exact hD
  have hP := hP.sub (ws' := [(h0, .inr (6, [.ref m0, .ref q_1, .null])), (q_1, .inl (cA_2, 8, .inr (.inr (.inr (.inr f_37)))))]) [0, 1] rfl
  have hD := hD.sub (ws' := [(h0, .inr (6, [.ref m0, .ref q_1, .null])), (q_1, .inl (cA_2, 8, .inr (.inr (.inr (.inr f_37)))))]) [0, 1] (by decide) rfl
  refine lv_iinc (v := 7) (lv' := [(2, .int 7), (0, .ref h0), (1, .ref m0)]) hx hb dX4_init_39 hl (k := 0) rfl (by decide) (by decide) rfl (fun ls hl => ?_)
  refine lv_goto (tgt := 20) hx hb dX4_init_42 (by decide) ?_
  refine lv_iload_n hx hb dX4_init_20 rfl (lv_at hl 0 rfl) ?_
  refine lv_bipush (v := 8) hx hb dX4_init_21 (by decide) ?_
  refine lv_icmp_ge (tgt := 45) hx hb dX4_init_23 (by decide) (fun c_38 => absurd c_38 (by decide)) (fun c_38 => ?_)
  refine lv_aload_n hx hb dX4_init_26 rfl (lv_at hl 1 rfl) ?_
  refine va_get (D := (dC, dI)) (ci := 6) (v := .ref q_1) (C := RX4) (T := TX4) (N := 3) hx hb hts iRX4 hown hK hP 0 rfl rfl 1 (by decide) (hts (.fieldLink RX4 17 "RecordBench$RecordWriter" "pieces" "[LRecordBench$Piece;") (by decide +kernel)) (fun _ h9 => h9) rfl dX4_init_27 ?_
  refine lv_iload_n hx hb dX4_init_30 rfl (lv_at hl 0 rfl) ?_
  refine va_new (ci := 4) (fs := [.int 0, .int 0, .long 0, .int 0, .int 0, .int 0, .int 0, .int 0]) (C := RX2) (T := TX2) (N := 8) hx hb hts iRX2 tyX2 tyX2_ok hown (hts (.classLink RX4 15 RX2) (by decide +kernel)) (hts (.instantiable RX2 8) (by decide +kernel)) (hts (.initialized RX2) (by decide +kernel)) hK hP hD hS hA rfl fsX2_ok (Nat.le_of_ble_eq_true rfl) (Nat.le_of_ble_eq_true rfl) dX4_init_31 (fun q_39 H hP hD hS => ?_)
  have hP : va_P (dC, dI) vwCl [(h0, .inr (6, [.ref m0, .ref q_1, .null])), (q_1, .inl (cA_2, 8, .inr (.inr (.inr (.inr f_37))))), (q_39, .inr (4, [.int 0, .int 0, .long 0, .int 0, .int 0, .int 0, .int 0, .int 0]))] H := hP
  have hD : va_D A [(h0, .inr (6, [.ref m0, .ref q_1, .null])), (q_1, .inl (cA_2, 8, .inr (.inr (.inr (.inr f_37))))), (q_39, .inr (4, [.int 0, .int 0, .long 0, .int 0, .int 0, .int 0, .int 0, .int 0]))] := hD
  refine W.widen (k := 9) (n := 72) (by omega) (by omega) ?_
  refine lv_dup hx hb dX4_init_34 rfl ?_
  have hFc := va_free (wc := [(q_39, .inr (4, [.int 0, .int 0, .long 0, .int 0, .int 0, .int 0, .int 0, .int 0]))]) hD hS hA [2] rfl
  refine va_callv (va_runIN (As := []) (rest := [.ref q_39, .int 7, .ref q_1]) ⟨hx, hb, hml, hown, hts⟩ (c_X2_init l dC dI q_39 H.size) ⟨va_cnB 0 hts gp_X4_init_X2_init_21 rfl rfl rfl hN.2.1 (hts (.initialized RX2) (by decide +kernel)) (by decide +kernel) ⟨Nat.le_of_ble_eq_true rfl, Nat.le_of_ble_eq_true rfl⟩, rfl, (hts (.instanceMethod yX2_init) (by decide +kernel))⟩ ⟨Pr.blind _, fun U hU hW => ⟨rfl, Pr.at (hP.sub (ws' := [(q_39, .inr (4, [.int 0, .int 0, .long 0, .int 0, .int 0, .int 0, .int 0, .int 0]))]) [2] rfl) (hK.sub (tys' := []) [] rfl) (hD.sub (ws' := [(q_39, .inr (4, [.int 0, .int 0, .long 0, .int 0, .int 0, .int 0, .int 0, .int 0]))]) [2] (by decide) rfl) hN hZ hS hFc hU hW⟩⟩ rfl rfl hl.1 rfl (lv_room (Nat.le_of_ble_eq_true rfl)) dX4_init_35 ⟨Nat.le_of_ble_eq_true rfl, Nat.le_of_ble_eq_true rfl⟩) hS (fun q _ h => hFc q h) hFc (fun u t H1 locs ht hvm hw_41 hB hz1 hk1 hS => ?_)
  obtain ⟨hP, hD, hK⟩ := Bq.join (wr := [(h0, .inr (6, [.ref m0, .ref q_1, .null])), (q_1, .inl (cA_2, 8, .inr (.inr (.inr (.inr f_37)))))]) hB ht hvm hP hD [2] [0, 1] rfl rfl (by decide) (by decide) hk1 hFc hK
  generalize H1 = H at hP hS ⊢
  have hP : va_P (dC, dI) vwCl [(h0, .inr (6, [.ref m0, .ref q_1, .null])), (q_1, .inl (cA_2, 8, .inr (.inr (.inr (.inr f_37))))), (q_39, .inr (4, [.int 0, .int 0, .long 0, .int 0, .int 0, .int 0, .int 0, .int 0]))] H := hP
  have hD : va_D A [(h0, .inr (6, [.ref m0, .ref q_1, .null])), (q_1, .inl (cA_2, 8, .inr (.inr (.inr (.inr f_37))))), (q_39, .inr (4, [.int 0, .int 0, .long 0, .int 0, .int 0, .int 0, .int 0, .int 0]))] := hD
  have hK : va_K (dC, dI) vwCl [(cA_2, .object RX2)] s := hK
  refine va_astq hx hb hK hP hD hS 1 0 2 4 rfl rfl rfl rfl (by unfold vp_in; decide) dX4_init_38 (fun H locs hP hD hS => ?_)
  obtain ⟨f_42, ef_42⟩ : ∃ y : Nat → Option Nat, y = va_up f_37 7 (some q_39) := ⟨_, rfl⟩
  have hP : va_P (dC, dI) vwCl [(h0, .inr (6, [.ref m0, .ref q_1, .null])), (q_1, .inl (cA_2, 8, .inr (.inr (.inr (.inr f_42))))), (q_39, .inr (4, [.int 0, .int 0, .long 0, .int 0, .int 0, .int 0, .int 0, .int 0]))] H := by rw [ef_42]; exact hP
  have hD : va_D A [(h0, .inr (6, [.ref m0, .ref q_1, .null])), (q_1, .inl (cA_2, 8, .inr (.inr (.inr (.inr f_42))))), (q_39, .inr (4, [.int 0, .int 0, .long 0, .int 0, .int 0, .int 0, .int 0, .int 0]))] := by rw [ef_42]; exact hD
  have hP := hP.sub (ws' := [(h0, .inr (6, [.ref m0, .ref q_1, .null])), (q_1, .inl (cA_2, 8, .inr (.inr (.inr (.inr f_42)))))]) [0, 1] rfl
  have hD := hD.sub (ws' := [(h0, .inr (6, [.ref m0, .ref q_1, .null])), (q_1, .inl (cA_2, 8, .inr (.inr (.inr (.inr f_42)))))]) [0, 1] (by decide) rfl
  refine lv_iinc (v := 8) (lv' := [(2, .int 8), (0, .ref h0), (1, .ref m0)]) hx hb dX4_init_39 hl (k := 0) rfl (by decide) (by decide) rfl (fun ls hl => ?_)
  refine lv_goto (tgt := 20) hx hb dX4_init_42 (by decide) ?_
  refine lv_iload_n hx hb dX4_init_20 rfl (lv_at hl 0 rfl) ?_
  refine lv_bipush (v := 8) hx hb dX4_init_21 (by decide) ?_
  refine lv_icmp_ge (tgt := 45) hx hb dX4_init_23 (by decide) (fun c_43 => ?_) (fun c_43 => absurd (by decide) c_43)
  refine lv_aload_n hx hb dX4_init_45 rfl (lv_at hl 1 rfl) ?_
  refine va_new (ci := 7) (fs := [.null, .int 0]) (C := RX5) (T := TX5) (N := 2) hx hb hts iRX5 tyX5 tyX5_ok hown (hts (.classLink RX4 22 RX5) (by decide +kernel)) (hts (.instantiable RX5 2) (by decide +kernel)) (hts (.initialized RX5) (by decide +kernel)) hK hP hD hS hA rfl fsX5_ok (Nat.le_of_ble_eq_true rfl) (Nat.le_of_ble_eq_true rfl) dX4_init_46 (fun q_44 H hP hD hS => ?_)
  have hP : va_P (dC, dI) vwCl [(h0, .inr (6, [.ref m0, .ref q_1, .null])), (q_1, .inl (cA_2, 8, .inr (.inr (.inr (.inr f_42))))), (q_44, .inr (7, [.null, .int 0]))] H := hP
  have hD : va_D A [(h0, .inr (6, [.ref m0, .ref q_1, .null])), (q_1, .inl (cA_2, 8, .inr (.inr (.inr (.inr f_42))))), (q_44, .inr (7, [.null, .int 0]))] := hD
  refine W.widen (k := 10) (n := 74) (by omega) (by omega) ?_
  refine lv_dup hx hb dX4_init_49 rfl ?_
  refine lv_iconst (v := 0) hx hb dX4_init_50 (by decide) ?_
  have hFc := va_free (wc := [(q_44, .inr (7, [.null, .int 0]))]) hD hS hA [2] rfl
  refine va_callv (va_runI (As := [.int 0]) (rest := [.ref q_44, .ref h0]) ⟨hx, hb, hml, hown, hts⟩ (c_X5_init l dC dI q_44 0 0 (by decide) (by decide) (by decide) H.size) (cwI 1 hts gp_X4_init_X5_init_24 rfl rfl rfl (hts (.initialized RX5) (by decide +kernel)) (hts (.methodLink RX4 24 yX5_init) (by decide +kernel)) (hts (.instanceMethod yX5_init) (by decide +kernel)) rfl (by decide +kernel) ⟨Nat.le_of_ble_eq_true rfl, Nat.le_of_ble_eq_true rfl⟩) ⟨Pr.blind _, fun U hU hW => ⟨rfl, Pr.at (hP.sub (ws' := [(q_44, .inr (7, [.null, .int 0]))]) [2] rfl) (hK.sub (tys' := []) [] rfl) (hD.sub (ws' := [(q_44, .inr (7, [.null, .int 0]))]) [2] (by decide) rfl) hN hZ hS hFc hU hW⟩⟩ rfl rfl hl.1 rfl (lv_room (Nat.le_of_ble_eq_true rfl)) dX4_init_51 ⟨Nat.le_of_ble_eq_true rfl, Nat.le_of_ble_eq_true rfl⟩) hS (fun q _ h => hFc q h) hFc (fun u t H1 locs ht hvm hw_46 hB hz1 hk1 hS => ?_)
  obtain ⟨q_47, cA_48⟩ := u
  obtain ⟨hP, hD, hK⟩ := Bq.join (wr := [(h0, .inr (6, [.ref m0, .ref q_1, .null])), (q_1, .inl (cA_2, 8, .inr (.inr (.inr (.inr f_42)))))]) hB ht hvm hP hD [2] [0, 1] rfl rfl (by decide) (by decide) hk1 hFc hK
  generalize H1 = H at hP hS ⊢
  have hP : va_P (dC, dI) vwCl [(h0, .inr (6, [.ref m0, .ref q_1, .null])), (q_1, .inl (cA_2, 8, .inr (.inr (.inr (.inr f_42))))), (q_44, .inr (7, [.ref q_47, .int 0])), (q_47, .inl (cA_48, 0, .inl (fun _ => 0)))] H := hP
  have hD : va_D A [(h0, .inr (6, [.ref m0, .ref q_1, .null])), (q_1, .inl (cA_2, 8, .inr (.inr (.inr (.inr f_42))))), (q_44, .inr (7, [.ref q_47, .int 0])), (q_47, .inl (cA_48, 0, .inl (fun _ => 0)))] := hD
  have hK : va_K (dC, dI) vwCl [(cA_2, .object RX2), (cA_48, .int)] s := hK
  refine W.widen (k := 11) (n := 74) (by omega) (by omega) ?_
  refine va_putF (D := (dC, dI)) (ci := 6) (v := .ref q_44) (ty := (.object "RecordBench$Row")) (C := RX4) (T := TX4) (N := 3) hx hb hts iRX4 tyX4 tyX4_ok nmX4 hown hK hP hD hS 0 rfl rfl 2 (by decide) (hts (.fieldLink RX4 27 "RecordBench$RecordWriter" "nothing" "LRecordBench$Row;") (by decide +kernel)) (fun _ h9 => h9) rfl hin rfl (by decide +kernel) rfl rfl (Nat.le_of_ble_eq_true rfl) dX4_init_54 (fun H locs hP hD hS => ?_)
  have hP : va_P (dC, dI) vwCl [(h0, .inr (6, [.ref m0, .ref q_1, .ref q_44])), (q_1, .inl (cA_2, 8, .inr (.inr (.inr (.inr f_42))))), (q_44, .inr (7, [.ref q_47, .int 0])), (q_47, .inl (cA_48, 0, .inl (fun _ => 0)))] H := hP
  have hD : va_D A [(h0, .inr (6, [.ref m0, .ref q_1, .ref q_44])), (q_1, .inl (cA_2, 8, .inr (.inr (.inr (.inr f_42))))), (q_44, .inr (7, [.ref q_47, .int 0])), (q_47, .inl (cA_48, 0, .inl (fun _ => 0)))] := hD
  have hP9 := hP.sub (ws' := []) [] rfl
  have hD9 := hD.sub (ws' := []) [] (by decide) rfl
  have hK9 := hK.sub (tys' := []) [] rfl
  exact W.vret hx hb hr (fun t ht hW => ⟨⟨(), rfl, trivial, by rw [ht]; exact hP9, va_K.moved hW.alike hK9, hD9⟩, hS.F ht⟩) hS.2.2 dX4_init_57
def wp_X7_init : List Cond := .code yX7_init cX7_init 2 none :: ([.methodLink RX7 3 objectInit, .instanceMethod objectInit, .code objectInit ⟨#[0xb1]⟩ 1 none, .fieldLink RX7 9 "RecordBench$Walks" "makes" "[LRecordBench$Make;", .arrayClass .int, .fieldLink RX7 15 "RecordBench$Walks" "seen" "[I"] ++ wsX70)
set_option maxHeartbeats 4000000 in
set_option maxRecDepth 100000 in
theorem c_X7_init (l : Launch) (dC : Nat → ClassId) (dI : Nat → Nat → Nat) (h0 : Nat) (m0 : Nat) (sz : Nat) : Met l yX7_init wp_X7_init ({ frames := 1, cells := 1, slots := 1024, locals := 16 }) (va_Pc [.ref h0, .ref m0] (Pr (dC, dI) [] [(h0, .inr (9, [.null, .null]))] sz)) (va_Qv (fun _ : Unit => True) (Bq (dC, dI) (fun _ : Unit => []) (fun _ : Unit => []) (va_A [(h0, .inr (9, [.null, .null]))] sz)) (va_A [(h0, .inr (9, [.null, .null]))] sz)) 1 1024 (va_A [(h0, .inr (9, [.null, .null]))] sz) := by
  refine Met.ofW (cc := cX7_init) (maxL := 2) (ret := none) (by decide) rfl ?_
  intro p e s m args below meth c s₁ B hml hv
  obtain ⟨rfl, hsz, hP, hK, hD0, hN, hZ⟩ := hv
  have hx := B.exec
  have hb := B.bytes
  have hr := B.returns
  have hts := atoms_spec (ws := wp_X7_init) B.pre
  have hown : s.vm.findClass RX7 = some m.cls := findClass_of_methodNamed B.named
  have hlocks := B.notSynchronized
  have hin : meth.name = "<init>" := (name_of_methodNamed B.named B.method).1
  have iRX7 : ∀ w ∈ u_ws RX7 TX7 2, w ∈ wp_X7_init := by decide +kernel
  subst hsz
  have hD := hD0.self (sz := s.heap.size)
  generalize hAe : va_A [(h0, .inr (9, [.null, .null]))] s.heap.size = A at hD hZ ⊢
  have hA : ∀ q : Nat, s.heap.size ≤ q → A q := fun q h => by rw [← hAe]; exact Or.inr h
  have hS : va_S A s.heap s.heap [] := va_S.rf
  have hP : va_P (dC, dI) vwCl [(h0, .inr (9, [.null, .null]))] s.heap := hP
  have hl := lv_entry ([.ref h0, .ref m0]) (n := 2) (Nat.le_of_ble_eq_true rfl)
  rw [lg_entry_eq]
  generalize (lg_sl ([.ref h0, .ref m0]) ++ List.replicate (2 - (lg_sl ([.ref h0, .ref m0])).length) Slot.unset).toArray = ls at hl ⊢
  have hl : lv_has ls 2 [(0, .ref h0), (1, .ref m0)] := hl
  refine lv_aload_n hx hb dX7_init_0 rfl (lv_at hl 0 rfl) ?_
  refine W.objInit hx hb hown (hts (.methodLink RX7 3 objectInit) (by decide +kernel)) (hts (.instanceMethod objectInit) (by decide +kernel)) (hts (.code objectInit ⟨#[0xb1]⟩ 1 none) (by decide +kernel)) rfl (by rw [hml]; exact hl.1) rfl dX7_init_1 (Nat.le_of_ble_eq_true rfl) (Nat.le_of_ble_eq_true rfl) ?_
  refine W.eq (g2 := F0 m 4 ls []) rfl ?_
  refine lv_aload_n hx hb dX7_init_4 rfl (lv_at hl 0 rfl) ?_
  refine lv_aload_n hx hb dX7_init_5 rfl (lv_at hl 1 rfl) ?_
  refine va_putF (D := (dC, dI)) (ci := 9) (v := .ref m0) (ty := (.array (.object "RecordBench$Make"))) (C := RX7) (T := TX7) (N := 2) hx hb hts iRX7 tyX7 tyX7_ok nmX7 hown hK hP hD hS 0 rfl rfl 0 (by decide) (hts (.fieldLink RX7 9 "RecordBench$Walks" "makes" "[LRecordBench$Make;") (by decide +kernel)) (fun _ h9 => h9) rfl hin rfl (by decide +kernel) rfl rfl (Nat.le_of_ble_eq_true rfl) dX7_init_6 (fun H locs hP hD hS => ?_)
  have hP : va_P (dC, dI) vwCl [(h0, .inr (9, [.ref m0, .null]))] H := hP
  have hD : va_D A [(h0, .inr (9, [.ref m0, .null]))] := hD
  refine lv_aload_n hx hb dX7_init_9 rfl (lv_at hl 0 rfl) ?_
  refine lv_sipush (v := 1024) hx hb dX7_init_10 (by decide) ?_
  refine va_newa (atype := .int) (ty := .int) (a0 := (1024, .inl (fun _ => 0))) hx hb (hts (.arrayClass .int) (by decide +kernel)) rfl hK hP hD hS hA (fun _ => rfl) (by decide) (by decide) (by decide) (Nat.le_of_ble_eq_true rfl) (Nat.le_of_ble_eq_true rfl) dX7_init_13 (fun q_1 cA_2 H hK hP hD hS => ?_)
  have hP : va_P (dC, dI) vwCl [(h0, .inr (9, [.ref m0, .null])), (q_1, .inl (cA_2, 1024, .inl (fun _ => 0)))] H := hP
  have hD : va_D A [(h0, .inr (9, [.ref m0, .null])), (q_1, .inl (cA_2, 1024, .inl (fun _ => 0)))] := hD
  have hK : va_K (dC, dI) vwCl [(cA_2, .int)] s := hK
  refine W.widen (k := 1) (n := 1024) (by omega) (by omega) ?_
  refine va_putF (D := (dC, dI)) (ci := 9) (v := .ref q_1) (ty := (.array .int)) (C := RX7) (T := TX7) (N := 2) hx hb hts iRX7 tyX7 tyX7_ok nmX7 hown hK hP hD hS 0 rfl rfl 1 (by decide) (hts (.fieldLink RX7 15 "RecordBench$Walks" "seen" "[I") (by decide +kernel)) (fun _ h9 => h9) rfl hin rfl (by decide +kernel) rfl rfl (Nat.le_of_ble_eq_true rfl) dX7_init_15 (fun H locs hP hD hS => ?_)
  have hP : va_P (dC, dI) vwCl [(h0, .inr (9, [.ref m0, .ref q_1])), (q_1, .inl (cA_2, 1024, .inl (fun _ => 0)))] H := hP
  have hD : va_D A [(h0, .inr (9, [.ref m0, .ref q_1])), (q_1, .inl (cA_2, 1024, .inl (fun _ => 0)))] := hD
  have hP9 := hP.sub (ws' := []) [] rfl
  have hD9 := hD.sub (ws' := []) [] (by decide) rfl
  have hK9 := hK.sub (tys' := []) [] rfl
  exact W.vret hx hb hr (fun t ht hW => ⟨⟨(), rfl, trivial, by rw [ht]; exact hP9, va_K.moved hW.alike hK9, hD9⟩, hS.F ht⟩) hS.2.2 dX7_init_18
def wp_J5_init_d00df : List Cond := .code yJ5_init_d00df cJ5_init_d00df 2 none :: ([.methodLink RJ5 3 objectInit, .instanceMethod objectInit, .code objectInit ⟨#[0xb1]⟩ 1 none, .fieldLink RJ5 18 "java/lang/String" "COMPACT_STRINGS" "Z", .arrayClass .byte, .fieldLink RJ5 15 "java/lang/AbstractStringBuilder" "value" "[B", .fieldLink RJ5 22 "java/lang/AbstractStringBuilder" "coder" "B"] ++ wsJ40)
set_option maxHeartbeats 4000000 in
set_option maxRecDepth 100000 in
theorem c_J5_init_d00df (l : Launch) (dC : Nat → ClassId) (dI : Nat → Nat → Nat) (h0 : Nat) (sz : Nat) : Met l yJ5_init_d00df wp_J5_init_d00df ({ frames := 1, cells := 1, slots := 16, locals := 16 }) (va_Pc [.ref h0, .int 16] (Pr (dC, dI) [] [(h0, .inr (1, [.null, .int 0, .int 0, .int 0]))] sz)) (va_Qv (fun _ : Unit => True) (Bq (dC, dI) (fun _ : Unit => []) (fun _ : Unit => []) (va_A [(h0, .inr (1, [.null, .int 0, .int 0, .int 0]))] sz)) (va_A [(h0, .inr (1, [.null, .int 0, .int 0, .int 0]))] sz)) 1 16 (va_A [(h0, .inr (1, [.null, .int 0, .int 0, .int 0]))] sz) := by
  refine Met.ofW (cc := cJ5_init_d00df) (maxL := 2) (ret := none) (by decide) rfl ?_
  intro p e s m args below meth c s₁ B hml hv
  obtain ⟨rfl, hsz, hP, hK, hD0, hN, hZ⟩ := hv
  have hx := B.exec
  have hb := B.bytes
  have hr := B.returns
  have hts := atoms_spec (ws := wp_J5_init_d00df) B.pre
  have hown : s.vm.findClass RJ5 = some m.cls := findClass_of_methodNamed B.named
  have hlocks := B.notSynchronized
  have iRJ4 : ∀ w ∈ u_ws RJ4 TJ4 4, w ∈ wp_J5_init_d00df := by decide +kernel
  subst hsz
  have hD := hD0.self (sz := s.heap.size)
  generalize hAe : va_A [(h0, .inr (1, [.null, .int 0, .int 0, .int 0]))] s.heap.size = A at hD hZ ⊢
  have hA : ∀ q : Nat, s.heap.size ≤ q → A q := fun q h => by rw [← hAe]; exact Or.inr h
  have hS : va_S A s.heap s.heap [] := va_S.rf
  have hP : va_P (dC, dI) vwCl [(h0, .inr (1, [.null, .int 0, .int 0, .int 0]))] s.heap := hP
  have hl := lv_entry ([.ref h0, .int 16]) (n := 2) (Nat.le_of_ble_eq_true rfl)
  rw [lg_entry_eq]
  generalize (lg_sl ([.ref h0, .int 16]) ++ List.replicate (2 - (lg_sl ([.ref h0, .int 16])).length) Slot.unset).toArray = ls at hl ⊢
  have hl : lv_has ls 2 [(0, .ref h0), (1, .int 16)] := hl
  refine lv_aload_n hx hb dJ5_init_d00df_0 rfl (lv_at hl 0 rfl) ?_
  refine W.objInit hx hb hown (hts (.methodLink RJ5 3 objectInit) (by decide +kernel)) (hts (.instanceMethod objectInit) (by decide +kernel)) (hts (.code objectInit ⟨#[0xb1]⟩ 1 none) (by decide +kernel)) rfl (by rw [hml]; exact hl.1) rfl dJ5_init_d00df_1 (Nat.le_of_ble_eq_true rfl) (Nat.le_of_ble_eq_true rfl) ?_
  refine W.eq (g2 := F0 m 4 ls []) rfl ?_
  refine va_gets (C := "java/lang/String") (n := "COMPACT_STRINGS") (d := "Z") (v := .int 1) hx hb hZ hS hown (hts (.fieldLink RJ5 18 "java/lang/String" "COMPACT_STRINGS" "Z") (by decide +kernel)) (fun _ h9 => h9) dJ5_init_d00df_4 ?_
  refine lv_if_eq (tgt := 25) hx hb dJ5_init_d00df_7 (by decide) (fun c_1 => absurd c_1 (by decide)) (fun c_1 => ?_)
  refine lv_aload_n hx hb dJ5_init_d00df_10 rfl (lv_at hl 0 rfl) ?_
  refine lv_iload_n hx hb dJ5_init_d00df_11 rfl (lv_at hl 1 rfl) ?_
  refine va_newa (atype := .byte) (ty := .byte) (a0 := (16, .inl (fun _ => 0))) hx hb (hts (.arrayClass .byte) (by decide +kernel)) rfl hK hP hD hS hA (fun _ => rfl) (by decide) (by decide) (by decide) (Nat.le_of_ble_eq_true rfl) (Nat.le_of_ble_eq_true rfl) dJ5_init_d00df_12 (fun q_2 cA_3 H hK hP hD hS => ?_)
  have hP : va_P (dC, dI) vwCl [(h0, .inr (1, [.null, .int 0, .int 0, .int 0])), (q_2, .inl (cA_3, 16, .inl (fun _ => 0)))] H := hP
  have hD : va_D A [(h0, .inr (1, [.null, .int 0, .int 0, .int 0])), (q_2, .inl (cA_3, 16, .inl (fun _ => 0)))] := hD
  have hK : va_K (dC, dI) vwCl [(cA_3, .byte)] s := hK
  refine W.widen (k := 1) (n := 16) (by omega) (by omega) ?_
  refine va_put (D := (dC, dI)) (ci := 1) (v := .ref q_2) (ty := (.array .byte)) (C := RJ4) (T := TJ4) (N := 4) hx hb hts iRJ4 tyJ4 tyJ4_ok nmJ4 hown hK hP hD hS 0 rfl rfl 0 (by decide) (hts (.fieldLink RJ5 15 "java/lang/AbstractStringBuilder" "value" "[B") (by decide +kernel)) (fun _ h9 => h9) rfl (by decide +kernel) rfl rfl (Nat.le_of_ble_eq_true rfl) dJ5_init_d00df_14 (fun H locs hP hD hS => ?_)
  have hP : va_P (dC, dI) vwCl [(h0, .inr (1, [.ref q_2, .int 0, .int 0, .int 0])), (q_2, .inl (cA_3, 16, .inl (fun _ => 0)))] H := hP
  have hD : va_D A [(h0, .inr (1, [.ref q_2, .int 0, .int 0, .int 0])), (q_2, .inl (cA_3, 16, .inl (fun _ => 0)))] := hD
  refine lv_aload_n hx hb dJ5_init_d00df_17 rfl (lv_at hl 0 rfl) ?_
  refine lv_iconst (v := 0) hx hb dJ5_init_d00df_18 (by decide) ?_
  refine va_put (D := (dC, dI)) (ci := 1) (v := .int 0) (ty := .byte) (C := RJ4) (T := TJ4) (N := 4) hx hb hts iRJ4 tyJ4 tyJ4_ok nmJ4 hown hK hP hD hS 0 rfl rfl 1 (by decide) (hts (.fieldLink RJ5 22 "java/lang/AbstractStringBuilder" "coder" "B") (by decide +kernel)) (fun _ h9 => h9) rfl (by decide +kernel) rfl rfl (Nat.le_of_ble_eq_true rfl) dJ5_init_d00df_19 (fun H locs hP hD hS => ?_)
  have hP : va_P (dC, dI) vwCl [(h0, .inr (1, [.ref q_2, .int 0, .int 0, .int 0])), (q_2, .inl (cA_3, 16, .inl (fun _ => 0)))] H := hP
  have hD : va_D A [(h0, .inr (1, [.ref q_2, .int 0, .int 0, .int 0])), (q_2, .inl (cA_3, 16, .inl (fun _ => 0)))] := hD
  refine lv_goto (tgt := 38) hx hb dJ5_init_d00df_22 (by decide) ?_
  have hP9 := hP.sub (ws' := []) [] rfl
  have hD9 := hD.sub (ws' := []) [] (by decide) rfl
  have hK9 := hK.sub (tys' := []) [] rfl
  exact W.vret hx hb hr (fun t ht hW => ⟨⟨(), rfl, trivial, by rw [ht]; exact hP9, va_K.moved hW.alike hK9, hD9⟩, hS.F ht⟩) hS.2.2 dJ5_init_d00df_38
def wp_J4_init_da8c8 : List Cond := .code yJ4_init_da8c8 cJ4_init_da8c8 1 none :: ([.instanceMethod yJ5_init_d00df, .initialized RJ5, .methodLink RJ4 1 yJ5_init_d00df, .code yJ5_init_d00df cJ5_init_d00df 2 none, .methodLink RJ5 3 objectInit, .instanceMethod objectInit, .code objectInit ⟨#[0xb1]⟩ 1 none, .fieldLink RJ5 18 "java/lang/String" "COMPACT_STRINGS" "Z", .arrayClass .byte, .fieldLink RJ5 15 "java/lang/AbstractStringBuilder" "value" "[B", .fieldLink RJ5 22 "java/lang/AbstractStringBuilder" "coder" "B"] ++ wsJ40)
set_option maxRecDepth 20000 in
theorem gp_J4_init_da8c8_J5_init_d00df_1 : GoodIn wp_J4_init_da8c8 (wp_J5_init_d00df) := goodIn_p _ [4, 7] rfl (by decide +kernel)
set_option maxHeartbeats 4000000 in
set_option maxRecDepth 100000 in
theorem c_J4_init_da8c8 (l : Launch) (dC : Nat → ClassId) (dI : Nat → Nat → Nat) (h0 : Nat) (sz : Nat) : Met l yJ4_init_da8c8 wp_J4_init_da8c8 ({ frames := 2, cells := 1, slots := 16, locals := 41 }) (va_Pc [.ref h0] (Pr (dC, dI) [] [(h0, .inr (1, [.null, .int 0, .int 0, .int 0]))] sz)) (va_Qv (fun _ : Unit => True) (Bq (dC, dI) (fun _ : Unit => []) (fun _ : Unit => []) (va_A [(h0, .inr (1, [.null, .int 0, .int 0, .int 0]))] sz)) (va_A [(h0, .inr (1, [.null, .int 0, .int 0, .int 0]))] sz)) 1 16 (va_A [(h0, .inr (1, [.null, .int 0, .int 0, .int 0]))] sz) := by
  refine Met.ofW (cc := cJ4_init_da8c8) (maxL := 1) (ret := none) (by decide) rfl ?_
  intro p e s m args below meth c s₁ B hml hv
  obtain ⟨rfl, hsz, hP, hK, hD0, hN, hZ⟩ := hv
  have hx := B.exec
  have hb := B.bytes
  have hr := B.returns
  have hts := atoms_spec (ws := wp_J4_init_da8c8) B.pre
  have hown : s.vm.findClass RJ4 = some m.cls := findClass_of_methodNamed B.named
  have hlocks := B.notSynchronized
  subst hsz
  have hD := hD0.self (sz := s.heap.size)
  generalize hAe : va_A [(h0, .inr (1, [.null, .int 0, .int 0, .int 0]))] s.heap.size = A at hD hZ ⊢
  have hA : ∀ q : Nat, s.heap.size ≤ q → A q := fun q h => by rw [← hAe]; exact Or.inr h
  have hS : va_S A s.heap s.heap [] := va_S.rf
  have hP : va_P (dC, dI) vwCl [(h0, .inr (1, [.null, .int 0, .int 0, .int 0]))] s.heap := hP
  have hl := lv_entry ([.ref h0]) (n := 1) (Nat.le_of_ble_eq_true rfl)
  rw [lg_entry_eq]
  generalize (lg_sl ([.ref h0]) ++ List.replicate (1 - (lg_sl ([.ref h0])).length) Slot.unset).toArray = ls at hl ⊢
  have hl : lv_has ls 1 [(0, .ref h0)] := hl
  refine lv_aload_n hx hb dJ4_init_da8c8_0 rfl (lv_at hl 0 rfl) ?_
  refine lv_bipush (v := 16) hx hb dJ4_init_da8c8_1 (by decide) ?_
  have hFc := va_free (wc := [(h0, .inr (1, [.null, .int 0, .int 0, .int 0]))]) hD hS hA [0] rfl
  refine va_callv (va_runI (As := [.int 16]) (rest := []) ⟨hx, hb, hml, hown, hts⟩ (c_J5_init_d00df l dC dI h0 s.heap.size) (cwI 1 hts gp_J4_init_da8c8_J5_init_d00df_1 rfl rfl rfl (hts (.initialized RJ5) (by decide +kernel)) (hts (.methodLink RJ4 1 yJ5_init_d00df) (by decide +kernel)) (hts (.instanceMethod yJ5_init_d00df) (by decide +kernel)) rfl (by decide +kernel) ⟨Nat.le_of_ble_eq_true rfl, Nat.le_of_ble_eq_true rfl⟩) ⟨Pr.blind _, fun U hU hW => ⟨rfl, Pr.at (hP.sub (ws' := [(h0, .inr (1, [.null, .int 0, .int 0, .int 0]))]) [0] rfl) (hK.sub (tys' := []) [] rfl) (hD.sub (ws' := [(h0, .inr (1, [.null, .int 0, .int 0, .int 0]))]) [0] (by decide) rfl) hN hZ hS hFc hU hW⟩⟩ rfl rfl hl.1 rfl (lv_room (Nat.le_of_ble_eq_true rfl)) dJ4_init_da8c8_3 ⟨Nat.le_of_ble_eq_true rfl, Nat.le_of_ble_eq_true rfl⟩) hS (fun q _ h => hFc q h) hFc (fun u t H1 locs ht hvm hw_2 hB hz1 hk1 hS => ?_)
  obtain ⟨hP, hD, hK⟩ := Bq.join (wr := []) hB ht hvm hP hD [0] [] rfl rfl (by decide) (by decide) hk1 hFc hK
  generalize H1 = H at hP hS ⊢
  have hP : va_P (dC, dI) vwCl [] H := hP
  have hD : va_D A [] := hD
  have hK : va_K (dC, dI) vwCl [] s := hK
  refine W.widen (k := 1) (n := 16) (by omega) (by omega) ?_
  have hP9 := hP.sub (ws' := []) [] rfl
  have hD9 := hD.sub (ws' := []) [] (by decide) rfl
  have hK9 := hK.sub (tys' := []) [] rfl
  exact W.vret hx hb hr (fun t ht hW => ⟨⟨(), rfl, trivial, by rw [ht]; exact hP9, va_K.moved hW.alike hK9, hD9⟩, hS.F ht⟩) hS.2.2 dJ4_init_da8c8_6
def wp_X6_init : List Cond := .code yX6_init cX6_init 3 none :: ([.methodLink RX6 3 objectInit, .instanceMethod objectInit, .code objectInit ⟨#[0xb1]⟩ 1 none, .fieldLink RX6 9 "RecordBench$TextReader" "tape" "LRecordBench$Row;", .fieldLink RX6 15 "RecordBench$TextReader" "makes" "[LRecordBench$Make;", .classLink RX6 19 RJ4, .instantiable RJ4 4, .initialized RJ4, .instanceMethod yJ4_init_da8c8, .methodLink RX6 21 yJ4_init_da8c8, .fieldLink RX6 22 "RecordBench$TextReader" "letters" "Ljava/lang/StringBuilder;", .fieldLink RX6 26 "RecordBench$TextReader" "pos" "I", .fieldLink RX6 30 "RecordBench$TextReader" "fault" "I", .fieldLink RX6 33 "RecordBench$TextReader" "place" "I", .code yJ4_init_da8c8 cJ4_init_da8c8 1 none, .instanceMethod yJ5_init_d00df, .initialized RJ5, .methodLink RJ4 1 yJ5_init_d00df, .code yJ5_init_d00df cJ5_init_d00df 2 none, .methodLink RJ5 3 objectInit, .fieldLink RJ5 18 "java/lang/String" "COMPACT_STRINGS" "Z", .arrayClass .byte, .fieldLink RJ5 15 "java/lang/AbstractStringBuilder" "value" "[B", .fieldLink RJ5 22 "java/lang/AbstractStringBuilder" "coder" "B"] ++ wsX60 ++ wsJ40)
set_option maxRecDepth 20000 in
theorem gp_X6_init_J4_init_da8c8_21 : GoodIn wp_X6_init (wp_J4_init_da8c8) := goodIn_p _ [15, 19, 3] rfl (by decide +kernel)
set_option maxHeartbeats 4000000 in
set_option maxRecDepth 100000 in
theorem c_X6_init (l : Launch) (dC : Nat → ClassId) (dI : Nat → Nat → Nat) (h0 : Nat) (t0 : Nat) (m0 : Nat) (sz : Nat) : Met l yX6_init wp_X6_init ({ frames := 3, cells := 2, slots := 20, locals := 65 }) (va_Pc [.ref h0, .ref t0, .ref m0] (Pr (dC, dI) [] [(h0, .inr (8, [.null, .null, .null, .int 0, .int 0, .int 0]))] sz)) (va_Qv (fun (sb : Nat) => True) (Bq (dC, dI) (fun (sb : Nat) => [(h0, .inr (8, [.ref t0, .ref m0, .ref sb, .int 0, .int 0, .int ((-1))]))]) (fun (sb : Nat) => []) (va_A [(h0, .inr (8, [.null, .null, .null, .int 0, .int 0, .int 0]))] sz)) (va_A [(h0, .inr (8, [.null, .null, .null, .int 0, .int 0, .int 0]))] sz)) 2 20 (va_A [(h0, .inr (8, [.null, .null, .null, .int 0, .int 0, .int 0]))] sz) := by
  refine Met.ofW (cc := cX6_init) (maxL := 3) (ret := none) (by decide) rfl ?_
  intro p e s m args below meth c s₁ B hml hv
  obtain ⟨rfl, hsz, hP, hK, hD0, hN, hZ⟩ := hv
  have hx := B.exec
  have hb := B.bytes
  have hr := B.returns
  have hts := atoms_spec (ws := wp_X6_init) B.pre
  have hown : s.vm.findClass RX6 = some m.cls := findClass_of_methodNamed B.named
  have hlocks := B.notSynchronized
  have hin : meth.name = "<init>" := (name_of_methodNamed B.named B.method).1
  have iRX6 : ∀ w ∈ u_ws RX6 TX6 6, w ∈ wp_X6_init := by decide +kernel
  have iRJ4 : ∀ w ∈ u_ws RJ4 TJ4 4, w ∈ wp_X6_init := by decide +kernel
  subst hsz
  have hD := hD0.self (sz := s.heap.size)
  generalize hAe : va_A [(h0, .inr (8, [.null, .null, .null, .int 0, .int 0, .int 0]))] s.heap.size = A at hD hZ ⊢
  have hA : ∀ q : Nat, s.heap.size ≤ q → A q := fun q h => by rw [← hAe]; exact Or.inr h
  have hS : va_S A s.heap s.heap [] := va_S.rf
  have hP : va_P (dC, dI) vwCl [(h0, .inr (8, [.null, .null, .null, .int 0, .int 0, .int 0]))] s.heap := hP
  have hl := lv_entry ([.ref h0, .ref t0, .ref m0]) (n := 3) (Nat.le_of_ble_eq_true rfl)
  rw [lg_entry_eq]
  generalize (lg_sl ([.ref h0, .ref t0, .ref m0]) ++ List.replicate (3 - (lg_sl ([.ref h0, .ref t0, .ref m0])).length) Slot.unset).toArray = ls at hl ⊢
  have hl : lv_has ls 3 [(0, .ref h0), (1, .ref t0), (2, .ref m0)] := hl
  refine lv_aload_n hx hb dX6_init_0 rfl (lv_at hl 0 rfl) ?_
  refine W.objInit hx hb hown (hts (.methodLink RX6 3 objectInit) (by decide +kernel)) (hts (.instanceMethod objectInit) (by decide +kernel)) (hts (.code objectInit ⟨#[0xb1]⟩ 1 none) (by decide +kernel)) rfl (by rw [hml]; exact hl.1) rfl dX6_init_1 (Nat.le_of_ble_eq_true rfl) (Nat.le_of_ble_eq_true rfl) ?_
  refine W.eq (g2 := F0 m 4 ls []) rfl ?_
  refine lv_aload_n hx hb dX6_init_4 rfl (lv_at hl 0 rfl) ?_
  refine lv_aload_n hx hb dX6_init_5 rfl (lv_at hl 1 rfl) ?_
  refine va_putF (D := (dC, dI)) (ci := 8) (v := .ref t0) (ty := (.object "RecordBench$Row")) (C := RX6) (T := TX6) (N := 6) hx hb hts iRX6 tyX6 tyX6_ok nmX6 hown hK hP hD hS 0 rfl rfl 0 (by decide) (hts (.fieldLink RX6 9 "RecordBench$TextReader" "tape" "LRecordBench$Row;") (by decide +kernel)) (fun _ h9 => h9) rfl hin rfl (by decide +kernel) rfl rfl (Nat.le_of_ble_eq_true rfl) dX6_init_6 (fun H locs hP hD hS => ?_)
  have hP : va_P (dC, dI) vwCl [(h0, .inr (8, [.ref t0, .null, .null, .int 0, .int 0, .int 0]))] H := hP
  have hD : va_D A [(h0, .inr (8, [.ref t0, .null, .null, .int 0, .int 0, .int 0]))] := hD
  refine lv_aload_n hx hb dX6_init_9 rfl (lv_at hl 0 rfl) ?_
  refine lv_aload_n hx hb dX6_init_10 rfl (lv_at hl 2 rfl) ?_
  refine va_putF (D := (dC, dI)) (ci := 8) (v := .ref m0) (ty := (.array (.object "RecordBench$Make"))) (C := RX6) (T := TX6) (N := 6) hx hb hts iRX6 tyX6 tyX6_ok nmX6 hown hK hP hD hS 0 rfl rfl 1 (by decide) (hts (.fieldLink RX6 15 "RecordBench$TextReader" "makes" "[LRecordBench$Make;") (by decide +kernel)) (fun _ h9 => h9) rfl hin rfl (by decide +kernel) rfl rfl (Nat.le_of_ble_eq_true rfl) dX6_init_11 (fun H locs hP hD hS => ?_)
  have hP : va_P (dC, dI) vwCl [(h0, .inr (8, [.ref t0, .ref m0, .null, .int 0, .int 0, .int 0]))] H := hP
  have hD : va_D A [(h0, .inr (8, [.ref t0, .ref m0, .null, .int 0, .int 0, .int 0]))] := hD
  refine lv_aload_n hx hb dX6_init_14 rfl (lv_at hl 0 rfl) ?_
  refine va_new (ci := 1) (fs := [.null, .int 0, .int 0, .int 0]) (C := RJ4) (T := TJ4) (N := 4) hx hb hts iRJ4 tyJ4 tyJ4_ok hown (hts (.classLink RX6 19 RJ4) (by decide +kernel)) (hts (.instantiable RJ4 4) (by decide +kernel)) (hts (.initialized RJ4) (by decide +kernel)) hK hP hD hS hA rfl fsJ4_ok (Nat.le_of_ble_eq_true rfl) (Nat.le_of_ble_eq_true rfl) dX6_init_15 (fun q_1 H hP hD hS => ?_)
  have hP : va_P (dC, dI) vwCl [(h0, .inr (8, [.ref t0, .ref m0, .null, .int 0, .int 0, .int 0])), (q_1, .inr (1, [.null, .int 0, .int 0, .int 0]))] H := hP
  have hD : va_D A [(h0, .inr (8, [.ref t0, .ref m0, .null, .int 0, .int 0, .int 0])), (q_1, .inr (1, [.null, .int 0, .int 0, .int 0]))] := hD
  refine W.widen (k := 1) (n := 4) (by omega) (by omega) ?_
  refine lv_dup hx hb dX6_init_18 rfl ?_
  have hFc := va_free (wc := [(q_1, .inr (1, [.null, .int 0, .int 0, .int 0]))]) hD hS hA [1] rfl
  refine va_callv (va_runI (As := []) (rest := [.ref q_1, .ref h0]) ⟨hx, hb, hml, hown, hts⟩ (c_J4_init_da8c8 l dC dI q_1 H.size) (cwI 0 hts gp_X6_init_J4_init_da8c8_21 rfl rfl rfl (hts (.initialized RJ4) (by decide +kernel)) (hts (.methodLink RX6 21 yJ4_init_da8c8) (by decide +kernel)) (hts (.instanceMethod yJ4_init_da8c8) (by decide +kernel)) rfl (by decide +kernel) ⟨Nat.le_of_ble_eq_true rfl, Nat.le_of_ble_eq_true rfl⟩) ⟨Pr.blind _, fun U hU hW => ⟨rfl, Pr.at (hP.sub (ws' := [(q_1, .inr (1, [.null, .int 0, .int 0, .int 0]))]) [1] rfl) (hK.sub (tys' := []) [] rfl) (hD.sub (ws' := [(q_1, .inr (1, [.null, .int 0, .int 0, .int 0]))]) [1] (by decide) rfl) hN hZ hS hFc hU hW⟩⟩ rfl rfl hl.1 rfl (lv_room (Nat.le_of_ble_eq_true rfl)) dX6_init_19 ⟨Nat.le_of_ble_eq_true rfl, Nat.le_of_ble_eq_true rfl⟩) hS (fun q _ h => hFc q h) hFc (fun u t H1 locs ht hvm hw_3 hB hz1 hk1 hS => ?_)
  obtain ⟨hP, hD, hK⟩ := Bq.join (wr := [(h0, .inr (8, [.ref t0, .ref m0, .null, .int 0, .int 0, .int 0]))]) hB ht hvm hP hD [1] [0] rfl rfl (by decide) (by decide) hk1 hFc hK
  generalize H1 = H at hP hS ⊢
  have hP : va_P (dC, dI) vwCl [(h0, .inr (8, [.ref t0, .ref m0, .null, .int 0, .int 0, .int 0]))] H := hP
  have hD : va_D A [(h0, .inr (8, [.ref t0, .ref m0, .null, .int 0, .int 0, .int 0]))] := hD
  have hK : va_K (dC, dI) vwCl [] s := hK
  refine W.widen (k := 2) (n := 20) (by omega) (by omega) ?_
  refine va_putF (D := (dC, dI)) (ci := 8) (v := .ref q_1) (ty := (.object "java/lang/StringBuilder")) (C := RX6) (T := TX6) (N := 6) hx hb hts iRX6 tyX6 tyX6_ok nmX6 hown hK hP hD hS 0 rfl rfl 2 (by decide) (hts (.fieldLink RX6 22 "RecordBench$TextReader" "letters" "Ljava/lang/StringBuilder;") (by decide +kernel)) (fun _ h9 => h9) rfl hin rfl (by decide +kernel) rfl rfl (Nat.le_of_ble_eq_true rfl) dX6_init_22 (fun H locs hP hD hS => ?_)
  have hP : va_P (dC, dI) vwCl [(h0, .inr (8, [.ref t0, .ref m0, .ref q_1, .int 0, .int 0, .int 0]))] H := hP
  have hD : va_D A [(h0, .inr (8, [.ref t0, .ref m0, .ref q_1, .int 0, .int 0, .int 0]))] := hD
  refine lv_aload_n hx hb dX6_init_25 rfl (lv_at hl 0 rfl) ?_
  refine lv_iconst (v := 0) hx hb dX6_init_26 (by decide) ?_
  refine va_put (D := (dC, dI)) (ci := 8) (v := .int 0) (ty := .int) (C := RX6) (T := TX6) (N := 6) hx hb hts iRX6 tyX6 tyX6_ok nmX6 hown hK hP hD hS 0 rfl rfl 3 (by decide) (hts (.fieldLink RX6 26 "RecordBench$TextReader" "pos" "I") (by decide +kernel)) (fun _ h9 => h9) rfl (by decide +kernel) rfl rfl (Nat.le_of_ble_eq_true rfl) dX6_init_27 (fun H locs hP hD hS => ?_)
  have hP : va_P (dC, dI) vwCl [(h0, .inr (8, [.ref t0, .ref m0, .ref q_1, .int 0, .int 0, .int 0]))] H := hP
  have hD : va_D A [(h0, .inr (8, [.ref t0, .ref m0, .ref q_1, .int 0, .int 0, .int 0]))] := hD
  refine lv_aload_n hx hb dX6_init_30 rfl (lv_at hl 0 rfl) ?_
  refine lv_iconst (v := 0) hx hb dX6_init_31 (by decide) ?_
  refine va_put (D := (dC, dI)) (ci := 8) (v := .int 0) (ty := .int) (C := RX6) (T := TX6) (N := 6) hx hb hts iRX6 tyX6 tyX6_ok nmX6 hown hK hP hD hS 0 rfl rfl 4 (by decide) (hts (.fieldLink RX6 30 "RecordBench$TextReader" "fault" "I") (by decide +kernel)) (fun _ h9 => h9) rfl (by decide +kernel) rfl rfl (Nat.le_of_ble_eq_true rfl) dX6_init_32 (fun H locs hP hD hS => ?_)
  have hP : va_P (dC, dI) vwCl [(h0, .inr (8, [.ref t0, .ref m0, .ref q_1, .int 0, .int 0, .int 0]))] H := hP
  have hD : va_D A [(h0, .inr (8, [.ref t0, .ref m0, .ref q_1, .int 0, .int 0, .int 0]))] := hD
  refine lv_aload_n hx hb dX6_init_35 rfl (lv_at hl 0 rfl) ?_
  refine lv_iconst (v := (-1)) hx hb dX6_init_36 (by decide) ?_
  refine va_put (D := (dC, dI)) (ci := 8) (v := .int ((-1))) (ty := .int) (C := RX6) (T := TX6) (N := 6) hx hb hts iRX6 tyX6 tyX6_ok nmX6 hown hK hP hD hS 0 rfl rfl 5 (by decide) (hts (.fieldLink RX6 33 "RecordBench$TextReader" "place" "I") (by decide +kernel)) (fun _ h9 => h9) rfl (by decide +kernel) rfl rfl (Nat.le_of_ble_eq_true rfl) dX6_init_37 (fun H locs hP hD hS => ?_)
  have hP : va_P (dC, dI) vwCl [(h0, .inr (8, [.ref t0, .ref m0, .ref q_1, .int 0, .int 0, .int ((-1))]))] H := hP
  have hD : va_D A [(h0, .inr (8, [.ref t0, .ref m0, .ref q_1, .int 0, .int 0, .int ((-1))]))] := hD
  have hP9 := hP.sub (ws' := [(h0, .inr (8, [.ref t0, .ref m0, .ref q_1, .int 0, .int 0, .int ((-1))]))]) [0] rfl
  have hD9 := hD.sub (ws' := [(h0, .inr (8, [.ref t0, .ref m0, .ref q_1, .int 0, .int 0, .int ((-1))]))]) [0] (by decide) rfl
  have hK9 := hK.sub (tys' := []) [] rfl
  exact W.vret hx hb hr (fun t ht hW => ⟨⟨q_1, rfl, trivial, by rw [ht]; exact hP9, va_K.moved hW.alike hK9, hD9⟩, hS.F ht⟩) hS.2.2 dX6_init_40
def wp_X6_faultFound : List Cond := .code yX6_faultFound cX6_faultFound 1 (some .int) :: ([.fieldLink RX6 30 "RecordBench$TextReader" "fault" "I"] ++ wsX60)
set_option maxHeartbeats 4000000 in
set_option maxRecDepth 100000 in
theorem c_X6_faultFound (l : Launch) (dC : Nat → ClassId) (dI : Nat → Nat → Nat) (h0 : Nat) (t0 : Nat) (m0 : Nat) (sb : Nat) (ps : Int32) (fl : Int32) (pl : Int32) (sz : Nat) : Met l yX6_faultFound wp_X6_faultFound ({ frames := 0, cells := 0, slots := 0, locals := 0 }) (va_Pc [.ref h0] (Pr (dC, dI) [] [(h0, .inr (8, [.ref t0, .ref m0, .ref sb, .int ps, .int fl, .int pl]))] sz)) (va_Qi (fun r : Int32 => (fun _ : Unit => r = fl)) (Bq (dC, dI) (fun _ : Unit => [(h0, .inr (8, [.ref t0, .ref m0, .ref sb, .int ps, .int fl, .int pl]))]) (fun _ : Unit => []) (va_A [(h0, .inr (8, [.ref t0, .ref m0, .ref sb, .int ps, .int fl, .int pl]))] sz)) (va_A [(h0, .inr (8, [.ref t0, .ref m0, .ref sb, .int ps, .int fl, .int pl]))] sz)) 0 0 (va_A [(h0, .inr (8, [.ref t0, .ref m0, .ref sb, .int ps, .int fl, .int pl]))] sz) := by
  refine Met.ofW (cc := cX6_faultFound) (maxL := 1) (ret := (some .int)) (by decide) rfl ?_
  intro p e s m args below meth c s₁ B hml hv
  obtain ⟨rfl, hsz, hP, hK, hD0, hN, hZ⟩ := hv
  have hx := B.exec
  have hb := B.bytes
  have hr := B.returns
  have hts := atoms_spec (ws := wp_X6_faultFound) B.pre
  have hown : s.vm.findClass RX6 = some m.cls := findClass_of_methodNamed B.named
  have hlocks := B.notSynchronized
  have iRX6 : ∀ w ∈ u_ws RX6 TX6 6, w ∈ wp_X6_faultFound := by decide +kernel
  subst hsz
  have hD := hD0.self (sz := s.heap.size)
  generalize hAe : va_A [(h0, .inr (8, [.ref t0, .ref m0, .ref sb, .int ps, .int fl, .int pl]))] s.heap.size = A at hD hZ ⊢
  have hA : ∀ q : Nat, s.heap.size ≤ q → A q := fun q h => by rw [← hAe]; exact Or.inr h
  have hS : va_S A s.heap s.heap [] := va_S.rf
  have hP : va_P (dC, dI) vwCl [(h0, .inr (8, [.ref t0, .ref m0, .ref sb, .int ps, .int fl, .int pl]))] s.heap := hP
  have hl := lv_entry ([.ref h0]) (n := 1) (Nat.le_of_ble_eq_true rfl)
  rw [lg_entry_eq]
  generalize (lg_sl ([.ref h0]) ++ List.replicate (1 - (lg_sl ([.ref h0])).length) Slot.unset).toArray = ls at hl ⊢
  have hl : lv_has ls 1 [(0, .ref h0)] := hl
  refine lv_aload_n hx hb dX6_faultFound_0 rfl (lv_at hl 0 rfl) ?_
  refine va_get (D := (dC, dI)) (ci := 8) (v := .int fl) (C := RX6) (T := TX6) (N := 6) hx hb hts iRX6 hown hK hP 0 rfl rfl 4 (by decide) (hts (.fieldLink RX6 30 "RecordBench$TextReader" "fault" "I") (by decide +kernel)) (fun _ h9 => h9) rfl dX6_faultFound_1 ?_
  have hP9 := hP.sub (ws' := [(h0, .inr (8, [.ref t0, .ref m0, .ref sb, .int ps, .int fl, .int pl]))]) [0] rfl
  have hD9 := hD.sub (ws' := [(h0, .inr (8, [.ref t0, .ref m0, .ref sb, .int ps, .int fl, .int pl]))]) [0] (by decide) rfl
  have hK9 := hK.sub (tys' := []) [] rfl
  exact W.iret (v := fl) hx hb hr (fun t ht hW => ⟨⟨fl, (), rfl, rfl, by rw [ht]; exact hP9, va_K.moved hW.alike hK9, hD9⟩, hS.F ht⟩) hS.2.2 dX6_faultFound_4
def wp_X6_placeFound : List Cond := .code yX6_placeFound cX6_placeFound 1 (some .int) :: ([.fieldLink RX6 33 "RecordBench$TextReader" "place" "I"] ++ wsX60)
set_option maxHeartbeats 4000000 in
set_option maxRecDepth 100000 in
theorem c_X6_placeFound (l : Launch) (dC : Nat → ClassId) (dI : Nat → Nat → Nat) (h0 : Nat) (t0 : Nat) (m0 : Nat) (sb : Nat) (ps : Int32) (fl : Int32) (pl : Int32) (sz : Nat) : Met l yX6_placeFound wp_X6_placeFound ({ frames := 0, cells := 0, slots := 0, locals := 0 }) (va_Pc [.ref h0] (Pr (dC, dI) [] [(h0, .inr (8, [.ref t0, .ref m0, .ref sb, .int ps, .int fl, .int pl]))] sz)) (va_Qi (fun r : Int32 => (fun _ : Unit => r = pl)) (Bq (dC, dI) (fun _ : Unit => [(h0, .inr (8, [.ref t0, .ref m0, .ref sb, .int ps, .int fl, .int pl]))]) (fun _ : Unit => []) (va_A [(h0, .inr (8, [.ref t0, .ref m0, .ref sb, .int ps, .int fl, .int pl]))] sz)) (va_A [(h0, .inr (8, [.ref t0, .ref m0, .ref sb, .int ps, .int fl, .int pl]))] sz)) 0 0 (va_A [(h0, .inr (8, [.ref t0, .ref m0, .ref sb, .int ps, .int fl, .int pl]))] sz) := by
  refine Met.ofW (cc := cX6_placeFound) (maxL := 1) (ret := (some .int)) (by decide) rfl ?_
  intro p e s m args below meth c s₁ B hml hv
  obtain ⟨rfl, hsz, hP, hK, hD0, hN, hZ⟩ := hv
  have hx := B.exec
  have hb := B.bytes
  have hr := B.returns
  have hts := atoms_spec (ws := wp_X6_placeFound) B.pre
  have hown : s.vm.findClass RX6 = some m.cls := findClass_of_methodNamed B.named
  have hlocks := B.notSynchronized
  have iRX6 : ∀ w ∈ u_ws RX6 TX6 6, w ∈ wp_X6_placeFound := by decide +kernel
  subst hsz
  have hD := hD0.self (sz := s.heap.size)
  generalize hAe : va_A [(h0, .inr (8, [.ref t0, .ref m0, .ref sb, .int ps, .int fl, .int pl]))] s.heap.size = A at hD hZ ⊢
  have hA : ∀ q : Nat, s.heap.size ≤ q → A q := fun q h => by rw [← hAe]; exact Or.inr h
  have hS : va_S A s.heap s.heap [] := va_S.rf
  have hP : va_P (dC, dI) vwCl [(h0, .inr (8, [.ref t0, .ref m0, .ref sb, .int ps, .int fl, .int pl]))] s.heap := hP
  have hl := lv_entry ([.ref h0]) (n := 1) (Nat.le_of_ble_eq_true rfl)
  rw [lg_entry_eq]
  generalize (lg_sl ([.ref h0]) ++ List.replicate (1 - (lg_sl ([.ref h0])).length) Slot.unset).toArray = ls at hl ⊢
  have hl : lv_has ls 1 [(0, .ref h0)] := hl
  refine lv_aload_n hx hb dX6_placeFound_0 rfl (lv_at hl 0 rfl) ?_
  refine va_get (D := (dC, dI)) (ci := 8) (v := .int pl) (C := RX6) (T := TX6) (N := 6) hx hb hts iRX6 hown hK hP 0 rfl rfl 5 (by decide) (hts (.fieldLink RX6 33 "RecordBench$TextReader" "place" "I") (by decide +kernel)) (fun _ h9 => h9) rfl dX6_placeFound_1 ?_
  have hP9 := hP.sub (ws' := [(h0, .inr (8, [.ref t0, .ref m0, .ref sb, .int ps, .int fl, .int pl]))]) [0] rfl
  have hD9 := hD.sub (ws' := [(h0, .inr (8, [.ref t0, .ref m0, .ref sb, .int ps, .int fl, .int pl]))]) [0] (by decide) rfl
  have hK9 := hK.sub (tys' := []) [] rfl
  exact W.iret (v := pl) hx hb hr (fun t ht hW => ⟨⟨pl, (), rfl, rfl, by rw [ht]; exact hP9, va_K.moved hW.alike hK9, hD9⟩, hS.F ht⟩) hS.2.2 dX6_placeFound_4
def wp_X6_skipBlanks : List Cond := .code yX6_skipBlanks cX6_skipBlanks 3 none :: ([.fieldLink RX6 26 "RecordBench$TextReader" "pos" "I", .fieldLink RX6 9 "RecordBench$TextReader" "tape" "LRecordBench$Row;", .methodLink RX6 42 yX5_size, .instanceMethod yX5_size, .selects RX5 yX5_size yX5_size, .initialized RX5, .code yX5_size cX5_size 1 (some .int), .fieldLink RX5 21 "RecordBench$Row" "size" "I"] ++ wsX60 ++ wsX50)
set_option maxRecDepth 20000 in
theorem gp_X6_skipBlanks_X5_size_42 : GoodIn wp_X6_skipBlanks (wsV RX6 42 RX5 yX5_size wp_X5_size) := goodIn_p _ [7] rfl (by decide +kernel)
set_option maxHeartbeats 4000000 in
set_option maxRecDepth 100000 in
theorem c_X6_skipBlanks (l : Launch) (dC : Nat → ClassId) (dI : Nat → Nat → Nat) (h0 : Nat) (t0 : Nat) (m0 : Nat) (sb : Nat) (tb : Nat) (fl : Int32) (pl : Int32) (sz : Nat) : Met l yX6_skipBlanks wp_X6_skipBlanks ({ frames := 1, cells := 0, slots := 0, locals := 24 }) (va_Pc [.ref h0] (Pr (dC, dI) [] [(h0, .inr (8, [.ref t0, .ref m0, .ref sb, .int 0, .int fl, .int pl])), (t0, .inr (7, [.ref tb, .int 0]))] sz)) (va_Qv (fun _ : Unit => True) (Bq (dC, dI) (fun _ : Unit => [(h0, .inr (8, [.ref t0, .ref m0, .ref sb, .int 0, .int fl, .int pl])), (t0, .inr (7, [.ref tb, .int 0]))]) (fun _ : Unit => []) (va_A [(h0, .inr (8, [.ref t0, .ref m0, .ref sb, .int 0, .int fl, .int pl])), (t0, .inr (7, [.ref tb, .int 0]))] sz)) (va_A [(h0, .inr (8, [.ref t0, .ref m0, .ref sb, .int 0, .int fl, .int pl])), (t0, .inr (7, [.ref tb, .int 0]))] sz)) 0 0 (va_A [(h0, .inr (8, [.ref t0, .ref m0, .ref sb, .int 0, .int fl, .int pl])), (t0, .inr (7, [.ref tb, .int 0]))] sz) := by
  refine Met.ofW (cc := cX6_skipBlanks) (maxL := 3) (ret := none) (by decide) rfl ?_
  intro p e s m args below meth c s₁ B hml hv
  obtain ⟨rfl, hsz, hP, hK, hD0, hN, hZ⟩ := hv
  have hx := B.exec
  have hb := B.bytes
  have hr := B.returns
  have hts := atoms_spec (ws := wp_X6_skipBlanks) B.pre
  have hown : s.vm.findClass RX6 = some m.cls := findClass_of_methodNamed B.named
  have hlocks := B.notSynchronized
  have iRX6 : ∀ w ∈ u_ws RX6 TX6 6, w ∈ wp_X6_skipBlanks := by decide +kernel
  subst hsz
  have hD := hD0.self (sz := s.heap.size)
  generalize hAe : va_A [(h0, .inr (8, [.ref t0, .ref m0, .ref sb, .int 0, .int fl, .int pl])), (t0, .inr (7, [.ref tb, .int 0]))] s.heap.size = A at hD hZ ⊢
  have hA : ∀ q : Nat, s.heap.size ≤ q → A q := fun q h => by rw [← hAe]; exact Or.inr h
  have hS : va_S A s.heap s.heap [] := va_S.rf
  have hP : va_P (dC, dI) vwCl [(h0, .inr (8, [.ref t0, .ref m0, .ref sb, .int 0, .int fl, .int pl])), (t0, .inr (7, [.ref tb, .int 0]))] s.heap := hP
  have hl := lv_entry ([.ref h0]) (n := 3) (Nat.le_of_ble_eq_true rfl)
  rw [lg_entry_eq]
  generalize (lg_sl ([.ref h0]) ++ List.replicate (3 - (lg_sl ([.ref h0])).length) Slot.unset).toArray = ls at hl ⊢
  have hl : lv_has ls 3 [(0, .ref h0)] := hl
  refine lv_aload_n hx hb dX6_skipBlanks_0 rfl (lv_at hl 0 rfl) ?_
  refine va_get (D := (dC, dI)) (ci := 8) (v := .int 0) (C := RX6) (T := TX6) (N := 6) hx hb hts iRX6 hown hK hP 0 rfl rfl 3 (by decide) (hts (.fieldLink RX6 26 "RecordBench$TextReader" "pos" "I") (by decide +kernel)) (fun _ h9 => h9) rfl dX6_skipBlanks_1 ?_
  refine lv_istore_n (lv' := [(1, .int 0), (0, .ref h0)]) hx hb dX6_skipBlanks_4 rfl hl (by decide) rfl (fun ls hl => ?_)
  refine lv_iload_n hx hb dX6_skipBlanks_5 rfl (lv_at hl 0 rfl) ?_
  refine lv_istore_n (lv' := [(2, .int 0), (1, .int 0), (0, .ref h0)]) hx hb dX6_skipBlanks_6 rfl hl (by decide) rfl (fun ls hl => ?_)
  refine lv_iload_n hx hb dX6_skipBlanks_7 rfl (lv_at hl 0 rfl) ?_
  refine lv_aload_n hx hb dX6_skipBlanks_8 rfl (lv_at hl 2 rfl) ?_
  refine va_get (D := (dC, dI)) (ci := 8) (v := .ref t0) (C := RX6) (T := TX6) (N := 6) hx hb hts iRX6 hown hK hP 0 rfl rfl 0 (by decide) (hts (.fieldLink RX6 9 "RecordBench$TextReader" "tape" "LRecordBench$Row;") (by decide +kernel)) (fun _ h9 => h9) rfl dX6_skipBlanks_9 ?_
  have hFc := va_free (wc := [(t0, .inr (7, [.ref tb, .int 0]))]) hD hS hA [1] rfl
  refine va_calli (va_runV (As := []) (rest := [.int 0]) ⟨hx, hb, hml, hown, hts⟩ (c_X5_size l dC dI t0 tb 0 s.heap.size) (cwV 0 hts gp_X6_skipBlanks_X5_size_42 rfl rfl rfl (by decide +kernel) ⟨Nat.le_of_ble_eq_true rfl, Nat.le_of_ble_eq_true rfl⟩) ⟨Pr.blind _, va_recv hK hP (ci := 7) (q0 := 1) rfl rfl, fun U hU hW => ⟨rfl, Pr.at (hP.sub (ws' := [(t0, .inr (7, [.ref tb, .int 0]))]) [1] rfl) (hK.sub (tys' := []) [] rfl) (hD.sub (ws' := [(t0, .inr (7, [.ref tb, .int 0]))]) [1] (by decide) rfl) hN hZ hS hFc hU hW⟩⟩ rfl rfl hl.1 rfl (lv_room (Nat.le_of_ble_eq_true rfl)) dX6_skipBlanks_12 ⟨Nat.le_of_ble_eq_true rfl, Nat.le_of_ble_eq_true rfl⟩) hS (fun q _ h => hFc q h) hFc (fun r_1 u t H1 locs ht hvm hw_2 hB hz1 hk1 hS => ?_)
  obtain ⟨hP, hD, hK⟩ := Bq.join (wr := [(h0, .inr (8, [.ref t0, .ref m0, .ref sb, .int 0, .int fl, .int pl]))]) hB ht hvm hP hD [1] [0] rfl rfl (by decide) (by decide) hk1 hFc hK
  generalize H1 = H at hP hS ⊢
  have hP : va_P (dC, dI) vwCl [(h0, .inr (8, [.ref t0, .ref m0, .ref sb, .int 0, .int fl, .int pl])), (t0, .inr (7, [.ref tb, .int 0]))] H := hP
  have hD : va_D A [(h0, .inr (8, [.ref t0, .ref m0, .ref sb, .int 0, .int fl, .int pl])), (t0, .inr (7, [.ref tb, .int 0]))] := hD
  have hK : va_K (dC, dI) vwCl [] s := hK
  try dsimp only at hw_2
  have k_3 := hw_2
  refine W_toi (y := 0) k_3 ?_
  refine lv_icmp_ge (tgt := 48) hx hb dX6_skipBlanks_15 (by decide) (fun c_4 => ?_) (fun c_4 => absurd (by decide) c_4)
  have hP9 := hP.sub (ws' := [(h0, .inr (8, [.ref t0, .ref m0, .ref sb, .int 0, .int fl, .int pl])), (t0, .inr (7, [.ref tb, .int 0]))]) [0, 1] rfl
  have hD9 := hD.sub (ws' := [(h0, .inr (8, [.ref t0, .ref m0, .ref sb, .int 0, .int fl, .int pl])), (t0, .inr (7, [.ref tb, .int 0]))]) [0, 1] (by decide) rfl
  have hK9 := hK.sub (tys' := []) [] rfl
  exact W.vret hx hb hr (fun t ht hW => ⟨⟨(), rfl, trivial, by rw [ht]; exact hP9, va_K.moved hW.alike hK9, hD9⟩, hS.F ht⟩) hS.2.2 dX6_skipBlanks_48
def wp_X6_tell : List Cond := .code yX6_tell cX6_tell 4 (some (.object "RecordBench$Make")) :: ([.fieldLink RX6 26 "RecordBench$TextReader" "pos" "I", .fieldLink RX6 30 "RecordBench$TextReader" "fault" "I", .fieldLink RX6 33 "RecordBench$TextReader" "place" "I", .classLink RX6 36 RX1, .instantiable RX1 2, .initialized RX1, .instanceMethod yX1_init, .methodLink RX6 39 yX6_skipBlanks, .instanceMethod yX6_skipBlanks, .selects RX6 yX6_skipBlanks yX6_skipBlanks, .initialized RX6, .fieldLink RX6 9 "RecordBench$TextReader" "tape" "LRecordBench$Row;", .methodLink RX6 42 yX5_size, .instanceMethod yX5_size, .selects RX5 yX5_size yX5_size, .initialized RX5, .code yX1_init cX1_init 1 none, .methodLink RX1 3 objectInit, .instanceMethod objectInit, .code objectInit ⟨#[0xb1]⟩ 1 none, .classLink RX1 9 RX0, .fieldLink RX1 11 "RecordBench$Make" "fields" "[LRecordBench$Field;", .fieldLink RX1 17 "RecordBench$Make" "count" "I", .code yX6_skipBlanks cX6_skipBlanks 3 none, .code yX5_size cX5_size 1 (some .int), .fieldLink RX5 21 "RecordBench$Row" "size" "I"] ++ wsX60 ++ wsX10 ++ wsX50)
set_option maxRecDepth 20000 in
theorem gp_X6_tell_X1_init_38 : GoodIn wp_X6_tell (wp_X1_init) := goodIn_p _ [17, 20] rfl (by decide +kernel)
set_option maxRecDepth 20000 in
theorem gp_X6_tell_X6_skipBlanks_39 : GoodIn wp_X6_tell (wsV RX6 39 RX6 yX6_skipBlanks wp_X6_skipBlanks) := goodIn_p _ [24, 25] rfl (by decide +kernel)
set_option maxRecDepth 20000 in
theorem gp_X6_tell_X5_size_42 : GoodIn wp_X6_tell (wsV RX6 42 RX5 yX5_size wp_X5_size) := goodIn_p _ [25] rfl (by decide +kernel)
set_option maxHeartbeats 4000000 in
set_option maxRecDepth 100000 in
theorem c_X6_tell (l : Launch) (dC : Nat → ClassId) (dI : Nat → Nat → Nat) (h0 : Nat) (t0 : Nat) (m0 : Nat) (sb : Nat) (tb : Nat) (ps : Int32) (fl : Int32) (pl : Int32) (p0 : Int32) (sz : Nat) : Met l yX6_tell wp_X6_tell ({ frames := 2, cells := 2, slots := 33, locals := 50 }) (va_Pc [.ref h0, .int p0] (Pr (dC, dI) [] [(h0, .inr (8, [.ref t0, .ref m0, .ref sb, .int ps, .int fl, .int pl])), (t0, .inr (7, [.ref tb, .int 0]))] sz)) (va_Qq (fun r : Option Nat => (fun (u : Nat × Nat) => match u with | (a, q) => r = some a)) (Bq (dC, dI) (fun (u : Nat × Nat) => match u with | (a, q) => [(h0, .inr (8, [.ref t0, .ref m0, .ref sb, .int 0, .int 0, .int ((-1))])), (t0, .inr (7, [.ref tb, .int 0])), (a, .inr (3, [.ref q, .int 0]))]) (fun (u : Nat × Nat) => match u with | (a, q) => []) (va_A [(h0, .inr (8, [.ref t0, .ref m0, .ref sb, .int ps, .int fl, .int pl])), (t0, .inr (7, [.ref tb, .int 0]))] sz)) (va_A [(h0, .inr (8, [.ref t0, .ref m0, .ref sb, .int ps, .int fl, .int pl])), (t0, .inr (7, [.ref tb, .int 0]))] sz)) 2 33 (va_A [(h0, .inr (8, [.ref t0, .ref m0, .ref sb, .int ps, .int fl, .int pl])), (t0, .inr (7, [.ref tb, .int 0]))] sz) := by
  refine Met.ofW (cc := cX6_tell) (maxL := 4) (ret := (some (.object "RecordBench$Make"))) (by decide) rfl ?_
  intro p e s m args below meth c s₁ B hml hv
  obtain ⟨rfl, hsz, hP, hK, hD0, hN, hZ⟩ := hv
  have hx := B.exec
  have hb := B.bytes
  have hr := B.returns
  have hts := atoms_spec (ws := wp_X6_tell) B.pre
  have hown : s.vm.findClass RX6 = some m.cls := findClass_of_methodNamed B.named
  have hlocks := B.notSynchronized
  have iRX6 : ∀ w ∈ u_ws RX6 TX6 6, w ∈ wp_X6_tell := by decide +kernel
  have iRX1 : ∀ w ∈ u_ws RX1 TX1 2, w ∈ wp_X6_tell := by decide +kernel
  subst hsz
  have hD := hD0.self (sz := s.heap.size)
  generalize hAe : va_A [(h0, .inr (8, [.ref t0, .ref m0, .ref sb, .int ps, .int fl, .int pl])), (t0, .inr (7, [.ref tb, .int 0]))] s.heap.size = A at hD hZ ⊢
  have hA : ∀ q : Nat, s.heap.size ≤ q → A q := fun q h => by rw [← hAe]; exact Or.inr h
  have hS : va_S A s.heap s.heap [] := va_S.rf
  have hP : va_P (dC, dI) vwCl [(h0, .inr (8, [.ref t0, .ref m0, .ref sb, .int ps, .int fl, .int pl])), (t0, .inr (7, [.ref tb, .int 0]))] s.heap := hP
  have hl := lv_entry ([.ref h0, .int p0]) (n := 4) (Nat.le_of_ble_eq_true rfl)
  rw [lg_entry_eq]
  generalize (lg_sl ([.ref h0, .int p0]) ++ List.replicate (4 - (lg_sl ([.ref h0, .int p0])).length) Slot.unset).toArray = ls at hl ⊢
  have hl : lv_has ls 4 [(0, .ref h0), (1, .int p0)] := hl
  refine lv_aload_n hx hb dX6_tell_0 rfl (lv_at hl 0 rfl) ?_
  refine lv_iconst (v := 0) hx hb dX6_tell_1 (by decide) ?_
  refine va_put (D := (dC, dI)) (ci := 8) (v := .int 0) (ty := .int) (C := RX6) (T := TX6) (N := 6) hx hb hts iRX6 tyX6 tyX6_ok nmX6 hown hK hP hD hS 0 rfl rfl 3 (by decide) (hts (.fieldLink RX6 26 "RecordBench$TextReader" "pos" "I") (by decide +kernel)) (fun _ h9 => h9) rfl (by decide +kernel) rfl rfl (Nat.le_of_ble_eq_true rfl) dX6_tell_2 (fun H locs hP hD hS => ?_)
  have hP : va_P (dC, dI) vwCl [(h0, .inr (8, [.ref t0, .ref m0, .ref sb, .int 0, .int fl, .int pl])), (t0, .inr (7, [.ref tb, .int 0]))] H := hP
  have hD : va_D A [(h0, .inr (8, [.ref t0, .ref m0, .ref sb, .int 0, .int fl, .int pl])), (t0, .inr (7, [.ref tb, .int 0]))] := hD
  refine lv_aload_n hx hb dX6_tell_5 rfl (lv_at hl 0 rfl) ?_
  refine lv_iconst (v := 0) hx hb dX6_tell_6 (by decide) ?_
  refine va_put (D := (dC, dI)) (ci := 8) (v := .int 0) (ty := .int) (C := RX6) (T := TX6) (N := 6) hx hb hts iRX6 tyX6 tyX6_ok nmX6 hown hK hP hD hS 0 rfl rfl 4 (by decide) (hts (.fieldLink RX6 30 "RecordBench$TextReader" "fault" "I") (by decide +kernel)) (fun _ h9 => h9) rfl (by decide +kernel) rfl rfl (Nat.le_of_ble_eq_true rfl) dX6_tell_7 (fun H locs hP hD hS => ?_)
  have hP : va_P (dC, dI) vwCl [(h0, .inr (8, [.ref t0, .ref m0, .ref sb, .int 0, .int 0, .int pl])), (t0, .inr (7, [.ref tb, .int 0]))] H := hP
  have hD : va_D A [(h0, .inr (8, [.ref t0, .ref m0, .ref sb, .int 0, .int 0, .int pl])), (t0, .inr (7, [.ref tb, .int 0]))] := hD
  refine lv_aload_n hx hb dX6_tell_10 rfl (lv_at hl 0 rfl) ?_
  refine lv_iconst (v := (-1)) hx hb dX6_tell_11 (by decide) ?_
  refine va_put (D := (dC, dI)) (ci := 8) (v := .int ((-1))) (ty := .int) (C := RX6) (T := TX6) (N := 6) hx hb hts iRX6 tyX6 tyX6_ok nmX6 hown hK hP hD hS 0 rfl rfl 5 (by decide) (hts (.fieldLink RX6 33 "RecordBench$TextReader" "place" "I") (by decide +kernel)) (fun _ h9 => h9) rfl (by decide +kernel) rfl rfl (Nat.le_of_ble_eq_true rfl) dX6_tell_12 (fun H locs hP hD hS => ?_)
  have hP : va_P (dC, dI) vwCl [(h0, .inr (8, [.ref t0, .ref m0, .ref sb, .int 0, .int 0, .int ((-1))])), (t0, .inr (7, [.ref tb, .int 0]))] H := hP
  have hD : va_D A [(h0, .inr (8, [.ref t0, .ref m0, .ref sb, .int 0, .int 0, .int ((-1))])), (t0, .inr (7, [.ref tb, .int 0]))] := hD
  refine va_new (ci := 3) (fs := [.null, .int 0]) (C := RX1) (T := TX1) (N := 2) hx hb hts iRX1 tyX1 tyX1_ok hown (hts (.classLink RX6 36 RX1) (by decide +kernel)) (hts (.instantiable RX1 2) (by decide +kernel)) (hts (.initialized RX1) (by decide +kernel)) hK hP hD hS hA rfl fsX1_ok (Nat.le_of_ble_eq_true rfl) (Nat.le_of_ble_eq_true rfl) dX6_tell_15 (fun q_1 H hP hD hS => ?_)
  have hP : va_P (dC, dI) vwCl [(h0, .inr (8, [.ref t0, .ref m0, .ref sb, .int 0, .int 0, .int ((-1))])), (t0, .inr (7, [.ref tb, .int 0])), (q_1, .inr (3, [.null, .int 0]))] H := hP
  have hD : va_D A [(h0, .inr (8, [.ref t0, .ref m0, .ref sb, .int 0, .int 0, .int ((-1))])), (t0, .inr (7, [.ref tb, .int 0])), (q_1, .inr (3, [.null, .int 0]))] := hD
  refine W.widen (k := 1) (n := 2) (by omega) (by omega) ?_
  refine lv_dup hx hb dX6_tell_18 rfl ?_
  have hFc := va_free (wc := [(q_1, .inr (3, [.null, .int 0]))]) hD hS hA [2] rfl
  refine va_callv (va_runIN (As := []) (rest := [.ref q_1]) ⟨hx, hb, hml, hown, hts⟩ (c_X1_init l dC dI q_1 H.size) ⟨va_cnB 0 hts gp_X6_tell_X1_init_38 rfl rfl rfl hN.2.2.1 (hts (.initialized RX1) (by decide +kernel)) (by decide +kernel) ⟨Nat.le_of_ble_eq_true rfl, Nat.le_of_ble_eq_true rfl⟩, rfl, (hts (.instanceMethod yX1_init) (by decide +kernel))⟩ ⟨Pr.blind _, fun U hU hW => ⟨rfl, Pr.at (hP.sub (ws' := [(q_1, .inr (3, [.null, .int 0]))]) [2] rfl) (hK.sub (tys' := []) [] rfl) (hD.sub (ws' := [(q_1, .inr (3, [.null, .int 0]))]) [2] (by decide) rfl) hN hZ hS hFc hU hW⟩⟩ rfl rfl hl.1 rfl (lv_room (Nat.le_of_ble_eq_true rfl)) dX6_tell_19 ⟨Nat.le_of_ble_eq_true rfl, Nat.le_of_ble_eq_true rfl⟩) hS (fun q _ h => hFc q h) hFc (fun u t H1 locs ht hvm hw_3 hB hz1 hk1 hS => ?_)
  obtain ⟨q_4, rfl⟩ : ∃ z, z = u := ⟨_, rfl⟩
  obtain ⟨hP, hD, hK⟩ := Bq.join (wr := [(h0, .inr (8, [.ref t0, .ref m0, .ref sb, .int 0, .int 0, .int ((-1))])), (t0, .inr (7, [.ref tb, .int 0]))]) hB ht hvm hP hD [2] [0, 1] rfl rfl (by decide) (by decide) hk1 hFc hK
  generalize H1 = H at hP hS ⊢
  have hP : va_P (dC, dI) vwCl [(h0, .inr (8, [.ref t0, .ref m0, .ref sb, .int 0, .int 0, .int ((-1))])), (t0, .inr (7, [.ref tb, .int 0])), (q_1, .inr (3, [.ref q_4, .int 0]))] H := hP
  have hD : va_D A [(h0, .inr (8, [.ref t0, .ref m0, .ref sb, .int 0, .int 0, .int ((-1))])), (t0, .inr (7, [.ref tb, .int 0])), (q_1, .inr (3, [.ref q_4, .int 0]))] := hD
  have hK : va_K (dC, dI) vwCl [] s := hK
  refine W.widen (k := 2) (n := 33) (by omega) (by omega) ?_
  refine lv_astore_n (lv' := [(2, .ref q_1), (0, .ref h0), (1, .int p0)]) hx hb dX6_tell_22 rfl hl (by decide) rfl (fun ls hl => ?_)
  refine lv_iconst (v := 0) hx hb dX6_tell_23 (by decide) ?_
  refine lv_istore_n (lv' := [(3, .int 0), (2, .ref q_1), (0, .ref h0), (1, .int p0)]) hx hb dX6_tell_24 rfl hl (by decide) rfl (fun ls hl => ?_)
  refine lv_iload_n hx hb dX6_tell_25 rfl (lv_at hl 0 rfl) ?_
  refine lv_bipush (v := 10) hx hb dX6_tell_26 (by decide) ?_
  refine lv_icmp_gt (tgt := 90) hx hb dX6_tell_28 (by decide) (fun c_5 => absurd c_5 (by decide)) (fun c_5 => ?_)
  refine lv_aload_n hx hb dX6_tell_31 rfl (lv_at hl 2 rfl) ?_
  refine va_get (D := (dC, dI)) (ci := 8) (v := .int 0) (C := RX6) (T := TX6) (N := 6) hx hb hts iRX6 hown hK hP 0 rfl rfl 4 (by decide) (hts (.fieldLink RX6 30 "RecordBench$TextReader" "fault" "I") (by decide +kernel)) (fun _ h9 => h9) rfl dX6_tell_32 ?_
  refine lv_if_ne (tgt := 90) hx hb dX6_tell_35 (by decide) (fun c_6 => absurd c_6 (by decide)) (fun c_6 => ?_)
  refine lv_aload_n hx hb dX6_tell_38 rfl (lv_at hl 2 rfl) ?_
  have hFc := va_free (wc := [(h0, .inr (8, [.ref t0, .ref m0, .ref sb, .int 0, .int 0, .int ((-1))])), (t0, .inr (7, [.ref tb, .int 0]))]) hD hS hA [0, 1] rfl
  refine va_callv (va_runV (As := []) (rest := []) ⟨hx, hb, hml, hown, hts⟩ (c_X6_skipBlanks l dC dI h0 t0 m0 sb tb 0 (-1) H.size) (cwV 0 hts gp_X6_tell_X6_skipBlanks_39 rfl rfl rfl (by decide +kernel) ⟨Nat.le_of_ble_eq_true rfl, Nat.le_of_ble_eq_true rfl⟩) ⟨Pr.blind _, va_recv hK hP (ci := 8) (q0 := 0) rfl rfl, fun U hU hW => ⟨rfl, Pr.at (hP.sub (ws' := [(h0, .inr (8, [.ref t0, .ref m0, .ref sb, .int 0, .int 0, .int ((-1))])), (t0, .inr (7, [.ref tb, .int 0]))]) [0, 1] rfl) (hK.sub (tys' := []) [] rfl) (hD.sub (ws' := [(h0, .inr (8, [.ref t0, .ref m0, .ref sb, .int 0, .int 0, .int ((-1))])), (t0, .inr (7, [.ref tb, .int 0]))]) [0, 1] (by decide) rfl) hN hZ hS hFc hU hW⟩⟩ rfl rfl hl.1 rfl (lv_room (Nat.le_of_ble_eq_true rfl)) dX6_tell_39 ⟨Nat.le_of_ble_eq_true rfl, Nat.le_of_ble_eq_true rfl⟩) hS (fun q _ h => hFc q h) hFc (fun u t H1 locs ht hvm hw_8 hB hz1 hk1 hS => ?_)
  obtain ⟨hP, hD, hK⟩ := Bq.join (wr := [(q_1, .inr (3, [.ref q_4, .int 0]))]) hB ht hvm hP hD [0, 1] [2] rfl rfl (by decide) (by decide) hk1 hFc hK
  generalize H1 = H at hP hS ⊢
  have hP : va_P (dC, dI) vwCl [(q_1, .inr (3, [.ref q_4, .int 0])), (h0, .inr (8, [.ref t0, .ref m0, .ref sb, .int 0, .int 0, .int (-1)])), (t0, .inr (7, [.ref tb, .int 0]))] H := hP
  have hD : va_D A [(q_1, .inr (3, [.ref q_4, .int 0])), (h0, .inr (8, [.ref t0, .ref m0, .ref sb, .int 0, .int 0, .int (-1)])), (t0, .inr (7, [.ref tb, .int 0]))] := hD
  have hK : va_K (dC, dI) vwCl [] s := hK
  refine lv_aload_n hx hb dX6_tell_42 rfl (lv_at hl 2 rfl) ?_
  refine va_get (D := (dC, dI)) (ci := 8) (v := .int 0) (C := RX6) (T := TX6) (N := 6) hx hb hts iRX6 hown hK hP 1 rfl rfl 3 (by decide) (hts (.fieldLink RX6 26 "RecordBench$TextReader" "pos" "I") (by decide +kernel)) (fun _ h9 => h9) rfl dX6_tell_43 ?_
  refine lv_aload_n hx hb dX6_tell_46 rfl (lv_at hl 2 rfl) ?_
  refine va_get (D := (dC, dI)) (ci := 8) (v := .ref t0) (C := RX6) (T := TX6) (N := 6) hx hb hts iRX6 hown hK hP 1 rfl rfl 0 (by decide) (hts (.fieldLink RX6 9 "RecordBench$TextReader" "tape" "LRecordBench$Row;") (by decide +kernel)) (fun _ h9 => h9) rfl dX6_tell_47 ?_
  have hFc := va_free (wc := [(t0, .inr (7, [.ref tb, .int 0]))]) hD hS hA [2] rfl
  refine va_calli (va_runV (As := []) (rest := [.int 0]) ⟨hx, hb, hml, hown, hts⟩ (c_X5_size l dC dI t0 tb 0 H.size) (cwV 0 hts gp_X6_tell_X5_size_42 rfl rfl rfl (by decide +kernel) ⟨Nat.le_of_ble_eq_true rfl, Nat.le_of_ble_eq_true rfl⟩) ⟨Pr.blind _, va_recv hK hP (ci := 7) (q0 := 2) rfl rfl, fun U hU hW => ⟨rfl, Pr.at (hP.sub (ws' := [(t0, .inr (7, [.ref tb, .int 0]))]) [2] rfl) (hK.sub (tys' := []) [] rfl) (hD.sub (ws' := [(t0, .inr (7, [.ref tb, .int 0]))]) [2] (by decide) rfl) hN hZ hS hFc hU hW⟩⟩ rfl rfl hl.1 rfl (lv_room (Nat.le_of_ble_eq_true rfl)) dX6_tell_50 ⟨Nat.le_of_ble_eq_true rfl, Nat.le_of_ble_eq_true rfl⟩) hS (fun q _ h => hFc q h) hFc (fun r_9 u t H1 locs ht hvm hw_10 hB hz1 hk1 hS => ?_)
  obtain ⟨hP, hD, hK⟩ := Bq.join (wr := [(q_1, .inr (3, [.ref q_4, .int 0])), (h0, .inr (8, [.ref t0, .ref m0, .ref sb, .int 0, .int 0, .int (-1)]))]) hB ht hvm hP hD [2] [0, 1] rfl rfl (by decide) (by decide) hk1 hFc hK
  generalize H1 = H at hP hS ⊢
  have hP : va_P (dC, dI) vwCl [(q_1, .inr (3, [.ref q_4, .int 0])), (h0, .inr (8, [.ref t0, .ref m0, .ref sb, .int 0, .int 0, .int (-1)])), (t0, .inr (7, [.ref tb, .int 0]))] H := hP
  have hD : va_D A [(q_1, .inr (3, [.ref q_4, .int 0])), (h0, .inr (8, [.ref t0, .ref m0, .ref sb, .int 0, .int 0, .int (-1)])), (t0, .inr (7, [.ref tb, .int 0]))] := hD
  have hK : va_K (dC, dI) vwCl [] s := hK
  try dsimp only at hw_10
  have k_11 := hw_10
  refine W_toi (y := 0) k_11 ?_
  refine lv_icmp_lt (tgt := 58) hx hb dX6_tell_53 (by decide) (fun c_12 => absurd c_12 (by decide)) (fun c_12 => ?_)
  refine lv_aload_n hx hb dX6_tell_56 rfl (lv_at hl 1 rfl) ?_
  have hP9 := hP.sub (ws' := [(h0, .inr (8, [.ref t0, .ref m0, .ref sb, .int 0, .int 0, .int (-1)])), (t0, .inr (7, [.ref tb, .int 0])), (q_1, .inr (3, [.ref q_4, .int 0]))]) [1, 2, 0] rfl
  have hD9 := hD.sub (ws' := [(h0, .inr (8, [.ref t0, .ref m0, .ref sb, .int 0, .int 0, .int (-1)])), (t0, .inr (7, [.ref tb, .int 0])), (q_1, .inr (3, [.ref q_4, .int 0]))]) [1, 2, 0] (by decide) rfl
  have hK9 := hK.sub (tys' := []) [] rfl
  exact W.aret (v := .ref q_1) hx hb hr (Or.inl ⟨_, rfl⟩) (Or.inr ⟨_, rfl⟩) (fun t ht hW => ⟨⟨(some q_1), (q_1, q_4), rfl, rfl, by rw [ht]; exact hP9, va_K.moved hW.alike hK9, hD9⟩, hS.F ht⟩) hS.2.2 dX6_tell_57
end
section
theorem dX8_at_0 : decode cX8_at 0 = .ok (.aload_n 0, 1) := by decide +kernel
theorem dX8_at_1 : decode cX8_at 1 = .ok (.iload_n 1, 1) := by decide +kernel
theorem dX8_at_10 : decode cX8_at 10 = .ok (.iconst (-1), 1) := by decide +kernel
theorem dX8_at_11 : decode cX8_at 11 = .ok (.goto 8, 3) := by decide +kernel
theorem dX8_at_14 : decode cX8_at 14 = .ok (.aload_n 3, 1) := by decide +kernel
theorem dX8_at_15 : decode cX8_at 15 = .ok (.iload_n 2, 1) := by decide +kernel
theorem dX8_at_16 : decode cX8_at 16 = .ok (.invokevirtual 195, 3) := by decide +kernel
theorem dX8_at_19 : decode cX8_at 19 = .ok (.ireturn, 1) := by decide +kernel
theorem dX8_at_2 : decode cX8_at 2 = .ok (.invokevirtual 128, 3) := by decide +kernel
theorem dX8_at_5 : decode cX8_at 5 = .ok (.astore_n 3, 1) := by decide +kernel
theorem dX8_at_6 : decode cX8_at 6 = .ok (.aload_n 3, 1) := by decide +kernel
theorem dX8_at_7 : decode cX8_at 7 = .ok (.ifnonnull 7, 3) := by decide +kernel
theorem dX8_by_0 : decode cX8_by 0 = .ok (.aload_n 0, 1) := by decide +kernel
theorem dX8_by_1 : decode cX8_by 1 = .ok (.getfield 73, 3) := by decide +kernel
theorem dX8_by_4 : decode cX8_by 4 = .ok (.ireturn, 1) := by decide +kernel
theorem dX8_clear_0 : decode cX8_clear 0 = .ok (.aload_n 0, 1) := by decide +kernel
theorem dX8_clear_1 : decode cX8_clear 1 = .ok (.iload_n 1, 1) := by decide +kernel
theorem dX8_clear_10 : decode cX8_clear 10 = .ok (.iconst (-1), 1) := by decide +kernel
theorem dX8_clear_11 : decode cX8_clear 11 = .ok (.ireturn, 1) := by decide +kernel
theorem dX8_clear_12 : decode cX8_clear 12 = .ok (.aload_n 2, 1) := by decide +kernel
theorem dX8_clear_13 : decode cX8_clear 13 = .ok (.invokevirtual 76, 3) := by decide +kernel
theorem dX8_clear_16 : decode cX8_clear 16 = .ok (.istore_n 3, 1) := by decide +kernel
theorem dX8_clear_17 : decode cX8_clear 17 = .ok (.aload_n 2, 1) := by decide +kernel
theorem dX8_clear_18 : decode cX8_clear 18 = .ok (.iconst 0, 1) := by decide +kernel
theorem dX8_clear_19 : decode cX8_clear 19 = .ok (.invokevirtual 83, 3) := by decide +kernel
theorem dX8_clear_2 : decode cX8_clear 2 = .ok (.invokevirtual 128, 3) := by decide +kernel
theorem dX8_clear_22 : decode cX8_clear 22 = .ok (.pop, 1) := by decide +kernel
theorem dX8_clear_23 : decode cX8_clear 23 = .ok (.iload_n 3, 1) := by decide +kernel
theorem dX8_clear_24 : decode cX8_clear 24 = .ok (.ireturn, 1) := by decide +kernel
theorem dX8_clear_5 : decode cX8_clear 5 = .ok (.astore_n 2, 1) := by decide +kernel
theorem dX8_clear_6 : decode cX8_clear 6 = .ok (.aload_n 2, 1) := by decide +kernel
theorem dX8_clear_7 : decode cX8_clear 7 = .ok (.ifnonnull 5, 3) := by decide +kernel
theorem dX8_drop_0 : decode cX8_drop 0 = .ok (.aload_n 0, 1) := by decide +kernel
theorem dX8_drop_1 : decode cX8_drop 1 = .ok (.iload_n 1, 1) := by decide +kernel
theorem dX8_drop_11 : decode cX8_drop 11 = .ok (.iload_n 2, 1) := by decide +kernel
theorem dX8_drop_12 : decode cX8_drop 12 = .ok (.invokestatic 136, 3) := by decide +kernel
theorem dX8_drop_15 : decode cX8_drop 15 = .ok (.astore 5, 2) := by decide +kernel
theorem dX8_drop_17 : decode cX8_drop 17 = .ok (.aload_n 0, 1) := by decide +kernel
theorem dX8_drop_18 : decode cX8_drop 18 = .ok (.iload_n 2, 1) := by decide +kernel
theorem dX8_drop_19 : decode cX8_drop 19 = .ok (.iload_n 3, 1) := by decide +kernel
theorem dX8_drop_2 : decode cX8_drop 2 = .ok (.invokevirtual 128, 3) := by decide +kernel
theorem dX8_drop_20 : decode cX8_drop 20 = .ok (.invokevirtual 100, 3) := by decide +kernel
theorem dX8_drop_23 : decode cX8_drop 23 = .ok (.astore 6, 2) := by decide +kernel
theorem dX8_drop_25 : decode cX8_drop 25 = .ok (.aload 4, 2) := by decide +kernel
theorem dX8_drop_27 : decode cX8_drop 27 = .ok (.ifnull 21, 3) := by decide +kernel
theorem dX8_drop_30 : decode cX8_drop 30 = .ok (.aload 5, 2) := by decide +kernel
theorem dX8_drop_32 : decode cX8_drop 32 = .ok (.ifnull 16, 3) := by decide +kernel
theorem dX8_drop_48 : decode cX8_drop 48 = .ok (.iconst (-1), 1) := by decide +kernel
theorem dX8_drop_49 : decode cX8_drop 49 = .ok (.ireturn, 1) := by decide +kernel
theorem dX8_drop_5 : decode cX8_drop 5 = .ok (.astore 4, 2) := by decide +kernel
theorem dX8_drop_7 : decode cX8_drop 7 = .ok (.aload_n 0, 1) := by decide +kernel
theorem dX8_drop_8 : decode cX8_drop 8 = .ok (.getfield 24, 3) := by decide +kernel
theorem dX8_end_0 : decode cX8_end 0 = .ok (.aload_n 0, 1) := by decide +kernel
theorem dX8_end_1 : decode cX8_end 1 = .ok (.getfield 14, 3) := by decide +kernel
theorem dX8_end_4 : decode cX8_end 4 = .ok (.iload_n 1, 1) := by decide +kernel
theorem dX8_end_5 : decode cX8_end 5 = .ok (.invokevirtual 83, 3) := by decide +kernel
theorem dX8_end_8 : decode cX8_end 8 = .ok (.ireturn, 1) := by decide +kernel
theorem dX8_fault_0 : decode cX8_fault 0 = .ok (.iload_n 1, 1) := by decide +kernel
theorem dX8_fault_1 : decode cX8_fault 1 = .ok (.ifCond .ne 8, 3) := by decide +kernel
theorem dX8_fault_10 : decode cX8_fault 10 = .ok (.iconst 1, 1) := by decide +kernel
theorem dX8_fault_11 : decode cX8_fault 11 = .ok (.if_icmp .ne 10, 3) := by decide +kernel
theorem dX8_fault_14 : decode cX8_fault 14 = .ok (.aload_n 0, 1) := by decide +kernel
theorem dX8_fault_15 : decode cX8_fault 15 = .ok (.getfield 70, 3) := by decide +kernel
theorem dX8_fault_18 : decode cX8_fault 18 = .ok (.goto 4, 3) := by decide +kernel
theorem dX8_fault_21 : decode cX8_fault 21 = .ok (.iconst (-1), 1) := by decide +kernel
theorem dX8_fault_22 : decode cX8_fault 22 = .ok (.ireturn, 1) := by decide +kernel
theorem dX8_fault_4 : decode cX8_fault 4 = .ok (.aload_n 0, 1) := by decide +kernel
theorem dX8_fault_5 : decode cX8_fault 5 = .ok (.getfield 66, 3) := by decide +kernel
theorem dX8_fault_8 : decode cX8_fault 8 = .ok (.ireturn, 1) := by decide +kernel
theorem dX8_fault_9 : decode cX8_fault 9 = .ok (.iload_n 1, 1) := by decide +kernel
theorem dX8_feed_0 : decode cX8_feed 0 = .ok (.aload_n 0, 1) := by decide +kernel
theorem dX8_feed_1 : decode cX8_feed 1 = .ok (.getfield 14, 3) := by decide +kernel
theorem dX8_feed_10 : decode cX8_feed 10 = .ok (.sipush 400, 3) := by decide +kernel
theorem dX8_feed_13 : decode cX8_feed 13 = .ok (.if_icmp .le 5, 3) := by decide +kernel
theorem dX8_feed_18 : decode cX8_feed 18 = .ok (.aload_n 0, 1) := by decide +kernel
theorem dX8_feed_19 : decode cX8_feed 19 = .ok (.getfield 14, 3) := by decide +kernel
theorem dX8_feed_22 : decode cX8_feed 22 = .ok (.iload_n 1, 1) := by decide +kernel
theorem dX8_feed_23 : decode cX8_feed 23 = .ok (.invokevirtual 80, 3) := by decide +kernel
theorem dX8_feed_26 : decode cX8_feed 26 = .ok (.aload_n 0, 1) := by decide +kernel
theorem dX8_feed_27 : decode cX8_feed 27 = .ok (.getfield 14, 3) := by decide +kernel
theorem dX8_feed_30 : decode cX8_feed 30 = .ok (.iload_n 2, 1) := by decide +kernel
theorem dX8_feed_31 : decode cX8_feed 31 = .ok (.invokevirtual 80, 3) := by decide +kernel
theorem dX8_feed_34 : decode cX8_feed 34 = .ok (.aload_n 0, 1) := by decide +kernel
theorem dX8_feed_35 : decode cX8_feed 35 = .ok (.getfield 14, 3) := by decide +kernel
theorem dX8_feed_38 : decode cX8_feed 38 = .ok (.iload_n 3, 1) := by decide +kernel
theorem dX8_feed_39 : decode cX8_feed 39 = .ok (.invokevirtual 80, 3) := by decide +kernel
theorem dX8_feed_4 : decode cX8_feed 4 = .ok (.invokevirtual 76, 3) := by decide +kernel
theorem dX8_feed_42 : decode cX8_feed 42 = .ok (.aload_n 0, 1) := by decide +kernel
theorem dX8_feed_43 : decode cX8_feed 43 = .ok (.getfield 14, 3) := by decide +kernel
theorem dX8_feed_46 : decode cX8_feed 46 = .ok (.iload 4, 2) := by decide +kernel
theorem dX8_feed_48 : decode cX8_feed 48 = .ok (.invokevirtual 80, 3) := by decide +kernel
theorem dX8_feed_51 : decode cX8_feed 51 = .ok (.aload_n 0, 1) := by decide +kernel
theorem dX8_feed_52 : decode cX8_feed 52 = .ok (.getfield 14, 3) := by decide +kernel
theorem dX8_feed_55 : decode cX8_feed 55 = .ok (.iload 5, 2) := by decide +kernel
theorem dX8_feed_57 : decode cX8_feed 57 = .ok (.invokevirtual 80, 3) := by decide +kernel
theorem dX8_feed_60 : decode cX8_feed 60 = .ok (.aload_n 0, 1) := by decide +kernel
theorem dX8_feed_61 : decode cX8_feed 61 = .ok (.getfield 14, 3) := by decide +kernel
theorem dX8_feed_64 : decode cX8_feed 64 = .ok (.invokevirtual 76, 3) := by decide +kernel
theorem dX8_feed_67 : decode cX8_feed 67 = .ok (.ireturn, 1) := by decide +kernel
theorem dX8_feed_7 : decode cX8_feed 7 = .ok (.bipush 20, 2) := by decide +kernel
theorem dX8_feed_9 : decode cX8_feed 9 = .ok (.iadd, 1) := by decide +kernel
theorem dX8_fieldOf_0 : decode cX8_fieldOf 0 = .ok (.aload_n 0, 1) := by decide +kernel
theorem dX8_fieldOf_1 : decode cX8_fieldOf 1 = .ok (.getfield 24, 3) := by decide +kernel
theorem dX8_fieldOf_10 : decode cX8_fieldOf 10 = .ok (.ifnonnull 7, 3) := by decide +kernel
theorem dX8_fieldOf_13 : decode cX8_fieldOf 13 = .ok (.aconst_null, 1) := by decide +kernel
theorem dX8_fieldOf_14 : decode cX8_fieldOf 14 = .ok (.goto 8, 3) := by decide +kernel
theorem dX8_fieldOf_22 : decode cX8_fieldOf 22 = .ok (.areturn, 1) := by decide +kernel
theorem dX8_fieldOf_4 : decode cX8_fieldOf 4 = .ok (.iload_n 1, 1) := by decide +kernel
theorem dX8_fieldOf_5 : decode cX8_fieldOf 5 = .ok (.invokestatic 136, 3) := by decide +kernel
theorem dX8_fieldOf_8 : decode cX8_fieldOf 8 = .ok (.astore_n 3, 1) := by decide +kernel
theorem dX8_fieldOf_9 : decode cX8_fieldOf 9 = .ok (.aload_n 3, 1) := by decide +kernel
theorem dX8_field_0 : decode cX8_field 0 = .ok (.aload_n 0, 1) := by decide +kernel
theorem dX8_field_1 : decode cX8_field 1 = .ok (.iload_n 1, 1) := by decide +kernel
theorem dX8_field_10 : decode cX8_field 10 = .ok (.ifnonnull 5, 3) := by decide +kernel
theorem dX8_field_13 : decode cX8_field 13 = .ok (.iconst (-1), 1) := by decide +kernel
theorem dX8_field_14 : decode cX8_field 14 = .ok (.ireturn, 1) := by decide +kernel
theorem dX8_field_2 : decode cX8_field 2 = .ok (.iload_n 2, 1) := by decide +kernel
theorem dX8_field_3 : decode cX8_field 3 = .ok (.invokevirtual 100, 3) := by decide +kernel
theorem dX8_field_6 : decode cX8_field 6 = .ok (.astore 4, 2) := by decide +kernel
theorem dX8_field_8 : decode cX8_field 8 = .ok (.aload 4, 2) := by decide +kernel
theorem dX8_get_0 : decode cX8_get 0 = .ok (.aload_n 0, 1) := by decide +kernel
theorem dX8_get_1 : decode cX8_get 1 = .ok (.iload_n 1, 1) := by decide +kernel
theorem dX8_get_11 : decode cX8_get 11 = .ok (.iload_n 2, 1) := by decide +kernel
theorem dX8_get_12 : decode cX8_get 12 = .ok (.invokestatic 136, 3) := by decide +kernel
theorem dX8_get_15 : decode cX8_get 15 = .ok (.astore 6, 2) := by decide +kernel
theorem dX8_get_17 : decode cX8_get 17 = .ok (.aload_n 0, 1) := by decide +kernel
theorem dX8_get_18 : decode cX8_get 18 = .ok (.iload_n 2, 1) := by decide +kernel
theorem dX8_get_19 : decode cX8_get 19 = .ok (.iload_n 3, 1) := by decide +kernel
theorem dX8_get_2 : decode cX8_get 2 = .ok (.invokevirtual 128, 3) := by decide +kernel
theorem dX8_get_20 : decode cX8_get 20 = .ok (.invokevirtual 100, 3) := by decide +kernel
theorem dX8_get_23 : decode cX8_get 23 = .ok (.astore 7, 2) := by decide +kernel
theorem dX8_get_25 : decode cX8_get 25 = .ok (.aload 5, 2) := by decide +kernel
theorem dX8_get_27 : decode cX8_get 27 = .ok (.ifnull 24, 3) := by decide +kernel
theorem dX8_get_30 : decode cX8_get 30 = .ok (.aload 6, 2) := by decide +kernel
theorem dX8_get_32 : decode cX8_get 32 = .ok (.ifnull 19, 3) := by decide +kernel
theorem dX8_get_5 : decode cX8_get 5 = .ok (.astore 5, 2) := by decide +kernel
theorem dX8_get_51 : decode cX8_get 51 = .ok (.ldc2_w 184, 3) := by decide +kernel
theorem dX8_get_54 : decode cX8_get 54 = .ok (.lreturn, 1) := by decide +kernel
theorem dX8_get_7 : decode cX8_get 7 = .ok (.aload_n 0, 1) := by decide +kernel
theorem dX8_get_8 : decode cX8_get 8 = .ok (.getfield 24, 3) := by decide +kernel
theorem dX8_kept_0 : decode cX8_kept 0 = .ok (.aload_n 0, 1) := by decide +kernel
theorem dX8_kept_1 : decode cX8_kept 1 = .ok (.iload_n 1, 1) := by decide +kernel
theorem dX8_kept_10 : decode cX8_kept 10 = .ok (.iload_n 2, 1) := by decide +kernel
theorem dX8_kept_11 : decode cX8_kept 11 = .ok (.invokestatic 136, 3) := by decide +kernel
theorem dX8_kept_14 : decode cX8_kept 14 = .ok (.astore 4, 2) := by decide +kernel
theorem dX8_kept_16 : decode cX8_kept 16 = .ok (.aload_n 3, 1) := by decide +kernel
theorem dX8_kept_17 : decode cX8_kept 17 = .ok (.ifnull 21, 3) := by decide +kernel
theorem dX8_kept_2 : decode cX8_kept 2 = .ok (.invokevirtual 128, 3) := by decide +kernel
theorem dX8_kept_20 : decode cX8_kept 20 = .ok (.aload 4, 2) := by decide +kernel
theorem dX8_kept_22 : decode cX8_kept 22 = .ok (.ifnull 16, 3) := by decide +kernel
theorem dX8_kept_38 : decode cX8_kept 38 = .ok (.iconst (-1), 1) := by decide +kernel
theorem dX8_kept_39 : decode cX8_kept 39 = .ok (.ireturn, 1) := by decide +kernel
theorem dX8_kept_5 : decode cX8_kept 5 = .ok (.astore_n 3, 1) := by decide +kernel
theorem dX8_kept_6 : decode cX8_kept 6 = .ok (.aload_n 0, 1) := by decide +kernel
theorem dX8_kept_7 : decode cX8_kept 7 = .ok (.getfield 24, 3) := by decide +kernel
theorem dX8_load_0 : decode cX8_load 0 = .ok (.aload_n 0, 1) := by decide +kernel
theorem dX8_load_1 : decode cX8_load 1 = .ok (.iload_n 1, 1) := by decide +kernel
theorem dX8_load_10 : decode cX8_load 10 = .ok (.aload_n 0, 1) := by decide +kernel
theorem dX8_load_11 : decode cX8_load 11 = .ok (.getfield 14, 3) := by decide +kernel
theorem dX8_load_14 : decode cX8_load 14 = .ok (.invokevirtual 76, 3) := by decide +kernel
theorem dX8_load_17 : decode cX8_load 17 = .ok (.bipush 120, 2) := by decide +kernel
theorem dX8_load_19 : decode cX8_load 19 = .ok (.if_icmp .le 5, 3) := by decide +kernel
theorem dX8_load_2 : decode cX8_load 2 = .ok (.invokevirtual 128, 3) := by decide +kernel
theorem dX8_load_22 : decode cX8_load 22 = .ok (.iconst (-1), 1) := by decide +kernel
theorem dX8_load_23 : decode cX8_load 23 = .ok (.ireturn, 1) := by decide +kernel
theorem dX8_load_24 : decode cX8_load 24 = .ok (.aload_n 2, 1) := by decide +kernel
theorem dX8_load_25 : decode cX8_load 25 = .ok (.aload_n 0, 1) := by decide +kernel
theorem dX8_load_26 : decode cX8_load 26 = .ok (.getfield 14, 3) := by decide +kernel
theorem dX8_load_29 : decode cX8_load 29 = .ok (.iconst 0, 1) := by decide +kernel
theorem dX8_load_30 : decode cX8_load 30 = .ok (.aload_n 0, 1) := by decide +kernel
theorem dX8_load_31 : decode cX8_load 31 = .ok (.getfield 14, 3) := by decide +kernel
theorem dX8_load_34 : decode cX8_load 34 = .ok (.invokevirtual 76, 3) := by decide +kernel
theorem dX8_load_37 : decode cX8_load 37 = .ok (.invokevirtual 132, 3) := by decide +kernel
theorem dX8_load_40 : decode cX8_load 40 = .ok (.aload_n 0, 1) := by decide +kernel
theorem dX8_load_41 : decode cX8_load 41 = .ok (.getfield 14, 3) := by decide +kernel
theorem dX8_load_44 : decode cX8_load 44 = .ok (.iconst 0, 1) := by decide +kernel
theorem dX8_load_45 : decode cX8_load 45 = .ok (.invokevirtual 83, 3) := by decide +kernel
theorem dX8_load_48 : decode cX8_load 48 = .ok (.pop, 1) := by decide +kernel
theorem dX8_load_49 : decode cX8_load 49 = .ok (.aload_n 2, 1) := by decide +kernel
theorem dX8_load_5 : decode cX8_load 5 = .ok (.astore_n 2, 1) := by decide +kernel
theorem dX8_load_50 : decode cX8_load 50 = .ok (.invokevirtual 76, 3) := by decide +kernel
theorem dX8_load_53 : decode cX8_load 53 = .ok (.ireturn, 1) := by decide +kernel
theorem dX8_load_6 : decode cX8_load 6 = .ok (.aload_n 2, 1) := by decide +kernel
theorem dX8_load_7 : decode cX8_load 7 = .ok (.ifnull 15, 3) := by decide +kernel
theorem dX8_lookAlong_0 : decode cX8_lookAlong 0 = .ok (.aload_n 0, 1) := by decide +kernel
theorem dX8_lookAlong_1 : decode cX8_lookAlong 1 = .ok (.getfield 24, 3) := by decide +kernel
theorem dX8_lookAlong_10 : decode cX8_lookAlong 10 = .ok (.aload_n 0, 1) := by decide +kernel
theorem dX8_lookAlong_11 : decode cX8_lookAlong 11 = .ok (.getfield 24, 3) := by decide +kernel
theorem dX8_lookAlong_14 : decode cX8_lookAlong 14 = .ok (.iload_n 2, 1) := by decide +kernel
theorem dX8_lookAlong_15 : decode cX8_lookAlong 15 = .ok (.invokestatic 136, 3) := by decide +kernel
theorem dX8_lookAlong_18 : decode cX8_lookAlong 18 = .ok (.astore 5, 2) := by decide +kernel
theorem dX8_lookAlong_20 : decode cX8_lookAlong 20 = .ok (.aload_n 0, 1) := by decide +kernel
theorem dX8_lookAlong_21 : decode cX8_lookAlong 21 = .ok (.getfield 24, 3) := by decide +kernel
theorem dX8_lookAlong_24 : decode cX8_lookAlong 24 = .ok (.iload_n 3, 1) := by decide +kernel
theorem dX8_lookAlong_25 : decode cX8_lookAlong 25 = .ok (.invokestatic 136, 3) := by decide +kernel
theorem dX8_lookAlong_28 : decode cX8_lookAlong 28 = .ok (.astore 6, 2) := by decide +kernel
theorem dX8_lookAlong_30 : decode cX8_lookAlong 30 = .ok (.aload 4, 2) := by decide +kernel
theorem dX8_lookAlong_32 : decode cX8_lookAlong 32 = .ok (.ifnull 13, 3) := by decide +kernel
theorem dX8_lookAlong_4 : decode cX8_lookAlong 4 = .ok (.iload_n 1, 1) := by decide +kernel
theorem dX8_lookAlong_45 : decode cX8_lookAlong 45 = .ok (.iconst (-1), 1) := by decide +kernel
theorem dX8_lookAlong_46 : decode cX8_lookAlong 46 = .ok (.ireturn, 1) := by decide +kernel
theorem dX8_lookAlong_5 : decode cX8_lookAlong 5 = .ok (.invokestatic 136, 3) := by decide +kernel
theorem dX8_lookAlong_8 : decode cX8_lookAlong 8 = .ok (.astore 4, 2) := by decide +kernel
theorem dX8_makeOf_0 : decode cX8_makeOf 0 = .ok (.iload_n 1, 1) := by decide +kernel
theorem dX8_makeOf_1 : decode cX8_makeOf 1 = .ok (.ifCond .lt 15, 3) := by decide +kernel
theorem dX8_makeOf_10 : decode cX8_makeOf 10 = .ok (.aload_n 0, 1) := by decide +kernel
theorem dX8_makeOf_11 : decode cX8_makeOf 11 = .ok (.iload_n 1, 1) := by decide +kernel
theorem dX8_makeOf_12 : decode cX8_makeOf 12 = .ok (.aaload, 1) := by decide +kernel
theorem dX8_makeOf_13 : decode cX8_makeOf 13 = .ok (.goto 4, 3) := by decide +kernel
theorem dX8_makeOf_16 : decode cX8_makeOf 16 = .ok (.aconst_null, 1) := by decide +kernel
theorem dX8_makeOf_17 : decode cX8_makeOf 17 = .ok (.areturn, 1) := by decide +kernel
theorem dX8_makeOf_4 : decode cX8_makeOf 4 = .ok (.iload_n 1, 1) := by decide +kernel
theorem dX8_makeOf_5 : decode cX8_makeOf 5 = .ok (.aload_n 0, 1) := by decide +kernel
theorem dX8_makeOf_6 : decode cX8_makeOf 6 = .ok (.arraylength, 1) := by decide +kernel
theorem dX8_makeOf_7 : decode cX8_makeOf 7 = .ok (.if_icmp .ge 9, 3) := by decide +kernel
theorem dX8_make_0 : decode cX8_make 0 = .ok (.iload_n 1, 1) := by decide +kernel
theorem dX8_make_1 : decode cX8_make 1 = .ok (.ifCond .lt 18, 3) := by decide +kernel
theorem dX8_make_10 : decode cX8_make 10 = .ok (.aload_n 0, 1) := by decide +kernel
theorem dX8_make_11 : decode cX8_make 11 = .ok (.getfield 24, 3) := by decide +kernel
theorem dX8_make_14 : decode cX8_make 14 = .ok (.iload_n 1, 1) := by decide +kernel
theorem dX8_make_15 : decode cX8_make 15 = .ok (.aaload, 1) := by decide +kernel
theorem dX8_make_16 : decode cX8_make 16 = .ok (.ifnull 6, 3) := by decide +kernel
theorem dX8_make_19 : decode cX8_make 19 = .ok (.bipush (-2), 2) := by decide +kernel
theorem dX8_make_21 : decode cX8_make 21 = .ok (.ireturn, 1) := by decide +kernel
theorem dX8_make_22 : decode cX8_make 22 = .ok (.aload_n 0, 1) := by decide +kernel
theorem dX8_make_23 : decode cX8_make 23 = .ok (.getfield 33, 3) := by decide +kernel
theorem dX8_make_26 : decode cX8_make 26 = .ok (.iload_n 1, 1) := by decide +kernel
theorem dX8_make_27 : decode cX8_make 27 = .ok (.invokevirtual 87, 3) := by decide +kernel
theorem dX8_make_30 : decode cX8_make 30 = .ok (.astore_n 2, 1) := by decide +kernel
theorem dX8_make_31 : decode cX8_make 31 = .ok (.aload_n 0, 1) := by decide +kernel
theorem dX8_make_32 : decode cX8_make 32 = .ok (.getfield 14, 3) := by decide +kernel
theorem dX8_make_35 : decode cX8_make 35 = .ok (.iconst 0, 1) := by decide +kernel
theorem dX8_make_36 : decode cX8_make 36 = .ok (.invokevirtual 83, 3) := by decide +kernel
theorem dX8_make_39 : decode cX8_make 39 = .ok (.pop, 1) := by decide +kernel
theorem dX8_make_4 : decode cX8_make 4 = .ok (.iload_n 1, 1) := by decide +kernel
theorem dX8_make_40 : decode cX8_make 40 = .ok (.aload_n 0, 1) := by decide +kernel
theorem dX8_make_41 : decode cX8_make 41 = .ok (.aload_n 0, 1) := by decide +kernel
theorem dX8_make_42 : decode cX8_make 42 = .ok (.getfield 33, 3) := by decide +kernel
theorem dX8_make_45 : decode cX8_make 45 = .ok (.invokevirtual 91, 3) := by decide +kernel
theorem dX8_make_48 : decode cX8_make 48 = .ok (.putfield 66, 3) := by decide +kernel
theorem dX8_make_5 : decode cX8_make 5 = .ok (.bipush 8, 2) := by decide +kernel
theorem dX8_make_51 : decode cX8_make 51 = .ok (.aload_n 0, 1) := by decide +kernel
theorem dX8_make_52 : decode cX8_make 52 = .ok (.aload_n 0, 1) := by decide +kernel
theorem dX8_make_53 : decode cX8_make 53 = .ok (.getfield 33, 3) := by decide +kernel
theorem dX8_make_56 : decode cX8_make 56 = .ok (.invokevirtual 94, 3) := by decide +kernel
theorem dX8_make_59 : decode cX8_make 59 = .ok (.putfield 70, 3) := by decide +kernel
theorem dX8_make_62 : decode cX8_make 62 = .ok (.aload_n 2, 1) := by decide +kernel
theorem dX8_make_63 : decode cX8_make 63 = .ok (.ifnonnull 5, 3) := by decide +kernel
theorem dX8_make_68 : decode cX8_make 68 = .ok (.aload_n 0, 1) := by decide +kernel
theorem dX8_make_69 : decode cX8_make 69 = .ok (.getfield 24, 3) := by decide +kernel
theorem dX8_make_7 : decode cX8_make 7 = .ok (.if_icmp .ge 12, 3) := by decide +kernel
theorem dX8_make_72 : decode cX8_make 72 = .ok (.iload_n 1, 1) := by decide +kernel
theorem dX8_make_73 : decode cX8_make 73 = .ok (.aload_n 2, 1) := by decide +kernel
theorem dX8_make_74 : decode cX8_make 74 = .ok (.aastore, 1) := by decide +kernel
theorem dX8_make_75 : decode cX8_make 75 = .ok (.aload_n 2, 1) := by decide +kernel
theorem dX8_make_76 : decode cX8_make 76 = .ok (.invokevirtual 97, 3) := by decide +kernel
theorem dX8_make_79 : decode cX8_make 79 = .ok (.ireturn, 1) := by decide +kernel
theorem dX8_nest_0 : decode cX8_nest 0 = .ok (.aload_n 0, 1) := by decide +kernel
theorem dX8_nest_1 : decode cX8_nest 1 = .ok (.iload_n 1, 1) := by decide +kernel
theorem dX8_nest_10 : decode cX8_nest 10 = .ok (.invokevirtual 128, 3) := by decide +kernel
theorem dX8_nest_13 : decode cX8_nest 13 = .ok (.astore 6, 2) := by decide +kernel
theorem dX8_nest_15 : decode cX8_nest 15 = .ok (.aload_n 0, 1) := by decide +kernel
theorem dX8_nest_16 : decode cX8_nest 16 = .ok (.getfield 24, 3) := by decide +kernel
theorem dX8_nest_19 : decode cX8_nest 19 = .ok (.iload_n 2, 1) := by decide +kernel
theorem dX8_nest_2 : decode cX8_nest 2 = .ok (.invokevirtual 128, 3) := by decide +kernel
theorem dX8_nest_20 : decode cX8_nest 20 = .ok (.invokestatic 136, 3) := by decide +kernel
theorem dX8_nest_23 : decode cX8_nest 23 = .ok (.astore 7, 2) := by decide +kernel
theorem dX8_nest_25 : decode cX8_nest 25 = .ok (.aload_n 0, 1) := by decide +kernel
theorem dX8_nest_26 : decode cX8_nest 26 = .ok (.iload_n 2, 1) := by decide +kernel
theorem dX8_nest_27 : decode cX8_nest 27 = .ok (.iload_n 3, 1) := by decide +kernel
theorem dX8_nest_28 : decode cX8_nest 28 = .ok (.invokevirtual 100, 3) := by decide +kernel
theorem dX8_nest_31 : decode cX8_nest 31 = .ok (.astore 8, 2) := by decide +kernel
theorem dX8_nest_33 : decode cX8_nest 33 = .ok (.aload 5, 2) := by decide +kernel
theorem dX8_nest_35 : decode cX8_nest 35 = .ok (.ifnull 34, 3) := by decide +kernel
theorem dX8_nest_38 : decode cX8_nest 38 = .ok (.aload 6, 2) := by decide +kernel
theorem dX8_nest_40 : decode cX8_nest 40 = .ok (.ifnull 29, 3) := by decide +kernel
theorem dX8_nest_43 : decode cX8_nest 43 = .ok (.aload 7, 2) := by decide +kernel
theorem dX8_nest_45 : decode cX8_nest 45 = .ok (.ifnull 24, 3) := by decide +kernel
theorem dX8_nest_5 : decode cX8_nest 5 = .ok (.astore 5, 2) := by decide +kernel
theorem dX8_nest_69 : decode cX8_nest 69 = .ok (.iconst (-1), 1) := by decide +kernel
theorem dX8_nest_7 : decode cX8_nest 7 = .ok (.aload_n 0, 1) := by decide +kernel
theorem dX8_nest_70 : decode cX8_nest 70 = .ok (.ireturn, 1) := by decide +kernel
theorem dX8_nest_8 : decode cX8_nest 8 = .ok (.iload 4, 2) := by decide +kernel
theorem dX8_open_0 : decode cX8_open 0 = .ok (.aload_n 0, 1) := by decide +kernel
theorem dX8_open_1 : decode cX8_open 1 = .ok (.iload_n 1, 1) := by decide +kernel
theorem dX8_open_10 : decode cX8_open 10 = .ok (.invokevirtual 128, 3) := by decide +kernel
theorem dX8_open_13 : decode cX8_open 13 = .ok (.astore 6, 2) := by decide +kernel
theorem dX8_open_15 : decode cX8_open 15 = .ok (.aload_n 0, 1) := by decide +kernel
theorem dX8_open_16 : decode cX8_open 16 = .ok (.getfield 24, 3) := by decide +kernel
theorem dX8_open_19 : decode cX8_open 19 = .ok (.iload_n 2, 1) := by decide +kernel
theorem dX8_open_2 : decode cX8_open 2 = .ok (.invokevirtual 128, 3) := by decide +kernel
theorem dX8_open_20 : decode cX8_open 20 = .ok (.invokestatic 136, 3) := by decide +kernel
theorem dX8_open_23 : decode cX8_open 23 = .ok (.astore 7, 2) := by decide +kernel
theorem dX8_open_25 : decode cX8_open 25 = .ok (.aload_n 0, 1) := by decide +kernel
theorem dX8_open_26 : decode cX8_open 26 = .ok (.iload_n 2, 1) := by decide +kernel
theorem dX8_open_27 : decode cX8_open 27 = .ok (.iload_n 3, 1) := by decide +kernel
theorem dX8_open_28 : decode cX8_open 28 = .ok (.invokevirtual 100, 3) := by decide +kernel
theorem dX8_open_31 : decode cX8_open 31 = .ok (.astore 8, 2) := by decide +kernel
theorem dX8_open_33 : decode cX8_open 33 = .ok (.aload 5, 2) := by decide +kernel
theorem dX8_open_35 : decode cX8_open 35 = .ok (.ifnull 28, 3) := by decide +kernel
theorem dX8_open_38 : decode cX8_open 38 = .ok (.aload 6, 2) := by decide +kernel
theorem dX8_open_40 : decode cX8_open 40 = .ok (.ifnull 23, 3) := by decide +kernel
theorem dX8_open_43 : decode cX8_open 43 = .ok (.aload 7, 2) := by decide +kernel
theorem dX8_open_45 : decode cX8_open 45 = .ok (.ifnull 18, 3) := by decide +kernel
theorem dX8_open_5 : decode cX8_open 5 = .ok (.astore 5, 2) := by decide +kernel
theorem dX8_open_63 : decode cX8_open 63 = .ok (.iconst (-1), 1) := by decide +kernel
theorem dX8_open_64 : decode cX8_open 64 = .ok (.ireturn, 1) := by decide +kernel
theorem dX8_open_7 : decode cX8_open 7 = .ok (.aload_n 0, 1) := by decide +kernel
theorem dX8_open_8 : decode cX8_open 8 = .ok (.iload 4, 2) := by decide +kernel
theorem dX8_plain_0 : decode cX8_plain 0 = .ok (.aload_n 0, 1) := by decide +kernel
theorem dX8_plain_1 : decode cX8_plain 1 = .ok (.iload_n 1, 1) := by decide +kernel
theorem dX8_plain_11 : decode cX8_plain 11 = .ok (.lconst 0, 1) := by decide +kernel
theorem dX8_plain_12 : decode cX8_plain 12 = .ok (.goto 7, 3) := by decide +kernel
theorem dX8_plain_19 : decode cX8_plain 19 = .ok (.lreturn, 1) := by decide +kernel
theorem dX8_plain_2 : decode cX8_plain 2 = .ok (.iload_n 2, 1) := by decide +kernel
theorem dX8_plain_3 : decode cX8_plain 3 = .ok (.invokevirtual 100, 3) := by decide +kernel
theorem dX8_plain_6 : decode cX8_plain 6 = .ok (.astore_n 3, 1) := by decide +kernel
theorem dX8_plain_7 : decode cX8_plain 7 = .ok (.aload_n 3, 1) := by decide +kernel
theorem dX8_plain_8 : decode cX8_plain 8 = .ok (.ifnonnull 7, 3) := by decide +kernel
theorem dX8_read_0 : decode cX8_read 0 = .ok (.aload_n 0, 1) := by decide +kernel
theorem dX8_read_1 : decode cX8_read 1 = .ok (.iload_n 1, 1) := by decide +kernel
theorem dX8_read_10 : decode cX8_read 10 = .ok (.iload_n 2, 1) := by decide +kernel
theorem dX8_read_11 : decode cX8_read 11 = .ok (.invokestatic 136, 3) := by decide +kernel
theorem dX8_read_14 : decode cX8_read 14 = .ok (.astore 4, 2) := by decide +kernel
theorem dX8_read_16 : decode cX8_read 16 = .ok (.aload_n 0, 1) := by decide +kernel
theorem dX8_read_17 : decode cX8_read 17 = .ok (.iconst 0, 1) := by decide +kernel
theorem dX8_read_18 : decode cX8_read 18 = .ok (.putfield 66, 3) := by decide +kernel
theorem dX8_read_2 : decode cX8_read 2 = .ok (.invokevirtual 128, 3) := by decide +kernel
theorem dX8_read_21 : decode cX8_read 21 = .ok (.aload_n 0, 1) := by decide +kernel
theorem dX8_read_22 : decode cX8_read 22 = .ok (.iconst (-1), 1) := by decide +kernel
theorem dX8_read_23 : decode cX8_read 23 = .ok (.putfield 70, 3) := by decide +kernel
theorem dX8_read_26 : decode cX8_read 26 = .ok (.aload_n 3, 1) := by decide +kernel
theorem dX8_read_27 : decode cX8_read 27 = .ok (.ifnull 8, 3) := by decide +kernel
theorem dX8_read_30 : decode cX8_read 30 = .ok (.aload 4, 2) := by decide +kernel
theorem dX8_read_32 : decode cX8_read 32 = .ok (.ifnonnull 6, 3) := by decide +kernel
theorem dX8_read_35 : decode cX8_read 35 = .ok (.bipush (-2), 2) := by decide +kernel
theorem dX8_read_37 : decode cX8_read 37 = .ok (.ireturn, 1) := by decide +kernel
theorem dX8_read_5 : decode cX8_read 5 = .ok (.astore_n 3, 1) := by decide +kernel
theorem dX8_read_6 : decode cX8_read 6 = .ok (.aload_n 0, 1) := by decide +kernel
theorem dX8_read_7 : decode cX8_read 7 = .ok (.getfield 24, 3) := by decide +kernel
theorem dX8_readers_0 : decode cX8_readers 0 = .ok (.aload_n 0, 1) := by decide +kernel
theorem dX8_readers_1 : decode cX8_readers 1 = .ok (.getfield 24, 3) := by decide +kernel
theorem dX8_readers_11 : decode cX8_readers 11 = .ok (.iconst (-1), 1) := by decide +kernel
theorem dX8_readers_12 : decode cX8_readers 12 = .ok (.ireturn, 1) := by decide +kernel
theorem dX8_readers_4 : decode cX8_readers 4 = .ok (.iload_n 1, 1) := by decide +kernel
theorem dX8_readers_5 : decode cX8_readers 5 = .ok (.invokestatic 136, 3) := by decide +kernel
theorem dX8_readers_8 : decode cX8_readers 8 = .ok (.ifnonnull 5, 3) := by decide +kernel
theorem dX8_recordOf_0 : decode cX8_recordOf 0 = .ok (.iload_n 1, 1) := by decide +kernel
theorem dX8_recordOf_1 : decode cX8_recordOf 1 = .ok (.ifCond .lt 17, 3) := by decide +kernel
theorem dX8_recordOf_10 : decode cX8_recordOf 10 = .ok (.getfield 18, 3) := by decide +kernel
theorem dX8_recordOf_13 : decode cX8_recordOf 13 = .ok (.iload_n 1, 1) := by decide +kernel
theorem dX8_recordOf_14 : decode cX8_recordOf 14 = .ok (.aaload, 1) := by decide +kernel
theorem dX8_recordOf_15 : decode cX8_recordOf 15 = .ok (.goto 4, 3) := by decide +kernel
theorem dX8_recordOf_18 : decode cX8_recordOf 18 = .ok (.aconst_null, 1) := by decide +kernel
theorem dX8_recordOf_19 : decode cX8_recordOf 19 = .ok (.areturn, 1) := by decide +kernel
theorem dX8_recordOf_4 : decode cX8_recordOf 4 = .ok (.iload_n 1, 1) := by decide +kernel
theorem dX8_recordOf_5 : decode cX8_recordOf 5 = .ok (.iconst 4, 1) := by decide +kernel
theorem dX8_recordOf_6 : decode cX8_recordOf 6 = .ok (.if_icmp .ge 12, 3) := by decide +kernel
theorem dX8_recordOf_9 : decode cX8_recordOf 9 = .ok (.aload_n 0, 1) := by decide +kernel
theorem dX8_say_0 : decode cX8_say 0 = .ok (.aload_n 0, 1) := by decide +kernel
theorem dX8_say_1 : decode cX8_say 1 = .ok (.iload_n 1, 1) := by decide +kernel
theorem dX8_say_11 : decode cX8_say 11 = .ok (.iload_n 2, 1) := by decide +kernel
theorem dX8_say_12 : decode cX8_say 12 = .ok (.invokestatic 136, 3) := by decide +kernel
theorem dX8_say_15 : decode cX8_say 15 = .ok (.astore 5, 2) := by decide +kernel
theorem dX8_say_169 : decode cX8_say 169 = .ok (.aload_n 0, 1) := by decide +kernel
theorem dX8_say_17 : decode cX8_say 17 = .ok (.aload_n 0, 1) := by decide +kernel
theorem dX8_say_170 : decode cX8_say 170 = .ok (.getfield 14, 3) := by decide +kernel
theorem dX8_say_173 : decode cX8_say 173 = .ok (.iconst 0, 1) := by decide +kernel
theorem dX8_say_174 : decode cX8_say 174 = .ok (.invokevirtual 83, 3) := by decide +kernel
theorem dX8_say_177 : decode cX8_say 177 = .ok (.pop, 1) := by decide +kernel
theorem dX8_say_178 : decode cX8_say 178 = .ok (.iload 7, 2) := by decide +kernel
theorem dX8_say_18 : decode cX8_say 18 = .ok (.iload_n 2, 1) := by decide +kernel
theorem dX8_say_180 : decode cX8_say 180 = .ok (.ireturn, 1) := by decide +kernel
theorem dX8_say_19 : decode cX8_say 19 = .ok (.iload_n 3, 1) := by decide +kernel
theorem dX8_say_2 : decode cX8_say 2 = .ok (.invokevirtual 128, 3) := by decide +kernel
theorem dX8_say_20 : decode cX8_say 20 = .ok (.invokevirtual 100, 3) := by decide +kernel
theorem dX8_say_23 : decode cX8_say 23 = .ok (.astore 6, 2) := by decide +kernel
theorem dX8_say_25 : decode cX8_say 25 = .ok (.aload 4, 2) := by decide +kernel
theorem dX8_say_27 : decode cX8_say 27 = .ok (.ifnull 22, 3) := by decide +kernel
theorem dX8_say_30 : decode cX8_say 30 = .ok (.aload 5, 2) := by decide +kernel
theorem dX8_say_32 : decode cX8_say 32 = .ok (.ifnull 17, 3) := by decide +kernel
theorem dX8_say_49 : decode cX8_say 49 = .ok (.iconst (-1), 1) := by decide +kernel
theorem dX8_say_5 : decode cX8_say 5 = .ok (.astore 4, 2) := by decide +kernel
theorem dX8_say_50 : decode cX8_say 50 = .ok (.istore 7, 2) := by decide +kernel
theorem dX8_say_52 : decode cX8_say 52 = .ok (.goto 117, 3) := by decide +kernel
theorem dX8_say_7 : decode cX8_say 7 = .ok (.aload_n 0, 1) := by decide +kernel
theorem dX8_say_8 : decode cX8_say 8 = .ok (.getfield 24, 3) := by decide +kernel
theorem dX8_set_0 : decode cX8_set 0 = .ok (.aload_n 0, 1) := by decide +kernel
theorem dX8_set_1 : decode cX8_set 1 = .ok (.iload_n 1, 1) := by decide +kernel
theorem dX8_set_11 : decode cX8_set 11 = .ok (.iload_n 2, 1) := by decide +kernel
theorem dX8_set_12 : decode cX8_set 12 = .ok (.invokestatic 136, 3) := by decide +kernel
theorem dX8_set_15 : decode cX8_set 15 = .ok (.astore 7, 2) := by decide +kernel
theorem dX8_set_17 : decode cX8_set 17 = .ok (.aload_n 0, 1) := by decide +kernel
theorem dX8_set_18 : decode cX8_set 18 = .ok (.iload_n 2, 1) := by decide +kernel
theorem dX8_set_19 : decode cX8_set 19 = .ok (.iload_n 3, 1) := by decide +kernel
theorem dX8_set_2 : decode cX8_set 2 = .ok (.invokevirtual 128, 3) := by decide +kernel
theorem dX8_set_20 : decode cX8_set 20 = .ok (.invokevirtual 100, 3) := by decide +kernel
theorem dX8_set_23 : decode cX8_set 23 = .ok (.astore 8, 2) := by decide +kernel
theorem dX8_set_25 : decode cX8_set 25 = .ok (.aload 6, 2) := by decide +kernel
theorem dX8_set_27 : decode cX8_set 27 = .ok (.ifnull 21, 3) := by decide +kernel
theorem dX8_set_30 : decode cX8_set 30 = .ok (.aload 7, 2) := by decide +kernel
theorem dX8_set_32 : decode cX8_set 32 = .ok (.ifnull 16, 3) := by decide +kernel
theorem dX8_set_48 : decode cX8_set 48 = .ok (.iconst (-1), 1) := by decide +kernel
theorem dX8_set_49 : decode cX8_set 49 = .ok (.ireturn, 1) := by decide +kernel
theorem dX8_set_5 : decode cX8_set 5 = .ok (.astore 6, 2) := by decide +kernel
theorem dX8_set_7 : decode cX8_set 7 = .ok (.aload_n 0, 1) := by decide +kernel
theorem dX8_set_8 : decode cX8_set 8 = .ok (.getfield 24, 3) := by decide +kernel
theorem dX8_step_0 : decode cX8_step 0 = .ok (.aload_n 0, 1) := by decide +kernel
theorem dX8_step_1 : decode cX8_step 1 = .ok (.iload_n 1, 1) := by decide +kernel
theorem dX8_step_2 : decode cX8_step 2 = .ok (.iload_n 2, 1) := by decide +kernel
theorem dX8_step_3 : decode cX8_step 3 = .ok (.iload_n 2, 1) := by decide +kernel
theorem dX8_step_4 : decode cX8_step 4 = .ok (.invokevirtual 205, 3) := by decide +kernel
theorem dX8_step_7 : decode cX8_step 7 = .ok (.ireturn, 1) := by decide +kernel
theorem dX8_walk_0 : decode cX8_walk 0 = .ok (.aload_n 0, 1) := by decide +kernel
theorem dX8_walk_1 : decode cX8_walk 1 = .ok (.iload_n 1, 1) := by decide +kernel
theorem dX8_walk_2 : decode cX8_walk 2 = .ok (.iload_n 2, 1) := by decide +kernel
theorem dX8_walk_3 : decode cX8_walk 3 = .ok (.iload_n 3, 1) := by decide +kernel
theorem dX8_walk_4 : decode cX8_walk 4 = .ok (.invokevirtual 205, 3) := by decide +kernel
theorem dX8_walk_7 : decode cX8_walk 7 = .ok (.ireturn, 1) := by decide +kernel
theorem dX8_write_0 : decode cX8_write 0 = .ok (.aload_n 0, 1) := by decide +kernel
theorem dX8_write_1 : decode cX8_write 1 = .ok (.iload_n 1, 1) := by decide +kernel
theorem dX8_write_12 : decode cX8_write 12 = .ok (.astore 5, 2) := by decide +kernel
theorem dX8_write_14 : decode cX8_write 14 = .ok (.aload_n 0, 1) := by decide +kernel
theorem dX8_write_15 : decode cX8_write 15 = .ok (.getfield 24, 3) := by decide +kernel
theorem dX8_write_18 : decode cX8_write 18 = .ok (.iload_n 2, 1) := by decide +kernel
theorem dX8_write_19 : decode cX8_write 19 = .ok (.invokestatic 136, 3) := by decide +kernel
theorem dX8_write_2 : decode cX8_write 2 = .ok (.invokevirtual 128, 3) := by decide +kernel
theorem dX8_write_22 : decode cX8_write 22 = .ok (.astore 6, 2) := by decide +kernel
theorem dX8_write_24 : decode cX8_write 24 = .ok (.aload 4, 2) := by decide +kernel
theorem dX8_write_26 : decode cX8_write 26 = .ok (.ifnull 13, 3) := by decide +kernel
theorem dX8_write_29 : decode cX8_write 29 = .ok (.aload 5, 2) := by decide +kernel
theorem dX8_write_31 : decode cX8_write 31 = .ok (.ifnull 8, 3) := by decide +kernel
theorem dX8_write_34 : decode cX8_write 34 = .ok (.aload 6, 2) := by decide +kernel
theorem dX8_write_36 : decode cX8_write 36 = .ok (.ifnonnull 5, 3) := by decide +kernel
theorem dX8_write_39 : decode cX8_write 39 = .ok (.iconst (-1), 1) := by decide +kernel
theorem dX8_write_40 : decode cX8_write 40 = .ok (.ireturn, 1) := by decide +kernel
theorem dX8_write_5 : decode cX8_write 5 = .ok (.astore 4, 2) := by decide +kernel
theorem dX8_write_7 : decode cX8_write 7 = .ok (.aload_n 0, 1) := by decide +kernel
theorem dX8_write_8 : decode cX8_write 8 = .ok (.iload_n 3, 1) := by decide +kernel
theorem dX8_write_9 : decode cX8_write 9 = .ok (.invokevirtual 128, 3) := by decide +kernel
def wp_X8_makeOf : List Cond := .code yX8_makeOf cX8_makeOf 2 (some (.object "RecordBench$Make")) :: ([])
set_option maxHeartbeats 4000000 in
set_option maxRecDepth 100000 in
theorem c_X8_makeOf (l : Launch) (dC : Nat → ClassId) (dI : Nat → Nat → Nat) (m0 : Nat) (p0 : Int32) (cM : ClassId) (sz : Nat) : Met l yX8_makeOf wp_X8_makeOf ({ frames := 0, cells := 0, slots := 0, locals := 0 }) (va_Pc [.ref m0, .int p0] (Pr (dC, dI) [(cM, .object RX1)] [(m0, .inl (cM, 8, .inr (.inr (.inr (.inr (fun _ => none))))))] sz)) (va_Qq (fun r : Option Nat => (fun _ : Unit => r = none)) (Bq (dC, dI) (fun _ : Unit => [(m0, .inl (cM, 8, .inr (.inr (.inr (.inr (fun _ => none))))))]) (fun _ : Unit => []) (va_A [(m0, .inl (cM, 8, .inr (.inr (.inr (.inr (fun _ => none))))))] sz)) (va_A [(m0, .inl (cM, 8, .inr (.inr (.inr (.inr (fun _ => none))))))] sz)) 0 0 (va_A [(m0, .inl (cM, 8, .inr (.inr (.inr (.inr (fun _ => none))))))] sz) := by
  refine Met.ofW (cc := cX8_makeOf) (maxL := 2) (ret := (some (.object "RecordBench$Make"))) (by decide) rfl ?_
  intro p e s m args below meth c s₁ B hml hv
  obtain ⟨rfl, hsz, hP, hK, hD0, hN, hZ⟩ := hv
  have hx := B.exec
  have hb := B.bytes
  have hr := B.returns
  have hts := atoms_spec (ws := wp_X8_makeOf) B.pre
  have hown : s.vm.findClass RX8 = some m.cls := findClass_of_methodNamed B.named
  have hlocks := B.notSynchronized
  subst hsz
  have hD := hD0.self (sz := s.heap.size)
  generalize hAe : va_A [(m0, .inl (cM, 8, .inr (.inr (.inr (.inr (fun _ => none))))))] s.heap.size = A at hD hZ ⊢
  have hA : ∀ q : Nat, s.heap.size ≤ q → A q := fun q h => by rw [← hAe]; exact Or.inr h
  have hS : va_S A s.heap s.heap [] := va_S.rf
  have hP : va_P (dC, dI) vwCl [(m0, .inl (cM, 8, .inr (.inr (.inr (.inr (fun _ => none))))))] s.heap := hP
  have hl := lv_entry ([.ref m0, .int p0]) (n := 2) (Nat.le_of_ble_eq_true rfl)
  rw [lg_entry_eq]
  generalize (lg_sl ([.ref m0, .int p0]) ++ List.replicate (2 - (lg_sl ([.ref m0, .int p0])).length) Slot.unset).toArray = ls at hl ⊢
  have hl : lv_has ls 2 [(0, .ref m0), (1, .int p0)] := hl
  refine lv_iload_n hx hb dX8_makeOf_0 rfl (lv_at hl 1 rfl) ?_
  refine lv_if_lt (tgt := 16) hx hb dX8_makeOf_1 (by decide) (fun c_1 => ?_) (fun c_1 => ?_)
  · refine lv_null hx hb dX8_makeOf_16 ?_
    have hP9 := hP.sub (ws' := [(m0, .inl (cM, 8, .inr (.inr (.inr (.inr (fun _ => none))))))]) [0] rfl
    have hD9 := hD.sub (ws' := [(m0, .inl (cM, 8, .inr (.inr (.inr (.inr (fun _ => none))))))]) [0] (by decide) rfl
    have hK9 := hK.sub (tys' := []) [] rfl
    exact W.aret (v := .null) hx hb hr (Or.inl ⟨_, rfl⟩) (Or.inl rfl) (fun t ht hW => ⟨⟨none, (), rfl, rfl, by rw [ht]; exact hP9, va_K.moved hW.alike hK9, hD9⟩, hS.F ht⟩) hS.2.2 dX8_makeOf_17
  · refine lv_iload_n hx hb dX8_makeOf_4 rfl (lv_at hl 1 rfl) ?_
    refine lv_aload_n hx hb dX8_makeOf_5 rfl (lv_at hl 0 rfl) ?_
    refine va_alen (v := 8) hx hb hK hP 0 0 rfl rfl rfl dX8_makeOf_6 ?_
    refine lv_icmp_ge (tgt := 16) hx hb dX8_makeOf_7 (by decide) (fun c_2 => ?_) (fun c_2 => ?_)
    · refine lv_null hx hb dX8_makeOf_16 ?_
      have hP9 := hP.sub (ws' := [(m0, .inl (cM, 8, .inr (.inr (.inr (.inr (fun _ => none))))))]) [0] rfl
      have hD9 := hD.sub (ws' := [(m0, .inl (cM, 8, .inr (.inr (.inr (.inr (fun _ => none))))))]) [0] (by decide) rfl
      have hK9 := hK.sub (tys' := []) [] rfl
      exact W.aret (v := .null) hx hb hr (Or.inl ⟨_, rfl⟩) (Or.inl rfl) (fun t ht hW => ⟨⟨none, (), rfl, rfl, by rw [ht]; exact hP9, va_K.moved hW.alike hK9, hD9⟩, hS.F ht⟩) hS.2.2 dX8_makeOf_17
    · refine lv_aload_n hx hb dX8_makeOf_10 rfl (lv_at hl 0 rfl) ?_
      refine lv_iload_n hx hb dX8_makeOf_11 rfl (lv_at hl 1 rfl) ?_
      refine va_aldq hx hb hK hP 0 0 rfl rfl (in_of 8 rfl (by decide) c_1 c_2) dX8_makeOf_12 ?_
      refine W.eq (g2 := F0 m 13 ls [.null]) rfl ?_
      refine lv_goto (tgt := 17) hx hb dX8_makeOf_13 (by decide) ?_
      have hP9 := hP.sub (ws' := [(m0, .inl (cM, 8, .inr (.inr (.inr (.inr (fun _ => none))))))]) [0] rfl
      have hD9 := hD.sub (ws' := [(m0, .inl (cM, 8, .inr (.inr (.inr (.inr (fun _ => none))))))]) [0] (by decide) rfl
      have hK9 := hK.sub (tys' := []) [] rfl
      exact W.aret (v := .null) hx hb hr (Or.inl ⟨_, rfl⟩) (Or.inl rfl) (fun t ht hW => ⟨⟨none, (), rfl, rfl, by rw [ht]; exact hP9, va_K.moved hW.alike hK9, hD9⟩, hS.F ht⟩) hS.2.2 dX8_makeOf_17
def wp_X8_recordAny : List Cond := .code yX8_recordOf cX8_recordOf 2 (some (.object "RecordBench$Row")) :: ([.fieldLink RX8 18 "RecordBench" "records" "[LRecordBench$Row;"] ++ wsX80)
set_option maxHeartbeats 4000000 in
set_option maxRecDepth 100000 in
theorem c_X8_recordAny (l : Launch) (dC : Nat → ClassId) (dI : Nat → Nat → Nat) (h0 : Nat) (t0 : Nat) (r0 : Nat) (m0 : Nat) (x0 : Nat) (v4 : Value) (v5 : Value) (v6 : Value) (v7 : Value) (v8 : Value) (cR : ClassId) (fR : Nat → Option Nat) (p0 : Int32) (sz : Nat) : Met l yX8_recordOf wp_X8_recordAny ({ frames := 0, cells := 0, slots := 0, locals := 0 }) (va_Pc [.ref h0, .int p0] (Pr (dC, dI) [(cR, .object RX5)] [(h0, .inr (10, [.ref t0, .ref r0, .ref m0, .ref x0, v4, v5, v6, v7, v8, .int 0, .int ((-1)), .int 0])), (r0, .inl (cR, 4, .inr (.inr (.inr (.inr fR)))))] sz)) (va_Qq (fun r : Option Nat => (fun _ : Unit => True)) (Bq (dC, dI) (fun _ : Unit => [(h0, .inr (10, [.ref t0, .ref r0, .ref m0, .ref x0, v4, v5, v6, v7, v8, .int 0, .int ((-1)), .int 0])), (r0, .inl (cR, 4, .inr (.inr (.inr (.inr fR)))))]) (fun _ : Unit => []) (va_A [(h0, .inr (10, [.ref t0, .ref r0, .ref m0, .ref x0, v4, v5, v6, v7, v8, .int 0, .int ((-1)), .int 0])), (r0, .inl (cR, 4, .inr (.inr (.inr (.inr fR)))))] sz)) (va_A [(h0, .inr (10, [.ref t0, .ref r0, .ref m0, .ref x0, v4, v5, v6, v7, v8, .int 0, .int ((-1)), .int 0])), (r0, .inl (cR, 4, .inr (.inr (.inr (.inr fR)))))] sz)) 0 0 (va_A [(h0, .inr (10, [.ref t0, .ref r0, .ref m0, .ref x0, v4, v5, v6, v7, v8, .int 0, .int ((-1)), .int 0])), (r0, .inl (cR, 4, .inr (.inr (.inr (.inr fR)))))] sz) := by
  refine Met.ofW (cc := cX8_recordOf) (maxL := 2) (ret := (some (.object "RecordBench$Row"))) (by decide) rfl ?_
  intro p e s m args below meth c s₁ B hml hv
  obtain ⟨rfl, hsz, hP, hK, hD0, hN, hZ⟩ := hv
  have hx := B.exec
  have hb := B.bytes
  have hr := B.returns
  have hts := atoms_spec (ws := wp_X8_recordAny) B.pre
  have hown : s.vm.findClass RX8 = some m.cls := findClass_of_methodNamed B.named
  have hlocks := B.notSynchronized
  have iRX8 : ∀ w ∈ u_ws RX8 TX8 12, w ∈ wp_X8_recordAny := by decide +kernel
  subst hsz
  have hD := hD0.self (sz := s.heap.size)
  generalize hAe : va_A [(h0, .inr (10, [.ref t0, .ref r0, .ref m0, .ref x0, v4, v5, v6, v7, v8, .int 0, .int ((-1)), .int 0])), (r0, .inl (cR, 4, .inr (.inr (.inr (.inr fR)))))] s.heap.size = A at hD hZ ⊢
  have hA : ∀ q : Nat, s.heap.size ≤ q → A q := fun q h => by rw [← hAe]; exact Or.inr h
  have hS : va_S A s.heap s.heap [] := va_S.rf
  have hP : va_P (dC, dI) vwCl [(h0, .inr (10, [.ref t0, .ref r0, .ref m0, .ref x0, v4, v5, v6, v7, v8, .int 0, .int ((-1)), .int 0])), (r0, .inl (cR, 4, .inr (.inr (.inr (.inr fR)))))] s.heap := hP
  have hl := lv_entry ([.ref h0, .int p0]) (n := 2) (Nat.le_of_ble_eq_true rfl)
  rw [lg_entry_eq]
  generalize (lg_sl ([.ref h0, .int p0]) ++ List.replicate (2 - (lg_sl ([.ref h0, .int p0])).length) Slot.unset).toArray = ls at hl ⊢
  have hl : lv_has ls 2 [(0, .ref h0), (1, .int p0)] := hl
  refine lv_iload_n hx hb dX8_recordOf_0 rfl (lv_at hl 1 rfl) ?_
  refine lv_if_lt (tgt := 18) hx hb dX8_recordOf_1 (by decide) (fun c_1 => ?_) (fun c_1 => ?_)
  · refine lv_null hx hb dX8_recordOf_18 ?_
    have hP9 := hP.sub (ws' := [(h0, .inr (10, [.ref t0, .ref r0, .ref m0, .ref x0, v4, v5, v6, v7, v8, .int 0, .int ((-1)), .int 0])), (r0, .inl (cR, 4, .inr (.inr (.inr (.inr fR)))))]) [0, 1] rfl
    have hD9 := hD.sub (ws' := [(h0, .inr (10, [.ref t0, .ref r0, .ref m0, .ref x0, v4, v5, v6, v7, v8, .int 0, .int ((-1)), .int 0])), (r0, .inl (cR, 4, .inr (.inr (.inr (.inr fR)))))]) [0, 1] (by decide) rfl
    have hK9 := hK.sub (tys' := []) [] rfl
    exact W.aret (v := .null) hx hb hr (Or.inl ⟨_, rfl⟩) (Or.inl rfl) (fun t ht hW => ⟨⟨none, (), rfl, trivial, by rw [ht]; exact hP9, va_K.moved hW.alike hK9, hD9⟩, hS.F ht⟩) hS.2.2 dX8_recordOf_19
  · refine lv_iload_n hx hb dX8_recordOf_4 rfl (lv_at hl 1 rfl) ?_
    refine lv_iconst (v := 4) hx hb dX8_recordOf_5 (by decide) ?_
    refine lv_icmp_ge (tgt := 18) hx hb dX8_recordOf_6 (by decide) (fun c_2 => ?_) (fun c_2 => ?_)
    · refine lv_null hx hb dX8_recordOf_18 ?_
      have hP9 := hP.sub (ws' := [(h0, .inr (10, [.ref t0, .ref r0, .ref m0, .ref x0, v4, v5, v6, v7, v8, .int 0, .int ((-1)), .int 0])), (r0, .inl (cR, 4, .inr (.inr (.inr (.inr fR)))))]) [0, 1] rfl
      have hD9 := hD.sub (ws' := [(h0, .inr (10, [.ref t0, .ref r0, .ref m0, .ref x0, v4, v5, v6, v7, v8, .int 0, .int ((-1)), .int 0])), (r0, .inl (cR, 4, .inr (.inr (.inr (.inr fR)))))]) [0, 1] (by decide) rfl
      have hK9 := hK.sub (tys' := []) [] rfl
      exact W.aret (v := .null) hx hb hr (Or.inl ⟨_, rfl⟩) (Or.inl rfl) (fun t ht hW => ⟨⟨none, (), rfl, trivial, by rw [ht]; exact hP9, va_K.moved hW.alike hK9, hD9⟩, hS.F ht⟩) hS.2.2 dX8_recordOf_19
    · refine lv_aload_n hx hb dX8_recordOf_9 rfl (lv_at hl 0 rfl) ?_
      refine va_get (D := (dC, dI)) (ci := 10) (v := .ref r0) (C := RX8) (T := TX8) (N := 12) hx hb hts iRX8 hown hK hP 0 rfl rfl 1 (by decide) (hts (.fieldLink RX8 18 "RecordBench" "records" "[LRecordBench$Row;") (by decide +kernel)) (fun _ h9 => h9) rfl dX8_recordOf_10 ?_
      refine lv_iload_n hx hb dX8_recordOf_13 rfl (lv_at hl 1 rfl) ?_
      refine va_aldq hx hb hK hP 1 0 rfl rfl (in_of 4 rfl (by decide) c_1 c_2) dX8_recordOf_14 ?_
      refine W.eq (g2 := F0 m 15 ls [va_rf (fR p0.toNatClampNeg)]) rfl ?_
      refine lv_goto (tgt := 19) hx hb dX8_recordOf_15 (by decide) ?_
      have hP9 := hP.sub (ws' := [(h0, .inr (10, [.ref t0, .ref r0, .ref m0, .ref x0, v4, v5, v6, v7, v8, .int 0, .int ((-1)), .int 0])), (r0, .inl (cR, 4, .inr (.inr (.inr (.inr fR)))))]) [0, 1] rfl
      have hD9 := hD.sub (ws' := [(h0, .inr (10, [.ref t0, .ref r0, .ref m0, .ref x0, v4, v5, v6, v7, v8, .int 0, .int ((-1)), .int 0])), (r0, .inl (cR, 4, .inr (.inr (.inr (.inr fR)))))]) [0, 1] (by decide) rfl
      have hK9 := hK.sub (tys' := []) [] rfl
      exact W.aret (v := va_rf (fR p0.toNatClampNeg)) hx hb hr (Or.inl ⟨_, rfl⟩) (rf_or _) (fun t ht hW => ⟨⟨(fR p0.toNatClampNeg), (), rfl, trivial, by rw [ht]; exact hP9, va_K.moved hW.alike hK9, hD9⟩, hS.F ht⟩) hS.2.2 dX8_recordOf_19
def wp_X8_recordOf : List Cond := .code yX8_recordOf cX8_recordOf 2 (some (.object "RecordBench$Row")) :: ([.fieldLink RX8 18 "RecordBench" "records" "[LRecordBench$Row;"] ++ wsX80)
set_option maxHeartbeats 4000000 in
set_option maxRecDepth 100000 in
theorem c_X8_recordOf (l : Launch) (dC : Nat → ClassId) (dI : Nat → Nat → Nat) (h0 : Nat) (t0 : Nat) (r0 : Nat) (m0 : Nat) (x0 : Nat) (v4 : Value) (v5 : Value) (v6 : Value) (v7 : Value) (v8 : Value) (cR : ClassId) (fR : Nat → Option Nat) (q0 : Nat) (q1 : Nat) (q2 : Nat) (q3 : Nat) (hq0 : fR 0 = some q0) (hq1 : fR 1 = some q1) (hq2 : fR 2 = some q2) (hq3 : fR 3 = some q3) (p0 : Int32) (sz : Nat) : Met l yX8_recordOf wp_X8_recordOf ({ frames := 0, cells := 0, slots := 0, locals := 0 }) (va_Pc [.ref h0, .int p0] (Pr (dC, dI) [(cR, .object RX5)] [(h0, .inr (10, [.ref t0, .ref r0, .ref m0, .ref x0, v4, v5, v6, v7, v8, .int 0, .int ((-1)), .int 0])), (r0, .inl (cR, 4, .inr (.inr (.inr (.inr fR)))))] sz)) (va_Qq (fun r : Option Nat => (fun _ : Unit => ((p0 < 0 ∨ 4 ≤ p0) ∧ r = none) ∨ (¬ (p0 < 0 ∨ 4 ≤ p0) ∧ (r = some q0 ∨ r = some q1 ∨ r = some q2 ∨ r = some q3)))) (Bq (dC, dI) (fun _ : Unit => [(h0, .inr (10, [.ref t0, .ref r0, .ref m0, .ref x0, v4, v5, v6, v7, v8, .int 0, .int ((-1)), .int 0])), (r0, .inl (cR, 4, .inr (.inr (.inr (.inr fR)))))]) (fun _ : Unit => []) (va_A [(h0, .inr (10, [.ref t0, .ref r0, .ref m0, .ref x0, v4, v5, v6, v7, v8, .int 0, .int ((-1)), .int 0])), (r0, .inl (cR, 4, .inr (.inr (.inr (.inr fR)))))] sz)) (va_A [(h0, .inr (10, [.ref t0, .ref r0, .ref m0, .ref x0, v4, v5, v6, v7, v8, .int 0, .int ((-1)), .int 0])), (r0, .inl (cR, 4, .inr (.inr (.inr (.inr fR)))))] sz)) 0 0 (va_A [(h0, .inr (10, [.ref t0, .ref r0, .ref m0, .ref x0, v4, v5, v6, v7, v8, .int 0, .int ((-1)), .int 0])), (r0, .inl (cR, 4, .inr (.inr (.inr (.inr fR)))))] sz) := by
  refine Met.ofW (cc := cX8_recordOf) (maxL := 2) (ret := (some (.object "RecordBench$Row"))) (by decide) rfl ?_
  intro p e s m args below meth c s₁ B hml hv
  obtain ⟨rfl, hsz, hP, hK, hD0, hN, hZ⟩ := hv
  have hx := B.exec
  have hb := B.bytes
  have hr := B.returns
  have hts := atoms_spec (ws := wp_X8_recordOf) B.pre
  have hown : s.vm.findClass RX8 = some m.cls := findClass_of_methodNamed B.named
  have hlocks := B.notSynchronized
  have iRX8 : ∀ w ∈ u_ws RX8 TX8 12, w ∈ wp_X8_recordOf := by decide +kernel
  subst hsz
  have hD := hD0.self (sz := s.heap.size)
  generalize hAe : va_A [(h0, .inr (10, [.ref t0, .ref r0, .ref m0, .ref x0, v4, v5, v6, v7, v8, .int 0, .int ((-1)), .int 0])), (r0, .inl (cR, 4, .inr (.inr (.inr (.inr fR)))))] s.heap.size = A at hD hZ ⊢
  have hA : ∀ q : Nat, s.heap.size ≤ q → A q := fun q h => by rw [← hAe]; exact Or.inr h
  have hS : va_S A s.heap s.heap [] := va_S.rf
  have hP : va_P (dC, dI) vwCl [(h0, .inr (10, [.ref t0, .ref r0, .ref m0, .ref x0, v4, v5, v6, v7, v8, .int 0, .int ((-1)), .int 0])), (r0, .inl (cR, 4, .inr (.inr (.inr (.inr fR)))))] s.heap := hP
  have hl := lv_entry ([.ref h0, .int p0]) (n := 2) (Nat.le_of_ble_eq_true rfl)
  rw [lg_entry_eq]
  generalize (lg_sl ([.ref h0, .int p0]) ++ List.replicate (2 - (lg_sl ([.ref h0, .int p0])).length) Slot.unset).toArray = ls at hl ⊢
  have hl : lv_has ls 2 [(0, .ref h0), (1, .int p0)] := hl
  refine lv_iload_n hx hb dX8_recordOf_0 rfl (lv_at hl 1 rfl) ?_
  refine lv_if_lt (tgt := 18) hx hb dX8_recordOf_1 (by decide) (fun c_1 => ?_) (fun c_1 => ?_)
  · refine lv_null hx hb dX8_recordOf_18 ?_
    have hP9 := hP.sub (ws' := [(h0, .inr (10, [.ref t0, .ref r0, .ref m0, .ref x0, v4, v5, v6, v7, v8, .int 0, .int ((-1)), .int 0])), (r0, .inl (cR, 4, .inr (.inr (.inr (.inr fR)))))]) [0, 1] rfl
    have hD9 := hD.sub (ws' := [(h0, .inr (10, [.ref t0, .ref r0, .ref m0, .ref x0, v4, v5, v6, v7, v8, .int 0, .int ((-1)), .int 0])), (r0, .inl (cR, 4, .inr (.inr (.inr (.inr fR)))))]) [0, 1] (by decide) rfl
    have hK9 := hK.sub (tys' := []) [] rfl
    exact W.aret (v := .null) hx hb hr (Or.inl ⟨_, rfl⟩) (Or.inl rfl) (fun t ht hW => ⟨⟨none, (), rfl, Or.inl ⟨Or.inl c_1, rfl⟩, by rw [ht]; exact hP9, va_K.moved hW.alike hK9, hD9⟩, hS.F ht⟩) hS.2.2 dX8_recordOf_19
  · refine lv_iload_n hx hb dX8_recordOf_4 rfl (lv_at hl 1 rfl) ?_
    refine lv_iconst (v := 4) hx hb dX8_recordOf_5 (by decide) ?_
    refine lv_icmp_ge (tgt := 18) hx hb dX8_recordOf_6 (by decide) (fun c_2 => ?_) (fun c_2 => ?_)
    · refine lv_null hx hb dX8_recordOf_18 ?_
      have hP9 := hP.sub (ws' := [(h0, .inr (10, [.ref t0, .ref r0, .ref m0, .ref x0, v4, v5, v6, v7, v8, .int 0, .int ((-1)), .int 0])), (r0, .inl (cR, 4, .inr (.inr (.inr (.inr fR)))))]) [0, 1] rfl
      have hD9 := hD.sub (ws' := [(h0, .inr (10, [.ref t0, .ref r0, .ref m0, .ref x0, v4, v5, v6, v7, v8, .int 0, .int ((-1)), .int 0])), (r0, .inl (cR, 4, .inr (.inr (.inr (.inr fR)))))]) [0, 1] (by decide) rfl
      have hK9 := hK.sub (tys' := []) [] rfl
      exact W.aret (v := .null) hx hb hr (Or.inl ⟨_, rfl⟩) (Or.inl rfl) (fun t ht hW => ⟨⟨none, (), rfl, Or.inl ⟨Or.inr c_2, rfl⟩, by rw [ht]; exact hP9, va_K.moved hW.alike hK9, hD9⟩, hS.F ht⟩) hS.2.2 dX8_recordOf_19
    · refine lv_aload_n hx hb dX8_recordOf_9 rfl (lv_at hl 0 rfl) ?_
      refine va_get (D := (dC, dI)) (ci := 10) (v := .ref r0) (C := RX8) (T := TX8) (N := 12) hx hb hts iRX8 hown hK hP 0 rfl rfl 1 (by decide) (hts (.fieldLink RX8 18 "RecordBench" "records" "[LRecordBench$Row;") (by decide +kernel)) (fun _ h9 => h9) rfl dX8_recordOf_10 ?_
      refine lv_iload_n hx hb dX8_recordOf_13 rfl (lv_at hl 1 rfl) ?_
      refine va_aldq hx hb hK hP 1 0 rfl rfl (in_of 4 rfl (by decide) c_1 c_2) dX8_recordOf_14 ?_
      refine W.eq (g2 := F0 m 15 ls [va_rf (fR p0.toNatClampNeg)]) rfl ?_
      refine lv_goto (tgt := 19) hx hb dX8_recordOf_15 (by decide) ?_
      have hP9 := hP.sub (ws' := [(h0, .inr (10, [.ref t0, .ref r0, .ref m0, .ref x0, v4, v5, v6, v7, v8, .int 0, .int ((-1)), .int 0])), (r0, .inl (cR, 4, .inr (.inr (.inr (.inr fR)))))]) [0, 1] rfl
      have hD9 := hD.sub (ws' := [(h0, .inr (10, [.ref t0, .ref r0, .ref m0, .ref x0, v4, v5, v6, v7, v8, .int 0, .int ((-1)), .int 0])), (r0, .inl (cR, 4, .inr (.inr (.inr (.inr fR)))))]) [0, 1] (by decide) rfl
      have hK9 := hK.sub (tys' := []) [] rfl
      exact W.aret (v := va_rf (fR p0.toNatClampNeg)) hx hb hr (Or.inl ⟨_, rfl⟩) (rf_or _) (fun t ht hW => ⟨⟨(fR p0.toNatClampNeg), (), rfl, Or.inr ⟨fun h => h.elim c_1 c_2, rec4 (in_of 4 rfl (by decide) c_1 c_2) hq0 hq1 hq2 hq3⟩, by rw [ht]; exact hP9, va_K.moved hW.alike hK9, hD9⟩, hS.F ht⟩) hS.2.2 dX8_recordOf_19
def wp_X8_fieldOf : List Cond := .code yX8_fieldOf cX8_fieldOf 4 (some (.object "RecordBench$Field")) :: ([.fieldLink RX8 24 "RecordBench" "makes" "[LRecordBench$Make;", .methodLink RX8 136 yX8_makeOf, .static yX8_makeOf, .initialized RX8, .code yX8_makeOf cX8_makeOf 2 (some (.object "RecordBench$Make"))] ++ wsX80)
set_option maxRecDepth 20000 in
theorem gp_X8_fieldOf_X8_makeOf_136 : GoodIn wp_X8_fieldOf (wsS RX8 136 yX8_makeOf wp_X8_makeOf) := goodIn_p _ [5] rfl (by decide +kernel)
set_option maxHeartbeats 4000000 in
set_option maxRecDepth 100000 in
theorem c_X8_fieldOf (l : Launch) (dC : Nat → ClassId) (dI : Nat → Nat → Nat) (h0 : Nat) (t0 : Nat) (r0 : Nat) (m0 : Nat) (x0 : Nat) (v4 : Value) (v5 : Value) (v6 : Value) (v7 : Value) (v8 : Value) (cM : ClassId) (p0 : Int32) (p1 : Int32) (sz : Nat) : Met l yX8_fieldOf wp_X8_fieldOf ({ frames := 1, cells := 0, slots := 0, locals := 25 }) (va_Pc [.ref h0, .int p0, .int p1] (Pr (dC, dI) [(cM, .object RX1)] [(h0, .inr (10, [.ref t0, .ref r0, .ref m0, .ref x0, v4, v5, v6, v7, v8, .int 0, .int ((-1)), .int 0])), (m0, .inl (cM, 8, .inr (.inr (.inr (.inr (fun _ => none))))))] sz)) (va_Qq (fun r : Option Nat => (fun _ : Unit => r = none)) (Bq (dC, dI) (fun _ : Unit => [(h0, .inr (10, [.ref t0, .ref r0, .ref m0, .ref x0, v4, v5, v6, v7, v8, .int 0, .int ((-1)), .int 0])), (m0, .inl (cM, 8, .inr (.inr (.inr (.inr (fun _ => none))))))]) (fun _ : Unit => []) (va_A [(h0, .inr (10, [.ref t0, .ref r0, .ref m0, .ref x0, v4, v5, v6, v7, v8, .int 0, .int ((-1)), .int 0])), (m0, .inl (cM, 8, .inr (.inr (.inr (.inr (fun _ => none))))))] sz)) (va_A [(h0, .inr (10, [.ref t0, .ref r0, .ref m0, .ref x0, v4, v5, v6, v7, v8, .int 0, .int ((-1)), .int 0])), (m0, .inl (cM, 8, .inr (.inr (.inr (.inr (fun _ => none))))))] sz)) 0 0 (va_A [(h0, .inr (10, [.ref t0, .ref r0, .ref m0, .ref x0, v4, v5, v6, v7, v8, .int 0, .int ((-1)), .int 0])), (m0, .inl (cM, 8, .inr (.inr (.inr (.inr (fun _ => none))))))] sz) := by
  refine Met.ofW (cc := cX8_fieldOf) (maxL := 4) (ret := (some (.object "RecordBench$Field"))) (by decide) rfl ?_
  intro p e s m args below meth c s₁ B hml hv
  obtain ⟨rfl, hsz, hP, hK, hD0, hN, hZ⟩ := hv
  have hx := B.exec
  have hb := B.bytes
  have hr := B.returns
  have hts := atoms_spec (ws := wp_X8_fieldOf) B.pre
  have hown : s.vm.findClass RX8 = some m.cls := findClass_of_methodNamed B.named
  have hlocks := B.notSynchronized
  have iRX8 : ∀ w ∈ u_ws RX8 TX8 12, w ∈ wp_X8_fieldOf := by decide +kernel
  subst hsz
  have hD := hD0.self (sz := s.heap.size)
  generalize hAe : va_A [(h0, .inr (10, [.ref t0, .ref r0, .ref m0, .ref x0, v4, v5, v6, v7, v8, .int 0, .int ((-1)), .int 0])), (m0, .inl (cM, 8, .inr (.inr (.inr (.inr (fun _ => none))))))] s.heap.size = A at hD hZ ⊢
  have hA : ∀ q : Nat, s.heap.size ≤ q → A q := fun q h => by rw [← hAe]; exact Or.inr h
  have hS : va_S A s.heap s.heap [] := va_S.rf
  have hP : va_P (dC, dI) vwCl [(h0, .inr (10, [.ref t0, .ref r0, .ref m0, .ref x0, v4, v5, v6, v7, v8, .int 0, .int ((-1)), .int 0])), (m0, .inl (cM, 8, .inr (.inr (.inr (.inr (fun _ => none))))))] s.heap := hP
  have hl := lv_entry ([.ref h0, .int p0, .int p1]) (n := 4) (Nat.le_of_ble_eq_true rfl)
  rw [lg_entry_eq]
  generalize (lg_sl ([.ref h0, .int p0, .int p1]) ++ List.replicate (4 - (lg_sl ([.ref h0, .int p0, .int p1])).length) Slot.unset).toArray = ls at hl ⊢
  have hl : lv_has ls 4 [(0, .ref h0), (1, .int p0), (2, .int p1)] := hl
  refine lv_aload_n hx hb dX8_fieldOf_0 rfl (lv_at hl 0 rfl) ?_
  refine va_get (D := (dC, dI)) (ci := 10) (v := .ref m0) (C := RX8) (T := TX8) (N := 12) hx hb hts iRX8 hown hK hP 0 rfl rfl 2 (by decide) (hts (.fieldLink RX8 24 "RecordBench" "makes" "[LRecordBench$Make;") (by decide +kernel)) (fun _ h9 => h9) rfl dX8_fieldOf_1 ?_
  refine lv_iload_n hx hb dX8_fieldOf_4 rfl (lv_at hl 1 rfl) ?_
  have hFc := va_free (wc := [(m0, .inl (cM, 8, .inr (.inr (.inr (.inr (fun _ => none))))))]) hD hS hA [1] rfl
  refine va_callq (va_runS (As := [.ref m0, .int p0]) (rest := []) ⟨hx, hb, hml, hown, hts⟩ (c_X8_makeOf l dC dI m0 p0 cM s.heap.size) (cwS 2 hts gp_X8_fieldOf_X8_makeOf_136 rfl rfl rfl (by decide +kernel) ⟨Nat.le_of_ble_eq_true rfl, Nat.le_of_ble_eq_true rfl⟩) ⟨Pr.blind _, fun U hU hW => ⟨rfl, Pr.at (hP.sub (ws' := [(m0, .inl (cM, 8, .inr (.inr (.inr (.inr (fun _ => none))))))]) [1] rfl) (hK.sub (tys' := [(cM, .object RX1)]) [0] rfl) (hD.sub (ws' := [(m0, .inl (cM, 8, .inr (.inr (.inr (.inr (fun _ => none))))))]) [1] (by decide) rfl) hN hZ hS hFc hU hW⟩⟩ rfl rfl hl.1 rfl (lv_room (Nat.le_of_ble_eq_true rfl)) dX8_fieldOf_5 ⟨Nat.le_of_ble_eq_true rfl, Nat.le_of_ble_eq_true rfl⟩) hS (fun q _ h => hFc q h) hFc (fun r_1 u t H1 locs ht hvm hw_2 hB hz1 hk1 hS => ?_)
  obtain ⟨hP, hD, hK⟩ := Bq.join (wr := [(h0, .inr (10, [.ref t0, .ref r0, .ref m0, .ref x0, v4, v5, v6, v7, v8, .int 0, .int ((-1)), .int 0]))]) hB ht hvm hP hD [1] [0] rfl rfl (by decide) (by decide) hk1 hFc hK
  generalize H1 = H at hP hS ⊢
  have hP : va_P (dC, dI) vwCl [(h0, .inr (10, [.ref t0, .ref r0, .ref m0, .ref x0, v4, v5, v6, v7, v8, .int 0, .int ((-1)), .int 0])), (m0, .inl (cM, 8, .inr (.inr (.inr (.inr (fun _ => none))))))] H := hP
  have hD : va_D A [(h0, .inr (10, [.ref t0, .ref r0, .ref m0, .ref x0, v4, v5, v6, v7, v8, .int 0, .int ((-1)), .int 0])), (m0, .inl (cM, 8, .inr (.inr (.inr (.inr (fun _ => none))))))] := hD
  have hK : va_K (dC, dI) vwCl [(cM, .object RX1)] s := hK
  try dsimp only at hw_2
  have k_3 := hw_2
  subst k_3
  refine W.eq (g2 := F0 m 8 ls [.null]) rfl ?_
  refine lv_astore_nN (lv' := [(3, .null), (0, .ref h0), (1, .int p0), (2, .int p1)]) hx hb dX8_fieldOf_8 rfl hl (by decide) rfl (fun ls hl => ?_)
  refine lv_aload_nN hx hb dX8_fieldOf_9 rfl (lv_at hl 0 rfl) ?_
  refine lv_ifnonnullN hx hb dX8_fieldOf_10 ?_
  refine lv_null hx hb dX8_fieldOf_13 ?_
  refine lv_goto (tgt := 22) hx hb dX8_fieldOf_14 (by decide) ?_
  have hP9 := hP.sub (ws' := [(h0, .inr (10, [.ref t0, .ref r0, .ref m0, .ref x0, v4, v5, v6, v7, v8, .int 0, .int ((-1)), .int 0])), (m0, .inl (cM, 8, .inr (.inr (.inr (.inr (fun _ => none))))))]) [0, 1] rfl
  have hD9 := hD.sub (ws' := [(h0, .inr (10, [.ref t0, .ref r0, .ref m0, .ref x0, v4, v5, v6, v7, v8, .int 0, .int ((-1)), .int 0])), (m0, .inl (cM, 8, .inr (.inr (.inr (.inr (fun _ => none))))))]) [0, 1] (by decide) rfl
  have hK9 := hK.sub (tys' := []) [] rfl
  exact W.aret (v := .null) hx hb hr (Or.inl ⟨_, rfl⟩) (Or.inl rfl) (fun t ht hW => ⟨⟨none, (), rfl, rfl, by rw [ht]; exact hP9, va_K.moved hW.alike hK9, hD9⟩, hS.F ht⟩) hS.2.2 dX8_fieldOf_22
def wp_X8_clear : List Cond := .code yX8_clear cX8_clear 4 (some .int) :: ([.methodLink RX8 128 yX8_recordOf, .instanceMethod yX8_recordOf, .selects RX8 yX8_recordOf yX8_recordOf, .initialized RX8, .methodLink RX8 76 yX5_size, .instanceMethod yX5_size, .selects RX5 yX5_size yX5_size, .initialized RX5, .methodLink RX8 83 yX5_cut, .instanceMethod yX5_cut, .selects RX5 yX5_cut yX5_cut, .code yX8_recordOf cX8_recordOf 2 (some (.object "RecordBench$Row")), .fieldLink RX8 18 "RecordBench" "records" "[LRecordBench$Row;", .code yX5_size cX5_size 1 (some .int), .fieldLink RX5 21 "RecordBench$Row" "size" "I", .code yX5_cut cX5_cut 2 (some .boolean)] ++ wsX80 ++ wsX50)
set_option maxRecDepth 20000 in
theorem gp_X8_clear_X8_recordOf_128 : GoodIn wp_X8_clear (wsV RX8 128 RX8 yX8_recordOf wp_X8_recordOf) := goodIn_p _ [12] rfl (by decide +kernel)
set_option maxRecDepth 20000 in
theorem gp_X8_clear_X5_size_76 : GoodIn wp_X8_clear (wsV RX8 76 RX5 yX5_size wp_X5_size) := goodIn_p _ [14] rfl (by decide +kernel)
set_option maxRecDepth 20000 in
theorem gp_X8_clear_X5_cut0_83 : GoodIn wp_X8_clear (wsV RX8 83 RX5 yX5_cut wp_X5_cut0) := goodIn_p _ [16] rfl (by decide +kernel)
set_option maxHeartbeats 4000000 in
set_option maxRecDepth 100000 in
theorem c_X8_clear (l : Launch) (dC : Nat → ClassId) (dI : Nat → Nat → Nat) (h0 : Nat) (t0 : Nat) (r0 : Nat) (m0 : Nat) (x0 : Nat) (v4 : Value) (v5 : Value) (v6 : Value) (v7 : Value) (v8 : Value) (cR : ClassId) (fR : Nat → Option Nat) (q0 : Nat) (q1 : Nat) (q2 : Nat) (q3 : Nat) (b0 : Nat) (b1 : Nat) (b2 : Nat) (b3 : Nat) (hq0 : fR 0 = some q0) (hq1 : fR 1 = some q1) (hq2 : fR 2 = some q2) (hq3 : fR 3 = some q3) (p0 : Int32) (sz : Nat) : Met l yX8_clear wp_X8_clear ({ frames := 1, cells := 0, slots := 0, locals := 25 }) (va_Pc [.ref h0, .int p0] (Pr (dC, dI) [(cR, .object RX5)] [(h0, .inr (10, [.ref t0, .ref r0, .ref m0, .ref x0, v4, v5, v6, v7, v8, .int 0, .int ((-1)), .int 0])), (r0, .inl (cR, 4, .inr (.inr (.inr (.inr fR))))), (q0, .inr (7, [.ref b0, .int 0])), (q1, .inr (7, [.ref b1, .int 0])), (q2, .inr (7, [.ref b2, .int 0])), (q3, .inr (7, [.ref b3, .int 0]))] sz)) (va_Qi (fun r : Int32 => (fun _ : Unit => r = if p0 < 0 ∨ 4 ≤ p0 then -1 else 0)) (Bq (dC, dI) (fun _ : Unit => []) (fun _ : Unit => []) (va_A [(h0, .inr (10, [.ref t0, .ref r0, .ref m0, .ref x0, v4, v5, v6, v7, v8, .int 0, .int ((-1)), .int 0])), (r0, .inl (cR, 4, .inr (.inr (.inr (.inr fR))))), (q0, .inr (7, [.ref b0, .int 0])), (q1, .inr (7, [.ref b1, .int 0])), (q2, .inr (7, [.ref b2, .int 0])), (q3, .inr (7, [.ref b3, .int 0]))] sz)) (va_A [(h0, .inr (10, [.ref t0, .ref r0, .ref m0, .ref x0, v4, v5, v6, v7, v8, .int 0, .int ((-1)), .int 0])), (r0, .inl (cR, 4, .inr (.inr (.inr (.inr fR))))), (q0, .inr (7, [.ref b0, .int 0])), (q1, .inr (7, [.ref b1, .int 0])), (q2, .inr (7, [.ref b2, .int 0])), (q3, .inr (7, [.ref b3, .int 0]))] sz)) 0 0 (va_A [(h0, .inr (10, [.ref t0, .ref r0, .ref m0, .ref x0, v4, v5, v6, v7, v8, .int 0, .int ((-1)), .int 0])), (r0, .inl (cR, 4, .inr (.inr (.inr (.inr fR))))), (q0, .inr (7, [.ref b0, .int 0])), (q1, .inr (7, [.ref b1, .int 0])), (q2, .inr (7, [.ref b2, .int 0])), (q3, .inr (7, [.ref b3, .int 0]))] sz) := by
  refine Met.ofW (cc := cX8_clear) (maxL := 4) (ret := (some .int)) (by decide) rfl ?_
  intro p e s m args below meth c s₁ B hml hv
  obtain ⟨rfl, hsz, hP, hK, hD0, hN, hZ⟩ := hv
  have hx := B.exec
  have hb := B.bytes
  have hr := B.returns
  have hts := atoms_spec (ws := wp_X8_clear) B.pre
  have hown : s.vm.findClass RX8 = some m.cls := findClass_of_methodNamed B.named
  have hlocks := B.notSynchronized
  subst hsz
  have hD := hD0.self (sz := s.heap.size)
  generalize hAe : va_A [(h0, .inr (10, [.ref t0, .ref r0, .ref m0, .ref x0, v4, v5, v6, v7, v8, .int 0, .int ((-1)), .int 0])), (r0, .inl (cR, 4, .inr (.inr (.inr (.inr fR))))), (q0, .inr (7, [.ref b0, .int 0])), (q1, .inr (7, [.ref b1, .int 0])), (q2, .inr (7, [.ref b2, .int 0])), (q3, .inr (7, [.ref b3, .int 0]))] s.heap.size = A at hD hZ ⊢
  have hA : ∀ q : Nat, s.heap.size ≤ q → A q := fun q h => by rw [← hAe]; exact Or.inr h
  have hS : va_S A s.heap s.heap [] := va_S.rf
  have hP : va_P (dC, dI) vwCl [(h0, .inr (10, [.ref t0, .ref r0, .ref m0, .ref x0, v4, v5, v6, v7, v8, .int 0, .int ((-1)), .int 0])), (r0, .inl (cR, 4, .inr (.inr (.inr (.inr fR))))), (q0, .inr (7, [.ref b0, .int 0])), (q1, .inr (7, [.ref b1, .int 0])), (q2, .inr (7, [.ref b2, .int 0])), (q3, .inr (7, [.ref b3, .int 0]))] s.heap := hP
  have hl := lv_entry ([.ref h0, .int p0]) (n := 4) (Nat.le_of_ble_eq_true rfl)
  rw [lg_entry_eq]
  generalize (lg_sl ([.ref h0, .int p0]) ++ List.replicate (4 - (lg_sl ([.ref h0, .int p0])).length) Slot.unset).toArray = ls at hl ⊢
  have hl : lv_has ls 4 [(0, .ref h0), (1, .int p0)] := hl
  refine lv_aload_n hx hb dX8_clear_0 rfl (lv_at hl 0 rfl) ?_
  refine lv_iload_n hx hb dX8_clear_1 rfl (lv_at hl 1 rfl) ?_
  have hFc := va_free (wc := [(h0, .inr (10, [.ref t0, .ref r0, .ref m0, .ref x0, v4, v5, v6, v7, v8, .int 0, .int ((-1)), .int 0])), (r0, .inl (cR, 4, .inr (.inr (.inr (.inr fR)))))]) hD hS hA [0, 1] rfl
  refine va_callq (va_runV (As := [.int p0]) (rest := []) ⟨hx, hb, hml, hown, hts⟩ (c_X8_recordOf l dC dI h0 t0 r0 m0 x0 (v4) (v5) (v6) (v7) (v8) cR fR q0 q1 q2 q3 (hq0) (hq1) (hq2) (hq3) p0 s.heap.size) (cwV 1 hts gp_X8_clear_X8_recordOf_128 rfl rfl rfl (by decide +kernel) ⟨Nat.le_of_ble_eq_true rfl, Nat.le_of_ble_eq_true rfl⟩) ⟨Pr.blind _, va_recv hK hP (ci := 10) (q0 := 0) rfl rfl, fun U hU hW => ⟨rfl, Pr.at (hP.sub (ws' := [(h0, .inr (10, [.ref t0, .ref r0, .ref m0, .ref x0, v4, v5, v6, v7, v8, .int 0, .int ((-1)), .int 0])), (r0, .inl (cR, 4, .inr (.inr (.inr (.inr fR)))))]) [0, 1] rfl) (hK.sub (tys' := [(cR, .object RX5)]) [0] rfl) (hD.sub (ws' := [(h0, .inr (10, [.ref t0, .ref r0, .ref m0, .ref x0, v4, v5, v6, v7, v8, .int 0, .int ((-1)), .int 0])), (r0, .inl (cR, 4, .inr (.inr (.inr (.inr fR)))))]) [0, 1] (by decide) rfl) hN hZ hS hFc hU hW⟩⟩ rfl rfl hl.1 rfl (lv_room (Nat.le_of_ble_eq_true rfl)) dX8_clear_2 ⟨Nat.le_of_ble_eq_true rfl, Nat.le_of_ble_eq_true rfl⟩) hS (fun q _ h => hFc q h) hFc (fun r_1 u t H1 locs ht hvm hw_2 hB hz1 hk1 hS => ?_)
  obtain ⟨hP, hD, hK⟩ := Bq.join (wr := [(q0, .inr (7, [.ref b0, .int 0])), (q1, .inr (7, [.ref b1, .int 0])), (q2, .inr (7, [.ref b2, .int 0])), (q3, .inr (7, [.ref b3, .int 0]))]) hB ht hvm hP hD [0, 1] [2, 3, 4, 5] rfl rfl (by decide) (by decide) hk1 hFc hK
  generalize H1 = H at hP hS ⊢
  have hP : va_P (dC, dI) vwCl [(q0, .inr (7, [.ref b0, .int 0])), (q1, .inr (7, [.ref b1, .int 0])), (q2, .inr (7, [.ref b2, .int 0])), (q3, .inr (7, [.ref b3, .int 0])), (h0, .inr (10, [.ref t0, .ref r0, .ref m0, .ref x0, v4, v5, v6, v7, v8, .int 0, .int (-1), .int 0])), (r0, .inl (cR, 4, .inr (.inr (.inr (.inr fR)))))] H := hP
  have hD : va_D A [(q0, .inr (7, [.ref b0, .int 0])), (q1, .inr (7, [.ref b1, .int 0])), (q2, .inr (7, [.ref b2, .int 0])), (q3, .inr (7, [.ref b3, .int 0])), (h0, .inr (10, [.ref t0, .ref r0, .ref m0, .ref x0, v4, v5, v6, v7, v8, .int 0, .int (-1), .int 0])), (r0, .inl (cR, 4, .inr (.inr (.inr (.inr fR)))))] := hD
  have hK : va_K (dC, dI) vwCl [(cR, .object RX5)] s := hK
  try dsimp only at hw_2
  have k_3 := hw_2
  rcases k_3 with ⟨ho, rfl⟩ | ⟨ho, rfl | rfl | rfl | rfl⟩
  · refine W.eq (g2 := F0 m 5 ls [.null]) rfl ?_
    refine lv_astore_nN (lv' := [(2, .null), (0, .ref h0), (1, .int p0)]) hx hb dX8_clear_5 rfl hl (by decide) rfl (fun ls hl => ?_)
    refine lv_aload_nN hx hb dX8_clear_6 rfl (lv_at hl 0 rfl) ?_
    refine lv_ifnonnullN hx hb dX8_clear_7 ?_
    refine lv_iconst (v := (-1)) hx hb dX8_clear_10 (by decide) ?_
    have hP9 := hP.sub (ws' := []) [] rfl
    have hD9 := hD.sub (ws' := []) [] (by decide) rfl
    have hK9 := hK.sub (tys' := []) [] rfl
    exact W.iret (v := (-1)) hx hb hr (fun t ht hW => ⟨⟨(-1), (), rfl, (if_pos ho).symm, by rw [ht]; exact hP9, va_K.moved hW.alike hK9, hD9⟩, hS.F ht⟩) hS.2.2 dX8_clear_11
  · refine W.eq (g2 := F0 m 5 ls [.ref q0]) rfl ?_
    refine lv_astore_n (lv' := [(2, .ref q0), (0, .ref h0), (1, .int p0)]) hx hb dX8_clear_5 rfl hl (by decide) rfl (fun ls hl => ?_)
    refine lv_aload_n hx hb dX8_clear_6 rfl (lv_at hl 0 rfl) ?_
    refine lv_ifnonnull (tgt := 12) hx hb dX8_clear_7 (by decide) ?_
    refine lv_aload_n hx hb dX8_clear_12 rfl (lv_at hl 0 rfl) ?_
    have hFc := va_free (wc := [(q0, .inr (7, [.ref b0, .int 0]))]) hD hS hA [0] rfl
    refine va_calli (va_runV (As := []) (rest := []) ⟨hx, hb, hml, hown, hts⟩ (c_X5_size l dC dI q0 b0 0 H.size) (cwV 0 hts gp_X8_clear_X5_size_76 rfl rfl rfl (by decide +kernel) ⟨Nat.le_of_ble_eq_true rfl, Nat.le_of_ble_eq_true rfl⟩) ⟨Pr.blind _, va_recv hK hP (ci := 7) (q0 := 0) rfl rfl, fun U hU hW => ⟨rfl, Pr.at (hP.sub (ws' := [(q0, .inr (7, [.ref b0, .int 0]))]) [0] rfl) (hK.sub (tys' := []) [] rfl) (hD.sub (ws' := [(q0, .inr (7, [.ref b0, .int 0]))]) [0] (by decide) rfl) hN hZ hS hFc hU hW⟩⟩ rfl rfl hl.1 rfl (lv_room (Nat.le_of_ble_eq_true rfl)) dX8_clear_13 ⟨Nat.le_of_ble_eq_true rfl, Nat.le_of_ble_eq_true rfl⟩) hS (fun q _ h => hFc q h) hFc (fun r_4 u t H1 locs ht hvm hw_5 hB hz1 hk1 hS => ?_)
    obtain ⟨hP, hD, hK⟩ := Bq.join (wr := [(q1, .inr (7, [.ref b1, .int 0])), (q2, .inr (7, [.ref b2, .int 0])), (q3, .inr (7, [.ref b3, .int 0])), (h0, .inr (10, [.ref t0, .ref r0, .ref m0, .ref x0, v4, v5, v6, v7, v8, .int 0, .int (-1), .int 0])), (r0, .inl (cR, 4, .inr (.inr (.inr (.inr fR)))))]) hB ht hvm hP hD [0] [1, 2, 3, 4, 5] rfl rfl (by decide) (by decide) hk1 hFc hK
    generalize H1 = H at hP hS ⊢
    have hP : va_P (dC, dI) vwCl [(q1, .inr (7, [.ref b1, .int 0])), (q2, .inr (7, [.ref b2, .int 0])), (q3, .inr (7, [.ref b3, .int 0])), (h0, .inr (10, [.ref t0, .ref r0, .ref m0, .ref x0, v4, v5, v6, v7, v8, .int 0, .int (-1), .int 0])), (r0, .inl (cR, 4, .inr (.inr (.inr (.inr fR))))), (q0, .inr (7, [.ref b0, .int 0]))] H := hP
    have hD : va_D A [(q1, .inr (7, [.ref b1, .int 0])), (q2, .inr (7, [.ref b2, .int 0])), (q3, .inr (7, [.ref b3, .int 0])), (h0, .inr (10, [.ref t0, .ref r0, .ref m0, .ref x0, v4, v5, v6, v7, v8, .int 0, .int (-1), .int 0])), (r0, .inl (cR, 4, .inr (.inr (.inr (.inr fR))))), (q0, .inr (7, [.ref b0, .int 0]))] := hD
    have hK : va_K (dC, dI) vwCl [(cR, .object RX5)] s := hK
    try dsimp only at hw_5
    have k_6 := hw_5
    refine W_toi (y := 0) k_6 ?_
    refine lv_istore_n (lv' := [(3, .int 0), (2, .ref q0), (0, .ref h0), (1, .int p0)]) hx hb dX8_clear_16 rfl hl (by decide) rfl (fun ls hl => ?_)
    refine lv_aload_n hx hb dX8_clear_17 rfl (lv_at hl 1 rfl) ?_
    refine lv_iconst (v := 0) hx hb dX8_clear_18 (by decide) ?_
    have hFc := va_free (wc := [(q0, .inr (7, [.ref b0, .int 0]))]) hD hS hA [5] rfl
    refine va_calli (va_runV (As := [.int 0]) (rest := []) ⟨hx, hb, hml, hown, hts⟩ (c_X5_cut0 l dC dI q0 b0 H.size) (cwV 1 hts gp_X8_clear_X5_cut0_83 rfl rfl rfl (by decide +kernel) ⟨Nat.le_of_ble_eq_true rfl, Nat.le_of_ble_eq_true rfl⟩) ⟨Pr.blind _, va_recv hK hP (ci := 7) (q0 := 5) rfl rfl, fun U hU hW => ⟨rfl, Pr.at (hP.sub (ws' := [(q0, .inr (7, [.ref b0, .int 0]))]) [5] rfl) (hK.sub (tys' := []) [] rfl) (hD.sub (ws' := [(q0, .inr (7, [.ref b0, .int 0]))]) [5] (by decide) rfl) hN hZ hS hFc hU hW⟩⟩ rfl rfl hl.1 rfl (lv_room (Nat.le_of_ble_eq_true rfl)) dX8_clear_19 ⟨Nat.le_of_ble_eq_true rfl, Nat.le_of_ble_eq_true rfl⟩) hS (fun q _ h => hFc q h) hFc (fun r_7 u t H1 locs ht hvm hw_8 hB hz1 hk1 hS => ?_)
    obtain ⟨hP, hD, hK⟩ := Bq.join (wr := [(q1, .inr (7, [.ref b1, .int 0])), (q2, .inr (7, [.ref b2, .int 0])), (q3, .inr (7, [.ref b3, .int 0])), (h0, .inr (10, [.ref t0, .ref r0, .ref m0, .ref x0, v4, v5, v6, v7, v8, .int 0, .int (-1), .int 0])), (r0, .inl (cR, 4, .inr (.inr (.inr (.inr fR)))))]) hB ht hvm hP hD [5] [0, 1, 2, 3, 4] rfl rfl (by decide) (by decide) hk1 hFc hK
    generalize H1 = H at hP hS ⊢
    have hP : va_P (dC, dI) vwCl [(q1, .inr (7, [.ref b1, .int 0])), (q2, .inr (7, [.ref b2, .int 0])), (q3, .inr (7, [.ref b3, .int 0])), (h0, .inr (10, [.ref t0, .ref r0, .ref m0, .ref x0, v4, v5, v6, v7, v8, .int 0, .int (-1), .int 0])), (r0, .inl (cR, 4, .inr (.inr (.inr (.inr fR))))), (q0, .inr (7, [.ref b0, .int 0]))] H := hP
    have hD : va_D A [(q1, .inr (7, [.ref b1, .int 0])), (q2, .inr (7, [.ref b2, .int 0])), (q3, .inr (7, [.ref b3, .int 0])), (h0, .inr (10, [.ref t0, .ref r0, .ref m0, .ref x0, v4, v5, v6, v7, v8, .int 0, .int (-1), .int 0])), (r0, .inl (cR, 4, .inr (.inr (.inr (.inr fR))))), (q0, .inr (7, [.ref b0, .int 0]))] := hD
    have hK : va_K (dC, dI) vwCl [(cR, .object RX5)] s := hK
    try dsimp only at hw_8
    have k_9 := hw_8
    refine W_toi (y := 1) k_9 ?_
    refine lv_pop hx hb dX8_clear_22 rfl ?_
    refine lv_iload_n hx hb dX8_clear_23 rfl (lv_at hl 0 rfl) ?_
    have hP9 := hP.sub (ws' := []) [] rfl
    have hD9 := hD.sub (ws' := []) [] (by decide) rfl
    have hK9 := hK.sub (tys' := []) [] rfl
    exact W.iret (v := 0) hx hb hr (fun t ht hW => ⟨⟨0, (), rfl, (if_neg ho).symm, by rw [ht]; exact hP9, va_K.moved hW.alike hK9, hD9⟩, hS.F ht⟩) hS.2.2 dX8_clear_24
  · refine W.eq (g2 := F0 m 5 ls [.ref q1]) rfl ?_
    refine lv_astore_n (lv' := [(2, .ref q1), (0, .ref h0), (1, .int p0)]) hx hb dX8_clear_5 rfl hl (by decide) rfl (fun ls hl => ?_)
    refine lv_aload_n hx hb dX8_clear_6 rfl (lv_at hl 0 rfl) ?_
    refine lv_ifnonnull (tgt := 12) hx hb dX8_clear_7 (by decide) ?_
    refine lv_aload_n hx hb dX8_clear_12 rfl (lv_at hl 0 rfl) ?_
    have hFc := va_free (wc := [(q1, .inr (7, [.ref b1, .int 0]))]) hD hS hA [1] rfl
    refine va_calli (va_runV (As := []) (rest := []) ⟨hx, hb, hml, hown, hts⟩ (c_X5_size l dC dI q1 b1 0 H.size) (cwV 0 hts gp_X8_clear_X5_size_76 rfl rfl rfl (by decide +kernel) ⟨Nat.le_of_ble_eq_true rfl, Nat.le_of_ble_eq_true rfl⟩) ⟨Pr.blind _, va_recv hK hP (ci := 7) (q0 := 1) rfl rfl, fun U hU hW => ⟨rfl, Pr.at (hP.sub (ws' := [(q1, .inr (7, [.ref b1, .int 0]))]) [1] rfl) (hK.sub (tys' := []) [] rfl) (hD.sub (ws' := [(q1, .inr (7, [.ref b1, .int 0]))]) [1] (by decide) rfl) hN hZ hS hFc hU hW⟩⟩ rfl rfl hl.1 rfl (lv_room (Nat.le_of_ble_eq_true rfl)) dX8_clear_13 ⟨Nat.le_of_ble_eq_true rfl, Nat.le_of_ble_eq_true rfl⟩) hS (fun q _ h => hFc q h) hFc (fun r_10 u t H1 locs ht hvm hw_11 hB hz1 hk1 hS => ?_)
    obtain ⟨hP, hD, hK⟩ := Bq.join (wr := [(q0, .inr (7, [.ref b0, .int 0])), (q2, .inr (7, [.ref b2, .int 0])), (q3, .inr (7, [.ref b3, .int 0])), (h0, .inr (10, [.ref t0, .ref r0, .ref m0, .ref x0, v4, v5, v6, v7, v8, .int 0, .int (-1), .int 0])), (r0, .inl (cR, 4, .inr (.inr (.inr (.inr fR)))))]) hB ht hvm hP hD [1] [0, 2, 3, 4, 5] rfl rfl (by decide) (by decide) hk1 hFc hK
    generalize H1 = H at hP hS ⊢
    have hP : va_P (dC, dI) vwCl [(q0, .inr (7, [.ref b0, .int 0])), (q2, .inr (7, [.ref b2, .int 0])), (q3, .inr (7, [.ref b3, .int 0])), (h0, .inr (10, [.ref t0, .ref r0, .ref m0, .ref x0, v4, v5, v6, v7, v8, .int 0, .int (-1), .int 0])), (r0, .inl (cR, 4, .inr (.inr (.inr (.inr fR))))), (q1, .inr (7, [.ref b1, .int 0]))] H := hP
    have hD : va_D A [(q0, .inr (7, [.ref b0, .int 0])), (q2, .inr (7, [.ref b2, .int 0])), (q3, .inr (7, [.ref b3, .int 0])), (h0, .inr (10, [.ref t0, .ref r0, .ref m0, .ref x0, v4, v5, v6, v7, v8, .int 0, .int (-1), .int 0])), (r0, .inl (cR, 4, .inr (.inr (.inr (.inr fR))))), (q1, .inr (7, [.ref b1, .int 0]))] := hD
    have hK : va_K (dC, dI) vwCl [(cR, .object RX5)] s := hK
    try dsimp only at hw_11
    have k_12 := hw_11
    refine W_toi (y := 0) k_12 ?_
    refine lv_istore_n (lv' := [(3, .int 0), (2, .ref q1), (0, .ref h0), (1, .int p0)]) hx hb dX8_clear_16 rfl hl (by decide) rfl (fun ls hl => ?_)
    refine lv_aload_n hx hb dX8_clear_17 rfl (lv_at hl 1 rfl) ?_
    refine lv_iconst (v := 0) hx hb dX8_clear_18 (by decide) ?_
    have hFc := va_free (wc := [(q1, .inr (7, [.ref b1, .int 0]))]) hD hS hA [5] rfl
    refine va_calli (va_runV (As := [.int 0]) (rest := []) ⟨hx, hb, hml, hown, hts⟩ (c_X5_cut0 l dC dI q1 b1 H.size) (cwV 1 hts gp_X8_clear_X5_cut0_83 rfl rfl rfl (by decide +kernel) ⟨Nat.le_of_ble_eq_true rfl, Nat.le_of_ble_eq_true rfl⟩) ⟨Pr.blind _, va_recv hK hP (ci := 7) (q0 := 5) rfl rfl, fun U hU hW => ⟨rfl, Pr.at (hP.sub (ws' := [(q1, .inr (7, [.ref b1, .int 0]))]) [5] rfl) (hK.sub (tys' := []) [] rfl) (hD.sub (ws' := [(q1, .inr (7, [.ref b1, .int 0]))]) [5] (by decide) rfl) hN hZ hS hFc hU hW⟩⟩ rfl rfl hl.1 rfl (lv_room (Nat.le_of_ble_eq_true rfl)) dX8_clear_19 ⟨Nat.le_of_ble_eq_true rfl, Nat.le_of_ble_eq_true rfl⟩) hS (fun q _ h => hFc q h) hFc (fun r_13 u t H1 locs ht hvm hw_14 hB hz1 hk1 hS => ?_)
    obtain ⟨hP, hD, hK⟩ := Bq.join (wr := [(q0, .inr (7, [.ref b0, .int 0])), (q2, .inr (7, [.ref b2, .int 0])), (q3, .inr (7, [.ref b3, .int 0])), (h0, .inr (10, [.ref t0, .ref r0, .ref m0, .ref x0, v4, v5, v6, v7, v8, .int 0, .int (-1), .int 0])), (r0, .inl (cR, 4, .inr (.inr (.inr (.inr fR)))))]) hB ht hvm hP hD [5] [0, 1, 2, 3, 4] rfl rfl (by decide) (by decide) hk1 hFc hK
    generalize H1 = H at hP hS ⊢
    have hP : va_P (dC, dI) vwCl [(q0, .inr (7, [.ref b0, .int 0])), (q2, .inr (7, [.ref b2, .int 0])), (q3, .inr (7, [.ref b3, .int 0])), (h0, .inr (10, [.ref t0, .ref r0, .ref m0, .ref x0, v4, v5, v6, v7, v8, .int 0, .int (-1), .int 0])), (r0, .inl (cR, 4, .inr (.inr (.inr (.inr fR))))), (q1, .inr (7, [.ref b1, .int 0]))] H := hP
    have hD : va_D A [(q0, .inr (7, [.ref b0, .int 0])), (q2, .inr (7, [.ref b2, .int 0])), (q3, .inr (7, [.ref b3, .int 0])), (h0, .inr (10, [.ref t0, .ref r0, .ref m0, .ref x0, v4, v5, v6, v7, v8, .int 0, .int (-1), .int 0])), (r0, .inl (cR, 4, .inr (.inr (.inr (.inr fR))))), (q1, .inr (7, [.ref b1, .int 0]))] := hD
    have hK : va_K (dC, dI) vwCl [(cR, .object RX5)] s := hK
    try dsimp only at hw_14
    have k_15 := hw_14
    refine W_toi (y := 1) k_15 ?_
    refine lv_pop hx hb dX8_clear_22 rfl ?_
    refine lv_iload_n hx hb dX8_clear_23 rfl (lv_at hl 0 rfl) ?_
    have hP9 := hP.sub (ws' := []) [] rfl
    have hD9 := hD.sub (ws' := []) [] (by decide) rfl
    have hK9 := hK.sub (tys' := []) [] rfl
    exact W.iret (v := 0) hx hb hr (fun t ht hW => ⟨⟨0, (), rfl, (if_neg ho).symm, by rw [ht]; exact hP9, va_K.moved hW.alike hK9, hD9⟩, hS.F ht⟩) hS.2.2 dX8_clear_24
  · refine W.eq (g2 := F0 m 5 ls [.ref q2]) rfl ?_
    refine lv_astore_n (lv' := [(2, .ref q2), (0, .ref h0), (1, .int p0)]) hx hb dX8_clear_5 rfl hl (by decide) rfl (fun ls hl => ?_)
    refine lv_aload_n hx hb dX8_clear_6 rfl (lv_at hl 0 rfl) ?_
    refine lv_ifnonnull (tgt := 12) hx hb dX8_clear_7 (by decide) ?_
    refine lv_aload_n hx hb dX8_clear_12 rfl (lv_at hl 0 rfl) ?_
    have hFc := va_free (wc := [(q2, .inr (7, [.ref b2, .int 0]))]) hD hS hA [2] rfl
    refine va_calli (va_runV (As := []) (rest := []) ⟨hx, hb, hml, hown, hts⟩ (c_X5_size l dC dI q2 b2 0 H.size) (cwV 0 hts gp_X8_clear_X5_size_76 rfl rfl rfl (by decide +kernel) ⟨Nat.le_of_ble_eq_true rfl, Nat.le_of_ble_eq_true rfl⟩) ⟨Pr.blind _, va_recv hK hP (ci := 7) (q0 := 2) rfl rfl, fun U hU hW => ⟨rfl, Pr.at (hP.sub (ws' := [(q2, .inr (7, [.ref b2, .int 0]))]) [2] rfl) (hK.sub (tys' := []) [] rfl) (hD.sub (ws' := [(q2, .inr (7, [.ref b2, .int 0]))]) [2] (by decide) rfl) hN hZ hS hFc hU hW⟩⟩ rfl rfl hl.1 rfl (lv_room (Nat.le_of_ble_eq_true rfl)) dX8_clear_13 ⟨Nat.le_of_ble_eq_true rfl, Nat.le_of_ble_eq_true rfl⟩) hS (fun q _ h => hFc q h) hFc (fun r_16 u t H1 locs ht hvm hw_17 hB hz1 hk1 hS => ?_)
    obtain ⟨hP, hD, hK⟩ := Bq.join (wr := [(q0, .inr (7, [.ref b0, .int 0])), (q1, .inr (7, [.ref b1, .int 0])), (q3, .inr (7, [.ref b3, .int 0])), (h0, .inr (10, [.ref t0, .ref r0, .ref m0, .ref x0, v4, v5, v6, v7, v8, .int 0, .int (-1), .int 0])), (r0, .inl (cR, 4, .inr (.inr (.inr (.inr fR)))))]) hB ht hvm hP hD [2] [0, 1, 3, 4, 5] rfl rfl (by decide) (by decide) hk1 hFc hK
    generalize H1 = H at hP hS ⊢
    have hP : va_P (dC, dI) vwCl [(q0, .inr (7, [.ref b0, .int 0])), (q1, .inr (7, [.ref b1, .int 0])), (q3, .inr (7, [.ref b3, .int 0])), (h0, .inr (10, [.ref t0, .ref r0, .ref m0, .ref x0, v4, v5, v6, v7, v8, .int 0, .int (-1), .int 0])), (r0, .inl (cR, 4, .inr (.inr (.inr (.inr fR))))), (q2, .inr (7, [.ref b2, .int 0]))] H := hP
    have hD : va_D A [(q0, .inr (7, [.ref b0, .int 0])), (q1, .inr (7, [.ref b1, .int 0])), (q3, .inr (7, [.ref b3, .int 0])), (h0, .inr (10, [.ref t0, .ref r0, .ref m0, .ref x0, v4, v5, v6, v7, v8, .int 0, .int (-1), .int 0])), (r0, .inl (cR, 4, .inr (.inr (.inr (.inr fR))))), (q2, .inr (7, [.ref b2, .int 0]))] := hD
    have hK : va_K (dC, dI) vwCl [(cR, .object RX5)] s := hK
    try dsimp only at hw_17
    have k_18 := hw_17
    refine W_toi (y := 0) k_18 ?_
    refine lv_istore_n (lv' := [(3, .int 0), (2, .ref q2), (0, .ref h0), (1, .int p0)]) hx hb dX8_clear_16 rfl hl (by decide) rfl (fun ls hl => ?_)
    refine lv_aload_n hx hb dX8_clear_17 rfl (lv_at hl 1 rfl) ?_
    refine lv_iconst (v := 0) hx hb dX8_clear_18 (by decide) ?_
    have hFc := va_free (wc := [(q2, .inr (7, [.ref b2, .int 0]))]) hD hS hA [5] rfl
    refine va_calli (va_runV (As := [.int 0]) (rest := []) ⟨hx, hb, hml, hown, hts⟩ (c_X5_cut0 l dC dI q2 b2 H.size) (cwV 1 hts gp_X8_clear_X5_cut0_83 rfl rfl rfl (by decide +kernel) ⟨Nat.le_of_ble_eq_true rfl, Nat.le_of_ble_eq_true rfl⟩) ⟨Pr.blind _, va_recv hK hP (ci := 7) (q0 := 5) rfl rfl, fun U hU hW => ⟨rfl, Pr.at (hP.sub (ws' := [(q2, .inr (7, [.ref b2, .int 0]))]) [5] rfl) (hK.sub (tys' := []) [] rfl) (hD.sub (ws' := [(q2, .inr (7, [.ref b2, .int 0]))]) [5] (by decide) rfl) hN hZ hS hFc hU hW⟩⟩ rfl rfl hl.1 rfl (lv_room (Nat.le_of_ble_eq_true rfl)) dX8_clear_19 ⟨Nat.le_of_ble_eq_true rfl, Nat.le_of_ble_eq_true rfl⟩) hS (fun q _ h => hFc q h) hFc (fun r_19 u t H1 locs ht hvm hw_20 hB hz1 hk1 hS => ?_)
    obtain ⟨hP, hD, hK⟩ := Bq.join (wr := [(q0, .inr (7, [.ref b0, .int 0])), (q1, .inr (7, [.ref b1, .int 0])), (q3, .inr (7, [.ref b3, .int 0])), (h0, .inr (10, [.ref t0, .ref r0, .ref m0, .ref x0, v4, v5, v6, v7, v8, .int 0, .int (-1), .int 0])), (r0, .inl (cR, 4, .inr (.inr (.inr (.inr fR)))))]) hB ht hvm hP hD [5] [0, 1, 2, 3, 4] rfl rfl (by decide) (by decide) hk1 hFc hK
    generalize H1 = H at hP hS ⊢
    have hP : va_P (dC, dI) vwCl [(q0, .inr (7, [.ref b0, .int 0])), (q1, .inr (7, [.ref b1, .int 0])), (q3, .inr (7, [.ref b3, .int 0])), (h0, .inr (10, [.ref t0, .ref r0, .ref m0, .ref x0, v4, v5, v6, v7, v8, .int 0, .int (-1), .int 0])), (r0, .inl (cR, 4, .inr (.inr (.inr (.inr fR))))), (q2, .inr (7, [.ref b2, .int 0]))] H := hP
    have hD : va_D A [(q0, .inr (7, [.ref b0, .int 0])), (q1, .inr (7, [.ref b1, .int 0])), (q3, .inr (7, [.ref b3, .int 0])), (h0, .inr (10, [.ref t0, .ref r0, .ref m0, .ref x0, v4, v5, v6, v7, v8, .int 0, .int (-1), .int 0])), (r0, .inl (cR, 4, .inr (.inr (.inr (.inr fR))))), (q2, .inr (7, [.ref b2, .int 0]))] := hD
    have hK : va_K (dC, dI) vwCl [(cR, .object RX5)] s := hK
    try dsimp only at hw_20
    have k_21 := hw_20
    refine W_toi (y := 1) k_21 ?_
    refine lv_pop hx hb dX8_clear_22 rfl ?_
    refine lv_iload_n hx hb dX8_clear_23 rfl (lv_at hl 0 rfl) ?_
    have hP9 := hP.sub (ws' := []) [] rfl
    have hD9 := hD.sub (ws' := []) [] (by decide) rfl
    have hK9 := hK.sub (tys' := []) [] rfl
    exact W.iret (v := 0) hx hb hr (fun t ht hW => ⟨⟨0, (), rfl, (if_neg ho).symm, by rw [ht]; exact hP9, va_K.moved hW.alike hK9, hD9⟩, hS.F ht⟩) hS.2.2 dX8_clear_24
  · refine W.eq (g2 := F0 m 5 ls [.ref q3]) rfl ?_
    refine lv_astore_n (lv' := [(2, .ref q3), (0, .ref h0), (1, .int p0)]) hx hb dX8_clear_5 rfl hl (by decide) rfl (fun ls hl => ?_)
    refine lv_aload_n hx hb dX8_clear_6 rfl (lv_at hl 0 rfl) ?_
    refine lv_ifnonnull (tgt := 12) hx hb dX8_clear_7 (by decide) ?_
    refine lv_aload_n hx hb dX8_clear_12 rfl (lv_at hl 0 rfl) ?_
    have hFc := va_free (wc := [(q3, .inr (7, [.ref b3, .int 0]))]) hD hS hA [3] rfl
    refine va_calli (va_runV (As := []) (rest := []) ⟨hx, hb, hml, hown, hts⟩ (c_X5_size l dC dI q3 b3 0 H.size) (cwV 0 hts gp_X8_clear_X5_size_76 rfl rfl rfl (by decide +kernel) ⟨Nat.le_of_ble_eq_true rfl, Nat.le_of_ble_eq_true rfl⟩) ⟨Pr.blind _, va_recv hK hP (ci := 7) (q0 := 3) rfl rfl, fun U hU hW => ⟨rfl, Pr.at (hP.sub (ws' := [(q3, .inr (7, [.ref b3, .int 0]))]) [3] rfl) (hK.sub (tys' := []) [] rfl) (hD.sub (ws' := [(q3, .inr (7, [.ref b3, .int 0]))]) [3] (by decide) rfl) hN hZ hS hFc hU hW⟩⟩ rfl rfl hl.1 rfl (lv_room (Nat.le_of_ble_eq_true rfl)) dX8_clear_13 ⟨Nat.le_of_ble_eq_true rfl, Nat.le_of_ble_eq_true rfl⟩) hS (fun q _ h => hFc q h) hFc (fun r_22 u t H1 locs ht hvm hw_23 hB hz1 hk1 hS => ?_)
    obtain ⟨hP, hD, hK⟩ := Bq.join (wr := [(q0, .inr (7, [.ref b0, .int 0])), (q1, .inr (7, [.ref b1, .int 0])), (q2, .inr (7, [.ref b2, .int 0])), (h0, .inr (10, [.ref t0, .ref r0, .ref m0, .ref x0, v4, v5, v6, v7, v8, .int 0, .int (-1), .int 0])), (r0, .inl (cR, 4, .inr (.inr (.inr (.inr fR)))))]) hB ht hvm hP hD [3] [0, 1, 2, 4, 5] rfl rfl (by decide) (by decide) hk1 hFc hK
    generalize H1 = H at hP hS ⊢
    have hP : va_P (dC, dI) vwCl [(q0, .inr (7, [.ref b0, .int 0])), (q1, .inr (7, [.ref b1, .int 0])), (q2, .inr (7, [.ref b2, .int 0])), (h0, .inr (10, [.ref t0, .ref r0, .ref m0, .ref x0, v4, v5, v6, v7, v8, .int 0, .int (-1), .int 0])), (r0, .inl (cR, 4, .inr (.inr (.inr (.inr fR))))), (q3, .inr (7, [.ref b3, .int 0]))] H := hP
    have hD : va_D A [(q0, .inr (7, [.ref b0, .int 0])), (q1, .inr (7, [.ref b1, .int 0])), (q2, .inr (7, [.ref b2, .int 0])), (h0, .inr (10, [.ref t0, .ref r0, .ref m0, .ref x0, v4, v5, v6, v7, v8, .int 0, .int (-1), .int 0])), (r0, .inl (cR, 4, .inr (.inr (.inr (.inr fR))))), (q3, .inr (7, [.ref b3, .int 0]))] := hD
    have hK : va_K (dC, dI) vwCl [(cR, .object RX5)] s := hK
    try dsimp only at hw_23
    have k_24 := hw_23
    refine W_toi (y := 0) k_24 ?_
    refine lv_istore_n (lv' := [(3, .int 0), (2, .ref q3), (0, .ref h0), (1, .int p0)]) hx hb dX8_clear_16 rfl hl (by decide) rfl (fun ls hl => ?_)
    refine lv_aload_n hx hb dX8_clear_17 rfl (lv_at hl 1 rfl) ?_
    refine lv_iconst (v := 0) hx hb dX8_clear_18 (by decide) ?_
    have hFc := va_free (wc := [(q3, .inr (7, [.ref b3, .int 0]))]) hD hS hA [5] rfl
    refine va_calli (va_runV (As := [.int 0]) (rest := []) ⟨hx, hb, hml, hown, hts⟩ (c_X5_cut0 l dC dI q3 b3 H.size) (cwV 1 hts gp_X8_clear_X5_cut0_83 rfl rfl rfl (by decide +kernel) ⟨Nat.le_of_ble_eq_true rfl, Nat.le_of_ble_eq_true rfl⟩) ⟨Pr.blind _, va_recv hK hP (ci := 7) (q0 := 5) rfl rfl, fun U hU hW => ⟨rfl, Pr.at (hP.sub (ws' := [(q3, .inr (7, [.ref b3, .int 0]))]) [5] rfl) (hK.sub (tys' := []) [] rfl) (hD.sub (ws' := [(q3, .inr (7, [.ref b3, .int 0]))]) [5] (by decide) rfl) hN hZ hS hFc hU hW⟩⟩ rfl rfl hl.1 rfl (lv_room (Nat.le_of_ble_eq_true rfl)) dX8_clear_19 ⟨Nat.le_of_ble_eq_true rfl, Nat.le_of_ble_eq_true rfl⟩) hS (fun q _ h => hFc q h) hFc (fun r_25 u t H1 locs ht hvm hw_26 hB hz1 hk1 hS => ?_)
    obtain ⟨hP, hD, hK⟩ := Bq.join (wr := [(q0, .inr (7, [.ref b0, .int 0])), (q1, .inr (7, [.ref b1, .int 0])), (q2, .inr (7, [.ref b2, .int 0])), (h0, .inr (10, [.ref t0, .ref r0, .ref m0, .ref x0, v4, v5, v6, v7, v8, .int 0, .int (-1), .int 0])), (r0, .inl (cR, 4, .inr (.inr (.inr (.inr fR)))))]) hB ht hvm hP hD [5] [0, 1, 2, 3, 4] rfl rfl (by decide) (by decide) hk1 hFc hK
    generalize H1 = H at hP hS ⊢
    have hP : va_P (dC, dI) vwCl [(q0, .inr (7, [.ref b0, .int 0])), (q1, .inr (7, [.ref b1, .int 0])), (q2, .inr (7, [.ref b2, .int 0])), (h0, .inr (10, [.ref t0, .ref r0, .ref m0, .ref x0, v4, v5, v6, v7, v8, .int 0, .int (-1), .int 0])), (r0, .inl (cR, 4, .inr (.inr (.inr (.inr fR))))), (q3, .inr (7, [.ref b3, .int 0]))] H := hP
    have hD : va_D A [(q0, .inr (7, [.ref b0, .int 0])), (q1, .inr (7, [.ref b1, .int 0])), (q2, .inr (7, [.ref b2, .int 0])), (h0, .inr (10, [.ref t0, .ref r0, .ref m0, .ref x0, v4, v5, v6, v7, v8, .int 0, .int (-1), .int 0])), (r0, .inl (cR, 4, .inr (.inr (.inr (.inr fR))))), (q3, .inr (7, [.ref b3, .int 0]))] := hD
    have hK : va_K (dC, dI) vwCl [(cR, .object RX5)] s := hK
    try dsimp only at hw_26
    have k_27 := hw_26
    refine W_toi (y := 1) k_27 ?_
    refine lv_pop hx hb dX8_clear_22 rfl ?_
    refine lv_iload_n hx hb dX8_clear_23 rfl (lv_at hl 0 rfl) ?_
    have hP9 := hP.sub (ws' := []) [] rfl
    have hD9 := hD.sub (ws' := []) [] (by decide) rfl
    have hK9 := hK.sub (tys' := []) [] rfl
    exact W.iret (v := 0) hx hb hr (fun t ht hW => ⟨⟨0, (), rfl, (if_neg ho).symm, by rw [ht]; exact hP9, va_K.moved hW.alike hK9, hD9⟩, hS.F ht⟩) hS.2.2 dX8_clear_24
def wp_X8_load : List Cond := .code yX8_load cX8_load 3 (some .int) :: ([.methodLink RX8 128 yX8_recordOf, .instanceMethod yX8_recordOf, .selects RX8 yX8_recordOf yX8_recordOf, .initialized RX8, .fieldLink RX8 14 "RecordBench" "tape" "LRecordBench$Row;", .methodLink RX8 76 yX5_size, .instanceMethod yX5_size, .selects RX5 yX5_size yX5_size, .initialized RX5, .methodLink RX8 132 yX5_become, .instanceMethod yX5_become, .selects RX5 yX5_become yX5_become, .methodLink RX8 83 yX5_cut, .instanceMethod yX5_cut, .selects RX5 yX5_cut yX5_cut, .code yX8_recordOf cX8_recordOf 2 (some (.object "RecordBench$Row")), .fieldLink RX8 18 "RecordBench" "records" "[LRecordBench$Row;", .code yX5_size cX5_size 1 (some .int), .fieldLink RX5 21 "RecordBench$Row" "size" "I", .code yX5_become cX5_become 6 none, .code yX5_cut cX5_cut 2 (some .boolean)] ++ wsX80 ++ wsX50)
set_option maxRecDepth 20000 in
theorem gp_X8_load_X8_recordOf_128 : GoodIn wp_X8_load (wsV RX8 128 RX8 yX8_recordOf wp_X8_recordOf) := goodIn_p _ [16] rfl (by decide +kernel)
set_option maxRecDepth 20000 in
theorem gp_X8_load_X5_size_76 : GoodIn wp_X8_load (wsV RX8 76 RX5 yX5_size wp_X5_size) := goodIn_p _ [18] rfl (by decide +kernel)
set_option maxRecDepth 20000 in
theorem gp_X8_load_X5_become0_132 : GoodIn wp_X8_load (wsV RX8 132 RX5 yX5_become wp_X5_become0) := goodIn_p _ [20] rfl (by decide +kernel)
set_option maxRecDepth 20000 in
theorem gp_X8_load_X5_cut0_83 : GoodIn wp_X8_load (wsV RX8 83 RX5 yX5_cut wp_X5_cut0) := goodIn_p _ [21] rfl (by decide +kernel)
set_option maxHeartbeats 4000000 in
set_option maxRecDepth 100000 in
theorem c_X8_load (l : Launch) (dC : Nat → ClassId) (dI : Nat → Nat → Nat) (h0 : Nat) (t0 : Nat) (r0 : Nat) (m0 : Nat) (x0 : Nat) (v4 : Value) (v5 : Value) (v6 : Value) (v7 : Value) (v8 : Value) (cR : ClassId) (fR : Nat → Option Nat) (q0 : Nat) (q1 : Nat) (q2 : Nat) (q3 : Nat) (b0 : Nat) (b1 : Nat) (b2 : Nat) (b3 : Nat) (tb : Nat) (hq0 : fR 0 = some q0) (hq1 : fR 1 = some q1) (hq2 : fR 2 = some q2) (hq3 : fR 3 = some q3) (p0 : Int32) (sz : Nat) : Met l yX8_load wp_X8_load ({ frames := 1, cells := 0, slots := 0, locals := 29 }) (va_Pc [.ref h0, .int p0] (Pr (dC, dI) [(cR, .object RX5)] [(h0, .inr (10, [.ref t0, .ref r0, .ref m0, .ref x0, v4, v5, v6, v7, v8, .int 0, .int ((-1)), .int 0])), (r0, .inl (cR, 4, .inr (.inr (.inr (.inr fR))))), (q0, .inr (7, [.ref b0, .int 0])), (q1, .inr (7, [.ref b1, .int 0])), (q2, .inr (7, [.ref b2, .int 0])), (q3, .inr (7, [.ref b3, .int 0])), (t0, .inr (7, [.ref tb, .int 0]))] sz)) (va_Qi (fun r : Int32 => (fun _ : Unit => r = if p0 < 0 ∨ 4 ≤ p0 then -1 else 0)) (Bq (dC, dI) (fun _ : Unit => []) (fun _ : Unit => []) (va_A [(h0, .inr (10, [.ref t0, .ref r0, .ref m0, .ref x0, v4, v5, v6, v7, v8, .int 0, .int ((-1)), .int 0])), (r0, .inl (cR, 4, .inr (.inr (.inr (.inr fR))))), (q0, .inr (7, [.ref b0, .int 0])), (q1, .inr (7, [.ref b1, .int 0])), (q2, .inr (7, [.ref b2, .int 0])), (q3, .inr (7, [.ref b3, .int 0])), (t0, .inr (7, [.ref tb, .int 0]))] sz)) (va_A [(h0, .inr (10, [.ref t0, .ref r0, .ref m0, .ref x0, v4, v5, v6, v7, v8, .int 0, .int ((-1)), .int 0])), (r0, .inl (cR, 4, .inr (.inr (.inr (.inr fR))))), (q0, .inr (7, [.ref b0, .int 0])), (q1, .inr (7, [.ref b1, .int 0])), (q2, .inr (7, [.ref b2, .int 0])), (q3, .inr (7, [.ref b3, .int 0])), (t0, .inr (7, [.ref tb, .int 0]))] sz)) 0 0 (va_A [(h0, .inr (10, [.ref t0, .ref r0, .ref m0, .ref x0, v4, v5, v6, v7, v8, .int 0, .int ((-1)), .int 0])), (r0, .inl (cR, 4, .inr (.inr (.inr (.inr fR))))), (q0, .inr (7, [.ref b0, .int 0])), (q1, .inr (7, [.ref b1, .int 0])), (q2, .inr (7, [.ref b2, .int 0])), (q3, .inr (7, [.ref b3, .int 0])), (t0, .inr (7, [.ref tb, .int 0]))] sz) := by
  refine Met.ofW (cc := cX8_load) (maxL := 3) (ret := (some .int)) (by decide) rfl ?_
  intro p e s m args below meth c s₁ B hml hv
  obtain ⟨rfl, hsz, hP, hK, hD0, hN, hZ⟩ := hv
  have hx := B.exec
  have hb := B.bytes
  have hr := B.returns
  have hts := atoms_spec (ws := wp_X8_load) B.pre
  have hown : s.vm.findClass RX8 = some m.cls := findClass_of_methodNamed B.named
  have hlocks := B.notSynchronized
  have iRX8 : ∀ w ∈ u_ws RX8 TX8 12, w ∈ wp_X8_load := by decide +kernel
  subst hsz
  have hD := hD0.self (sz := s.heap.size)
  generalize hAe : va_A [(h0, .inr (10, [.ref t0, .ref r0, .ref m0, .ref x0, v4, v5, v6, v7, v8, .int 0, .int ((-1)), .int 0])), (r0, .inl (cR, 4, .inr (.inr (.inr (.inr fR))))), (q0, .inr (7, [.ref b0, .int 0])), (q1, .inr (7, [.ref b1, .int 0])), (q2, .inr (7, [.ref b2, .int 0])), (q3, .inr (7, [.ref b3, .int 0])), (t0, .inr (7, [.ref tb, .int 0]))] s.heap.size = A at hD hZ ⊢
  have hA : ∀ q : Nat, s.heap.size ≤ q → A q := fun q h => by rw [← hAe]; exact Or.inr h
  have hS : va_S A s.heap s.heap [] := va_S.rf
  have hP : va_P (dC, dI) vwCl [(h0, .inr (10, [.ref t0, .ref r0, .ref m0, .ref x0, v4, v5, v6, v7, v8, .int 0, .int ((-1)), .int 0])), (r0, .inl (cR, 4, .inr (.inr (.inr (.inr fR))))), (q0, .inr (7, [.ref b0, .int 0])), (q1, .inr (7, [.ref b1, .int 0])), (q2, .inr (7, [.ref b2, .int 0])), (q3, .inr (7, [.ref b3, .int 0])), (t0, .inr (7, [.ref tb, .int 0]))] s.heap := hP
  have hl := lv_entry ([.ref h0, .int p0]) (n := 3) (Nat.le_of_ble_eq_true rfl)
  rw [lg_entry_eq]
  generalize (lg_sl ([.ref h0, .int p0]) ++ List.replicate (3 - (lg_sl ([.ref h0, .int p0])).length) Slot.unset).toArray = ls at hl ⊢
  have hl : lv_has ls 3 [(0, .ref h0), (1, .int p0)] := hl
  refine lv_aload_n hx hb dX8_load_0 rfl (lv_at hl 0 rfl) ?_
  refine lv_iload_n hx hb dX8_load_1 rfl (lv_at hl 1 rfl) ?_
  have hFc := va_free (wc := [(h0, .inr (10, [.ref t0, .ref r0, .ref m0, .ref x0, v4, v5, v6, v7, v8, .int 0, .int ((-1)), .int 0])), (r0, .inl (cR, 4, .inr (.inr (.inr (.inr fR)))))]) hD hS hA [0, 1] rfl
  refine va_callq (va_runV (As := [.int p0]) (rest := []) ⟨hx, hb, hml, hown, hts⟩ (c_X8_recordOf l dC dI h0 t0 r0 m0 x0 (v4) (v5) (v6) (v7) (v8) cR fR q0 q1 q2 q3 (hq0) (hq1) (hq2) (hq3) p0 s.heap.size) (cwV 1 hts gp_X8_load_X8_recordOf_128 rfl rfl rfl (by decide +kernel) ⟨Nat.le_of_ble_eq_true rfl, Nat.le_of_ble_eq_true rfl⟩) ⟨Pr.blind _, va_recv hK hP (ci := 10) (q0 := 0) rfl rfl, fun U hU hW => ⟨rfl, Pr.at (hP.sub (ws' := [(h0, .inr (10, [.ref t0, .ref r0, .ref m0, .ref x0, v4, v5, v6, v7, v8, .int 0, .int ((-1)), .int 0])), (r0, .inl (cR, 4, .inr (.inr (.inr (.inr fR)))))]) [0, 1] rfl) (hK.sub (tys' := [(cR, .object RX5)]) [0] rfl) (hD.sub (ws' := [(h0, .inr (10, [.ref t0, .ref r0, .ref m0, .ref x0, v4, v5, v6, v7, v8, .int 0, .int ((-1)), .int 0])), (r0, .inl (cR, 4, .inr (.inr (.inr (.inr fR)))))]) [0, 1] (by decide) rfl) hN hZ hS hFc hU hW⟩⟩ rfl rfl hl.1 rfl (lv_room (Nat.le_of_ble_eq_true rfl)) dX8_load_2 ⟨Nat.le_of_ble_eq_true rfl, Nat.le_of_ble_eq_true rfl⟩) hS (fun q _ h => hFc q h) hFc (fun r_1 u t H1 locs ht hvm hw_2 hB hz1 hk1 hS => ?_)
  obtain ⟨hP, hD, hK⟩ := Bq.join (wr := [(q0, .inr (7, [.ref b0, .int 0])), (q1, .inr (7, [.ref b1, .int 0])), (q2, .inr (7, [.ref b2, .int 0])), (q3, .inr (7, [.ref b3, .int 0])), (t0, .inr (7, [.ref tb, .int 0]))]) hB ht hvm hP hD [0, 1] [2, 3, 4, 5, 6] rfl rfl (by decide) (by decide) hk1 hFc hK
  generalize H1 = H at hP hS ⊢
  have hP : va_P (dC, dI) vwCl [(q0, .inr (7, [.ref b0, .int 0])), (q1, .inr (7, [.ref b1, .int 0])), (q2, .inr (7, [.ref b2, .int 0])), (q3, .inr (7, [.ref b3, .int 0])), (t0, .inr (7, [.ref tb, .int 0])), (h0, .inr (10, [.ref t0, .ref r0, .ref m0, .ref x0, v4, v5, v6, v7, v8, .int 0, .int (-1), .int 0])), (r0, .inl (cR, 4, .inr (.inr (.inr (.inr fR)))))] H := hP
  have hD : va_D A [(q0, .inr (7, [.ref b0, .int 0])), (q1, .inr (7, [.ref b1, .int 0])), (q2, .inr (7, [.ref b2, .int 0])), (q3, .inr (7, [.ref b3, .int 0])), (t0, .inr (7, [.ref tb, .int 0])), (h0, .inr (10, [.ref t0, .ref r0, .ref m0, .ref x0, v4, v5, v6, v7, v8, .int 0, .int (-1), .int 0])), (r0, .inl (cR, 4, .inr (.inr (.inr (.inr fR)))))] := hD
  have hK : va_K (dC, dI) vwCl [(cR, .object RX5)] s := hK
  try dsimp only at hw_2
  have k_3 := hw_2
  rcases k_3 with ⟨ho, rfl⟩ | ⟨ho, rfl | rfl | rfl | rfl⟩
  · refine W.eq (g2 := F0 m 5 ls [.null]) rfl ?_
    refine lv_astore_nN (lv' := [(2, .null), (0, .ref h0), (1, .int p0)]) hx hb dX8_load_5 rfl hl (by decide) rfl (fun ls hl => ?_)
    refine lv_aload_nN hx hb dX8_load_6 rfl (lv_at hl 0 rfl) ?_
    refine lv_ifnullN (tgt := 22) hx hb dX8_load_7 (by decide) ?_
    refine lv_iconst (v := (-1)) hx hb dX8_load_22 (by decide) ?_
    have hP9 := hP.sub (ws' := []) [] rfl
    have hD9 := hD.sub (ws' := []) [] (by decide) rfl
    have hK9 := hK.sub (tys' := []) [] rfl
    exact W.iret (v := (-1)) hx hb hr (fun t ht hW => ⟨⟨(-1), (), rfl, (if_pos ho).symm, by rw [ht]; exact hP9, va_K.moved hW.alike hK9, hD9⟩, hS.F ht⟩) hS.2.2 dX8_load_23
  · refine W.eq (g2 := F0 m 5 ls [.ref q0]) rfl ?_
    refine lv_astore_n (lv' := [(2, .ref q0), (0, .ref h0), (1, .int p0)]) hx hb dX8_load_5 rfl hl (by decide) rfl (fun ls hl => ?_)
    refine lv_aload_n hx hb dX8_load_6 rfl (lv_at hl 0 rfl) ?_
    refine lv_ifnull hx hb dX8_load_7 ?_
    refine lv_aload_n hx hb dX8_load_10 rfl (lv_at hl 1 rfl) ?_
    refine va_get (D := (dC, dI)) (ci := 10) (v := .ref t0) (C := RX8) (T := TX8) (N := 12) hx hb hts iRX8 hown hK hP 5 rfl rfl 0 (by decide) (hts (.fieldLink RX8 14 "RecordBench" "tape" "LRecordBench$Row;") (by decide +kernel)) (fun _ h9 => h9) rfl dX8_load_11 ?_
    have hFc := va_free (wc := [(t0, .inr (7, [.ref tb, .int 0]))]) hD hS hA [4] rfl
    refine va_calli (va_runV (As := []) (rest := []) ⟨hx, hb, hml, hown, hts⟩ (c_X5_size l dC dI t0 tb 0 H.size) (cwV 0 hts gp_X8_load_X5_size_76 rfl rfl rfl (by decide +kernel) ⟨Nat.le_of_ble_eq_true rfl, Nat.le_of_ble_eq_true rfl⟩) ⟨Pr.blind _, va_recv hK hP (ci := 7) (q0 := 4) rfl rfl, fun U hU hW => ⟨rfl, Pr.at (hP.sub (ws' := [(t0, .inr (7, [.ref tb, .int 0]))]) [4] rfl) (hK.sub (tys' := []) [] rfl) (hD.sub (ws' := [(t0, .inr (7, [.ref tb, .int 0]))]) [4] (by decide) rfl) hN hZ hS hFc hU hW⟩⟩ rfl rfl hl.1 rfl (lv_room (Nat.le_of_ble_eq_true rfl)) dX8_load_14 ⟨Nat.le_of_ble_eq_true rfl, Nat.le_of_ble_eq_true rfl⟩) hS (fun q _ h => hFc q h) hFc (fun r_4 u t H1 locs ht hvm hw_5 hB hz1 hk1 hS => ?_)
    obtain ⟨hP, hD, hK⟩ := Bq.join (wr := [(q0, .inr (7, [.ref b0, .int 0])), (q1, .inr (7, [.ref b1, .int 0])), (q2, .inr (7, [.ref b2, .int 0])), (q3, .inr (7, [.ref b3, .int 0])), (h0, .inr (10, [.ref t0, .ref r0, .ref m0, .ref x0, v4, v5, v6, v7, v8, .int 0, .int (-1), .int 0])), (r0, .inl (cR, 4, .inr (.inr (.inr (.inr fR)))))]) hB ht hvm hP hD [4] [0, 1, 2, 3, 5, 6] rfl rfl (by decide) (by decide) hk1 hFc hK
    generalize H1 = H at hP hS ⊢
    have hP : va_P (dC, dI) vwCl [(q0, .inr (7, [.ref b0, .int 0])), (q1, .inr (7, [.ref b1, .int 0])), (q2, .inr (7, [.ref b2, .int 0])), (q3, .inr (7, [.ref b3, .int 0])), (h0, .inr (10, [.ref t0, .ref r0, .ref m0, .ref x0, v4, v5, v6, v7, v8, .int 0, .int (-1), .int 0])), (r0, .inl (cR, 4, .inr (.inr (.inr (.inr fR))))), (t0, .inr (7, [.ref tb, .int 0]))] H := hP
    have hD : va_D A [(q0, .inr (7, [.ref b0, .int 0])), (q1, .inr (7, [.ref b1, .int 0])), (q2, .inr (7, [.ref b2, .int 0])), (q3, .inr (7, [.ref b3, .int 0])), (h0, .inr (10, [.ref t0, .ref r0, .ref m0, .ref x0, v4, v5, v6, v7, v8, .int 0, .int (-1), .int 0])), (r0, .inl (cR, 4, .inr (.inr (.inr (.inr fR))))), (t0, .inr (7, [.ref tb, .int 0]))] := hD
    have hK : va_K (dC, dI) vwCl [(cR, .object RX5)] s := hK
    try dsimp only at hw_5
    have k_6 := hw_5
    refine W_toi (y := 0) k_6 ?_
    refine lv_bipush (v := 120) hx hb dX8_load_17 (by decide) ?_
    refine lv_icmp_le (tgt := 24) hx hb dX8_load_19 (by decide) (fun c_7 => ?_) (fun c_7 => absurd (by decide) c_7)
    refine lv_aload_n hx hb dX8_load_24 rfl (lv_at hl 0 rfl) ?_
    refine lv_aload_n hx hb dX8_load_25 rfl (lv_at hl 1 rfl) ?_
    refine va_get (D := (dC, dI)) (ci := 10) (v := .ref t0) (C := RX8) (T := TX8) (N := 12) hx hb hts iRX8 hown hK hP 4 rfl rfl 0 (by decide) (hts (.fieldLink RX8 14 "RecordBench" "tape" "LRecordBench$Row;") (by decide +kernel)) (fun _ h9 => h9) rfl dX8_load_26 ?_
    refine lv_iconst (v := 0) hx hb dX8_load_29 (by decide) ?_
    refine lv_aload_n hx hb dX8_load_30 rfl (lv_at hl 1 rfl) ?_
    refine va_get (D := (dC, dI)) (ci := 10) (v := .ref t0) (C := RX8) (T := TX8) (N := 12) hx hb hts iRX8 hown hK hP 4 rfl rfl 0 (by decide) (hts (.fieldLink RX8 14 "RecordBench" "tape" "LRecordBench$Row;") (by decide +kernel)) (fun _ h9 => h9) rfl dX8_load_31 ?_
    have hFc := va_free (wc := [(t0, .inr (7, [.ref tb, .int 0]))]) hD hS hA [6] rfl
    refine va_calli (va_runV (As := []) (rest := [.int 0, .ref t0, .ref q0]) ⟨hx, hb, hml, hown, hts⟩ (c_X5_size l dC dI t0 tb 0 H.size) (cwV 0 hts gp_X8_load_X5_size_76 rfl rfl rfl (by decide +kernel) ⟨Nat.le_of_ble_eq_true rfl, Nat.le_of_ble_eq_true rfl⟩) ⟨Pr.blind _, va_recv hK hP (ci := 7) (q0 := 6) rfl rfl, fun U hU hW => ⟨rfl, Pr.at (hP.sub (ws' := [(t0, .inr (7, [.ref tb, .int 0]))]) [6] rfl) (hK.sub (tys' := []) [] rfl) (hD.sub (ws' := [(t0, .inr (7, [.ref tb, .int 0]))]) [6] (by decide) rfl) hN hZ hS hFc hU hW⟩⟩ rfl rfl hl.1 rfl (lv_room (Nat.le_of_ble_eq_true rfl)) dX8_load_34 ⟨Nat.le_of_ble_eq_true rfl, Nat.le_of_ble_eq_true rfl⟩) hS (fun q _ h => hFc q h) hFc (fun r_8 u t H1 locs ht hvm hw_9 hB hz1 hk1 hS => ?_)
    obtain ⟨hP, hD, hK⟩ := Bq.join (wr := [(q0, .inr (7, [.ref b0, .int 0])), (q1, .inr (7, [.ref b1, .int 0])), (q2, .inr (7, [.ref b2, .int 0])), (q3, .inr (7, [.ref b3, .int 0])), (h0, .inr (10, [.ref t0, .ref r0, .ref m0, .ref x0, v4, v5, v6, v7, v8, .int 0, .int (-1), .int 0])), (r0, .inl (cR, 4, .inr (.inr (.inr (.inr fR)))))]) hB ht hvm hP hD [6] [0, 1, 2, 3, 4, 5] rfl rfl (by decide) (by decide) hk1 hFc hK
    generalize H1 = H at hP hS ⊢
    have hP : va_P (dC, dI) vwCl [(q0, .inr (7, [.ref b0, .int 0])), (q1, .inr (7, [.ref b1, .int 0])), (q2, .inr (7, [.ref b2, .int 0])), (q3, .inr (7, [.ref b3, .int 0])), (h0, .inr (10, [.ref t0, .ref r0, .ref m0, .ref x0, v4, v5, v6, v7, v8, .int 0, .int (-1), .int 0])), (r0, .inl (cR, 4, .inr (.inr (.inr (.inr fR))))), (t0, .inr (7, [.ref tb, .int 0]))] H := hP
    have hD : va_D A [(q0, .inr (7, [.ref b0, .int 0])), (q1, .inr (7, [.ref b1, .int 0])), (q2, .inr (7, [.ref b2, .int 0])), (q3, .inr (7, [.ref b3, .int 0])), (h0, .inr (10, [.ref t0, .ref r0, .ref m0, .ref x0, v4, v5, v6, v7, v8, .int 0, .int (-1), .int 0])), (r0, .inl (cR, 4, .inr (.inr (.inr (.inr fR))))), (t0, .inr (7, [.ref tb, .int 0]))] := hD
    have hK : va_K (dC, dI) vwCl [(cR, .object RX5)] s := hK
    try dsimp only at hw_9
    have k_10 := hw_9
    refine W_toi (y := 0) k_10 ?_
    have hFc := va_free (wc := [(q0, .inr (7, [.ref b0, .int 0])), (t0, .inr (7, [.ref tb, .int 0]))]) hD hS hA [0, 6] rfl
    refine va_callv (va_runV (As := [.ref t0, .int 0, .int 0]) (rest := []) ⟨hx, hb, hml, hown, hts⟩ (c_X5_become0 l dC dI q0 b0 0 t0 tb 0 H.size) (cwV 3 hts gp_X8_load_X5_become0_132 rfl rfl rfl (by decide +kernel) ⟨Nat.le_of_ble_eq_true rfl, Nat.le_of_ble_eq_true rfl⟩) ⟨Pr.blind _, va_recv hK hP (ci := 7) (q0 := 0) rfl rfl, fun U hU hW => ⟨rfl, Pr.at (hP.sub (ws' := [(q0, .inr (7, [.ref b0, .int 0])), (t0, .inr (7, [.ref tb, .int 0]))]) [0, 6] rfl) (hK.sub (tys' := []) [] rfl) (hD.sub (ws' := [(q0, .inr (7, [.ref b0, .int 0])), (t0, .inr (7, [.ref tb, .int 0]))]) [0, 6] (by decide) rfl) hN hZ hS hFc hU hW⟩⟩ rfl rfl hl.1 rfl (lv_room (Nat.le_of_ble_eq_true rfl)) dX8_load_37 ⟨Nat.le_of_ble_eq_true rfl, Nat.le_of_ble_eq_true rfl⟩) hS (fun q _ h => hFc q h) hFc (fun u t H1 locs ht hvm hw_12 hB hz1 hk1 hS => ?_)
    obtain ⟨hP, hD, hK⟩ := Bq.join (wr := [(q1, .inr (7, [.ref b1, .int 0])), (q2, .inr (7, [.ref b2, .int 0])), (q3, .inr (7, [.ref b3, .int 0])), (h0, .inr (10, [.ref t0, .ref r0, .ref m0, .ref x0, v4, v5, v6, v7, v8, .int 0, .int (-1), .int 0])), (r0, .inl (cR, 4, .inr (.inr (.inr (.inr fR)))))]) hB ht hvm hP hD [0, 6] [1, 2, 3, 4, 5] rfl rfl (by decide) (by decide) hk1 hFc hK
    generalize H1 = H at hP hS ⊢
    have hP : va_P (dC, dI) vwCl [(q1, .inr (7, [.ref b1, .int 0])), (q2, .inr (7, [.ref b2, .int 0])), (q3, .inr (7, [.ref b3, .int 0])), (h0, .inr (10, [.ref t0, .ref r0, .ref m0, .ref x0, v4, v5, v6, v7, v8, .int 0, .int (-1), .int 0])), (r0, .inl (cR, 4, .inr (.inr (.inr (.inr fR))))), (q0, .inr (7, [.ref b0, .int 0])), (t0, .inr (7, [.ref tb, .int 0]))] H := hP
    have hD : va_D A [(q1, .inr (7, [.ref b1, .int 0])), (q2, .inr (7, [.ref b2, .int 0])), (q3, .inr (7, [.ref b3, .int 0])), (h0, .inr (10, [.ref t0, .ref r0, .ref m0, .ref x0, v4, v5, v6, v7, v8, .int 0, .int (-1), .int 0])), (r0, .inl (cR, 4, .inr (.inr (.inr (.inr fR))))), (q0, .inr (7, [.ref b0, .int 0])), (t0, .inr (7, [.ref tb, .int 0]))] := hD
    have hK : va_K (dC, dI) vwCl [(cR, .object RX5)] s := hK
    refine lv_aload_n hx hb dX8_load_40 rfl (lv_at hl 1 rfl) ?_
    refine va_get (D := (dC, dI)) (ci := 10) (v := .ref t0) (C := RX8) (T := TX8) (N := 12) hx hb hts iRX8 hown hK hP 3 rfl rfl 0 (by decide) (hts (.fieldLink RX8 14 "RecordBench" "tape" "LRecordBench$Row;") (by decide +kernel)) (fun _ h9 => h9) rfl dX8_load_41 ?_
    refine lv_iconst (v := 0) hx hb dX8_load_44 (by decide) ?_
    have hFc := va_free (wc := [(t0, .inr (7, [.ref tb, .int 0]))]) hD hS hA [6] rfl
    refine va_calli (va_runV (As := [.int 0]) (rest := []) ⟨hx, hb, hml, hown, hts⟩ (c_X5_cut0 l dC dI t0 tb H.size) (cwV 1 hts gp_X8_load_X5_cut0_83 rfl rfl rfl (by decide +kernel) ⟨Nat.le_of_ble_eq_true rfl, Nat.le_of_ble_eq_true rfl⟩) ⟨Pr.blind _, va_recv hK hP (ci := 7) (q0 := 6) rfl rfl, fun U hU hW => ⟨rfl, Pr.at (hP.sub (ws' := [(t0, .inr (7, [.ref tb, .int 0]))]) [6] rfl) (hK.sub (tys' := []) [] rfl) (hD.sub (ws' := [(t0, .inr (7, [.ref tb, .int 0]))]) [6] (by decide) rfl) hN hZ hS hFc hU hW⟩⟩ rfl rfl hl.1 rfl (lv_room (Nat.le_of_ble_eq_true rfl)) dX8_load_45 ⟨Nat.le_of_ble_eq_true rfl, Nat.le_of_ble_eq_true rfl⟩) hS (fun q _ h => hFc q h) hFc (fun r_13 u t H1 locs ht hvm hw_14 hB hz1 hk1 hS => ?_)
    obtain ⟨hP, hD, hK⟩ := Bq.join (wr := [(q1, .inr (7, [.ref b1, .int 0])), (q2, .inr (7, [.ref b2, .int 0])), (q3, .inr (7, [.ref b3, .int 0])), (h0, .inr (10, [.ref t0, .ref r0, .ref m0, .ref x0, v4, v5, v6, v7, v8, .int 0, .int (-1), .int 0])), (r0, .inl (cR, 4, .inr (.inr (.inr (.inr fR))))), (q0, .inr (7, [.ref b0, .int 0]))]) hB ht hvm hP hD [6] [0, 1, 2, 3, 4, 5] rfl rfl (by decide) (by decide) hk1 hFc hK
    generalize H1 = H at hP hS ⊢
    have hP : va_P (dC, dI) vwCl [(q1, .inr (7, [.ref b1, .int 0])), (q2, .inr (7, [.ref b2, .int 0])), (q3, .inr (7, [.ref b3, .int 0])), (h0, .inr (10, [.ref t0, .ref r0, .ref m0, .ref x0, v4, v5, v6, v7, v8, .int 0, .int (-1), .int 0])), (r0, .inl (cR, 4, .inr (.inr (.inr (.inr fR))))), (q0, .inr (7, [.ref b0, .int 0])), (t0, .inr (7, [.ref tb, .int 0]))] H := hP
    have hD : va_D A [(q1, .inr (7, [.ref b1, .int 0])), (q2, .inr (7, [.ref b2, .int 0])), (q3, .inr (7, [.ref b3, .int 0])), (h0, .inr (10, [.ref t0, .ref r0, .ref m0, .ref x0, v4, v5, v6, v7, v8, .int 0, .int (-1), .int 0])), (r0, .inl (cR, 4, .inr (.inr (.inr (.inr fR))))), (q0, .inr (7, [.ref b0, .int 0])), (t0, .inr (7, [.ref tb, .int 0]))] := hD
    have hK : va_K (dC, dI) vwCl [(cR, .object RX5)] s := hK
    try dsimp only at hw_14
    have k_15 := hw_14
    refine W_toi (y := 1) k_15 ?_
    refine lv_pop hx hb dX8_load_48 rfl ?_
    refine lv_aload_n hx hb dX8_load_49 rfl (lv_at hl 0 rfl) ?_
    have hFc := va_free (wc := [(q0, .inr (7, [.ref b0, .int 0]))]) hD hS hA [5] rfl
    refine va_calli (va_runV (As := []) (rest := []) ⟨hx, hb, hml, hown, hts⟩ (c_X5_size l dC dI q0 b0 0 H.size) (cwV 0 hts gp_X8_load_X5_size_76 rfl rfl rfl (by decide +kernel) ⟨Nat.le_of_ble_eq_true rfl, Nat.le_of_ble_eq_true rfl⟩) ⟨Pr.blind _, va_recv hK hP (ci := 7) (q0 := 5) rfl rfl, fun U hU hW => ⟨rfl, Pr.at (hP.sub (ws' := [(q0, .inr (7, [.ref b0, .int 0]))]) [5] rfl) (hK.sub (tys' := []) [] rfl) (hD.sub (ws' := [(q0, .inr (7, [.ref b0, .int 0]))]) [5] (by decide) rfl) hN hZ hS hFc hU hW⟩⟩ rfl rfl hl.1 rfl (lv_room (Nat.le_of_ble_eq_true rfl)) dX8_load_50 ⟨Nat.le_of_ble_eq_true rfl, Nat.le_of_ble_eq_true rfl⟩) hS (fun q _ h => hFc q h) hFc (fun r_16 u t H1 locs ht hvm hw_17 hB hz1 hk1 hS => ?_)
    obtain ⟨hP, hD, hK⟩ := Bq.join (wr := [(q1, .inr (7, [.ref b1, .int 0])), (q2, .inr (7, [.ref b2, .int 0])), (q3, .inr (7, [.ref b3, .int 0])), (h0, .inr (10, [.ref t0, .ref r0, .ref m0, .ref x0, v4, v5, v6, v7, v8, .int 0, .int (-1), .int 0])), (r0, .inl (cR, 4, .inr (.inr (.inr (.inr fR))))), (t0, .inr (7, [.ref tb, .int 0]))]) hB ht hvm hP hD [5] [0, 1, 2, 3, 4, 6] rfl rfl (by decide) (by decide) hk1 hFc hK
    generalize H1 = H at hP hS ⊢
    have hP : va_P (dC, dI) vwCl [(q1, .inr (7, [.ref b1, .int 0])), (q2, .inr (7, [.ref b2, .int 0])), (q3, .inr (7, [.ref b3, .int 0])), (h0, .inr (10, [.ref t0, .ref r0, .ref m0, .ref x0, v4, v5, v6, v7, v8, .int 0, .int (-1), .int 0])), (r0, .inl (cR, 4, .inr (.inr (.inr (.inr fR))))), (t0, .inr (7, [.ref tb, .int 0])), (q0, .inr (7, [.ref b0, .int 0]))] H := hP
    have hD : va_D A [(q1, .inr (7, [.ref b1, .int 0])), (q2, .inr (7, [.ref b2, .int 0])), (q3, .inr (7, [.ref b3, .int 0])), (h0, .inr (10, [.ref t0, .ref r0, .ref m0, .ref x0, v4, v5, v6, v7, v8, .int 0, .int (-1), .int 0])), (r0, .inl (cR, 4, .inr (.inr (.inr (.inr fR))))), (t0, .inr (7, [.ref tb, .int 0])), (q0, .inr (7, [.ref b0, .int 0]))] := hD
    have hK : va_K (dC, dI) vwCl [(cR, .object RX5)] s := hK
    try dsimp only at hw_17
    have k_18 := hw_17
    refine W_toi (y := 0) k_18 ?_
    have hP9 := hP.sub (ws' := []) [] rfl
    have hD9 := hD.sub (ws' := []) [] (by decide) rfl
    have hK9 := hK.sub (tys' := []) [] rfl
    exact W.iret (v := 0) hx hb hr (fun t ht hW => ⟨⟨0, (), rfl, (if_neg ho).symm, by rw [ht]; exact hP9, va_K.moved hW.alike hK9, hD9⟩, hS.F ht⟩) hS.2.2 dX8_load_53
  · refine W.eq (g2 := F0 m 5 ls [.ref q1]) rfl ?_
    refine lv_astore_n (lv' := [(2, .ref q1), (0, .ref h0), (1, .int p0)]) hx hb dX8_load_5 rfl hl (by decide) rfl (fun ls hl => ?_)
    refine lv_aload_n hx hb dX8_load_6 rfl (lv_at hl 0 rfl) ?_
    refine lv_ifnull hx hb dX8_load_7 ?_
    refine lv_aload_n hx hb dX8_load_10 rfl (lv_at hl 1 rfl) ?_
    refine va_get (D := (dC, dI)) (ci := 10) (v := .ref t0) (C := RX8) (T := TX8) (N := 12) hx hb hts iRX8 hown hK hP 5 rfl rfl 0 (by decide) (hts (.fieldLink RX8 14 "RecordBench" "tape" "LRecordBench$Row;") (by decide +kernel)) (fun _ h9 => h9) rfl dX8_load_11 ?_
    have hFc := va_free (wc := [(t0, .inr (7, [.ref tb, .int 0]))]) hD hS hA [4] rfl
    refine va_calli (va_runV (As := []) (rest := []) ⟨hx, hb, hml, hown, hts⟩ (c_X5_size l dC dI t0 tb 0 H.size) (cwV 0 hts gp_X8_load_X5_size_76 rfl rfl rfl (by decide +kernel) ⟨Nat.le_of_ble_eq_true rfl, Nat.le_of_ble_eq_true rfl⟩) ⟨Pr.blind _, va_recv hK hP (ci := 7) (q0 := 4) rfl rfl, fun U hU hW => ⟨rfl, Pr.at (hP.sub (ws' := [(t0, .inr (7, [.ref tb, .int 0]))]) [4] rfl) (hK.sub (tys' := []) [] rfl) (hD.sub (ws' := [(t0, .inr (7, [.ref tb, .int 0]))]) [4] (by decide) rfl) hN hZ hS hFc hU hW⟩⟩ rfl rfl hl.1 rfl (lv_room (Nat.le_of_ble_eq_true rfl)) dX8_load_14 ⟨Nat.le_of_ble_eq_true rfl, Nat.le_of_ble_eq_true rfl⟩) hS (fun q _ h => hFc q h) hFc (fun r_19 u t H1 locs ht hvm hw_20 hB hz1 hk1 hS => ?_)
    obtain ⟨hP, hD, hK⟩ := Bq.join (wr := [(q0, .inr (7, [.ref b0, .int 0])), (q1, .inr (7, [.ref b1, .int 0])), (q2, .inr (7, [.ref b2, .int 0])), (q3, .inr (7, [.ref b3, .int 0])), (h0, .inr (10, [.ref t0, .ref r0, .ref m0, .ref x0, v4, v5, v6, v7, v8, .int 0, .int (-1), .int 0])), (r0, .inl (cR, 4, .inr (.inr (.inr (.inr fR)))))]) hB ht hvm hP hD [4] [0, 1, 2, 3, 5, 6] rfl rfl (by decide) (by decide) hk1 hFc hK
    generalize H1 = H at hP hS ⊢
    have hP : va_P (dC, dI) vwCl [(q0, .inr (7, [.ref b0, .int 0])), (q1, .inr (7, [.ref b1, .int 0])), (q2, .inr (7, [.ref b2, .int 0])), (q3, .inr (7, [.ref b3, .int 0])), (h0, .inr (10, [.ref t0, .ref r0, .ref m0, .ref x0, v4, v5, v6, v7, v8, .int 0, .int (-1), .int 0])), (r0, .inl (cR, 4, .inr (.inr (.inr (.inr fR))))), (t0, .inr (7, [.ref tb, .int 0]))] H := hP
    have hD : va_D A [(q0, .inr (7, [.ref b0, .int 0])), (q1, .inr (7, [.ref b1, .int 0])), (q2, .inr (7, [.ref b2, .int 0])), (q3, .inr (7, [.ref b3, .int 0])), (h0, .inr (10, [.ref t0, .ref r0, .ref m0, .ref x0, v4, v5, v6, v7, v8, .int 0, .int (-1), .int 0])), (r0, .inl (cR, 4, .inr (.inr (.inr (.inr fR))))), (t0, .inr (7, [.ref tb, .int 0]))] := hD
    have hK : va_K (dC, dI) vwCl [(cR, .object RX5)] s := hK
    try dsimp only at hw_20
    have k_21 := hw_20
    refine W_toi (y := 0) k_21 ?_
    refine lv_bipush (v := 120) hx hb dX8_load_17 (by decide) ?_
    refine lv_icmp_le (tgt := 24) hx hb dX8_load_19 (by decide) (fun c_22 => ?_) (fun c_22 => absurd (by decide) c_22)
    refine lv_aload_n hx hb dX8_load_24 rfl (lv_at hl 0 rfl) ?_
    refine lv_aload_n hx hb dX8_load_25 rfl (lv_at hl 1 rfl) ?_
    refine va_get (D := (dC, dI)) (ci := 10) (v := .ref t0) (C := RX8) (T := TX8) (N := 12) hx hb hts iRX8 hown hK hP 4 rfl rfl 0 (by decide) (hts (.fieldLink RX8 14 "RecordBench" "tape" "LRecordBench$Row;") (by decide +kernel)) (fun _ h9 => h9) rfl dX8_load_26 ?_
    refine lv_iconst (v := 0) hx hb dX8_load_29 (by decide) ?_
    refine lv_aload_n hx hb dX8_load_30 rfl (lv_at hl 1 rfl) ?_
    refine va_get (D := (dC, dI)) (ci := 10) (v := .ref t0) (C := RX8) (T := TX8) (N := 12) hx hb hts iRX8 hown hK hP 4 rfl rfl 0 (by decide) (hts (.fieldLink RX8 14 "RecordBench" "tape" "LRecordBench$Row;") (by decide +kernel)) (fun _ h9 => h9) rfl dX8_load_31 ?_
    have hFc := va_free (wc := [(t0, .inr (7, [.ref tb, .int 0]))]) hD hS hA [6] rfl
    refine va_calli (va_runV (As := []) (rest := [.int 0, .ref t0, .ref q1]) ⟨hx, hb, hml, hown, hts⟩ (c_X5_size l dC dI t0 tb 0 H.size) (cwV 0 hts gp_X8_load_X5_size_76 rfl rfl rfl (by decide +kernel) ⟨Nat.le_of_ble_eq_true rfl, Nat.le_of_ble_eq_true rfl⟩) ⟨Pr.blind _, va_recv hK hP (ci := 7) (q0 := 6) rfl rfl, fun U hU hW => ⟨rfl, Pr.at (hP.sub (ws' := [(t0, .inr (7, [.ref tb, .int 0]))]) [6] rfl) (hK.sub (tys' := []) [] rfl) (hD.sub (ws' := [(t0, .inr (7, [.ref tb, .int 0]))]) [6] (by decide) rfl) hN hZ hS hFc hU hW⟩⟩ rfl rfl hl.1 rfl (lv_room (Nat.le_of_ble_eq_true rfl)) dX8_load_34 ⟨Nat.le_of_ble_eq_true rfl, Nat.le_of_ble_eq_true rfl⟩) hS (fun q _ h => hFc q h) hFc (fun r_23 u t H1 locs ht hvm hw_24 hB hz1 hk1 hS => ?_)
    obtain ⟨hP, hD, hK⟩ := Bq.join (wr := [(q0, .inr (7, [.ref b0, .int 0])), (q1, .inr (7, [.ref b1, .int 0])), (q2, .inr (7, [.ref b2, .int 0])), (q3, .inr (7, [.ref b3, .int 0])), (h0, .inr (10, [.ref t0, .ref r0, .ref m0, .ref x0, v4, v5, v6, v7, v8, .int 0, .int (-1), .int 0])), (r0, .inl (cR, 4, .inr (.inr (.inr (.inr fR)))))]) hB ht hvm hP hD [6] [0, 1, 2, 3, 4, 5] rfl rfl (by decide) (by decide) hk1 hFc hK
    generalize H1 = H at hP hS ⊢
    have hP : va_P (dC, dI) vwCl [(q0, .inr (7, [.ref b0, .int 0])), (q1, .inr (7, [.ref b1, .int 0])), (q2, .inr (7, [.ref b2, .int 0])), (q3, .inr (7, [.ref b3, .int 0])), (h0, .inr (10, [.ref t0, .ref r0, .ref m0, .ref x0, v4, v5, v6, v7, v8, .int 0, .int (-1), .int 0])), (r0, .inl (cR, 4, .inr (.inr (.inr (.inr fR))))), (t0, .inr (7, [.ref tb, .int 0]))] H := hP
    have hD : va_D A [(q0, .inr (7, [.ref b0, .int 0])), (q1, .inr (7, [.ref b1, .int 0])), (q2, .inr (7, [.ref b2, .int 0])), (q3, .inr (7, [.ref b3, .int 0])), (h0, .inr (10, [.ref t0, .ref r0, .ref m0, .ref x0, v4, v5, v6, v7, v8, .int 0, .int (-1), .int 0])), (r0, .inl (cR, 4, .inr (.inr (.inr (.inr fR))))), (t0, .inr (7, [.ref tb, .int 0]))] := hD
    have hK : va_K (dC, dI) vwCl [(cR, .object RX5)] s := hK
    try dsimp only at hw_24
    have k_25 := hw_24
    refine W_toi (y := 0) k_25 ?_
    have hFc := va_free (wc := [(q1, .inr (7, [.ref b1, .int 0])), (t0, .inr (7, [.ref tb, .int 0]))]) hD hS hA [1, 6] rfl
    refine va_callv (va_runV (As := [.ref t0, .int 0, .int 0]) (rest := []) ⟨hx, hb, hml, hown, hts⟩ (c_X5_become0 l dC dI q1 b1 0 t0 tb 0 H.size) (cwV 3 hts gp_X8_load_X5_become0_132 rfl rfl rfl (by decide +kernel) ⟨Nat.le_of_ble_eq_true rfl, Nat.le_of_ble_eq_true rfl⟩) ⟨Pr.blind _, va_recv hK hP (ci := 7) (q0 := 1) rfl rfl, fun U hU hW => ⟨rfl, Pr.at (hP.sub (ws' := [(q1, .inr (7, [.ref b1, .int 0])), (t0, .inr (7, [.ref tb, .int 0]))]) [1, 6] rfl) (hK.sub (tys' := []) [] rfl) (hD.sub (ws' := [(q1, .inr (7, [.ref b1, .int 0])), (t0, .inr (7, [.ref tb, .int 0]))]) [1, 6] (by decide) rfl) hN hZ hS hFc hU hW⟩⟩ rfl rfl hl.1 rfl (lv_room (Nat.le_of_ble_eq_true rfl)) dX8_load_37 ⟨Nat.le_of_ble_eq_true rfl, Nat.le_of_ble_eq_true rfl⟩) hS (fun q _ h => hFc q h) hFc (fun u t H1 locs ht hvm hw_27 hB hz1 hk1 hS => ?_)
    obtain ⟨hP, hD, hK⟩ := Bq.join (wr := [(q0, .inr (7, [.ref b0, .int 0])), (q2, .inr (7, [.ref b2, .int 0])), (q3, .inr (7, [.ref b3, .int 0])), (h0, .inr (10, [.ref t0, .ref r0, .ref m0, .ref x0, v4, v5, v6, v7, v8, .int 0, .int (-1), .int 0])), (r0, .inl (cR, 4, .inr (.inr (.inr (.inr fR)))))]) hB ht hvm hP hD [1, 6] [0, 2, 3, 4, 5] rfl rfl (by decide) (by decide) hk1 hFc hK
    generalize H1 = H at hP hS ⊢
    have hP : va_P (dC, dI) vwCl [(q0, .inr (7, [.ref b0, .int 0])), (q2, .inr (7, [.ref b2, .int 0])), (q3, .inr (7, [.ref b3, .int 0])), (h0, .inr (10, [.ref t0, .ref r0, .ref m0, .ref x0, v4, v5, v6, v7, v8, .int 0, .int (-1), .int 0])), (r0, .inl (cR, 4, .inr (.inr (.inr (.inr fR))))), (q1, .inr (7, [.ref b1, .int 0])), (t0, .inr (7, [.ref tb, .int 0]))] H := hP
    have hD : va_D A [(q0, .inr (7, [.ref b0, .int 0])), (q2, .inr (7, [.ref b2, .int 0])), (q3, .inr (7, [.ref b3, .int 0])), (h0, .inr (10, [.ref t0, .ref r0, .ref m0, .ref x0, v4, v5, v6, v7, v8, .int 0, .int (-1), .int 0])), (r0, .inl (cR, 4, .inr (.inr (.inr (.inr fR))))), (q1, .inr (7, [.ref b1, .int 0])), (t0, .inr (7, [.ref tb, .int 0]))] := hD
    have hK : va_K (dC, dI) vwCl [(cR, .object RX5)] s := hK
    refine lv_aload_n hx hb dX8_load_40 rfl (lv_at hl 1 rfl) ?_
    refine va_get (D := (dC, dI)) (ci := 10) (v := .ref t0) (C := RX8) (T := TX8) (N := 12) hx hb hts iRX8 hown hK hP 3 rfl rfl 0 (by decide) (hts (.fieldLink RX8 14 "RecordBench" "tape" "LRecordBench$Row;") (by decide +kernel)) (fun _ h9 => h9) rfl dX8_load_41 ?_
    refine lv_iconst (v := 0) hx hb dX8_load_44 (by decide) ?_
    have hFc := va_free (wc := [(t0, .inr (7, [.ref tb, .int 0]))]) hD hS hA [6] rfl
    refine va_calli (va_runV (As := [.int 0]) (rest := []) ⟨hx, hb, hml, hown, hts⟩ (c_X5_cut0 l dC dI t0 tb H.size) (cwV 1 hts gp_X8_load_X5_cut0_83 rfl rfl rfl (by decide +kernel) ⟨Nat.le_of_ble_eq_true rfl, Nat.le_of_ble_eq_true rfl⟩) ⟨Pr.blind _, va_recv hK hP (ci := 7) (q0 := 6) rfl rfl, fun U hU hW => ⟨rfl, Pr.at (hP.sub (ws' := [(t0, .inr (7, [.ref tb, .int 0]))]) [6] rfl) (hK.sub (tys' := []) [] rfl) (hD.sub (ws' := [(t0, .inr (7, [.ref tb, .int 0]))]) [6] (by decide) rfl) hN hZ hS hFc hU hW⟩⟩ rfl rfl hl.1 rfl (lv_room (Nat.le_of_ble_eq_true rfl)) dX8_load_45 ⟨Nat.le_of_ble_eq_true rfl, Nat.le_of_ble_eq_true rfl⟩) hS (fun q _ h => hFc q h) hFc (fun r_28 u t H1 locs ht hvm hw_29 hB hz1 hk1 hS => ?_)
    obtain ⟨hP, hD, hK⟩ := Bq.join (wr := [(q0, .inr (7, [.ref b0, .int 0])), (q2, .inr (7, [.ref b2, .int 0])), (q3, .inr (7, [.ref b3, .int 0])), (h0, .inr (10, [.ref t0, .ref r0, .ref m0, .ref x0, v4, v5, v6, v7, v8, .int 0, .int (-1), .int 0])), (r0, .inl (cR, 4, .inr (.inr (.inr (.inr fR))))), (q1, .inr (7, [.ref b1, .int 0]))]) hB ht hvm hP hD [6] [0, 1, 2, 3, 4, 5] rfl rfl (by decide) (by decide) hk1 hFc hK
    generalize H1 = H at hP hS ⊢
    have hP : va_P (dC, dI) vwCl [(q0, .inr (7, [.ref b0, .int 0])), (q2, .inr (7, [.ref b2, .int 0])), (q3, .inr (7, [.ref b3, .int 0])), (h0, .inr (10, [.ref t0, .ref r0, .ref m0, .ref x0, v4, v5, v6, v7, v8, .int 0, .int (-1), .int 0])), (r0, .inl (cR, 4, .inr (.inr (.inr (.inr fR))))), (q1, .inr (7, [.ref b1, .int 0])), (t0, .inr (7, [.ref tb, .int 0]))] H := hP
    have hD : va_D A [(q0, .inr (7, [.ref b0, .int 0])), (q2, .inr (7, [.ref b2, .int 0])), (q3, .inr (7, [.ref b3, .int 0])), (h0, .inr (10, [.ref t0, .ref r0, .ref m0, .ref x0, v4, v5, v6, v7, v8, .int 0, .int (-1), .int 0])), (r0, .inl (cR, 4, .inr (.inr (.inr (.inr fR))))), (q1, .inr (7, [.ref b1, .int 0])), (t0, .inr (7, [.ref tb, .int 0]))] := hD
    have hK : va_K (dC, dI) vwCl [(cR, .object RX5)] s := hK
    try dsimp only at hw_29
    have k_30 := hw_29
    refine W_toi (y := 1) k_30 ?_
    refine lv_pop hx hb dX8_load_48 rfl ?_
    refine lv_aload_n hx hb dX8_load_49 rfl (lv_at hl 0 rfl) ?_
    have hFc := va_free (wc := [(q1, .inr (7, [.ref b1, .int 0]))]) hD hS hA [5] rfl
    refine va_calli (va_runV (As := []) (rest := []) ⟨hx, hb, hml, hown, hts⟩ (c_X5_size l dC dI q1 b1 0 H.size) (cwV 0 hts gp_X8_load_X5_size_76 rfl rfl rfl (by decide +kernel) ⟨Nat.le_of_ble_eq_true rfl, Nat.le_of_ble_eq_true rfl⟩) ⟨Pr.blind _, va_recv hK hP (ci := 7) (q0 := 5) rfl rfl, fun U hU hW => ⟨rfl, Pr.at (hP.sub (ws' := [(q1, .inr (7, [.ref b1, .int 0]))]) [5] rfl) (hK.sub (tys' := []) [] rfl) (hD.sub (ws' := [(q1, .inr (7, [.ref b1, .int 0]))]) [5] (by decide) rfl) hN hZ hS hFc hU hW⟩⟩ rfl rfl hl.1 rfl (lv_room (Nat.le_of_ble_eq_true rfl)) dX8_load_50 ⟨Nat.le_of_ble_eq_true rfl, Nat.le_of_ble_eq_true rfl⟩) hS (fun q _ h => hFc q h) hFc (fun r_31 u t H1 locs ht hvm hw_32 hB hz1 hk1 hS => ?_)
    obtain ⟨hP, hD, hK⟩ := Bq.join (wr := [(q0, .inr (7, [.ref b0, .int 0])), (q2, .inr (7, [.ref b2, .int 0])), (q3, .inr (7, [.ref b3, .int 0])), (h0, .inr (10, [.ref t0, .ref r0, .ref m0, .ref x0, v4, v5, v6, v7, v8, .int 0, .int (-1), .int 0])), (r0, .inl (cR, 4, .inr (.inr (.inr (.inr fR))))), (t0, .inr (7, [.ref tb, .int 0]))]) hB ht hvm hP hD [5] [0, 1, 2, 3, 4, 6] rfl rfl (by decide) (by decide) hk1 hFc hK
    generalize H1 = H at hP hS ⊢
    have hP : va_P (dC, dI) vwCl [(q0, .inr (7, [.ref b0, .int 0])), (q2, .inr (7, [.ref b2, .int 0])), (q3, .inr (7, [.ref b3, .int 0])), (h0, .inr (10, [.ref t0, .ref r0, .ref m0, .ref x0, v4, v5, v6, v7, v8, .int 0, .int (-1), .int 0])), (r0, .inl (cR, 4, .inr (.inr (.inr (.inr fR))))), (t0, .inr (7, [.ref tb, .int 0])), (q1, .inr (7, [.ref b1, .int 0]))] H := hP
    have hD : va_D A [(q0, .inr (7, [.ref b0, .int 0])), (q2, .inr (7, [.ref b2, .int 0])), (q3, .inr (7, [.ref b3, .int 0])), (h0, .inr (10, [.ref t0, .ref r0, .ref m0, .ref x0, v4, v5, v6, v7, v8, .int 0, .int (-1), .int 0])), (r0, .inl (cR, 4, .inr (.inr (.inr (.inr fR))))), (t0, .inr (7, [.ref tb, .int 0])), (q1, .inr (7, [.ref b1, .int 0]))] := hD
    have hK : va_K (dC, dI) vwCl [(cR, .object RX5)] s := hK
    try dsimp only at hw_32
    have k_33 := hw_32
    refine W_toi (y := 0) k_33 ?_
    have hP9 := hP.sub (ws' := []) [] rfl
    have hD9 := hD.sub (ws' := []) [] (by decide) rfl
    have hK9 := hK.sub (tys' := []) [] rfl
    exact W.iret (v := 0) hx hb hr (fun t ht hW => ⟨⟨0, (), rfl, (if_neg ho).symm, by rw [ht]; exact hP9, va_K.moved hW.alike hK9, hD9⟩, hS.F ht⟩) hS.2.2 dX8_load_53
  · refine W.eq (g2 := F0 m 5 ls [.ref q2]) rfl ?_
    refine lv_astore_n (lv' := [(2, .ref q2), (0, .ref h0), (1, .int p0)]) hx hb dX8_load_5 rfl hl (by decide) rfl (fun ls hl => ?_)
    refine lv_aload_n hx hb dX8_load_6 rfl (lv_at hl 0 rfl) ?_
    refine lv_ifnull hx hb dX8_load_7 ?_
    refine lv_aload_n hx hb dX8_load_10 rfl (lv_at hl 1 rfl) ?_
    refine va_get (D := (dC, dI)) (ci := 10) (v := .ref t0) (C := RX8) (T := TX8) (N := 12) hx hb hts iRX8 hown hK hP 5 rfl rfl 0 (by decide) (hts (.fieldLink RX8 14 "RecordBench" "tape" "LRecordBench$Row;") (by decide +kernel)) (fun _ h9 => h9) rfl dX8_load_11 ?_
    have hFc := va_free (wc := [(t0, .inr (7, [.ref tb, .int 0]))]) hD hS hA [4] rfl
    refine va_calli (va_runV (As := []) (rest := []) ⟨hx, hb, hml, hown, hts⟩ (c_X5_size l dC dI t0 tb 0 H.size) (cwV 0 hts gp_X8_load_X5_size_76 rfl rfl rfl (by decide +kernel) ⟨Nat.le_of_ble_eq_true rfl, Nat.le_of_ble_eq_true rfl⟩) ⟨Pr.blind _, va_recv hK hP (ci := 7) (q0 := 4) rfl rfl, fun U hU hW => ⟨rfl, Pr.at (hP.sub (ws' := [(t0, .inr (7, [.ref tb, .int 0]))]) [4] rfl) (hK.sub (tys' := []) [] rfl) (hD.sub (ws' := [(t0, .inr (7, [.ref tb, .int 0]))]) [4] (by decide) rfl) hN hZ hS hFc hU hW⟩⟩ rfl rfl hl.1 rfl (lv_room (Nat.le_of_ble_eq_true rfl)) dX8_load_14 ⟨Nat.le_of_ble_eq_true rfl, Nat.le_of_ble_eq_true rfl⟩) hS (fun q _ h => hFc q h) hFc (fun r_34 u t H1 locs ht hvm hw_35 hB hz1 hk1 hS => ?_)
    obtain ⟨hP, hD, hK⟩ := Bq.join (wr := [(q0, .inr (7, [.ref b0, .int 0])), (q1, .inr (7, [.ref b1, .int 0])), (q2, .inr (7, [.ref b2, .int 0])), (q3, .inr (7, [.ref b3, .int 0])), (h0, .inr (10, [.ref t0, .ref r0, .ref m0, .ref x0, v4, v5, v6, v7, v8, .int 0, .int (-1), .int 0])), (r0, .inl (cR, 4, .inr (.inr (.inr (.inr fR)))))]) hB ht hvm hP hD [4] [0, 1, 2, 3, 5, 6] rfl rfl (by decide) (by decide) hk1 hFc hK
    generalize H1 = H at hP hS ⊢
    have hP : va_P (dC, dI) vwCl [(q0, .inr (7, [.ref b0, .int 0])), (q1, .inr (7, [.ref b1, .int 0])), (q2, .inr (7, [.ref b2, .int 0])), (q3, .inr (7, [.ref b3, .int 0])), (h0, .inr (10, [.ref t0, .ref r0, .ref m0, .ref x0, v4, v5, v6, v7, v8, .int 0, .int (-1), .int 0])), (r0, .inl (cR, 4, .inr (.inr (.inr (.inr fR))))), (t0, .inr (7, [.ref tb, .int 0]))] H := hP
    have hD : va_D A [(q0, .inr (7, [.ref b0, .int 0])), (q1, .inr (7, [.ref b1, .int 0])), (q2, .inr (7, [.ref b2, .int 0])), (q3, .inr (7, [.ref b3, .int 0])), (h0, .inr (10, [.ref t0, .ref r0, .ref m0, .ref x0, v4, v5, v6, v7, v8, .int 0, .int (-1), .int 0])), (r0, .inl (cR, 4, .inr (.inr (.inr (.inr fR))))), (t0, .inr (7, [.ref tb, .int 0]))] := hD
    have hK : va_K (dC, dI) vwCl [(cR, .object RX5)] s := hK
    try dsimp only at hw_35
    have k_36 := hw_35
    refine W_toi (y := 0) k_36 ?_
    refine lv_bipush (v := 120) hx hb dX8_load_17 (by decide) ?_
    refine lv_icmp_le (tgt := 24) hx hb dX8_load_19 (by decide) (fun c_37 => ?_) (fun c_37 => absurd (by decide) c_37)
    refine lv_aload_n hx hb dX8_load_24 rfl (lv_at hl 0 rfl) ?_
    refine lv_aload_n hx hb dX8_load_25 rfl (lv_at hl 1 rfl) ?_
    refine va_get (D := (dC, dI)) (ci := 10) (v := .ref t0) (C := RX8) (T := TX8) (N := 12) hx hb hts iRX8 hown hK hP 4 rfl rfl 0 (by decide) (hts (.fieldLink RX8 14 "RecordBench" "tape" "LRecordBench$Row;") (by decide +kernel)) (fun _ h9 => h9) rfl dX8_load_26 ?_
    refine lv_iconst (v := 0) hx hb dX8_load_29 (by decide) ?_
    refine lv_aload_n hx hb dX8_load_30 rfl (lv_at hl 1 rfl) ?_
    refine va_get (D := (dC, dI)) (ci := 10) (v := .ref t0) (C := RX8) (T := TX8) (N := 12) hx hb hts iRX8 hown hK hP 4 rfl rfl 0 (by decide) (hts (.fieldLink RX8 14 "RecordBench" "tape" "LRecordBench$Row;") (by decide +kernel)) (fun _ h9 => h9) rfl dX8_load_31 ?_
    have hFc := va_free (wc := [(t0, .inr (7, [.ref tb, .int 0]))]) hD hS hA [6] rfl
    refine va_calli (va_runV (As := []) (rest := [.int 0, .ref t0, .ref q2]) ⟨hx, hb, hml, hown, hts⟩ (c_X5_size l dC dI t0 tb 0 H.size) (cwV 0 hts gp_X8_load_X5_size_76 rfl rfl rfl (by decide +kernel) ⟨Nat.le_of_ble_eq_true rfl, Nat.le_of_ble_eq_true rfl⟩) ⟨Pr.blind _, va_recv hK hP (ci := 7) (q0 := 6) rfl rfl, fun U hU hW => ⟨rfl, Pr.at (hP.sub (ws' := [(t0, .inr (7, [.ref tb, .int 0]))]) [6] rfl) (hK.sub (tys' := []) [] rfl) (hD.sub (ws' := [(t0, .inr (7, [.ref tb, .int 0]))]) [6] (by decide) rfl) hN hZ hS hFc hU hW⟩⟩ rfl rfl hl.1 rfl (lv_room (Nat.le_of_ble_eq_true rfl)) dX8_load_34 ⟨Nat.le_of_ble_eq_true rfl, Nat.le_of_ble_eq_true rfl⟩) hS (fun q _ h => hFc q h) hFc (fun r_38 u t H1 locs ht hvm hw_39 hB hz1 hk1 hS => ?_)
    obtain ⟨hP, hD, hK⟩ := Bq.join (wr := [(q0, .inr (7, [.ref b0, .int 0])), (q1, .inr (7, [.ref b1, .int 0])), (q2, .inr (7, [.ref b2, .int 0])), (q3, .inr (7, [.ref b3, .int 0])), (h0, .inr (10, [.ref t0, .ref r0, .ref m0, .ref x0, v4, v5, v6, v7, v8, .int 0, .int (-1), .int 0])), (r0, .inl (cR, 4, .inr (.inr (.inr (.inr fR)))))]) hB ht hvm hP hD [6] [0, 1, 2, 3, 4, 5] rfl rfl (by decide) (by decide) hk1 hFc hK
    generalize H1 = H at hP hS ⊢
    have hP : va_P (dC, dI) vwCl [(q0, .inr (7, [.ref b0, .int 0])), (q1, .inr (7, [.ref b1, .int 0])), (q2, .inr (7, [.ref b2, .int 0])), (q3, .inr (7, [.ref b3, .int 0])), (h0, .inr (10, [.ref t0, .ref r0, .ref m0, .ref x0, v4, v5, v6, v7, v8, .int 0, .int (-1), .int 0])), (r0, .inl (cR, 4, .inr (.inr (.inr (.inr fR))))), (t0, .inr (7, [.ref tb, .int 0]))] H := hP
    have hD : va_D A [(q0, .inr (7, [.ref b0, .int 0])), (q1, .inr (7, [.ref b1, .int 0])), (q2, .inr (7, [.ref b2, .int 0])), (q3, .inr (7, [.ref b3, .int 0])), (h0, .inr (10, [.ref t0, .ref r0, .ref m0, .ref x0, v4, v5, v6, v7, v8, .int 0, .int (-1), .int 0])), (r0, .inl (cR, 4, .inr (.inr (.inr (.inr fR))))), (t0, .inr (7, [.ref tb, .int 0]))] := hD
    have hK : va_K (dC, dI) vwCl [(cR, .object RX5)] s := hK
    try dsimp only at hw_39
    have k_40 := hw_39
    refine W_toi (y := 0) k_40 ?_
    have hFc := va_free (wc := [(q2, .inr (7, [.ref b2, .int 0])), (t0, .inr (7, [.ref tb, .int 0]))]) hD hS hA [2, 6] rfl
    refine va_callv (va_runV (As := [.ref t0, .int 0, .int 0]) (rest := []) ⟨hx, hb, hml, hown, hts⟩ (c_X5_become0 l dC dI q2 b2 0 t0 tb 0 H.size) (cwV 3 hts gp_X8_load_X5_become0_132 rfl rfl rfl (by decide +kernel) ⟨Nat.le_of_ble_eq_true rfl, Nat.le_of_ble_eq_true rfl⟩) ⟨Pr.blind _, va_recv hK hP (ci := 7) (q0 := 2) rfl rfl, fun U hU hW => ⟨rfl, Pr.at (hP.sub (ws' := [(q2, .inr (7, [.ref b2, .int 0])), (t0, .inr (7, [.ref tb, .int 0]))]) [2, 6] rfl) (hK.sub (tys' := []) [] rfl) (hD.sub (ws' := [(q2, .inr (7, [.ref b2, .int 0])), (t0, .inr (7, [.ref tb, .int 0]))]) [2, 6] (by decide) rfl) hN hZ hS hFc hU hW⟩⟩ rfl rfl hl.1 rfl (lv_room (Nat.le_of_ble_eq_true rfl)) dX8_load_37 ⟨Nat.le_of_ble_eq_true rfl, Nat.le_of_ble_eq_true rfl⟩) hS (fun q _ h => hFc q h) hFc (fun u t H1 locs ht hvm hw_42 hB hz1 hk1 hS => ?_)
    obtain ⟨hP, hD, hK⟩ := Bq.join (wr := [(q0, .inr (7, [.ref b0, .int 0])), (q1, .inr (7, [.ref b1, .int 0])), (q3, .inr (7, [.ref b3, .int 0])), (h0, .inr (10, [.ref t0, .ref r0, .ref m0, .ref x0, v4, v5, v6, v7, v8, .int 0, .int (-1), .int 0])), (r0, .inl (cR, 4, .inr (.inr (.inr (.inr fR)))))]) hB ht hvm hP hD [2, 6] [0, 1, 3, 4, 5] rfl rfl (by decide) (by decide) hk1 hFc hK
    generalize H1 = H at hP hS ⊢
    have hP : va_P (dC, dI) vwCl [(q0, .inr (7, [.ref b0, .int 0])), (q1, .inr (7, [.ref b1, .int 0])), (q3, .inr (7, [.ref b3, .int 0])), (h0, .inr (10, [.ref t0, .ref r0, .ref m0, .ref x0, v4, v5, v6, v7, v8, .int 0, .int (-1), .int 0])), (r0, .inl (cR, 4, .inr (.inr (.inr (.inr fR))))), (q2, .inr (7, [.ref b2, .int 0])), (t0, .inr (7, [.ref tb, .int 0]))] H := hP
    have hD : va_D A [(q0, .inr (7, [.ref b0, .int 0])), (q1, .inr (7, [.ref b1, .int 0])), (q3, .inr (7, [.ref b3, .int 0])), (h0, .inr (10, [.ref t0, .ref r0, .ref m0, .ref x0, v4, v5, v6, v7, v8, .int 0, .int (-1), .int 0])), (r0, .inl (cR, 4, .inr (.inr (.inr (.inr fR))))), (q2, .inr (7, [.ref b2, .int 0])), (t0, .inr (7, [.ref tb, .int 0]))] := hD
    have hK : va_K (dC, dI) vwCl [(cR, .object RX5)] s := hK
    refine lv_aload_n hx hb dX8_load_40 rfl (lv_at hl 1 rfl) ?_
    refine va_get (D := (dC, dI)) (ci := 10) (v := .ref t0) (C := RX8) (T := TX8) (N := 12) hx hb hts iRX8 hown hK hP 3 rfl rfl 0 (by decide) (hts (.fieldLink RX8 14 "RecordBench" "tape" "LRecordBench$Row;") (by decide +kernel)) (fun _ h9 => h9) rfl dX8_load_41 ?_
    refine lv_iconst (v := 0) hx hb dX8_load_44 (by decide) ?_
    have hFc := va_free (wc := [(t0, .inr (7, [.ref tb, .int 0]))]) hD hS hA [6] rfl
    refine va_calli (va_runV (As := [.int 0]) (rest := []) ⟨hx, hb, hml, hown, hts⟩ (c_X5_cut0 l dC dI t0 tb H.size) (cwV 1 hts gp_X8_load_X5_cut0_83 rfl rfl rfl (by decide +kernel) ⟨Nat.le_of_ble_eq_true rfl, Nat.le_of_ble_eq_true rfl⟩) ⟨Pr.blind _, va_recv hK hP (ci := 7) (q0 := 6) rfl rfl, fun U hU hW => ⟨rfl, Pr.at (hP.sub (ws' := [(t0, .inr (7, [.ref tb, .int 0]))]) [6] rfl) (hK.sub (tys' := []) [] rfl) (hD.sub (ws' := [(t0, .inr (7, [.ref tb, .int 0]))]) [6] (by decide) rfl) hN hZ hS hFc hU hW⟩⟩ rfl rfl hl.1 rfl (lv_room (Nat.le_of_ble_eq_true rfl)) dX8_load_45 ⟨Nat.le_of_ble_eq_true rfl, Nat.le_of_ble_eq_true rfl⟩) hS (fun q _ h => hFc q h) hFc (fun r_43 u t H1 locs ht hvm hw_44 hB hz1 hk1 hS => ?_)
    obtain ⟨hP, hD, hK⟩ := Bq.join (wr := [(q0, .inr (7, [.ref b0, .int 0])), (q1, .inr (7, [.ref b1, .int 0])), (q3, .inr (7, [.ref b3, .int 0])), (h0, .inr (10, [.ref t0, .ref r0, .ref m0, .ref x0, v4, v5, v6, v7, v8, .int 0, .int (-1), .int 0])), (r0, .inl (cR, 4, .inr (.inr (.inr (.inr fR))))), (q2, .inr (7, [.ref b2, .int 0]))]) hB ht hvm hP hD [6] [0, 1, 2, 3, 4, 5] rfl rfl (by decide) (by decide) hk1 hFc hK
    generalize H1 = H at hP hS ⊢
    have hP : va_P (dC, dI) vwCl [(q0, .inr (7, [.ref b0, .int 0])), (q1, .inr (7, [.ref b1, .int 0])), (q3, .inr (7, [.ref b3, .int 0])), (h0, .inr (10, [.ref t0, .ref r0, .ref m0, .ref x0, v4, v5, v6, v7, v8, .int 0, .int (-1), .int 0])), (r0, .inl (cR, 4, .inr (.inr (.inr (.inr fR))))), (q2, .inr (7, [.ref b2, .int 0])), (t0, .inr (7, [.ref tb, .int 0]))] H := hP
    have hD : va_D A [(q0, .inr (7, [.ref b0, .int 0])), (q1, .inr (7, [.ref b1, .int 0])), (q3, .inr (7, [.ref b3, .int 0])), (h0, .inr (10, [.ref t0, .ref r0, .ref m0, .ref x0, v4, v5, v6, v7, v8, .int 0, .int (-1), .int 0])), (r0, .inl (cR, 4, .inr (.inr (.inr (.inr fR))))), (q2, .inr (7, [.ref b2, .int 0])), (t0, .inr (7, [.ref tb, .int 0]))] := hD
    have hK : va_K (dC, dI) vwCl [(cR, .object RX5)] s := hK
    try dsimp only at hw_44
    have k_45 := hw_44
    refine W_toi (y := 1) k_45 ?_
    refine lv_pop hx hb dX8_load_48 rfl ?_
    refine lv_aload_n hx hb dX8_load_49 rfl (lv_at hl 0 rfl) ?_
    have hFc := va_free (wc := [(q2, .inr (7, [.ref b2, .int 0]))]) hD hS hA [5] rfl
    refine va_calli (va_runV (As := []) (rest := []) ⟨hx, hb, hml, hown, hts⟩ (c_X5_size l dC dI q2 b2 0 H.size) (cwV 0 hts gp_X8_load_X5_size_76 rfl rfl rfl (by decide +kernel) ⟨Nat.le_of_ble_eq_true rfl, Nat.le_of_ble_eq_true rfl⟩) ⟨Pr.blind _, va_recv hK hP (ci := 7) (q0 := 5) rfl rfl, fun U hU hW => ⟨rfl, Pr.at (hP.sub (ws' := [(q2, .inr (7, [.ref b2, .int 0]))]) [5] rfl) (hK.sub (tys' := []) [] rfl) (hD.sub (ws' := [(q2, .inr (7, [.ref b2, .int 0]))]) [5] (by decide) rfl) hN hZ hS hFc hU hW⟩⟩ rfl rfl hl.1 rfl (lv_room (Nat.le_of_ble_eq_true rfl)) dX8_load_50 ⟨Nat.le_of_ble_eq_true rfl, Nat.le_of_ble_eq_true rfl⟩) hS (fun q _ h => hFc q h) hFc (fun r_46 u t H1 locs ht hvm hw_47 hB hz1 hk1 hS => ?_)
    obtain ⟨hP, hD, hK⟩ := Bq.join (wr := [(q0, .inr (7, [.ref b0, .int 0])), (q1, .inr (7, [.ref b1, .int 0])), (q3, .inr (7, [.ref b3, .int 0])), (h0, .inr (10, [.ref t0, .ref r0, .ref m0, .ref x0, v4, v5, v6, v7, v8, .int 0, .int (-1), .int 0])), (r0, .inl (cR, 4, .inr (.inr (.inr (.inr fR))))), (t0, .inr (7, [.ref tb, .int 0]))]) hB ht hvm hP hD [5] [0, 1, 2, 3, 4, 6] rfl rfl (by decide) (by decide) hk1 hFc hK
    generalize H1 = H at hP hS ⊢
    have hP : va_P (dC, dI) vwCl [(q0, .inr (7, [.ref b0, .int 0])), (q1, .inr (7, [.ref b1, .int 0])), (q3, .inr (7, [.ref b3, .int 0])), (h0, .inr (10, [.ref t0, .ref r0, .ref m0, .ref x0, v4, v5, v6, v7, v8, .int 0, .int (-1), .int 0])), (r0, .inl (cR, 4, .inr (.inr (.inr (.inr fR))))), (t0, .inr (7, [.ref tb, .int 0])), (q2, .inr (7, [.ref b2, .int 0]))] H := hP
    have hD : va_D A [(q0, .inr (7, [.ref b0, .int 0])), (q1, .inr (7, [.ref b1, .int 0])), (q3, .inr (7, [.ref b3, .int 0])), (h0, .inr (10, [.ref t0, .ref r0, .ref m0, .ref x0, v4, v5, v6, v7, v8, .int 0, .int (-1), .int 0])), (r0, .inl (cR, 4, .inr (.inr (.inr (.inr fR))))), (t0, .inr (7, [.ref tb, .int 0])), (q2, .inr (7, [.ref b2, .int 0]))] := hD
    have hK : va_K (dC, dI) vwCl [(cR, .object RX5)] s := hK
    try dsimp only at hw_47
    have k_48 := hw_47
    refine W_toi (y := 0) k_48 ?_
    have hP9 := hP.sub (ws' := []) [] rfl
    have hD9 := hD.sub (ws' := []) [] (by decide) rfl
    have hK9 := hK.sub (tys' := []) [] rfl
    exact W.iret (v := 0) hx hb hr (fun t ht hW => ⟨⟨0, (), rfl, (if_neg ho).symm, by rw [ht]; exact hP9, va_K.moved hW.alike hK9, hD9⟩, hS.F ht⟩) hS.2.2 dX8_load_53
  · refine W.eq (g2 := F0 m 5 ls [.ref q3]) rfl ?_
    refine lv_astore_n (lv' := [(2, .ref q3), (0, .ref h0), (1, .int p0)]) hx hb dX8_load_5 rfl hl (by decide) rfl (fun ls hl => ?_)
    refine lv_aload_n hx hb dX8_load_6 rfl (lv_at hl 0 rfl) ?_
    refine lv_ifnull hx hb dX8_load_7 ?_
    refine lv_aload_n hx hb dX8_load_10 rfl (lv_at hl 1 rfl) ?_
    refine va_get (D := (dC, dI)) (ci := 10) (v := .ref t0) (C := RX8) (T := TX8) (N := 12) hx hb hts iRX8 hown hK hP 5 rfl rfl 0 (by decide) (hts (.fieldLink RX8 14 "RecordBench" "tape" "LRecordBench$Row;") (by decide +kernel)) (fun _ h9 => h9) rfl dX8_load_11 ?_
    have hFc := va_free (wc := [(t0, .inr (7, [.ref tb, .int 0]))]) hD hS hA [4] rfl
    refine va_calli (va_runV (As := []) (rest := []) ⟨hx, hb, hml, hown, hts⟩ (c_X5_size l dC dI t0 tb 0 H.size) (cwV 0 hts gp_X8_load_X5_size_76 rfl rfl rfl (by decide +kernel) ⟨Nat.le_of_ble_eq_true rfl, Nat.le_of_ble_eq_true rfl⟩) ⟨Pr.blind _, va_recv hK hP (ci := 7) (q0 := 4) rfl rfl, fun U hU hW => ⟨rfl, Pr.at (hP.sub (ws' := [(t0, .inr (7, [.ref tb, .int 0]))]) [4] rfl) (hK.sub (tys' := []) [] rfl) (hD.sub (ws' := [(t0, .inr (7, [.ref tb, .int 0]))]) [4] (by decide) rfl) hN hZ hS hFc hU hW⟩⟩ rfl rfl hl.1 rfl (lv_room (Nat.le_of_ble_eq_true rfl)) dX8_load_14 ⟨Nat.le_of_ble_eq_true rfl, Nat.le_of_ble_eq_true rfl⟩) hS (fun q _ h => hFc q h) hFc (fun r_49 u t H1 locs ht hvm hw_50 hB hz1 hk1 hS => ?_)
    obtain ⟨hP, hD, hK⟩ := Bq.join (wr := [(q0, .inr (7, [.ref b0, .int 0])), (q1, .inr (7, [.ref b1, .int 0])), (q2, .inr (7, [.ref b2, .int 0])), (q3, .inr (7, [.ref b3, .int 0])), (h0, .inr (10, [.ref t0, .ref r0, .ref m0, .ref x0, v4, v5, v6, v7, v8, .int 0, .int (-1), .int 0])), (r0, .inl (cR, 4, .inr (.inr (.inr (.inr fR)))))]) hB ht hvm hP hD [4] [0, 1, 2, 3, 5, 6] rfl rfl (by decide) (by decide) hk1 hFc hK
    generalize H1 = H at hP hS ⊢
    have hP : va_P (dC, dI) vwCl [(q0, .inr (7, [.ref b0, .int 0])), (q1, .inr (7, [.ref b1, .int 0])), (q2, .inr (7, [.ref b2, .int 0])), (q3, .inr (7, [.ref b3, .int 0])), (h0, .inr (10, [.ref t0, .ref r0, .ref m0, .ref x0, v4, v5, v6, v7, v8, .int 0, .int (-1), .int 0])), (r0, .inl (cR, 4, .inr (.inr (.inr (.inr fR))))), (t0, .inr (7, [.ref tb, .int 0]))] H := hP
    have hD : va_D A [(q0, .inr (7, [.ref b0, .int 0])), (q1, .inr (7, [.ref b1, .int 0])), (q2, .inr (7, [.ref b2, .int 0])), (q3, .inr (7, [.ref b3, .int 0])), (h0, .inr (10, [.ref t0, .ref r0, .ref m0, .ref x0, v4, v5, v6, v7, v8, .int 0, .int (-1), .int 0])), (r0, .inl (cR, 4, .inr (.inr (.inr (.inr fR))))), (t0, .inr (7, [.ref tb, .int 0]))] := hD
    have hK : va_K (dC, dI) vwCl [(cR, .object RX5)] s := hK
    try dsimp only at hw_50
    have k_51 := hw_50
    refine W_toi (y := 0) k_51 ?_
    refine lv_bipush (v := 120) hx hb dX8_load_17 (by decide) ?_
    refine lv_icmp_le (tgt := 24) hx hb dX8_load_19 (by decide) (fun c_52 => ?_) (fun c_52 => absurd (by decide) c_52)
    refine lv_aload_n hx hb dX8_load_24 rfl (lv_at hl 0 rfl) ?_
    refine lv_aload_n hx hb dX8_load_25 rfl (lv_at hl 1 rfl) ?_
    refine va_get (D := (dC, dI)) (ci := 10) (v := .ref t0) (C := RX8) (T := TX8) (N := 12) hx hb hts iRX8 hown hK hP 4 rfl rfl 0 (by decide) (hts (.fieldLink RX8 14 "RecordBench" "tape" "LRecordBench$Row;") (by decide +kernel)) (fun _ h9 => h9) rfl dX8_load_26 ?_
    refine lv_iconst (v := 0) hx hb dX8_load_29 (by decide) ?_
    refine lv_aload_n hx hb dX8_load_30 rfl (lv_at hl 1 rfl) ?_
    refine va_get (D := (dC, dI)) (ci := 10) (v := .ref t0) (C := RX8) (T := TX8) (N := 12) hx hb hts iRX8 hown hK hP 4 rfl rfl 0 (by decide) (hts (.fieldLink RX8 14 "RecordBench" "tape" "LRecordBench$Row;") (by decide +kernel)) (fun _ h9 => h9) rfl dX8_load_31 ?_
    have hFc := va_free (wc := [(t0, .inr (7, [.ref tb, .int 0]))]) hD hS hA [6] rfl
    refine va_calli (va_runV (As := []) (rest := [.int 0, .ref t0, .ref q3]) ⟨hx, hb, hml, hown, hts⟩ (c_X5_size l dC dI t0 tb 0 H.size) (cwV 0 hts gp_X8_load_X5_size_76 rfl rfl rfl (by decide +kernel) ⟨Nat.le_of_ble_eq_true rfl, Nat.le_of_ble_eq_true rfl⟩) ⟨Pr.blind _, va_recv hK hP (ci := 7) (q0 := 6) rfl rfl, fun U hU hW => ⟨rfl, Pr.at (hP.sub (ws' := [(t0, .inr (7, [.ref tb, .int 0]))]) [6] rfl) (hK.sub (tys' := []) [] rfl) (hD.sub (ws' := [(t0, .inr (7, [.ref tb, .int 0]))]) [6] (by decide) rfl) hN hZ hS hFc hU hW⟩⟩ rfl rfl hl.1 rfl (lv_room (Nat.le_of_ble_eq_true rfl)) dX8_load_34 ⟨Nat.le_of_ble_eq_true rfl, Nat.le_of_ble_eq_true rfl⟩) hS (fun q _ h => hFc q h) hFc (fun r_53 u t H1 locs ht hvm hw_54 hB hz1 hk1 hS => ?_)
    obtain ⟨hP, hD, hK⟩ := Bq.join (wr := [(q0, .inr (7, [.ref b0, .int 0])), (q1, .inr (7, [.ref b1, .int 0])), (q2, .inr (7, [.ref b2, .int 0])), (q3, .inr (7, [.ref b3, .int 0])), (h0, .inr (10, [.ref t0, .ref r0, .ref m0, .ref x0, v4, v5, v6, v7, v8, .int 0, .int (-1), .int 0])), (r0, .inl (cR, 4, .inr (.inr (.inr (.inr fR)))))]) hB ht hvm hP hD [6] [0, 1, 2, 3, 4, 5] rfl rfl (by decide) (by decide) hk1 hFc hK
    generalize H1 = H at hP hS ⊢
    have hP : va_P (dC, dI) vwCl [(q0, .inr (7, [.ref b0, .int 0])), (q1, .inr (7, [.ref b1, .int 0])), (q2, .inr (7, [.ref b2, .int 0])), (q3, .inr (7, [.ref b3, .int 0])), (h0, .inr (10, [.ref t0, .ref r0, .ref m0, .ref x0, v4, v5, v6, v7, v8, .int 0, .int (-1), .int 0])), (r0, .inl (cR, 4, .inr (.inr (.inr (.inr fR))))), (t0, .inr (7, [.ref tb, .int 0]))] H := hP
    have hD : va_D A [(q0, .inr (7, [.ref b0, .int 0])), (q1, .inr (7, [.ref b1, .int 0])), (q2, .inr (7, [.ref b2, .int 0])), (q3, .inr (7, [.ref b3, .int 0])), (h0, .inr (10, [.ref t0, .ref r0, .ref m0, .ref x0, v4, v5, v6, v7, v8, .int 0, .int (-1), .int 0])), (r0, .inl (cR, 4, .inr (.inr (.inr (.inr fR))))), (t0, .inr (7, [.ref tb, .int 0]))] := hD
    have hK : va_K (dC, dI) vwCl [(cR, .object RX5)] s := hK
    try dsimp only at hw_54
    have k_55 := hw_54
    refine W_toi (y := 0) k_55 ?_
    have hFc := va_free (wc := [(q3, .inr (7, [.ref b3, .int 0])), (t0, .inr (7, [.ref tb, .int 0]))]) hD hS hA [3, 6] rfl
    refine va_callv (va_runV (As := [.ref t0, .int 0, .int 0]) (rest := []) ⟨hx, hb, hml, hown, hts⟩ (c_X5_become0 l dC dI q3 b3 0 t0 tb 0 H.size) (cwV 3 hts gp_X8_load_X5_become0_132 rfl rfl rfl (by decide +kernel) ⟨Nat.le_of_ble_eq_true rfl, Nat.le_of_ble_eq_true rfl⟩) ⟨Pr.blind _, va_recv hK hP (ci := 7) (q0 := 3) rfl rfl, fun U hU hW => ⟨rfl, Pr.at (hP.sub (ws' := [(q3, .inr (7, [.ref b3, .int 0])), (t0, .inr (7, [.ref tb, .int 0]))]) [3, 6] rfl) (hK.sub (tys' := []) [] rfl) (hD.sub (ws' := [(q3, .inr (7, [.ref b3, .int 0])), (t0, .inr (7, [.ref tb, .int 0]))]) [3, 6] (by decide) rfl) hN hZ hS hFc hU hW⟩⟩ rfl rfl hl.1 rfl (lv_room (Nat.le_of_ble_eq_true rfl)) dX8_load_37 ⟨Nat.le_of_ble_eq_true rfl, Nat.le_of_ble_eq_true rfl⟩) hS (fun q _ h => hFc q h) hFc (fun u t H1 locs ht hvm hw_57 hB hz1 hk1 hS => ?_)
    obtain ⟨hP, hD, hK⟩ := Bq.join (wr := [(q0, .inr (7, [.ref b0, .int 0])), (q1, .inr (7, [.ref b1, .int 0])), (q2, .inr (7, [.ref b2, .int 0])), (h0, .inr (10, [.ref t0, .ref r0, .ref m0, .ref x0, v4, v5, v6, v7, v8, .int 0, .int (-1), .int 0])), (r0, .inl (cR, 4, .inr (.inr (.inr (.inr fR)))))]) hB ht hvm hP hD [3, 6] [0, 1, 2, 4, 5] rfl rfl (by decide) (by decide) hk1 hFc hK
    generalize H1 = H at hP hS ⊢
    have hP : va_P (dC, dI) vwCl [(q0, .inr (7, [.ref b0, .int 0])), (q1, .inr (7, [.ref b1, .int 0])), (q2, .inr (7, [.ref b2, .int 0])), (h0, .inr (10, [.ref t0, .ref r0, .ref m0, .ref x0, v4, v5, v6, v7, v8, .int 0, .int (-1), .int 0])), (r0, .inl (cR, 4, .inr (.inr (.inr (.inr fR))))), (q3, .inr (7, [.ref b3, .int 0])), (t0, .inr (7, [.ref tb, .int 0]))] H := hP
    have hD : va_D A [(q0, .inr (7, [.ref b0, .int 0])), (q1, .inr (7, [.ref b1, .int 0])), (q2, .inr (7, [.ref b2, .int 0])), (h0, .inr (10, [.ref t0, .ref r0, .ref m0, .ref x0, v4, v5, v6, v7, v8, .int 0, .int (-1), .int 0])), (r0, .inl (cR, 4, .inr (.inr (.inr (.inr fR))))), (q3, .inr (7, [.ref b3, .int 0])), (t0, .inr (7, [.ref tb, .int 0]))] := hD
    have hK : va_K (dC, dI) vwCl [(cR, .object RX5)] s := hK
    refine lv_aload_n hx hb dX8_load_40 rfl (lv_at hl 1 rfl) ?_
    refine va_get (D := (dC, dI)) (ci := 10) (v := .ref t0) (C := RX8) (T := TX8) (N := 12) hx hb hts iRX8 hown hK hP 3 rfl rfl 0 (by decide) (hts (.fieldLink RX8 14 "RecordBench" "tape" "LRecordBench$Row;") (by decide +kernel)) (fun _ h9 => h9) rfl dX8_load_41 ?_
    refine lv_iconst (v := 0) hx hb dX8_load_44 (by decide) ?_
    have hFc := va_free (wc := [(t0, .inr (7, [.ref tb, .int 0]))]) hD hS hA [6] rfl
    refine va_calli (va_runV (As := [.int 0]) (rest := []) ⟨hx, hb, hml, hown, hts⟩ (c_X5_cut0 l dC dI t0 tb H.size) (cwV 1 hts gp_X8_load_X5_cut0_83 rfl rfl rfl (by decide +kernel) ⟨Nat.le_of_ble_eq_true rfl, Nat.le_of_ble_eq_true rfl⟩) ⟨Pr.blind _, va_recv hK hP (ci := 7) (q0 := 6) rfl rfl, fun U hU hW => ⟨rfl, Pr.at (hP.sub (ws' := [(t0, .inr (7, [.ref tb, .int 0]))]) [6] rfl) (hK.sub (tys' := []) [] rfl) (hD.sub (ws' := [(t0, .inr (7, [.ref tb, .int 0]))]) [6] (by decide) rfl) hN hZ hS hFc hU hW⟩⟩ rfl rfl hl.1 rfl (lv_room (Nat.le_of_ble_eq_true rfl)) dX8_load_45 ⟨Nat.le_of_ble_eq_true rfl, Nat.le_of_ble_eq_true rfl⟩) hS (fun q _ h => hFc q h) hFc (fun r_58 u t H1 locs ht hvm hw_59 hB hz1 hk1 hS => ?_)
    obtain ⟨hP, hD, hK⟩ := Bq.join (wr := [(q0, .inr (7, [.ref b0, .int 0])), (q1, .inr (7, [.ref b1, .int 0])), (q2, .inr (7, [.ref b2, .int 0])), (h0, .inr (10, [.ref t0, .ref r0, .ref m0, .ref x0, v4, v5, v6, v7, v8, .int 0, .int (-1), .int 0])), (r0, .inl (cR, 4, .inr (.inr (.inr (.inr fR))))), (q3, .inr (7, [.ref b3, .int 0]))]) hB ht hvm hP hD [6] [0, 1, 2, 3, 4, 5] rfl rfl (by decide) (by decide) hk1 hFc hK
    generalize H1 = H at hP hS ⊢
    have hP : va_P (dC, dI) vwCl [(q0, .inr (7, [.ref b0, .int 0])), (q1, .inr (7, [.ref b1, .int 0])), (q2, .inr (7, [.ref b2, .int 0])), (h0, .inr (10, [.ref t0, .ref r0, .ref m0, .ref x0, v4, v5, v6, v7, v8, .int 0, .int (-1), .int 0])), (r0, .inl (cR, 4, .inr (.inr (.inr (.inr fR))))), (q3, .inr (7, [.ref b3, .int 0])), (t0, .inr (7, [.ref tb, .int 0]))] H := hP
    have hD : va_D A [(q0, .inr (7, [.ref b0, .int 0])), (q1, .inr (7, [.ref b1, .int 0])), (q2, .inr (7, [.ref b2, .int 0])), (h0, .inr (10, [.ref t0, .ref r0, .ref m0, .ref x0, v4, v5, v6, v7, v8, .int 0, .int (-1), .int 0])), (r0, .inl (cR, 4, .inr (.inr (.inr (.inr fR))))), (q3, .inr (7, [.ref b3, .int 0])), (t0, .inr (7, [.ref tb, .int 0]))] := hD
    have hK : va_K (dC, dI) vwCl [(cR, .object RX5)] s := hK
    try dsimp only at hw_59
    have k_60 := hw_59
    refine W_toi (y := 1) k_60 ?_
    refine lv_pop hx hb dX8_load_48 rfl ?_
    refine lv_aload_n hx hb dX8_load_49 rfl (lv_at hl 0 rfl) ?_
    have hFc := va_free (wc := [(q3, .inr (7, [.ref b3, .int 0]))]) hD hS hA [5] rfl
    refine va_calli (va_runV (As := []) (rest := []) ⟨hx, hb, hml, hown, hts⟩ (c_X5_size l dC dI q3 b3 0 H.size) (cwV 0 hts gp_X8_load_X5_size_76 rfl rfl rfl (by decide +kernel) ⟨Nat.le_of_ble_eq_true rfl, Nat.le_of_ble_eq_true rfl⟩) ⟨Pr.blind _, va_recv hK hP (ci := 7) (q0 := 5) rfl rfl, fun U hU hW => ⟨rfl, Pr.at (hP.sub (ws' := [(q3, .inr (7, [.ref b3, .int 0]))]) [5] rfl) (hK.sub (tys' := []) [] rfl) (hD.sub (ws' := [(q3, .inr (7, [.ref b3, .int 0]))]) [5] (by decide) rfl) hN hZ hS hFc hU hW⟩⟩ rfl rfl hl.1 rfl (lv_room (Nat.le_of_ble_eq_true rfl)) dX8_load_50 ⟨Nat.le_of_ble_eq_true rfl, Nat.le_of_ble_eq_true rfl⟩) hS (fun q _ h => hFc q h) hFc (fun r_61 u t H1 locs ht hvm hw_62 hB hz1 hk1 hS => ?_)
    obtain ⟨hP, hD, hK⟩ := Bq.join (wr := [(q0, .inr (7, [.ref b0, .int 0])), (q1, .inr (7, [.ref b1, .int 0])), (q2, .inr (7, [.ref b2, .int 0])), (h0, .inr (10, [.ref t0, .ref r0, .ref m0, .ref x0, v4, v5, v6, v7, v8, .int 0, .int (-1), .int 0])), (r0, .inl (cR, 4, .inr (.inr (.inr (.inr fR))))), (t0, .inr (7, [.ref tb, .int 0]))]) hB ht hvm hP hD [5] [0, 1, 2, 3, 4, 6] rfl rfl (by decide) (by decide) hk1 hFc hK
    generalize H1 = H at hP hS ⊢
    have hP : va_P (dC, dI) vwCl [(q0, .inr (7, [.ref b0, .int 0])), (q1, .inr (7, [.ref b1, .int 0])), (q2, .inr (7, [.ref b2, .int 0])), (h0, .inr (10, [.ref t0, .ref r0, .ref m0, .ref x0, v4, v5, v6, v7, v8, .int 0, .int (-1), .int 0])), (r0, .inl (cR, 4, .inr (.inr (.inr (.inr fR))))), (t0, .inr (7, [.ref tb, .int 0])), (q3, .inr (7, [.ref b3, .int 0]))] H := hP
    have hD : va_D A [(q0, .inr (7, [.ref b0, .int 0])), (q1, .inr (7, [.ref b1, .int 0])), (q2, .inr (7, [.ref b2, .int 0])), (h0, .inr (10, [.ref t0, .ref r0, .ref m0, .ref x0, v4, v5, v6, v7, v8, .int 0, .int (-1), .int 0])), (r0, .inl (cR, 4, .inr (.inr (.inr (.inr fR))))), (t0, .inr (7, [.ref tb, .int 0])), (q3, .inr (7, [.ref b3, .int 0]))] := hD
    have hK : va_K (dC, dI) vwCl [(cR, .object RX5)] s := hK
    try dsimp only at hw_62
    have k_63 := hw_62
    refine W_toi (y := 0) k_63 ?_
    have hP9 := hP.sub (ws' := []) [] rfl
    have hD9 := hD.sub (ws' := []) [] (by decide) rfl
    have hK9 := hK.sub (tys' := []) [] rfl
    exact W.iret (v := 0) hx hb hr (fun t ht hW => ⟨⟨0, (), rfl, (if_neg ho).symm, by rw [ht]; exact hP9, va_K.moved hW.alike hK9, hD9⟩, hS.F ht⟩) hS.2.2 dX8_load_53
def wp_X8_at : List Cond := .code yX8_at cX8_at 4 (some .int) :: ([.methodLink RX8 128 yX8_recordOf, .instanceMethod yX8_recordOf, .selects RX8 yX8_recordOf yX8_recordOf, .initialized RX8, .methodLink RX8 195 yX5_byteAt, .instanceMethod yX5_byteAt, .selects RX5 yX5_byteAt yX5_byteAt, .initialized RX5, .code yX8_recordOf cX8_recordOf 2 (some (.object "RecordBench$Row")), .fieldLink RX8 18 "RecordBench" "records" "[LRecordBench$Row;", .code yX5_byteAt cX5_byteAt 2 (some .int), .fieldLink RX5 21 "RecordBench$Row" "size" "I"] ++ wsX80 ++ wsX50)
set_option maxRecDepth 20000 in
theorem gp_X8_at_X8_recordOf_128 : GoodIn wp_X8_at (wsV RX8 128 RX8 yX8_recordOf wp_X8_recordOf) := goodIn_p _ [9] rfl (by decide +kernel)
set_option maxRecDepth 20000 in
theorem gp_X8_at_X5_byteAt0_195 : GoodIn wp_X8_at (wsV RX8 195 RX5 yX5_byteAt wp_X5_byteAt0) := goodIn_p _ [11] rfl (by decide +kernel)
set_option maxHeartbeats 4000000 in
set_option maxRecDepth 100000 in
theorem c_X8_at (l : Launch) (dC : Nat → ClassId) (dI : Nat → Nat → Nat) (h0 : Nat) (t0 : Nat) (r0 : Nat) (m0 : Nat) (x0 : Nat) (v4 : Value) (v5 : Value) (v6 : Value) (v7 : Value) (v8 : Value) (cR : ClassId) (fR : Nat → Option Nat) (q0 : Nat) (q1 : Nat) (q2 : Nat) (q3 : Nat) (b0 : Nat) (b1 : Nat) (b2 : Nat) (b3 : Nat) (hq0 : fR 0 = some q0) (hq1 : fR 1 = some q1) (hq2 : fR 2 = some q2) (hq3 : fR 3 = some q3) (p0 : Int32) (p1 : Int32) (sz : Nat) : Met l yX8_at wp_X8_at ({ frames := 1, cells := 0, slots := 0, locals := 25 }) (va_Pc [.ref h0, .int p0, .int p1] (Pr (dC, dI) [(cR, .object RX5)] [(h0, .inr (10, [.ref t0, .ref r0, .ref m0, .ref x0, v4, v5, v6, v7, v8, .int 0, .int ((-1)), .int 0])), (r0, .inl (cR, 4, .inr (.inr (.inr (.inr fR))))), (q0, .inr (7, [.ref b0, .int 0])), (q1, .inr (7, [.ref b1, .int 0])), (q2, .inr (7, [.ref b2, .int 0])), (q3, .inr (7, [.ref b3, .int 0]))] sz)) (va_Qi (fun r : Int32 => (fun _ : Unit => r = -1)) (Bq (dC, dI) (fun _ : Unit => []) (fun _ : Unit => []) (va_A [(h0, .inr (10, [.ref t0, .ref r0, .ref m0, .ref x0, v4, v5, v6, v7, v8, .int 0, .int ((-1)), .int 0])), (r0, .inl (cR, 4, .inr (.inr (.inr (.inr fR))))), (q0, .inr (7, [.ref b0, .int 0])), (q1, .inr (7, [.ref b1, .int 0])), (q2, .inr (7, [.ref b2, .int 0])), (q3, .inr (7, [.ref b3, .int 0]))] sz)) (va_A [(h0, .inr (10, [.ref t0, .ref r0, .ref m0, .ref x0, v4, v5, v6, v7, v8, .int 0, .int ((-1)), .int 0])), (r0, .inl (cR, 4, .inr (.inr (.inr (.inr fR))))), (q0, .inr (7, [.ref b0, .int 0])), (q1, .inr (7, [.ref b1, .int 0])), (q2, .inr (7, [.ref b2, .int 0])), (q3, .inr (7, [.ref b3, .int 0]))] sz)) 0 0 (va_A [(h0, .inr (10, [.ref t0, .ref r0, .ref m0, .ref x0, v4, v5, v6, v7, v8, .int 0, .int ((-1)), .int 0])), (r0, .inl (cR, 4, .inr (.inr (.inr (.inr fR))))), (q0, .inr (7, [.ref b0, .int 0])), (q1, .inr (7, [.ref b1, .int 0])), (q2, .inr (7, [.ref b2, .int 0])), (q3, .inr (7, [.ref b3, .int 0]))] sz) := by
  refine Met.ofW (cc := cX8_at) (maxL := 4) (ret := (some .int)) (by decide) rfl ?_
  intro p e s m args below meth c s₁ B hml hv
  obtain ⟨rfl, hsz, hP, hK, hD0, hN, hZ⟩ := hv
  have hx := B.exec
  have hb := B.bytes
  have hr := B.returns
  have hts := atoms_spec (ws := wp_X8_at) B.pre
  have hown : s.vm.findClass RX8 = some m.cls := findClass_of_methodNamed B.named
  have hlocks := B.notSynchronized
  subst hsz
  have hD := hD0.self (sz := s.heap.size)
  generalize hAe : va_A [(h0, .inr (10, [.ref t0, .ref r0, .ref m0, .ref x0, v4, v5, v6, v7, v8, .int 0, .int ((-1)), .int 0])), (r0, .inl (cR, 4, .inr (.inr (.inr (.inr fR))))), (q0, .inr (7, [.ref b0, .int 0])), (q1, .inr (7, [.ref b1, .int 0])), (q2, .inr (7, [.ref b2, .int 0])), (q3, .inr (7, [.ref b3, .int 0]))] s.heap.size = A at hD hZ ⊢
  have hA : ∀ q : Nat, s.heap.size ≤ q → A q := fun q h => by rw [← hAe]; exact Or.inr h
  have hS : va_S A s.heap s.heap [] := va_S.rf
  have hP : va_P (dC, dI) vwCl [(h0, .inr (10, [.ref t0, .ref r0, .ref m0, .ref x0, v4, v5, v6, v7, v8, .int 0, .int ((-1)), .int 0])), (r0, .inl (cR, 4, .inr (.inr (.inr (.inr fR))))), (q0, .inr (7, [.ref b0, .int 0])), (q1, .inr (7, [.ref b1, .int 0])), (q2, .inr (7, [.ref b2, .int 0])), (q3, .inr (7, [.ref b3, .int 0]))] s.heap := hP
  have hl := lv_entry ([.ref h0, .int p0, .int p1]) (n := 4) (Nat.le_of_ble_eq_true rfl)
  rw [lg_entry_eq]
  generalize (lg_sl ([.ref h0, .int p0, .int p1]) ++ List.replicate (4 - (lg_sl ([.ref h0, .int p0, .int p1])).length) Slot.unset).toArray = ls at hl ⊢
  have hl : lv_has ls 4 [(0, .ref h0), (1, .int p0), (2, .int p1)] := hl
  refine lv_aload_n hx hb dX8_at_0 rfl (lv_at hl 0 rfl) ?_
  refine lv_iload_n hx hb dX8_at_1 rfl (lv_at hl 1 rfl) ?_
  have hFc := va_free (wc := [(h0, .inr (10, [.ref t0, .ref r0, .ref m0, .ref x0, v4, v5, v6, v7, v8, .int 0, .int ((-1)), .int 0])), (r0, .inl (cR, 4, .inr (.inr (.inr (.inr fR)))))]) hD hS hA [0, 1] rfl
  refine va_callq (va_runV (As := [.int p0]) (rest := []) ⟨hx, hb, hml, hown, hts⟩ (c_X8_recordOf l dC dI h0 t0 r0 m0 x0 (v4) (v5) (v6) (v7) (v8) cR fR q0 q1 q2 q3 (hq0) (hq1) (hq2) (hq3) p0 s.heap.size) (cwV 1 hts gp_X8_at_X8_recordOf_128 rfl rfl rfl (by decide +kernel) ⟨Nat.le_of_ble_eq_true rfl, Nat.le_of_ble_eq_true rfl⟩) ⟨Pr.blind _, va_recv hK hP (ci := 10) (q0 := 0) rfl rfl, fun U hU hW => ⟨rfl, Pr.at (hP.sub (ws' := [(h0, .inr (10, [.ref t0, .ref r0, .ref m0, .ref x0, v4, v5, v6, v7, v8, .int 0, .int ((-1)), .int 0])), (r0, .inl (cR, 4, .inr (.inr (.inr (.inr fR)))))]) [0, 1] rfl) (hK.sub (tys' := [(cR, .object RX5)]) [0] rfl) (hD.sub (ws' := [(h0, .inr (10, [.ref t0, .ref r0, .ref m0, .ref x0, v4, v5, v6, v7, v8, .int 0, .int ((-1)), .int 0])), (r0, .inl (cR, 4, .inr (.inr (.inr (.inr fR)))))]) [0, 1] (by decide) rfl) hN hZ hS hFc hU hW⟩⟩ rfl rfl hl.1 rfl (lv_room (Nat.le_of_ble_eq_true rfl)) dX8_at_2 ⟨Nat.le_of_ble_eq_true rfl, Nat.le_of_ble_eq_true rfl⟩) hS (fun q _ h => hFc q h) hFc (fun r_1 u t H1 locs ht hvm hw_2 hB hz1 hk1 hS => ?_)
  obtain ⟨hP, hD, hK⟩ := Bq.join (wr := [(q0, .inr (7, [.ref b0, .int 0])), (q1, .inr (7, [.ref b1, .int 0])), (q2, .inr (7, [.ref b2, .int 0])), (q3, .inr (7, [.ref b3, .int 0]))]) hB ht hvm hP hD [0, 1] [2, 3, 4, 5] rfl rfl (by decide) (by decide) hk1 hFc hK
  generalize H1 = H at hP hS ⊢
  have hP : va_P (dC, dI) vwCl [(q0, .inr (7, [.ref b0, .int 0])), (q1, .inr (7, [.ref b1, .int 0])), (q2, .inr (7, [.ref b2, .int 0])), (q3, .inr (7, [.ref b3, .int 0])), (h0, .inr (10, [.ref t0, .ref r0, .ref m0, .ref x0, v4, v5, v6, v7, v8, .int 0, .int (-1), .int 0])), (r0, .inl (cR, 4, .inr (.inr (.inr (.inr fR)))))] H := hP
  have hD : va_D A [(q0, .inr (7, [.ref b0, .int 0])), (q1, .inr (7, [.ref b1, .int 0])), (q2, .inr (7, [.ref b2, .int 0])), (q3, .inr (7, [.ref b3, .int 0])), (h0, .inr (10, [.ref t0, .ref r0, .ref m0, .ref x0, v4, v5, v6, v7, v8, .int 0, .int (-1), .int 0])), (r0, .inl (cR, 4, .inr (.inr (.inr (.inr fR)))))] := hD
  have hK : va_K (dC, dI) vwCl [(cR, .object RX5)] s := hK
  try dsimp only at hw_2
  have k_3 := hw_2
  rcases k_3 with ⟨ho, rfl⟩ | ⟨ho, rfl | rfl | rfl | rfl⟩
  · refine W.eq (g2 := F0 m 5 ls [.null]) rfl ?_
    refine lv_astore_nN (lv' := [(3, .null), (0, .ref h0), (1, .int p0), (2, .int p1)]) hx hb dX8_at_5 rfl hl (by decide) rfl (fun ls hl => ?_)
    refine lv_aload_nN hx hb dX8_at_6 rfl (lv_at hl 0 rfl) ?_
    refine lv_ifnonnullN hx hb dX8_at_7 ?_
    refine lv_iconst (v := (-1)) hx hb dX8_at_10 (by decide) ?_
    refine lv_goto (tgt := 19) hx hb dX8_at_11 (by decide) ?_
    have hP9 := hP.sub (ws' := []) [] rfl
    have hD9 := hD.sub (ws' := []) [] (by decide) rfl
    have hK9 := hK.sub (tys' := []) [] rfl
    exact W.iret (v := (-1)) hx hb hr (fun t ht hW => ⟨⟨(-1), (), rfl, rfl, by rw [ht]; exact hP9, va_K.moved hW.alike hK9, hD9⟩, hS.F ht⟩) hS.2.2 dX8_at_19
  · refine W.eq (g2 := F0 m 5 ls [.ref q0]) rfl ?_
    refine lv_astore_n (lv' := [(3, .ref q0), (0, .ref h0), (1, .int p0), (2, .int p1)]) hx hb dX8_at_5 rfl hl (by decide) rfl (fun ls hl => ?_)
    refine lv_aload_n hx hb dX8_at_6 rfl (lv_at hl 0 rfl) ?_
    refine lv_ifnonnull (tgt := 14) hx hb dX8_at_7 (by decide) ?_
    refine lv_aload_n hx hb dX8_at_14 rfl (lv_at hl 0 rfl) ?_
    refine lv_iload_n hx hb dX8_at_15 rfl (lv_at hl 3 rfl) ?_
    have hFc := va_free (wc := [(q0, .inr (7, [.ref b0, .int 0]))]) hD hS hA [0] rfl
    refine va_calli (va_runV (As := [.int p1]) (rest := []) ⟨hx, hb, hml, hown, hts⟩ (c_X5_byteAt0 l dC dI q0 b0 p1 H.size) (cwV 1 hts gp_X8_at_X5_byteAt0_195 rfl rfl rfl (by decide +kernel) ⟨Nat.le_of_ble_eq_true rfl, Nat.le_of_ble_eq_true rfl⟩) ⟨Pr.blind _, va_recv hK hP (ci := 7) (q0 := 0) rfl rfl, fun U hU hW => ⟨rfl, Pr.at (hP.sub (ws' := [(q0, .inr (7, [.ref b0, .int 0]))]) [0] rfl) (hK.sub (tys' := []) [] rfl) (hD.sub (ws' := [(q0, .inr (7, [.ref b0, .int 0]))]) [0] (by decide) rfl) hN hZ hS hFc hU hW⟩⟩ rfl rfl hl.1 rfl (lv_room (Nat.le_of_ble_eq_true rfl)) dX8_at_16 ⟨Nat.le_of_ble_eq_true rfl, Nat.le_of_ble_eq_true rfl⟩) hS (fun q _ h => hFc q h) hFc (fun r_4 u t H1 locs ht hvm hw_5 hB hz1 hk1 hS => ?_)
    obtain ⟨hP, hD, hK⟩ := Bq.join (wr := [(q1, .inr (7, [.ref b1, .int 0])), (q2, .inr (7, [.ref b2, .int 0])), (q3, .inr (7, [.ref b3, .int 0])), (h0, .inr (10, [.ref t0, .ref r0, .ref m0, .ref x0, v4, v5, v6, v7, v8, .int 0, .int (-1), .int 0])), (r0, .inl (cR, 4, .inr (.inr (.inr (.inr fR)))))]) hB ht hvm hP hD [0] [1, 2, 3, 4, 5] rfl rfl (by decide) (by decide) hk1 hFc hK
    generalize H1 = H at hP hS ⊢
    have hP : va_P (dC, dI) vwCl [(q1, .inr (7, [.ref b1, .int 0])), (q2, .inr (7, [.ref b2, .int 0])), (q3, .inr (7, [.ref b3, .int 0])), (h0, .inr (10, [.ref t0, .ref r0, .ref m0, .ref x0, v4, v5, v6, v7, v8, .int 0, .int (-1), .int 0])), (r0, .inl (cR, 4, .inr (.inr (.inr (.inr fR)))))] H := hP
    have hD : va_D A [(q1, .inr (7, [.ref b1, .int 0])), (q2, .inr (7, [.ref b2, .int 0])), (q3, .inr (7, [.ref b3, .int 0])), (h0, .inr (10, [.ref t0, .ref r0, .ref m0, .ref x0, v4, v5, v6, v7, v8, .int 0, .int (-1), .int 0])), (r0, .inl (cR, 4, .inr (.inr (.inr (.inr fR)))))] := hD
    have hK : va_K (dC, dI) vwCl [(cR, .object RX5)] s := hK
    try dsimp only at hw_5
    have k_6 := hw_5
    refine W_toi (y := -1) k_6 ?_
    have hP9 := hP.sub (ws' := []) [] rfl
    have hD9 := hD.sub (ws' := []) [] (by decide) rfl
    have hK9 := hK.sub (tys' := []) [] rfl
    exact W.iret (v := -1) hx hb hr (fun t ht hW => ⟨⟨-1, (), rfl, rfl, by rw [ht]; exact hP9, va_K.moved hW.alike hK9, hD9⟩, hS.F ht⟩) hS.2.2 dX8_at_19
  · refine W.eq (g2 := F0 m 5 ls [.ref q1]) rfl ?_
    refine lv_astore_n (lv' := [(3, .ref q1), (0, .ref h0), (1, .int p0), (2, .int p1)]) hx hb dX8_at_5 rfl hl (by decide) rfl (fun ls hl => ?_)
    refine lv_aload_n hx hb dX8_at_6 rfl (lv_at hl 0 rfl) ?_
    refine lv_ifnonnull (tgt := 14) hx hb dX8_at_7 (by decide) ?_
    refine lv_aload_n hx hb dX8_at_14 rfl (lv_at hl 0 rfl) ?_
    refine lv_iload_n hx hb dX8_at_15 rfl (lv_at hl 3 rfl) ?_
    have hFc := va_free (wc := [(q1, .inr (7, [.ref b1, .int 0]))]) hD hS hA [1] rfl
    refine va_calli (va_runV (As := [.int p1]) (rest := []) ⟨hx, hb, hml, hown, hts⟩ (c_X5_byteAt0 l dC dI q1 b1 p1 H.size) (cwV 1 hts gp_X8_at_X5_byteAt0_195 rfl rfl rfl (by decide +kernel) ⟨Nat.le_of_ble_eq_true rfl, Nat.le_of_ble_eq_true rfl⟩) ⟨Pr.blind _, va_recv hK hP (ci := 7) (q0 := 1) rfl rfl, fun U hU hW => ⟨rfl, Pr.at (hP.sub (ws' := [(q1, .inr (7, [.ref b1, .int 0]))]) [1] rfl) (hK.sub (tys' := []) [] rfl) (hD.sub (ws' := [(q1, .inr (7, [.ref b1, .int 0]))]) [1] (by decide) rfl) hN hZ hS hFc hU hW⟩⟩ rfl rfl hl.1 rfl (lv_room (Nat.le_of_ble_eq_true rfl)) dX8_at_16 ⟨Nat.le_of_ble_eq_true rfl, Nat.le_of_ble_eq_true rfl⟩) hS (fun q _ h => hFc q h) hFc (fun r_7 u t H1 locs ht hvm hw_8 hB hz1 hk1 hS => ?_)
    obtain ⟨hP, hD, hK⟩ := Bq.join (wr := [(q0, .inr (7, [.ref b0, .int 0])), (q2, .inr (7, [.ref b2, .int 0])), (q3, .inr (7, [.ref b3, .int 0])), (h0, .inr (10, [.ref t0, .ref r0, .ref m0, .ref x0, v4, v5, v6, v7, v8, .int 0, .int (-1), .int 0])), (r0, .inl (cR, 4, .inr (.inr (.inr (.inr fR)))))]) hB ht hvm hP hD [1] [0, 2, 3, 4, 5] rfl rfl (by decide) (by decide) hk1 hFc hK
    generalize H1 = H at hP hS ⊢
    have hP : va_P (dC, dI) vwCl [(q0, .inr (7, [.ref b0, .int 0])), (q2, .inr (7, [.ref b2, .int 0])), (q3, .inr (7, [.ref b3, .int 0])), (h0, .inr (10, [.ref t0, .ref r0, .ref m0, .ref x0, v4, v5, v6, v7, v8, .int 0, .int (-1), .int 0])), (r0, .inl (cR, 4, .inr (.inr (.inr (.inr fR)))))] H := hP
    have hD : va_D A [(q0, .inr (7, [.ref b0, .int 0])), (q2, .inr (7, [.ref b2, .int 0])), (q3, .inr (7, [.ref b3, .int 0])), (h0, .inr (10, [.ref t0, .ref r0, .ref m0, .ref x0, v4, v5, v6, v7, v8, .int 0, .int (-1), .int 0])), (r0, .inl (cR, 4, .inr (.inr (.inr (.inr fR)))))] := hD
    have hK : va_K (dC, dI) vwCl [(cR, .object RX5)] s := hK
    try dsimp only at hw_8
    have k_9 := hw_8
    refine W_toi (y := -1) k_9 ?_
    have hP9 := hP.sub (ws' := []) [] rfl
    have hD9 := hD.sub (ws' := []) [] (by decide) rfl
    have hK9 := hK.sub (tys' := []) [] rfl
    exact W.iret (v := -1) hx hb hr (fun t ht hW => ⟨⟨-1, (), rfl, rfl, by rw [ht]; exact hP9, va_K.moved hW.alike hK9, hD9⟩, hS.F ht⟩) hS.2.2 dX8_at_19
  · refine W.eq (g2 := F0 m 5 ls [.ref q2]) rfl ?_
    refine lv_astore_n (lv' := [(3, .ref q2), (0, .ref h0), (1, .int p0), (2, .int p1)]) hx hb dX8_at_5 rfl hl (by decide) rfl (fun ls hl => ?_)
    refine lv_aload_n hx hb dX8_at_6 rfl (lv_at hl 0 rfl) ?_
    refine lv_ifnonnull (tgt := 14) hx hb dX8_at_7 (by decide) ?_
    refine lv_aload_n hx hb dX8_at_14 rfl (lv_at hl 0 rfl) ?_
    refine lv_iload_n hx hb dX8_at_15 rfl (lv_at hl 3 rfl) ?_
    have hFc := va_free (wc := [(q2, .inr (7, [.ref b2, .int 0]))]) hD hS hA [2] rfl
    refine va_calli (va_runV (As := [.int p1]) (rest := []) ⟨hx, hb, hml, hown, hts⟩ (c_X5_byteAt0 l dC dI q2 b2 p1 H.size) (cwV 1 hts gp_X8_at_X5_byteAt0_195 rfl rfl rfl (by decide +kernel) ⟨Nat.le_of_ble_eq_true rfl, Nat.le_of_ble_eq_true rfl⟩) ⟨Pr.blind _, va_recv hK hP (ci := 7) (q0 := 2) rfl rfl, fun U hU hW => ⟨rfl, Pr.at (hP.sub (ws' := [(q2, .inr (7, [.ref b2, .int 0]))]) [2] rfl) (hK.sub (tys' := []) [] rfl) (hD.sub (ws' := [(q2, .inr (7, [.ref b2, .int 0]))]) [2] (by decide) rfl) hN hZ hS hFc hU hW⟩⟩ rfl rfl hl.1 rfl (lv_room (Nat.le_of_ble_eq_true rfl)) dX8_at_16 ⟨Nat.le_of_ble_eq_true rfl, Nat.le_of_ble_eq_true rfl⟩) hS (fun q _ h => hFc q h) hFc (fun r_10 u t H1 locs ht hvm hw_11 hB hz1 hk1 hS => ?_)
    obtain ⟨hP, hD, hK⟩ := Bq.join (wr := [(q0, .inr (7, [.ref b0, .int 0])), (q1, .inr (7, [.ref b1, .int 0])), (q3, .inr (7, [.ref b3, .int 0])), (h0, .inr (10, [.ref t0, .ref r0, .ref m0, .ref x0, v4, v5, v6, v7, v8, .int 0, .int (-1), .int 0])), (r0, .inl (cR, 4, .inr (.inr (.inr (.inr fR)))))]) hB ht hvm hP hD [2] [0, 1, 3, 4, 5] rfl rfl (by decide) (by decide) hk1 hFc hK
    generalize H1 = H at hP hS ⊢
    have hP : va_P (dC, dI) vwCl [(q0, .inr (7, [.ref b0, .int 0])), (q1, .inr (7, [.ref b1, .int 0])), (q3, .inr (7, [.ref b3, .int 0])), (h0, .inr (10, [.ref t0, .ref r0, .ref m0, .ref x0, v4, v5, v6, v7, v8, .int 0, .int (-1), .int 0])), (r0, .inl (cR, 4, .inr (.inr (.inr (.inr fR)))))] H := hP
    have hD : va_D A [(q0, .inr (7, [.ref b0, .int 0])), (q1, .inr (7, [.ref b1, .int 0])), (q3, .inr (7, [.ref b3, .int 0])), (h0, .inr (10, [.ref t0, .ref r0, .ref m0, .ref x0, v4, v5, v6, v7, v8, .int 0, .int (-1), .int 0])), (r0, .inl (cR, 4, .inr (.inr (.inr (.inr fR)))))] := hD
    have hK : va_K (dC, dI) vwCl [(cR, .object RX5)] s := hK
    try dsimp only at hw_11
    have k_12 := hw_11
    refine W_toi (y := -1) k_12 ?_
    have hP9 := hP.sub (ws' := []) [] rfl
    have hD9 := hD.sub (ws' := []) [] (by decide) rfl
    have hK9 := hK.sub (tys' := []) [] rfl
    exact W.iret (v := -1) hx hb hr (fun t ht hW => ⟨⟨-1, (), rfl, rfl, by rw [ht]; exact hP9, va_K.moved hW.alike hK9, hD9⟩, hS.F ht⟩) hS.2.2 dX8_at_19
  · refine W.eq (g2 := F0 m 5 ls [.ref q3]) rfl ?_
    refine lv_astore_n (lv' := [(3, .ref q3), (0, .ref h0), (1, .int p0), (2, .int p1)]) hx hb dX8_at_5 rfl hl (by decide) rfl (fun ls hl => ?_)
    refine lv_aload_n hx hb dX8_at_6 rfl (lv_at hl 0 rfl) ?_
    refine lv_ifnonnull (tgt := 14) hx hb dX8_at_7 (by decide) ?_
    refine lv_aload_n hx hb dX8_at_14 rfl (lv_at hl 0 rfl) ?_
    refine lv_iload_n hx hb dX8_at_15 rfl (lv_at hl 3 rfl) ?_
    have hFc := va_free (wc := [(q3, .inr (7, [.ref b3, .int 0]))]) hD hS hA [3] rfl
    refine va_calli (va_runV (As := [.int p1]) (rest := []) ⟨hx, hb, hml, hown, hts⟩ (c_X5_byteAt0 l dC dI q3 b3 p1 H.size) (cwV 1 hts gp_X8_at_X5_byteAt0_195 rfl rfl rfl (by decide +kernel) ⟨Nat.le_of_ble_eq_true rfl, Nat.le_of_ble_eq_true rfl⟩) ⟨Pr.blind _, va_recv hK hP (ci := 7) (q0 := 3) rfl rfl, fun U hU hW => ⟨rfl, Pr.at (hP.sub (ws' := [(q3, .inr (7, [.ref b3, .int 0]))]) [3] rfl) (hK.sub (tys' := []) [] rfl) (hD.sub (ws' := [(q3, .inr (7, [.ref b3, .int 0]))]) [3] (by decide) rfl) hN hZ hS hFc hU hW⟩⟩ rfl rfl hl.1 rfl (lv_room (Nat.le_of_ble_eq_true rfl)) dX8_at_16 ⟨Nat.le_of_ble_eq_true rfl, Nat.le_of_ble_eq_true rfl⟩) hS (fun q _ h => hFc q h) hFc (fun r_13 u t H1 locs ht hvm hw_14 hB hz1 hk1 hS => ?_)
    obtain ⟨hP, hD, hK⟩ := Bq.join (wr := [(q0, .inr (7, [.ref b0, .int 0])), (q1, .inr (7, [.ref b1, .int 0])), (q2, .inr (7, [.ref b2, .int 0])), (h0, .inr (10, [.ref t0, .ref r0, .ref m0, .ref x0, v4, v5, v6, v7, v8, .int 0, .int (-1), .int 0])), (r0, .inl (cR, 4, .inr (.inr (.inr (.inr fR)))))]) hB ht hvm hP hD [3] [0, 1, 2, 4, 5] rfl rfl (by decide) (by decide) hk1 hFc hK
    generalize H1 = H at hP hS ⊢
    have hP : va_P (dC, dI) vwCl [(q0, .inr (7, [.ref b0, .int 0])), (q1, .inr (7, [.ref b1, .int 0])), (q2, .inr (7, [.ref b2, .int 0])), (h0, .inr (10, [.ref t0, .ref r0, .ref m0, .ref x0, v4, v5, v6, v7, v8, .int 0, .int (-1), .int 0])), (r0, .inl (cR, 4, .inr (.inr (.inr (.inr fR)))))] H := hP
    have hD : va_D A [(q0, .inr (7, [.ref b0, .int 0])), (q1, .inr (7, [.ref b1, .int 0])), (q2, .inr (7, [.ref b2, .int 0])), (h0, .inr (10, [.ref t0, .ref r0, .ref m0, .ref x0, v4, v5, v6, v7, v8, .int 0, .int (-1), .int 0])), (r0, .inl (cR, 4, .inr (.inr (.inr (.inr fR)))))] := hD
    have hK : va_K (dC, dI) vwCl [(cR, .object RX5)] s := hK
    try dsimp only at hw_14
    have k_15 := hw_14
    refine W_toi (y := -1) k_15 ?_
    have hP9 := hP.sub (ws' := []) [] rfl
    have hD9 := hD.sub (ws' := []) [] (by decide) rfl
    have hK9 := hK.sub (tys' := []) [] rfl
    exact W.iret (v := -1) hx hb hr (fun t ht hW => ⟨⟨-1, (), rfl, rfl, by rw [ht]; exact hP9, va_K.moved hW.alike hK9, hD9⟩, hS.F ht⟩) hS.2.2 dX8_at_19
def wp_X8_feed : List Cond := .code yX8_feed cX8_feed 6 (some .int) :: ([.fieldLink RX8 14 "RecordBench" "tape" "LRecordBench$Row;", .methodLink RX8 76 yX5_size, .instanceMethod yX5_size, .selects RX5 yX5_size yX5_size, .initialized RX5, .methodLink RX8 80 yX5_pushWord, .instanceMethod yX5_pushWord, .selects RX5 yX5_pushWord yX5_pushWord, .code yX5_size cX5_size 1 (some .int), .fieldLink RX5 21 "RecordBench$Row" "size" "I", .code yX5_pushWord cX5_pushWord 2 none, .methodLink RX5 25 yX5_push, .instanceMethod yX5_push, .selects RX5 yX5_push yX5_push, .code yX5_push cX5_push 2 none, .fieldLink RX5 15 "RecordBench$Row" "bytes" "[I"] ++ wsX80 ++ wsX50)
set_option maxRecDepth 20000 in
theorem gp_X8_feed_X5_size_76 : GoodIn wp_X8_feed (wsV RX8 76 RX5 yX5_size wp_X5_size) := goodIn_p _ [9] rfl (by decide +kernel)
set_option maxRecDepth 20000 in
theorem gp_X8_feed_X5_pushWord_80 : GoodIn wp_X8_feed (wsV RX8 80 RX5 yX5_pushWord wp_X5_pushWord) := goodIn_p _ [11, 15] rfl (by decide +kernel)
set_option maxHeartbeats 4000000 in
set_option maxRecDepth 100000 in
theorem c_X8_feed (l : Launch) (dC : Nat → ClassId) (dI : Nat → Nat → Nat) (h0 : Nat) (t0 : Nat) (r0 : Nat) (m0 : Nat) (x0 : Nat) (v4 : Value) (v5 : Value) (v6 : Value) (v7 : Value) (v8 : Value) (tb : Nat) (cT : ClassId) (p0 : Int32) (p1 : Int32) (p2 : Int32) (p3 : Int32) (p4 : Int32) (sz : Nat) : Met l yX8_feed wp_X8_feed ({ frames := 2, cells := 0, slots := 0, locals := 50 }) (va_Pc [.ref h0, .int p0, .int p1, .int p2, .int p3, .int p4] (Pr (dC, dI) [(cT, .int)] [(h0, .inr (10, [.ref t0, .ref r0, .ref m0, .ref x0, v4, v5, v6, v7, v8, .int 0, .int ((-1)), .int 0])), (t0, .inr (7, [.ref tb, .int 0])), (tb, .inl (cT, 400, .inl (fun _ => 0)))] sz)) (va_Qi (fun r : Int32 => (fun _ : Unit => r = 20)) (Bq (dC, dI) (fun _ : Unit => []) (fun _ : Unit => []) (va_A [(h0, .inr (10, [.ref t0, .ref r0, .ref m0, .ref x0, v4, v5, v6, v7, v8, .int 0, .int ((-1)), .int 0])), (t0, .inr (7, [.ref tb, .int 0])), (tb, .inl (cT, 400, .inl (fun _ => 0)))] sz)) (va_A [(h0, .inr (10, [.ref t0, .ref r0, .ref m0, .ref x0, v4, v5, v6, v7, v8, .int 0, .int ((-1)), .int 0])), (t0, .inr (7, [.ref tb, .int 0])), (tb, .inl (cT, 400, .inl (fun _ => 0)))] sz)) 0 0 (va_A [(h0, .inr (10, [.ref t0, .ref r0, .ref m0, .ref x0, v4, v5, v6, v7, v8, .int 0, .int ((-1)), .int 0])), (t0, .inr (7, [.ref tb, .int 0])), (tb, .inl (cT, 400, .inl (fun _ => 0)))] sz) := by
  refine Met.ofW (cc := cX8_feed) (maxL := 6) (ret := (some .int)) (by decide) rfl ?_
  intro p e s m args below meth c s₁ B hml hv
  obtain ⟨rfl, hsz, hP, hK, hD0, hN, hZ⟩ := hv
  have hx := B.exec
  have hb := B.bytes
  have hr := B.returns
  have hts := atoms_spec (ws := wp_X8_feed) B.pre
  have hown : s.vm.findClass RX8 = some m.cls := findClass_of_methodNamed B.named
  have hlocks := B.notSynchronized
  have iRX8 : ∀ w ∈ u_ws RX8 TX8 12, w ∈ wp_X8_feed := by decide +kernel
  subst hsz
  have hD := hD0.self (sz := s.heap.size)
  generalize hAe : va_A [(h0, .inr (10, [.ref t0, .ref r0, .ref m0, .ref x0, v4, v5, v6, v7, v8, .int 0, .int ((-1)), .int 0])), (t0, .inr (7, [.ref tb, .int 0])), (tb, .inl (cT, 400, .inl (fun _ => 0)))] s.heap.size = A at hD hZ ⊢
  have hA : ∀ q : Nat, s.heap.size ≤ q → A q := fun q h => by rw [← hAe]; exact Or.inr h
  have hS : va_S A s.heap s.heap [] := va_S.rf
  have hP : va_P (dC, dI) vwCl [(h0, .inr (10, [.ref t0, .ref r0, .ref m0, .ref x0, v4, v5, v6, v7, v8, .int 0, .int ((-1)), .int 0])), (t0, .inr (7, [.ref tb, .int 0])), (tb, .inl (cT, 400, .inl (fun _ => 0)))] s.heap := hP
  have hl := lv_entry ([.ref h0, .int p0, .int p1, .int p2, .int p3, .int p4]) (n := 6) (Nat.le_of_ble_eq_true rfl)
  rw [lg_entry_eq]
  generalize (lg_sl ([.ref h0, .int p0, .int p1, .int p2, .int p3, .int p4]) ++ List.replicate (6 - (lg_sl ([.ref h0, .int p0, .int p1, .int p2, .int p3, .int p4])).length) Slot.unset).toArray = ls at hl ⊢
  have hl : lv_has ls 6 [(0, .ref h0), (1, .int p0), (2, .int p1), (3, .int p2), (4, .int p3), (5, .int p4)] := hl
  refine lv_aload_n hx hb dX8_feed_0 rfl (lv_at hl 0 rfl) ?_
  refine va_get (D := (dC, dI)) (ci := 10) (v := .ref t0) (C := RX8) (T := TX8) (N := 12) hx hb hts iRX8 hown hK hP 0 rfl rfl 0 (by decide) (hts (.fieldLink RX8 14 "RecordBench" "tape" "LRecordBench$Row;") (by decide +kernel)) (fun _ h9 => h9) rfl dX8_feed_1 ?_
  have hFc := va_free (wc := [(t0, .inr (7, [.ref tb, .int 0]))]) hD hS hA [1] rfl
  refine va_calli (va_runV (As := []) (rest := []) ⟨hx, hb, hml, hown, hts⟩ (c_X5_size l dC dI t0 tb 0 s.heap.size) (cwV 0 hts gp_X8_feed_X5_size_76 rfl rfl rfl (by decide +kernel) ⟨Nat.le_of_ble_eq_true rfl, Nat.le_of_ble_eq_true rfl⟩) ⟨Pr.blind _, va_recv hK hP (ci := 7) (q0 := 1) rfl rfl, fun U hU hW => ⟨rfl, Pr.at (hP.sub (ws' := [(t0, .inr (7, [.ref tb, .int 0]))]) [1] rfl) (hK.sub (tys' := []) [] rfl) (hD.sub (ws' := [(t0, .inr (7, [.ref tb, .int 0]))]) [1] (by decide) rfl) hN hZ hS hFc hU hW⟩⟩ rfl rfl hl.1 rfl (lv_room (Nat.le_of_ble_eq_true rfl)) dX8_feed_4 ⟨Nat.le_of_ble_eq_true rfl, Nat.le_of_ble_eq_true rfl⟩) hS (fun q _ h => hFc q h) hFc (fun r_1 u t H1 locs ht hvm hw_2 hB hz1 hk1 hS => ?_)
  obtain ⟨hP, hD, hK⟩ := Bq.join (wr := [(h0, .inr (10, [.ref t0, .ref r0, .ref m0, .ref x0, v4, v5, v6, v7, v8, .int 0, .int ((-1)), .int 0])), (tb, .inl (cT, 400, .inl (fun _ => 0)))]) hB ht hvm hP hD [1] [0, 2] rfl rfl (by decide) (by decide) hk1 hFc hK
  generalize H1 = H at hP hS ⊢
  have hP : va_P (dC, dI) vwCl [(h0, .inr (10, [.ref t0, .ref r0, .ref m0, .ref x0, v4, v5, v6, v7, v8, .int 0, .int ((-1)), .int 0])), (tb, .inl (cT, 400, .inl (fun _ => 0))), (t0, .inr (7, [.ref tb, .int 0]))] H := hP
  have hD : va_D A [(h0, .inr (10, [.ref t0, .ref r0, .ref m0, .ref x0, v4, v5, v6, v7, v8, .int 0, .int ((-1)), .int 0])), (tb, .inl (cT, 400, .inl (fun _ => 0))), (t0, .inr (7, [.ref tb, .int 0]))] := hD
  have hK : va_K (dC, dI) vwCl [(cT, .int)] s := hK
  try dsimp only at hw_2
  have k_3 := hw_2
  refine W_toi (y := 0) k_3 ?_
  refine lv_bipush (v := 20) hx hb dX8_feed_7 (by decide) ?_
  refine lv_iadd hx hb dX8_feed_9 ?_
  refine W_toi (y := 20) (by decide) ?_
  refine lv_sipush (v := 400) hx hb dX8_feed_10 (by decide) ?_
  refine lv_icmp_le (tgt := 18) hx hb dX8_feed_13 (by decide) (fun c_4 => ?_) (fun c_4 => absurd (by decide) c_4)
  refine lv_aload_n hx hb dX8_feed_18 rfl (lv_at hl 0 rfl) ?_
  refine va_get (D := (dC, dI)) (ci := 10) (v := .ref t0) (C := RX8) (T := TX8) (N := 12) hx hb hts iRX8 hown hK hP 0 rfl rfl 0 (by decide) (hts (.fieldLink RX8 14 "RecordBench" "tape" "LRecordBench$Row;") (by decide +kernel)) (fun _ h9 => h9) rfl dX8_feed_19 ?_
  refine lv_iload_n hx hb dX8_feed_22 rfl (lv_at hl 1 rfl) ?_
  have hFc := va_free (wc := [(t0, .inr (7, [.ref tb, .int 0])), (tb, .inl (cT, 400, .inl (fun _ => 0)))]) hD hS hA [2, 1] rfl
  refine va_callv (va_runV (As := [.int p0]) (rest := []) ⟨hx, hb, hml, hown, hts⟩ (c_X5_pushWord l dC dI t0 tb 0 cT (fun _ => 0) p0 (by decide) H.size) (cwV 1 hts gp_X8_feed_X5_pushWord_80 rfl rfl rfl (by decide +kernel) ⟨Nat.le_of_ble_eq_true rfl, Nat.le_of_ble_eq_true rfl⟩) ⟨Pr.blind _, va_recv hK hP (ci := 7) (q0 := 2) rfl rfl, fun U hU hW => ⟨rfl, Pr.at (hP.sub (ws' := [(t0, .inr (7, [.ref tb, .int 0])), (tb, .inl (cT, 400, .inl (fun _ => 0)))]) [2, 1] rfl) (hK.sub (tys' := [(cT, .int)]) [0] rfl) (hD.sub (ws' := [(t0, .inr (7, [.ref tb, .int 0])), (tb, .inl (cT, 400, .inl (fun _ => 0)))]) [2, 1] (by decide) rfl) hN hZ hS hFc hU hW⟩⟩ rfl rfl hl.1 rfl (lv_room (Nat.le_of_ble_eq_true rfl)) dX8_feed_23 ⟨Nat.le_of_ble_eq_true rfl, Nat.le_of_ble_eq_true rfl⟩) hS (fun q _ h => hFc q h) hFc (fun u t H1 locs ht hvm hw_6 hB hz1 hk1 hS => ?_)
  obtain ⟨f1_7, rfl⟩ : ∃ z, z = u := ⟨_, rfl⟩
  obtain ⟨hP, hD, hK⟩ := Bq.join (wr := [(h0, .inr (10, [.ref t0, .ref r0, .ref m0, .ref x0, v4, v5, v6, v7, v8, .int 0, .int ((-1)), .int 0]))]) hB ht hvm hP hD [2, 1] [0] rfl rfl (by decide) (by decide) hk1 hFc hK
  generalize H1 = H at hP hS ⊢
  have hP : va_P (dC, dI) vwCl [(h0, .inr (10, [.ref t0, .ref r0, .ref m0, .ref x0, v4, v5, v6, v7, v8, .int 0, .int ((-1)), .int 0])), (t0, .inr (7, [.ref tb, .int (nI (0 + 4))])), (tb, .inl (cT, 400, .inl f1_7))] H := hP
  have hD : va_D A [(h0, .inr (10, [.ref t0, .ref r0, .ref m0, .ref x0, v4, v5, v6, v7, v8, .int 0, .int ((-1)), .int 0])), (t0, .inr (7, [.ref tb, .int (nI (0 + 4))])), (tb, .inl (cT, 400, .inl f1_7))] := hD
  have hK : va_K (dC, dI) vwCl [(cT, .int)] s := hK
  refine lv_aload_n hx hb dX8_feed_26 rfl (lv_at hl 0 rfl) ?_
  refine va_get (D := (dC, dI)) (ci := 10) (v := .ref t0) (C := RX8) (T := TX8) (N := 12) hx hb hts iRX8 hown hK hP 0 rfl rfl 0 (by decide) (hts (.fieldLink RX8 14 "RecordBench" "tape" "LRecordBench$Row;") (by decide +kernel)) (fun _ h9 => h9) rfl dX8_feed_27 ?_
  refine lv_iload_n hx hb dX8_feed_30 rfl (lv_at hl 2 rfl) ?_
  have hFc := va_free (wc := [(t0, .inr (7, [.ref tb, .int (nI (0 + 4))])), (tb, .inl (cT, 400, .inl f1_7))]) hD hS hA [1, 2] rfl
  refine va_callv (va_runV (As := [.int p1]) (rest := []) ⟨hx, hb, hml, hown, hts⟩ (c_X5_pushWord l dC dI t0 tb (0 + 4) cT f1_7 p1 (by decide) H.size) (cwV 1 hts gp_X8_feed_X5_pushWord_80 rfl rfl rfl (by decide +kernel) ⟨Nat.le_of_ble_eq_true rfl, Nat.le_of_ble_eq_true rfl⟩) ⟨Pr.blind _, va_recv hK hP (ci := 7) (q0 := 1) rfl rfl, fun U hU hW => ⟨rfl, Pr.at (hP.sub (ws' := [(t0, .inr (7, [.ref tb, .int (nI (0 + 4))])), (tb, .inl (cT, 400, .inl f1_7))]) [1, 2] rfl) (hK.sub (tys' := [(cT, .int)]) [0] rfl) (hD.sub (ws' := [(t0, .inr (7, [.ref tb, .int (nI (0 + 4))])), (tb, .inl (cT, 400, .inl f1_7))]) [1, 2] (by decide) rfl) hN hZ hS hFc hU hW⟩⟩ rfl rfl hl.1 rfl (lv_room (Nat.le_of_ble_eq_true rfl)) dX8_feed_31 ⟨Nat.le_of_ble_eq_true rfl, Nat.le_of_ble_eq_true rfl⟩) hS (fun q _ h => hFc q h) hFc (fun u t H1 locs ht hvm hw_9 hB hz1 hk1 hS => ?_)
  obtain ⟨f1_10, rfl⟩ : ∃ z, z = u := ⟨_, rfl⟩
  obtain ⟨hP, hD, hK⟩ := Bq.join (wr := [(h0, .inr (10, [.ref t0, .ref r0, .ref m0, .ref x0, v4, v5, v6, v7, v8, .int 0, .int ((-1)), .int 0]))]) hB ht hvm hP hD [1, 2] [0] rfl rfl (by decide) (by decide) hk1 hFc hK
  generalize H1 = H at hP hS ⊢
  have hP : va_P (dC, dI) vwCl [(h0, .inr (10, [.ref t0, .ref r0, .ref m0, .ref x0, v4, v5, v6, v7, v8, .int 0, .int ((-1)), .int 0])), (t0, .inr (7, [.ref tb, .int (nI ((0 + 4) + 4))])), (tb, .inl (cT, 400, .inl f1_10))] H := hP
  have hD : va_D A [(h0, .inr (10, [.ref t0, .ref r0, .ref m0, .ref x0, v4, v5, v6, v7, v8, .int 0, .int ((-1)), .int 0])), (t0, .inr (7, [.ref tb, .int (nI ((0 + 4) + 4))])), (tb, .inl (cT, 400, .inl f1_10))] := hD
  have hK : va_K (dC, dI) vwCl [(cT, .int)] s := hK
  refine lv_aload_n hx hb dX8_feed_34 rfl (lv_at hl 0 rfl) ?_
  refine va_get (D := (dC, dI)) (ci := 10) (v := .ref t0) (C := RX8) (T := TX8) (N := 12) hx hb hts iRX8 hown hK hP 0 rfl rfl 0 (by decide) (hts (.fieldLink RX8 14 "RecordBench" "tape" "LRecordBench$Row;") (by decide +kernel)) (fun _ h9 => h9) rfl dX8_feed_35 ?_
  refine lv_iload_n hx hb dX8_feed_38 rfl (lv_at hl 3 rfl) ?_
  have hFc := va_free (wc := [(t0, .inr (7, [.ref tb, .int (nI ((0 + 4) + 4))])), (tb, .inl (cT, 400, .inl f1_10))]) hD hS hA [1, 2] rfl
  refine va_callv (va_runV (As := [.int p2]) (rest := []) ⟨hx, hb, hml, hown, hts⟩ (c_X5_pushWord l dC dI t0 tb ((0 + 4) + 4) cT f1_10 p2 (by decide) H.size) (cwV 1 hts gp_X8_feed_X5_pushWord_80 rfl rfl rfl (by decide +kernel) ⟨Nat.le_of_ble_eq_true rfl, Nat.le_of_ble_eq_true rfl⟩) ⟨Pr.blind _, va_recv hK hP (ci := 7) (q0 := 1) rfl rfl, fun U hU hW => ⟨rfl, Pr.at (hP.sub (ws' := [(t0, .inr (7, [.ref tb, .int (nI ((0 + 4) + 4))])), (tb, .inl (cT, 400, .inl f1_10))]) [1, 2] rfl) (hK.sub (tys' := [(cT, .int)]) [0] rfl) (hD.sub (ws' := [(t0, .inr (7, [.ref tb, .int (nI ((0 + 4) + 4))])), (tb, .inl (cT, 400, .inl f1_10))]) [1, 2] (by decide) rfl) hN hZ hS hFc hU hW⟩⟩ rfl rfl hl.1 rfl (lv_room (Nat.le_of_ble_eq_true rfl)) dX8_feed_39 ⟨Nat.le_of_ble_eq_true rfl, Nat.le_of_ble_eq_true rfl⟩) hS (fun q _ h => hFc q h) hFc (fun u t H1 locs ht hvm hw_12 hB hz1 hk1 hS => ?_)
  obtain ⟨f1_13, rfl⟩ : ∃ z, z = u := ⟨_, rfl⟩
  obtain ⟨hP, hD, hK⟩ := Bq.join (wr := [(h0, .inr (10, [.ref t0, .ref r0, .ref m0, .ref x0, v4, v5, v6, v7, v8, .int 0, .int ((-1)), .int 0]))]) hB ht hvm hP hD [1, 2] [0] rfl rfl (by decide) (by decide) hk1 hFc hK
  generalize H1 = H at hP hS ⊢
  have hP : va_P (dC, dI) vwCl [(h0, .inr (10, [.ref t0, .ref r0, .ref m0, .ref x0, v4, v5, v6, v7, v8, .int 0, .int ((-1)), .int 0])), (t0, .inr (7, [.ref tb, .int (nI (((0 + 4) + 4) + 4))])), (tb, .inl (cT, 400, .inl f1_13))] H := hP
  have hD : va_D A [(h0, .inr (10, [.ref t0, .ref r0, .ref m0, .ref x0, v4, v5, v6, v7, v8, .int 0, .int ((-1)), .int 0])), (t0, .inr (7, [.ref tb, .int (nI (((0 + 4) + 4) + 4))])), (tb, .inl (cT, 400, .inl f1_13))] := hD
  have hK : va_K (dC, dI) vwCl [(cT, .int)] s := hK
  refine lv_aload_n hx hb dX8_feed_42 rfl (lv_at hl 0 rfl) ?_
  refine va_get (D := (dC, dI)) (ci := 10) (v := .ref t0) (C := RX8) (T := TX8) (N := 12) hx hb hts iRX8 hown hK hP 0 rfl rfl 0 (by decide) (hts (.fieldLink RX8 14 "RecordBench" "tape" "LRecordBench$Row;") (by decide +kernel)) (fun _ h9 => h9) rfl dX8_feed_43 ?_
  refine lv_iload hx hb dX8_feed_46 (lv_at hl 4 rfl) ?_
  have hFc := va_free (wc := [(t0, .inr (7, [.ref tb, .int (nI (((0 + 4) + 4) + 4))])), (tb, .inl (cT, 400, .inl f1_13))]) hD hS hA [1, 2] rfl
  refine va_callv (va_runV (As := [.int p3]) (rest := []) ⟨hx, hb, hml, hown, hts⟩ (c_X5_pushWord l dC dI t0 tb (((0 + 4) + 4) + 4) cT f1_13 p3 (by decide) H.size) (cwV 1 hts gp_X8_feed_X5_pushWord_80 rfl rfl rfl (by decide +kernel) ⟨Nat.le_of_ble_eq_true rfl, Nat.le_of_ble_eq_true rfl⟩) ⟨Pr.blind _, va_recv hK hP (ci := 7) (q0 := 1) rfl rfl, fun U hU hW => ⟨rfl, Pr.at (hP.sub (ws' := [(t0, .inr (7, [.ref tb, .int (nI (((0 + 4) + 4) + 4))])), (tb, .inl (cT, 400, .inl f1_13))]) [1, 2] rfl) (hK.sub (tys' := [(cT, .int)]) [0] rfl) (hD.sub (ws' := [(t0, .inr (7, [.ref tb, .int (nI (((0 + 4) + 4) + 4))])), (tb, .inl (cT, 400, .inl f1_13))]) [1, 2] (by decide) rfl) hN hZ hS hFc hU hW⟩⟩ rfl rfl hl.1 rfl (lv_room (Nat.le_of_ble_eq_true rfl)) dX8_feed_48 ⟨Nat.le_of_ble_eq_true rfl, Nat.le_of_ble_eq_true rfl⟩) hS (fun q _ h => hFc q h) hFc (fun u t H1 locs ht hvm hw_15 hB hz1 hk1 hS => ?_)
  obtain ⟨f1_16, rfl⟩ : ∃ z, z = u := ⟨_, rfl⟩
  obtain ⟨hP, hD, hK⟩ := Bq.join (wr := [(h0, .inr (10, [.ref t0, .ref r0, .ref m0, .ref x0, v4, v5, v6, v7, v8, .int 0, .int ((-1)), .int 0]))]) hB ht hvm hP hD [1, 2] [0] rfl rfl (by decide) (by decide) hk1 hFc hK
  generalize H1 = H at hP hS ⊢
  have hP : va_P (dC, dI) vwCl [(h0, .inr (10, [.ref t0, .ref r0, .ref m0, .ref x0, v4, v5, v6, v7, v8, .int 0, .int ((-1)), .int 0])), (t0, .inr (7, [.ref tb, .int (nI ((((0 + 4) + 4) + 4) + 4))])), (tb, .inl (cT, 400, .inl f1_16))] H := hP
  have hD : va_D A [(h0, .inr (10, [.ref t0, .ref r0, .ref m0, .ref x0, v4, v5, v6, v7, v8, .int 0, .int ((-1)), .int 0])), (t0, .inr (7, [.ref tb, .int (nI ((((0 + 4) + 4) + 4) + 4))])), (tb, .inl (cT, 400, .inl f1_16))] := hD
  have hK : va_K (dC, dI) vwCl [(cT, .int)] s := hK
  refine lv_aload_n hx hb dX8_feed_51 rfl (lv_at hl 0 rfl) ?_
  refine va_get (D := (dC, dI)) (ci := 10) (v := .ref t0) (C := RX8) (T := TX8) (N := 12) hx hb hts iRX8 hown hK hP 0 rfl rfl 0 (by decide) (hts (.fieldLink RX8 14 "RecordBench" "tape" "LRecordBench$Row;") (by decide +kernel)) (fun _ h9 => h9) rfl dX8_feed_52 ?_
  refine lv_iload hx hb dX8_feed_55 (lv_at hl 5 rfl) ?_
  have hFc := va_free (wc := [(t0, .inr (7, [.ref tb, .int (nI ((((0 + 4) + 4) + 4) + 4))])), (tb, .inl (cT, 400, .inl f1_16))]) hD hS hA [1, 2] rfl
  refine va_callv (va_runV (As := [.int p4]) (rest := []) ⟨hx, hb, hml, hown, hts⟩ (c_X5_pushWord l dC dI t0 tb ((((0 + 4) + 4) + 4) + 4) cT f1_16 p4 (by decide) H.size) (cwV 1 hts gp_X8_feed_X5_pushWord_80 rfl rfl rfl (by decide +kernel) ⟨Nat.le_of_ble_eq_true rfl, Nat.le_of_ble_eq_true rfl⟩) ⟨Pr.blind _, va_recv hK hP (ci := 7) (q0 := 1) rfl rfl, fun U hU hW => ⟨rfl, Pr.at (hP.sub (ws' := [(t0, .inr (7, [.ref tb, .int (nI ((((0 + 4) + 4) + 4) + 4))])), (tb, .inl (cT, 400, .inl f1_16))]) [1, 2] rfl) (hK.sub (tys' := [(cT, .int)]) [0] rfl) (hD.sub (ws' := [(t0, .inr (7, [.ref tb, .int (nI ((((0 + 4) + 4) + 4) + 4))])), (tb, .inl (cT, 400, .inl f1_16))]) [1, 2] (by decide) rfl) hN hZ hS hFc hU hW⟩⟩ rfl rfl hl.1 rfl (lv_room (Nat.le_of_ble_eq_true rfl)) dX8_feed_57 ⟨Nat.le_of_ble_eq_true rfl, Nat.le_of_ble_eq_true rfl⟩) hS (fun q _ h => hFc q h) hFc (fun u t H1 locs ht hvm hw_18 hB hz1 hk1 hS => ?_)
  obtain ⟨f1_19, rfl⟩ : ∃ z, z = u := ⟨_, rfl⟩
  obtain ⟨hP, hD, hK⟩ := Bq.join (wr := [(h0, .inr (10, [.ref t0, .ref r0, .ref m0, .ref x0, v4, v5, v6, v7, v8, .int 0, .int ((-1)), .int 0]))]) hB ht hvm hP hD [1, 2] [0] rfl rfl (by decide) (by decide) hk1 hFc hK
  generalize H1 = H at hP hS ⊢
  have hP : va_P (dC, dI) vwCl [(h0, .inr (10, [.ref t0, .ref r0, .ref m0, .ref x0, v4, v5, v6, v7, v8, .int 0, .int ((-1)), .int 0])), (t0, .inr (7, [.ref tb, .int (nI (((((0 + 4) + 4) + 4) + 4) + 4))])), (tb, .inl (cT, 400, .inl f1_19))] H := hP
  have hD : va_D A [(h0, .inr (10, [.ref t0, .ref r0, .ref m0, .ref x0, v4, v5, v6, v7, v8, .int 0, .int ((-1)), .int 0])), (t0, .inr (7, [.ref tb, .int (nI (((((0 + 4) + 4) + 4) + 4) + 4))])), (tb, .inl (cT, 400, .inl f1_19))] := hD
  have hK : va_K (dC, dI) vwCl [(cT, .int)] s := hK
  refine lv_aload_n hx hb dX8_feed_60 rfl (lv_at hl 0 rfl) ?_
  refine va_get (D := (dC, dI)) (ci := 10) (v := .ref t0) (C := RX8) (T := TX8) (N := 12) hx hb hts iRX8 hown hK hP 0 rfl rfl 0 (by decide) (hts (.fieldLink RX8 14 "RecordBench" "tape" "LRecordBench$Row;") (by decide +kernel)) (fun _ h9 => h9) rfl dX8_feed_61 ?_
  have hFc := va_free (wc := [(t0, .inr (7, [.ref tb, .int (nI (((((0 + 4) + 4) + 4) + 4) + 4))]))]) hD hS hA [1] rfl
  refine va_calli (va_runV (As := []) (rest := []) ⟨hx, hb, hml, hown, hts⟩ (c_X5_size l dC dI t0 tb (nI (((((0 + 4) + 4) + 4) + 4) + 4)) H.size) (cwV 0 hts gp_X8_feed_X5_size_76 rfl rfl rfl (by decide +kernel) ⟨Nat.le_of_ble_eq_true rfl, Nat.le_of_ble_eq_true rfl⟩) ⟨Pr.blind _, va_recv hK hP (ci := 7) (q0 := 1) rfl rfl, fun U hU hW => ⟨rfl, Pr.at (hP.sub (ws' := [(t0, .inr (7, [.ref tb, .int (nI (((((0 + 4) + 4) + 4) + 4) + 4))]))]) [1] rfl) (hK.sub (tys' := []) [] rfl) (hD.sub (ws' := [(t0, .inr (7, [.ref tb, .int (nI (((((0 + 4) + 4) + 4) + 4) + 4))]))]) [1] (by decide) rfl) hN hZ hS hFc hU hW⟩⟩ rfl rfl hl.1 rfl (lv_room (Nat.le_of_ble_eq_true rfl)) dX8_feed_64 ⟨Nat.le_of_ble_eq_true rfl, Nat.le_of_ble_eq_true rfl⟩) hS (fun q _ h => hFc q h) hFc (fun r_20 u t H1 locs ht hvm hw_21 hB hz1 hk1 hS => ?_)
  obtain ⟨hP, hD, hK⟩ := Bq.join (wr := [(h0, .inr (10, [.ref t0, .ref r0, .ref m0, .ref x0, v4, v5, v6, v7, v8, .int 0, .int ((-1)), .int 0])), (tb, .inl (cT, 400, .inl f1_19))]) hB ht hvm hP hD [1] [0, 2] rfl rfl (by decide) (by decide) hk1 hFc hK
  generalize H1 = H at hP hS ⊢
  have hP : va_P (dC, dI) vwCl [(h0, .inr (10, [.ref t0, .ref r0, .ref m0, .ref x0, v4, v5, v6, v7, v8, .int 0, .int ((-1)), .int 0])), (tb, .inl (cT, 400, .inl f1_19)), (t0, .inr (7, [.ref tb, .int (nI (((((0 + 4) + 4) + 4) + 4) + 4))]))] H := hP
  have hD : va_D A [(h0, .inr (10, [.ref t0, .ref r0, .ref m0, .ref x0, v4, v5, v6, v7, v8, .int 0, .int ((-1)), .int 0])), (tb, .inl (cT, 400, .inl f1_19)), (t0, .inr (7, [.ref tb, .int (nI (((((0 + 4) + 4) + 4) + 4) + 4))]))] := hD
  have hK : va_K (dC, dI) vwCl [(cT, .int)] s := hK
  try dsimp only at hw_21
  have k_22 := hw_21
  refine W_toi (y := nI (((((0 + 4) + 4) + 4) + 4) + 4)) k_22 ?_
  have hP9 := hP.sub (ws' := []) [] rfl
  have hD9 := hD.sub (ws' := []) [] (by decide) rfl
  have hK9 := hK.sub (tys' := []) [] rfl
  exact W.iret (v := nI (((((0 + 4) + 4) + 4) + 4) + 4)) hx hb hr (fun t ht hW => ⟨⟨nI (((((0 + 4) + 4) + 4) + 4) + 4), (), rfl, (by decide), by rw [ht]; exact hP9, va_K.moved hW.alike hK9, hD9⟩, hS.F ht⟩) hS.2.2 dX8_feed_67
def wp_X8_end : List Cond := .code yX8_end cX8_end 2 (some .boolean) :: ([.fieldLink RX8 14 "RecordBench" "tape" "LRecordBench$Row;", .methodLink RX8 83 yX5_cut, .instanceMethod yX5_cut, .selects RX5 yX5_cut yX5_cut, .initialized RX5, .code yX5_cut cX5_cut 2 (some .boolean), .fieldLink RX5 21 "RecordBench$Row" "size" "I"] ++ wsX80 ++ wsX50)
set_option maxRecDepth 20000 in
theorem gp_X8_end_X5_cutA_83 : GoodIn wp_X8_end (wsV RX8 83 RX5 yX5_cut wp_X5_cutA) := goodIn_p _ [6] rfl (by decide +kernel)
set_option maxHeartbeats 4000000 in
set_option maxRecDepth 100000 in
theorem c_X8_end (l : Launch) (dC : Nat → ClassId) (dI : Nat → Nat → Nat) (h0 : Nat) (t0 : Nat) (r0 : Nat) (m0 : Nat) (x0 : Nat) (v4 : Value) (v5 : Value) (v6 : Value) (v7 : Value) (v8 : Value) (tb : Nat) (p0 : Int32) (sz : Nat) : Met l yX8_end wp_X8_end ({ frames := 1, cells := 0, slots := 0, locals := 25 }) (va_Pc [.ref h0, .int p0] (Pr (dC, dI) [] [(h0, .inr (10, [.ref t0, .ref r0, .ref m0, .ref x0, v4, v5, v6, v7, v8, .int 0, .int ((-1)), .int 0])), (t0, .inr (7, [.ref tb, .int 0]))] sz)) (va_Qi (fun r : Int32 => (fun _ : Unit => r = if p0 < 0 ∨ ¬ p0 ≤ 0 then 0 else 1)) (Bq (dC, dI) (fun _ : Unit => []) (fun _ : Unit => []) (va_A [(h0, .inr (10, [.ref t0, .ref r0, .ref m0, .ref x0, v4, v5, v6, v7, v8, .int 0, .int ((-1)), .int 0])), (t0, .inr (7, [.ref tb, .int 0]))] sz)) (va_A [(h0, .inr (10, [.ref t0, .ref r0, .ref m0, .ref x0, v4, v5, v6, v7, v8, .int 0, .int ((-1)), .int 0])), (t0, .inr (7, [.ref tb, .int 0]))] sz)) 0 0 (va_A [(h0, .inr (10, [.ref t0, .ref r0, .ref m0, .ref x0, v4, v5, v6, v7, v8, .int 0, .int ((-1)), .int 0])), (t0, .inr (7, [.ref tb, .int 0]))] sz) := by
  refine Met.ofW (cc := cX8_end) (maxL := 2) (ret := (some .boolean)) (by decide) rfl ?_
  intro p e s m args below meth c s₁ B hml hv
  obtain ⟨rfl, hsz, hP, hK, hD0, hN, hZ⟩ := hv
  have hx := B.exec
  have hb := B.bytes
  have hr := B.returns
  have hts := atoms_spec (ws := wp_X8_end) B.pre
  have hown : s.vm.findClass RX8 = some m.cls := findClass_of_methodNamed B.named
  have hlocks := B.notSynchronized
  have iRX8 : ∀ w ∈ u_ws RX8 TX8 12, w ∈ wp_X8_end := by decide +kernel
  subst hsz
  have hD := hD0.self (sz := s.heap.size)
  generalize hAe : va_A [(h0, .inr (10, [.ref t0, .ref r0, .ref m0, .ref x0, v4, v5, v6, v7, v8, .int 0, .int ((-1)), .int 0])), (t0, .inr (7, [.ref tb, .int 0]))] s.heap.size = A at hD hZ ⊢
  have hA : ∀ q : Nat, s.heap.size ≤ q → A q := fun q h => by rw [← hAe]; exact Or.inr h
  have hS : va_S A s.heap s.heap [] := va_S.rf
  have hP : va_P (dC, dI) vwCl [(h0, .inr (10, [.ref t0, .ref r0, .ref m0, .ref x0, v4, v5, v6, v7, v8, .int 0, .int ((-1)), .int 0])), (t0, .inr (7, [.ref tb, .int 0]))] s.heap := hP
  have hl := lv_entry ([.ref h0, .int p0]) (n := 2) (Nat.le_of_ble_eq_true rfl)
  rw [lg_entry_eq]
  generalize (lg_sl ([.ref h0, .int p0]) ++ List.replicate (2 - (lg_sl ([.ref h0, .int p0])).length) Slot.unset).toArray = ls at hl ⊢
  have hl : lv_has ls 2 [(0, .ref h0), (1, .int p0)] := hl
  refine lv_aload_n hx hb dX8_end_0 rfl (lv_at hl 0 rfl) ?_
  refine va_get (D := (dC, dI)) (ci := 10) (v := .ref t0) (C := RX8) (T := TX8) (N := 12) hx hb hts iRX8 hown hK hP 0 rfl rfl 0 (by decide) (hts (.fieldLink RX8 14 "RecordBench" "tape" "LRecordBench$Row;") (by decide +kernel)) (fun _ h9 => h9) rfl dX8_end_1 ?_
  refine lv_iload_n hx hb dX8_end_4 rfl (lv_at hl 1 rfl) ?_
  have hFc := va_free (wc := [(t0, .inr (7, [.ref tb, .int 0]))]) hD hS hA [1] rfl
  refine va_calli (va_runV (As := [.int p0]) (rest := []) ⟨hx, hb, hml, hown, hts⟩ (c_X5_cutA l dC dI t0 tb p0 s.heap.size) (cwV 1 hts gp_X8_end_X5_cutA_83 rfl rfl rfl (by decide +kernel) ⟨Nat.le_of_ble_eq_true rfl, Nat.le_of_ble_eq_true rfl⟩) ⟨Pr.blind _, va_recv hK hP (ci := 7) (q0 := 1) rfl rfl, fun U hU hW => ⟨rfl, Pr.at (hP.sub (ws' := [(t0, .inr (7, [.ref tb, .int 0]))]) [1] rfl) (hK.sub (tys' := []) [] rfl) (hD.sub (ws' := [(t0, .inr (7, [.ref tb, .int 0]))]) [1] (by decide) rfl) hN hZ hS hFc hU hW⟩⟩ rfl rfl hl.1 rfl (lv_room (Nat.le_of_ble_eq_true rfl)) dX8_end_5 ⟨Nat.le_of_ble_eq_true rfl, Nat.le_of_ble_eq_true rfl⟩) hS (fun q _ h => hFc q h) hFc (fun r_1 u t H1 locs ht hvm hw_2 hB hz1 hk1 hS => ?_)
  obtain ⟨hP, hD, hK⟩ := Bq.join (wr := [(h0, .inr (10, [.ref t0, .ref r0, .ref m0, .ref x0, v4, v5, v6, v7, v8, .int 0, .int ((-1)), .int 0]))]) hB ht hvm hP hD [1] [0] rfl rfl (by decide) (by decide) hk1 hFc hK
  generalize H1 = H at hP hS ⊢
  have hP : va_P (dC, dI) vwCl [(h0, .inr (10, [.ref t0, .ref r0, .ref m0, .ref x0, v4, v5, v6, v7, v8, .int 0, .int ((-1)), .int 0]))] H := hP
  have hD : va_D A [(h0, .inr (10, [.ref t0, .ref r0, .ref m0, .ref x0, v4, v5, v6, v7, v8, .int 0, .int ((-1)), .int 0]))] := hD
  have hK : va_K (dC, dI) vwCl [] s := hK
  try dsimp only at hw_2
  have k_3 := hw_2
  refine W_toi (y := if p0 < 0 ∨ ¬ p0 ≤ 0 then 0 else 1) k_3 ?_
  have hP9 := hP.sub (ws' := []) [] rfl
  have hD9 := hD.sub (ws' := []) [] (by decide) rfl
  have hK9 := hK.sub (tys' := []) [] rfl
  exact W.zret (v := if p0 < 0 ∨ ¬ p0 ≤ 0 then 0 else 1) hx hb hr (by split <;> rfl) (fun t ht hW => ⟨⟨if p0 < 0 ∨ ¬ p0 ≤ 0 then 0 else 1, (), rfl, rfl, by rw [ht]; exact hP9, va_K.moved hW.alike hK9, hD9⟩, hS.F ht⟩) hS.2.2 dX8_end_8
def wp_X8_fault : List Cond := .code yX8_fault cX8_fault 2 (some .int) :: ([.fieldLink RX8 70 "RecordBench" "latestPlace" "I", .fieldLink RX8 66 "RecordBench" "latestFault" "I"] ++ wsX80)
set_option maxHeartbeats 4000000 in
set_option maxRecDepth 100000 in
theorem c_X8_fault (l : Launch) (dC : Nat → ClassId) (dI : Nat → Nat → Nat) (h0 : Nat) (t0 : Nat) (r0 : Nat) (m0 : Nat) (x0 : Nat) (v4 : Value) (v5 : Value) (v6 : Value) (v7 : Value) (v8 : Value) (p0 : Int32) (sz : Nat) : Met l yX8_fault wp_X8_fault ({ frames := 0, cells := 0, slots := 0, locals := 0 }) (va_Pc [.ref h0, .int p0] (Pr (dC, dI) [] [(h0, .inr (10, [.ref t0, .ref r0, .ref m0, .ref x0, v4, v5, v6, v7, v8, .int 0, .int ((-1)), .int 0]))] sz)) (va_Qi (fun r : Int32 => (fun _ : Unit => r = if p0 = 0 then 0 else -1)) (Bq (dC, dI) (fun _ : Unit => []) (fun _ : Unit => []) (va_A [(h0, .inr (10, [.ref t0, .ref r0, .ref m0, .ref x0, v4, v5, v6, v7, v8, .int 0, .int ((-1)), .int 0]))] sz)) (va_A [(h0, .inr (10, [.ref t0, .ref r0, .ref m0, .ref x0, v4, v5, v6, v7, v8, .int 0, .int ((-1)), .int 0]))] sz)) 0 0 (va_A [(h0, .inr (10, [.ref t0, .ref r0, .ref m0, .ref x0, v4, v5, v6, v7, v8, .int 0, .int ((-1)), .int 0]))] sz) := by
  refine Met.ofW (cc := cX8_fault) (maxL := 2) (ret := (some .int)) (by decide) rfl ?_
  intro p e s m args below meth c s₁ B hml hv
  obtain ⟨rfl, hsz, hP, hK, hD0, hN, hZ⟩ := hv
  have hx := B.exec
  have hb := B.bytes
  have hr := B.returns
  have hts := atoms_spec (ws := wp_X8_fault) B.pre
  have hown : s.vm.findClass RX8 = some m.cls := findClass_of_methodNamed B.named
  have hlocks := B.notSynchronized
  have iRX8 : ∀ w ∈ u_ws RX8 TX8 12, w ∈ wp_X8_fault := by decide +kernel
  subst hsz
  have hD := hD0.self (sz := s.heap.size)
  generalize hAe : va_A [(h0, .inr (10, [.ref t0, .ref r0, .ref m0, .ref x0, v4, v5, v6, v7, v8, .int 0, .int ((-1)), .int 0]))] s.heap.size = A at hD hZ ⊢
  have hA : ∀ q : Nat, s.heap.size ≤ q → A q := fun q h => by rw [← hAe]; exact Or.inr h
  have hS : va_S A s.heap s.heap [] := va_S.rf
  have hP : va_P (dC, dI) vwCl [(h0, .inr (10, [.ref t0, .ref r0, .ref m0, .ref x0, v4, v5, v6, v7, v8, .int 0, .int ((-1)), .int 0]))] s.heap := hP
  have hl := lv_entry ([.ref h0, .int p0]) (n := 2) (Nat.le_of_ble_eq_true rfl)
  rw [lg_entry_eq]
  generalize (lg_sl ([.ref h0, .int p0]) ++ List.replicate (2 - (lg_sl ([.ref h0, .int p0])).length) Slot.unset).toArray = ls at hl ⊢
  have hl : lv_has ls 2 [(0, .ref h0), (1, .int p0)] := hl
  refine lv_iload_n hx hb dX8_fault_0 rfl (lv_at hl 1 rfl) ?_
  refine lv_if_ne (tgt := 9) hx hb dX8_fault_1 (by decide) (fun c_1 => ?_) (fun c_1 => ?_)
  · refine lv_iload_n hx hb dX8_fault_9 rfl (lv_at hl 1 rfl) ?_
    refine lv_iconst (v := 1) hx hb dX8_fault_10 (by decide) ?_
    refine lv_icmp_ne (tgt := 21) hx hb dX8_fault_11 (by decide) (fun c_2 => ?_) (fun c_2 => ?_)
    · refine lv_iconst (v := (-1)) hx hb dX8_fault_21 (by decide) ?_
      have hP9 := hP.sub (ws' := []) [] rfl
      have hD9 := hD.sub (ws' := []) [] (by decide) rfl
      have hK9 := hK.sub (tys' := []) [] rfl
      exact W.iret (v := (-1)) hx hb hr (fun t ht hW => ⟨⟨(-1), (), rfl, (if_neg c_1).symm, by rw [ht]; exact hP9, va_K.moved hW.alike hK9, hD9⟩, hS.F ht⟩) hS.2.2 dX8_fault_22
    · refine lv_aload_n hx hb dX8_fault_14 rfl (lv_at hl 0 rfl) ?_
      refine va_get (D := (dC, dI)) (ci := 10) (v := .int ((-1))) (C := RX8) (T := TX8) (N := 12) hx hb hts iRX8 hown hK hP 0 rfl rfl 10 (by decide) (hts (.fieldLink RX8 70 "RecordBench" "latestPlace" "I") (by decide +kernel)) (fun _ h9 => h9) rfl dX8_fault_15 ?_
      refine lv_goto (tgt := 22) hx hb dX8_fault_18 (by decide) ?_
      have hP9 := hP.sub (ws' := []) [] rfl
      have hD9 := hD.sub (ws' := []) [] (by decide) rfl
      have hK9 := hK.sub (tys' := []) [] rfl
      exact W.iret (v := (-1)) hx hb hr (fun t ht hW => ⟨⟨(-1), (), rfl, (if_neg c_1).symm, by rw [ht]; exact hP9, va_K.moved hW.alike hK9, hD9⟩, hS.F ht⟩) hS.2.2 dX8_fault_22
  · refine lv_aload_n hx hb dX8_fault_4 rfl (lv_at hl 0 rfl) ?_
    refine va_get (D := (dC, dI)) (ci := 10) (v := .int 0) (C := RX8) (T := TX8) (N := 12) hx hb hts iRX8 hown hK hP 0 rfl rfl 9 (by decide) (hts (.fieldLink RX8 66 "RecordBench" "latestFault" "I") (by decide +kernel)) (fun _ h9 => h9) rfl dX8_fault_5 ?_
    have hP9 := hP.sub (ws' := []) [] rfl
    have hD9 := hD.sub (ws' := []) [] (by decide) rfl
    have hK9 := hK.sub (tys' := []) [] rfl
    exact W.iret (v := 0) hx hb hr (fun t ht hW => ⟨⟨0, (), rfl, (if_pos c_1).symm, by rw [ht]; exact hP9, va_K.moved hW.alike hK9, hD9⟩, hS.F ht⟩) hS.2.2 dX8_fault_8
def wp_X8_by : List Cond := .code yX8_by cX8_by 1 (some .int) :: ([.fieldLink RX8 73 "RecordBench" "latestNumber" "I"] ++ wsX80)
set_option maxHeartbeats 4000000 in
set_option maxRecDepth 100000 in
theorem c_X8_by (l : Launch) (dC : Nat → ClassId) (dI : Nat → Nat → Nat) (h0 : Nat) (t0 : Nat) (r0 : Nat) (m0 : Nat) (x0 : Nat) (v4 : Value) (v5 : Value) (v6 : Value) (v7 : Value) (v8 : Value) (sz : Nat) : Met l yX8_by wp_X8_by ({ frames := 0, cells := 0, slots := 0, locals := 0 }) (va_Pc [.ref h0] (Pr (dC, dI) [] [(h0, .inr (10, [.ref t0, .ref r0, .ref m0, .ref x0, v4, v5, v6, v7, v8, .int 0, .int ((-1)), .int 0]))] sz)) (va_Qi (fun r : Int32 => (fun _ : Unit => r = 0)) (Bq (dC, dI) (fun _ : Unit => []) (fun _ : Unit => []) (va_A [(h0, .inr (10, [.ref t0, .ref r0, .ref m0, .ref x0, v4, v5, v6, v7, v8, .int 0, .int ((-1)), .int 0]))] sz)) (va_A [(h0, .inr (10, [.ref t0, .ref r0, .ref m0, .ref x0, v4, v5, v6, v7, v8, .int 0, .int ((-1)), .int 0]))] sz)) 0 0 (va_A [(h0, .inr (10, [.ref t0, .ref r0, .ref m0, .ref x0, v4, v5, v6, v7, v8, .int 0, .int ((-1)), .int 0]))] sz) := by
  refine Met.ofW (cc := cX8_by) (maxL := 1) (ret := (some .int)) (by decide) rfl ?_
  intro p e s m args below meth c s₁ B hml hv
  obtain ⟨rfl, hsz, hP, hK, hD0, hN, hZ⟩ := hv
  have hx := B.exec
  have hb := B.bytes
  have hr := B.returns
  have hts := atoms_spec (ws := wp_X8_by) B.pre
  have hown : s.vm.findClass RX8 = some m.cls := findClass_of_methodNamed B.named
  have hlocks := B.notSynchronized
  have iRX8 : ∀ w ∈ u_ws RX8 TX8 12, w ∈ wp_X8_by := by decide +kernel
  subst hsz
  have hD := hD0.self (sz := s.heap.size)
  generalize hAe : va_A [(h0, .inr (10, [.ref t0, .ref r0, .ref m0, .ref x0, v4, v5, v6, v7, v8, .int 0, .int ((-1)), .int 0]))] s.heap.size = A at hD hZ ⊢
  have hA : ∀ q : Nat, s.heap.size ≤ q → A q := fun q h => by rw [← hAe]; exact Or.inr h
  have hS : va_S A s.heap s.heap [] := va_S.rf
  have hP : va_P (dC, dI) vwCl [(h0, .inr (10, [.ref t0, .ref r0, .ref m0, .ref x0, v4, v5, v6, v7, v8, .int 0, .int ((-1)), .int 0]))] s.heap := hP
  have hl := lv_entry ([.ref h0]) (n := 1) (Nat.le_of_ble_eq_true rfl)
  rw [lg_entry_eq]
  generalize (lg_sl ([.ref h0]) ++ List.replicate (1 - (lg_sl ([.ref h0])).length) Slot.unset).toArray = ls at hl ⊢
  have hl : lv_has ls 1 [(0, .ref h0)] := hl
  refine lv_aload_n hx hb dX8_by_0 rfl (lv_at hl 0 rfl) ?_
  refine va_get (D := (dC, dI)) (ci := 10) (v := .int 0) (C := RX8) (T := TX8) (N := 12) hx hb hts iRX8 hown hK hP 0 rfl rfl 11 (by decide) (hts (.fieldLink RX8 73 "RecordBench" "latestNumber" "I") (by decide +kernel)) (fun _ h9 => h9) rfl dX8_by_1 ?_
  have hP9 := hP.sub (ws' := []) [] rfl
  have hD9 := hD.sub (ws' := []) [] (by decide) rfl
  have hK9 := hK.sub (tys' := []) [] rfl
  exact W.iret (v := 0) hx hb hr (fun t ht hW => ⟨⟨0, (), rfl, rfl, by rw [ht]; exact hP9, va_K.moved hW.alike hK9, hD9⟩, hS.F ht⟩) hS.2.2 dX8_by_4
def wp_X8_make : List Cond := .code yX8_make cX8_make 3 (some .int) :: ([.fieldLink RX8 24 "RecordBench" "makes" "[LRecordBench$Make;", .fieldLink RX8 33 "RecordBench" "texts" "LRecordBench$TextReader;", .methodLink RX8 87 yX6_tell, .instanceMethod yX6_tell, .selects RX6 yX6_tell yX6_tell, .initialized RX6, .fieldLink RX8 14 "RecordBench" "tape" "LRecordBench$Row;", .methodLink RX8 83 yX5_cut, .instanceMethod yX5_cut, .selects RX5 yX5_cut yX5_cut, .initialized RX5, .methodLink RX8 91 yX6_faultFound, .instanceMethod yX6_faultFound, .selects RX6 yX6_faultFound yX6_faultFound, .fieldLink RX8 66 "RecordBench" "latestFault" "I", .methodLink RX8 94 yX6_placeFound, .instanceMethod yX6_placeFound, .selects RX6 yX6_placeFound yX6_placeFound, .fieldLink RX8 70 "RecordBench" "latestPlace" "I", .methodLink RX8 97 yX1_count, .instanceMethod yX1_count, .selects RX1 yX1_count yX1_count, .initialized RX1, .code yX6_tell cX6_tell 4 (some (.object "RecordBench$Make")), .fieldLink RX6 26 "RecordBench$TextReader" "pos" "I", .fieldLink RX6 30 "RecordBench$TextReader" "fault" "I", .fieldLink RX6 33 "RecordBench$TextReader" "place" "I", .classLink RX6 36 RX1, .instantiable RX1 2, .instanceMethod yX1_init, .methodLink RX6 39 yX6_skipBlanks, .instanceMethod yX6_skipBlanks, .selects RX6 yX6_skipBlanks yX6_skipBlanks, .fieldLink RX6 9 "RecordBench$TextReader" "tape" "LRecordBench$Row;", .methodLink RX6 42 yX5_size, .instanceMethod yX5_size, .selects RX5 yX5_size yX5_size, .code yX1_init cX1_init 1 none, .methodLink RX1 3 objectInit, .instanceMethod objectInit, .code objectInit ⟨#[0xb1]⟩ 1 none, .classLink RX1 9 RX0, .fieldLink RX1 11 "RecordBench$Make" "fields" "[LRecordBench$Field;", .fieldLink RX1 17 "RecordBench$Make" "count" "I", .code yX6_skipBlanks cX6_skipBlanks 3 none, .code yX5_size cX5_size 1 (some .int), .fieldLink RX5 21 "RecordBench$Row" "size" "I", .code yX5_cut cX5_cut 2 (some .boolean), .code yX6_faultFound cX6_faultFound 1 (some .int), .code yX6_placeFound cX6_placeFound 1 (some .int), .code yX1_count cX1_count 1 (some .int)] ++ wsX80 ++ wsX60 ++ wsX10 ++ wsX50)
set_option maxRecDepth 20000 in
theorem gp_X8_make_X6_tell_87 : GoodIn wp_X8_make (wsV RX8 87 RX6 yX6_tell wp_X6_tell) := goodIn_p _ [24, 38, 41, 45, 46] rfl (by decide +kernel)
set_option maxRecDepth 20000 in
theorem gp_X8_make_X5_cut0_83 : GoodIn wp_X8_make (wsV RX8 83 RX5 yX5_cut wp_X5_cut0) := goodIn_p _ [48] rfl (by decide +kernel)
set_option maxRecDepth 20000 in
theorem gp_X8_make_X6_faultFound_91 : GoodIn wp_X8_make (wsV RX8 91 RX6 yX6_faultFound wp_X6_faultFound) := goodIn_p _ [49] rfl (by decide +kernel)
set_option maxRecDepth 20000 in
theorem gp_X8_make_X6_placeFound_94 : GoodIn wp_X8_make (wsV RX8 94 RX6 yX6_placeFound wp_X6_placeFound) := goodIn_p _ [50] rfl (by decide +kernel)
set_option maxRecDepth 20000 in
theorem gp_X8_make_X1_count_97 : GoodIn wp_X8_make (wsV RX8 97 RX1 yX1_count wp_X1_count) := goodIn_p _ [51] rfl (by decide +kernel)
set_option maxHeartbeats 4000000 in
set_option maxRecDepth 100000 in
theorem c_X8_make (l : Launch) (dC : Nat → ClassId) (dI : Nat → Nat → Nat) (h0 : Nat) (t0 : Nat) (r0 : Nat) (m0 : Nat) (x0 : Nat) (v4 : Value) (v5 : Value) (v6 : Value) (v7 : Value) (v8 : Value) (cM : ClassId) (tb : Nat) (sb : Nat) (p0 : Int32) (sz : Nat) : Met l yX8_make wp_X8_make ({ frames := 3, cells := 2, slots := 33, locals := 77 }) (va_Pc [.ref h0, .int p0] (Pr (dC, dI) [(cM, .object RX1)] [(h0, .inr (10, [.ref t0, .ref r0, .ref m0, .ref x0, v4, v5, v6, v7, v8, .int 0, .int ((-1)), .int 0])), (m0, .inl (cM, 8, .inr (.inr (.inr (.inr (fun _ => none)))))), (t0, .inr (7, [.ref tb, .int 0])), (x0, .inr (8, [.ref t0, .ref m0, .ref sb, .int 0, .int 0, .int ((-1))]))] sz)) (va_Qi (fun r : Int32 => (fun _ : Unit => r = if p0 < 0 ∨ 8 ≤ p0 then -2 else 0)) (Bq (dC, dI) (fun _ : Unit => []) (fun _ : Unit => []) (va_A [(h0, .inr (10, [.ref t0, .ref r0, .ref m0, .ref x0, v4, v5, v6, v7, v8, .int 0, .int ((-1)), .int 0])), (m0, .inl (cM, 8, .inr (.inr (.inr (.inr (fun _ => none)))))), (t0, .inr (7, [.ref tb, .int 0])), (x0, .inr (8, [.ref t0, .ref m0, .ref sb, .int 0, .int 0, .int ((-1))]))] sz)) (va_A [(h0, .inr (10, [.ref t0, .ref r0, .ref m0, .ref x0, v4, v5, v6, v7, v8, .int 0, .int ((-1)), .int 0])), (m0, .inl (cM, 8, .inr (.inr (.inr (.inr (fun _ => none)))))), (t0, .inr (7, [.ref tb, .int 0])), (x0, .inr (8, [.ref t0, .ref m0, .ref sb, .int 0, .int 0, .int ((-1))]))] sz)) 2 33 (va_A [(h0, .inr (10, [.ref t0, .ref r0, .ref m0, .ref x0, v4, v5, v6, v7, v8, .int 0, .int ((-1)), .int 0])), (m0, .inl (cM, 8, .inr (.inr (.inr (.inr (fun _ => none)))))), (t0, .inr (7, [.ref tb, .int 0])), (x0, .inr (8, [.ref t0, .ref m0, .ref sb, .int 0, .int 0, .int ((-1))]))] sz) := by
  refine Met.ofW (cc := cX8_make) (maxL := 3) (ret := (some .int)) (by decide) rfl ?_
  intro p e s m args below meth c s₁ B hml hv
  obtain ⟨rfl, hsz, hP, hK, hD0, hN, hZ⟩ := hv
  have hx := B.exec
  have hb := B.bytes
  have hr := B.returns
  have hts := atoms_spec (ws := wp_X8_make) B.pre
  have hown : s.vm.findClass RX8 = some m.cls := findClass_of_methodNamed B.named
  have hlocks := B.notSynchronized
  have iRX8 : ∀ w ∈ u_ws RX8 TX8 12, w ∈ wp_X8_make := by decide +kernel
  subst hsz
  have hD := hD0.self (sz := s.heap.size)
  generalize hAe : va_A [(h0, .inr (10, [.ref t0, .ref r0, .ref m0, .ref x0, v4, v5, v6, v7, v8, .int 0, .int ((-1)), .int 0])), (m0, .inl (cM, 8, .inr (.inr (.inr (.inr (fun _ => none)))))), (t0, .inr (7, [.ref tb, .int 0])), (x0, .inr (8, [.ref t0, .ref m0, .ref sb, .int 0, .int 0, .int ((-1))]))] s.heap.size = A at hD hZ ⊢
  have hA : ∀ q : Nat, s.heap.size ≤ q → A q := fun q h => by rw [← hAe]; exact Or.inr h
  have hS : va_S A s.heap s.heap [] := va_S.rf
  have hP : va_P (dC, dI) vwCl [(h0, .inr (10, [.ref t0, .ref r0, .ref m0, .ref x0, v4, v5, v6, v7, v8, .int 0, .int ((-1)), .int 0])), (m0, .inl (cM, 8, .inr (.inr (.inr (.inr (fun _ => none)))))), (t0, .inr (7, [.ref tb, .int 0])), (x0, .inr (8, [.ref t0, .ref m0, .ref sb, .int 0, .int 0, .int ((-1))]))] s.heap := hP
  have hl := lv_entry ([.ref h0, .int p0]) (n := 3) (Nat.le_of_ble_eq_true rfl)
  rw [lg_entry_eq]
  generalize (lg_sl ([.ref h0, .int p0]) ++ List.replicate (3 - (lg_sl ([.ref h0, .int p0])).length) Slot.unset).toArray = ls at hl ⊢
  have hl : lv_has ls 3 [(0, .ref h0), (1, .int p0)] := hl
  refine lv_iload_n hx hb dX8_make_0 rfl (lv_at hl 1 rfl) ?_
  refine lv_if_lt (tgt := 19) hx hb dX8_make_1 (by decide) (fun c_1 => ?_) (fun c_1 => ?_)
  · refine lv_bipush (v := (-2)) hx hb dX8_make_19 (by decide) ?_
    refine W.widen (k := 2) (n := 33) (by omega) (by omega) ?_
    have hP9 := hP.sub (ws' := []) [] rfl
    have hD9 := hD.sub (ws' := []) [] (by decide) rfl
    have hK9 := hK.sub (tys' := []) [] rfl
    exact W.iret (v := (-2)) hx hb hr (fun t ht hW => ⟨⟨(-2), (), rfl, (if_pos (Or.inl c_1)).symm, by rw [ht]; exact hP9, va_K.moved hW.alike hK9, hD9⟩, hS.F ht⟩) hS.2.2 dX8_make_21
  · refine lv_iload_n hx hb dX8_make_4 rfl (lv_at hl 1 rfl) ?_
    refine lv_bipush (v := 8) hx hb dX8_make_5 (by decide) ?_
    refine lv_icmp_ge (tgt := 19) hx hb dX8_make_7 (by decide) (fun c_2 => ?_) (fun c_2 => ?_)
    · refine lv_bipush (v := (-2)) hx hb dX8_make_19 (by decide) ?_
      refine W.widen (k := 2) (n := 33) (by omega) (by omega) ?_
      have hP9 := hP.sub (ws' := []) [] rfl
      have hD9 := hD.sub (ws' := []) [] (by decide) rfl
      have hK9 := hK.sub (tys' := []) [] rfl
      exact W.iret (v := (-2)) hx hb hr (fun t ht hW => ⟨⟨(-2), (), rfl, (if_pos (Or.inr c_2)).symm, by rw [ht]; exact hP9, va_K.moved hW.alike hK9, hD9⟩, hS.F ht⟩) hS.2.2 dX8_make_21
    · refine lv_aload_n hx hb dX8_make_10 rfl (lv_at hl 0 rfl) ?_
      refine va_get (D := (dC, dI)) (ci := 10) (v := .ref m0) (C := RX8) (T := TX8) (N := 12) hx hb hts iRX8 hown hK hP 0 rfl rfl 2 (by decide) (hts (.fieldLink RX8 24 "RecordBench" "makes" "[LRecordBench$Make;") (by decide +kernel)) (fun _ h9 => h9) rfl dX8_make_11 ?_
      refine lv_iload_n hx hb dX8_make_14 rfl (lv_at hl 1 rfl) ?_
      refine va_aldq hx hb hK hP 1 0 rfl rfl (in_of 8 rfl (by decide) c_1 c_2) dX8_make_15 ?_
      refine W.eq (g2 := F0 m 16 ls [.null]) rfl ?_
      refine lv_ifnullN (tgt := 22) hx hb dX8_make_16 (by decide) ?_
      refine lv_aload_n hx hb dX8_make_22 rfl (lv_at hl 0 rfl) ?_
      refine va_get (D := (dC, dI)) (ci := 10) (v := .ref x0) (C := RX8) (T := TX8) (N := 12) hx hb hts iRX8 hown hK hP 0 rfl rfl 3 (by decide) (hts (.fieldLink RX8 33 "RecordBench" "texts" "LRecordBench$TextReader;") (by decide +kernel)) (fun _ h9 => h9) rfl dX8_make_23 ?_
      refine lv_iload_n hx hb dX8_make_26 rfl (lv_at hl 1 rfl) ?_
      have hFc := va_free (wc := [(x0, .inr (8, [.ref t0, .ref m0, .ref sb, .int 0, .int 0, .int ((-1))])), (t0, .inr (7, [.ref tb, .int 0]))]) hD hS hA [3, 2] rfl
      refine va_callq (va_runV (As := [.int p0]) (rest := []) ⟨hx, hb, hml, hown, hts⟩ (c_X6_tell l dC dI x0 t0 m0 sb tb 0 0 (-1) p0 s.heap.size) (cwV 1 hts gp_X8_make_X6_tell_87 rfl rfl rfl (by decide +kernel) ⟨Nat.le_of_ble_eq_true rfl, Nat.le_of_ble_eq_true rfl⟩) ⟨Pr.blind _, va_recv hK hP (ci := 8) (q0 := 3) rfl rfl, fun U hU hW => ⟨rfl, Pr.at (hP.sub (ws' := [(x0, .inr (8, [.ref t0, .ref m0, .ref sb, .int 0, .int 0, .int ((-1))])), (t0, .inr (7, [.ref tb, .int 0]))]) [3, 2] rfl) (hK.sub (tys' := []) [] rfl) (hD.sub (ws' := [(x0, .inr (8, [.ref t0, .ref m0, .ref sb, .int 0, .int 0, .int ((-1))])), (t0, .inr (7, [.ref tb, .int 0]))]) [3, 2] (by decide) rfl) hN hZ hS hFc hU hW⟩⟩ rfl rfl hl.1 rfl (lv_room (Nat.le_of_ble_eq_true rfl)) dX8_make_27 ⟨Nat.le_of_ble_eq_true rfl, Nat.le_of_ble_eq_true rfl⟩) hS (fun q _ h => hFc q h) hFc (fun r_3 u t H1 locs ht hvm hw_4 hB hz1 hk1 hS => ?_)
      obtain ⟨a_5, q_6⟩ := u
      obtain ⟨hP, hD, hK⟩ := Bq.join (wr := [(h0, .inr (10, [.ref t0, .ref r0, .ref m0, .ref x0, v4, v5, v6, v7, v8, .int 0, .int ((-1)), .int 0])), (m0, .inl (cM, 8, .inr (.inr (.inr (.inr (fun _ => none))))))]) hB ht hvm hP hD [3, 2] [0, 1] rfl rfl (by decide) (by decide) hk1 hFc hK
      generalize H1 = H at hP hS ⊢
      have hP : va_P (dC, dI) vwCl [(h0, .inr (10, [.ref t0, .ref r0, .ref m0, .ref x0, v4, v5, v6, v7, v8, .int 0, .int ((-1)), .int 0])), (m0, .inl (cM, 8, .inr (.inr (.inr (.inr (fun _ => none)))))), (x0, .inr (8, [.ref t0, .ref m0, .ref sb, .int 0, .int 0, .int (-1)])), (t0, .inr (7, [.ref tb, .int 0])), (a_5, .inr (3, [.ref q_6, .int 0]))] H := hP
      have hD : va_D A [(h0, .inr (10, [.ref t0, .ref r0, .ref m0, .ref x0, v4, v5, v6, v7, v8, .int 0, .int ((-1)), .int 0])), (m0, .inl (cM, 8, .inr (.inr (.inr (.inr (fun _ => none)))))), (x0, .inr (8, [.ref t0, .ref m0, .ref sb, .int 0, .int 0, .int (-1)])), (t0, .inr (7, [.ref tb, .int 0])), (a_5, .inr (3, [.ref q_6, .int 0]))] := hD
      have hK : va_K (dC, dI) vwCl [(cM, .object RX1)] s := hK
      refine W.widen (k := 2) (n := 33) (by omega) (by omega) ?_
      try dsimp only at hw_4
      have k_7 := hw_4
      subst k_7
      refine W.eq (g2 := F0 m 30 ls [.ref a_5]) rfl ?_
      refine lv_astore_n (lv' := [(2, .ref a_5), (0, .ref h0), (1, .int p0)]) hx hb dX8_make_30 rfl hl (by decide) rfl (fun ls hl => ?_)
      refine lv_aload_n hx hb dX8_make_31 rfl (lv_at hl 1 rfl) ?_
      refine va_get (D := (dC, dI)) (ci := 10) (v := .ref t0) (C := RX8) (T := TX8) (N := 12) hx hb hts iRX8 hown hK hP 0 rfl rfl 0 (by decide) (hts (.fieldLink RX8 14 "RecordBench" "tape" "LRecordBench$Row;") (by decide +kernel)) (fun _ h9 => h9) rfl dX8_make_32 ?_
      refine lv_iconst (v := 0) hx hb dX8_make_35 (by decide) ?_
      have hFc := va_free (wc := [(t0, .inr (7, [.ref tb, .int 0]))]) hD hS hA [3] rfl
      refine va_calli (va_runV (As := [.int 0]) (rest := []) ⟨hx, hb, hml, hown, hts⟩ (c_X5_cut0 l dC dI t0 tb H.size) (cwV 1 hts gp_X8_make_X5_cut0_83 rfl rfl rfl (by decide +kernel) ⟨Nat.le_of_ble_eq_true rfl, Nat.le_of_ble_eq_true rfl⟩) ⟨Pr.blind _, va_recv hK hP (ci := 7) (q0 := 3) rfl rfl, fun U hU hW => ⟨rfl, Pr.at (hP.sub (ws' := [(t0, .inr (7, [.ref tb, .int 0]))]) [3] rfl) (hK.sub (tys' := []) [] rfl) (hD.sub (ws' := [(t0, .inr (7, [.ref tb, .int 0]))]) [3] (by decide) rfl) hN hZ hS hFc hU hW⟩⟩ rfl rfl hl.1 rfl (lv_room (Nat.le_of_ble_eq_true rfl)) dX8_make_36 ⟨Nat.le_of_ble_eq_true rfl, Nat.le_of_ble_eq_true rfl⟩) hS (fun q _ h => hFc q h) hFc (fun r_8 u t H1 locs ht hvm hw_9 hB hz1 hk1 hS => ?_)
      obtain ⟨hP, hD, hK⟩ := Bq.join (wr := [(h0, .inr (10, [.ref t0, .ref r0, .ref m0, .ref x0, v4, v5, v6, v7, v8, .int 0, .int ((-1)), .int 0])), (m0, .inl (cM, 8, .inr (.inr (.inr (.inr (fun _ => none)))))), (x0, .inr (8, [.ref t0, .ref m0, .ref sb, .int 0, .int 0, .int (-1)])), (a_5, .inr (3, [.ref q_6, .int 0]))]) hB ht hvm hP hD [3] [0, 1, 2, 4] rfl rfl (by decide) (by decide) hk1 hFc hK
      generalize H1 = H at hP hS ⊢
      have hP : va_P (dC, dI) vwCl [(h0, .inr (10, [.ref t0, .ref r0, .ref m0, .ref x0, v4, v5, v6, v7, v8, .int 0, .int ((-1)), .int 0])), (m0, .inl (cM, 8, .inr (.inr (.inr (.inr (fun _ => none)))))), (x0, .inr (8, [.ref t0, .ref m0, .ref sb, .int 0, .int 0, .int (-1)])), (a_5, .inr (3, [.ref q_6, .int 0])), (t0, .inr (7, [.ref tb, .int 0]))] H := hP
      have hD : va_D A [(h0, .inr (10, [.ref t0, .ref r0, .ref m0, .ref x0, v4, v5, v6, v7, v8, .int 0, .int ((-1)), .int 0])), (m0, .inl (cM, 8, .inr (.inr (.inr (.inr (fun _ => none)))))), (x0, .inr (8, [.ref t0, .ref m0, .ref sb, .int 0, .int 0, .int (-1)])), (a_5, .inr (3, [.ref q_6, .int 0])), (t0, .inr (7, [.ref tb, .int 0]))] := hD
      have hK : va_K (dC, dI) vwCl [(cM, .object RX1)] s := hK
      try dsimp only at hw_9
      have k_10 := hw_9
      refine W_toi (y := 1) k_10 ?_
      refine lv_pop hx hb dX8_make_39 rfl ?_
      refine lv_aload_n hx hb dX8_make_40 rfl (lv_at hl 1 rfl) ?_
      refine lv_aload_n hx hb dX8_make_41 rfl (lv_at hl 1 rfl) ?_
      refine va_get (D := (dC, dI)) (ci := 10) (v := .ref x0) (C := RX8) (T := TX8) (N := 12) hx hb hts iRX8 hown hK hP 0 rfl rfl 3 (by decide) (hts (.fieldLink RX8 33 "RecordBench" "texts" "LRecordBench$TextReader;") (by decide +kernel)) (fun _ h9 => h9) rfl dX8_make_42 ?_
      have hFc := va_free (wc := [(x0, .inr (8, [.ref t0, .ref m0, .ref sb, .int 0, .int 0, .int (-1)]))]) hD hS hA [2] rfl
      refine va_calli (va_runV (As := []) (rest := [.ref h0]) ⟨hx, hb, hml, hown, hts⟩ (c_X6_faultFound l dC dI x0 t0 m0 sb 0 0 (-1) H.size) (cwV 0 hts gp_X8_make_X6_faultFound_91 rfl rfl rfl (by decide +kernel) ⟨Nat.le_of_ble_eq_true rfl, Nat.le_of_ble_eq_true rfl⟩) ⟨Pr.blind _, va_recv hK hP (ci := 8) (q0 := 2) rfl rfl, fun U hU hW => ⟨rfl, Pr.at (hP.sub (ws' := [(x0, .inr (8, [.ref t0, .ref m0, .ref sb, .int 0, .int 0, .int (-1)]))]) [2] rfl) (hK.sub (tys' := []) [] rfl) (hD.sub (ws' := [(x0, .inr (8, [.ref t0, .ref m0, .ref sb, .int 0, .int 0, .int (-1)]))]) [2] (by decide) rfl) hN hZ hS hFc hU hW⟩⟩ rfl rfl hl.1 rfl (lv_room (Nat.le_of_ble_eq_true rfl)) dX8_make_45 ⟨Nat.le_of_ble_eq_true rfl, Nat.le_of_ble_eq_true rfl⟩) hS (fun q _ h => hFc q h) hFc (fun r_11 u t H1 locs ht hvm hw_12 hB hz1 hk1 hS => ?_)
      obtain ⟨hP, hD, hK⟩ := Bq.join (wr := [(h0, .inr (10, [.ref t0, .ref r0, .ref m0, .ref x0, v4, v5, v6, v7, v8, .int 0, .int ((-1)), .int 0])), (m0, .inl (cM, 8, .inr (.inr (.inr (.inr (fun _ => none)))))), (a_5, .inr (3, [.ref q_6, .int 0])), (t0, .inr (7, [.ref tb, .int 0]))]) hB ht hvm hP hD [2] [0, 1, 3, 4] rfl rfl (by decide) (by decide) hk1 hFc hK
      generalize H1 = H at hP hS ⊢
      have hP : va_P (dC, dI) vwCl [(h0, .inr (10, [.ref t0, .ref r0, .ref m0, .ref x0, v4, v5, v6, v7, v8, .int 0, .int ((-1)), .int 0])), (m0, .inl (cM, 8, .inr (.inr (.inr (.inr (fun _ => none)))))), (a_5, .inr (3, [.ref q_6, .int 0])), (t0, .inr (7, [.ref tb, .int 0])), (x0, .inr (8, [.ref t0, .ref m0, .ref sb, .int 0, .int 0, .int (-1)]))] H := hP
      have hD : va_D A [(h0, .inr (10, [.ref t0, .ref r0, .ref m0, .ref x0, v4, v5, v6, v7, v8, .int 0, .int ((-1)), .int 0])), (m0, .inl (cM, 8, .inr (.inr (.inr (.inr (fun _ => none)))))), (a_5, .inr (3, [.ref q_6, .int 0])), (t0, .inr (7, [.ref tb, .int 0])), (x0, .inr (8, [.ref t0, .ref m0, .ref sb, .int 0, .int 0, .int (-1)]))] := hD
      have hK : va_K (dC, dI) vwCl [(cM, .object RX1)] s := hK
      try dsimp only at hw_12
      have k_13 := hw_12
      refine W_toi (y := 0) k_13 ?_
      refine va_put (D := (dC, dI)) (ci := 10) (v := .int 0) (ty := .int) (C := RX8) (T := TX8) (N := 12) hx hb hts iRX8 tyX8 tyX8_ok nmX8 hown hK hP hD hS 0 rfl rfl 9 (by decide) (hts (.fieldLink RX8 66 "RecordBench" "latestFault" "I") (by decide +kernel)) (fun _ h9 => h9) rfl (by decide +kernel) rfl rfl (Nat.le_of_ble_eq_true rfl) dX8_make_48 (fun H locs hP hD hS => ?_)
      have hP : va_P (dC, dI) vwCl [(h0, .inr (10, [.ref t0, .ref r0, .ref m0, .ref x0, v4, v5, v6, v7, v8, .int 0, .int ((-1)), .int 0])), (m0, .inl (cM, 8, .inr (.inr (.inr (.inr (fun _ => none)))))), (a_5, .inr (3, [.ref q_6, .int 0])), (t0, .inr (7, [.ref tb, .int 0])), (x0, .inr (8, [.ref t0, .ref m0, .ref sb, .int 0, .int 0, .int (-1)]))] H := hP
      have hD : va_D A [(h0, .inr (10, [.ref t0, .ref r0, .ref m0, .ref x0, v4, v5, v6, v7, v8, .int 0, .int ((-1)), .int 0])), (m0, .inl (cM, 8, .inr (.inr (.inr (.inr (fun _ => none)))))), (a_5, .inr (3, [.ref q_6, .int 0])), (t0, .inr (7, [.ref tb, .int 0])), (x0, .inr (8, [.ref t0, .ref m0, .ref sb, .int 0, .int 0, .int (-1)]))] := hD
      refine lv_aload_n hx hb dX8_make_51 rfl (lv_at hl 1 rfl) ?_
      refine lv_aload_n hx hb dX8_make_52 rfl (lv_at hl 1 rfl) ?_
      refine va_get (D := (dC, dI)) (ci := 10) (v := .ref x0) (C := RX8) (T := TX8) (N := 12) hx hb hts iRX8 hown hK hP 0 rfl rfl 3 (by decide) (hts (.fieldLink RX8 33 "RecordBench" "texts" "LRecordBench$TextReader;") (by decide +kernel)) (fun _ h9 => h9) rfl dX8_make_53 ?_
      have hFc := va_free (wc := [(x0, .inr (8, [.ref t0, .ref m0, .ref sb, .int 0, .int 0, .int (-1)]))]) hD hS hA [4] rfl
      refine va_calli (va_runV (As := []) (rest := [.ref h0]) ⟨hx, hb, hml, hown, hts⟩ (c_X6_placeFound l dC dI x0 t0 m0 sb 0 0 (-1) H.size) (cwV 0 hts gp_X8_make_X6_placeFound_94 rfl rfl rfl (by decide +kernel) ⟨Nat.le_of_ble_eq_true rfl, Nat.le_of_ble_eq_true rfl⟩) ⟨Pr.blind _, va_recv hK hP (ci := 8) (q0 := 4) rfl rfl, fun U hU hW => ⟨rfl, Pr.at (hP.sub (ws' := [(x0, .inr (8, [.ref t0, .ref m0, .ref sb, .int 0, .int 0, .int (-1)]))]) [4] rfl) (hK.sub (tys' := []) [] rfl) (hD.sub (ws' := [(x0, .inr (8, [.ref t0, .ref m0, .ref sb, .int 0, .int 0, .int (-1)]))]) [4] (by decide) rfl) hN hZ hS hFc hU hW⟩⟩ rfl rfl hl.1 rfl (lv_room (Nat.le_of_ble_eq_true rfl)) dX8_make_56 ⟨Nat.le_of_ble_eq_true rfl, Nat.le_of_ble_eq_true rfl⟩) hS (fun q _ h => hFc q h) hFc (fun r_14 u t H1 locs ht hvm hw_15 hB hz1 hk1 hS => ?_)
      obtain ⟨hP, hD, hK⟩ := Bq.join (wr := [(h0, .inr (10, [.ref t0, .ref r0, .ref m0, .ref x0, v4, v5, v6, v7, v8, .int 0, .int ((-1)), .int 0])), (m0, .inl (cM, 8, .inr (.inr (.inr (.inr (fun _ => none)))))), (a_5, .inr (3, [.ref q_6, .int 0])), (t0, .inr (7, [.ref tb, .int 0]))]) hB ht hvm hP hD [4] [0, 1, 2, 3] rfl rfl (by decide) (by decide) hk1 hFc hK
      generalize H1 = H at hP hS ⊢
      have hP : va_P (dC, dI) vwCl [(h0, .inr (10, [.ref t0, .ref r0, .ref m0, .ref x0, v4, v5, v6, v7, v8, .int 0, .int ((-1)), .int 0])), (m0, .inl (cM, 8, .inr (.inr (.inr (.inr (fun _ => none)))))), (a_5, .inr (3, [.ref q_6, .int 0])), (t0, .inr (7, [.ref tb, .int 0])), (x0, .inr (8, [.ref t0, .ref m0, .ref sb, .int 0, .int 0, .int (-1)]))] H := hP
      have hD : va_D A [(h0, .inr (10, [.ref t0, .ref r0, .ref m0, .ref x0, v4, v5, v6, v7, v8, .int 0, .int ((-1)), .int 0])), (m0, .inl (cM, 8, .inr (.inr (.inr (.inr (fun _ => none)))))), (a_5, .inr (3, [.ref q_6, .int 0])), (t0, .inr (7, [.ref tb, .int 0])), (x0, .inr (8, [.ref t0, .ref m0, .ref sb, .int 0, .int 0, .int (-1)]))] := hD
      have hK : va_K (dC, dI) vwCl [(cM, .object RX1)] s := hK
      try dsimp only at hw_15
      have k_16 := hw_15
      refine W_toi (y := -1) k_16 ?_
      refine va_put (D := (dC, dI)) (ci := 10) (v := .int (-1)) (ty := .int) (C := RX8) (T := TX8) (N := 12) hx hb hts iRX8 tyX8 tyX8_ok nmX8 hown hK hP hD hS 0 rfl rfl 10 (by decide) (hts (.fieldLink RX8 70 "RecordBench" "latestPlace" "I") (by decide +kernel)) (fun _ h9 => h9) rfl (by decide +kernel) rfl rfl (Nat.le_of_ble_eq_true rfl) dX8_make_59 (fun H locs hP hD hS => ?_)
      have hP : va_P (dC, dI) vwCl [(h0, .inr (10, [.ref t0, .ref r0, .ref m0, .ref x0, v4, v5, v6, v7, v8, .int 0, .int (-1), .int 0])), (m0, .inl (cM, 8, .inr (.inr (.inr (.inr (fun _ => none)))))), (a_5, .inr (3, [.ref q_6, .int 0])), (t0, .inr (7, [.ref tb, .int 0])), (x0, .inr (8, [.ref t0, .ref m0, .ref sb, .int 0, .int 0, .int (-1)]))] H := hP
      have hD : va_D A [(h0, .inr (10, [.ref t0, .ref r0, .ref m0, .ref x0, v4, v5, v6, v7, v8, .int 0, .int (-1), .int 0])), (m0, .inl (cM, 8, .inr (.inr (.inr (.inr (fun _ => none)))))), (a_5, .inr (3, [.ref q_6, .int 0])), (t0, .inr (7, [.ref tb, .int 0])), (x0, .inr (8, [.ref t0, .ref m0, .ref sb, .int 0, .int 0, .int (-1)]))] := hD
      refine lv_aload_n hx hb dX8_make_62 rfl (lv_at hl 0 rfl) ?_
      refine lv_ifnonnull (tgt := 68) hx hb dX8_make_63 (by decide) ?_
      refine lv_aload_n hx hb dX8_make_68 rfl (lv_at hl 1 rfl) ?_
      refine va_get (D := (dC, dI)) (ci := 10) (v := .ref m0) (C := RX8) (T := TX8) (N := 12) hx hb hts iRX8 hown hK hP 0 rfl rfl 2 (by decide) (hts (.fieldLink RX8 24 "RecordBench" "makes" "[LRecordBench$Make;") (by decide +kernel)) (fun _ h9 => h9) rfl dX8_make_69 ?_
      refine lv_iload_n hx hb dX8_make_72 rfl (lv_at hl 2 rfl) ?_
      refine lv_aload_n hx hb dX8_make_73 rfl (lv_at hl 0 rfl) ?_
      refine va_astq hx hb hK hP hD hS 1 0 2 3 rfl rfl rfl rfl (in_of 8 rfl (by decide) c_1 c_2) dX8_make_74 (fun H locs hP hD hS => ?_)
      obtain ⟨f_17, ef_17⟩ : ∃ y : Nat → Option Nat, y = va_up (fun _ => none) p0.toNatClampNeg (some a_5) := ⟨_, rfl⟩
      have hP : va_P (dC, dI) vwCl [(h0, .inr (10, [.ref t0, .ref r0, .ref m0, .ref x0, v4, v5, v6, v7, v8, .int 0, .int (-1), .int 0])), (m0, .inl (cM, 8, .inr (.inr (.inr (.inr f_17))))), (a_5, .inr (3, [.ref q_6, .int 0])), (t0, .inr (7, [.ref tb, .int 0])), (x0, .inr (8, [.ref t0, .ref m0, .ref sb, .int 0, .int 0, .int (-1)]))] H := by rw [ef_17]; exact hP
      have hD : va_D A [(h0, .inr (10, [.ref t0, .ref r0, .ref m0, .ref x0, v4, v5, v6, v7, v8, .int 0, .int (-1), .int 0])), (m0, .inl (cM, 8, .inr (.inr (.inr (.inr f_17))))), (a_5, .inr (3, [.ref q_6, .int 0])), (t0, .inr (7, [.ref tb, .int 0])), (x0, .inr (8, [.ref t0, .ref m0, .ref sb, .int 0, .int 0, .int (-1)]))] := by rw [ef_17]; exact hD
      refine lv_aload_n hx hb dX8_make_75 rfl (lv_at hl 0 rfl) ?_
      have hFc := va_free (wc := [(a_5, .inr (3, [.ref q_6, .int 0]))]) hD hS hA [2] rfl
      refine va_calli (va_runV (As := []) (rest := []) ⟨hx, hb, hml, hown, hts⟩ (c_X1_count l dC dI a_5 q_6 0 H.size) (cwV 0 hts gp_X8_make_X1_count_97 rfl rfl rfl (by decide +kernel) ⟨Nat.le_of_ble_eq_true rfl, Nat.le_of_ble_eq_true rfl⟩) ⟨Pr.blind _, va_recv hK hP (ci := 3) (q0 := 2) rfl rfl, fun U hU hW => ⟨rfl, Pr.at (hP.sub (ws' := [(a_5, .inr (3, [.ref q_6, .int 0]))]) [2] rfl) (hK.sub (tys' := []) [] rfl) (hD.sub (ws' := [(a_5, .inr (3, [.ref q_6, .int 0]))]) [2] (by decide) rfl) hN hZ hS hFc hU hW⟩⟩ rfl rfl hl.1 rfl (lv_room (Nat.le_of_ble_eq_true rfl)) dX8_make_76 ⟨Nat.le_of_ble_eq_true rfl, Nat.le_of_ble_eq_true rfl⟩) hS (fun q _ h => hFc q h) hFc (fun r_18 u t H1 locs ht hvm hw_19 hB hz1 hk1 hS => ?_)
      obtain ⟨hP, hD, hK⟩ := Bq.join (wr := [(h0, .inr (10, [.ref t0, .ref r0, .ref m0, .ref x0, v4, v5, v6, v7, v8, .int 0, .int (-1), .int 0])), (m0, .inl (cM, 8, .inr (.inr (.inr (.inr f_17))))), (t0, .inr (7, [.ref tb, .int 0])), (x0, .inr (8, [.ref t0, .ref m0, .ref sb, .int 0, .int 0, .int (-1)]))]) hB ht hvm hP hD [2] [0, 1, 3, 4] rfl rfl (by decide) (by decide) hk1 hFc hK
      generalize H1 = H at hP hS ⊢
      have hP : va_P (dC, dI) vwCl [(h0, .inr (10, [.ref t0, .ref r0, .ref m0, .ref x0, v4, v5, v6, v7, v8, .int 0, .int (-1), .int 0])), (m0, .inl (cM, 8, .inr (.inr (.inr (.inr f_17))))), (t0, .inr (7, [.ref tb, .int 0])), (x0, .inr (8, [.ref t0, .ref m0, .ref sb, .int 0, .int 0, .int (-1)])), (a_5, .inr (3, [.ref q_6, .int 0]))] H := hP
      have hD : va_D A [(h0, .inr (10, [.ref t0, .ref r0, .ref m0, .ref x0, v4, v5, v6, v7, v8, .int 0, .int (-1), .int 0])), (m0, .inl (cM, 8, .inr (.inr (.inr (.inr f_17))))), (t0, .inr (7, [.ref tb, .int 0])), (x0, .inr (8, [.ref t0, .ref m0, .ref sb, .int 0, .int 0, .int (-1)])), (a_5, .inr (3, [.ref q_6, .int 0]))] := hD
      have hK : va_K (dC, dI) vwCl [(cM, .object RX1)] s := hK
      try dsimp only at hw_19
      have k_20 := hw_19
      refine W_toi (y := 0) k_20 ?_
      have hP9 := hP.sub (ws' := []) [] rfl
      have hD9 := hD.sub (ws' := []) [] (by decide) rfl
      have hK9 := hK.sub (tys' := []) [] rfl
      exact W.iret (v := 0) hx hb hr (fun t ht hW => ⟨⟨0, (), rfl, (if_neg (fun h => h.elim c_1 c_2)).symm, by rw [ht]; exact hP9, va_K.moved hW.alike hK9, hD9⟩, hS.F ht⟩) hS.2.2 dX8_make_79
def wp_X8_field : List Cond := .code yX8_field cX8_field 5 (some .int) :: ([.methodLink RX8 100 yX8_fieldOf, .instanceMethod yX8_fieldOf, .selects RX8 yX8_fieldOf yX8_fieldOf, .initialized RX8, .code yX8_fieldOf cX8_fieldOf 4 (some (.object "RecordBench$Field")), .fieldLink RX8 24 "RecordBench" "makes" "[LRecordBench$Make;", .methodLink RX8 136 yX8_makeOf, .static yX8_makeOf, .code yX8_makeOf cX8_makeOf 2 (some (.object "RecordBench$Make"))] ++ wsX80)
set_option maxRecDepth 20000 in
theorem gp_X8_field_X8_fieldOf_100 : GoodIn wp_X8_field (wsV RX8 100 RX8 yX8_fieldOf wp_X8_fieldOf) := goodIn_p _ [5, 9] rfl (by decide +kernel)
set_option maxHeartbeats 4000000 in
set_option maxRecDepth 100000 in
theorem c_X8_field (l : Launch) (dC : Nat → ClassId) (dI : Nat → Nat → Nat) (h0 : Nat) (t0 : Nat) (r0 : Nat) (m0 : Nat) (x0 : Nat) (v4 : Value) (v5 : Value) (v6 : Value) (v7 : Value) (v8 : Value) (cM : ClassId) (p0 : Int32) (p1 : Int32) (p2 : Int32) (sz : Nat) : Met l yX8_field wp_X8_field ({ frames := 2, cells := 0, slots := 0, locals := 52 }) (va_Pc [.ref h0, .int p0, .int p1, .int p2] (Pr (dC, dI) [(cM, .object RX1)] [(h0, .inr (10, [.ref t0, .ref r0, .ref m0, .ref x0, v4, v5, v6, v7, v8, .int 0, .int ((-1)), .int 0])), (m0, .inl (cM, 8, .inr (.inr (.inr (.inr (fun _ => none))))))] sz)) (va_Qi (fun r : Int32 => (fun _ : Unit => r = -1)) (Bq (dC, dI) (fun _ : Unit => []) (fun _ : Unit => []) (va_A [(h0, .inr (10, [.ref t0, .ref r0, .ref m0, .ref x0, v4, v5, v6, v7, v8, .int 0, .int ((-1)), .int 0])), (m0, .inl (cM, 8, .inr (.inr (.inr (.inr (fun _ => none))))))] sz)) (va_A [(h0, .inr (10, [.ref t0, .ref r0, .ref m0, .ref x0, v4, v5, v6, v7, v8, .int 0, .int ((-1)), .int 0])), (m0, .inl (cM, 8, .inr (.inr (.inr (.inr (fun _ => none))))))] sz)) 0 0 (va_A [(h0, .inr (10, [.ref t0, .ref r0, .ref m0, .ref x0, v4, v5, v6, v7, v8, .int 0, .int ((-1)), .int 0])), (m0, .inl (cM, 8, .inr (.inr (.inr (.inr (fun _ => none))))))] sz) := by
  refine Met.ofW (cc := cX8_field) (maxL := 5) (ret := (some .int)) (by decide) rfl ?_
  intro p e s m args below meth c s₁ B hml hv
  obtain ⟨rfl, hsz, hP, hK, hD0, hN, hZ⟩ := hv
  have hx := B.exec
  have hb := B.bytes
  have hr := B.returns
  have hts := atoms_spec (ws := wp_X8_field) B.pre
  have hown : s.vm.findClass RX8 = some m.cls := findClass_of_methodNamed B.named
  have hlocks := B.notSynchronized
  subst hsz
  have hD := hD0.self (sz := s.heap.size)
  generalize hAe : va_A [(h0, .inr (10, [.ref t0, .ref r0, .ref m0, .ref x0, v4, v5, v6, v7, v8, .int 0, .int ((-1)), .int 0])), (m0, .inl (cM, 8, .inr (.inr (.inr (.inr (fun _ => none))))))] s.heap.size = A at hD hZ ⊢
  have hA : ∀ q : Nat, s.heap.size ≤ q → A q := fun q h => by rw [← hAe]; exact Or.inr h
  have hS : va_S A s.heap s.heap [] := va_S.rf
  have hP : va_P (dC, dI) vwCl [(h0, .inr (10, [.ref t0, .ref r0, .ref m0, .ref x0, v4, v5, v6, v7, v8, .int 0, .int ((-1)), .int 0])), (m0, .inl (cM, 8, .inr (.inr (.inr (.inr (fun _ => none))))))] s.heap := hP
  have hl := lv_entry ([.ref h0, .int p0, .int p1, .int p2]) (n := 5) (Nat.le_of_ble_eq_true rfl)
  rw [lg_entry_eq]
  generalize (lg_sl ([.ref h0, .int p0, .int p1, .int p2]) ++ List.replicate (5 - (lg_sl ([.ref h0, .int p0, .int p1, .int p2])).length) Slot.unset).toArray = ls at hl ⊢
  have hl : lv_has ls 5 [(0, .ref h0), (1, .int p0), (2, .int p1), (3, .int p2)] := hl
  refine lv_aload_n hx hb dX8_field_0 rfl (lv_at hl 0 rfl) ?_
  refine lv_iload_n hx hb dX8_field_1 rfl (lv_at hl 1 rfl) ?_
  refine lv_iload_n hx hb dX8_field_2 rfl (lv_at hl 2 rfl) ?_
  have hFc := va_free (wc := [(h0, .inr (10, [.ref t0, .ref r0, .ref m0, .ref x0, v4, v5, v6, v7, v8, .int 0, .int ((-1)), .int 0])), (m0, .inl (cM, 8, .inr (.inr (.inr (.inr (fun _ => none))))))]) hD hS hA [0, 1] rfl
  refine va_callq (va_runV (As := [.int p0, .int p1]) (rest := []) ⟨hx, hb, hml, hown, hts⟩ (c_X8_fieldOf l dC dI h0 t0 r0 m0 x0 (v4) (v5) (v6) (v7) (v8) cM p0 p1 s.heap.size) (cwV 2 hts gp_X8_field_X8_fieldOf_100 rfl rfl rfl (by decide +kernel) ⟨Nat.le_of_ble_eq_true rfl, Nat.le_of_ble_eq_true rfl⟩) ⟨Pr.blind _, va_recv hK hP (ci := 10) (q0 := 0) rfl rfl, fun U hU hW => ⟨rfl, Pr.at (hP.sub (ws' := [(h0, .inr (10, [.ref t0, .ref r0, .ref m0, .ref x0, v4, v5, v6, v7, v8, .int 0, .int ((-1)), .int 0])), (m0, .inl (cM, 8, .inr (.inr (.inr (.inr (fun _ => none))))))]) [0, 1] rfl) (hK.sub (tys' := [(cM, .object RX1)]) [0] rfl) (hD.sub (ws' := [(h0, .inr (10, [.ref t0, .ref r0, .ref m0, .ref x0, v4, v5, v6, v7, v8, .int 0, .int ((-1)), .int 0])), (m0, .inl (cM, 8, .inr (.inr (.inr (.inr (fun _ => none))))))]) [0, 1] (by decide) rfl) hN hZ hS hFc hU hW⟩⟩ rfl rfl hl.1 rfl (lv_room (Nat.le_of_ble_eq_true rfl)) dX8_field_3 ⟨Nat.le_of_ble_eq_true rfl, Nat.le_of_ble_eq_true rfl⟩) hS (fun q _ h => hFc q h) hFc (fun r_1 u t H1 locs ht hvm hw_2 hB hz1 hk1 hS => ?_)
  obtain ⟨hP, hD, hK⟩ := Bq.join (wr := []) hB ht hvm hP hD [0, 1] [] rfl rfl (by decide) (by decide) hk1 hFc hK
  generalize H1 = H at hP hS ⊢
  have hP : va_P (dC, dI) vwCl [(h0, .inr (10, [.ref t0, .ref r0, .ref m0, .ref x0, v4, v5, v6, v7, v8, .int 0, .int (-1), .int 0])), (m0, .inl (cM, 8, .inr (.inr (.inr (.inr (fun _ => none))))))] H := hP
  have hD : va_D A [(h0, .inr (10, [.ref t0, .ref r0, .ref m0, .ref x0, v4, v5, v6, v7, v8, .int 0, .int (-1), .int 0])), (m0, .inl (cM, 8, .inr (.inr (.inr (.inr (fun _ => none))))))] := hD
  have hK : va_K (dC, dI) vwCl [(cM, .object RX1)] s := hK
  try dsimp only at hw_2
  have k_3 := hw_2
  subst k_3
  refine W.eq (g2 := F0 m 6 ls [.null]) rfl ?_
  refine lv_astoreN (lv' := [(4, .null), (0, .ref h0), (1, .int p0), (2, .int p1), (3, .int p2)]) hx hb dX8_field_6 hl (by decide) rfl (fun ls hl => ?_)
  refine lv_aloadN hx hb dX8_field_8 (lv_at hl 0 rfl) ?_
  refine lv_ifnonnullN hx hb dX8_field_10 ?_
  refine lv_iconst (v := (-1)) hx hb dX8_field_13 (by decide) ?_
  have hP9 := hP.sub (ws' := []) [] rfl
  have hD9 := hD.sub (ws' := []) [] (by decide) rfl
  have hK9 := hK.sub (tys' := []) [] rfl
  exact W.iret (v := (-1)) hx hb hr (fun t ht hW => ⟨⟨(-1), (), rfl, rfl, by rw [ht]; exact hP9, va_K.moved hW.alike hK9, hD9⟩, hS.F ht⟩) hS.2.2 dX8_field_14
def wp_X8_plain : List Cond := .code yX8_plain cX8_plain 4 (some .long) :: ([.methodLink RX8 100 yX8_fieldOf, .instanceMethod yX8_fieldOf, .selects RX8 yX8_fieldOf yX8_fieldOf, .initialized RX8, .code yX8_fieldOf cX8_fieldOf 4 (some (.object "RecordBench$Field")), .fieldLink RX8 24 "RecordBench" "makes" "[LRecordBench$Make;", .methodLink RX8 136 yX8_makeOf, .static yX8_makeOf, .code yX8_makeOf cX8_makeOf 2 (some (.object "RecordBench$Make"))] ++ wsX80)
set_option maxRecDepth 20000 in
theorem gp_X8_plain_X8_fieldOf_100 : GoodIn wp_X8_plain (wsV RX8 100 RX8 yX8_fieldOf wp_X8_fieldOf) := goodIn_p _ [5, 9] rfl (by decide +kernel)
set_option maxHeartbeats 4000000 in
set_option maxRecDepth 100000 in
theorem c_X8_plain (l : Launch) (dC : Nat → ClassId) (dI : Nat → Nat → Nat) (h0 : Nat) (t0 : Nat) (r0 : Nat) (m0 : Nat) (x0 : Nat) (v4 : Value) (v5 : Value) (v6 : Value) (v7 : Value) (v8 : Value) (cM : ClassId) (p0 : Int32) (p1 : Int32) (sz : Nat) : Met l yX8_plain wp_X8_plain ({ frames := 2, cells := 0, slots := 0, locals := 52 }) (va_Pc [.ref h0, .int p0, .int p1] (Pr (dC, dI) [(cM, .object RX1)] [(h0, .inr (10, [.ref t0, .ref r0, .ref m0, .ref x0, v4, v5, v6, v7, v8, .int 0, .int ((-1)), .int 0])), (m0, .inl (cM, 8, .inr (.inr (.inr (.inr (fun _ => none))))))] sz)) (va_Ql (fun r : Int64 => (fun _ : Unit => r = 0)) (Bq (dC, dI) (fun _ : Unit => []) (fun _ : Unit => []) (va_A [(h0, .inr (10, [.ref t0, .ref r0, .ref m0, .ref x0, v4, v5, v6, v7, v8, .int 0, .int ((-1)), .int 0])), (m0, .inl (cM, 8, .inr (.inr (.inr (.inr (fun _ => none))))))] sz)) (va_A [(h0, .inr (10, [.ref t0, .ref r0, .ref m0, .ref x0, v4, v5, v6, v7, v8, .int 0, .int ((-1)), .int 0])), (m0, .inl (cM, 8, .inr (.inr (.inr (.inr (fun _ => none))))))] sz)) 0 0 (va_A [(h0, .inr (10, [.ref t0, .ref r0, .ref m0, .ref x0, v4, v5, v6, v7, v8, .int 0, .int ((-1)), .int 0])), (m0, .inl (cM, 8, .inr (.inr (.inr (.inr (fun _ => none))))))] sz) := by
  refine Met.ofW (cc := cX8_plain) (maxL := 4) (ret := (some .long)) (by decide) rfl ?_
  intro p e s m args below meth c s₁ B hml hv
  obtain ⟨rfl, hsz, hP, hK, hD0, hN, hZ⟩ := hv
  have hx := B.exec
  have hb := B.bytes
  have hr := B.returns
  have hts := atoms_spec (ws := wp_X8_plain) B.pre
  have hown : s.vm.findClass RX8 = some m.cls := findClass_of_methodNamed B.named
  have hlocks := B.notSynchronized
  subst hsz
  have hD := hD0.self (sz := s.heap.size)
  generalize hAe : va_A [(h0, .inr (10, [.ref t0, .ref r0, .ref m0, .ref x0, v4, v5, v6, v7, v8, .int 0, .int ((-1)), .int 0])), (m0, .inl (cM, 8, .inr (.inr (.inr (.inr (fun _ => none))))))] s.heap.size = A at hD hZ ⊢
  have hA : ∀ q : Nat, s.heap.size ≤ q → A q := fun q h => by rw [← hAe]; exact Or.inr h
  have hS : va_S A s.heap s.heap [] := va_S.rf
  have hP : va_P (dC, dI) vwCl [(h0, .inr (10, [.ref t0, .ref r0, .ref m0, .ref x0, v4, v5, v6, v7, v8, .int 0, .int ((-1)), .int 0])), (m0, .inl (cM, 8, .inr (.inr (.inr (.inr (fun _ => none))))))] s.heap := hP
  have hl := lv_entry ([.ref h0, .int p0, .int p1]) (n := 4) (Nat.le_of_ble_eq_true rfl)
  rw [lg_entry_eq]
  generalize (lg_sl ([.ref h0, .int p0, .int p1]) ++ List.replicate (4 - (lg_sl ([.ref h0, .int p0, .int p1])).length) Slot.unset).toArray = ls at hl ⊢
  have hl : lv_has ls 4 [(0, .ref h0), (1, .int p0), (2, .int p1)] := hl
  refine lv_aload_n hx hb dX8_plain_0 rfl (lv_at hl 0 rfl) ?_
  refine lv_iload_n hx hb dX8_plain_1 rfl (lv_at hl 1 rfl) ?_
  refine lv_iload_n hx hb dX8_plain_2 rfl (lv_at hl 2 rfl) ?_
  have hFc := va_free (wc := [(h0, .inr (10, [.ref t0, .ref r0, .ref m0, .ref x0, v4, v5, v6, v7, v8, .int 0, .int ((-1)), .int 0])), (m0, .inl (cM, 8, .inr (.inr (.inr (.inr (fun _ => none))))))]) hD hS hA [0, 1] rfl
  refine va_callq (va_runV (As := [.int p0, .int p1]) (rest := []) ⟨hx, hb, hml, hown, hts⟩ (c_X8_fieldOf l dC dI h0 t0 r0 m0 x0 (v4) (v5) (v6) (v7) (v8) cM p0 p1 s.heap.size) (cwV 2 hts gp_X8_plain_X8_fieldOf_100 rfl rfl rfl (by decide +kernel) ⟨Nat.le_of_ble_eq_true rfl, Nat.le_of_ble_eq_true rfl⟩) ⟨Pr.blind _, va_recv hK hP (ci := 10) (q0 := 0) rfl rfl, fun U hU hW => ⟨rfl, Pr.at (hP.sub (ws' := [(h0, .inr (10, [.ref t0, .ref r0, .ref m0, .ref x0, v4, v5, v6, v7, v8, .int 0, .int ((-1)), .int 0])), (m0, .inl (cM, 8, .inr (.inr (.inr (.inr (fun _ => none))))))]) [0, 1] rfl) (hK.sub (tys' := [(cM, .object RX1)]) [0] rfl) (hD.sub (ws' := [(h0, .inr (10, [.ref t0, .ref r0, .ref m0, .ref x0, v4, v5, v6, v7, v8, .int 0, .int ((-1)), .int 0])), (m0, .inl (cM, 8, .inr (.inr (.inr (.inr (fun _ => none))))))]) [0, 1] (by decide) rfl) hN hZ hS hFc hU hW⟩⟩ rfl rfl hl.1 rfl (lv_room (Nat.le_of_ble_eq_true rfl)) dX8_plain_3 ⟨Nat.le_of_ble_eq_true rfl, Nat.le_of_ble_eq_true rfl⟩) hS (fun q _ h => hFc q h) hFc (fun r_1 u t H1 locs ht hvm hw_2 hB hz1 hk1 hS => ?_)
  obtain ⟨hP, hD, hK⟩ := Bq.join (wr := []) hB ht hvm hP hD [0, 1] [] rfl rfl (by decide) (by decide) hk1 hFc hK
  generalize H1 = H at hP hS ⊢
  have hP : va_P (dC, dI) vwCl [(h0, .inr (10, [.ref t0, .ref r0, .ref m0, .ref x0, v4, v5, v6, v7, v8, .int 0, .int (-1), .int 0])), (m0, .inl (cM, 8, .inr (.inr (.inr (.inr (fun _ => none))))))] H := hP
  have hD : va_D A [(h0, .inr (10, [.ref t0, .ref r0, .ref m0, .ref x0, v4, v5, v6, v7, v8, .int 0, .int (-1), .int 0])), (m0, .inl (cM, 8, .inr (.inr (.inr (.inr (fun _ => none))))))] := hD
  have hK : va_K (dC, dI) vwCl [(cM, .object RX1)] s := hK
  try dsimp only at hw_2
  have k_3 := hw_2
  subst k_3
  refine W.eq (g2 := F0 m 6 ls [.null]) rfl ?_
  refine lv_astore_nN (lv' := [(3, .null), (0, .ref h0), (1, .int p0), (2, .int p1)]) hx hb dX8_plain_6 rfl hl (by decide) rfl (fun ls hl => ?_)
  refine lv_aload_nN hx hb dX8_plain_7 rfl (lv_at hl 0 rfl) ?_
  refine lv_ifnonnullN hx hb dX8_plain_8 ?_
  refine lv_lconst (v := 0) hx hb dX8_plain_11 (by decide) ?_
  refine lv_goto (tgt := 19) hx hb dX8_plain_12 (by decide) ?_
  have hP9 := hP.sub (ws' := []) [] rfl
  have hD9 := hD.sub (ws' := []) [] (by decide) rfl
  have hK9 := hK.sub (tys' := []) [] rfl
  exact W.lret (v := 0) hx hb hr (fun t ht hW => ⟨⟨0, (), rfl, rfl, by rw [ht]; exact hP9, va_K.moved hW.alike hK9, hD9⟩, hS.F ht⟩) hS.2.2 dX8_plain_19
def wp_X8_set : List Cond := .code yX8_set cX8_set 9 (some .int) :: ([.methodLink RX8 128 yX8_recordOf, .instanceMethod yX8_recordOf, .selects RX8 yX8_recordOf yX8_recordOf, .initialized RX8, .fieldLink RX8 24 "RecordBench" "makes" "[LRecordBench$Make;", .methodLink RX8 136 yX8_makeOf, .static yX8_makeOf, .methodLink RX8 100 yX8_fieldOf, .instanceMethod yX8_fieldOf, .selects RX8 yX8_fieldOf yX8_fieldOf, .code yX8_recordOf cX8_recordOf 2 (some (.object "RecordBench$Row")), .fieldLink RX8 18 "RecordBench" "records" "[LRecordBench$Row;", .code yX8_makeOf cX8_makeOf 2 (some (.object "RecordBench$Make")), .code yX8_fieldOf cX8_fieldOf 4 (some (.object "RecordBench$Field"))] ++ wsX80)
set_option maxRecDepth 20000 in
theorem gp_X8_set_X8_recordAny_128 : GoodIn wp_X8_set (wsV RX8 128 RX8 yX8_recordOf wp_X8_recordAny) := goodIn_p _ [11] rfl (by decide +kernel)
set_option maxRecDepth 20000 in
theorem gp_X8_set_X8_makeOf_136 : GoodIn wp_X8_set (wsS RX8 136 yX8_makeOf wp_X8_makeOf) := goodIn_p _ [13] rfl (by decide +kernel)
set_option maxRecDepth 20000 in
theorem gp_X8_set_X8_fieldOf_100 : GoodIn wp_X8_set (wsV RX8 100 RX8 yX8_fieldOf wp_X8_fieldOf) := goodIn_p _ [14, 13] rfl (by decide +kernel)
set_option maxHeartbeats 4000000 in
set_option maxRecDepth 100000 in
theorem c_X8_set (l : Launch) (dC : Nat → ClassId) (dI : Nat → Nat → Nat) (h0 : Nat) (t0 : Nat) (r0 : Nat) (m0 : Nat) (x0 : Nat) (v4 : Value) (v5 : Value) (v6 : Value) (v7 : Value) (v8 : Value) (cM : ClassId) (cR : ClassId) (fR : Nat → Option Nat) (p0 : Int32) (p1 : Int32) (p2 : Int32) (pl : Int64) (sz : Nat) : Met l yX8_set wp_X8_set ({ frames := 2, cells := 0, slots := 0, locals := 52 }) (va_Pc [.ref h0, .int p0, .int p1, .int p2, .long pl] (Pr (dC, dI) [(cM, .object RX1), (cR, .object RX5)] [(h0, .inr (10, [.ref t0, .ref r0, .ref m0, .ref x0, v4, v5, v6, v7, v8, .int 0, .int ((-1)), .int 0])), (m0, .inl (cM, 8, .inr (.inr (.inr (.inr (fun _ => none)))))), (r0, .inl (cR, 4, .inr (.inr (.inr (.inr fR)))))] sz)) (va_Qi (fun r : Int32 => (fun _ : Unit => r = -1)) (Bq (dC, dI) (fun _ : Unit => []) (fun _ : Unit => []) (va_A [(h0, .inr (10, [.ref t0, .ref r0, .ref m0, .ref x0, v4, v5, v6, v7, v8, .int 0, .int ((-1)), .int 0])), (m0, .inl (cM, 8, .inr (.inr (.inr (.inr (fun _ => none)))))), (r0, .inl (cR, 4, .inr (.inr (.inr (.inr fR)))))] sz)) (va_A [(h0, .inr (10, [.ref t0, .ref r0, .ref m0, .ref x0, v4, v5, v6, v7, v8, .int 0, .int ((-1)), .int 0])), (m0, .inl (cM, 8, .inr (.inr (.inr (.inr (fun _ => none)))))), (r0, .inl (cR, 4, .inr (.inr (.inr (.inr fR)))))] sz)) 0 0 (va_A [(h0, .inr (10, [.ref t0, .ref r0, .ref m0, .ref x0, v4, v5, v6, v7, v8, .int 0, .int ((-1)), .int 0])), (m0, .inl (cM, 8, .inr (.inr (.inr (.inr (fun _ => none)))))), (r0, .inl (cR, 4, .inr (.inr (.inr (.inr fR)))))] sz) := by
  refine Met.ofW (cc := cX8_set) (maxL := 9) (ret := (some .int)) (by decide) rfl ?_
  intro p e s m args below meth c s₁ B hml hv
  obtain ⟨rfl, hsz, hP, hK, hD0, hN, hZ⟩ := hv
  have hx := B.exec
  have hb := B.bytes
  have hr := B.returns
  have hts := atoms_spec (ws := wp_X8_set) B.pre
  have hown : s.vm.findClass RX8 = some m.cls := findClass_of_methodNamed B.named
  have hlocks := B.notSynchronized
  have iRX8 : ∀ w ∈ u_ws RX8 TX8 12, w ∈ wp_X8_set := by decide +kernel
  subst hsz
  have hD := hD0.self (sz := s.heap.size)
  generalize hAe : va_A [(h0, .inr (10, [.ref t0, .ref r0, .ref m0, .ref x0, v4, v5, v6, v7, v8, .int 0, .int ((-1)), .int 0])), (m0, .inl (cM, 8, .inr (.inr (.inr (.inr (fun _ => none)))))), (r0, .inl (cR, 4, .inr (.inr (.inr (.inr fR)))))] s.heap.size = A at hD hZ ⊢
  have hA : ∀ q : Nat, s.heap.size ≤ q → A q := fun q h => by rw [← hAe]; exact Or.inr h
  have hS : va_S A s.heap s.heap [] := va_S.rf
  have hP : va_P (dC, dI) vwCl [(h0, .inr (10, [.ref t0, .ref r0, .ref m0, .ref x0, v4, v5, v6, v7, v8, .int 0, .int ((-1)), .int 0])), (m0, .inl (cM, 8, .inr (.inr (.inr (.inr (fun _ => none)))))), (r0, .inl (cR, 4, .inr (.inr (.inr (.inr fR)))))] s.heap := hP
  have hl := lv_entry ([.ref h0, .int p0, .int p1, .int p2, .long pl]) (n := 9) (Nat.le_of_ble_eq_true rfl)
  rw [lg_entry_eq]
  generalize (lg_sl ([.ref h0, .int p0, .int p1, .int p2, .long pl]) ++ List.replicate (9 - (lg_sl ([.ref h0, .int p0, .int p1, .int p2, .long pl])).length) Slot.unset).toArray = ls at hl ⊢
  have hl : lv_has ls 9 [(0, .ref h0), (1, .int p0), (2, .int p1), (3, .int p2), (4, .long pl)] := hl
  refine lv_aload_n hx hb dX8_set_0 rfl (lv_at hl 0 rfl) ?_
  refine lv_iload_n hx hb dX8_set_1 rfl (lv_at hl 1 rfl) ?_
  have hFc := va_free (wc := [(h0, .inr (10, [.ref t0, .ref r0, .ref m0, .ref x0, v4, v5, v6, v7, v8, .int 0, .int ((-1)), .int 0])), (r0, .inl (cR, 4, .inr (.inr (.inr (.inr fR)))))]) hD hS hA [0, 2] rfl
  refine va_callq (va_runV (As := [.int p0]) (rest := []) ⟨hx, hb, hml, hown, hts⟩ (c_X8_recordAny l dC dI h0 t0 r0 m0 x0 (v4) (v5) (v6) (v7) (v8) cR fR p0 s.heap.size) (cwV 1 hts gp_X8_set_X8_recordAny_128 rfl rfl rfl (by decide +kernel) ⟨Nat.le_of_ble_eq_true rfl, Nat.le_of_ble_eq_true rfl⟩) ⟨Pr.blind _, va_recv hK hP (ci := 10) (q0 := 0) rfl rfl, fun U hU hW => ⟨rfl, Pr.at (hP.sub (ws' := [(h0, .inr (10, [.ref t0, .ref r0, .ref m0, .ref x0, v4, v5, v6, v7, v8, .int 0, .int ((-1)), .int 0])), (r0, .inl (cR, 4, .inr (.inr (.inr (.inr fR)))))]) [0, 2] rfl) (hK.sub (tys' := [(cR, .object RX5)]) [1] rfl) (hD.sub (ws' := [(h0, .inr (10, [.ref t0, .ref r0, .ref m0, .ref x0, v4, v5, v6, v7, v8, .int 0, .int ((-1)), .int 0])), (r0, .inl (cR, 4, .inr (.inr (.inr (.inr fR)))))]) [0, 2] (by decide) rfl) hN hZ hS hFc hU hW⟩⟩ rfl rfl hl.1 rfl (lv_room (Nat.le_of_ble_eq_true rfl)) dX8_set_2 ⟨Nat.le_of_ble_eq_true rfl, Nat.le_of_ble_eq_true rfl⟩) hS (fun q _ h => hFc q h) hFc (fun r_1 u t H1 locs ht hvm hw_2 hB hz1 hk1 hS => ?_)
  obtain ⟨hP, hD, hK⟩ := Bq.join (wr := [(m0, .inl (cM, 8, .inr (.inr (.inr (.inr (fun _ => none))))))]) hB ht hvm hP hD [0, 2] [1] rfl rfl (by decide) (by decide) hk1 hFc hK
  generalize H1 = H at hP hS ⊢
  have hP : va_P (dC, dI) vwCl [(m0, .inl (cM, 8, .inr (.inr (.inr (.inr (fun _ => none)))))), (h0, .inr (10, [.ref t0, .ref r0, .ref m0, .ref x0, v4, v5, v6, v7, v8, .int 0, .int (-1), .int 0])), (r0, .inl (cR, 4, .inr (.inr (.inr (.inr fR)))))] H := hP
  have hD : va_D A [(m0, .inl (cM, 8, .inr (.inr (.inr (.inr (fun _ => none)))))), (h0, .inr (10, [.ref t0, .ref r0, .ref m0, .ref x0, v4, v5, v6, v7, v8, .int 0, .int (-1), .int 0])), (r0, .inl (cR, 4, .inr (.inr (.inr (.inr fR)))))] := hD
  have hK : va_K (dC, dI) vwCl [(cM, .object RX1), (cR, .object RX5)] s := hK
  try dsimp only at hw_2
  rcases r_1 with _ | a_3
  · refine W.eq (g2 := F0 m 5 ls [.null]) rfl ?_
    refine lv_astoreN (lv' := [(6, .null), (0, .ref h0), (1, .int p0), (2, .int p1), (3, .int p2), (4, .long pl)]) hx hb dX8_set_5 hl (by decide) rfl (fun ls hl => ?_)
    refine lv_aload_n hx hb dX8_set_7 rfl (lv_at hl 1 rfl) ?_
    refine va_get (D := (dC, dI)) (ci := 10) (v := .ref m0) (C := RX8) (T := TX8) (N := 12) hx hb hts iRX8 hown hK hP 1 rfl rfl 2 (by decide) (hts (.fieldLink RX8 24 "RecordBench" "makes" "[LRecordBench$Make;") (by decide +kernel)) (fun _ h9 => h9) rfl dX8_set_8 ?_
    refine lv_iload_n hx hb dX8_set_11 rfl (lv_at hl 3 rfl) ?_
    have hFc := va_free (wc := [(m0, .inl (cM, 8, .inr (.inr (.inr (.inr (fun _ => none))))))]) hD hS hA [0] rfl
    refine va_callq (va_runS (As := [.ref m0, .int p1]) (rest := []) ⟨hx, hb, hml, hown, hts⟩ (c_X8_makeOf l dC dI m0 p1 cM H.size) (cwS 2 hts gp_X8_set_X8_makeOf_136 rfl rfl rfl (by decide +kernel) ⟨Nat.le_of_ble_eq_true rfl, Nat.le_of_ble_eq_true rfl⟩) ⟨Pr.blind _, fun U hU hW => ⟨rfl, Pr.at (hP.sub (ws' := [(m0, .inl (cM, 8, .inr (.inr (.inr (.inr (fun _ => none))))))]) [0] rfl) (hK.sub (tys' := [(cM, .object RX1)]) [0] rfl) (hD.sub (ws' := [(m0, .inl (cM, 8, .inr (.inr (.inr (.inr (fun _ => none))))))]) [0] (by decide) rfl) hN hZ hS hFc hU hW⟩⟩ rfl rfl hl.1 rfl (lv_room (Nat.le_of_ble_eq_true rfl)) dX8_set_12 ⟨Nat.le_of_ble_eq_true rfl, Nat.le_of_ble_eq_true rfl⟩) hS (fun q _ h => hFc q h) hFc (fun r_4 u t H1 locs ht hvm hw_5 hB hz1 hk1 hS => ?_)
    obtain ⟨hP, hD, hK⟩ := Bq.join (wr := [(h0, .inr (10, [.ref t0, .ref r0, .ref m0, .ref x0, v4, v5, v6, v7, v8, .int 0, .int (-1), .int 0])), (r0, .inl (cR, 4, .inr (.inr (.inr (.inr fR)))))]) hB ht hvm hP hD [0] [1, 2] rfl rfl (by decide) (by decide) hk1 hFc hK
    generalize H1 = H at hP hS ⊢
    have hP : va_P (dC, dI) vwCl [(h0, .inr (10, [.ref t0, .ref r0, .ref m0, .ref x0, v4, v5, v6, v7, v8, .int 0, .int (-1), .int 0])), (r0, .inl (cR, 4, .inr (.inr (.inr (.inr fR))))), (m0, .inl (cM, 8, .inr (.inr (.inr (.inr (fun _ => none))))))] H := hP
    have hD : va_D A [(h0, .inr (10, [.ref t0, .ref r0, .ref m0, .ref x0, v4, v5, v6, v7, v8, .int 0, .int (-1), .int 0])), (r0, .inl (cR, 4, .inr (.inr (.inr (.inr fR))))), (m0, .inl (cM, 8, .inr (.inr (.inr (.inr (fun _ => none))))))] := hD
    have hK : va_K (dC, dI) vwCl [(cM, .object RX1), (cR, .object RX5)] s := hK
    try dsimp only at hw_5
    have k_6 := hw_5
    subst k_6
    refine W.eq (g2 := F0 m 15 ls [.null]) rfl ?_
    refine lv_astoreN (lv' := [(7, .null), (6, .null), (0, .ref h0), (1, .int p0), (2, .int p1), (3, .int p2), (4, .long pl)]) hx hb dX8_set_15 hl (by decide) rfl (fun ls hl => ?_)
    refine lv_aload_n hx hb dX8_set_17 rfl (lv_at hl 2 rfl) ?_
    refine lv_iload_n hx hb dX8_set_18 rfl (lv_at hl 4 rfl) ?_
    refine lv_iload_n hx hb dX8_set_19 rfl (lv_at hl 5 rfl) ?_
    have hFc := va_free (wc := [(h0, .inr (10, [.ref t0, .ref r0, .ref m0, .ref x0, v4, v5, v6, v7, v8, .int 0, .int (-1), .int 0])), (m0, .inl (cM, 8, .inr (.inr (.inr (.inr (fun _ => none))))))]) hD hS hA [0, 2] rfl
    refine va_callq (va_runV (As := [.int p1, .int p2]) (rest := []) ⟨hx, hb, hml, hown, hts⟩ (c_X8_fieldOf l dC dI h0 t0 r0 m0 x0 (v4) (v5) (v6) (v7) (v8) cM p1 p2 H.size) (cwV 2 hts gp_X8_set_X8_fieldOf_100 rfl rfl rfl (by decide +kernel) ⟨Nat.le_of_ble_eq_true rfl, Nat.le_of_ble_eq_true rfl⟩) ⟨Pr.blind _, va_recv hK hP (ci := 10) (q0 := 0) rfl rfl, fun U hU hW => ⟨rfl, Pr.at (hP.sub (ws' := [(h0, .inr (10, [.ref t0, .ref r0, .ref m0, .ref x0, v4, v5, v6, v7, v8, .int 0, .int (-1), .int 0])), (m0, .inl (cM, 8, .inr (.inr (.inr (.inr (fun _ => none))))))]) [0, 2] rfl) (hK.sub (tys' := [(cM, .object RX1)]) [0] rfl) (hD.sub (ws' := [(h0, .inr (10, [.ref t0, .ref r0, .ref m0, .ref x0, v4, v5, v6, v7, v8, .int 0, .int (-1), .int 0])), (m0, .inl (cM, 8, .inr (.inr (.inr (.inr (fun _ => none))))))]) [0, 2] (by decide) rfl) hN hZ hS hFc hU hW⟩⟩ rfl rfl hl.1 rfl (lv_room (Nat.le_of_ble_eq_true rfl)) dX8_set_20 ⟨Nat.le_of_ble_eq_true rfl, Nat.le_of_ble_eq_true rfl⟩) hS (fun q _ h => hFc q h) hFc (fun r_7 u t H1 locs ht hvm hw_8 hB hz1 hk1 hS => ?_)
    obtain ⟨hP, hD, hK⟩ := Bq.join (wr := [(r0, .inl (cR, 4, .inr (.inr (.inr (.inr fR)))))]) hB ht hvm hP hD [0, 2] [1] rfl rfl (by decide) (by decide) hk1 hFc hK
    generalize H1 = H at hP hS ⊢
    have hP : va_P (dC, dI) vwCl [(r0, .inl (cR, 4, .inr (.inr (.inr (.inr fR))))), (h0, .inr (10, [.ref t0, .ref r0, .ref m0, .ref x0, v4, v5, v6, v7, v8, .int 0, .int (-1), .int 0])), (m0, .inl (cM, 8, .inr (.inr (.inr (.inr (fun _ => none))))))] H := hP
    have hD : va_D A [(r0, .inl (cR, 4, .inr (.inr (.inr (.inr fR))))), (h0, .inr (10, [.ref t0, .ref r0, .ref m0, .ref x0, v4, v5, v6, v7, v8, .int 0, .int (-1), .int 0])), (m0, .inl (cM, 8, .inr (.inr (.inr (.inr (fun _ => none))))))] := hD
    have hK : va_K (dC, dI) vwCl [(cM, .object RX1), (cR, .object RX5)] s := hK
    try dsimp only at hw_8
    have k_9 := hw_8
    subst k_9
    refine W.eq (g2 := F0 m 23 ls [.null]) rfl ?_
    refine lv_astoreN (lv' := [(8, .null), (7, .null), (6, .null), (0, .ref h0), (1, .int p0), (2, .int p1), (3, .int p2), (4, .long pl)]) hx hb dX8_set_23 hl (by decide) rfl (fun ls hl => ?_)
    refine lv_aloadN hx hb dX8_set_25 (lv_at hl 2 rfl) ?_
    refine lv_ifnullN (tgt := 48) hx hb dX8_set_27 (by decide) ?_
    refine lv_iconst (v := (-1)) hx hb dX8_set_48 (by decide) ?_
    have hP9 := hP.sub (ws' := []) [] rfl
    have hD9 := hD.sub (ws' := []) [] (by decide) rfl
    have hK9 := hK.sub (tys' := []) [] rfl
    exact W.iret (v := (-1)) hx hb hr (fun t ht hW => ⟨⟨(-1), (), rfl, rfl, by rw [ht]; exact hP9, va_K.moved hW.alike hK9, hD9⟩, hS.F ht⟩) hS.2.2 dX8_set_49
  · refine W.eq (g2 := F0 m 5 ls [.ref a_3]) rfl ?_
    refine lv_astore (lv' := [(6, .ref a_3), (0, .ref h0), (1, .int p0), (2, .int p1), (3, .int p2), (4, .long pl)]) hx hb dX8_set_5 hl (by decide) rfl (fun ls hl => ?_)
    refine lv_aload_n hx hb dX8_set_7 rfl (lv_at hl 1 rfl) ?_
    refine va_get (D := (dC, dI)) (ci := 10) (v := .ref m0) (C := RX8) (T := TX8) (N := 12) hx hb hts iRX8 hown hK hP 1 rfl rfl 2 (by decide) (hts (.fieldLink RX8 24 "RecordBench" "makes" "[LRecordBench$Make;") (by decide +kernel)) (fun _ h9 => h9) rfl dX8_set_8 ?_
    refine lv_iload_n hx hb dX8_set_11 rfl (lv_at hl 3 rfl) ?_
    have hFc := va_free (wc := [(m0, .inl (cM, 8, .inr (.inr (.inr (.inr (fun _ => none))))))]) hD hS hA [0] rfl
    refine va_callq (va_runS (As := [.ref m0, .int p1]) (rest := []) ⟨hx, hb, hml, hown, hts⟩ (c_X8_makeOf l dC dI m0 p1 cM H.size) (cwS 2 hts gp_X8_set_X8_makeOf_136 rfl rfl rfl (by decide +kernel) ⟨Nat.le_of_ble_eq_true rfl, Nat.le_of_ble_eq_true rfl⟩) ⟨Pr.blind _, fun U hU hW => ⟨rfl, Pr.at (hP.sub (ws' := [(m0, .inl (cM, 8, .inr (.inr (.inr (.inr (fun _ => none))))))]) [0] rfl) (hK.sub (tys' := [(cM, .object RX1)]) [0] rfl) (hD.sub (ws' := [(m0, .inl (cM, 8, .inr (.inr (.inr (.inr (fun _ => none))))))]) [0] (by decide) rfl) hN hZ hS hFc hU hW⟩⟩ rfl rfl hl.1 rfl (lv_room (Nat.le_of_ble_eq_true rfl)) dX8_set_12 ⟨Nat.le_of_ble_eq_true rfl, Nat.le_of_ble_eq_true rfl⟩) hS (fun q _ h => hFc q h) hFc (fun r_10 u t H1 locs ht hvm hw_11 hB hz1 hk1 hS => ?_)
    obtain ⟨hP, hD, hK⟩ := Bq.join (wr := [(h0, .inr (10, [.ref t0, .ref r0, .ref m0, .ref x0, v4, v5, v6, v7, v8, .int 0, .int (-1), .int 0])), (r0, .inl (cR, 4, .inr (.inr (.inr (.inr fR)))))]) hB ht hvm hP hD [0] [1, 2] rfl rfl (by decide) (by decide) hk1 hFc hK
    generalize H1 = H at hP hS ⊢
    have hP : va_P (dC, dI) vwCl [(h0, .inr (10, [.ref t0, .ref r0, .ref m0, .ref x0, v4, v5, v6, v7, v8, .int 0, .int (-1), .int 0])), (r0, .inl (cR, 4, .inr (.inr (.inr (.inr fR))))), (m0, .inl (cM, 8, .inr (.inr (.inr (.inr (fun _ => none))))))] H := hP
    have hD : va_D A [(h0, .inr (10, [.ref t0, .ref r0, .ref m0, .ref x0, v4, v5, v6, v7, v8, .int 0, .int (-1), .int 0])), (r0, .inl (cR, 4, .inr (.inr (.inr (.inr fR))))), (m0, .inl (cM, 8, .inr (.inr (.inr (.inr (fun _ => none))))))] := hD
    have hK : va_K (dC, dI) vwCl [(cM, .object RX1), (cR, .object RX5)] s := hK
    try dsimp only at hw_11
    have k_12 := hw_11
    subst k_12
    refine W.eq (g2 := F0 m 15 ls [.null]) rfl ?_
    refine lv_astoreN (lv' := [(7, .null), (6, .ref a_3), (0, .ref h0), (1, .int p0), (2, .int p1), (3, .int p2), (4, .long pl)]) hx hb dX8_set_15 hl (by decide) rfl (fun ls hl => ?_)
    refine lv_aload_n hx hb dX8_set_17 rfl (lv_at hl 2 rfl) ?_
    refine lv_iload_n hx hb dX8_set_18 rfl (lv_at hl 4 rfl) ?_
    refine lv_iload_n hx hb dX8_set_19 rfl (lv_at hl 5 rfl) ?_
    have hFc := va_free (wc := [(h0, .inr (10, [.ref t0, .ref r0, .ref m0, .ref x0, v4, v5, v6, v7, v8, .int 0, .int (-1), .int 0])), (m0, .inl (cM, 8, .inr (.inr (.inr (.inr (fun _ => none))))))]) hD hS hA [0, 2] rfl
    refine va_callq (va_runV (As := [.int p1, .int p2]) (rest := []) ⟨hx, hb, hml, hown, hts⟩ (c_X8_fieldOf l dC dI h0 t0 r0 m0 x0 (v4) (v5) (v6) (v7) (v8) cM p1 p2 H.size) (cwV 2 hts gp_X8_set_X8_fieldOf_100 rfl rfl rfl (by decide +kernel) ⟨Nat.le_of_ble_eq_true rfl, Nat.le_of_ble_eq_true rfl⟩) ⟨Pr.blind _, va_recv hK hP (ci := 10) (q0 := 0) rfl rfl, fun U hU hW => ⟨rfl, Pr.at (hP.sub (ws' := [(h0, .inr (10, [.ref t0, .ref r0, .ref m0, .ref x0, v4, v5, v6, v7, v8, .int 0, .int (-1), .int 0])), (m0, .inl (cM, 8, .inr (.inr (.inr (.inr (fun _ => none))))))]) [0, 2] rfl) (hK.sub (tys' := [(cM, .object RX1)]) [0] rfl) (hD.sub (ws' := [(h0, .inr (10, [.ref t0, .ref r0, .ref m0, .ref x0, v4, v5, v6, v7, v8, .int 0, .int (-1), .int 0])), (m0, .inl (cM, 8, .inr (.inr (.inr (.inr (fun _ => none))))))]) [0, 2] (by decide) rfl) hN hZ hS hFc hU hW⟩⟩ rfl rfl hl.1 rfl (lv_room (Nat.le_of_ble_eq_true rfl)) dX8_set_20 ⟨Nat.le_of_ble_eq_true rfl, Nat.le_of_ble_eq_true rfl⟩) hS (fun q _ h => hFc q h) hFc (fun r_13 u t H1 locs ht hvm hw_14 hB hz1 hk1 hS => ?_)
    obtain ⟨hP, hD, hK⟩ := Bq.join (wr := [(r0, .inl (cR, 4, .inr (.inr (.inr (.inr fR)))))]) hB ht hvm hP hD [0, 2] [1] rfl rfl (by decide) (by decide) hk1 hFc hK
    generalize H1 = H at hP hS ⊢
    have hP : va_P (dC, dI) vwCl [(r0, .inl (cR, 4, .inr (.inr (.inr (.inr fR))))), (h0, .inr (10, [.ref t0, .ref r0, .ref m0, .ref x0, v4, v5, v6, v7, v8, .int 0, .int (-1), .int 0])), (m0, .inl (cM, 8, .inr (.inr (.inr (.inr (fun _ => none))))))] H := hP
    have hD : va_D A [(r0, .inl (cR, 4, .inr (.inr (.inr (.inr fR))))), (h0, .inr (10, [.ref t0, .ref r0, .ref m0, .ref x0, v4, v5, v6, v7, v8, .int 0, .int (-1), .int 0])), (m0, .inl (cM, 8, .inr (.inr (.inr (.inr (fun _ => none))))))] := hD
    have hK : va_K (dC, dI) vwCl [(cM, .object RX1), (cR, .object RX5)] s := hK
    try dsimp only at hw_14
    have k_15 := hw_14
    subst k_15
    refine W.eq (g2 := F0 m 23 ls [.null]) rfl ?_
    refine lv_astoreN (lv' := [(8, .null), (7, .null), (6, .ref a_3), (0, .ref h0), (1, .int p0), (2, .int p1), (3, .int p2), (4, .long pl)]) hx hb dX8_set_23 hl (by decide) rfl (fun ls hl => ?_)
    refine lv_aload hx hb dX8_set_25 (lv_at hl 2 rfl) ?_
    refine lv_ifnull hx hb dX8_set_27 ?_
    refine lv_aloadN hx hb dX8_set_30 (lv_at hl 1 rfl) ?_
    refine lv_ifnullN (tgt := 48) hx hb dX8_set_32 (by decide) ?_
    refine lv_iconst (v := (-1)) hx hb dX8_set_48 (by decide) ?_
    have hP9 := hP.sub (ws' := []) [] rfl
    have hD9 := hD.sub (ws' := []) [] (by decide) rfl
    have hK9 := hK.sub (tys' := []) [] rfl
    exact W.iret (v := (-1)) hx hb hr (fun t ht hW => ⟨⟨(-1), (), rfl, rfl, by rw [ht]; exact hP9, va_K.moved hW.alike hK9, hD9⟩, hS.F ht⟩) hS.2.2 dX8_set_49
def wp_X8_say : List Cond := .code yX8_say cX8_say 8 (some .int) :: ([.methodLink RX8 128 yX8_recordOf, .instanceMethod yX8_recordOf, .selects RX8 yX8_recordOf yX8_recordOf, .initialized RX8, .fieldLink RX8 24 "RecordBench" "makes" "[LRecordBench$Make;", .methodLink RX8 136 yX8_makeOf, .static yX8_makeOf, .methodLink RX8 100 yX8_fieldOf, .instanceMethod yX8_fieldOf, .selects RX8 yX8_fieldOf yX8_fieldOf, .fieldLink RX8 14 "RecordBench" "tape" "LRecordBench$Row;", .methodLink RX8 83 yX5_cut, .instanceMethod yX5_cut, .selects RX5 yX5_cut yX5_cut, .initialized RX5, .code yX8_recordOf cX8_recordOf 2 (some (.object "RecordBench$Row")), .fieldLink RX8 18 "RecordBench" "records" "[LRecordBench$Row;", .code yX8_makeOf cX8_makeOf 2 (some (.object "RecordBench$Make")), .code yX8_fieldOf cX8_fieldOf 4 (some (.object "RecordBench$Field")), .code yX5_cut cX5_cut 2 (some .boolean), .fieldLink RX5 21 "RecordBench$Row" "size" "I"] ++ wsX80 ++ wsX50)
set_option maxRecDepth 20000 in
theorem gp_X8_say_X8_recordAny_128 : GoodIn wp_X8_say (wsV RX8 128 RX8 yX8_recordOf wp_X8_recordAny) := goodIn_p _ [16] rfl (by decide +kernel)
set_option maxRecDepth 20000 in
theorem gp_X8_say_X8_makeOf_136 : GoodIn wp_X8_say (wsS RX8 136 yX8_makeOf wp_X8_makeOf) := goodIn_p _ [18] rfl (by decide +kernel)
set_option maxRecDepth 20000 in
theorem gp_X8_say_X8_fieldOf_100 : GoodIn wp_X8_say (wsV RX8 100 RX8 yX8_fieldOf wp_X8_fieldOf) := goodIn_p _ [19, 18] rfl (by decide +kernel)
set_option maxRecDepth 20000 in
theorem gp_X8_say_X5_cut0_83 : GoodIn wp_X8_say (wsV RX8 83 RX5 yX5_cut wp_X5_cut0) := goodIn_p _ [20] rfl (by decide +kernel)
set_option maxHeartbeats 4000000 in
set_option maxRecDepth 100000 in
theorem c_X8_say (l : Launch) (dC : Nat → ClassId) (dI : Nat → Nat → Nat) (h0 : Nat) (t0 : Nat) (r0 : Nat) (m0 : Nat) (x0 : Nat) (v4 : Value) (v5 : Value) (v6 : Value) (v7 : Value) (v8 : Value) (cM : ClassId) (cR : ClassId) (fR : Nat → Option Nat) (tb : Nat) (p0 : Int32) (p1 : Int32) (p2 : Int32) (sz : Nat) : Met l yX8_say wp_X8_say ({ frames := 2, cells := 0, slots := 0, locals := 52 }) (va_Pc [.ref h0, .int p0, .int p1, .int p2] (Pr (dC, dI) [(cM, .object RX1), (cR, .object RX5)] [(h0, .inr (10, [.ref t0, .ref r0, .ref m0, .ref x0, v4, v5, v6, v7, v8, .int 0, .int ((-1)), .int 0])), (m0, .inl (cM, 8, .inr (.inr (.inr (.inr (fun _ => none)))))), (r0, .inl (cR, 4, .inr (.inr (.inr (.inr fR))))), (t0, .inr (7, [.ref tb, .int 0]))] sz)) (va_Qi (fun r : Int32 => (fun _ : Unit => r = -1)) (Bq (dC, dI) (fun _ : Unit => []) (fun _ : Unit => []) (va_A [(h0, .inr (10, [.ref t0, .ref r0, .ref m0, .ref x0, v4, v5, v6, v7, v8, .int 0, .int ((-1)), .int 0])), (m0, .inl (cM, 8, .inr (.inr (.inr (.inr (fun _ => none)))))), (r0, .inl (cR, 4, .inr (.inr (.inr (.inr fR))))), (t0, .inr (7, [.ref tb, .int 0]))] sz)) (va_A [(h0, .inr (10, [.ref t0, .ref r0, .ref m0, .ref x0, v4, v5, v6, v7, v8, .int 0, .int ((-1)), .int 0])), (m0, .inl (cM, 8, .inr (.inr (.inr (.inr (fun _ => none)))))), (r0, .inl (cR, 4, .inr (.inr (.inr (.inr fR))))), (t0, .inr (7, [.ref tb, .int 0]))] sz)) 0 0 (va_A [(h0, .inr (10, [.ref t0, .ref r0, .ref m0, .ref x0, v4, v5, v6, v7, v8, .int 0, .int ((-1)), .int 0])), (m0, .inl (cM, 8, .inr (.inr (.inr (.inr (fun _ => none)))))), (r0, .inl (cR, 4, .inr (.inr (.inr (.inr fR))))), (t0, .inr (7, [.ref tb, .int 0]))] sz) := by
  refine Met.ofW (cc := cX8_say) (maxL := 8) (ret := (some .int)) (by decide) rfl ?_
  intro p e s m args below meth c s₁ B hml hv
  obtain ⟨rfl, hsz, hP, hK, hD0, hN, hZ⟩ := hv
  have hx := B.exec
  have hb := B.bytes
  have hr := B.returns
  have hts := atoms_spec (ws := wp_X8_say) B.pre
  have hown : s.vm.findClass RX8 = some m.cls := findClass_of_methodNamed B.named
  have hlocks := B.notSynchronized
  have iRX8 : ∀ w ∈ u_ws RX8 TX8 12, w ∈ wp_X8_say := by decide +kernel
  subst hsz
  have hD := hD0.self (sz := s.heap.size)
  generalize hAe : va_A [(h0, .inr (10, [.ref t0, .ref r0, .ref m0, .ref x0, v4, v5, v6, v7, v8, .int 0, .int ((-1)), .int 0])), (m0, .inl (cM, 8, .inr (.inr (.inr (.inr (fun _ => none)))))), (r0, .inl (cR, 4, .inr (.inr (.inr (.inr fR))))), (t0, .inr (7, [.ref tb, .int 0]))] s.heap.size = A at hD hZ ⊢
  have hA : ∀ q : Nat, s.heap.size ≤ q → A q := fun q h => by rw [← hAe]; exact Or.inr h
  have hS : va_S A s.heap s.heap [] := va_S.rf
  have hP : va_P (dC, dI) vwCl [(h0, .inr (10, [.ref t0, .ref r0, .ref m0, .ref x0, v4, v5, v6, v7, v8, .int 0, .int ((-1)), .int 0])), (m0, .inl (cM, 8, .inr (.inr (.inr (.inr (fun _ => none)))))), (r0, .inl (cR, 4, .inr (.inr (.inr (.inr fR))))), (t0, .inr (7, [.ref tb, .int 0]))] s.heap := hP
  have hl := lv_entry ([.ref h0, .int p0, .int p1, .int p2]) (n := 8) (Nat.le_of_ble_eq_true rfl)
  rw [lg_entry_eq]
  generalize (lg_sl ([.ref h0, .int p0, .int p1, .int p2]) ++ List.replicate (8 - (lg_sl ([.ref h0, .int p0, .int p1, .int p2])).length) Slot.unset).toArray = ls at hl ⊢
  have hl : lv_has ls 8 [(0, .ref h0), (1, .int p0), (2, .int p1), (3, .int p2)] := hl
  refine lv_aload_n hx hb dX8_say_0 rfl (lv_at hl 0 rfl) ?_
  refine lv_iload_n hx hb dX8_say_1 rfl (lv_at hl 1 rfl) ?_
  have hFc := va_free (wc := [(h0, .inr (10, [.ref t0, .ref r0, .ref m0, .ref x0, v4, v5, v6, v7, v8, .int 0, .int ((-1)), .int 0])), (r0, .inl (cR, 4, .inr (.inr (.inr (.inr fR)))))]) hD hS hA [0, 2] rfl
  refine va_callq (va_runV (As := [.int p0]) (rest := []) ⟨hx, hb, hml, hown, hts⟩ (c_X8_recordAny l dC dI h0 t0 r0 m0 x0 (v4) (v5) (v6) (v7) (v8) cR fR p0 s.heap.size) (cwV 1 hts gp_X8_say_X8_recordAny_128 rfl rfl rfl (by decide +kernel) ⟨Nat.le_of_ble_eq_true rfl, Nat.le_of_ble_eq_true rfl⟩) ⟨Pr.blind _, va_recv hK hP (ci := 10) (q0 := 0) rfl rfl, fun U hU hW => ⟨rfl, Pr.at (hP.sub (ws' := [(h0, .inr (10, [.ref t0, .ref r0, .ref m0, .ref x0, v4, v5, v6, v7, v8, .int 0, .int ((-1)), .int 0])), (r0, .inl (cR, 4, .inr (.inr (.inr (.inr fR)))))]) [0, 2] rfl) (hK.sub (tys' := [(cR, .object RX5)]) [1] rfl) (hD.sub (ws' := [(h0, .inr (10, [.ref t0, .ref r0, .ref m0, .ref x0, v4, v5, v6, v7, v8, .int 0, .int ((-1)), .int 0])), (r0, .inl (cR, 4, .inr (.inr (.inr (.inr fR)))))]) [0, 2] (by decide) rfl) hN hZ hS hFc hU hW⟩⟩ rfl rfl hl.1 rfl (lv_room (Nat.le_of_ble_eq_true rfl)) dX8_say_2 ⟨Nat.le_of_ble_eq_true rfl, Nat.le_of_ble_eq_true rfl⟩) hS (fun q _ h => hFc q h) hFc (fun r_1 u t H1 locs ht hvm hw_2 hB hz1 hk1 hS => ?_)
  obtain ⟨hP, hD, hK⟩ := Bq.join (wr := [(m0, .inl (cM, 8, .inr (.inr (.inr (.inr (fun _ => none)))))), (t0, .inr (7, [.ref tb, .int 0]))]) hB ht hvm hP hD [0, 2] [1, 3] rfl rfl (by decide) (by decide) hk1 hFc hK
  generalize H1 = H at hP hS ⊢
  have hP : va_P (dC, dI) vwCl [(m0, .inl (cM, 8, .inr (.inr (.inr (.inr (fun _ => none)))))), (t0, .inr (7, [.ref tb, .int 0])), (h0, .inr (10, [.ref t0, .ref r0, .ref m0, .ref x0, v4, v5, v6, v7, v8, .int 0, .int (-1), .int 0])), (r0, .inl (cR, 4, .inr (.inr (.inr (.inr fR)))))] H := hP
  have hD : va_D A [(m0, .inl (cM, 8, .inr (.inr (.inr (.inr (fun _ => none)))))), (t0, .inr (7, [.ref tb, .int 0])), (h0, .inr (10, [.ref t0, .ref r0, .ref m0, .ref x0, v4, v5, v6, v7, v8, .int 0, .int (-1), .int 0])), (r0, .inl (cR, 4, .inr (.inr (.inr (.inr fR)))))] := hD
  have hK : va_K (dC, dI) vwCl [(cM, .object RX1), (cR, .object RX5)] s := hK
  try dsimp only at hw_2
  rcases r_1 with _ | a_3
  · refine W.eq (g2 := F0 m 5 ls [.null]) rfl ?_
    refine lv_astoreN (lv' := [(4, .null), (0, .ref h0), (1, .int p0), (2, .int p1), (3, .int p2)]) hx hb dX8_say_5 hl (by decide) rfl (fun ls hl => ?_)
    refine lv_aload_n hx hb dX8_say_7 rfl (lv_at hl 1 rfl) ?_
    refine va_get (D := (dC, dI)) (ci := 10) (v := .ref m0) (C := RX8) (T := TX8) (N := 12) hx hb hts iRX8 hown hK hP 2 rfl rfl 2 (by decide) (hts (.fieldLink RX8 24 "RecordBench" "makes" "[LRecordBench$Make;") (by decide +kernel)) (fun _ h9 => h9) rfl dX8_say_8 ?_
    refine lv_iload_n hx hb dX8_say_11 rfl (lv_at hl 3 rfl) ?_
    have hFc := va_free (wc := [(m0, .inl (cM, 8, .inr (.inr (.inr (.inr (fun _ => none))))))]) hD hS hA [0] rfl
    refine va_callq (va_runS (As := [.ref m0, .int p1]) (rest := []) ⟨hx, hb, hml, hown, hts⟩ (c_X8_makeOf l dC dI m0 p1 cM H.size) (cwS 2 hts gp_X8_say_X8_makeOf_136 rfl rfl rfl (by decide +kernel) ⟨Nat.le_of_ble_eq_true rfl, Nat.le_of_ble_eq_true rfl⟩) ⟨Pr.blind _, fun U hU hW => ⟨rfl, Pr.at (hP.sub (ws' := [(m0, .inl (cM, 8, .inr (.inr (.inr (.inr (fun _ => none))))))]) [0] rfl) (hK.sub (tys' := [(cM, .object RX1)]) [0] rfl) (hD.sub (ws' := [(m0, .inl (cM, 8, .inr (.inr (.inr (.inr (fun _ => none))))))]) [0] (by decide) rfl) hN hZ hS hFc hU hW⟩⟩ rfl rfl hl.1 rfl (lv_room (Nat.le_of_ble_eq_true rfl)) dX8_say_12 ⟨Nat.le_of_ble_eq_true rfl, Nat.le_of_ble_eq_true rfl⟩) hS (fun q _ h => hFc q h) hFc (fun r_4 u t H1 locs ht hvm hw_5 hB hz1 hk1 hS => ?_)
    obtain ⟨hP, hD, hK⟩ := Bq.join (wr := [(t0, .inr (7, [.ref tb, .int 0])), (h0, .inr (10, [.ref t0, .ref r0, .ref m0, .ref x0, v4, v5, v6, v7, v8, .int 0, .int (-1), .int 0])), (r0, .inl (cR, 4, .inr (.inr (.inr (.inr fR)))))]) hB ht hvm hP hD [0] [1, 2, 3] rfl rfl (by decide) (by decide) hk1 hFc hK
    generalize H1 = H at hP hS ⊢
    have hP : va_P (dC, dI) vwCl [(t0, .inr (7, [.ref tb, .int 0])), (h0, .inr (10, [.ref t0, .ref r0, .ref m0, .ref x0, v4, v5, v6, v7, v8, .int 0, .int (-1), .int 0])), (r0, .inl (cR, 4, .inr (.inr (.inr (.inr fR))))), (m0, .inl (cM, 8, .inr (.inr (.inr (.inr (fun _ => none))))))] H := hP
    have hD : va_D A [(t0, .inr (7, [.ref tb, .int 0])), (h0, .inr (10, [.ref t0, .ref r0, .ref m0, .ref x0, v4, v5, v6, v7, v8, .int 0, .int (-1), .int 0])), (r0, .inl (cR, 4, .inr (.inr (.inr (.inr fR))))), (m0, .inl (cM, 8, .inr (.inr (.inr (.inr (fun _ => none))))))] := hD
    have hK : va_K (dC, dI) vwCl [(cM, .object RX1), (cR, .object RX5)] s := hK
    try dsimp only at hw_5
    have k_6 := hw_5
    subst k_6
    refine W.eq (g2 := F0 m 15 ls [.null]) rfl ?_
    refine lv_astoreN (lv' := [(5, .null), (4, .null), (0, .ref h0), (1, .int p0), (2, .int p1), (3, .int p2)]) hx hb dX8_say_15 hl (by decide) rfl (fun ls hl => ?_)
    refine lv_aload_n hx hb dX8_say_17 rfl (lv_at hl 2 rfl) ?_
    refine lv_iload_n hx hb dX8_say_18 rfl (lv_at hl 4 rfl) ?_
    refine lv_iload_n hx hb dX8_say_19 rfl (lv_at hl 5 rfl) ?_
    have hFc := va_free (wc := [(h0, .inr (10, [.ref t0, .ref r0, .ref m0, .ref x0, v4, v5, v6, v7, v8, .int 0, .int (-1), .int 0])), (m0, .inl (cM, 8, .inr (.inr (.inr (.inr (fun _ => none))))))]) hD hS hA [1, 3] rfl
    refine va_callq (va_runV (As := [.int p1, .int p2]) (rest := []) ⟨hx, hb, hml, hown, hts⟩ (c_X8_fieldOf l dC dI h0 t0 r0 m0 x0 (v4) (v5) (v6) (v7) (v8) cM p1 p2 H.size) (cwV 2 hts gp_X8_say_X8_fieldOf_100 rfl rfl rfl (by decide +kernel) ⟨Nat.le_of_ble_eq_true rfl, Nat.le_of_ble_eq_true rfl⟩) ⟨Pr.blind _, va_recv hK hP (ci := 10) (q0 := 1) rfl rfl, fun U hU hW => ⟨rfl, Pr.at (hP.sub (ws' := [(h0, .inr (10, [.ref t0, .ref r0, .ref m0, .ref x0, v4, v5, v6, v7, v8, .int 0, .int (-1), .int 0])), (m0, .inl (cM, 8, .inr (.inr (.inr (.inr (fun _ => none))))))]) [1, 3] rfl) (hK.sub (tys' := [(cM, .object RX1)]) [0] rfl) (hD.sub (ws' := [(h0, .inr (10, [.ref t0, .ref r0, .ref m0, .ref x0, v4, v5, v6, v7, v8, .int 0, .int (-1), .int 0])), (m0, .inl (cM, 8, .inr (.inr (.inr (.inr (fun _ => none))))))]) [1, 3] (by decide) rfl) hN hZ hS hFc hU hW⟩⟩ rfl rfl hl.1 rfl (lv_room (Nat.le_of_ble_eq_true rfl)) dX8_say_20 ⟨Nat.le_of_ble_eq_true rfl, Nat.le_of_ble_eq_true rfl⟩) hS (fun q _ h => hFc q h) hFc (fun r_7 u t H1 locs ht hvm hw_8 hB hz1 hk1 hS => ?_)
    obtain ⟨hP, hD, hK⟩ := Bq.join (wr := [(t0, .inr (7, [.ref tb, .int 0])), (r0, .inl (cR, 4, .inr (.inr (.inr (.inr fR)))))]) hB ht hvm hP hD [1, 3] [0, 2] rfl rfl (by decide) (by decide) hk1 hFc hK
    generalize H1 = H at hP hS ⊢
    have hP : va_P (dC, dI) vwCl [(t0, .inr (7, [.ref tb, .int 0])), (r0, .inl (cR, 4, .inr (.inr (.inr (.inr fR))))), (h0, .inr (10, [.ref t0, .ref r0, .ref m0, .ref x0, v4, v5, v6, v7, v8, .int 0, .int (-1), .int 0])), (m0, .inl (cM, 8, .inr (.inr (.inr (.inr (fun _ => none))))))] H := hP
    have hD : va_D A [(t0, .inr (7, [.ref tb, .int 0])), (r0, .inl (cR, 4, .inr (.inr (.inr (.inr fR))))), (h0, .inr (10, [.ref t0, .ref r0, .ref m0, .ref x0, v4, v5, v6, v7, v8, .int 0, .int (-1), .int 0])), (m0, .inl (cM, 8, .inr (.inr (.inr (.inr (fun _ => none))))))] := hD
    have hK : va_K (dC, dI) vwCl [(cM, .object RX1), (cR, .object RX5)] s := hK
    try dsimp only at hw_8
    have k_9 := hw_8
    subst k_9
    refine W.eq (g2 := F0 m 23 ls [.null]) rfl ?_
    refine lv_astoreN (lv' := [(6, .null), (5, .null), (4, .null), (0, .ref h0), (1, .int p0), (2, .int p1), (3, .int p2)]) hx hb dX8_say_23 hl (by decide) rfl (fun ls hl => ?_)
    refine lv_aloadN hx hb dX8_say_25 (lv_at hl 2 rfl) ?_
    refine lv_ifnullN (tgt := 49) hx hb dX8_say_27 (by decide) ?_
    refine lv_iconst (v := (-1)) hx hb dX8_say_49 (by decide) ?_
    refine lv_istore (lv' := [(7, .int ((-1))), (6, .null), (5, .null), (4, .null), (0, .ref h0), (1, .int p0), (2, .int p1), (3, .int p2)]) hx hb dX8_say_50 hl (by decide) rfl (fun ls hl => ?_)
    refine lv_goto (tgt := 169) hx hb dX8_say_52 (by decide) ?_
    refine lv_aload_n hx hb dX8_say_169 rfl (lv_at hl 4 rfl) ?_
    refine va_get (D := (dC, dI)) (ci := 10) (v := .ref t0) (C := RX8) (T := TX8) (N := 12) hx hb hts iRX8 hown hK hP 2 rfl rfl 0 (by decide) (hts (.fieldLink RX8 14 "RecordBench" "tape" "LRecordBench$Row;") (by decide +kernel)) (fun _ h9 => h9) rfl dX8_say_170 ?_
    refine lv_iconst (v := 0) hx hb dX8_say_173 (by decide) ?_
    have hFc := va_free (wc := [(t0, .inr (7, [.ref tb, .int 0]))]) hD hS hA [0] rfl
    refine va_calli (va_runV (As := [.int 0]) (rest := []) ⟨hx, hb, hml, hown, hts⟩ (c_X5_cut0 l dC dI t0 tb H.size) (cwV 1 hts gp_X8_say_X5_cut0_83 rfl rfl rfl (by decide +kernel) ⟨Nat.le_of_ble_eq_true rfl, Nat.le_of_ble_eq_true rfl⟩) ⟨Pr.blind _, va_recv hK hP (ci := 7) (q0 := 0) rfl rfl, fun U hU hW => ⟨rfl, Pr.at (hP.sub (ws' := [(t0, .inr (7, [.ref tb, .int 0]))]) [0] rfl) (hK.sub (tys' := []) [] rfl) (hD.sub (ws' := [(t0, .inr (7, [.ref tb, .int 0]))]) [0] (by decide) rfl) hN hZ hS hFc hU hW⟩⟩ rfl rfl hl.1 rfl (lv_room (Nat.le_of_ble_eq_true rfl)) dX8_say_174 ⟨Nat.le_of_ble_eq_true rfl, Nat.le_of_ble_eq_true rfl⟩) hS (fun q _ h => hFc q h) hFc (fun r_10 u t H1 locs ht hvm hw_11 hB hz1 hk1 hS => ?_)
    obtain ⟨hP, hD, hK⟩ := Bq.join (wr := [(r0, .inl (cR, 4, .inr (.inr (.inr (.inr fR))))), (h0, .inr (10, [.ref t0, .ref r0, .ref m0, .ref x0, v4, v5, v6, v7, v8, .int 0, .int (-1), .int 0])), (m0, .inl (cM, 8, .inr (.inr (.inr (.inr (fun _ => none))))))]) hB ht hvm hP hD [0] [1, 2, 3] rfl rfl (by decide) (by decide) hk1 hFc hK
    generalize H1 = H at hP hS ⊢
    have hP : va_P (dC, dI) vwCl [(r0, .inl (cR, 4, .inr (.inr (.inr (.inr fR))))), (h0, .inr (10, [.ref t0, .ref r0, .ref m0, .ref x0, v4, v5, v6, v7, v8, .int 0, .int (-1), .int 0])), (m0, .inl (cM, 8, .inr (.inr (.inr (.inr (fun _ => none)))))), (t0, .inr (7, [.ref tb, .int 0]))] H := hP
    have hD : va_D A [(r0, .inl (cR, 4, .inr (.inr (.inr (.inr fR))))), (h0, .inr (10, [.ref t0, .ref r0, .ref m0, .ref x0, v4, v5, v6, v7, v8, .int 0, .int (-1), .int 0])), (m0, .inl (cM, 8, .inr (.inr (.inr (.inr (fun _ => none)))))), (t0, .inr (7, [.ref tb, .int 0]))] := hD
    have hK : va_K (dC, dI) vwCl [(cM, .object RX1), (cR, .object RX5)] s := hK
    try dsimp only at hw_11
    have k_12 := hw_11
    refine W_toi (y := 1) k_12 ?_
    refine lv_pop hx hb dX8_say_177 rfl ?_
    refine lv_iload hx hb dX8_say_178 (lv_at hl 0 rfl) ?_
    have hP9 := hP.sub (ws' := []) [] rfl
    have hD9 := hD.sub (ws' := []) [] (by decide) rfl
    have hK9 := hK.sub (tys' := []) [] rfl
    exact W.iret (v := (-1)) hx hb hr (fun t ht hW => ⟨⟨(-1), (), rfl, rfl, by rw [ht]; exact hP9, va_K.moved hW.alike hK9, hD9⟩, hS.F ht⟩) hS.2.2 dX8_say_180
  · refine W.eq (g2 := F0 m 5 ls [.ref a_3]) rfl ?_
    refine lv_astore (lv' := [(4, .ref a_3), (0, .ref h0), (1, .int p0), (2, .int p1), (3, .int p2)]) hx hb dX8_say_5 hl (by decide) rfl (fun ls hl => ?_)
    refine lv_aload_n hx hb dX8_say_7 rfl (lv_at hl 1 rfl) ?_
    refine va_get (D := (dC, dI)) (ci := 10) (v := .ref m0) (C := RX8) (T := TX8) (N := 12) hx hb hts iRX8 hown hK hP 2 rfl rfl 2 (by decide) (hts (.fieldLink RX8 24 "RecordBench" "makes" "[LRecordBench$Make;") (by decide +kernel)) (fun _ h9 => h9) rfl dX8_say_8 ?_
    refine lv_iload_n hx hb dX8_say_11 rfl (lv_at hl 3 rfl) ?_
    have hFc := va_free (wc := [(m0, .inl (cM, 8, .inr (.inr (.inr (.inr (fun _ => none))))))]) hD hS hA [0] rfl
    refine va_callq (va_runS (As := [.ref m0, .int p1]) (rest := []) ⟨hx, hb, hml, hown, hts⟩ (c_X8_makeOf l dC dI m0 p1 cM H.size) (cwS 2 hts gp_X8_say_X8_makeOf_136 rfl rfl rfl (by decide +kernel) ⟨Nat.le_of_ble_eq_true rfl, Nat.le_of_ble_eq_true rfl⟩) ⟨Pr.blind _, fun U hU hW => ⟨rfl, Pr.at (hP.sub (ws' := [(m0, .inl (cM, 8, .inr (.inr (.inr (.inr (fun _ => none))))))]) [0] rfl) (hK.sub (tys' := [(cM, .object RX1)]) [0] rfl) (hD.sub (ws' := [(m0, .inl (cM, 8, .inr (.inr (.inr (.inr (fun _ => none))))))]) [0] (by decide) rfl) hN hZ hS hFc hU hW⟩⟩ rfl rfl hl.1 rfl (lv_room (Nat.le_of_ble_eq_true rfl)) dX8_say_12 ⟨Nat.le_of_ble_eq_true rfl, Nat.le_of_ble_eq_true rfl⟩) hS (fun q _ h => hFc q h) hFc (fun r_13 u t H1 locs ht hvm hw_14 hB hz1 hk1 hS => ?_)
    obtain ⟨hP, hD, hK⟩ := Bq.join (wr := [(t0, .inr (7, [.ref tb, .int 0])), (h0, .inr (10, [.ref t0, .ref r0, .ref m0, .ref x0, v4, v5, v6, v7, v8, .int 0, .int (-1), .int 0])), (r0, .inl (cR, 4, .inr (.inr (.inr (.inr fR)))))]) hB ht hvm hP hD [0] [1, 2, 3] rfl rfl (by decide) (by decide) hk1 hFc hK
    generalize H1 = H at hP hS ⊢
    have hP : va_P (dC, dI) vwCl [(t0, .inr (7, [.ref tb, .int 0])), (h0, .inr (10, [.ref t0, .ref r0, .ref m0, .ref x0, v4, v5, v6, v7, v8, .int 0, .int (-1), .int 0])), (r0, .inl (cR, 4, .inr (.inr (.inr (.inr fR))))), (m0, .inl (cM, 8, .inr (.inr (.inr (.inr (fun _ => none))))))] H := hP
    have hD : va_D A [(t0, .inr (7, [.ref tb, .int 0])), (h0, .inr (10, [.ref t0, .ref r0, .ref m0, .ref x0, v4, v5, v6, v7, v8, .int 0, .int (-1), .int 0])), (r0, .inl (cR, 4, .inr (.inr (.inr (.inr fR))))), (m0, .inl (cM, 8, .inr (.inr (.inr (.inr (fun _ => none))))))] := hD
    have hK : va_K (dC, dI) vwCl [(cM, .object RX1), (cR, .object RX5)] s := hK
    try dsimp only at hw_14
    have k_15 := hw_14
    subst k_15
    refine W.eq (g2 := F0 m 15 ls [.null]) rfl ?_
    refine lv_astoreN (lv' := [(5, .null), (4, .ref a_3), (0, .ref h0), (1, .int p0), (2, .int p1), (3, .int p2)]) hx hb dX8_say_15 hl (by decide) rfl (fun ls hl => ?_)
    refine lv_aload_n hx hb dX8_say_17 rfl (lv_at hl 2 rfl) ?_
    refine lv_iload_n hx hb dX8_say_18 rfl (lv_at hl 4 rfl) ?_
    refine lv_iload_n hx hb dX8_say_19 rfl (lv_at hl 5 rfl) ?_
    have hFc := va_free (wc := [(h0, .inr (10, [.ref t0, .ref r0, .ref m0, .ref x0, v4, v5, v6, v7, v8, .int 0, .int (-1), .int 0])), (m0, .inl (cM, 8, .inr (.inr (.inr (.inr (fun _ => none))))))]) hD hS hA [1, 3] rfl
    refine va_callq (va_runV (As := [.int p1, .int p2]) (rest := []) ⟨hx, hb, hml, hown, hts⟩ (c_X8_fieldOf l dC dI h0 t0 r0 m0 x0 (v4) (v5) (v6) (v7) (v8) cM p1 p2 H.size) (cwV 2 hts gp_X8_say_X8_fieldOf_100 rfl rfl rfl (by decide +kernel) ⟨Nat.le_of_ble_eq_true rfl, Nat.le_of_ble_eq_true rfl⟩) ⟨Pr.blind _, va_recv hK hP (ci := 10) (q0 := 1) rfl rfl, fun U hU hW => ⟨rfl, Pr.at (hP.sub (ws' := [(h0, .inr (10, [.ref t0, .ref r0, .ref m0, .ref x0, v4, v5, v6, v7, v8, .int 0, .int (-1), .int 0])), (m0, .inl (cM, 8, .inr (.inr (.inr (.inr (fun _ => none))))))]) [1, 3] rfl) (hK.sub (tys' := [(cM, .object RX1)]) [0] rfl) (hD.sub (ws' := [(h0, .inr (10, [.ref t0, .ref r0, .ref m0, .ref x0, v4, v5, v6, v7, v8, .int 0, .int (-1), .int 0])), (m0, .inl (cM, 8, .inr (.inr (.inr (.inr (fun _ => none))))))]) [1, 3] (by decide) rfl) hN hZ hS hFc hU hW⟩⟩ rfl rfl hl.1 rfl (lv_room (Nat.le_of_ble_eq_true rfl)) dX8_say_20 ⟨Nat.le_of_ble_eq_true rfl, Nat.le_of_ble_eq_true rfl⟩) hS (fun q _ h => hFc q h) hFc (fun r_16 u t H1 locs ht hvm hw_17 hB hz1 hk1 hS => ?_)
    obtain ⟨hP, hD, hK⟩ := Bq.join (wr := [(t0, .inr (7, [.ref tb, .int 0])), (r0, .inl (cR, 4, .inr (.inr (.inr (.inr fR)))))]) hB ht hvm hP hD [1, 3] [0, 2] rfl rfl (by decide) (by decide) hk1 hFc hK
    generalize H1 = H at hP hS ⊢
    have hP : va_P (dC, dI) vwCl [(t0, .inr (7, [.ref tb, .int 0])), (r0, .inl (cR, 4, .inr (.inr (.inr (.inr fR))))), (h0, .inr (10, [.ref t0, .ref r0, .ref m0, .ref x0, v4, v5, v6, v7, v8, .int 0, .int (-1), .int 0])), (m0, .inl (cM, 8, .inr (.inr (.inr (.inr (fun _ => none))))))] H := hP
    have hD : va_D A [(t0, .inr (7, [.ref tb, .int 0])), (r0, .inl (cR, 4, .inr (.inr (.inr (.inr fR))))), (h0, .inr (10, [.ref t0, .ref r0, .ref m0, .ref x0, v4, v5, v6, v7, v8, .int 0, .int (-1), .int 0])), (m0, .inl (cM, 8, .inr (.inr (.inr (.inr (fun _ => none))))))] := hD
    have hK : va_K (dC, dI) vwCl [(cM, .object RX1), (cR, .object RX5)] s := hK
    try dsimp only at hw_17
    have k_18 := hw_17
    subst k_18
    refine W.eq (g2 := F0 m 23 ls [.null]) rfl ?_
    refine lv_astoreN (lv' := [(6, .null), (5, .null), (4, .ref a_3), (0, .ref h0), (1, .int p0), (2, .int p1), (3, .int p2)]) hx hb dX8_say_23 hl (by decide) rfl (fun ls hl => ?_)
    refine lv_aload hx hb dX8_say_25 (lv_at hl 2 rfl) ?_
    refine lv_ifnull hx hb dX8_say_27 ?_
    refine lv_aloadN hx hb dX8_say_30 (lv_at hl 1 rfl) ?_
    refine lv_ifnullN (tgt := 49) hx hb dX8_say_32 (by decide) ?_
    refine lv_iconst (v := (-1)) hx hb dX8_say_49 (by decide) ?_
    refine lv_istore (lv' := [(7, .int ((-1))), (6, .null), (5, .null), (4, .ref a_3), (0, .ref h0), (1, .int p0), (2, .int p1), (3, .int p2)]) hx hb dX8_say_50 hl (by decide) rfl (fun ls hl => ?_)
    refine lv_goto (tgt := 169) hx hb dX8_say_52 (by decide) ?_
    refine lv_aload_n hx hb dX8_say_169 rfl (lv_at hl 4 rfl) ?_
    refine va_get (D := (dC, dI)) (ci := 10) (v := .ref t0) (C := RX8) (T := TX8) (N := 12) hx hb hts iRX8 hown hK hP 2 rfl rfl 0 (by decide) (hts (.fieldLink RX8 14 "RecordBench" "tape" "LRecordBench$Row;") (by decide +kernel)) (fun _ h9 => h9) rfl dX8_say_170 ?_
    refine lv_iconst (v := 0) hx hb dX8_say_173 (by decide) ?_
    have hFc := va_free (wc := [(t0, .inr (7, [.ref tb, .int 0]))]) hD hS hA [0] rfl
    refine va_calli (va_runV (As := [.int 0]) (rest := []) ⟨hx, hb, hml, hown, hts⟩ (c_X5_cut0 l dC dI t0 tb H.size) (cwV 1 hts gp_X8_say_X5_cut0_83 rfl rfl rfl (by decide +kernel) ⟨Nat.le_of_ble_eq_true rfl, Nat.le_of_ble_eq_true rfl⟩) ⟨Pr.blind _, va_recv hK hP (ci := 7) (q0 := 0) rfl rfl, fun U hU hW => ⟨rfl, Pr.at (hP.sub (ws' := [(t0, .inr (7, [.ref tb, .int 0]))]) [0] rfl) (hK.sub (tys' := []) [] rfl) (hD.sub (ws' := [(t0, .inr (7, [.ref tb, .int 0]))]) [0] (by decide) rfl) hN hZ hS hFc hU hW⟩⟩ rfl rfl hl.1 rfl (lv_room (Nat.le_of_ble_eq_true rfl)) dX8_say_174 ⟨Nat.le_of_ble_eq_true rfl, Nat.le_of_ble_eq_true rfl⟩) hS (fun q _ h => hFc q h) hFc (fun r_19 u t H1 locs ht hvm hw_20 hB hz1 hk1 hS => ?_)
    obtain ⟨hP, hD, hK⟩ := Bq.join (wr := [(r0, .inl (cR, 4, .inr (.inr (.inr (.inr fR))))), (h0, .inr (10, [.ref t0, .ref r0, .ref m0, .ref x0, v4, v5, v6, v7, v8, .int 0, .int (-1), .int 0])), (m0, .inl (cM, 8, .inr (.inr (.inr (.inr (fun _ => none))))))]) hB ht hvm hP hD [0] [1, 2, 3] rfl rfl (by decide) (by decide) hk1 hFc hK
    generalize H1 = H at hP hS ⊢
    have hP : va_P (dC, dI) vwCl [(r0, .inl (cR, 4, .inr (.inr (.inr (.inr fR))))), (h0, .inr (10, [.ref t0, .ref r0, .ref m0, .ref x0, v4, v5, v6, v7, v8, .int 0, .int (-1), .int 0])), (m0, .inl (cM, 8, .inr (.inr (.inr (.inr (fun _ => none)))))), (t0, .inr (7, [.ref tb, .int 0]))] H := hP
    have hD : va_D A [(r0, .inl (cR, 4, .inr (.inr (.inr (.inr fR))))), (h0, .inr (10, [.ref t0, .ref r0, .ref m0, .ref x0, v4, v5, v6, v7, v8, .int 0, .int (-1), .int 0])), (m0, .inl (cM, 8, .inr (.inr (.inr (.inr (fun _ => none)))))), (t0, .inr (7, [.ref tb, .int 0]))] := hD
    have hK : va_K (dC, dI) vwCl [(cM, .object RX1), (cR, .object RX5)] s := hK
    try dsimp only at hw_20
    have k_21 := hw_20
    refine W_toi (y := 1) k_21 ?_
    refine lv_pop hx hb dX8_say_177 rfl ?_
    refine lv_iload hx hb dX8_say_178 (lv_at hl 0 rfl) ?_
    have hP9 := hP.sub (ws' := []) [] rfl
    have hD9 := hD.sub (ws' := []) [] (by decide) rfl
    have hK9 := hK.sub (tys' := []) [] rfl
    exact W.iret (v := (-1)) hx hb hr (fun t ht hW => ⟨⟨(-1), (), rfl, rfl, by rw [ht]; exact hP9, va_K.moved hW.alike hK9, hD9⟩, hS.F ht⟩) hS.2.2 dX8_say_180
def wp_X8_nest : List Cond := .code yX8_nest cX8_nest 10 (some .int) :: ([.methodLink RX8 128 yX8_recordOf, .instanceMethod yX8_recordOf, .selects RX8 yX8_recordOf yX8_recordOf, .initialized RX8, .fieldLink RX8 24 "RecordBench" "makes" "[LRecordBench$Make;", .methodLink RX8 136 yX8_makeOf, .static yX8_makeOf, .methodLink RX8 100 yX8_fieldOf, .instanceMethod yX8_fieldOf, .selects RX8 yX8_fieldOf yX8_fieldOf, .code yX8_recordOf cX8_recordOf 2 (some (.object "RecordBench$Row")), .fieldLink RX8 18 "RecordBench" "records" "[LRecordBench$Row;", .code yX8_makeOf cX8_makeOf 2 (some (.object "RecordBench$Make")), .code yX8_fieldOf cX8_fieldOf 4 (some (.object "RecordBench$Field"))] ++ wsX80)
set_option maxRecDepth 20000 in
theorem gp_X8_nest_X8_recordAny_128 : GoodIn wp_X8_nest (wsV RX8 128 RX8 yX8_recordOf wp_X8_recordAny) := goodIn_p _ [11] rfl (by decide +kernel)
set_option maxRecDepth 20000 in
theorem gp_X8_nest_X8_makeOf_136 : GoodIn wp_X8_nest (wsS RX8 136 yX8_makeOf wp_X8_makeOf) := goodIn_p _ [13] rfl (by decide +kernel)
set_option maxRecDepth 20000 in
theorem gp_X8_nest_X8_fieldOf_100 : GoodIn wp_X8_nest (wsV RX8 100 RX8 yX8_fieldOf wp_X8_fieldOf) := goodIn_p _ [14, 13] rfl (by decide +kernel)
set_option maxHeartbeats 4000000 in
set_option maxRecDepth 100000 in
theorem c_X8_nest (l : Launch) (dC : Nat → ClassId) (dI : Nat → Nat → Nat) (h0 : Nat) (t0 : Nat) (r0 : Nat) (m0 : Nat) (x0 : Nat) (v4 : Value) (v5 : Value) (v6 : Value) (v7 : Value) (v8 : Value) (cM : ClassId) (cR : ClassId) (fR : Nat → Option Nat) (p0 : Int32) (p1 : Int32) (p2 : Int32) (p3 : Int32) (sz : Nat) : Met l yX8_nest wp_X8_nest ({ frames := 2, cells := 0, slots := 0, locals := 52 }) (va_Pc [.ref h0, .int p0, .int p1, .int p2, .int p3] (Pr (dC, dI) [(cM, .object RX1), (cR, .object RX5)] [(h0, .inr (10, [.ref t0, .ref r0, .ref m0, .ref x0, v4, v5, v6, v7, v8, .int 0, .int ((-1)), .int 0])), (m0, .inl (cM, 8, .inr (.inr (.inr (.inr (fun _ => none)))))), (r0, .inl (cR, 4, .inr (.inr (.inr (.inr fR)))))] sz)) (va_Qi (fun r : Int32 => (fun _ : Unit => r = -1)) (Bq (dC, dI) (fun _ : Unit => []) (fun _ : Unit => []) (va_A [(h0, .inr (10, [.ref t0, .ref r0, .ref m0, .ref x0, v4, v5, v6, v7, v8, .int 0, .int ((-1)), .int 0])), (m0, .inl (cM, 8, .inr (.inr (.inr (.inr (fun _ => none)))))), (r0, .inl (cR, 4, .inr (.inr (.inr (.inr fR)))))] sz)) (va_A [(h0, .inr (10, [.ref t0, .ref r0, .ref m0, .ref x0, v4, v5, v6, v7, v8, .int 0, .int ((-1)), .int 0])), (m0, .inl (cM, 8, .inr (.inr (.inr (.inr (fun _ => none)))))), (r0, .inl (cR, 4, .inr (.inr (.inr (.inr fR)))))] sz)) 0 0 (va_A [(h0, .inr (10, [.ref t0, .ref r0, .ref m0, .ref x0, v4, v5, v6, v7, v8, .int 0, .int ((-1)), .int 0])), (m0, .inl (cM, 8, .inr (.inr (.inr (.inr (fun _ => none)))))), (r0, .inl (cR, 4, .inr (.inr (.inr (.inr fR)))))] sz) := by
  refine Met.ofW (cc := cX8_nest) (maxL := 10) (ret := (some .int)) (by decide) rfl ?_
  intro p e s m args below meth c s₁ B hml hv
  obtain ⟨rfl, hsz, hP, hK, hD0, hN, hZ⟩ := hv
  have hx := B.exec
  have hb := B.bytes
  have hr := B.returns
  have hts := atoms_spec (ws := wp_X8_nest) B.pre
  have hown : s.vm.findClass RX8 = some m.cls := findClass_of_methodNamed B.named
  have hlocks := B.notSynchronized
  have iRX8 : ∀ w ∈ u_ws RX8 TX8 12, w ∈ wp_X8_nest := by decide +kernel
  subst hsz
  have hD := hD0.self (sz := s.heap.size)
  generalize hAe : va_A [(h0, .inr (10, [.ref t0, .ref r0, .ref m0, .ref x0, v4, v5, v6, v7, v8, .int 0, .int ((-1)), .int 0])), (m0, .inl (cM, 8, .inr (.inr (.inr (.inr (fun _ => none)))))), (r0, .inl (cR, 4, .inr (.inr (.inr (.inr fR)))))] s.heap.size = A at hD hZ ⊢
  have hA : ∀ q : Nat, s.heap.size ≤ q → A q := fun q h => by rw [← hAe]; exact Or.inr h
  have hS : va_S A s.heap s.heap [] := va_S.rf
  have hP : va_P (dC, dI) vwCl [(h0, .inr (10, [.ref t0, .ref r0, .ref m0, .ref x0, v4, v5, v6, v7, v8, .int 0, .int ((-1)), .int 0])), (m0, .inl (cM, 8, .inr (.inr (.inr (.inr (fun _ => none)))))), (r0, .inl (cR, 4, .inr (.inr (.inr (.inr fR)))))] s.heap := hP
  have hl := lv_entry ([.ref h0, .int p0, .int p1, .int p2, .int p3]) (n := 10) (Nat.le_of_ble_eq_true rfl)
  rw [lg_entry_eq]
  generalize (lg_sl ([.ref h0, .int p0, .int p1, .int p2, .int p3]) ++ List.replicate (10 - (lg_sl ([.ref h0, .int p0, .int p1, .int p2, .int p3])).length) Slot.unset).toArray = ls at hl ⊢
  have hl : lv_has ls 10 [(0, .ref h0), (1, .int p0), (2, .int p1), (3, .int p2), (4, .int p3)] := hl
  refine lv_aload_n hx hb dX8_nest_0 rfl (lv_at hl 0 rfl) ?_
  refine lv_iload_n hx hb dX8_nest_1 rfl (lv_at hl 1 rfl) ?_
  have hFc := va_free (wc := [(h0, .inr (10, [.ref t0, .ref r0, .ref m0, .ref x0, v4, v5, v6, v7, v8, .int 0, .int ((-1)), .int 0])), (r0, .inl (cR, 4, .inr (.inr (.inr (.inr fR)))))]) hD hS hA [0, 2] rfl
  refine va_callq (va_runV (As := [.int p0]) (rest := []) ⟨hx, hb, hml, hown, hts⟩ (c_X8_recordAny l dC dI h0 t0 r0 m0 x0 (v4) (v5) (v6) (v7) (v8) cR fR p0 s.heap.size) (cwV 1 hts gp_X8_nest_X8_recordAny_128 rfl rfl rfl (by decide +kernel) ⟨Nat.le_of_ble_eq_true rfl, Nat.le_of_ble_eq_true rfl⟩) ⟨Pr.blind _, va_recv hK hP (ci := 10) (q0 := 0) rfl rfl, fun U hU hW => ⟨rfl, Pr.at (hP.sub (ws' := [(h0, .inr (10, [.ref t0, .ref r0, .ref m0, .ref x0, v4, v5, v6, v7, v8, .int 0, .int ((-1)), .int 0])), (r0, .inl (cR, 4, .inr (.inr (.inr (.inr fR)))))]) [0, 2] rfl) (hK.sub (tys' := [(cR, .object RX5)]) [1] rfl) (hD.sub (ws' := [(h0, .inr (10, [.ref t0, .ref r0, .ref m0, .ref x0, v4, v5, v6, v7, v8, .int 0, .int ((-1)), .int 0])), (r0, .inl (cR, 4, .inr (.inr (.inr (.inr fR)))))]) [0, 2] (by decide) rfl) hN hZ hS hFc hU hW⟩⟩ rfl rfl hl.1 rfl (lv_room (Nat.le_of_ble_eq_true rfl)) dX8_nest_2 ⟨Nat.le_of_ble_eq_true rfl, Nat.le_of_ble_eq_true rfl⟩) hS (fun q _ h => hFc q h) hFc (fun r_1 u t H1 locs ht hvm hw_2 hB hz1 hk1 hS => ?_)
  obtain ⟨hP, hD, hK⟩ := Bq.join (wr := [(m0, .inl (cM, 8, .inr (.inr (.inr (.inr (fun _ => none))))))]) hB ht hvm hP hD [0, 2] [1] rfl rfl (by decide) (by decide) hk1 hFc hK
  generalize H1 = H at hP hS ⊢
  have hP : va_P (dC, dI) vwCl [(m0, .inl (cM, 8, .inr (.inr (.inr (.inr (fun _ => none)))))), (h0, .inr (10, [.ref t0, .ref r0, .ref m0, .ref x0, v4, v5, v6, v7, v8, .int 0, .int (-1), .int 0])), (r0, .inl (cR, 4, .inr (.inr (.inr (.inr fR)))))] H := hP
  have hD : va_D A [(m0, .inl (cM, 8, .inr (.inr (.inr (.inr (fun _ => none)))))), (h0, .inr (10, [.ref t0, .ref r0, .ref m0, .ref x0, v4, v5, v6, v7, v8, .int 0, .int (-1), .int 0])), (r0, .inl (cR, 4, .inr (.inr (.inr (.inr fR)))))] := hD
  have hK : va_K (dC, dI) vwCl [(cM, .object RX1), (cR, .object RX5)] s := hK
  try dsimp only at hw_2
  rcases r_1 with _ | a_3
  · refine W.eq (g2 := F0 m 5 ls [.null]) rfl ?_
    refine lv_astoreN (lv' := [(5, .null), (0, .ref h0), (1, .int p0), (2, .int p1), (3, .int p2), (4, .int p3)]) hx hb dX8_nest_5 hl (by decide) rfl (fun ls hl => ?_)
    refine lv_aload_n hx hb dX8_nest_7 rfl (lv_at hl 1 rfl) ?_
    refine lv_iload hx hb dX8_nest_8 (lv_at hl 5 rfl) ?_
    have hFc := va_free (wc := [(h0, .inr (10, [.ref t0, .ref r0, .ref m0, .ref x0, v4, v5, v6, v7, v8, .int 0, .int (-1), .int 0])), (r0, .inl (cR, 4, .inr (.inr (.inr (.inr fR)))))]) hD hS hA [1, 2] rfl
    refine va_callq (va_runV (As := [.int p3]) (rest := []) ⟨hx, hb, hml, hown, hts⟩ (c_X8_recordAny l dC dI h0 t0 r0 m0 x0 (v4) (v5) (v6) (v7) (v8) cR fR p3 H.size) (cwV 1 hts gp_X8_nest_X8_recordAny_128 rfl rfl rfl (by decide +kernel) ⟨Nat.le_of_ble_eq_true rfl, Nat.le_of_ble_eq_true rfl⟩) ⟨Pr.blind _, va_recv hK hP (ci := 10) (q0 := 1) rfl rfl, fun U hU hW => ⟨rfl, Pr.at (hP.sub (ws' := [(h0, .inr (10, [.ref t0, .ref r0, .ref m0, .ref x0, v4, v5, v6, v7, v8, .int 0, .int (-1), .int 0])), (r0, .inl (cR, 4, .inr (.inr (.inr (.inr fR)))))]) [1, 2] rfl) (hK.sub (tys' := [(cR, .object RX5)]) [1] rfl) (hD.sub (ws' := [(h0, .inr (10, [.ref t0, .ref r0, .ref m0, .ref x0, v4, v5, v6, v7, v8, .int 0, .int (-1), .int 0])), (r0, .inl (cR, 4, .inr (.inr (.inr (.inr fR)))))]) [1, 2] (by decide) rfl) hN hZ hS hFc hU hW⟩⟩ rfl rfl hl.1 rfl (lv_room (Nat.le_of_ble_eq_true rfl)) dX8_nest_10 ⟨Nat.le_of_ble_eq_true rfl, Nat.le_of_ble_eq_true rfl⟩) hS (fun q _ h => hFc q h) hFc (fun r_4 u t H1 locs ht hvm hw_5 hB hz1 hk1 hS => ?_)
    obtain ⟨hP, hD, hK⟩ := Bq.join (wr := [(m0, .inl (cM, 8, .inr (.inr (.inr (.inr (fun _ => none))))))]) hB ht hvm hP hD [1, 2] [0] rfl rfl (by decide) (by decide) hk1 hFc hK
    generalize H1 = H at hP hS ⊢
    have hP : va_P (dC, dI) vwCl [(m0, .inl (cM, 8, .inr (.inr (.inr (.inr (fun _ => none)))))), (h0, .inr (10, [.ref t0, .ref r0, .ref m0, .ref x0, v4, v5, v6, v7, v8, .int 0, .int (-1), .int 0])), (r0, .inl (cR, 4, .inr (.inr (.inr (.inr fR)))))] H := hP
    have hD : va_D A [(m0, .inl (cM, 8, .inr (.inr (.inr (.inr (fun _ => none)))))), (h0, .inr (10, [.ref t0, .ref r0, .ref m0, .ref x0, v4, v5, v6, v7, v8, .int 0, .int (-1), .int 0])), (r0, .inl (cR, 4, .inr (.inr (.inr (.inr fR)))))] := hD
    have hK : va_K (dC, dI) vwCl [(cM, .object RX1), (cR, .object RX5)] s := hK
    try dsimp only at hw_5
    rcases r_4 with _ | a_6
    · refine W.eq (g2 := F0 m 13 ls [.null]) rfl ?_
      refine lv_astoreN (lv' := [(6, .null), (5, .null), (0, .ref h0), (1, .int p0), (2, .int p1), (3, .int p2), (4, .int p3)]) hx hb dX8_nest_13 hl (by decide) rfl (fun ls hl => ?_)
      refine lv_aload_n hx hb dX8_nest_15 rfl (lv_at hl 2 rfl) ?_
      refine va_get (D := (dC, dI)) (ci := 10) (v := .ref m0) (C := RX8) (T := TX8) (N := 12) hx hb hts iRX8 hown hK hP 1 rfl rfl 2 (by decide) (hts (.fieldLink RX8 24 "RecordBench" "makes" "[LRecordBench$Make;") (by decide +kernel)) (fun _ h9 => h9) rfl dX8_nest_16 ?_
      refine lv_iload_n hx hb dX8_nest_19 rfl (lv_at hl 4 rfl) ?_
      have hFc := va_free (wc := [(m0, .inl (cM, 8, .inr (.inr (.inr (.inr (fun _ => none))))))]) hD hS hA [0] rfl
      refine va_callq (va_runS (As := [.ref m0, .int p1]) (rest := []) ⟨hx, hb, hml, hown, hts⟩ (c_X8_makeOf l dC dI m0 p1 cM H.size) (cwS 2 hts gp_X8_nest_X8_makeOf_136 rfl rfl rfl (by decide +kernel) ⟨Nat.le_of_ble_eq_true rfl, Nat.le_of_ble_eq_true rfl⟩) ⟨Pr.blind _, fun U hU hW => ⟨rfl, Pr.at (hP.sub (ws' := [(m0, .inl (cM, 8, .inr (.inr (.inr (.inr (fun _ => none))))))]) [0] rfl) (hK.sub (tys' := [(cM, .object RX1)]) [0] rfl) (hD.sub (ws' := [(m0, .inl (cM, 8, .inr (.inr (.inr (.inr (fun _ => none))))))]) [0] (by decide) rfl) hN hZ hS hFc hU hW⟩⟩ rfl rfl hl.1 rfl (lv_room (Nat.le_of_ble_eq_true rfl)) dX8_nest_20 ⟨Nat.le_of_ble_eq_true rfl, Nat.le_of_ble_eq_true rfl⟩) hS (fun q _ h => hFc q h) hFc (fun r_7 u t H1 locs ht hvm hw_8 hB hz1 hk1 hS => ?_)
      obtain ⟨hP, hD, hK⟩ := Bq.join (wr := [(h0, .inr (10, [.ref t0, .ref r0, .ref m0, .ref x0, v4, v5, v6, v7, v8, .int 0, .int (-1), .int 0])), (r0, .inl (cR, 4, .inr (.inr (.inr (.inr fR)))))]) hB ht hvm hP hD [0] [1, 2] rfl rfl (by decide) (by decide) hk1 hFc hK
      generalize H1 = H at hP hS ⊢
      have hP : va_P (dC, dI) vwCl [(h0, .inr (10, [.ref t0, .ref r0, .ref m0, .ref x0, v4, v5, v6, v7, v8, .int 0, .int (-1), .int 0])), (r0, .inl (cR, 4, .inr (.inr (.inr (.inr fR))))), (m0, .inl (cM, 8, .inr (.inr (.inr (.inr (fun _ => none))))))] H := hP
      have hD : va_D A [(h0, .inr (10, [.ref t0, .ref r0, .ref m0, .ref x0, v4, v5, v6, v7, v8, .int 0, .int (-1), .int 0])), (r0, .inl (cR, 4, .inr (.inr (.inr (.inr fR))))), (m0, .inl (cM, 8, .inr (.inr (.inr (.inr (fun _ => none))))))] := hD
      have hK : va_K (dC, dI) vwCl [(cM, .object RX1), (cR, .object RX5)] s := hK
      try dsimp only at hw_8
      have k_9 := hw_8
      subst k_9
      refine W.eq (g2 := F0 m 23 ls [.null]) rfl ?_
      refine lv_astoreN (lv' := [(7, .null), (6, .null), (5, .null), (0, .ref h0), (1, .int p0), (2, .int p1), (3, .int p2), (4, .int p3)]) hx hb dX8_nest_23 hl (by decide) rfl (fun ls hl => ?_)
      refine lv_aload_n hx hb dX8_nest_25 rfl (lv_at hl 3 rfl) ?_
      refine lv_iload_n hx hb dX8_nest_26 rfl (lv_at hl 5 rfl) ?_
      refine lv_iload_n hx hb dX8_nest_27 rfl (lv_at hl 6 rfl) ?_
      have hFc := va_free (wc := [(h0, .inr (10, [.ref t0, .ref r0, .ref m0, .ref x0, v4, v5, v6, v7, v8, .int 0, .int (-1), .int 0])), (m0, .inl (cM, 8, .inr (.inr (.inr (.inr (fun _ => none))))))]) hD hS hA [0, 2] rfl
      refine va_callq (va_runV (As := [.int p1, .int p2]) (rest := []) ⟨hx, hb, hml, hown, hts⟩ (c_X8_fieldOf l dC dI h0 t0 r0 m0 x0 (v4) (v5) (v6) (v7) (v8) cM p1 p2 H.size) (cwV 2 hts gp_X8_nest_X8_fieldOf_100 rfl rfl rfl (by decide +kernel) ⟨Nat.le_of_ble_eq_true rfl, Nat.le_of_ble_eq_true rfl⟩) ⟨Pr.blind _, va_recv hK hP (ci := 10) (q0 := 0) rfl rfl, fun U hU hW => ⟨rfl, Pr.at (hP.sub (ws' := [(h0, .inr (10, [.ref t0, .ref r0, .ref m0, .ref x0, v4, v5, v6, v7, v8, .int 0, .int (-1), .int 0])), (m0, .inl (cM, 8, .inr (.inr (.inr (.inr (fun _ => none))))))]) [0, 2] rfl) (hK.sub (tys' := [(cM, .object RX1)]) [0] rfl) (hD.sub (ws' := [(h0, .inr (10, [.ref t0, .ref r0, .ref m0, .ref x0, v4, v5, v6, v7, v8, .int 0, .int (-1), .int 0])), (m0, .inl (cM, 8, .inr (.inr (.inr (.inr (fun _ => none))))))]) [0, 2] (by decide) rfl) hN hZ hS hFc hU hW⟩⟩ rfl rfl hl.1 rfl (lv_room (Nat.le_of_ble_eq_true rfl)) dX8_nest_28 ⟨Nat.le_of_ble_eq_true rfl, Nat.le_of_ble_eq_true rfl⟩) hS (fun q _ h => hFc q h) hFc (fun r_10 u t H1 locs ht hvm hw_11 hB hz1 hk1 hS => ?_)
      obtain ⟨hP, hD, hK⟩ := Bq.join (wr := [(r0, .inl (cR, 4, .inr (.inr (.inr (.inr fR)))))]) hB ht hvm hP hD [0, 2] [1] rfl rfl (by decide) (by decide) hk1 hFc hK
      generalize H1 = H at hP hS ⊢
      have hP : va_P (dC, dI) vwCl [(r0, .inl (cR, 4, .inr (.inr (.inr (.inr fR))))), (h0, .inr (10, [.ref t0, .ref r0, .ref m0, .ref x0, v4, v5, v6, v7, v8, .int 0, .int (-1), .int 0])), (m0, .inl (cM, 8, .inr (.inr (.inr (.inr (fun _ => none))))))] H := hP
      have hD : va_D A [(r0, .inl (cR, 4, .inr (.inr (.inr (.inr fR))))), (h0, .inr (10, [.ref t0, .ref r0, .ref m0, .ref x0, v4, v5, v6, v7, v8, .int 0, .int (-1), .int 0])), (m0, .inl (cM, 8, .inr (.inr (.inr (.inr (fun _ => none))))))] := hD
      have hK : va_K (dC, dI) vwCl [(cM, .object RX1), (cR, .object RX5)] s := hK
      try dsimp only at hw_11
      have k_12 := hw_11
      subst k_12
      refine W.eq (g2 := F0 m 31 ls [.null]) rfl ?_
      refine lv_astoreN (lv' := [(8, .null), (7, .null), (6, .null), (5, .null), (0, .ref h0), (1, .int p0), (2, .int p1), (3, .int p2), (4, .int p3)]) hx hb dX8_nest_31 hl (by decide) rfl (fun ls hl => ?_)
      refine lv_aloadN hx hb dX8_nest_33 (lv_at hl 3 rfl) ?_
      refine lv_ifnullN (tgt := 69) hx hb dX8_nest_35 (by decide) ?_
      refine lv_iconst (v := (-1)) hx hb dX8_nest_69 (by decide) ?_
      have hP9 := hP.sub (ws' := []) [] rfl
      have hD9 := hD.sub (ws' := []) [] (by decide) rfl
      have hK9 := hK.sub (tys' := []) [] rfl
      exact W.iret (v := (-1)) hx hb hr (fun t ht hW => ⟨⟨(-1), (), rfl, rfl, by rw [ht]; exact hP9, va_K.moved hW.alike hK9, hD9⟩, hS.F ht⟩) hS.2.2 dX8_nest_70
    · refine W.eq (g2 := F0 m 13 ls [.ref a_6]) rfl ?_
      refine lv_astore (lv' := [(6, .ref a_6), (5, .null), (0, .ref h0), (1, .int p0), (2, .int p1), (3, .int p2), (4, .int p3)]) hx hb dX8_nest_13 hl (by decide) rfl (fun ls hl => ?_)
      refine lv_aload_n hx hb dX8_nest_15 rfl (lv_at hl 2 rfl) ?_
      refine va_get (D := (dC, dI)) (ci := 10) (v := .ref m0) (C := RX8) (T := TX8) (N := 12) hx hb hts iRX8 hown hK hP 1 rfl rfl 2 (by decide) (hts (.fieldLink RX8 24 "RecordBench" "makes" "[LRecordBench$Make;") (by decide +kernel)) (fun _ h9 => h9) rfl dX8_nest_16 ?_
      refine lv_iload_n hx hb dX8_nest_19 rfl (lv_at hl 4 rfl) ?_
      have hFc := va_free (wc := [(m0, .inl (cM, 8, .inr (.inr (.inr (.inr (fun _ => none))))))]) hD hS hA [0] rfl
      refine va_callq (va_runS (As := [.ref m0, .int p1]) (rest := []) ⟨hx, hb, hml, hown, hts⟩ (c_X8_makeOf l dC dI m0 p1 cM H.size) (cwS 2 hts gp_X8_nest_X8_makeOf_136 rfl rfl rfl (by decide +kernel) ⟨Nat.le_of_ble_eq_true rfl, Nat.le_of_ble_eq_true rfl⟩) ⟨Pr.blind _, fun U hU hW => ⟨rfl, Pr.at (hP.sub (ws' := [(m0, .inl (cM, 8, .inr (.inr (.inr (.inr (fun _ => none))))))]) [0] rfl) (hK.sub (tys' := [(cM, .object RX1)]) [0] rfl) (hD.sub (ws' := [(m0, .inl (cM, 8, .inr (.inr (.inr (.inr (fun _ => none))))))]) [0] (by decide) rfl) hN hZ hS hFc hU hW⟩⟩ rfl rfl hl.1 rfl (lv_room (Nat.le_of_ble_eq_true rfl)) dX8_nest_20 ⟨Nat.le_of_ble_eq_true rfl, Nat.le_of_ble_eq_true rfl⟩) hS (fun q _ h => hFc q h) hFc (fun r_13 u t H1 locs ht hvm hw_14 hB hz1 hk1 hS => ?_)
      obtain ⟨hP, hD, hK⟩ := Bq.join (wr := [(h0, .inr (10, [.ref t0, .ref r0, .ref m0, .ref x0, v4, v5, v6, v7, v8, .int 0, .int (-1), .int 0])), (r0, .inl (cR, 4, .inr (.inr (.inr (.inr fR)))))]) hB ht hvm hP hD [0] [1, 2] rfl rfl (by decide) (by decide) hk1 hFc hK
      generalize H1 = H at hP hS ⊢
      have hP : va_P (dC, dI) vwCl [(h0, .inr (10, [.ref t0, .ref r0, .ref m0, .ref x0, v4, v5, v6, v7, v8, .int 0, .int (-1), .int 0])), (r0, .inl (cR, 4, .inr (.inr (.inr (.inr fR))))), (m0, .inl (cM, 8, .inr (.inr (.inr (.inr (fun _ => none))))))] H := hP
      have hD : va_D A [(h0, .inr (10, [.ref t0, .ref r0, .ref m0, .ref x0, v4, v5, v6, v7, v8, .int 0, .int (-1), .int 0])), (r0, .inl (cR, 4, .inr (.inr (.inr (.inr fR))))), (m0, .inl (cM, 8, .inr (.inr (.inr (.inr (fun _ => none))))))] := hD
      have hK : va_K (dC, dI) vwCl [(cM, .object RX1), (cR, .object RX5)] s := hK
      try dsimp only at hw_14
      have k_15 := hw_14
      subst k_15
      refine W.eq (g2 := F0 m 23 ls [.null]) rfl ?_
      refine lv_astoreN (lv' := [(7, .null), (6, .ref a_6), (5, .null), (0, .ref h0), (1, .int p0), (2, .int p1), (3, .int p2), (4, .int p3)]) hx hb dX8_nest_23 hl (by decide) rfl (fun ls hl => ?_)
      refine lv_aload_n hx hb dX8_nest_25 rfl (lv_at hl 3 rfl) ?_
      refine lv_iload_n hx hb dX8_nest_26 rfl (lv_at hl 5 rfl) ?_
      refine lv_iload_n hx hb dX8_nest_27 rfl (lv_at hl 6 rfl) ?_
      have hFc := va_free (wc := [(h0, .inr (10, [.ref t0, .ref r0, .ref m0, .ref x0, v4, v5, v6, v7, v8, .int 0, .int (-1), .int 0])), (m0, .inl (cM, 8, .inr (.inr (.inr (.inr (fun _ => none))))))]) hD hS hA [0, 2] rfl
      refine va_callq (va_runV (As := [.int p1, .int p2]) (rest := []) ⟨hx, hb, hml, hown, hts⟩ (c_X8_fieldOf l dC dI h0 t0 r0 m0 x0 (v4) (v5) (v6) (v7) (v8) cM p1 p2 H.size) (cwV 2 hts gp_X8_nest_X8_fieldOf_100 rfl rfl rfl (by decide +kernel) ⟨Nat.le_of_ble_eq_true rfl, Nat.le_of_ble_eq_true rfl⟩) ⟨Pr.blind _, va_recv hK hP (ci := 10) (q0 := 0) rfl rfl, fun U hU hW => ⟨rfl, Pr.at (hP.sub (ws' := [(h0, .inr (10, [.ref t0, .ref r0, .ref m0, .ref x0, v4, v5, v6, v7, v8, .int 0, .int (-1), .int 0])), (m0, .inl (cM, 8, .inr (.inr (.inr (.inr (fun _ => none))))))]) [0, 2] rfl) (hK.sub (tys' := [(cM, .object RX1)]) [0] rfl) (hD.sub (ws' := [(h0, .inr (10, [.ref t0, .ref r0, .ref m0, .ref x0, v4, v5, v6, v7, v8, .int 0, .int (-1), .int 0])), (m0, .inl (cM, 8, .inr (.inr (.inr (.inr (fun _ => none))))))]) [0, 2] (by decide) rfl) hN hZ hS hFc hU hW⟩⟩ rfl rfl hl.1 rfl (lv_room (Nat.le_of_ble_eq_true rfl)) dX8_nest_28 ⟨Nat.le_of_ble_eq_true rfl, Nat.le_of_ble_eq_true rfl⟩) hS (fun q _ h => hFc q h) hFc (fun r_16 u t H1 locs ht hvm hw_17 hB hz1 hk1 hS => ?_)
      obtain ⟨hP, hD, hK⟩ := Bq.join (wr := [(r0, .inl (cR, 4, .inr (.inr (.inr (.inr fR)))))]) hB ht hvm hP hD [0, 2] [1] rfl rfl (by decide) (by decide) hk1 hFc hK
      generalize H1 = H at hP hS ⊢
      have hP : va_P (dC, dI) vwCl [(r0, .inl (cR, 4, .inr (.inr (.inr (.inr fR))))), (h0, .inr (10, [.ref t0, .ref r0, .ref m0, .ref x0, v4, v5, v6, v7, v8, .int 0, .int (-1), .int 0])), (m0, .inl (cM, 8, .inr (.inr (.inr (.inr (fun _ => none))))))] H := hP
      have hD : va_D A [(r0, .inl (cR, 4, .inr (.inr (.inr (.inr fR))))), (h0, .inr (10, [.ref t0, .ref r0, .ref m0, .ref x0, v4, v5, v6, v7, v8, .int 0, .int (-1), .int 0])), (m0, .inl (cM, 8, .inr (.inr (.inr (.inr (fun _ => none))))))] := hD
      have hK : va_K (dC, dI) vwCl [(cM, .object RX1), (cR, .object RX5)] s := hK
      try dsimp only at hw_17
      have k_18 := hw_17
      subst k_18
      refine W.eq (g2 := F0 m 31 ls [.null]) rfl ?_
      refine lv_astoreN (lv' := [(8, .null), (7, .null), (6, .ref a_6), (5, .null), (0, .ref h0), (1, .int p0), (2, .int p1), (3, .int p2), (4, .int p3)]) hx hb dX8_nest_31 hl (by decide) rfl (fun ls hl => ?_)
      refine lv_aloadN hx hb dX8_nest_33 (lv_at hl 3 rfl) ?_
      refine lv_ifnullN (tgt := 69) hx hb dX8_nest_35 (by decide) ?_
      refine lv_iconst (v := (-1)) hx hb dX8_nest_69 (by decide) ?_
      have hP9 := hP.sub (ws' := []) [] rfl
      have hD9 := hD.sub (ws' := []) [] (by decide) rfl
      have hK9 := hK.sub (tys' := []) [] rfl
      exact W.iret (v := (-1)) hx hb hr (fun t ht hW => ⟨⟨(-1), (), rfl, rfl, by rw [ht]; exact hP9, va_K.moved hW.alike hK9, hD9⟩, hS.F ht⟩) hS.2.2 dX8_nest_70
  · refine W.eq (g2 := F0 m 5 ls [.ref a_3]) rfl ?_
    refine lv_astore (lv' := [(5, .ref a_3), (0, .ref h0), (1, .int p0), (2, .int p1), (3, .int p2), (4, .int p3)]) hx hb dX8_nest_5 hl (by decide) rfl (fun ls hl => ?_)
    refine lv_aload_n hx hb dX8_nest_7 rfl (lv_at hl 1 rfl) ?_
    refine lv_iload hx hb dX8_nest_8 (lv_at hl 5 rfl) ?_
    have hFc := va_free (wc := [(h0, .inr (10, [.ref t0, .ref r0, .ref m0, .ref x0, v4, v5, v6, v7, v8, .int 0, .int (-1), .int 0])), (r0, .inl (cR, 4, .inr (.inr (.inr (.inr fR)))))]) hD hS hA [1, 2] rfl
    refine va_callq (va_runV (As := [.int p3]) (rest := []) ⟨hx, hb, hml, hown, hts⟩ (c_X8_recordAny l dC dI h0 t0 r0 m0 x0 (v4) (v5) (v6) (v7) (v8) cR fR p3 H.size) (cwV 1 hts gp_X8_nest_X8_recordAny_128 rfl rfl rfl (by decide +kernel) ⟨Nat.le_of_ble_eq_true rfl, Nat.le_of_ble_eq_true rfl⟩) ⟨Pr.blind _, va_recv hK hP (ci := 10) (q0 := 1) rfl rfl, fun U hU hW => ⟨rfl, Pr.at (hP.sub (ws' := [(h0, .inr (10, [.ref t0, .ref r0, .ref m0, .ref x0, v4, v5, v6, v7, v8, .int 0, .int (-1), .int 0])), (r0, .inl (cR, 4, .inr (.inr (.inr (.inr fR)))))]) [1, 2] rfl) (hK.sub (tys' := [(cR, .object RX5)]) [1] rfl) (hD.sub (ws' := [(h0, .inr (10, [.ref t0, .ref r0, .ref m0, .ref x0, v4, v5, v6, v7, v8, .int 0, .int (-1), .int 0])), (r0, .inl (cR, 4, .inr (.inr (.inr (.inr fR)))))]) [1, 2] (by decide) rfl) hN hZ hS hFc hU hW⟩⟩ rfl rfl hl.1 rfl (lv_room (Nat.le_of_ble_eq_true rfl)) dX8_nest_10 ⟨Nat.le_of_ble_eq_true rfl, Nat.le_of_ble_eq_true rfl⟩) hS (fun q _ h => hFc q h) hFc (fun r_19 u t H1 locs ht hvm hw_20 hB hz1 hk1 hS => ?_)
    obtain ⟨hP, hD, hK⟩ := Bq.join (wr := [(m0, .inl (cM, 8, .inr (.inr (.inr (.inr (fun _ => none))))))]) hB ht hvm hP hD [1, 2] [0] rfl rfl (by decide) (by decide) hk1 hFc hK
    generalize H1 = H at hP hS ⊢
    have hP : va_P (dC, dI) vwCl [(m0, .inl (cM, 8, .inr (.inr (.inr (.inr (fun _ => none)))))), (h0, .inr (10, [.ref t0, .ref r0, .ref m0, .ref x0, v4, v5, v6, v7, v8, .int 0, .int (-1), .int 0])), (r0, .inl (cR, 4, .inr (.inr (.inr (.inr fR)))))] H := hP
    have hD : va_D A [(m0, .inl (cM, 8, .inr (.inr (.inr (.inr (fun _ => none)))))), (h0, .inr (10, [.ref t0, .ref r0, .ref m0, .ref x0, v4, v5, v6, v7, v8, .int 0, .int (-1), .int 0])), (r0, .inl (cR, 4, .inr (.inr (.inr (.inr fR)))))] := hD
    have hK : va_K (dC, dI) vwCl [(cM, .object RX1), (cR, .object RX5)] s := hK
    try dsimp only at hw_20
    rcases r_19 with _ | a_21
    · refine W.eq (g2 := F0 m 13 ls [.null]) rfl ?_
      refine lv_astoreN (lv' := [(6, .null), (5, .ref a_3), (0, .ref h0), (1, .int p0), (2, .int p1), (3, .int p2), (4, .int p3)]) hx hb dX8_nest_13 hl (by decide) rfl (fun ls hl => ?_)
      refine lv_aload_n hx hb dX8_nest_15 rfl (lv_at hl 2 rfl) ?_
      refine va_get (D := (dC, dI)) (ci := 10) (v := .ref m0) (C := RX8) (T := TX8) (N := 12) hx hb hts iRX8 hown hK hP 1 rfl rfl 2 (by decide) (hts (.fieldLink RX8 24 "RecordBench" "makes" "[LRecordBench$Make;") (by decide +kernel)) (fun _ h9 => h9) rfl dX8_nest_16 ?_
      refine lv_iload_n hx hb dX8_nest_19 rfl (lv_at hl 4 rfl) ?_
      have hFc := va_free (wc := [(m0, .inl (cM, 8, .inr (.inr (.inr (.inr (fun _ => none))))))]) hD hS hA [0] rfl
      refine va_callq (va_runS (As := [.ref m0, .int p1]) (rest := []) ⟨hx, hb, hml, hown, hts⟩ (c_X8_makeOf l dC dI m0 p1 cM H.size) (cwS 2 hts gp_X8_nest_X8_makeOf_136 rfl rfl rfl (by decide +kernel) ⟨Nat.le_of_ble_eq_true rfl, Nat.le_of_ble_eq_true rfl⟩) ⟨Pr.blind _, fun U hU hW => ⟨rfl, Pr.at (hP.sub (ws' := [(m0, .inl (cM, 8, .inr (.inr (.inr (.inr (fun _ => none))))))]) [0] rfl) (hK.sub (tys' := [(cM, .object RX1)]) [0] rfl) (hD.sub (ws' := [(m0, .inl (cM, 8, .inr (.inr (.inr (.inr (fun _ => none))))))]) [0] (by decide) rfl) hN hZ hS hFc hU hW⟩⟩ rfl rfl hl.1 rfl (lv_room (Nat.le_of_ble_eq_true rfl)) dX8_nest_20 ⟨Nat.le_of_ble_eq_true rfl, Nat.le_of_ble_eq_true rfl⟩) hS (fun q _ h => hFc q h) hFc (fun r_22 u t H1 locs ht hvm hw_23 hB hz1 hk1 hS => ?_)
      obtain ⟨hP, hD, hK⟩ := Bq.join (wr := [(h0, .inr (10, [.ref t0, .ref r0, .ref m0, .ref x0, v4, v5, v6, v7, v8, .int 0, .int (-1), .int 0])), (r0, .inl (cR, 4, .inr (.inr (.inr (.inr fR)))))]) hB ht hvm hP hD [0] [1, 2] rfl rfl (by decide) (by decide) hk1 hFc hK
      generalize H1 = H at hP hS ⊢
      have hP : va_P (dC, dI) vwCl [(h0, .inr (10, [.ref t0, .ref r0, .ref m0, .ref x0, v4, v5, v6, v7, v8, .int 0, .int (-1), .int 0])), (r0, .inl (cR, 4, .inr (.inr (.inr (.inr fR))))), (m0, .inl (cM, 8, .inr (.inr (.inr (.inr (fun _ => none))))))] H := hP
      have hD : va_D A [(h0, .inr (10, [.ref t0, .ref r0, .ref m0, .ref x0, v4, v5, v6, v7, v8, .int 0, .int (-1), .int 0])), (r0, .inl (cR, 4, .inr (.inr (.inr (.inr fR))))), (m0, .inl (cM, 8, .inr (.inr (.inr (.inr (fun _ => none))))))] := hD
      have hK : va_K (dC, dI) vwCl [(cM, .object RX1), (cR, .object RX5)] s := hK
      try dsimp only at hw_23
      have k_24 := hw_23
      subst k_24
      refine W.eq (g2 := F0 m 23 ls [.null]) rfl ?_
      refine lv_astoreN (lv' := [(7, .null), (6, .null), (5, .ref a_3), (0, .ref h0), (1, .int p0), (2, .int p1), (3, .int p2), (4, .int p3)]) hx hb dX8_nest_23 hl (by decide) rfl (fun ls hl => ?_)
      refine lv_aload_n hx hb dX8_nest_25 rfl (lv_at hl 3 rfl) ?_
      refine lv_iload_n hx hb dX8_nest_26 rfl (lv_at hl 5 rfl) ?_
      refine lv_iload_n hx hb dX8_nest_27 rfl (lv_at hl 6 rfl) ?_
      have hFc := va_free (wc := [(h0, .inr (10, [.ref t0, .ref r0, .ref m0, .ref x0, v4, v5, v6, v7, v8, .int 0, .int (-1), .int 0])), (m0, .inl (cM, 8, .inr (.inr (.inr (.inr (fun _ => none))))))]) hD hS hA [0, 2] rfl
      refine va_callq (va_runV (As := [.int p1, .int p2]) (rest := []) ⟨hx, hb, hml, hown, hts⟩ (c_X8_fieldOf l dC dI h0 t0 r0 m0 x0 (v4) (v5) (v6) (v7) (v8) cM p1 p2 H.size) (cwV 2 hts gp_X8_nest_X8_fieldOf_100 rfl rfl rfl (by decide +kernel) ⟨Nat.le_of_ble_eq_true rfl, Nat.le_of_ble_eq_true rfl⟩) ⟨Pr.blind _, va_recv hK hP (ci := 10) (q0 := 0) rfl rfl, fun U hU hW => ⟨rfl, Pr.at (hP.sub (ws' := [(h0, .inr (10, [.ref t0, .ref r0, .ref m0, .ref x0, v4, v5, v6, v7, v8, .int 0, .int (-1), .int 0])), (m0, .inl (cM, 8, .inr (.inr (.inr (.inr (fun _ => none))))))]) [0, 2] rfl) (hK.sub (tys' := [(cM, .object RX1)]) [0] rfl) (hD.sub (ws' := [(h0, .inr (10, [.ref t0, .ref r0, .ref m0, .ref x0, v4, v5, v6, v7, v8, .int 0, .int (-1), .int 0])), (m0, .inl (cM, 8, .inr (.inr (.inr (.inr (fun _ => none))))))]) [0, 2] (by decide) rfl) hN hZ hS hFc hU hW⟩⟩ rfl rfl hl.1 rfl (lv_room (Nat.le_of_ble_eq_true rfl)) dX8_nest_28 ⟨Nat.le_of_ble_eq_true rfl, Nat.le_of_ble_eq_true rfl⟩) hS (fun q _ h => hFc q h) hFc (fun r_25 u t H1 locs ht hvm hw_26 hB hz1 hk1 hS => ?_)
      obtain ⟨hP, hD, hK⟩ := Bq.join (wr := [(r0, .inl (cR, 4, .inr (.inr (.inr (.inr fR)))))]) hB ht hvm hP hD [0, 2] [1] rfl rfl (by decide) (by decide) hk1 hFc hK
      generalize H1 = H at hP hS ⊢
      have hP : va_P (dC, dI) vwCl [(r0, .inl (cR, 4, .inr (.inr (.inr (.inr fR))))), (h0, .inr (10, [.ref t0, .ref r0, .ref m0, .ref x0, v4, v5, v6, v7, v8, .int 0, .int (-1), .int 0])), (m0, .inl (cM, 8, .inr (.inr (.inr (.inr (fun _ => none))))))] H := hP
      have hD : va_D A [(r0, .inl (cR, 4, .inr (.inr (.inr (.inr fR))))), (h0, .inr (10, [.ref t0, .ref r0, .ref m0, .ref x0, v4, v5, v6, v7, v8, .int 0, .int (-1), .int 0])), (m0, .inl (cM, 8, .inr (.inr (.inr (.inr (fun _ => none))))))] := hD
      have hK : va_K (dC, dI) vwCl [(cM, .object RX1), (cR, .object RX5)] s := hK
      try dsimp only at hw_26
      have k_27 := hw_26
      subst k_27
      refine W.eq (g2 := F0 m 31 ls [.null]) rfl ?_
      refine lv_astoreN (lv' := [(8, .null), (7, .null), (6, .null), (5, .ref a_3), (0, .ref h0), (1, .int p0), (2, .int p1), (3, .int p2), (4, .int p3)]) hx hb dX8_nest_31 hl (by decide) rfl (fun ls hl => ?_)
      refine lv_aload hx hb dX8_nest_33 (lv_at hl 3 rfl) ?_
      refine lv_ifnull hx hb dX8_nest_35 ?_
      refine lv_aloadN hx hb dX8_nest_38 (lv_at hl 2 rfl) ?_
      refine lv_ifnullN (tgt := 69) hx hb dX8_nest_40 (by decide) ?_
      refine lv_iconst (v := (-1)) hx hb dX8_nest_69 (by decide) ?_
      have hP9 := hP.sub (ws' := []) [] rfl
      have hD9 := hD.sub (ws' := []) [] (by decide) rfl
      have hK9 := hK.sub (tys' := []) [] rfl
      exact W.iret (v := (-1)) hx hb hr (fun t ht hW => ⟨⟨(-1), (), rfl, rfl, by rw [ht]; exact hP9, va_K.moved hW.alike hK9, hD9⟩, hS.F ht⟩) hS.2.2 dX8_nest_70
    · refine W.eq (g2 := F0 m 13 ls [.ref a_21]) rfl ?_
      refine lv_astore (lv' := [(6, .ref a_21), (5, .ref a_3), (0, .ref h0), (1, .int p0), (2, .int p1), (3, .int p2), (4, .int p3)]) hx hb dX8_nest_13 hl (by decide) rfl (fun ls hl => ?_)
      refine lv_aload_n hx hb dX8_nest_15 rfl (lv_at hl 2 rfl) ?_
      refine va_get (D := (dC, dI)) (ci := 10) (v := .ref m0) (C := RX8) (T := TX8) (N := 12) hx hb hts iRX8 hown hK hP 1 rfl rfl 2 (by decide) (hts (.fieldLink RX8 24 "RecordBench" "makes" "[LRecordBench$Make;") (by decide +kernel)) (fun _ h9 => h9) rfl dX8_nest_16 ?_
      refine lv_iload_n hx hb dX8_nest_19 rfl (lv_at hl 4 rfl) ?_
      have hFc := va_free (wc := [(m0, .inl (cM, 8, .inr (.inr (.inr (.inr (fun _ => none))))))]) hD hS hA [0] rfl
      refine va_callq (va_runS (As := [.ref m0, .int p1]) (rest := []) ⟨hx, hb, hml, hown, hts⟩ (c_X8_makeOf l dC dI m0 p1 cM H.size) (cwS 2 hts gp_X8_nest_X8_makeOf_136 rfl rfl rfl (by decide +kernel) ⟨Nat.le_of_ble_eq_true rfl, Nat.le_of_ble_eq_true rfl⟩) ⟨Pr.blind _, fun U hU hW => ⟨rfl, Pr.at (hP.sub (ws' := [(m0, .inl (cM, 8, .inr (.inr (.inr (.inr (fun _ => none))))))]) [0] rfl) (hK.sub (tys' := [(cM, .object RX1)]) [0] rfl) (hD.sub (ws' := [(m0, .inl (cM, 8, .inr (.inr (.inr (.inr (fun _ => none))))))]) [0] (by decide) rfl) hN hZ hS hFc hU hW⟩⟩ rfl rfl hl.1 rfl (lv_room (Nat.le_of_ble_eq_true rfl)) dX8_nest_20 ⟨Nat.le_of_ble_eq_true rfl, Nat.le_of_ble_eq_true rfl⟩) hS (fun q _ h => hFc q h) hFc (fun r_28 u t H1 locs ht hvm hw_29 hB hz1 hk1 hS => ?_)
      obtain ⟨hP, hD, hK⟩ := Bq.join (wr := [(h0, .inr (10, [.ref t0, .ref r0, .ref m0, .ref x0, v4, v5, v6, v7, v8, .int 0, .int (-1), .int 0])), (r0, .inl (cR, 4, .inr (.inr (.inr (.inr fR)))))]) hB ht hvm hP hD [0] [1, 2] rfl rfl (by decide) (by decide) hk1 hFc hK
      generalize H1 = H at hP hS ⊢
      have hP : va_P (dC, dI) vwCl [(h0, .inr (10, [.ref t0, .ref r0, .ref m0, .ref x0, v4, v5, v6, v7, v8, .int 0, .int (-1), .int 0])), (r0, .inl (cR, 4, .inr (.inr (.inr (.inr fR))))), (m0, .inl (cM, 8, .inr (.inr (.inr (.inr (fun _ => none))))))] H := hP
      have hD : va_D A [(h0, .inr (10, [.ref t0, .ref r0, .ref m0, .ref x0, v4, v5, v6, v7, v8, .int 0, .int (-1), .int 0])), (r0, .inl (cR, 4, .inr (.inr (.inr (.inr fR))))), (m0, .inl (cM, 8, .inr (.inr (.inr (.inr (fun _ => none))))))] := hD
      have hK : va_K (dC, dI) vwCl [(cM, .object RX1), (cR, .object RX5)] s := hK
      try dsimp only at hw_29
      have k_30 := hw_29
      subst k_30
      refine W.eq (g2 := F0 m 23 ls [.null]) rfl ?_
      refine lv_astoreN (lv' := [(7, .null), (6, .ref a_21), (5, .ref a_3), (0, .ref h0), (1, .int p0), (2, .int p1), (3, .int p2), (4, .int p3)]) hx hb dX8_nest_23 hl (by decide) rfl (fun ls hl => ?_)
      refine lv_aload_n hx hb dX8_nest_25 rfl (lv_at hl 3 rfl) ?_
      refine lv_iload_n hx hb dX8_nest_26 rfl (lv_at hl 5 rfl) ?_
      refine lv_iload_n hx hb dX8_nest_27 rfl (lv_at hl 6 rfl) ?_
      have hFc := va_free (wc := [(h0, .inr (10, [.ref t0, .ref r0, .ref m0, .ref x0, v4, v5, v6, v7, v8, .int 0, .int (-1), .int 0])), (m0, .inl (cM, 8, .inr (.inr (.inr (.inr (fun _ => none))))))]) hD hS hA [0, 2] rfl
      refine va_callq (va_runV (As := [.int p1, .int p2]) (rest := []) ⟨hx, hb, hml, hown, hts⟩ (c_X8_fieldOf l dC dI h0 t0 r0 m0 x0 (v4) (v5) (v6) (v7) (v8) cM p1 p2 H.size) (cwV 2 hts gp_X8_nest_X8_fieldOf_100 rfl rfl rfl (by decide +kernel) ⟨Nat.le_of_ble_eq_true rfl, Nat.le_of_ble_eq_true rfl⟩) ⟨Pr.blind _, va_recv hK hP (ci := 10) (q0 := 0) rfl rfl, fun U hU hW => ⟨rfl, Pr.at (hP.sub (ws' := [(h0, .inr (10, [.ref t0, .ref r0, .ref m0, .ref x0, v4, v5, v6, v7, v8, .int 0, .int (-1), .int 0])), (m0, .inl (cM, 8, .inr (.inr (.inr (.inr (fun _ => none))))))]) [0, 2] rfl) (hK.sub (tys' := [(cM, .object RX1)]) [0] rfl) (hD.sub (ws' := [(h0, .inr (10, [.ref t0, .ref r0, .ref m0, .ref x0, v4, v5, v6, v7, v8, .int 0, .int (-1), .int 0])), (m0, .inl (cM, 8, .inr (.inr (.inr (.inr (fun _ => none))))))]) [0, 2] (by decide) rfl) hN hZ hS hFc hU hW⟩⟩ rfl rfl hl.1 rfl (lv_room (Nat.le_of_ble_eq_true rfl)) dX8_nest_28 ⟨Nat.le_of_ble_eq_true rfl, Nat.le_of_ble_eq_true rfl⟩) hS (fun q _ h => hFc q h) hFc (fun r_31 u t H1 locs ht hvm hw_32 hB hz1 hk1 hS => ?_)
      obtain ⟨hP, hD, hK⟩ := Bq.join (wr := [(r0, .inl (cR, 4, .inr (.inr (.inr (.inr fR)))))]) hB ht hvm hP hD [0, 2] [1] rfl rfl (by decide) (by decide) hk1 hFc hK
      generalize H1 = H at hP hS ⊢
      have hP : va_P (dC, dI) vwCl [(r0, .inl (cR, 4, .inr (.inr (.inr (.inr fR))))), (h0, .inr (10, [.ref t0, .ref r0, .ref m0, .ref x0, v4, v5, v6, v7, v8, .int 0, .int (-1), .int 0])), (m0, .inl (cM, 8, .inr (.inr (.inr (.inr (fun _ => none))))))] H := hP
      have hD : va_D A [(r0, .inl (cR, 4, .inr (.inr (.inr (.inr fR))))), (h0, .inr (10, [.ref t0, .ref r0, .ref m0, .ref x0, v4, v5, v6, v7, v8, .int 0, .int (-1), .int 0])), (m0, .inl (cM, 8, .inr (.inr (.inr (.inr (fun _ => none))))))] := hD
      have hK : va_K (dC, dI) vwCl [(cM, .object RX1), (cR, .object RX5)] s := hK
      try dsimp only at hw_32
      have k_33 := hw_32
      subst k_33
      refine W.eq (g2 := F0 m 31 ls [.null]) rfl ?_
      refine lv_astoreN (lv' := [(8, .null), (7, .null), (6, .ref a_21), (5, .ref a_3), (0, .ref h0), (1, .int p0), (2, .int p1), (3, .int p2), (4, .int p3)]) hx hb dX8_nest_31 hl (by decide) rfl (fun ls hl => ?_)
      refine lv_aload hx hb dX8_nest_33 (lv_at hl 3 rfl) ?_
      refine lv_ifnull hx hb dX8_nest_35 ?_
      refine lv_aload hx hb dX8_nest_38 (lv_at hl 2 rfl) ?_
      refine lv_ifnull hx hb dX8_nest_40 ?_
      refine lv_aloadN hx hb dX8_nest_43 (lv_at hl 1 rfl) ?_
      refine lv_ifnullN (tgt := 69) hx hb dX8_nest_45 (by decide) ?_
      refine lv_iconst (v := (-1)) hx hb dX8_nest_69 (by decide) ?_
      have hP9 := hP.sub (ws' := []) [] rfl
      have hD9 := hD.sub (ws' := []) [] (by decide) rfl
      have hK9 := hK.sub (tys' := []) [] rfl
      exact W.iret (v := (-1)) hx hb hr (fun t ht hW => ⟨⟨(-1), (), rfl, rfl, by rw [ht]; exact hP9, va_K.moved hW.alike hK9, hD9⟩, hS.F ht⟩) hS.2.2 dX8_nest_70
def wp_X8_drop : List Cond := .code yX8_drop cX8_drop 7 (some .int) :: ([.methodLink RX8 128 yX8_recordOf, .instanceMethod yX8_recordOf, .selects RX8 yX8_recordOf yX8_recordOf, .initialized RX8, .fieldLink RX8 24 "RecordBench" "makes" "[LRecordBench$Make;", .methodLink RX8 136 yX8_makeOf, .static yX8_makeOf, .methodLink RX8 100 yX8_fieldOf, .instanceMethod yX8_fieldOf, .selects RX8 yX8_fieldOf yX8_fieldOf, .code yX8_recordOf cX8_recordOf 2 (some (.object "RecordBench$Row")), .fieldLink RX8 18 "RecordBench" "records" "[LRecordBench$Row;", .code yX8_makeOf cX8_makeOf 2 (some (.object "RecordBench$Make")), .code yX8_fieldOf cX8_fieldOf 4 (some (.object "RecordBench$Field"))] ++ wsX80)
set_option maxRecDepth 20000 in
theorem gp_X8_drop_X8_recordAny_128 : GoodIn wp_X8_drop (wsV RX8 128 RX8 yX8_recordOf wp_X8_recordAny) := goodIn_p _ [11] rfl (by decide +kernel)
set_option maxRecDepth 20000 in
theorem gp_X8_drop_X8_makeOf_136 : GoodIn wp_X8_drop (wsS RX8 136 yX8_makeOf wp_X8_makeOf) := goodIn_p _ [13] rfl (by decide +kernel)
set_option maxRecDepth 20000 in
theorem gp_X8_drop_X8_fieldOf_100 : GoodIn wp_X8_drop (wsV RX8 100 RX8 yX8_fieldOf wp_X8_fieldOf) := goodIn_p _ [14, 13] rfl (by decide +kernel)
set_option maxHeartbeats 4000000 in
set_option maxRecDepth 100000 in
theorem c_X8_drop (l : Launch) (dC : Nat → ClassId) (dI : Nat → Nat → Nat) (h0 : Nat) (t0 : Nat) (r0 : Nat) (m0 : Nat) (x0 : Nat) (v4 : Value) (v5 : Value) (v6 : Value) (v7 : Value) (v8 : Value) (cM : ClassId) (cR : ClassId) (fR : Nat → Option Nat) (p0 : Int32) (p1 : Int32) (p2 : Int32) (sz : Nat) : Met l yX8_drop wp_X8_drop ({ frames := 2, cells := 0, slots := 0, locals := 52 }) (va_Pc [.ref h0, .int p0, .int p1, .int p2] (Pr (dC, dI) [(cM, .object RX1), (cR, .object RX5)] [(h0, .inr (10, [.ref t0, .ref r0, .ref m0, .ref x0, v4, v5, v6, v7, v8, .int 0, .int ((-1)), .int 0])), (m0, .inl (cM, 8, .inr (.inr (.inr (.inr (fun _ => none)))))), (r0, .inl (cR, 4, .inr (.inr (.inr (.inr fR)))))] sz)) (va_Qi (fun r : Int32 => (fun _ : Unit => r = -1)) (Bq (dC, dI) (fun _ : Unit => []) (fun _ : Unit => []) (va_A [(h0, .inr (10, [.ref t0, .ref r0, .ref m0, .ref x0, v4, v5, v6, v7, v8, .int 0, .int ((-1)), .int 0])), (m0, .inl (cM, 8, .inr (.inr (.inr (.inr (fun _ => none)))))), (r0, .inl (cR, 4, .inr (.inr (.inr (.inr fR)))))] sz)) (va_A [(h0, .inr (10, [.ref t0, .ref r0, .ref m0, .ref x0, v4, v5, v6, v7, v8, .int 0, .int ((-1)), .int 0])), (m0, .inl (cM, 8, .inr (.inr (.inr (.inr (fun _ => none)))))), (r0, .inl (cR, 4, .inr (.inr (.inr (.inr fR)))))] sz)) 0 0 (va_A [(h0, .inr (10, [.ref t0, .ref r0, .ref m0, .ref x0, v4, v5, v6, v7, v8, .int 0, .int ((-1)), .int 0])), (m0, .inl (cM, 8, .inr (.inr (.inr (.inr (fun _ => none)))))), (r0, .inl (cR, 4, .inr (.inr (.inr (.inr fR)))))] sz) := by
  refine Met.ofW (cc := cX8_drop) (maxL := 7) (ret := (some .int)) (by decide) rfl ?_
  intro p e s m args below meth c s₁ B hml hv
  obtain ⟨rfl, hsz, hP, hK, hD0, hN, hZ⟩ := hv
  have hx := B.exec
  have hb := B.bytes
  have hr := B.returns
  have hts := atoms_spec (ws := wp_X8_drop) B.pre
  have hown : s.vm.findClass RX8 = some m.cls := findClass_of_methodNamed B.named
  have hlocks := B.notSynchronized
  have iRX8 : ∀ w ∈ u_ws RX8 TX8 12, w ∈ wp_X8_drop := by decide +kernel
  subst hsz
  have hD := hD0.self (sz := s.heap.size)
  generalize hAe : va_A [(h0, .inr (10, [.ref t0, .ref r0, .ref m0, .ref x0, v4, v5, v6, v7, v8, .int 0, .int ((-1)), .int 0])), (m0, .inl (cM, 8, .inr (.inr (.inr (.inr (fun _ => none)))))), (r0, .inl (cR, 4, .inr (.inr (.inr (.inr fR)))))] s.heap.size = A at hD hZ ⊢
  have hA : ∀ q : Nat, s.heap.size ≤ q → A q := fun q h => by rw [← hAe]; exact Or.inr h
  have hS : va_S A s.heap s.heap [] := va_S.rf
  have hP : va_P (dC, dI) vwCl [(h0, .inr (10, [.ref t0, .ref r0, .ref m0, .ref x0, v4, v5, v6, v7, v8, .int 0, .int ((-1)), .int 0])), (m0, .inl (cM, 8, .inr (.inr (.inr (.inr (fun _ => none)))))), (r0, .inl (cR, 4, .inr (.inr (.inr (.inr fR)))))] s.heap := hP
  have hl := lv_entry ([.ref h0, .int p0, .int p1, .int p2]) (n := 7) (Nat.le_of_ble_eq_true rfl)
  rw [lg_entry_eq]
  generalize (lg_sl ([.ref h0, .int p0, .int p1, .int p2]) ++ List.replicate (7 - (lg_sl ([.ref h0, .int p0, .int p1, .int p2])).length) Slot.unset).toArray = ls at hl ⊢
  have hl : lv_has ls 7 [(0, .ref h0), (1, .int p0), (2, .int p1), (3, .int p2)] := hl
  refine lv_aload_n hx hb dX8_drop_0 rfl (lv_at hl 0 rfl) ?_
  refine lv_iload_n hx hb dX8_drop_1 rfl (lv_at hl 1 rfl) ?_
  have hFc := va_free (wc := [(h0, .inr (10, [.ref t0, .ref r0, .ref m0, .ref x0, v4, v5, v6, v7, v8, .int 0, .int ((-1)), .int 0])), (r0, .inl (cR, 4, .inr (.inr (.inr (.inr fR)))))]) hD hS hA [0, 2] rfl
  refine va_callq (va_runV (As := [.int p0]) (rest := []) ⟨hx, hb, hml, hown, hts⟩ (c_X8_recordAny l dC dI h0 t0 r0 m0 x0 (v4) (v5) (v6) (v7) (v8) cR fR p0 s.heap.size) (cwV 1 hts gp_X8_drop_X8_recordAny_128 rfl rfl rfl (by decide +kernel) ⟨Nat.le_of_ble_eq_true rfl, Nat.le_of_ble_eq_true rfl⟩) ⟨Pr.blind _, va_recv hK hP (ci := 10) (q0 := 0) rfl rfl, fun U hU hW => ⟨rfl, Pr.at (hP.sub (ws' := [(h0, .inr (10, [.ref t0, .ref r0, .ref m0, .ref x0, v4, v5, v6, v7, v8, .int 0, .int ((-1)), .int 0])), (r0, .inl (cR, 4, .inr (.inr (.inr (.inr fR)))))]) [0, 2] rfl) (hK.sub (tys' := [(cR, .object RX5)]) [1] rfl) (hD.sub (ws' := [(h0, .inr (10, [.ref t0, .ref r0, .ref m0, .ref x0, v4, v5, v6, v7, v8, .int 0, .int ((-1)), .int 0])), (r0, .inl (cR, 4, .inr (.inr (.inr (.inr fR)))))]) [0, 2] (by decide) rfl) hN hZ hS hFc hU hW⟩⟩ rfl rfl hl.1 rfl (lv_room (Nat.le_of_ble_eq_true rfl)) dX8_drop_2 ⟨Nat.le_of_ble_eq_true rfl, Nat.le_of_ble_eq_true rfl⟩) hS (fun q _ h => hFc q h) hFc (fun r_1 u t H1 locs ht hvm hw_2 hB hz1 hk1 hS => ?_)
  obtain ⟨hP, hD, hK⟩ := Bq.join (wr := [(m0, .inl (cM, 8, .inr (.inr (.inr (.inr (fun _ => none))))))]) hB ht hvm hP hD [0, 2] [1] rfl rfl (by decide) (by decide) hk1 hFc hK
  generalize H1 = H at hP hS ⊢
  have hP : va_P (dC, dI) vwCl [(m0, .inl (cM, 8, .inr (.inr (.inr (.inr (fun _ => none)))))), (h0, .inr (10, [.ref t0, .ref r0, .ref m0, .ref x0, v4, v5, v6, v7, v8, .int 0, .int (-1), .int 0])), (r0, .inl (cR, 4, .inr (.inr (.inr (.inr fR)))))] H := hP
  have hD : va_D A [(m0, .inl (cM, 8, .inr (.inr (.inr (.inr (fun _ => none)))))), (h0, .inr (10, [.ref t0, .ref r0, .ref m0, .ref x0, v4, v5, v6, v7, v8, .int 0, .int (-1), .int 0])), (r0, .inl (cR, 4, .inr (.inr (.inr (.inr fR)))))] := hD
  have hK : va_K (dC, dI) vwCl [(cM, .object RX1), (cR, .object RX5)] s := hK
  try dsimp only at hw_2
  rcases r_1 with _ | a_3
  · refine W.eq (g2 := F0 m 5 ls [.null]) rfl ?_
    refine lv_astoreN (lv' := [(4, .null), (0, .ref h0), (1, .int p0), (2, .int p1), (3, .int p2)]) hx hb dX8_drop_5 hl (by decide) rfl (fun ls hl => ?_)
    refine lv_aload_n hx hb dX8_drop_7 rfl (lv_at hl 1 rfl) ?_
    refine va_get (D := (dC, dI)) (ci := 10) (v := .ref m0) (C := RX8) (T := TX8) (N := 12) hx hb hts iRX8 hown hK hP 1 rfl rfl 2 (by decide) (hts (.fieldLink RX8 24 "RecordBench" "makes" "[LRecordBench$Make;") (by decide +kernel)) (fun _ h9 => h9) rfl dX8_drop_8 ?_
    refine lv_iload_n hx hb dX8_drop_11 rfl (lv_at hl 3 rfl) ?_
    have hFc := va_free (wc := [(m0, .inl (cM, 8, .inr (.inr (.inr (.inr (fun _ => none))))))]) hD hS hA [0] rfl
    refine va_callq (va_runS (As := [.ref m0, .int p1]) (rest := []) ⟨hx, hb, hml, hown, hts⟩ (c_X8_makeOf l dC dI m0 p1 cM H.size) (cwS 2 hts gp_X8_drop_X8_makeOf_136 rfl rfl rfl (by decide +kernel) ⟨Nat.le_of_ble_eq_true rfl, Nat.le_of_ble_eq_true rfl⟩) ⟨Pr.blind _, fun U hU hW => ⟨rfl, Pr.at (hP.sub (ws' := [(m0, .inl (cM, 8, .inr (.inr (.inr (.inr (fun _ => none))))))]) [0] rfl) (hK.sub (tys' := [(cM, .object RX1)]) [0] rfl) (hD.sub (ws' := [(m0, .inl (cM, 8, .inr (.inr (.inr (.inr (fun _ => none))))))]) [0] (by decide) rfl) hN hZ hS hFc hU hW⟩⟩ rfl rfl hl.1 rfl (lv_room (Nat.le_of_ble_eq_true rfl)) dX8_drop_12 ⟨Nat.le_of_ble_eq_true rfl, Nat.le_of_ble_eq_true rfl⟩) hS (fun q _ h => hFc q h) hFc (fun r_4 u t H1 locs ht hvm hw_5 hB hz1 hk1 hS => ?_)
    obtain ⟨hP, hD, hK⟩ := Bq.join (wr := [(h0, .inr (10, [.ref t0, .ref r0, .ref m0, .ref x0, v4, v5, v6, v7, v8, .int 0, .int (-1), .int 0])), (r0, .inl (cR, 4, .inr (.inr (.inr (.inr fR)))))]) hB ht hvm hP hD [0] [1, 2] rfl rfl (by decide) (by decide) hk1 hFc hK
    generalize H1 = H at hP hS ⊢
    have hP : va_P (dC, dI) vwCl [(h0, .inr (10, [.ref t0, .ref r0, .ref m0, .ref x0, v4, v5, v6, v7, v8, .int 0, .int (-1), .int 0])), (r0, .inl (cR, 4, .inr (.inr (.inr (.inr fR))))), (m0, .inl (cM, 8, .inr (.inr (.inr (.inr (fun _ => none))))))] H := hP
    have hD : va_D A [(h0, .inr (10, [.ref t0, .ref r0, .ref m0, .ref x0, v4, v5, v6, v7, v8, .int 0, .int (-1), .int 0])), (r0, .inl (cR, 4, .inr (.inr (.inr (.inr fR))))), (m0, .inl (cM, 8, .inr (.inr (.inr (.inr (fun _ => none))))))] := hD
    have hK : va_K (dC, dI) vwCl [(cM, .object RX1), (cR, .object RX5)] s := hK
    try dsimp only at hw_5
    have k_6 := hw_5
    subst k_6
    refine W.eq (g2 := F0 m 15 ls [.null]) rfl ?_
    refine lv_astoreN (lv' := [(5, .null), (4, .null), (0, .ref h0), (1, .int p0), (2, .int p1), (3, .int p2)]) hx hb dX8_drop_15 hl (by decide) rfl (fun ls hl => ?_)
    refine lv_aload_n hx hb dX8_drop_17 rfl (lv_at hl 2 rfl) ?_
    refine lv_iload_n hx hb dX8_drop_18 rfl (lv_at hl 4 rfl) ?_
    refine lv_iload_n hx hb dX8_drop_19 rfl (lv_at hl 5 rfl) ?_
    have hFc := va_free (wc := [(h0, .inr (10, [.ref t0, .ref r0, .ref m0, .ref x0, v4, v5, v6, v7, v8, .int 0, .int (-1), .int 0])), (m0, .inl (cM, 8, .inr (.inr (.inr (.inr (fun _ => none))))))]) hD hS hA [0, 2] rfl
    refine va_callq (va_runV (As := [.int p1, .int p2]) (rest := []) ⟨hx, hb, hml, hown, hts⟩ (c_X8_fieldOf l dC dI h0 t0 r0 m0 x0 (v4) (v5) (v6) (v7) (v8) cM p1 p2 H.size) (cwV 2 hts gp_X8_drop_X8_fieldOf_100 rfl rfl rfl (by decide +kernel) ⟨Nat.le_of_ble_eq_true rfl, Nat.le_of_ble_eq_true rfl⟩) ⟨Pr.blind _, va_recv hK hP (ci := 10) (q0 := 0) rfl rfl, fun U hU hW => ⟨rfl, Pr.at (hP.sub (ws' := [(h0, .inr (10, [.ref t0, .ref r0, .ref m0, .ref x0, v4, v5, v6, v7, v8, .int 0, .int (-1), .int 0])), (m0, .inl (cM, 8, .inr (.inr (.inr (.inr (fun _ => none))))))]) [0, 2] rfl) (hK.sub (tys' := [(cM, .object RX1)]) [0] rfl) (hD.sub (ws' := [(h0, .inr (10, [.ref t0, .ref r0, .ref m0, .ref x0, v4, v5, v6, v7, v8, .int 0, .int (-1), .int 0])), (m0, .inl (cM, 8, .inr (.inr (.inr (.inr (fun _ => none))))))]) [0, 2] (by decide) rfl) hN hZ hS hFc hU hW⟩⟩ rfl rfl hl.1 rfl (lv_room (Nat.le_of_ble_eq_true rfl)) dX8_drop_20 ⟨Nat.le_of_ble_eq_true rfl, Nat.le_of_ble_eq_true rfl⟩) hS (fun q _ h => hFc q h) hFc (fun r_7 u t H1 locs ht hvm hw_8 hB hz1 hk1 hS => ?_)
    obtain ⟨hP, hD, hK⟩ := Bq.join (wr := [(r0, .inl (cR, 4, .inr (.inr (.inr (.inr fR)))))]) hB ht hvm hP hD [0, 2] [1] rfl rfl (by decide) (by decide) hk1 hFc hK
    generalize H1 = H at hP hS ⊢
    have hP : va_P (dC, dI) vwCl [(r0, .inl (cR, 4, .inr (.inr (.inr (.inr fR))))), (h0, .inr (10, [.ref t0, .ref r0, .ref m0, .ref x0, v4, v5, v6, v7, v8, .int 0, .int (-1), .int 0])), (m0, .inl (cM, 8, .inr (.inr (.inr (.inr (fun _ => none))))))] H := hP
    have hD : va_D A [(r0, .inl (cR, 4, .inr (.inr (.inr (.inr fR))))), (h0, .inr (10, [.ref t0, .ref r0, .ref m0, .ref x0, v4, v5, v6, v7, v8, .int 0, .int (-1), .int 0])), (m0, .inl (cM, 8, .inr (.inr (.inr (.inr (fun _ => none))))))] := hD
    have hK : va_K (dC, dI) vwCl [(cM, .object RX1), (cR, .object RX5)] s := hK
    try dsimp only at hw_8
    have k_9 := hw_8
    subst k_9
    refine W.eq (g2 := F0 m 23 ls [.null]) rfl ?_
    refine lv_astoreN (lv' := [(6, .null), (5, .null), (4, .null), (0, .ref h0), (1, .int p0), (2, .int p1), (3, .int p2)]) hx hb dX8_drop_23 hl (by decide) rfl (fun ls hl => ?_)
    refine lv_aloadN hx hb dX8_drop_25 (lv_at hl 2 rfl) ?_
    refine lv_ifnullN (tgt := 48) hx hb dX8_drop_27 (by decide) ?_
    refine lv_iconst (v := (-1)) hx hb dX8_drop_48 (by decide) ?_
    have hP9 := hP.sub (ws' := []) [] rfl
    have hD9 := hD.sub (ws' := []) [] (by decide) rfl
    have hK9 := hK.sub (tys' := []) [] rfl
    exact W.iret (v := (-1)) hx hb hr (fun t ht hW => ⟨⟨(-1), (), rfl, rfl, by rw [ht]; exact hP9, va_K.moved hW.alike hK9, hD9⟩, hS.F ht⟩) hS.2.2 dX8_drop_49
  · refine W.eq (g2 := F0 m 5 ls [.ref a_3]) rfl ?_
    refine lv_astore (lv' := [(4, .ref a_3), (0, .ref h0), (1, .int p0), (2, .int p1), (3, .int p2)]) hx hb dX8_drop_5 hl (by decide) rfl (fun ls hl => ?_)
    refine lv_aload_n hx hb dX8_drop_7 rfl (lv_at hl 1 rfl) ?_
    refine va_get (D := (dC, dI)) (ci := 10) (v := .ref m0) (C := RX8) (T := TX8) (N := 12) hx hb hts iRX8 hown hK hP 1 rfl rfl 2 (by decide) (hts (.fieldLink RX8 24 "RecordBench" "makes" "[LRecordBench$Make;") (by decide +kernel)) (fun _ h9 => h9) rfl dX8_drop_8 ?_
    refine lv_iload_n hx hb dX8_drop_11 rfl (lv_at hl 3 rfl) ?_
    have hFc := va_free (wc := [(m0, .inl (cM, 8, .inr (.inr (.inr (.inr (fun _ => none))))))]) hD hS hA [0] rfl
    refine va_callq (va_runS (As := [.ref m0, .int p1]) (rest := []) ⟨hx, hb, hml, hown, hts⟩ (c_X8_makeOf l dC dI m0 p1 cM H.size) (cwS 2 hts gp_X8_drop_X8_makeOf_136 rfl rfl rfl (by decide +kernel) ⟨Nat.le_of_ble_eq_true rfl, Nat.le_of_ble_eq_true rfl⟩) ⟨Pr.blind _, fun U hU hW => ⟨rfl, Pr.at (hP.sub (ws' := [(m0, .inl (cM, 8, .inr (.inr (.inr (.inr (fun _ => none))))))]) [0] rfl) (hK.sub (tys' := [(cM, .object RX1)]) [0] rfl) (hD.sub (ws' := [(m0, .inl (cM, 8, .inr (.inr (.inr (.inr (fun _ => none))))))]) [0] (by decide) rfl) hN hZ hS hFc hU hW⟩⟩ rfl rfl hl.1 rfl (lv_room (Nat.le_of_ble_eq_true rfl)) dX8_drop_12 ⟨Nat.le_of_ble_eq_true rfl, Nat.le_of_ble_eq_true rfl⟩) hS (fun q _ h => hFc q h) hFc (fun r_10 u t H1 locs ht hvm hw_11 hB hz1 hk1 hS => ?_)
    obtain ⟨hP, hD, hK⟩ := Bq.join (wr := [(h0, .inr (10, [.ref t0, .ref r0, .ref m0, .ref x0, v4, v5, v6, v7, v8, .int 0, .int (-1), .int 0])), (r0, .inl (cR, 4, .inr (.inr (.inr (.inr fR)))))]) hB ht hvm hP hD [0] [1, 2] rfl rfl (by decide) (by decide) hk1 hFc hK
    generalize H1 = H at hP hS ⊢
    have hP : va_P (dC, dI) vwCl [(h0, .inr (10, [.ref t0, .ref r0, .ref m0, .ref x0, v4, v5, v6, v7, v8, .int 0, .int (-1), .int 0])), (r0, .inl (cR, 4, .inr (.inr (.inr (.inr fR))))), (m0, .inl (cM, 8, .inr (.inr (.inr (.inr (fun _ => none))))))] H := hP
    have hD : va_D A [(h0, .inr (10, [.ref t0, .ref r0, .ref m0, .ref x0, v4, v5, v6, v7, v8, .int 0, .int (-1), .int 0])), (r0, .inl (cR, 4, .inr (.inr (.inr (.inr fR))))), (m0, .inl (cM, 8, .inr (.inr (.inr (.inr (fun _ => none))))))] := hD
    have hK : va_K (dC, dI) vwCl [(cM, .object RX1), (cR, .object RX5)] s := hK
    try dsimp only at hw_11
    have k_12 := hw_11
    subst k_12
    refine W.eq (g2 := F0 m 15 ls [.null]) rfl ?_
    refine lv_astoreN (lv' := [(5, .null), (4, .ref a_3), (0, .ref h0), (1, .int p0), (2, .int p1), (3, .int p2)]) hx hb dX8_drop_15 hl (by decide) rfl (fun ls hl => ?_)
    refine lv_aload_n hx hb dX8_drop_17 rfl (lv_at hl 2 rfl) ?_
    refine lv_iload_n hx hb dX8_drop_18 rfl (lv_at hl 4 rfl) ?_
    refine lv_iload_n hx hb dX8_drop_19 rfl (lv_at hl 5 rfl) ?_
    have hFc := va_free (wc := [(h0, .inr (10, [.ref t0, .ref r0, .ref m0, .ref x0, v4, v5, v6, v7, v8, .int 0, .int (-1), .int 0])), (m0, .inl (cM, 8, .inr (.inr (.inr (.inr (fun _ => none))))))]) hD hS hA [0, 2] rfl
    refine va_callq (va_runV (As := [.int p1, .int p2]) (rest := []) ⟨hx, hb, hml, hown, hts⟩ (c_X8_fieldOf l dC dI h0 t0 r0 m0 x0 (v4) (v5) (v6) (v7) (v8) cM p1 p2 H.size) (cwV 2 hts gp_X8_drop_X8_fieldOf_100 rfl rfl rfl (by decide +kernel) ⟨Nat.le_of_ble_eq_true rfl, Nat.le_of_ble_eq_true rfl⟩) ⟨Pr.blind _, va_recv hK hP (ci := 10) (q0 := 0) rfl rfl, fun U hU hW => ⟨rfl, Pr.at (hP.sub (ws' := [(h0, .inr (10, [.ref t0, .ref r0, .ref m0, .ref x0, v4, v5, v6, v7, v8, .int 0, .int (-1), .int 0])), (m0, .inl (cM, 8, .inr (.inr (.inr (.inr (fun _ => none))))))]) [0, 2] rfl) (hK.sub (tys' := [(cM, .object RX1)]) [0] rfl) (hD.sub (ws' := [(h0, .inr (10, [.ref t0, .ref r0, .ref m0, .ref x0, v4, v5, v6, v7, v8, .int 0, .int (-1), .int 0])), (m0, .inl (cM, 8, .inr (.inr (.inr (.inr (fun _ => none))))))]) [0, 2] (by decide) rfl) hN hZ hS hFc hU hW⟩⟩ rfl rfl hl.1 rfl (lv_room (Nat.le_of_ble_eq_true rfl)) dX8_drop_20 ⟨Nat.le_of_ble_eq_true rfl, Nat.le_of_ble_eq_true rfl⟩) hS (fun q _ h => hFc q h) hFc (fun r_13 u t H1 locs ht hvm hw_14 hB hz1 hk1 hS => ?_)
    obtain ⟨hP, hD, hK⟩ := Bq.join (wr := [(r0, .inl (cR, 4, .inr (.inr (.inr (.inr fR)))))]) hB ht hvm hP hD [0, 2] [1] rfl rfl (by decide) (by decide) hk1 hFc hK
    generalize H1 = H at hP hS ⊢
    have hP : va_P (dC, dI) vwCl [(r0, .inl (cR, 4, .inr (.inr (.inr (.inr fR))))), (h0, .inr (10, [.ref t0, .ref r0, .ref m0, .ref x0, v4, v5, v6, v7, v8, .int 0, .int (-1), .int 0])), (m0, .inl (cM, 8, .inr (.inr (.inr (.inr (fun _ => none))))))] H := hP
    have hD : va_D A [(r0, .inl (cR, 4, .inr (.inr (.inr (.inr fR))))), (h0, .inr (10, [.ref t0, .ref r0, .ref m0, .ref x0, v4, v5, v6, v7, v8, .int 0, .int (-1), .int 0])), (m0, .inl (cM, 8, .inr (.inr (.inr (.inr (fun _ => none))))))] := hD
    have hK : va_K (dC, dI) vwCl [(cM, .object RX1), (cR, .object RX5)] s := hK
    try dsimp only at hw_14
    have k_15 := hw_14
    subst k_15
    refine W.eq (g2 := F0 m 23 ls [.null]) rfl ?_
    refine lv_astoreN (lv' := [(6, .null), (5, .null), (4, .ref a_3), (0, .ref h0), (1, .int p0), (2, .int p1), (3, .int p2)]) hx hb dX8_drop_23 hl (by decide) rfl (fun ls hl => ?_)
    refine lv_aload hx hb dX8_drop_25 (lv_at hl 2 rfl) ?_
    refine lv_ifnull hx hb dX8_drop_27 ?_
    refine lv_aloadN hx hb dX8_drop_30 (lv_at hl 1 rfl) ?_
    refine lv_ifnullN (tgt := 48) hx hb dX8_drop_32 (by decide) ?_
    refine lv_iconst (v := (-1)) hx hb dX8_drop_48 (by decide) ?_
    have hP9 := hP.sub (ws' := []) [] rfl
    have hD9 := hD.sub (ws' := []) [] (by decide) rfl
    have hK9 := hK.sub (tys' := []) [] rfl
    exact W.iret (v := (-1)) hx hb hr (fun t ht hW => ⟨⟨(-1), (), rfl, rfl, by rw [ht]; exact hP9, va_K.moved hW.alike hK9, hD9⟩, hS.F ht⟩) hS.2.2 dX8_drop_49
def wp_X8_read : List Cond := .code yX8_read cX8_read 5 (some .int) :: ([.methodLink RX8 128 yX8_recordOf, .instanceMethod yX8_recordOf, .selects RX8 yX8_recordOf yX8_recordOf, .initialized RX8, .fieldLink RX8 24 "RecordBench" "makes" "[LRecordBench$Make;", .methodLink RX8 136 yX8_makeOf, .static yX8_makeOf, .fieldLink RX8 66 "RecordBench" "latestFault" "I", .fieldLink RX8 70 "RecordBench" "latestPlace" "I", .code yX8_recordOf cX8_recordOf 2 (some (.object "RecordBench$Row")), .fieldLink RX8 18 "RecordBench" "records" "[LRecordBench$Row;", .code yX8_makeOf cX8_makeOf 2 (some (.object "RecordBench$Make"))] ++ wsX80)
set_option maxRecDepth 20000 in
theorem gp_X8_read_X8_recordAny_128 : GoodIn wp_X8_read (wsV RX8 128 RX8 yX8_recordOf wp_X8_recordAny) := goodIn_p _ [10] rfl (by decide +kernel)
set_option maxRecDepth 20000 in
theorem gp_X8_read_X8_makeOf_136 : GoodIn wp_X8_read (wsS RX8 136 yX8_makeOf wp_X8_makeOf) := goodIn_p _ [12] rfl (by decide +kernel)
set_option maxHeartbeats 4000000 in
set_option maxRecDepth 100000 in
theorem c_X8_read (l : Launch) (dC : Nat → ClassId) (dI : Nat → Nat → Nat) (h0 : Nat) (t0 : Nat) (r0 : Nat) (m0 : Nat) (x0 : Nat) (v4 : Value) (v5 : Value) (v6 : Value) (v7 : Value) (v8 : Value) (cM : ClassId) (cR : ClassId) (fR : Nat → Option Nat) (p0 : Int32) (p1 : Int32) (sz : Nat) : Met l yX8_read wp_X8_read ({ frames := 1, cells := 0, slots := 0, locals := 25 }) (va_Pc [.ref h0, .int p0, .int p1] (Pr (dC, dI) [(cM, .object RX1), (cR, .object RX5)] [(h0, .inr (10, [.ref t0, .ref r0, .ref m0, .ref x0, v4, v5, v6, v7, v8, .int 0, .int ((-1)), .int 0])), (m0, .inl (cM, 8, .inr (.inr (.inr (.inr (fun _ => none)))))), (r0, .inl (cR, 4, .inr (.inr (.inr (.inr fR)))))] sz)) (va_Qi (fun r : Int32 => (fun _ : Unit => r = -2)) (Bq (dC, dI) (fun _ : Unit => []) (fun _ : Unit => []) (va_A [(h0, .inr (10, [.ref t0, .ref r0, .ref m0, .ref x0, v4, v5, v6, v7, v8, .int 0, .int ((-1)), .int 0])), (m0, .inl (cM, 8, .inr (.inr (.inr (.inr (fun _ => none)))))), (r0, .inl (cR, 4, .inr (.inr (.inr (.inr fR)))))] sz)) (va_A [(h0, .inr (10, [.ref t0, .ref r0, .ref m0, .ref x0, v4, v5, v6, v7, v8, .int 0, .int ((-1)), .int 0])), (m0, .inl (cM, 8, .inr (.inr (.inr (.inr (fun _ => none)))))), (r0, .inl (cR, 4, .inr (.inr (.inr (.inr fR)))))] sz)) 0 0 (va_A [(h0, .inr (10, [.ref t0, .ref r0, .ref m0, .ref x0, v4, v5, v6, v7, v8, .int 0, .int ((-1)), .int 0])), (m0, .inl (cM, 8, .inr (.inr (.inr (.inr (fun _ => none)))))), (r0, .inl (cR, 4, .inr (.inr (.inr (.inr fR)))))] sz) := by
  refine Met.ofW (cc := cX8_read) (maxL := 5) (ret := (some .int)) (by decide) rfl ?_
  intro p e s m args below meth c s₁ B hml hv
  obtain ⟨rfl, hsz, hP, hK, hD0, hN, hZ⟩ := hv
  have hx := B.exec
  have hb := B.bytes
  have hr := B.returns
  have hts := atoms_spec (ws := wp_X8_read) B.pre
  have hown : s.vm.findClass RX8 = some m.cls := findClass_of_methodNamed B.named
  have hlocks := B.notSynchronized
  have iRX8 : ∀ w ∈ u_ws RX8 TX8 12, w ∈ wp_X8_read := by decide +kernel
  subst hsz
  have hD := hD0.self (sz := s.heap.size)
  generalize hAe : va_A [(h0, .inr (10, [.ref t0, .ref r0, .ref m0, .ref x0, v4, v5, v6, v7, v8, .int 0, .int ((-1)), .int 0])), (m0, .inl (cM, 8, .inr (.inr (.inr (.inr (fun _ => none)))))), (r0, .inl (cR, 4, .inr (.inr (.inr (.inr fR)))))] s.heap.size = A at hD hZ ⊢
  have hA : ∀ q : Nat, s.heap.size ≤ q → A q := fun q h => by rw [← hAe]; exact Or.inr h
  have hS : va_S A s.heap s.heap [] := va_S.rf
  have hP : va_P (dC, dI) vwCl [(h0, .inr (10, [.ref t0, .ref r0, .ref m0, .ref x0, v4, v5, v6, v7, v8, .int 0, .int ((-1)), .int 0])), (m0, .inl (cM, 8, .inr (.inr (.inr (.inr (fun _ => none)))))), (r0, .inl (cR, 4, .inr (.inr (.inr (.inr fR)))))] s.heap := hP
  have hl := lv_entry ([.ref h0, .int p0, .int p1]) (n := 5) (Nat.le_of_ble_eq_true rfl)
  rw [lg_entry_eq]
  generalize (lg_sl ([.ref h0, .int p0, .int p1]) ++ List.replicate (5 - (lg_sl ([.ref h0, .int p0, .int p1])).length) Slot.unset).toArray = ls at hl ⊢
  have hl : lv_has ls 5 [(0, .ref h0), (1, .int p0), (2, .int p1)] := hl
  refine lv_aload_n hx hb dX8_read_0 rfl (lv_at hl 0 rfl) ?_
  refine lv_iload_n hx hb dX8_read_1 rfl (lv_at hl 1 rfl) ?_
  have hFc := va_free (wc := [(h0, .inr (10, [.ref t0, .ref r0, .ref m0, .ref x0, v4, v5, v6, v7, v8, .int 0, .int ((-1)), .int 0])), (r0, .inl (cR, 4, .inr (.inr (.inr (.inr fR)))))]) hD hS hA [0, 2] rfl
  refine va_callq (va_runV (As := [.int p0]) (rest := []) ⟨hx, hb, hml, hown, hts⟩ (c_X8_recordAny l dC dI h0 t0 r0 m0 x0 (v4) (v5) (v6) (v7) (v8) cR fR p0 s.heap.size) (cwV 1 hts gp_X8_read_X8_recordAny_128 rfl rfl rfl (by decide +kernel) ⟨Nat.le_of_ble_eq_true rfl, Nat.le_of_ble_eq_true rfl⟩) ⟨Pr.blind _, va_recv hK hP (ci := 10) (q0 := 0) rfl rfl, fun U hU hW => ⟨rfl, Pr.at (hP.sub (ws' := [(h0, .inr (10, [.ref t0, .ref r0, .ref m0, .ref x0, v4, v5, v6, v7, v8, .int 0, .int ((-1)), .int 0])), (r0, .inl (cR, 4, .inr (.inr (.inr (.inr fR)))))]) [0, 2] rfl) (hK.sub (tys' := [(cR, .object RX5)]) [1] rfl) (hD.sub (ws' := [(h0, .inr (10, [.ref t0, .ref r0, .ref m0, .ref x0, v4, v5, v6, v7, v8, .int 0, .int ((-1)), .int 0])), (r0, .inl (cR, 4, .inr (.inr (.inr (.inr fR)))))]) [0, 2] (by decide) rfl) hN hZ hS hFc hU hW⟩⟩ rfl rfl hl.1 rfl (lv_room (Nat.le_of_ble_eq_true rfl)) dX8_read_2 ⟨Nat.le_of_ble_eq_true rfl, Nat.le_of_ble_eq_true rfl⟩) hS (fun q _ h => hFc q h) hFc (fun r_1 u t H1 locs ht hvm hw_2 hB hz1 hk1 hS => ?_)
  obtain ⟨hP, hD, hK⟩ := Bq.join (wr := [(m0, .inl (cM, 8, .inr (.inr (.inr (.inr (fun _ => none))))))]) hB ht hvm hP hD [0, 2] [1] rfl rfl (by decide) (by decide) hk1 hFc hK
  generalize H1 = H at hP hS ⊢
  have hP : va_P (dC, dI) vwCl [(m0, .inl (cM, 8, .inr (.inr (.inr (.inr (fun _ => none)))))), (h0, .inr (10, [.ref t0, .ref r0, .ref m0, .ref x0, v4, v5, v6, v7, v8, .int 0, .int (-1), .int 0])), (r0, .inl (cR, 4, .inr (.inr (.inr (.inr fR)))))] H := hP
  have hD : va_D A [(m0, .inl (cM, 8, .inr (.inr (.inr (.inr (fun _ => none)))))), (h0, .inr (10, [.ref t0, .ref r0, .ref m0, .ref x0, v4, v5, v6, v7, v8, .int 0, .int (-1), .int 0])), (r0, .inl (cR, 4, .inr (.inr (.inr (.inr fR)))))] := hD
  have hK : va_K (dC, dI) vwCl [(cM, .object RX1), (cR, .object RX5)] s := hK
  try dsimp only at hw_2
  rcases r_1 with _ | a_3
  · refine W.eq (g2 := F0 m 5 ls [.null]) rfl ?_
    refine lv_astore_nN (lv' := [(3, .null), (0, .ref h0), (1, .int p0), (2, .int p1)]) hx hb dX8_read_5 rfl hl (by decide) rfl (fun ls hl => ?_)
    refine lv_aload_n hx hb dX8_read_6 rfl (lv_at hl 1 rfl) ?_
    refine va_get (D := (dC, dI)) (ci := 10) (v := .ref m0) (C := RX8) (T := TX8) (N := 12) hx hb hts iRX8 hown hK hP 1 rfl rfl 2 (by decide) (hts (.fieldLink RX8 24 "RecordBench" "makes" "[LRecordBench$Make;") (by decide +kernel)) (fun _ h9 => h9) rfl dX8_read_7 ?_
    refine lv_iload_n hx hb dX8_read_10 rfl (lv_at hl 3 rfl) ?_
    have hFc := va_free (wc := [(m0, .inl (cM, 8, .inr (.inr (.inr (.inr (fun _ => none))))))]) hD hS hA [0] rfl
    refine va_callq (va_runS (As := [.ref m0, .int p1]) (rest := []) ⟨hx, hb, hml, hown, hts⟩ (c_X8_makeOf l dC dI m0 p1 cM H.size) (cwS 2 hts gp_X8_read_X8_makeOf_136 rfl rfl rfl (by decide +kernel) ⟨Nat.le_of_ble_eq_true rfl, Nat.le_of_ble_eq_true rfl⟩) ⟨Pr.blind _, fun U hU hW => ⟨rfl, Pr.at (hP.sub (ws' := [(m0, .inl (cM, 8, .inr (.inr (.inr (.inr (fun _ => none))))))]) [0] rfl) (hK.sub (tys' := [(cM, .object RX1)]) [0] rfl) (hD.sub (ws' := [(m0, .inl (cM, 8, .inr (.inr (.inr (.inr (fun _ => none))))))]) [0] (by decide) rfl) hN hZ hS hFc hU hW⟩⟩ rfl rfl hl.1 rfl (lv_room (Nat.le_of_ble_eq_true rfl)) dX8_read_11 ⟨Nat.le_of_ble_eq_true rfl, Nat.le_of_ble_eq_true rfl⟩) hS (fun q _ h => hFc q h) hFc (fun r_4 u t H1 locs ht hvm hw_5 hB hz1 hk1 hS => ?_)
    obtain ⟨hP, hD, hK⟩ := Bq.join (wr := [(h0, .inr (10, [.ref t0, .ref r0, .ref m0, .ref x0, v4, v5, v6, v7, v8, .int 0, .int (-1), .int 0])), (r0, .inl (cR, 4, .inr (.inr (.inr (.inr fR)))))]) hB ht hvm hP hD [0] [1, 2] rfl rfl (by decide) (by decide) hk1 hFc hK
    generalize H1 = H at hP hS ⊢
    have hP : va_P (dC, dI) vwCl [(h0, .inr (10, [.ref t0, .ref r0, .ref m0, .ref x0, v4, v5, v6, v7, v8, .int 0, .int (-1), .int 0])), (r0, .inl (cR, 4, .inr (.inr (.inr (.inr fR))))), (m0, .inl (cM, 8, .inr (.inr (.inr (.inr (fun _ => none))))))] H := hP
    have hD : va_D A [(h0, .inr (10, [.ref t0, .ref r0, .ref m0, .ref x0, v4, v5, v6, v7, v8, .int 0, .int (-1), .int 0])), (r0, .inl (cR, 4, .inr (.inr (.inr (.inr fR))))), (m0, .inl (cM, 8, .inr (.inr (.inr (.inr (fun _ => none))))))] := hD
    have hK : va_K (dC, dI) vwCl [(cM, .object RX1), (cR, .object RX5)] s := hK
    try dsimp only at hw_5
    have k_6 := hw_5
    subst k_6
    refine W.eq (g2 := F0 m 14 ls [.null]) rfl ?_
    refine lv_astoreN (lv' := [(4, .null), (3, .null), (0, .ref h0), (1, .int p0), (2, .int p1)]) hx hb dX8_read_14 hl (by decide) rfl (fun ls hl => ?_)
    refine lv_aload_n hx hb dX8_read_16 rfl (lv_at hl 2 rfl) ?_
    refine lv_iconst (v := 0) hx hb dX8_read_17 (by decide) ?_
    refine va_put (D := (dC, dI)) (ci := 10) (v := .int 0) (ty := .int) (C := RX8) (T := TX8) (N := 12) hx hb hts iRX8 tyX8 tyX8_ok nmX8 hown hK hP hD hS 0 rfl rfl 9 (by decide) (hts (.fieldLink RX8 66 "RecordBench" "latestFault" "I") (by decide +kernel)) (fun _ h9 => h9) rfl (by decide +kernel) rfl rfl (Nat.le_of_ble_eq_true rfl) dX8_read_18 (fun H locs hP hD hS => ?_)
    have hP : va_P (dC, dI) vwCl [(h0, .inr (10, [.ref t0, .ref r0, .ref m0, .ref x0, v4, v5, v6, v7, v8, .int 0, .int (-1), .int 0])), (r0, .inl (cR, 4, .inr (.inr (.inr (.inr fR))))), (m0, .inl (cM, 8, .inr (.inr (.inr (.inr (fun _ => none))))))] H := hP
    have hD : va_D A [(h0, .inr (10, [.ref t0, .ref r0, .ref m0, .ref x0, v4, v5, v6, v7, v8, .int 0, .int (-1), .int 0])), (r0, .inl (cR, 4, .inr (.inr (.inr (.inr fR))))), (m0, .inl (cM, 8, .inr (.inr (.inr (.inr (fun _ => none))))))] := hD
    refine lv_aload_n hx hb dX8_read_21 rfl (lv_at hl 2 rfl) ?_
    refine lv_iconst (v := (-1)) hx hb dX8_read_22 (by decide) ?_
    refine va_put (D := (dC, dI)) (ci := 10) (v := .int ((-1))) (ty := .int) (C := RX8) (T := TX8) (N := 12) hx hb hts iRX8 tyX8 tyX8_ok nmX8 hown hK hP hD hS 0 rfl rfl 10 (by decide) (hts (.fieldLink RX8 70 "RecordBench" "latestPlace" "I") (by decide +kernel)) (fun _ h9 => h9) rfl (by decide +kernel) rfl rfl (Nat.le_of_ble_eq_true rfl) dX8_read_23 (fun H locs hP hD hS => ?_)
    have hP : va_P (dC, dI) vwCl [(h0, .inr (10, [.ref t0, .ref r0, .ref m0, .ref x0, v4, v5, v6, v7, v8, .int 0, .int ((-1)), .int 0])), (r0, .inl (cR, 4, .inr (.inr (.inr (.inr fR))))), (m0, .inl (cM, 8, .inr (.inr (.inr (.inr (fun _ => none))))))] H := hP
    have hD : va_D A [(h0, .inr (10, [.ref t0, .ref r0, .ref m0, .ref x0, v4, v5, v6, v7, v8, .int 0, .int ((-1)), .int 0])), (r0, .inl (cR, 4, .inr (.inr (.inr (.inr fR))))), (m0, .inl (cM, 8, .inr (.inr (.inr (.inr (fun _ => none))))))] := hD
    refine lv_aload_nN hx hb dX8_read_26 rfl (lv_at hl 1 rfl) ?_
    refine lv_ifnullN (tgt := 35) hx hb dX8_read_27 (by decide) ?_
    refine lv_bipush (v := (-2)) hx hb dX8_read_35 (by decide) ?_
    have hP9 := hP.sub (ws' := []) [] rfl
    have hD9 := hD.sub (ws' := []) [] (by decide) rfl
    have hK9 := hK.sub (tys' := []) [] rfl
    exact W.iret (v := (-2)) hx hb hr (fun t ht hW => ⟨⟨(-2), (), rfl, rfl, by rw [ht]; exact hP9, va_K.moved hW.alike hK9, hD9⟩, hS.F ht⟩) hS.2.2 dX8_read_37
  · refine W.eq (g2 := F0 m 5 ls [.ref a_3]) rfl ?_
    refine lv_astore_n (lv' := [(3, .ref a_3), (0, .ref h0), (1, .int p0), (2, .int p1)]) hx hb dX8_read_5 rfl hl (by decide) rfl (fun ls hl => ?_)
    refine lv_aload_n hx hb dX8_read_6 rfl (lv_at hl 1 rfl) ?_
    refine va_get (D := (dC, dI)) (ci := 10) (v := .ref m0) (C := RX8) (T := TX8) (N := 12) hx hb hts iRX8 hown hK hP 1 rfl rfl 2 (by decide) (hts (.fieldLink RX8 24 "RecordBench" "makes" "[LRecordBench$Make;") (by decide +kernel)) (fun _ h9 => h9) rfl dX8_read_7 ?_
    refine lv_iload_n hx hb dX8_read_10 rfl (lv_at hl 3 rfl) ?_
    have hFc := va_free (wc := [(m0, .inl (cM, 8, .inr (.inr (.inr (.inr (fun _ => none))))))]) hD hS hA [0] rfl
    refine va_callq (va_runS (As := [.ref m0, .int p1]) (rest := []) ⟨hx, hb, hml, hown, hts⟩ (c_X8_makeOf l dC dI m0 p1 cM H.size) (cwS 2 hts gp_X8_read_X8_makeOf_136 rfl rfl rfl (by decide +kernel) ⟨Nat.le_of_ble_eq_true rfl, Nat.le_of_ble_eq_true rfl⟩) ⟨Pr.blind _, fun U hU hW => ⟨rfl, Pr.at (hP.sub (ws' := [(m0, .inl (cM, 8, .inr (.inr (.inr (.inr (fun _ => none))))))]) [0] rfl) (hK.sub (tys' := [(cM, .object RX1)]) [0] rfl) (hD.sub (ws' := [(m0, .inl (cM, 8, .inr (.inr (.inr (.inr (fun _ => none))))))]) [0] (by decide) rfl) hN hZ hS hFc hU hW⟩⟩ rfl rfl hl.1 rfl (lv_room (Nat.le_of_ble_eq_true rfl)) dX8_read_11 ⟨Nat.le_of_ble_eq_true rfl, Nat.le_of_ble_eq_true rfl⟩) hS (fun q _ h => hFc q h) hFc (fun r_7 u t H1 locs ht hvm hw_8 hB hz1 hk1 hS => ?_)
    obtain ⟨hP, hD, hK⟩ := Bq.join (wr := [(h0, .inr (10, [.ref t0, .ref r0, .ref m0, .ref x0, v4, v5, v6, v7, v8, .int 0, .int (-1), .int 0])), (r0, .inl (cR, 4, .inr (.inr (.inr (.inr fR)))))]) hB ht hvm hP hD [0] [1, 2] rfl rfl (by decide) (by decide) hk1 hFc hK
    generalize H1 = H at hP hS ⊢
    have hP : va_P (dC, dI) vwCl [(h0, .inr (10, [.ref t0, .ref r0, .ref m0, .ref x0, v4, v5, v6, v7, v8, .int 0, .int (-1), .int 0])), (r0, .inl (cR, 4, .inr (.inr (.inr (.inr fR))))), (m0, .inl (cM, 8, .inr (.inr (.inr (.inr (fun _ => none))))))] H := hP
    have hD : va_D A [(h0, .inr (10, [.ref t0, .ref r0, .ref m0, .ref x0, v4, v5, v6, v7, v8, .int 0, .int (-1), .int 0])), (r0, .inl (cR, 4, .inr (.inr (.inr (.inr fR))))), (m0, .inl (cM, 8, .inr (.inr (.inr (.inr (fun _ => none))))))] := hD
    have hK : va_K (dC, dI) vwCl [(cM, .object RX1), (cR, .object RX5)] s := hK
    try dsimp only at hw_8
    have k_9 := hw_8
    subst k_9
    refine W.eq (g2 := F0 m 14 ls [.null]) rfl ?_
    refine lv_astoreN (lv' := [(4, .null), (3, .ref a_3), (0, .ref h0), (1, .int p0), (2, .int p1)]) hx hb dX8_read_14 hl (by decide) rfl (fun ls hl => ?_)
    refine lv_aload_n hx hb dX8_read_16 rfl (lv_at hl 2 rfl) ?_
    refine lv_iconst (v := 0) hx hb dX8_read_17 (by decide) ?_
    refine va_put (D := (dC, dI)) (ci := 10) (v := .int 0) (ty := .int) (C := RX8) (T := TX8) (N := 12) hx hb hts iRX8 tyX8 tyX8_ok nmX8 hown hK hP hD hS 0 rfl rfl 9 (by decide) (hts (.fieldLink RX8 66 "RecordBench" "latestFault" "I") (by decide +kernel)) (fun _ h9 => h9) rfl (by decide +kernel) rfl rfl (Nat.le_of_ble_eq_true rfl) dX8_read_18 (fun H locs hP hD hS => ?_)
    have hP : va_P (dC, dI) vwCl [(h0, .inr (10, [.ref t0, .ref r0, .ref m0, .ref x0, v4, v5, v6, v7, v8, .int 0, .int (-1), .int 0])), (r0, .inl (cR, 4, .inr (.inr (.inr (.inr fR))))), (m0, .inl (cM, 8, .inr (.inr (.inr (.inr (fun _ => none))))))] H := hP
    have hD : va_D A [(h0, .inr (10, [.ref t0, .ref r0, .ref m0, .ref x0, v4, v5, v6, v7, v8, .int 0, .int (-1), .int 0])), (r0, .inl (cR, 4, .inr (.inr (.inr (.inr fR))))), (m0, .inl (cM, 8, .inr (.inr (.inr (.inr (fun _ => none))))))] := hD
    refine lv_aload_n hx hb dX8_read_21 rfl (lv_at hl 2 rfl) ?_
    refine lv_iconst (v := (-1)) hx hb dX8_read_22 (by decide) ?_
    refine va_put (D := (dC, dI)) (ci := 10) (v := .int ((-1))) (ty := .int) (C := RX8) (T := TX8) (N := 12) hx hb hts iRX8 tyX8 tyX8_ok nmX8 hown hK hP hD hS 0 rfl rfl 10 (by decide) (hts (.fieldLink RX8 70 "RecordBench" "latestPlace" "I") (by decide +kernel)) (fun _ h9 => h9) rfl (by decide +kernel) rfl rfl (Nat.le_of_ble_eq_true rfl) dX8_read_23 (fun H locs hP hD hS => ?_)
    have hP : va_P (dC, dI) vwCl [(h0, .inr (10, [.ref t0, .ref r0, .ref m0, .ref x0, v4, v5, v6, v7, v8, .int 0, .int ((-1)), .int 0])), (r0, .inl (cR, 4, .inr (.inr (.inr (.inr fR))))), (m0, .inl (cM, 8, .inr (.inr (.inr (.inr (fun _ => none))))))] H := hP
    have hD : va_D A [(h0, .inr (10, [.ref t0, .ref r0, .ref m0, .ref x0, v4, v5, v6, v7, v8, .int 0, .int ((-1)), .int 0])), (r0, .inl (cR, 4, .inr (.inr (.inr (.inr fR))))), (m0, .inl (cM, 8, .inr (.inr (.inr (.inr (fun _ => none))))))] := hD
    refine lv_aload_n hx hb dX8_read_26 rfl (lv_at hl 1 rfl) ?_
    refine lv_ifnull hx hb dX8_read_27 ?_
    refine lv_aloadN hx hb dX8_read_30 (lv_at hl 0 rfl) ?_
    refine lv_ifnonnullN hx hb dX8_read_32 ?_
    refine lv_bipush (v := (-2)) hx hb dX8_read_35 (by decide) ?_
    have hP9 := hP.sub (ws' := []) [] rfl
    have hD9 := hD.sub (ws' := []) [] (by decide) rfl
    have hK9 := hK.sub (tys' := []) [] rfl
    exact W.iret (v := (-2)) hx hb hr (fun t ht hW => ⟨⟨(-2), (), rfl, rfl, by rw [ht]; exact hP9, va_K.moved hW.alike hK9, hD9⟩, hS.F ht⟩) hS.2.2 dX8_read_37
def wp_X8_get : List Cond := .code yX8_get cX8_get 9 (some .long) :: ([.methodLink RX8 128 yX8_recordOf, .instanceMethod yX8_recordOf, .selects RX8 yX8_recordOf yX8_recordOf, .initialized RX8, .fieldLink RX8 24 "RecordBench" "makes" "[LRecordBench$Make;", .methodLink RX8 136 yX8_makeOf, .static yX8_makeOf, .methodLink RX8 100 yX8_fieldOf, .instanceMethod yX8_fieldOf, .selects RX8 yX8_fieldOf yX8_fieldOf, .constantLong RX8 184 (-9000000000000000000), .code yX8_recordOf cX8_recordOf 2 (some (.object "RecordBench$Row")), .fieldLink RX8 18 "RecordBench" "records" "[LRecordBench$Row;", .code yX8_makeOf cX8_makeOf 2 (some (.object "RecordBench$Make")), .code yX8_fieldOf cX8_fieldOf 4 (some (.object "RecordBench$Field"))] ++ wsX80)
set_option maxRecDepth 20000 in
theorem gp_X8_get_X8_recordAny_128 : GoodIn wp_X8_get (wsV RX8 128 RX8 yX8_recordOf wp_X8_recordAny) := goodIn_p _ [12] rfl (by decide +kernel)
set_option maxRecDepth 20000 in
theorem gp_X8_get_X8_makeOf_136 : GoodIn wp_X8_get (wsS RX8 136 yX8_makeOf wp_X8_makeOf) := goodIn_p _ [14] rfl (by decide +kernel)
set_option maxRecDepth 20000 in
theorem gp_X8_get_X8_fieldOf_100 : GoodIn wp_X8_get (wsV RX8 100 RX8 yX8_fieldOf wp_X8_fieldOf) := goodIn_p _ [15, 14] rfl (by decide +kernel)
set_option maxHeartbeats 4000000 in
set_option maxRecDepth 100000 in
theorem c_X8_get (l : Launch) (dC : Nat → ClassId) (dI : Nat → Nat → Nat) (h0 : Nat) (t0 : Nat) (r0 : Nat) (m0 : Nat) (x0 : Nat) (v4 : Value) (v5 : Value) (v6 : Value) (v7 : Value) (v8 : Value) (cM : ClassId) (cR : ClassId) (fR : Nat → Option Nat) (p0 : Int32) (p1 : Int32) (p2 : Int32) (p3 : Int32) (sz : Nat) : Met l yX8_get wp_X8_get ({ frames := 2, cells := 0, slots := 0, locals := 52 }) (va_Pc [.ref h0, .int p0, .int p1, .int p2, .int p3] (Pr (dC, dI) [(cM, .object RX1), (cR, .object RX5)] [(h0, .inr (10, [.ref t0, .ref r0, .ref m0, .ref x0, v4, v5, v6, v7, v8, .int 0, .int ((-1)), .int 0])), (m0, .inl (cM, 8, .inr (.inr (.inr (.inr (fun _ => none)))))), (r0, .inl (cR, 4, .inr (.inr (.inr (.inr fR)))))] sz)) (va_Ql (fun r : Int64 => (fun _ : Unit => r = -9000000000000000000)) (Bq (dC, dI) (fun _ : Unit => []) (fun _ : Unit => []) (va_A [(h0, .inr (10, [.ref t0, .ref r0, .ref m0, .ref x0, v4, v5, v6, v7, v8, .int 0, .int ((-1)), .int 0])), (m0, .inl (cM, 8, .inr (.inr (.inr (.inr (fun _ => none)))))), (r0, .inl (cR, 4, .inr (.inr (.inr (.inr fR)))))] sz)) (va_A [(h0, .inr (10, [.ref t0, .ref r0, .ref m0, .ref x0, v4, v5, v6, v7, v8, .int 0, .int ((-1)), .int 0])), (m0, .inl (cM, 8, .inr (.inr (.inr (.inr (fun _ => none)))))), (r0, .inl (cR, 4, .inr (.inr (.inr (.inr fR)))))] sz)) 0 0 (va_A [(h0, .inr (10, [.ref t0, .ref r0, .ref m0, .ref x0, v4, v5, v6, v7, v8, .int 0, .int ((-1)), .int 0])), (m0, .inl (cM, 8, .inr (.inr (.inr (.inr (fun _ => none)))))), (r0, .inl (cR, 4, .inr (.inr (.inr (.inr fR)))))] sz) := by
  refine Met.ofW (cc := cX8_get) (maxL := 9) (ret := (some .long)) (by decide) rfl ?_
  intro p e s m args below meth c s₁ B hml hv
  obtain ⟨rfl, hsz, hP, hK, hD0, hN, hZ⟩ := hv
  have hx := B.exec
  have hb := B.bytes
  have hr := B.returns
  have hts := atoms_spec (ws := wp_X8_get) B.pre
  have hown : s.vm.findClass RX8 = some m.cls := findClass_of_methodNamed B.named
  have hlocks := B.notSynchronized
  have iRX8 : ∀ w ∈ u_ws RX8 TX8 12, w ∈ wp_X8_get := by decide +kernel
  subst hsz
  have hD := hD0.self (sz := s.heap.size)
  generalize hAe : va_A [(h0, .inr (10, [.ref t0, .ref r0, .ref m0, .ref x0, v4, v5, v6, v7, v8, .int 0, .int ((-1)), .int 0])), (m0, .inl (cM, 8, .inr (.inr (.inr (.inr (fun _ => none)))))), (r0, .inl (cR, 4, .inr (.inr (.inr (.inr fR)))))] s.heap.size = A at hD hZ ⊢
  have hA : ∀ q : Nat, s.heap.size ≤ q → A q := fun q h => by rw [← hAe]; exact Or.inr h
  have hS : va_S A s.heap s.heap [] := va_S.rf
  have hP : va_P (dC, dI) vwCl [(h0, .inr (10, [.ref t0, .ref r0, .ref m0, .ref x0, v4, v5, v6, v7, v8, .int 0, .int ((-1)), .int 0])), (m0, .inl (cM, 8, .inr (.inr (.inr (.inr (fun _ => none)))))), (r0, .inl (cR, 4, .inr (.inr (.inr (.inr fR)))))] s.heap := hP
  have hl := lv_entry ([.ref h0, .int p0, .int p1, .int p2, .int p3]) (n := 9) (Nat.le_of_ble_eq_true rfl)
  rw [lg_entry_eq]
  generalize (lg_sl ([.ref h0, .int p0, .int p1, .int p2, .int p3]) ++ List.replicate (9 - (lg_sl ([.ref h0, .int p0, .int p1, .int p2, .int p3])).length) Slot.unset).toArray = ls at hl ⊢
  have hl : lv_has ls 9 [(0, .ref h0), (1, .int p0), (2, .int p1), (3, .int p2), (4, .int p3)] := hl
  refine lv_aload_n hx hb dX8_get_0 rfl (lv_at hl 0 rfl) ?_
  refine lv_iload_n hx hb dX8_get_1 rfl (lv_at hl 1 rfl) ?_
  have hFc := va_free (wc := [(h0, .inr (10, [.ref t0, .ref r0, .ref m0, .ref x0, v4, v5, v6, v7, v8, .int 0, .int ((-1)), .int 0])), (r0, .inl (cR, 4, .inr (.inr (.inr (.inr fR)))))]) hD hS hA [0, 2] rfl
  refine va_callq (va_runV (As := [.int p0]) (rest := []) ⟨hx, hb, hml, hown, hts⟩ (c_X8_recordAny l dC dI h0 t0 r0 m0 x0 (v4) (v5) (v6) (v7) (v8) cR fR p0 s.heap.size) (cwV 1 hts gp_X8_get_X8_recordAny_128 rfl rfl rfl (by decide +kernel) ⟨Nat.le_of_ble_eq_true rfl, Nat.le_of_ble_eq_true rfl⟩) ⟨Pr.blind _, va_recv hK hP (ci := 10) (q0 := 0) rfl rfl, fun U hU hW => ⟨rfl, Pr.at (hP.sub (ws' := [(h0, .inr (10, [.ref t0, .ref r0, .ref m0, .ref x0, v4, v5, v6, v7, v8, .int 0, .int ((-1)), .int 0])), (r0, .inl (cR, 4, .inr (.inr (.inr (.inr fR)))))]) [0, 2] rfl) (hK.sub (tys' := [(cR, .object RX5)]) [1] rfl) (hD.sub (ws' := [(h0, .inr (10, [.ref t0, .ref r0, .ref m0, .ref x0, v4, v5, v6, v7, v8, .int 0, .int ((-1)), .int 0])), (r0, .inl (cR, 4, .inr (.inr (.inr (.inr fR)))))]) [0, 2] (by decide) rfl) hN hZ hS hFc hU hW⟩⟩ rfl rfl hl.1 rfl (lv_room (Nat.le_of_ble_eq_true rfl)) dX8_get_2 ⟨Nat.le_of_ble_eq_true rfl, Nat.le_of_ble_eq_true rfl⟩) hS (fun q _ h => hFc q h) hFc (fun r_1 u t H1 locs ht hvm hw_2 hB hz1 hk1 hS => ?_)
  obtain ⟨hP, hD, hK⟩ := Bq.join (wr := [(m0, .inl (cM, 8, .inr (.inr (.inr (.inr (fun _ => none))))))]) hB ht hvm hP hD [0, 2] [1] rfl rfl (by decide) (by decide) hk1 hFc hK
  generalize H1 = H at hP hS ⊢
  have hP : va_P (dC, dI) vwCl [(m0, .inl (cM, 8, .inr (.inr (.inr (.inr (fun _ => none)))))), (h0, .inr (10, [.ref t0, .ref r0, .ref m0, .ref x0, v4, v5, v6, v7, v8, .int 0, .int (-1), .int 0])), (r0, .inl (cR, 4, .inr (.inr (.inr (.inr fR)))))] H := hP
  have hD : va_D A [(m0, .inl (cM, 8, .inr (.inr (.inr (.inr (fun _ => none)))))), (h0, .inr (10, [.ref t0, .ref r0, .ref m0, .ref x0, v4, v5, v6, v7, v8, .int 0, .int (-1), .int 0])), (r0, .inl (cR, 4, .inr (.inr (.inr (.inr fR)))))] := hD
  have hK : va_K (dC, dI) vwCl [(cM, .object RX1), (cR, .object RX5)] s := hK
  try dsimp only at hw_2
  rcases r_1 with _ | a_3
  · refine W.eq (g2 := F0 m 5 ls [.null]) rfl ?_
    refine lv_astoreN (lv' := [(5, .null), (0, .ref h0), (1, .int p0), (2, .int p1), (3, .int p2), (4, .int p3)]) hx hb dX8_get_5 hl (by decide) rfl (fun ls hl => ?_)
    refine lv_aload_n hx hb dX8_get_7 rfl (lv_at hl 1 rfl) ?_
    refine va_get (D := (dC, dI)) (ci := 10) (v := .ref m0) (C := RX8) (T := TX8) (N := 12) hx hb hts iRX8 hown hK hP 1 rfl rfl 2 (by decide) (hts (.fieldLink RX8 24 "RecordBench" "makes" "[LRecordBench$Make;") (by decide +kernel)) (fun _ h9 => h9) rfl dX8_get_8 ?_
    refine lv_iload_n hx hb dX8_get_11 rfl (lv_at hl 3 rfl) ?_
    have hFc := va_free (wc := [(m0, .inl (cM, 8, .inr (.inr (.inr (.inr (fun _ => none))))))]) hD hS hA [0] rfl
    refine va_callq (va_runS (As := [.ref m0, .int p1]) (rest := []) ⟨hx, hb, hml, hown, hts⟩ (c_X8_makeOf l dC dI m0 p1 cM H.size) (cwS 2 hts gp_X8_get_X8_makeOf_136 rfl rfl rfl (by decide +kernel) ⟨Nat.le_of_ble_eq_true rfl, Nat.le_of_ble_eq_true rfl⟩) ⟨Pr.blind _, fun U hU hW => ⟨rfl, Pr.at (hP.sub (ws' := [(m0, .inl (cM, 8, .inr (.inr (.inr (.inr (fun _ => none))))))]) [0] rfl) (hK.sub (tys' := [(cM, .object RX1)]) [0] rfl) (hD.sub (ws' := [(m0, .inl (cM, 8, .inr (.inr (.inr (.inr (fun _ => none))))))]) [0] (by decide) rfl) hN hZ hS hFc hU hW⟩⟩ rfl rfl hl.1 rfl (lv_room (Nat.le_of_ble_eq_true rfl)) dX8_get_12 ⟨Nat.le_of_ble_eq_true rfl, Nat.le_of_ble_eq_true rfl⟩) hS (fun q _ h => hFc q h) hFc (fun r_4 u t H1 locs ht hvm hw_5 hB hz1 hk1 hS => ?_)
    obtain ⟨hP, hD, hK⟩ := Bq.join (wr := [(h0, .inr (10, [.ref t0, .ref r0, .ref m0, .ref x0, v4, v5, v6, v7, v8, .int 0, .int (-1), .int 0])), (r0, .inl (cR, 4, .inr (.inr (.inr (.inr fR)))))]) hB ht hvm hP hD [0] [1, 2] rfl rfl (by decide) (by decide) hk1 hFc hK
    generalize H1 = H at hP hS ⊢
    have hP : va_P (dC, dI) vwCl [(h0, .inr (10, [.ref t0, .ref r0, .ref m0, .ref x0, v4, v5, v6, v7, v8, .int 0, .int (-1), .int 0])), (r0, .inl (cR, 4, .inr (.inr (.inr (.inr fR))))), (m0, .inl (cM, 8, .inr (.inr (.inr (.inr (fun _ => none))))))] H := hP
    have hD : va_D A [(h0, .inr (10, [.ref t0, .ref r0, .ref m0, .ref x0, v4, v5, v6, v7, v8, .int 0, .int (-1), .int 0])), (r0, .inl (cR, 4, .inr (.inr (.inr (.inr fR))))), (m0, .inl (cM, 8, .inr (.inr (.inr (.inr (fun _ => none))))))] := hD
    have hK : va_K (dC, dI) vwCl [(cM, .object RX1), (cR, .object RX5)] s := hK
    try dsimp only at hw_5
    have k_6 := hw_5
    subst k_6
    refine W.eq (g2 := F0 m 15 ls [.null]) rfl ?_
    refine lv_astoreN (lv' := [(6, .null), (5, .null), (0, .ref h0), (1, .int p0), (2, .int p1), (3, .int p2), (4, .int p3)]) hx hb dX8_get_15 hl (by decide) rfl (fun ls hl => ?_)
    refine lv_aload_n hx hb dX8_get_17 rfl (lv_at hl 2 rfl) ?_
    refine lv_iload_n hx hb dX8_get_18 rfl (lv_at hl 4 rfl) ?_
    refine lv_iload_n hx hb dX8_get_19 rfl (lv_at hl 5 rfl) ?_
    have hFc := va_free (wc := [(h0, .inr (10, [.ref t0, .ref r0, .ref m0, .ref x0, v4, v5, v6, v7, v8, .int 0, .int (-1), .int 0])), (m0, .inl (cM, 8, .inr (.inr (.inr (.inr (fun _ => none))))))]) hD hS hA [0, 2] rfl
    refine va_callq (va_runV (As := [.int p1, .int p2]) (rest := []) ⟨hx, hb, hml, hown, hts⟩ (c_X8_fieldOf l dC dI h0 t0 r0 m0 x0 (v4) (v5) (v6) (v7) (v8) cM p1 p2 H.size) (cwV 2 hts gp_X8_get_X8_fieldOf_100 rfl rfl rfl (by decide +kernel) ⟨Nat.le_of_ble_eq_true rfl, Nat.le_of_ble_eq_true rfl⟩) ⟨Pr.blind _, va_recv hK hP (ci := 10) (q0 := 0) rfl rfl, fun U hU hW => ⟨rfl, Pr.at (hP.sub (ws' := [(h0, .inr (10, [.ref t0, .ref r0, .ref m0, .ref x0, v4, v5, v6, v7, v8, .int 0, .int (-1), .int 0])), (m0, .inl (cM, 8, .inr (.inr (.inr (.inr (fun _ => none))))))]) [0, 2] rfl) (hK.sub (tys' := [(cM, .object RX1)]) [0] rfl) (hD.sub (ws' := [(h0, .inr (10, [.ref t0, .ref r0, .ref m0, .ref x0, v4, v5, v6, v7, v8, .int 0, .int (-1), .int 0])), (m0, .inl (cM, 8, .inr (.inr (.inr (.inr (fun _ => none))))))]) [0, 2] (by decide) rfl) hN hZ hS hFc hU hW⟩⟩ rfl rfl hl.1 rfl (lv_room (Nat.le_of_ble_eq_true rfl)) dX8_get_20 ⟨Nat.le_of_ble_eq_true rfl, Nat.le_of_ble_eq_true rfl⟩) hS (fun q _ h => hFc q h) hFc (fun r_7 u t H1 locs ht hvm hw_8 hB hz1 hk1 hS => ?_)
    obtain ⟨hP, hD, hK⟩ := Bq.join (wr := [(r0, .inl (cR, 4, .inr (.inr (.inr (.inr fR)))))]) hB ht hvm hP hD [0, 2] [1] rfl rfl (by decide) (by decide) hk1 hFc hK
    generalize H1 = H at hP hS ⊢
    have hP : va_P (dC, dI) vwCl [(r0, .inl (cR, 4, .inr (.inr (.inr (.inr fR))))), (h0, .inr (10, [.ref t0, .ref r0, .ref m0, .ref x0, v4, v5, v6, v7, v8, .int 0, .int (-1), .int 0])), (m0, .inl (cM, 8, .inr (.inr (.inr (.inr (fun _ => none))))))] H := hP
    have hD : va_D A [(r0, .inl (cR, 4, .inr (.inr (.inr (.inr fR))))), (h0, .inr (10, [.ref t0, .ref r0, .ref m0, .ref x0, v4, v5, v6, v7, v8, .int 0, .int (-1), .int 0])), (m0, .inl (cM, 8, .inr (.inr (.inr (.inr (fun _ => none))))))] := hD
    have hK : va_K (dC, dI) vwCl [(cM, .object RX1), (cR, .object RX5)] s := hK
    try dsimp only at hw_8
    have k_9 := hw_8
    subst k_9
    refine W.eq (g2 := F0 m 23 ls [.null]) rfl ?_
    refine lv_astoreN (lv' := [(7, .null), (6, .null), (5, .null), (0, .ref h0), (1, .int p0), (2, .int p1), (3, .int p2), (4, .int p3)]) hx hb dX8_get_23 hl (by decide) rfl (fun ls hl => ?_)
    refine lv_aloadN hx hb dX8_get_25 (lv_at hl 2 rfl) ?_
    refine lv_ifnullN (tgt := 51) hx hb dX8_get_27 (by decide) ?_
    refine lv_ldc2 hx hb hown (hts (.constantLong RX8 184 (-9000000000000000000)) (by decide +kernel)) dX8_get_51 ?_
    have hP9 := hP.sub (ws' := []) [] rfl
    have hD9 := hD.sub (ws' := []) [] (by decide) rfl
    have hK9 := hK.sub (tys' := []) [] rfl
    exact W.lret (v := (-9000000000000000000)) hx hb hr (fun t ht hW => ⟨⟨(-9000000000000000000), (), rfl, rfl, by rw [ht]; exact hP9, va_K.moved hW.alike hK9, hD9⟩, hS.F ht⟩) hS.2.2 dX8_get_54
  · refine W.eq (g2 := F0 m 5 ls [.ref a_3]) rfl ?_
    refine lv_astore (lv' := [(5, .ref a_3), (0, .ref h0), (1, .int p0), (2, .int p1), (3, .int p2), (4, .int p3)]) hx hb dX8_get_5 hl (by decide) rfl (fun ls hl => ?_)
    refine lv_aload_n hx hb dX8_get_7 rfl (lv_at hl 1 rfl) ?_
    refine va_get (D := (dC, dI)) (ci := 10) (v := .ref m0) (C := RX8) (T := TX8) (N := 12) hx hb hts iRX8 hown hK hP 1 rfl rfl 2 (by decide) (hts (.fieldLink RX8 24 "RecordBench" "makes" "[LRecordBench$Make;") (by decide +kernel)) (fun _ h9 => h9) rfl dX8_get_8 ?_
    refine lv_iload_n hx hb dX8_get_11 rfl (lv_at hl 3 rfl) ?_
    have hFc := va_free (wc := [(m0, .inl (cM, 8, .inr (.inr (.inr (.inr (fun _ => none))))))]) hD hS hA [0] rfl
    refine va_callq (va_runS (As := [.ref m0, .int p1]) (rest := []) ⟨hx, hb, hml, hown, hts⟩ (c_X8_makeOf l dC dI m0 p1 cM H.size) (cwS 2 hts gp_X8_get_X8_makeOf_136 rfl rfl rfl (by decide +kernel) ⟨Nat.le_of_ble_eq_true rfl, Nat.le_of_ble_eq_true rfl⟩) ⟨Pr.blind _, fun U hU hW => ⟨rfl, Pr.at (hP.sub (ws' := [(m0, .inl (cM, 8, .inr (.inr (.inr (.inr (fun _ => none))))))]) [0] rfl) (hK.sub (tys' := [(cM, .object RX1)]) [0] rfl) (hD.sub (ws' := [(m0, .inl (cM, 8, .inr (.inr (.inr (.inr (fun _ => none))))))]) [0] (by decide) rfl) hN hZ hS hFc hU hW⟩⟩ rfl rfl hl.1 rfl (lv_room (Nat.le_of_ble_eq_true rfl)) dX8_get_12 ⟨Nat.le_of_ble_eq_true rfl, Nat.le_of_ble_eq_true rfl⟩) hS (fun q _ h => hFc q h) hFc (fun r_10 u t H1 locs ht hvm hw_11 hB hz1 hk1 hS => ?_)
    obtain ⟨hP, hD, hK⟩ := Bq.join (wr := [(h0, .inr (10, [.ref t0, .ref r0, .ref m0, .ref x0, v4, v5, v6, v7, v8, .int 0, .int (-1), .int 0])), (r0, .inl (cR, 4, .inr (.inr (.inr (.inr fR)))))]) hB ht hvm hP hD [0] [1, 2] rfl rfl (by decide) (by decide) hk1 hFc hK
    generalize H1 = H at hP hS ⊢
    have hP : va_P (dC, dI) vwCl [(h0, .inr (10, [.ref t0, .ref r0, .ref m0, .ref x0, v4, v5, v6, v7, v8, .int 0, .int (-1), .int 0])), (r0, .inl (cR, 4, .inr (.inr (.inr (.inr fR))))), (m0, .inl (cM, 8, .inr (.inr (.inr (.inr (fun _ => none))))))] H := hP
    have hD : va_D A [(h0, .inr (10, [.ref t0, .ref r0, .ref m0, .ref x0, v4, v5, v6, v7, v8, .int 0, .int (-1), .int 0])), (r0, .inl (cR, 4, .inr (.inr (.inr (.inr fR))))), (m0, .inl (cM, 8, .inr (.inr (.inr (.inr (fun _ => none))))))] := hD
    have hK : va_K (dC, dI) vwCl [(cM, .object RX1), (cR, .object RX5)] s := hK
    try dsimp only at hw_11
    have k_12 := hw_11
    subst k_12
    refine W.eq (g2 := F0 m 15 ls [.null]) rfl ?_
    refine lv_astoreN (lv' := [(6, .null), (5, .ref a_3), (0, .ref h0), (1, .int p0), (2, .int p1), (3, .int p2), (4, .int p3)]) hx hb dX8_get_15 hl (by decide) rfl (fun ls hl => ?_)
    refine lv_aload_n hx hb dX8_get_17 rfl (lv_at hl 2 rfl) ?_
    refine lv_iload_n hx hb dX8_get_18 rfl (lv_at hl 4 rfl) ?_
    refine lv_iload_n hx hb dX8_get_19 rfl (lv_at hl 5 rfl) ?_
    have hFc := va_free (wc := [(h0, .inr (10, [.ref t0, .ref r0, .ref m0, .ref x0, v4, v5, v6, v7, v8, .int 0, .int (-1), .int 0])), (m0, .inl (cM, 8, .inr (.inr (.inr (.inr (fun _ => none))))))]) hD hS hA [0, 2] rfl
    refine va_callq (va_runV (As := [.int p1, .int p2]) (rest := []) ⟨hx, hb, hml, hown, hts⟩ (c_X8_fieldOf l dC dI h0 t0 r0 m0 x0 (v4) (v5) (v6) (v7) (v8) cM p1 p2 H.size) (cwV 2 hts gp_X8_get_X8_fieldOf_100 rfl rfl rfl (by decide +kernel) ⟨Nat.le_of_ble_eq_true rfl, Nat.le_of_ble_eq_true rfl⟩) ⟨Pr.blind _, va_recv hK hP (ci := 10) (q0 := 0) rfl rfl, fun U hU hW => ⟨rfl, Pr.at (hP.sub (ws' := [(h0, .inr (10, [.ref t0, .ref r0, .ref m0, .ref x0, v4, v5, v6, v7, v8, .int 0, .int (-1), .int 0])), (m0, .inl (cM, 8, .inr (.inr (.inr (.inr (fun _ => none))))))]) [0, 2] rfl) (hK.sub (tys' := [(cM, .object RX1)]) [0] rfl) (hD.sub (ws' := [(h0, .inr (10, [.ref t0, .ref r0, .ref m0, .ref x0, v4, v5, v6, v7, v8, .int 0, .int (-1), .int 0])), (m0, .inl (cM, 8, .inr (.inr (.inr (.inr (fun _ => none))))))]) [0, 2] (by decide) rfl) hN hZ hS hFc hU hW⟩⟩ rfl rfl hl.1 rfl (lv_room (Nat.le_of_ble_eq_true rfl)) dX8_get_20 ⟨Nat.le_of_ble_eq_true rfl, Nat.le_of_ble_eq_true rfl⟩) hS (fun q _ h => hFc q h) hFc (fun r_13 u t H1 locs ht hvm hw_14 hB hz1 hk1 hS => ?_)
    obtain ⟨hP, hD, hK⟩ := Bq.join (wr := [(r0, .inl (cR, 4, .inr (.inr (.inr (.inr fR)))))]) hB ht hvm hP hD [0, 2] [1] rfl rfl (by decide) (by decide) hk1 hFc hK
    generalize H1 = H at hP hS ⊢
    have hP : va_P (dC, dI) vwCl [(r0, .inl (cR, 4, .inr (.inr (.inr (.inr fR))))), (h0, .inr (10, [.ref t0, .ref r0, .ref m0, .ref x0, v4, v5, v6, v7, v8, .int 0, .int (-1), .int 0])), (m0, .inl (cM, 8, .inr (.inr (.inr (.inr (fun _ => none))))))] H := hP
    have hD : va_D A [(r0, .inl (cR, 4, .inr (.inr (.inr (.inr fR))))), (h0, .inr (10, [.ref t0, .ref r0, .ref m0, .ref x0, v4, v5, v6, v7, v8, .int 0, .int (-1), .int 0])), (m0, .inl (cM, 8, .inr (.inr (.inr (.inr (fun _ => none))))))] := hD
    have hK : va_K (dC, dI) vwCl [(cM, .object RX1), (cR, .object RX5)] s := hK
    try dsimp only at hw_14
    have k_15 := hw_14
    subst k_15
    refine W.eq (g2 := F0 m 23 ls [.null]) rfl ?_
    refine lv_astoreN (lv' := [(7, .null), (6, .null), (5, .ref a_3), (0, .ref h0), (1, .int p0), (2, .int p1), (3, .int p2), (4, .int p3)]) hx hb dX8_get_23 hl (by decide) rfl (fun ls hl => ?_)
    refine lv_aload hx hb dX8_get_25 (lv_at hl 2 rfl) ?_
    refine lv_ifnull hx hb dX8_get_27 ?_
    refine lv_aloadN hx hb dX8_get_30 (lv_at hl 1 rfl) ?_
    refine lv_ifnullN (tgt := 51) hx hb dX8_get_32 (by decide) ?_
    refine lv_ldc2 hx hb hown (hts (.constantLong RX8 184 (-9000000000000000000)) (by decide +kernel)) dX8_get_51 ?_
    have hP9 := hP.sub (ws' := []) [] rfl
    have hD9 := hD.sub (ws' := []) [] (by decide) rfl
    have hK9 := hK.sub (tys' := []) [] rfl
    exact W.lret (v := (-9000000000000000000)) hx hb hr (fun t ht hW => ⟨⟨(-9000000000000000000), (), rfl, rfl, by rw [ht]; exact hP9, va_K.moved hW.alike hK9, hD9⟩, hS.F ht⟩) hS.2.2 dX8_get_54
def wp_X8_kept : List Cond := .code yX8_kept cX8_kept 5 (some .int) :: ([.methodLink RX8 128 yX8_recordOf, .instanceMethod yX8_recordOf, .selects RX8 yX8_recordOf yX8_recordOf, .initialized RX8, .fieldLink RX8 24 "RecordBench" "makes" "[LRecordBench$Make;", .methodLink RX8 136 yX8_makeOf, .static yX8_makeOf, .code yX8_recordOf cX8_recordOf 2 (some (.object "RecordBench$Row")), .fieldLink RX8 18 "RecordBench" "records" "[LRecordBench$Row;", .code yX8_makeOf cX8_makeOf 2 (some (.object "RecordBench$Make"))] ++ wsX80)
set_option maxRecDepth 20000 in
theorem gp_X8_kept_X8_recordAny_128 : GoodIn wp_X8_kept (wsV RX8 128 RX8 yX8_recordOf wp_X8_recordAny) := goodIn_p _ [8] rfl (by decide +kernel)
set_option maxRecDepth 20000 in
theorem gp_X8_kept_X8_makeOf_136 : GoodIn wp_X8_kept (wsS RX8 136 yX8_makeOf wp_X8_makeOf) := goodIn_p _ [10] rfl (by decide +kernel)
set_option maxHeartbeats 4000000 in
set_option maxRecDepth 100000 in
theorem c_X8_kept (l : Launch) (dC : Nat → ClassId) (dI : Nat → Nat → Nat) (h0 : Nat) (t0 : Nat) (r0 : Nat) (m0 : Nat) (x0 : Nat) (v4 : Value) (v5 : Value) (v6 : Value) (v7 : Value) (v8 : Value) (cM : ClassId) (cR : ClassId) (fR : Nat → Option Nat) (p0 : Int32) (p1 : Int32) (sz : Nat) : Met l yX8_kept wp_X8_kept ({ frames := 1, cells := 0, slots := 0, locals := 25 }) (va_Pc [.ref h0, .int p0, .int p1] (Pr (dC, dI) [(cM, .object RX1), (cR, .object RX5)] [(h0, .inr (10, [.ref t0, .ref r0, .ref m0, .ref x0, v4, v5, v6, v7, v8, .int 0, .int ((-1)), .int 0])), (m0, .inl (cM, 8, .inr (.inr (.inr (.inr (fun _ => none)))))), (r0, .inl (cR, 4, .inr (.inr (.inr (.inr fR)))))] sz)) (va_Qi (fun r : Int32 => (fun _ : Unit => r = -1)) (Bq (dC, dI) (fun _ : Unit => []) (fun _ : Unit => []) (va_A [(h0, .inr (10, [.ref t0, .ref r0, .ref m0, .ref x0, v4, v5, v6, v7, v8, .int 0, .int ((-1)), .int 0])), (m0, .inl (cM, 8, .inr (.inr (.inr (.inr (fun _ => none)))))), (r0, .inl (cR, 4, .inr (.inr (.inr (.inr fR)))))] sz)) (va_A [(h0, .inr (10, [.ref t0, .ref r0, .ref m0, .ref x0, v4, v5, v6, v7, v8, .int 0, .int ((-1)), .int 0])), (m0, .inl (cM, 8, .inr (.inr (.inr (.inr (fun _ => none)))))), (r0, .inl (cR, 4, .inr (.inr (.inr (.inr fR)))))] sz)) 0 0 (va_A [(h0, .inr (10, [.ref t0, .ref r0, .ref m0, .ref x0, v4, v5, v6, v7, v8, .int 0, .int ((-1)), .int 0])), (m0, .inl (cM, 8, .inr (.inr (.inr (.inr (fun _ => none)))))), (r0, .inl (cR, 4, .inr (.inr (.inr (.inr fR)))))] sz) := by
  refine Met.ofW (cc := cX8_kept) (maxL := 5) (ret := (some .int)) (by decide) rfl ?_
  intro p e s m args below meth c s₁ B hml hv
  obtain ⟨rfl, hsz, hP, hK, hD0, hN, hZ⟩ := hv
  have hx := B.exec
  have hb := B.bytes
  have hr := B.returns
  have hts := atoms_spec (ws := wp_X8_kept) B.pre
  have hown : s.vm.findClass RX8 = some m.cls := findClass_of_methodNamed B.named
  have hlocks := B.notSynchronized
  have iRX8 : ∀ w ∈ u_ws RX8 TX8 12, w ∈ wp_X8_kept := by decide +kernel
  subst hsz
  have hD := hD0.self (sz := s.heap.size)
  generalize hAe : va_A [(h0, .inr (10, [.ref t0, .ref r0, .ref m0, .ref x0, v4, v5, v6, v7, v8, .int 0, .int ((-1)), .int 0])), (m0, .inl (cM, 8, .inr (.inr (.inr (.inr (fun _ => none)))))), (r0, .inl (cR, 4, .inr (.inr (.inr (.inr fR)))))] s.heap.size = A at hD hZ ⊢
  have hA : ∀ q : Nat, s.heap.size ≤ q → A q := fun q h => by rw [← hAe]; exact Or.inr h
  have hS : va_S A s.heap s.heap [] := va_S.rf
  have hP : va_P (dC, dI) vwCl [(h0, .inr (10, [.ref t0, .ref r0, .ref m0, .ref x0, v4, v5, v6, v7, v8, .int 0, .int ((-1)), .int 0])), (m0, .inl (cM, 8, .inr (.inr (.inr (.inr (fun _ => none)))))), (r0, .inl (cR, 4, .inr (.inr (.inr (.inr fR)))))] s.heap := hP
  have hl := lv_entry ([.ref h0, .int p0, .int p1]) (n := 5) (Nat.le_of_ble_eq_true rfl)
  rw [lg_entry_eq]
  generalize (lg_sl ([.ref h0, .int p0, .int p1]) ++ List.replicate (5 - (lg_sl ([.ref h0, .int p0, .int p1])).length) Slot.unset).toArray = ls at hl ⊢
  have hl : lv_has ls 5 [(0, .ref h0), (1, .int p0), (2, .int p1)] := hl
  refine lv_aload_n hx hb dX8_kept_0 rfl (lv_at hl 0 rfl) ?_
  refine lv_iload_n hx hb dX8_kept_1 rfl (lv_at hl 1 rfl) ?_
  have hFc := va_free (wc := [(h0, .inr (10, [.ref t0, .ref r0, .ref m0, .ref x0, v4, v5, v6, v7, v8, .int 0, .int ((-1)), .int 0])), (r0, .inl (cR, 4, .inr (.inr (.inr (.inr fR)))))]) hD hS hA [0, 2] rfl
  refine va_callq (va_runV (As := [.int p0]) (rest := []) ⟨hx, hb, hml, hown, hts⟩ (c_X8_recordAny l dC dI h0 t0 r0 m0 x0 (v4) (v5) (v6) (v7) (v8) cR fR p0 s.heap.size) (cwV 1 hts gp_X8_kept_X8_recordAny_128 rfl rfl rfl (by decide +kernel) ⟨Nat.le_of_ble_eq_true rfl, Nat.le_of_ble_eq_true rfl⟩) ⟨Pr.blind _, va_recv hK hP (ci := 10) (q0 := 0) rfl rfl, fun U hU hW => ⟨rfl, Pr.at (hP.sub (ws' := [(h0, .inr (10, [.ref t0, .ref r0, .ref m0, .ref x0, v4, v5, v6, v7, v8, .int 0, .int ((-1)), .int 0])), (r0, .inl (cR, 4, .inr (.inr (.inr (.inr fR)))))]) [0, 2] rfl) (hK.sub (tys' := [(cR, .object RX5)]) [1] rfl) (hD.sub (ws' := [(h0, .inr (10, [.ref t0, .ref r0, .ref m0, .ref x0, v4, v5, v6, v7, v8, .int 0, .int ((-1)), .int 0])), (r0, .inl (cR, 4, .inr (.inr (.inr (.inr fR)))))]) [0, 2] (by decide) rfl) hN hZ hS hFc hU hW⟩⟩ rfl rfl hl.1 rfl (lv_room (Nat.le_of_ble_eq_true rfl)) dX8_kept_2 ⟨Nat.le_of_ble_eq_true rfl, Nat.le_of_ble_eq_true rfl⟩) hS (fun q _ h => hFc q h) hFc (fun r_1 u t H1 locs ht hvm hw_2 hB hz1 hk1 hS => ?_)
  obtain ⟨hP, hD, hK⟩ := Bq.join (wr := [(m0, .inl (cM, 8, .inr (.inr (.inr (.inr (fun _ => none))))))]) hB ht hvm hP hD [0, 2] [1] rfl rfl (by decide) (by decide) hk1 hFc hK
  generalize H1 = H at hP hS ⊢
  have hP : va_P (dC, dI) vwCl [(m0, .inl (cM, 8, .inr (.inr (.inr (.inr (fun _ => none)))))), (h0, .inr (10, [.ref t0, .ref r0, .ref m0, .ref x0, v4, v5, v6, v7, v8, .int 0, .int (-1), .int 0])), (r0, .inl (cR, 4, .inr (.inr (.inr (.inr fR)))))] H := hP
  have hD : va_D A [(m0, .inl (cM, 8, .inr (.inr (.inr (.inr (fun _ => none)))))), (h0, .inr (10, [.ref t0, .ref r0, .ref m0, .ref x0, v4, v5, v6, v7, v8, .int 0, .int (-1), .int 0])), (r0, .inl (cR, 4, .inr (.inr (.inr (.inr fR)))))] := hD
  have hK : va_K (dC, dI) vwCl [(cM, .object RX1), (cR, .object RX5)] s := hK
  try dsimp only at hw_2
  rcases r_1 with _ | a_3
  · refine W.eq (g2 := F0 m 5 ls [.null]) rfl ?_
    refine lv_astore_nN (lv' := [(3, .null), (0, .ref h0), (1, .int p0), (2, .int p1)]) hx hb dX8_kept_5 rfl hl (by decide) rfl (fun ls hl => ?_)
    refine lv_aload_n hx hb dX8_kept_6 rfl (lv_at hl 1 rfl) ?_
    refine va_get (D := (dC, dI)) (ci := 10) (v := .ref m0) (C := RX8) (T := TX8) (N := 12) hx hb hts iRX8 hown hK hP 1 rfl rfl 2 (by decide) (hts (.fieldLink RX8 24 "RecordBench" "makes" "[LRecordBench$Make;") (by decide +kernel)) (fun _ h9 => h9) rfl dX8_kept_7 ?_
    refine lv_iload_n hx hb dX8_kept_10 rfl (lv_at hl 3 rfl) ?_
    have hFc := va_free (wc := [(m0, .inl (cM, 8, .inr (.inr (.inr (.inr (fun _ => none))))))]) hD hS hA [0] rfl
    refine va_callq (va_runS (As := [.ref m0, .int p1]) (rest := []) ⟨hx, hb, hml, hown, hts⟩ (c_X8_makeOf l dC dI m0 p1 cM H.size) (cwS 2 hts gp_X8_kept_X8_makeOf_136 rfl rfl rfl (by decide +kernel) ⟨Nat.le_of_ble_eq_true rfl, Nat.le_of_ble_eq_true rfl⟩) ⟨Pr.blind _, fun U hU hW => ⟨rfl, Pr.at (hP.sub (ws' := [(m0, .inl (cM, 8, .inr (.inr (.inr (.inr (fun _ => none))))))]) [0] rfl) (hK.sub (tys' := [(cM, .object RX1)]) [0] rfl) (hD.sub (ws' := [(m0, .inl (cM, 8, .inr (.inr (.inr (.inr (fun _ => none))))))]) [0] (by decide) rfl) hN hZ hS hFc hU hW⟩⟩ rfl rfl hl.1 rfl (lv_room (Nat.le_of_ble_eq_true rfl)) dX8_kept_11 ⟨Nat.le_of_ble_eq_true rfl, Nat.le_of_ble_eq_true rfl⟩) hS (fun q _ h => hFc q h) hFc (fun r_4 u t H1 locs ht hvm hw_5 hB hz1 hk1 hS => ?_)
    obtain ⟨hP, hD, hK⟩ := Bq.join (wr := [(h0, .inr (10, [.ref t0, .ref r0, .ref m0, .ref x0, v4, v5, v6, v7, v8, .int 0, .int (-1), .int 0])), (r0, .inl (cR, 4, .inr (.inr (.inr (.inr fR)))))]) hB ht hvm hP hD [0] [1, 2] rfl rfl (by decide) (by decide) hk1 hFc hK
    generalize H1 = H at hP hS ⊢
    have hP : va_P (dC, dI) vwCl [(h0, .inr (10, [.ref t0, .ref r0, .ref m0, .ref x0, v4, v5, v6, v7, v8, .int 0, .int (-1), .int 0])), (r0, .inl (cR, 4, .inr (.inr (.inr (.inr fR))))), (m0, .inl (cM, 8, .inr (.inr (.inr (.inr (fun _ => none))))))] H := hP
    have hD : va_D A [(h0, .inr (10, [.ref t0, .ref r0, .ref m0, .ref x0, v4, v5, v6, v7, v8, .int 0, .int (-1), .int 0])), (r0, .inl (cR, 4, .inr (.inr (.inr (.inr fR))))), (m0, .inl (cM, 8, .inr (.inr (.inr (.inr (fun _ => none))))))] := hD
    have hK : va_K (dC, dI) vwCl [(cM, .object RX1), (cR, .object RX5)] s := hK
    try dsimp only at hw_5
    have k_6 := hw_5
    subst k_6
    refine W.eq (g2 := F0 m 14 ls [.null]) rfl ?_
    refine lv_astoreN (lv' := [(4, .null), (3, .null), (0, .ref h0), (1, .int p0), (2, .int p1)]) hx hb dX8_kept_14 hl (by decide) rfl (fun ls hl => ?_)
    refine lv_aload_nN hx hb dX8_kept_16 rfl (lv_at hl 1 rfl) ?_
    refine lv_ifnullN (tgt := 38) hx hb dX8_kept_17 (by decide) ?_
    refine lv_iconst (v := (-1)) hx hb dX8_kept_38 (by decide) ?_
    have hP9 := hP.sub (ws' := []) [] rfl
    have hD9 := hD.sub (ws' := []) [] (by decide) rfl
    have hK9 := hK.sub (tys' := []) [] rfl
    exact W.iret (v := (-1)) hx hb hr (fun t ht hW => ⟨⟨(-1), (), rfl, rfl, by rw [ht]; exact hP9, va_K.moved hW.alike hK9, hD9⟩, hS.F ht⟩) hS.2.2 dX8_kept_39
  · refine W.eq (g2 := F0 m 5 ls [.ref a_3]) rfl ?_
    refine lv_astore_n (lv' := [(3, .ref a_3), (0, .ref h0), (1, .int p0), (2, .int p1)]) hx hb dX8_kept_5 rfl hl (by decide) rfl (fun ls hl => ?_)
    refine lv_aload_n hx hb dX8_kept_6 rfl (lv_at hl 1 rfl) ?_
    refine va_get (D := (dC, dI)) (ci := 10) (v := .ref m0) (C := RX8) (T := TX8) (N := 12) hx hb hts iRX8 hown hK hP 1 rfl rfl 2 (by decide) (hts (.fieldLink RX8 24 "RecordBench" "makes" "[LRecordBench$Make;") (by decide +kernel)) (fun _ h9 => h9) rfl dX8_kept_7 ?_
    refine lv_iload_n hx hb dX8_kept_10 rfl (lv_at hl 3 rfl) ?_
    have hFc := va_free (wc := [(m0, .inl (cM, 8, .inr (.inr (.inr (.inr (fun _ => none))))))]) hD hS hA [0] rfl
    refine va_callq (va_runS (As := [.ref m0, .int p1]) (rest := []) ⟨hx, hb, hml, hown, hts⟩ (c_X8_makeOf l dC dI m0 p1 cM H.size) (cwS 2 hts gp_X8_kept_X8_makeOf_136 rfl rfl rfl (by decide +kernel) ⟨Nat.le_of_ble_eq_true rfl, Nat.le_of_ble_eq_true rfl⟩) ⟨Pr.blind _, fun U hU hW => ⟨rfl, Pr.at (hP.sub (ws' := [(m0, .inl (cM, 8, .inr (.inr (.inr (.inr (fun _ => none))))))]) [0] rfl) (hK.sub (tys' := [(cM, .object RX1)]) [0] rfl) (hD.sub (ws' := [(m0, .inl (cM, 8, .inr (.inr (.inr (.inr (fun _ => none))))))]) [0] (by decide) rfl) hN hZ hS hFc hU hW⟩⟩ rfl rfl hl.1 rfl (lv_room (Nat.le_of_ble_eq_true rfl)) dX8_kept_11 ⟨Nat.le_of_ble_eq_true rfl, Nat.le_of_ble_eq_true rfl⟩) hS (fun q _ h => hFc q h) hFc (fun r_7 u t H1 locs ht hvm hw_8 hB hz1 hk1 hS => ?_)
    obtain ⟨hP, hD, hK⟩ := Bq.join (wr := [(h0, .inr (10, [.ref t0, .ref r0, .ref m0, .ref x0, v4, v5, v6, v7, v8, .int 0, .int (-1), .int 0])), (r0, .inl (cR, 4, .inr (.inr (.inr (.inr fR)))))]) hB ht hvm hP hD [0] [1, 2] rfl rfl (by decide) (by decide) hk1 hFc hK
    generalize H1 = H at hP hS ⊢
    have hP : va_P (dC, dI) vwCl [(h0, .inr (10, [.ref t0, .ref r0, .ref m0, .ref x0, v4, v5, v6, v7, v8, .int 0, .int (-1), .int 0])), (r0, .inl (cR, 4, .inr (.inr (.inr (.inr fR))))), (m0, .inl (cM, 8, .inr (.inr (.inr (.inr (fun _ => none))))))] H := hP
    have hD : va_D A [(h0, .inr (10, [.ref t0, .ref r0, .ref m0, .ref x0, v4, v5, v6, v7, v8, .int 0, .int (-1), .int 0])), (r0, .inl (cR, 4, .inr (.inr (.inr (.inr fR))))), (m0, .inl (cM, 8, .inr (.inr (.inr (.inr (fun _ => none))))))] := hD
    have hK : va_K (dC, dI) vwCl [(cM, .object RX1), (cR, .object RX5)] s := hK
    try dsimp only at hw_8
    have k_9 := hw_8
    subst k_9
    refine W.eq (g2 := F0 m 14 ls [.null]) rfl ?_
    refine lv_astoreN (lv' := [(4, .null), (3, .ref a_3), (0, .ref h0), (1, .int p0), (2, .int p1)]) hx hb dX8_kept_14 hl (by decide) rfl (fun ls hl => ?_)
    refine lv_aload_n hx hb dX8_kept_16 rfl (lv_at hl 1 rfl) ?_
    refine lv_ifnull hx hb dX8_kept_17 ?_
    refine lv_aloadN hx hb dX8_kept_20 (lv_at hl 0 rfl) ?_
    refine lv_ifnullN (tgt := 38) hx hb dX8_kept_22 (by decide) ?_
    refine lv_iconst (v := (-1)) hx hb dX8_kept_38 (by decide) ?_
    have hP9 := hP.sub (ws' := []) [] rfl
    have hD9 := hD.sub (ws' := []) [] (by decide) rfl
    have hK9 := hK.sub (tys' := []) [] rfl
    exact W.iret (v := (-1)) hx hb hr (fun t ht hW => ⟨⟨(-1), (), rfl, rfl, by rw [ht]; exact hP9, va_K.moved hW.alike hK9, hD9⟩, hS.F ht⟩) hS.2.2 dX8_kept_39
def wp_X8_write : List Cond := .code yX8_write cX8_write 7 (some .int) :: ([.methodLink RX8 128 yX8_recordOf, .instanceMethod yX8_recordOf, .selects RX8 yX8_recordOf yX8_recordOf, .initialized RX8, .fieldLink RX8 24 "RecordBench" "makes" "[LRecordBench$Make;", .methodLink RX8 136 yX8_makeOf, .static yX8_makeOf, .code yX8_recordOf cX8_recordOf 2 (some (.object "RecordBench$Row")), .fieldLink RX8 18 "RecordBench" "records" "[LRecordBench$Row;", .code yX8_makeOf cX8_makeOf 2 (some (.object "RecordBench$Make"))] ++ wsX80)
set_option maxRecDepth 20000 in
theorem gp_X8_write_X8_recordAny_128 : GoodIn wp_X8_write (wsV RX8 128 RX8 yX8_recordOf wp_X8_recordAny) := goodIn_p _ [8] rfl (by decide +kernel)
set_option maxRecDepth 20000 in
theorem gp_X8_write_X8_makeOf_136 : GoodIn wp_X8_write (wsS RX8 136 yX8_makeOf wp_X8_makeOf) := goodIn_p _ [10] rfl (by decide +kernel)
set_option maxHeartbeats 4000000 in
set_option maxRecDepth 100000 in
theorem c_X8_write (l : Launch) (dC : Nat → ClassId) (dI : Nat → Nat → Nat) (h0 : Nat) (t0 : Nat) (r0 : Nat) (m0 : Nat) (x0 : Nat) (v4 : Value) (v5 : Value) (v6 : Value) (v7 : Value) (v8 : Value) (cM : ClassId) (cR : ClassId) (fR : Nat → Option Nat) (p0 : Int32) (p1 : Int32) (p2 : Int32) (sz : Nat) : Met l yX8_write wp_X8_write ({ frames := 1, cells := 0, slots := 0, locals := 25 }) (va_Pc [.ref h0, .int p0, .int p1, .int p2] (Pr (dC, dI) [(cM, .object RX1), (cR, .object RX5)] [(h0, .inr (10, [.ref t0, .ref r0, .ref m0, .ref x0, v4, v5, v6, v7, v8, .int 0, .int ((-1)), .int 0])), (m0, .inl (cM, 8, .inr (.inr (.inr (.inr (fun _ => none)))))), (r0, .inl (cR, 4, .inr (.inr (.inr (.inr fR)))))] sz)) (va_Qi (fun r : Int32 => (fun _ : Unit => r = -1)) (Bq (dC, dI) (fun _ : Unit => []) (fun _ : Unit => []) (va_A [(h0, .inr (10, [.ref t0, .ref r0, .ref m0, .ref x0, v4, v5, v6, v7, v8, .int 0, .int ((-1)), .int 0])), (m0, .inl (cM, 8, .inr (.inr (.inr (.inr (fun _ => none)))))), (r0, .inl (cR, 4, .inr (.inr (.inr (.inr fR)))))] sz)) (va_A [(h0, .inr (10, [.ref t0, .ref r0, .ref m0, .ref x0, v4, v5, v6, v7, v8, .int 0, .int ((-1)), .int 0])), (m0, .inl (cM, 8, .inr (.inr (.inr (.inr (fun _ => none)))))), (r0, .inl (cR, 4, .inr (.inr (.inr (.inr fR)))))] sz)) 0 0 (va_A [(h0, .inr (10, [.ref t0, .ref r0, .ref m0, .ref x0, v4, v5, v6, v7, v8, .int 0, .int ((-1)), .int 0])), (m0, .inl (cM, 8, .inr (.inr (.inr (.inr (fun _ => none)))))), (r0, .inl (cR, 4, .inr (.inr (.inr (.inr fR)))))] sz) := by
  refine Met.ofW (cc := cX8_write) (maxL := 7) (ret := (some .int)) (by decide) rfl ?_
  intro p e s m args below meth c s₁ B hml hv
  obtain ⟨rfl, hsz, hP, hK, hD0, hN, hZ⟩ := hv
  have hx := B.exec
  have hb := B.bytes
  have hr := B.returns
  have hts := atoms_spec (ws := wp_X8_write) B.pre
  have hown : s.vm.findClass RX8 = some m.cls := findClass_of_methodNamed B.named
  have hlocks := B.notSynchronized
  have iRX8 : ∀ w ∈ u_ws RX8 TX8 12, w ∈ wp_X8_write := by decide +kernel
  subst hsz
  have hD := hD0.self (sz := s.heap.size)
  generalize hAe : va_A [(h0, .inr (10, [.ref t0, .ref r0, .ref m0, .ref x0, v4, v5, v6, v7, v8, .int 0, .int ((-1)), .int 0])), (m0, .inl (cM, 8, .inr (.inr (.inr (.inr (fun _ => none)))))), (r0, .inl (cR, 4, .inr (.inr (.inr (.inr fR)))))] s.heap.size = A at hD hZ ⊢
  have hA : ∀ q : Nat, s.heap.size ≤ q → A q := fun q h => by rw [← hAe]; exact Or.inr h
  have hS : va_S A s.heap s.heap [] := va_S.rf
  have hP : va_P (dC, dI) vwCl [(h0, .inr (10, [.ref t0, .ref r0, .ref m0, .ref x0, v4, v5, v6, v7, v8, .int 0, .int ((-1)), .int 0])), (m0, .inl (cM, 8, .inr (.inr (.inr (.inr (fun _ => none)))))), (r0, .inl (cR, 4, .inr (.inr (.inr (.inr fR)))))] s.heap := hP
  have hl := lv_entry ([.ref h0, .int p0, .int p1, .int p2]) (n := 7) (Nat.le_of_ble_eq_true rfl)
  rw [lg_entry_eq]
  generalize (lg_sl ([.ref h0, .int p0, .int p1, .int p2]) ++ List.replicate (7 - (lg_sl ([.ref h0, .int p0, .int p1, .int p2])).length) Slot.unset).toArray = ls at hl ⊢
  have hl : lv_has ls 7 [(0, .ref h0), (1, .int p0), (2, .int p1), (3, .int p2)] := hl
  refine lv_aload_n hx hb dX8_write_0 rfl (lv_at hl 0 rfl) ?_
  refine lv_iload_n hx hb dX8_write_1 rfl (lv_at hl 1 rfl) ?_
  have hFc := va_free (wc := [(h0, .inr (10, [.ref t0, .ref r0, .ref m0, .ref x0, v4, v5, v6, v7, v8, .int 0, .int ((-1)), .int 0])), (r0, .inl (cR, 4, .inr (.inr (.inr (.inr fR)))))]) hD hS hA [0, 2] rfl
  refine va_callq (va_runV (As := [.int p0]) (rest := []) ⟨hx, hb, hml, hown, hts⟩ (c_X8_recordAny l dC dI h0 t0 r0 m0 x0 (v4) (v5) (v6) (v7) (v8) cR fR p0 s.heap.size) (cwV 1 hts gp_X8_write_X8_recordAny_128 rfl rfl rfl (by decide +kernel) ⟨Nat.le_of_ble_eq_true rfl, Nat.le_of_ble_eq_true rfl⟩) ⟨Pr.blind _, va_recv hK hP (ci := 10) (q0 := 0) rfl rfl, fun U hU hW => ⟨rfl, Pr.at (hP.sub (ws' := [(h0, .inr (10, [.ref t0, .ref r0, .ref m0, .ref x0, v4, v5, v6, v7, v8, .int 0, .int ((-1)), .int 0])), (r0, .inl (cR, 4, .inr (.inr (.inr (.inr fR)))))]) [0, 2] rfl) (hK.sub (tys' := [(cR, .object RX5)]) [1] rfl) (hD.sub (ws' := [(h0, .inr (10, [.ref t0, .ref r0, .ref m0, .ref x0, v4, v5, v6, v7, v8, .int 0, .int ((-1)), .int 0])), (r0, .inl (cR, 4, .inr (.inr (.inr (.inr fR)))))]) [0, 2] (by decide) rfl) hN hZ hS hFc hU hW⟩⟩ rfl rfl hl.1 rfl (lv_room (Nat.le_of_ble_eq_true rfl)) dX8_write_2 ⟨Nat.le_of_ble_eq_true rfl, Nat.le_of_ble_eq_true rfl⟩) hS (fun q _ h => hFc q h) hFc (fun r_1 u t H1 locs ht hvm hw_2 hB hz1 hk1 hS => ?_)
  obtain ⟨hP, hD, hK⟩ := Bq.join (wr := [(m0, .inl (cM, 8, .inr (.inr (.inr (.inr (fun _ => none))))))]) hB ht hvm hP hD [0, 2] [1] rfl rfl (by decide) (by decide) hk1 hFc hK
  generalize H1 = H at hP hS ⊢
  have hP : va_P (dC, dI) vwCl [(m0, .inl (cM, 8, .inr (.inr (.inr (.inr (fun _ => none)))))), (h0, .inr (10, [.ref t0, .ref r0, .ref m0, .ref x0, v4, v5, v6, v7, v8, .int 0, .int (-1), .int 0])), (r0, .inl (cR, 4, .inr (.inr (.inr (.inr fR)))))] H := hP
  have hD : va_D A [(m0, .inl (cM, 8, .inr (.inr (.inr (.inr (fun _ => none)))))), (h0, .inr (10, [.ref t0, .ref r0, .ref m0, .ref x0, v4, v5, v6, v7, v8, .int 0, .int (-1), .int 0])), (r0, .inl (cR, 4, .inr (.inr (.inr (.inr fR)))))] := hD
  have hK : va_K (dC, dI) vwCl [(cM, .object RX1), (cR, .object RX5)] s := hK
  try dsimp only at hw_2
  rcases r_1 with _ | a_3
  · refine W.eq (g2 := F0 m 5 ls [.null]) rfl ?_
    refine lv_astoreN (lv' := [(4, .null), (0, .ref h0), (1, .int p0), (2, .int p1), (3, .int p2)]) hx hb dX8_write_5 hl (by decide) rfl (fun ls hl => ?_)
    refine lv_aload_n hx hb dX8_write_7 rfl (lv_at hl 1 rfl) ?_
    refine lv_iload_n hx hb dX8_write_8 rfl (lv_at hl 4 rfl) ?_
    have hFc := va_free (wc := [(h0, .inr (10, [.ref t0, .ref r0, .ref m0, .ref x0, v4, v5, v6, v7, v8, .int 0, .int (-1), .int 0])), (r0, .inl (cR, 4, .inr (.inr (.inr (.inr fR)))))]) hD hS hA [1, 2] rfl
    refine va_callq (va_runV (As := [.int p2]) (rest := []) ⟨hx, hb, hml, hown, hts⟩ (c_X8_recordAny l dC dI h0 t0 r0 m0 x0 (v4) (v5) (v6) (v7) (v8) cR fR p2 H.size) (cwV 1 hts gp_X8_write_X8_recordAny_128 rfl rfl rfl (by decide +kernel) ⟨Nat.le_of_ble_eq_true rfl, Nat.le_of_ble_eq_true rfl⟩) ⟨Pr.blind _, va_recv hK hP (ci := 10) (q0 := 1) rfl rfl, fun U hU hW => ⟨rfl, Pr.at (hP.sub (ws' := [(h0, .inr (10, [.ref t0, .ref r0, .ref m0, .ref x0, v4, v5, v6, v7, v8, .int 0, .int (-1), .int 0])), (r0, .inl (cR, 4, .inr (.inr (.inr (.inr fR)))))]) [1, 2] rfl) (hK.sub (tys' := [(cR, .object RX5)]) [1] rfl) (hD.sub (ws' := [(h0, .inr (10, [.ref t0, .ref r0, .ref m0, .ref x0, v4, v5, v6, v7, v8, .int 0, .int (-1), .int 0])), (r0, .inl (cR, 4, .inr (.inr (.inr (.inr fR)))))]) [1, 2] (by decide) rfl) hN hZ hS hFc hU hW⟩⟩ rfl rfl hl.1 rfl (lv_room (Nat.le_of_ble_eq_true rfl)) dX8_write_9 ⟨Nat.le_of_ble_eq_true rfl, Nat.le_of_ble_eq_true rfl⟩) hS (fun q _ h => hFc q h) hFc (fun r_4 u t H1 locs ht hvm hw_5 hB hz1 hk1 hS => ?_)
    obtain ⟨hP, hD, hK⟩ := Bq.join (wr := [(m0, .inl (cM, 8, .inr (.inr (.inr (.inr (fun _ => none))))))]) hB ht hvm hP hD [1, 2] [0] rfl rfl (by decide) (by decide) hk1 hFc hK
    generalize H1 = H at hP hS ⊢
    have hP : va_P (dC, dI) vwCl [(m0, .inl (cM, 8, .inr (.inr (.inr (.inr (fun _ => none)))))), (h0, .inr (10, [.ref t0, .ref r0, .ref m0, .ref x0, v4, v5, v6, v7, v8, .int 0, .int (-1), .int 0])), (r0, .inl (cR, 4, .inr (.inr (.inr (.inr fR)))))] H := hP
    have hD : va_D A [(m0, .inl (cM, 8, .inr (.inr (.inr (.inr (fun _ => none)))))), (h0, .inr (10, [.ref t0, .ref r0, .ref m0, .ref x0, v4, v5, v6, v7, v8, .int 0, .int (-1), .int 0])), (r0, .inl (cR, 4, .inr (.inr (.inr (.inr fR)))))] := hD
    have hK : va_K (dC, dI) vwCl [(cM, .object RX1), (cR, .object RX5)] s := hK
    try dsimp only at hw_5
    rcases r_4 with _ | a_6
    · refine W.eq (g2 := F0 m 12 ls [.null]) rfl ?_
      refine lv_astoreN (lv' := [(5, .null), (4, .null), (0, .ref h0), (1, .int p0), (2, .int p1), (3, .int p2)]) hx hb dX8_write_12 hl (by decide) rfl (fun ls hl => ?_)
      refine lv_aload_n hx hb dX8_write_14 rfl (lv_at hl 2 rfl) ?_
      refine va_get (D := (dC, dI)) (ci := 10) (v := .ref m0) (C := RX8) (T := TX8) (N := 12) hx hb hts iRX8 hown hK hP 1 rfl rfl 2 (by decide) (hts (.fieldLink RX8 24 "RecordBench" "makes" "[LRecordBench$Make;") (by decide +kernel)) (fun _ h9 => h9) rfl dX8_write_15 ?_
      refine lv_iload_n hx hb dX8_write_18 rfl (lv_at hl 4 rfl) ?_
      have hFc := va_free (wc := [(m0, .inl (cM, 8, .inr (.inr (.inr (.inr (fun _ => none))))))]) hD hS hA [0] rfl
      refine va_callq (va_runS (As := [.ref m0, .int p1]) (rest := []) ⟨hx, hb, hml, hown, hts⟩ (c_X8_makeOf l dC dI m0 p1 cM H.size) (cwS 2 hts gp_X8_write_X8_makeOf_136 rfl rfl rfl (by decide +kernel) ⟨Nat.le_of_ble_eq_true rfl, Nat.le_of_ble_eq_true rfl⟩) ⟨Pr.blind _, fun U hU hW => ⟨rfl, Pr.at (hP.sub (ws' := [(m0, .inl (cM, 8, .inr (.inr (.inr (.inr (fun _ => none))))))]) [0] rfl) (hK.sub (tys' := [(cM, .object RX1)]) [0] rfl) (hD.sub (ws' := [(m0, .inl (cM, 8, .inr (.inr (.inr (.inr (fun _ => none))))))]) [0] (by decide) rfl) hN hZ hS hFc hU hW⟩⟩ rfl rfl hl.1 rfl (lv_room (Nat.le_of_ble_eq_true rfl)) dX8_write_19 ⟨Nat.le_of_ble_eq_true rfl, Nat.le_of_ble_eq_true rfl⟩) hS (fun q _ h => hFc q h) hFc (fun r_7 u t H1 locs ht hvm hw_8 hB hz1 hk1 hS => ?_)
      obtain ⟨hP, hD, hK⟩ := Bq.join (wr := [(h0, .inr (10, [.ref t0, .ref r0, .ref m0, .ref x0, v4, v5, v6, v7, v8, .int 0, .int (-1), .int 0])), (r0, .inl (cR, 4, .inr (.inr (.inr (.inr fR)))))]) hB ht hvm hP hD [0] [1, 2] rfl rfl (by decide) (by decide) hk1 hFc hK
      generalize H1 = H at hP hS ⊢
      have hP : va_P (dC, dI) vwCl [(h0, .inr (10, [.ref t0, .ref r0, .ref m0, .ref x0, v4, v5, v6, v7, v8, .int 0, .int (-1), .int 0])), (r0, .inl (cR, 4, .inr (.inr (.inr (.inr fR))))), (m0, .inl (cM, 8, .inr (.inr (.inr (.inr (fun _ => none))))))] H := hP
      have hD : va_D A [(h0, .inr (10, [.ref t0, .ref r0, .ref m0, .ref x0, v4, v5, v6, v7, v8, .int 0, .int (-1), .int 0])), (r0, .inl (cR, 4, .inr (.inr (.inr (.inr fR))))), (m0, .inl (cM, 8, .inr (.inr (.inr (.inr (fun _ => none))))))] := hD
      have hK : va_K (dC, dI) vwCl [(cM, .object RX1), (cR, .object RX5)] s := hK
      try dsimp only at hw_8
      have k_9 := hw_8
      subst k_9
      refine W.eq (g2 := F0 m 22 ls [.null]) rfl ?_
      refine lv_astoreN (lv' := [(6, .null), (5, .null), (4, .null), (0, .ref h0), (1, .int p0), (2, .int p1), (3, .int p2)]) hx hb dX8_write_22 hl (by decide) rfl (fun ls hl => ?_)
      refine lv_aloadN hx hb dX8_write_24 (lv_at hl 2 rfl) ?_
      refine lv_ifnullN (tgt := 39) hx hb dX8_write_26 (by decide) ?_
      refine lv_iconst (v := (-1)) hx hb dX8_write_39 (by decide) ?_
      have hP9 := hP.sub (ws' := []) [] rfl
      have hD9 := hD.sub (ws' := []) [] (by decide) rfl
      have hK9 := hK.sub (tys' := []) [] rfl
      exact W.iret (v := (-1)) hx hb hr (fun t ht hW => ⟨⟨(-1), (), rfl, rfl, by rw [ht]; exact hP9, va_K.moved hW.alike hK9, hD9⟩, hS.F ht⟩) hS.2.2 dX8_write_40
    · refine W.eq (g2 := F0 m 12 ls [.ref a_6]) rfl ?_
      refine lv_astore (lv' := [(5, .ref a_6), (4, .null), (0, .ref h0), (1, .int p0), (2, .int p1), (3, .int p2)]) hx hb dX8_write_12 hl (by decide) rfl (fun ls hl => ?_)
      refine lv_aload_n hx hb dX8_write_14 rfl (lv_at hl 2 rfl) ?_
      refine va_get (D := (dC, dI)) (ci := 10) (v := .ref m0) (C := RX8) (T := TX8) (N := 12) hx hb hts iRX8 hown hK hP 1 rfl rfl 2 (by decide) (hts (.fieldLink RX8 24 "RecordBench" "makes" "[LRecordBench$Make;") (by decide +kernel)) (fun _ h9 => h9) rfl dX8_write_15 ?_
      refine lv_iload_n hx hb dX8_write_18 rfl (lv_at hl 4 rfl) ?_
      have hFc := va_free (wc := [(m0, .inl (cM, 8, .inr (.inr (.inr (.inr (fun _ => none))))))]) hD hS hA [0] rfl
      refine va_callq (va_runS (As := [.ref m0, .int p1]) (rest := []) ⟨hx, hb, hml, hown, hts⟩ (c_X8_makeOf l dC dI m0 p1 cM H.size) (cwS 2 hts gp_X8_write_X8_makeOf_136 rfl rfl rfl (by decide +kernel) ⟨Nat.le_of_ble_eq_true rfl, Nat.le_of_ble_eq_true rfl⟩) ⟨Pr.blind _, fun U hU hW => ⟨rfl, Pr.at (hP.sub (ws' := [(m0, .inl (cM, 8, .inr (.inr (.inr (.inr (fun _ => none))))))]) [0] rfl) (hK.sub (tys' := [(cM, .object RX1)]) [0] rfl) (hD.sub (ws' := [(m0, .inl (cM, 8, .inr (.inr (.inr (.inr (fun _ => none))))))]) [0] (by decide) rfl) hN hZ hS hFc hU hW⟩⟩ rfl rfl hl.1 rfl (lv_room (Nat.le_of_ble_eq_true rfl)) dX8_write_19 ⟨Nat.le_of_ble_eq_true rfl, Nat.le_of_ble_eq_true rfl⟩) hS (fun q _ h => hFc q h) hFc (fun r_10 u t H1 locs ht hvm hw_11 hB hz1 hk1 hS => ?_)
      obtain ⟨hP, hD, hK⟩ := Bq.join (wr := [(h0, .inr (10, [.ref t0, .ref r0, .ref m0, .ref x0, v4, v5, v6, v7, v8, .int 0, .int (-1), .int 0])), (r0, .inl (cR, 4, .inr (.inr (.inr (.inr fR)))))]) hB ht hvm hP hD [0] [1, 2] rfl rfl (by decide) (by decide) hk1 hFc hK
      generalize H1 = H at hP hS ⊢
      have hP : va_P (dC, dI) vwCl [(h0, .inr (10, [.ref t0, .ref r0, .ref m0, .ref x0, v4, v5, v6, v7, v8, .int 0, .int (-1), .int 0])), (r0, .inl (cR, 4, .inr (.inr (.inr (.inr fR))))), (m0, .inl (cM, 8, .inr (.inr (.inr (.inr (fun _ => none))))))] H := hP
      have hD : va_D A [(h0, .inr (10, [.ref t0, .ref r0, .ref m0, .ref x0, v4, v5, v6, v7, v8, .int 0, .int (-1), .int 0])), (r0, .inl (cR, 4, .inr (.inr (.inr (.inr fR))))), (m0, .inl (cM, 8, .inr (.inr (.inr (.inr (fun _ => none))))))] := hD
      have hK : va_K (dC, dI) vwCl [(cM, .object RX1), (cR, .object RX5)] s := hK
      try dsimp only at hw_11
      have k_12 := hw_11
      subst k_12
      refine W.eq (g2 := F0 m 22 ls [.null]) rfl ?_
      refine lv_astoreN (lv' := [(6, .null), (5, .ref a_6), (4, .null), (0, .ref h0), (1, .int p0), (2, .int p1), (3, .int p2)]) hx hb dX8_write_22 hl (by decide) rfl (fun ls hl => ?_)
      refine lv_aloadN hx hb dX8_write_24 (lv_at hl 2 rfl) ?_
      refine lv_ifnullN (tgt := 39) hx hb dX8_write_26 (by decide) ?_
      refine lv_iconst (v := (-1)) hx hb dX8_write_39 (by decide) ?_
      have hP9 := hP.sub (ws' := []) [] rfl
      have hD9 := hD.sub (ws' := []) [] (by decide) rfl
      have hK9 := hK.sub (tys' := []) [] rfl
      exact W.iret (v := (-1)) hx hb hr (fun t ht hW => ⟨⟨(-1), (), rfl, rfl, by rw [ht]; exact hP9, va_K.moved hW.alike hK9, hD9⟩, hS.F ht⟩) hS.2.2 dX8_write_40
  · refine W.eq (g2 := F0 m 5 ls [.ref a_3]) rfl ?_
    refine lv_astore (lv' := [(4, .ref a_3), (0, .ref h0), (1, .int p0), (2, .int p1), (3, .int p2)]) hx hb dX8_write_5 hl (by decide) rfl (fun ls hl => ?_)
    refine lv_aload_n hx hb dX8_write_7 rfl (lv_at hl 1 rfl) ?_
    refine lv_iload_n hx hb dX8_write_8 rfl (lv_at hl 4 rfl) ?_
    have hFc := va_free (wc := [(h0, .inr (10, [.ref t0, .ref r0, .ref m0, .ref x0, v4, v5, v6, v7, v8, .int 0, .int (-1), .int 0])), (r0, .inl (cR, 4, .inr (.inr (.inr (.inr fR)))))]) hD hS hA [1, 2] rfl
    refine va_callq (va_runV (As := [.int p2]) (rest := []) ⟨hx, hb, hml, hown, hts⟩ (c_X8_recordAny l dC dI h0 t0 r0 m0 x0 (v4) (v5) (v6) (v7) (v8) cR fR p2 H.size) (cwV 1 hts gp_X8_write_X8_recordAny_128 rfl rfl rfl (by decide +kernel) ⟨Nat.le_of_ble_eq_true rfl, Nat.le_of_ble_eq_true rfl⟩) ⟨Pr.blind _, va_recv hK hP (ci := 10) (q0 := 1) rfl rfl, fun U hU hW => ⟨rfl, Pr.at (hP.sub (ws' := [(h0, .inr (10, [.ref t0, .ref r0, .ref m0, .ref x0, v4, v5, v6, v7, v8, .int 0, .int (-1), .int 0])), (r0, .inl (cR, 4, .inr (.inr (.inr (.inr fR)))))]) [1, 2] rfl) (hK.sub (tys' := [(cR, .object RX5)]) [1] rfl) (hD.sub (ws' := [(h0, .inr (10, [.ref t0, .ref r0, .ref m0, .ref x0, v4, v5, v6, v7, v8, .int 0, .int (-1), .int 0])), (r0, .inl (cR, 4, .inr (.inr (.inr (.inr fR)))))]) [1, 2] (by decide) rfl) hN hZ hS hFc hU hW⟩⟩ rfl rfl hl.1 rfl (lv_room (Nat.le_of_ble_eq_true rfl)) dX8_write_9 ⟨Nat.le_of_ble_eq_true rfl, Nat.le_of_ble_eq_true rfl⟩) hS (fun q _ h => hFc q h) hFc (fun r_13 u t H1 locs ht hvm hw_14 hB hz1 hk1 hS => ?_)
    obtain ⟨hP, hD, hK⟩ := Bq.join (wr := [(m0, .inl (cM, 8, .inr (.inr (.inr (.inr (fun _ => none))))))]) hB ht hvm hP hD [1, 2] [0] rfl rfl (by decide) (by decide) hk1 hFc hK
    generalize H1 = H at hP hS ⊢
    have hP : va_P (dC, dI) vwCl [(m0, .inl (cM, 8, .inr (.inr (.inr (.inr (fun _ => none)))))), (h0, .inr (10, [.ref t0, .ref r0, .ref m0, .ref x0, v4, v5, v6, v7, v8, .int 0, .int (-1), .int 0])), (r0, .inl (cR, 4, .inr (.inr (.inr (.inr fR)))))] H := hP
    have hD : va_D A [(m0, .inl (cM, 8, .inr (.inr (.inr (.inr (fun _ => none)))))), (h0, .inr (10, [.ref t0, .ref r0, .ref m0, .ref x0, v4, v5, v6, v7, v8, .int 0, .int (-1), .int 0])), (r0, .inl (cR, 4, .inr (.inr (.inr (.inr fR)))))] := hD
    have hK : va_K (dC, dI) vwCl [(cM, .object RX1), (cR, .object RX5)] s := hK
    try dsimp only at hw_14
    rcases r_13 with _ | a_15
    · refine W.eq (g2 := F0 m 12 ls [.null]) rfl ?_
      refine lv_astoreN (lv' := [(5, .null), (4, .ref a_3), (0, .ref h0), (1, .int p0), (2, .int p1), (3, .int p2)]) hx hb dX8_write_12 hl (by decide) rfl (fun ls hl => ?_)
      refine lv_aload_n hx hb dX8_write_14 rfl (lv_at hl 2 rfl) ?_
      refine va_get (D := (dC, dI)) (ci := 10) (v := .ref m0) (C := RX8) (T := TX8) (N := 12) hx hb hts iRX8 hown hK hP 1 rfl rfl 2 (by decide) (hts (.fieldLink RX8 24 "RecordBench" "makes" "[LRecordBench$Make;") (by decide +kernel)) (fun _ h9 => h9) rfl dX8_write_15 ?_
      refine lv_iload_n hx hb dX8_write_18 rfl (lv_at hl 4 rfl) ?_
      have hFc := va_free (wc := [(m0, .inl (cM, 8, .inr (.inr (.inr (.inr (fun _ => none))))))]) hD hS hA [0] rfl
      refine va_callq (va_runS (As := [.ref m0, .int p1]) (rest := []) ⟨hx, hb, hml, hown, hts⟩ (c_X8_makeOf l dC dI m0 p1 cM H.size) (cwS 2 hts gp_X8_write_X8_makeOf_136 rfl rfl rfl (by decide +kernel) ⟨Nat.le_of_ble_eq_true rfl, Nat.le_of_ble_eq_true rfl⟩) ⟨Pr.blind _, fun U hU hW => ⟨rfl, Pr.at (hP.sub (ws' := [(m0, .inl (cM, 8, .inr (.inr (.inr (.inr (fun _ => none))))))]) [0] rfl) (hK.sub (tys' := [(cM, .object RX1)]) [0] rfl) (hD.sub (ws' := [(m0, .inl (cM, 8, .inr (.inr (.inr (.inr (fun _ => none))))))]) [0] (by decide) rfl) hN hZ hS hFc hU hW⟩⟩ rfl rfl hl.1 rfl (lv_room (Nat.le_of_ble_eq_true rfl)) dX8_write_19 ⟨Nat.le_of_ble_eq_true rfl, Nat.le_of_ble_eq_true rfl⟩) hS (fun q _ h => hFc q h) hFc (fun r_16 u t H1 locs ht hvm hw_17 hB hz1 hk1 hS => ?_)
      obtain ⟨hP, hD, hK⟩ := Bq.join (wr := [(h0, .inr (10, [.ref t0, .ref r0, .ref m0, .ref x0, v4, v5, v6, v7, v8, .int 0, .int (-1), .int 0])), (r0, .inl (cR, 4, .inr (.inr (.inr (.inr fR)))))]) hB ht hvm hP hD [0] [1, 2] rfl rfl (by decide) (by decide) hk1 hFc hK
      generalize H1 = H at hP hS ⊢
      have hP : va_P (dC, dI) vwCl [(h0, .inr (10, [.ref t0, .ref r0, .ref m0, .ref x0, v4, v5, v6, v7, v8, .int 0, .int (-1), .int 0])), (r0, .inl (cR, 4, .inr (.inr (.inr (.inr fR))))), (m0, .inl (cM, 8, .inr (.inr (.inr (.inr (fun _ => none))))))] H := hP
      have hD : va_D A [(h0, .inr (10, [.ref t0, .ref r0, .ref m0, .ref x0, v4, v5, v6, v7, v8, .int 0, .int (-1), .int 0])), (r0, .inl (cR, 4, .inr (.inr (.inr (.inr fR))))), (m0, .inl (cM, 8, .inr (.inr (.inr (.inr (fun _ => none))))))] := hD
      have hK : va_K (dC, dI) vwCl [(cM, .object RX1), (cR, .object RX5)] s := hK
      try dsimp only at hw_17
      have k_18 := hw_17
      subst k_18
      refine W.eq (g2 := F0 m 22 ls [.null]) rfl ?_
      refine lv_astoreN (lv' := [(6, .null), (5, .null), (4, .ref a_3), (0, .ref h0), (1, .int p0), (2, .int p1), (3, .int p2)]) hx hb dX8_write_22 hl (by decide) rfl (fun ls hl => ?_)
      refine lv_aload hx hb dX8_write_24 (lv_at hl 2 rfl) ?_
      refine lv_ifnull hx hb dX8_write_26 ?_
      refine lv_aloadN hx hb dX8_write_29 (lv_at hl 1 rfl) ?_
      refine lv_ifnullN (tgt := 39) hx hb dX8_write_31 (by decide) ?_
      refine lv_iconst (v := (-1)) hx hb dX8_write_39 (by decide) ?_
      have hP9 := hP.sub (ws' := []) [] rfl
      have hD9 := hD.sub (ws' := []) [] (by decide) rfl
      have hK9 := hK.sub (tys' := []) [] rfl
      exact W.iret (v := (-1)) hx hb hr (fun t ht hW => ⟨⟨(-1), (), rfl, rfl, by rw [ht]; exact hP9, va_K.moved hW.alike hK9, hD9⟩, hS.F ht⟩) hS.2.2 dX8_write_40
    · refine W.eq (g2 := F0 m 12 ls [.ref a_15]) rfl ?_
      refine lv_astore (lv' := [(5, .ref a_15), (4, .ref a_3), (0, .ref h0), (1, .int p0), (2, .int p1), (3, .int p2)]) hx hb dX8_write_12 hl (by decide) rfl (fun ls hl => ?_)
      refine lv_aload_n hx hb dX8_write_14 rfl (lv_at hl 2 rfl) ?_
      refine va_get (D := (dC, dI)) (ci := 10) (v := .ref m0) (C := RX8) (T := TX8) (N := 12) hx hb hts iRX8 hown hK hP 1 rfl rfl 2 (by decide) (hts (.fieldLink RX8 24 "RecordBench" "makes" "[LRecordBench$Make;") (by decide +kernel)) (fun _ h9 => h9) rfl dX8_write_15 ?_
      refine lv_iload_n hx hb dX8_write_18 rfl (lv_at hl 4 rfl) ?_
      have hFc := va_free (wc := [(m0, .inl (cM, 8, .inr (.inr (.inr (.inr (fun _ => none))))))]) hD hS hA [0] rfl
      refine va_callq (va_runS (As := [.ref m0, .int p1]) (rest := []) ⟨hx, hb, hml, hown, hts⟩ (c_X8_makeOf l dC dI m0 p1 cM H.size) (cwS 2 hts gp_X8_write_X8_makeOf_136 rfl rfl rfl (by decide +kernel) ⟨Nat.le_of_ble_eq_true rfl, Nat.le_of_ble_eq_true rfl⟩) ⟨Pr.blind _, fun U hU hW => ⟨rfl, Pr.at (hP.sub (ws' := [(m0, .inl (cM, 8, .inr (.inr (.inr (.inr (fun _ => none))))))]) [0] rfl) (hK.sub (tys' := [(cM, .object RX1)]) [0] rfl) (hD.sub (ws' := [(m0, .inl (cM, 8, .inr (.inr (.inr (.inr (fun _ => none))))))]) [0] (by decide) rfl) hN hZ hS hFc hU hW⟩⟩ rfl rfl hl.1 rfl (lv_room (Nat.le_of_ble_eq_true rfl)) dX8_write_19 ⟨Nat.le_of_ble_eq_true rfl, Nat.le_of_ble_eq_true rfl⟩) hS (fun q _ h => hFc q h) hFc (fun r_19 u t H1 locs ht hvm hw_20 hB hz1 hk1 hS => ?_)
      obtain ⟨hP, hD, hK⟩ := Bq.join (wr := [(h0, .inr (10, [.ref t0, .ref r0, .ref m0, .ref x0, v4, v5, v6, v7, v8, .int 0, .int (-1), .int 0])), (r0, .inl (cR, 4, .inr (.inr (.inr (.inr fR)))))]) hB ht hvm hP hD [0] [1, 2] rfl rfl (by decide) (by decide) hk1 hFc hK
      generalize H1 = H at hP hS ⊢
      have hP : va_P (dC, dI) vwCl [(h0, .inr (10, [.ref t0, .ref r0, .ref m0, .ref x0, v4, v5, v6, v7, v8, .int 0, .int (-1), .int 0])), (r0, .inl (cR, 4, .inr (.inr (.inr (.inr fR))))), (m0, .inl (cM, 8, .inr (.inr (.inr (.inr (fun _ => none))))))] H := hP
      have hD : va_D A [(h0, .inr (10, [.ref t0, .ref r0, .ref m0, .ref x0, v4, v5, v6, v7, v8, .int 0, .int (-1), .int 0])), (r0, .inl (cR, 4, .inr (.inr (.inr (.inr fR))))), (m0, .inl (cM, 8, .inr (.inr (.inr (.inr (fun _ => none))))))] := hD
      have hK : va_K (dC, dI) vwCl [(cM, .object RX1), (cR, .object RX5)] s := hK
      try dsimp only at hw_20
      have k_21 := hw_20
      subst k_21
      refine W.eq (g2 := F0 m 22 ls [.null]) rfl ?_
      refine lv_astoreN (lv' := [(6, .null), (5, .ref a_15), (4, .ref a_3), (0, .ref h0), (1, .int p0), (2, .int p1), (3, .int p2)]) hx hb dX8_write_22 hl (by decide) rfl (fun ls hl => ?_)
      refine lv_aload hx hb dX8_write_24 (lv_at hl 2 rfl) ?_
      refine lv_ifnull hx hb dX8_write_26 ?_
      refine lv_aload hx hb dX8_write_29 (lv_at hl 1 rfl) ?_
      refine lv_ifnull hx hb dX8_write_31 ?_
      refine lv_aloadN hx hb dX8_write_34 (lv_at hl 0 rfl) ?_
      refine lv_ifnonnullN hx hb dX8_write_36 ?_
      refine lv_iconst (v := (-1)) hx hb dX8_write_39 (by decide) ?_
      have hP9 := hP.sub (ws' := []) [] rfl
      have hD9 := hD.sub (ws' := []) [] (by decide) rfl
      have hK9 := hK.sub (tys' := []) [] rfl
      exact W.iret (v := (-1)) hx hb hr (fun t ht hW => ⟨⟨(-1), (), rfl, rfl, by rw [ht]; exact hP9, va_K.moved hW.alike hK9, hD9⟩, hS.F ht⟩) hS.2.2 dX8_write_40
def wp_X8_open : List Cond := .code yX8_open cX8_open 10 (some .int) :: ([.methodLink RX8 128 yX8_recordOf, .instanceMethod yX8_recordOf, .selects RX8 yX8_recordOf yX8_recordOf, .initialized RX8, .fieldLink RX8 24 "RecordBench" "makes" "[LRecordBench$Make;", .methodLink RX8 136 yX8_makeOf, .static yX8_makeOf, .methodLink RX8 100 yX8_fieldOf, .instanceMethod yX8_fieldOf, .selects RX8 yX8_fieldOf yX8_fieldOf, .code yX8_recordOf cX8_recordOf 2 (some (.object "RecordBench$Row")), .fieldLink RX8 18 "RecordBench" "records" "[LRecordBench$Row;", .code yX8_makeOf cX8_makeOf 2 (some (.object "RecordBench$Make")), .code yX8_fieldOf cX8_fieldOf 4 (some (.object "RecordBench$Field"))] ++ wsX80)
set_option maxRecDepth 20000 in
theorem gp_X8_open_X8_recordAny_128 : GoodIn wp_X8_open (wsV RX8 128 RX8 yX8_recordOf wp_X8_recordAny) := goodIn_p _ [11] rfl (by decide +kernel)
set_option maxRecDepth 20000 in
theorem gp_X8_open_X8_makeOf_136 : GoodIn wp_X8_open (wsS RX8 136 yX8_makeOf wp_X8_makeOf) := goodIn_p _ [13] rfl (by decide +kernel)
set_option maxRecDepth 20000 in
theorem gp_X8_open_X8_fieldOf_100 : GoodIn wp_X8_open (wsV RX8 100 RX8 yX8_fieldOf wp_X8_fieldOf) := goodIn_p _ [14, 13] rfl (by decide +kernel)
set_option maxHeartbeats 4000000 in
set_option maxRecDepth 100000 in
theorem c_X8_open (l : Launch) (dC : Nat → ClassId) (dI : Nat → Nat → Nat) (h0 : Nat) (t0 : Nat) (r0 : Nat) (m0 : Nat) (x0 : Nat) (v4 : Value) (v5 : Value) (v6 : Value) (v7 : Value) (v8 : Value) (cM : ClassId) (cR : ClassId) (fR : Nat → Option Nat) (p0 : Int32) (p1 : Int32) (p2 : Int32) (p3 : Int32) (sz : Nat) : Met l yX8_open wp_X8_open ({ frames := 2, cells := 0, slots := 0, locals := 52 }) (va_Pc [.ref h0, .int p0, .int p1, .int p2, .int p3] (Pr (dC, dI) [(cM, .object RX1), (cR, .object RX5)] [(h0, .inr (10, [.ref t0, .ref r0, .ref m0, .ref x0, v4, v5, v6, v7, v8, .int 0, .int ((-1)), .int 0])), (m0, .inl (cM, 8, .inr (.inr (.inr (.inr (fun _ => none)))))), (r0, .inl (cR, 4, .inr (.inr (.inr (.inr fR)))))] sz)) (va_Qi (fun r : Int32 => (fun _ : Unit => r = -1)) (Bq (dC, dI) (fun _ : Unit => []) (fun _ : Unit => []) (va_A [(h0, .inr (10, [.ref t0, .ref r0, .ref m0, .ref x0, v4, v5, v6, v7, v8, .int 0, .int ((-1)), .int 0])), (m0, .inl (cM, 8, .inr (.inr (.inr (.inr (fun _ => none)))))), (r0, .inl (cR, 4, .inr (.inr (.inr (.inr fR)))))] sz)) (va_A [(h0, .inr (10, [.ref t0, .ref r0, .ref m0, .ref x0, v4, v5, v6, v7, v8, .int 0, .int ((-1)), .int 0])), (m0, .inl (cM, 8, .inr (.inr (.inr (.inr (fun _ => none)))))), (r0, .inl (cR, 4, .inr (.inr (.inr (.inr fR)))))] sz)) 0 0 (va_A [(h0, .inr (10, [.ref t0, .ref r0, .ref m0, .ref x0, v4, v5, v6, v7, v8, .int 0, .int ((-1)), .int 0])), (m0, .inl (cM, 8, .inr (.inr (.inr (.inr (fun _ => none)))))), (r0, .inl (cR, 4, .inr (.inr (.inr (.inr fR)))))] sz) := by
  refine Met.ofW (cc := cX8_open) (maxL := 10) (ret := (some .int)) (by decide) rfl ?_
  intro p e s m args below meth c s₁ B hml hv
  obtain ⟨rfl, hsz, hP, hK, hD0, hN, hZ⟩ := hv
  have hx := B.exec
  have hb := B.bytes
  have hr := B.returns
  have hts := atoms_spec (ws := wp_X8_open) B.pre
  have hown : s.vm.findClass RX8 = some m.cls := findClass_of_methodNamed B.named
  have hlocks := B.notSynchronized
  have iRX8 : ∀ w ∈ u_ws RX8 TX8 12, w ∈ wp_X8_open := by decide +kernel
  subst hsz
  have hD := hD0.self (sz := s.heap.size)
  generalize hAe : va_A [(h0, .inr (10, [.ref t0, .ref r0, .ref m0, .ref x0, v4, v5, v6, v7, v8, .int 0, .int ((-1)), .int 0])), (m0, .inl (cM, 8, .inr (.inr (.inr (.inr (fun _ => none)))))), (r0, .inl (cR, 4, .inr (.inr (.inr (.inr fR)))))] s.heap.size = A at hD hZ ⊢
  have hA : ∀ q : Nat, s.heap.size ≤ q → A q := fun q h => by rw [← hAe]; exact Or.inr h
  have hS : va_S A s.heap s.heap [] := va_S.rf
  have hP : va_P (dC, dI) vwCl [(h0, .inr (10, [.ref t0, .ref r0, .ref m0, .ref x0, v4, v5, v6, v7, v8, .int 0, .int ((-1)), .int 0])), (m0, .inl (cM, 8, .inr (.inr (.inr (.inr (fun _ => none)))))), (r0, .inl (cR, 4, .inr (.inr (.inr (.inr fR)))))] s.heap := hP
  have hl := lv_entry ([.ref h0, .int p0, .int p1, .int p2, .int p3]) (n := 10) (Nat.le_of_ble_eq_true rfl)
  rw [lg_entry_eq]
  generalize (lg_sl ([.ref h0, .int p0, .int p1, .int p2, .int p3]) ++ List.replicate (10 - (lg_sl ([.ref h0, .int p0, .int p1, .int p2, .int p3])).length) Slot.unset).toArray = ls at hl ⊢
  have hl : lv_has ls 10 [(0, .ref h0), (1, .int p0), (2, .int p1), (3, .int p2), (4, .int p3)] := hl
  refine lv_aload_n hx hb dX8_open_0 rfl (lv_at hl 0 rfl) ?_
  refine lv_iload_n hx hb dX8_open_1 rfl (lv_at hl 1 rfl) ?_
  have hFc := va_free (wc := [(h0, .inr (10, [.ref t0, .ref r0, .ref m0, .ref x0, v4, v5, v6, v7, v8, .int 0, .int ((-1)), .int 0])), (r0, .inl (cR, 4, .inr (.inr (.inr (.inr fR)))))]) hD hS hA [0, 2] rfl
  refine va_callq (va_runV (As := [.int p0]) (rest := []) ⟨hx, hb, hml, hown, hts⟩ (c_X8_recordAny l dC dI h0 t0 r0 m0 x0 (v4) (v5) (v6) (v7) (v8) cR fR p0 s.heap.size) (cwV 1 hts gp_X8_open_X8_recordAny_128 rfl rfl rfl (by decide +kernel) ⟨Nat.le_of_ble_eq_true rfl, Nat.le_of_ble_eq_true rfl⟩) ⟨Pr.blind _, va_recv hK hP (ci := 10) (q0 := 0) rfl rfl, fun U hU hW => ⟨rfl, Pr.at (hP.sub (ws' := [(h0, .inr (10, [.ref t0, .ref r0, .ref m0, .ref x0, v4, v5, v6, v7, v8, .int 0, .int ((-1)), .int 0])), (r0, .inl (cR, 4, .inr (.inr (.inr (.inr fR)))))]) [0, 2] rfl) (hK.sub (tys' := [(cR, .object RX5)]) [1] rfl) (hD.sub (ws' := [(h0, .inr (10, [.ref t0, .ref r0, .ref m0, .ref x0, v4, v5, v6, v7, v8, .int 0, .int ((-1)), .int 0])), (r0, .inl (cR, 4, .inr (.inr (.inr (.inr fR)))))]) [0, 2] (by decide) rfl) hN hZ hS hFc hU hW⟩⟩ rfl rfl hl.1 rfl (lv_room (Nat.le_of_ble_eq_true rfl)) dX8_open_2 ⟨Nat.le_of_ble_eq_true rfl, Nat.le_of_ble_eq_true rfl⟩) hS (fun q _ h => hFc q h) hFc (fun r_1 u t H1 locs ht hvm hw_2 hB hz1 hk1 hS => ?_)
  obtain ⟨hP, hD, hK⟩ := Bq.join (wr := [(m0, .inl (cM, 8, .inr (.inr (.inr (.inr (fun _ => none))))))]) hB ht hvm hP hD [0, 2] [1] rfl rfl (by decide) (by decide) hk1 hFc hK
  generalize H1 = H at hP hS ⊢
  have hP : va_P (dC, dI) vwCl [(m0, .inl (cM, 8, .inr (.inr (.inr (.inr (fun _ => none)))))), (h0, .inr (10, [.ref t0, .ref r0, .ref m0, .ref x0, v4, v5, v6, v7, v8, .int 0, .int (-1), .int 0])), (r0, .inl (cR, 4, .inr (.inr (.inr (.inr fR)))))] H := hP
  have hD : va_D A [(m0, .inl (cM, 8, .inr (.inr (.inr (.inr (fun _ => none)))))), (h0, .inr (10, [.ref t0, .ref r0, .ref m0, .ref x0, v4, v5, v6, v7, v8, .int 0, .int (-1), .int 0])), (r0, .inl (cR, 4, .inr (.inr (.inr (.inr fR)))))] := hD
  have hK : va_K (dC, dI) vwCl [(cM, .object RX1), (cR, .object RX5)] s := hK
  try dsimp only at hw_2
  rcases r_1 with _ | a_3
  · refine W.eq (g2 := F0 m 5 ls [.null]) rfl ?_
    refine lv_astoreN (lv' := [(5, .null), (0, .ref h0), (1, .int p0), (2, .int p1), (3, .int p2), (4, .int p3)]) hx hb dX8_open_5 hl (by decide) rfl (fun ls hl => ?_)
    refine lv_aload_n hx hb dX8_open_7 rfl (lv_at hl 1 rfl) ?_
    refine lv_iload hx hb dX8_open_8 (lv_at hl 5 rfl) ?_
    have hFc := va_free (wc := [(h0, .inr (10, [.ref t0, .ref r0, .ref m0, .ref x0, v4, v5, v6, v7, v8, .int 0, .int (-1), .int 0])), (r0, .inl (cR, 4, .inr (.inr (.inr (.inr fR)))))]) hD hS hA [1, 2] rfl
    refine va_callq (va_runV (As := [.int p3]) (rest := []) ⟨hx, hb, hml, hown, hts⟩ (c_X8_recordAny l dC dI h0 t0 r0 m0 x0 (v4) (v5) (v6) (v7) (v8) cR fR p3 H.size) (cwV 1 hts gp_X8_open_X8_recordAny_128 rfl rfl rfl (by decide +kernel) ⟨Nat.le_of_ble_eq_true rfl, Nat.le_of_ble_eq_true rfl⟩) ⟨Pr.blind _, va_recv hK hP (ci := 10) (q0 := 1) rfl rfl, fun U hU hW => ⟨rfl, Pr.at (hP.sub (ws' := [(h0, .inr (10, [.ref t0, .ref r0, .ref m0, .ref x0, v4, v5, v6, v7, v8, .int 0, .int (-1), .int 0])), (r0, .inl (cR, 4, .inr (.inr (.inr (.inr fR)))))]) [1, 2] rfl) (hK.sub (tys' := [(cR, .object RX5)]) [1] rfl) (hD.sub (ws' := [(h0, .inr (10, [.ref t0, .ref r0, .ref m0, .ref x0, v4, v5, v6, v7, v8, .int 0, .int (-1), .int 0])), (r0, .inl (cR, 4, .inr (.inr (.inr (.inr fR)))))]) [1, 2] (by decide) rfl) hN hZ hS hFc hU hW⟩⟩ rfl rfl hl.1 rfl (lv_room (Nat.le_of_ble_eq_true rfl)) dX8_open_10 ⟨Nat.le_of_ble_eq_true rfl, Nat.le_of_ble_eq_true rfl⟩) hS (fun q _ h => hFc q h) hFc (fun r_4 u t H1 locs ht hvm hw_5 hB hz1 hk1 hS => ?_)
    obtain ⟨hP, hD, hK⟩ := Bq.join (wr := [(m0, .inl (cM, 8, .inr (.inr (.inr (.inr (fun _ => none))))))]) hB ht hvm hP hD [1, 2] [0] rfl rfl (by decide) (by decide) hk1 hFc hK
    generalize H1 = H at hP hS ⊢
    have hP : va_P (dC, dI) vwCl [(m0, .inl (cM, 8, .inr (.inr (.inr (.inr (fun _ => none)))))), (h0, .inr (10, [.ref t0, .ref r0, .ref m0, .ref x0, v4, v5, v6, v7, v8, .int 0, .int (-1), .int 0])), (r0, .inl (cR, 4, .inr (.inr (.inr (.inr fR)))))] H := hP
    have hD : va_D A [(m0, .inl (cM, 8, .inr (.inr (.inr (.inr (fun _ => none)))))), (h0, .inr (10, [.ref t0, .ref r0, .ref m0, .ref x0, v4, v5, v6, v7, v8, .int 0, .int (-1), .int 0])), (r0, .inl (cR, 4, .inr (.inr (.inr (.inr fR)))))] := hD
    have hK : va_K (dC, dI) vwCl [(cM, .object RX1), (cR, .object RX5)] s := hK
    try dsimp only at hw_5
    rcases r_4 with _ | a_6
    · refine W.eq (g2 := F0 m 13 ls [.null]) rfl ?_
      refine lv_astoreN (lv' := [(6, .null), (5, .null), (0, .ref h0), (1, .int p0), (2, .int p1), (3, .int p2), (4, .int p3)]) hx hb dX8_open_13 hl (by decide) rfl (fun ls hl => ?_)
      refine lv_aload_n hx hb dX8_open_15 rfl (lv_at hl 2 rfl) ?_
      refine va_get (D := (dC, dI)) (ci := 10) (v := .ref m0) (C := RX8) (T := TX8) (N := 12) hx hb hts iRX8 hown hK hP 1 rfl rfl 2 (by decide) (hts (.fieldLink RX8 24 "RecordBench" "makes" "[LRecordBench$Make;") (by decide +kernel)) (fun _ h9 => h9) rfl dX8_open_16 ?_
      refine lv_iload_n hx hb dX8_open_19 rfl (lv_at hl 4 rfl) ?_
      have hFc := va_free (wc := [(m0, .inl (cM, 8, .inr (.inr (.inr (.inr (fun _ => none))))))]) hD hS hA [0] rfl
      refine va_callq (va_runS (As := [.ref m0, .int p1]) (rest := []) ⟨hx, hb, hml, hown, hts⟩ (c_X8_makeOf l dC dI m0 p1 cM H.size) (cwS 2 hts gp_X8_open_X8_makeOf_136 rfl rfl rfl (by decide +kernel) ⟨Nat.le_of_ble_eq_true rfl, Nat.le_of_ble_eq_true rfl⟩) ⟨Pr.blind _, fun U hU hW => ⟨rfl, Pr.at (hP.sub (ws' := [(m0, .inl (cM, 8, .inr (.inr (.inr (.inr (fun _ => none))))))]) [0] rfl) (hK.sub (tys' := [(cM, .object RX1)]) [0] rfl) (hD.sub (ws' := [(m0, .inl (cM, 8, .inr (.inr (.inr (.inr (fun _ => none))))))]) [0] (by decide) rfl) hN hZ hS hFc hU hW⟩⟩ rfl rfl hl.1 rfl (lv_room (Nat.le_of_ble_eq_true rfl)) dX8_open_20 ⟨Nat.le_of_ble_eq_true rfl, Nat.le_of_ble_eq_true rfl⟩) hS (fun q _ h => hFc q h) hFc (fun r_7 u t H1 locs ht hvm hw_8 hB hz1 hk1 hS => ?_)
      obtain ⟨hP, hD, hK⟩ := Bq.join (wr := [(h0, .inr (10, [.ref t0, .ref r0, .ref m0, .ref x0, v4, v5, v6, v7, v8, .int 0, .int (-1), .int 0])), (r0, .inl (cR, 4, .inr (.inr (.inr (.inr fR)))))]) hB ht hvm hP hD [0] [1, 2] rfl rfl (by decide) (by decide) hk1 hFc hK
      generalize H1 = H at hP hS ⊢
      have hP : va_P (dC, dI) vwCl [(h0, .inr (10, [.ref t0, .ref r0, .ref m0, .ref x0, v4, v5, v6, v7, v8, .int 0, .int (-1), .int 0])), (r0, .inl (cR, 4, .inr (.inr (.inr (.inr fR))))), (m0, .inl (cM, 8, .inr (.inr (.inr (.inr (fun _ => none))))))] H := hP
      have hD : va_D A [(h0, .inr (10, [.ref t0, .ref r0, .ref m0, .ref x0, v4, v5, v6, v7, v8, .int 0, .int (-1), .int 0])), (r0, .inl (cR, 4, .inr (.inr (.inr (.inr fR))))), (m0, .inl (cM, 8, .inr (.inr (.inr (.inr (fun _ => none))))))] := hD
      have hK : va_K (dC, dI) vwCl [(cM, .object RX1), (cR, .object RX5)] s := hK
      try dsimp only at hw_8
      have k_9 := hw_8
      subst k_9
      refine W.eq (g2 := F0 m 23 ls [.null]) rfl ?_
      refine lv_astoreN (lv' := [(7, .null), (6, .null), (5, .null), (0, .ref h0), (1, .int p0), (2, .int p1), (3, .int p2), (4, .int p3)]) hx hb dX8_open_23 hl (by decide) rfl (fun ls hl => ?_)
      refine lv_aload_n hx hb dX8_open_25 rfl (lv_at hl 3 rfl) ?_
      refine lv_iload_n hx hb dX8_open_26 rfl (lv_at hl 5 rfl) ?_
      refine lv_iload_n hx hb dX8_open_27 rfl (lv_at hl 6 rfl) ?_
      have hFc := va_free (wc := [(h0, .inr (10, [.ref t0, .ref r0, .ref m0, .ref x0, v4, v5, v6, v7, v8, .int 0, .int (-1), .int 0])), (m0, .inl (cM, 8, .inr (.inr (.inr (.inr (fun _ => none))))))]) hD hS hA [0, 2] rfl
      refine va_callq (va_runV (As := [.int p1, .int p2]) (rest := []) ⟨hx, hb, hml, hown, hts⟩ (c_X8_fieldOf l dC dI h0 t0 r0 m0 x0 (v4) (v5) (v6) (v7) (v8) cM p1 p2 H.size) (cwV 2 hts gp_X8_open_X8_fieldOf_100 rfl rfl rfl (by decide +kernel) ⟨Nat.le_of_ble_eq_true rfl, Nat.le_of_ble_eq_true rfl⟩) ⟨Pr.blind _, va_recv hK hP (ci := 10) (q0 := 0) rfl rfl, fun U hU hW => ⟨rfl, Pr.at (hP.sub (ws' := [(h0, .inr (10, [.ref t0, .ref r0, .ref m0, .ref x0, v4, v5, v6, v7, v8, .int 0, .int (-1), .int 0])), (m0, .inl (cM, 8, .inr (.inr (.inr (.inr (fun _ => none))))))]) [0, 2] rfl) (hK.sub (tys' := [(cM, .object RX1)]) [0] rfl) (hD.sub (ws' := [(h0, .inr (10, [.ref t0, .ref r0, .ref m0, .ref x0, v4, v5, v6, v7, v8, .int 0, .int (-1), .int 0])), (m0, .inl (cM, 8, .inr (.inr (.inr (.inr (fun _ => none))))))]) [0, 2] (by decide) rfl) hN hZ hS hFc hU hW⟩⟩ rfl rfl hl.1 rfl (lv_room (Nat.le_of_ble_eq_true rfl)) dX8_open_28 ⟨Nat.le_of_ble_eq_true rfl, Nat.le_of_ble_eq_true rfl⟩) hS (fun q _ h => hFc q h) hFc (fun r_10 u t H1 locs ht hvm hw_11 hB hz1 hk1 hS => ?_)
      obtain ⟨hP, hD, hK⟩ := Bq.join (wr := [(r0, .inl (cR, 4, .inr (.inr (.inr (.inr fR)))))]) hB ht hvm hP hD [0, 2] [1] rfl rfl (by decide) (by decide) hk1 hFc hK
      generalize H1 = H at hP hS ⊢
      have hP : va_P (dC, dI) vwCl [(r0, .inl (cR, 4, .inr (.inr (.inr (.inr fR))))), (h0, .inr (10, [.ref t0, .ref r0, .ref m0, .ref x0, v4, v5, v6, v7, v8, .int 0, .int (-1), .int 0])), (m0, .inl (cM, 8, .inr (.inr (.inr (.inr (fun _ => none))))))] H := hP
      have hD : va_D A [(r0, .inl (cR, 4, .inr (.inr (.inr (.inr fR))))), (h0, .inr (10, [.ref t0, .ref r0, .ref m0, .ref x0, v4, v5, v6, v7, v8, .int 0, .int (-1), .int 0])), (m0, .inl (cM, 8, .inr (.inr (.inr (.inr (fun _ => none))))))] := hD
      have hK : va_K (dC, dI) vwCl [(cM, .object RX1), (cR, .object RX5)] s := hK
      try dsimp only at hw_11
      have k_12 := hw_11
      subst k_12
      refine W.eq (g2 := F0 m 31 ls [.null]) rfl ?_
      refine lv_astoreN (lv' := [(8, .null), (7, .null), (6, .null), (5, .null), (0, .ref h0), (1, .int p0), (2, .int p1), (3, .int p2), (4, .int p3)]) hx hb dX8_open_31 hl (by decide) rfl (fun ls hl => ?_)
      refine lv_aloadN hx hb dX8_open_33 (lv_at hl 3 rfl) ?_
      refine lv_ifnullN (tgt := 63) hx hb dX8_open_35 (by decide) ?_
      refine lv_iconst (v := (-1)) hx hb dX8_open_63 (by decide) ?_
      have hP9 := hP.sub (ws' := []) [] rfl
      have hD9 := hD.sub (ws' := []) [] (by decide) rfl
      have hK9 := hK.sub (tys' := []) [] rfl
      exact W.iret (v := (-1)) hx hb hr (fun t ht hW => ⟨⟨(-1), (), rfl, rfl, by rw [ht]; exact hP9, va_K.moved hW.alike hK9, hD9⟩, hS.F ht⟩) hS.2.2 dX8_open_64
    · refine W.eq (g2 := F0 m 13 ls [.ref a_6]) rfl ?_
      refine lv_astore (lv' := [(6, .ref a_6), (5, .null), (0, .ref h0), (1, .int p0), (2, .int p1), (3, .int p2), (4, .int p3)]) hx hb dX8_open_13 hl (by decide) rfl (fun ls hl => ?_)
      refine lv_aload_n hx hb dX8_open_15 rfl (lv_at hl 2 rfl) ?_
      refine va_get (D := (dC, dI)) (ci := 10) (v := .ref m0) (C := RX8) (T := TX8) (N := 12) hx hb hts iRX8 hown hK hP 1 rfl rfl 2 (by decide) (hts (.fieldLink RX8 24 "RecordBench" "makes" "[LRecordBench$Make;") (by decide +kernel)) (fun _ h9 => h9) rfl dX8_open_16 ?_
      refine lv_iload_n hx hb dX8_open_19 rfl (lv_at hl 4 rfl) ?_
      have hFc := va_free (wc := [(m0, .inl (cM, 8, .inr (.inr (.inr (.inr (fun _ => none))))))]) hD hS hA [0] rfl
      refine va_callq (va_runS (As := [.ref m0, .int p1]) (rest := []) ⟨hx, hb, hml, hown, hts⟩ (c_X8_makeOf l dC dI m0 p1 cM H.size) (cwS 2 hts gp_X8_open_X8_makeOf_136 rfl rfl rfl (by decide +kernel) ⟨Nat.le_of_ble_eq_true rfl, Nat.le_of_ble_eq_true rfl⟩) ⟨Pr.blind _, fun U hU hW => ⟨rfl, Pr.at (hP.sub (ws' := [(m0, .inl (cM, 8, .inr (.inr (.inr (.inr (fun _ => none))))))]) [0] rfl) (hK.sub (tys' := [(cM, .object RX1)]) [0] rfl) (hD.sub (ws' := [(m0, .inl (cM, 8, .inr (.inr (.inr (.inr (fun _ => none))))))]) [0] (by decide) rfl) hN hZ hS hFc hU hW⟩⟩ rfl rfl hl.1 rfl (lv_room (Nat.le_of_ble_eq_true rfl)) dX8_open_20 ⟨Nat.le_of_ble_eq_true rfl, Nat.le_of_ble_eq_true rfl⟩) hS (fun q _ h => hFc q h) hFc (fun r_13 u t H1 locs ht hvm hw_14 hB hz1 hk1 hS => ?_)
      obtain ⟨hP, hD, hK⟩ := Bq.join (wr := [(h0, .inr (10, [.ref t0, .ref r0, .ref m0, .ref x0, v4, v5, v6, v7, v8, .int 0, .int (-1), .int 0])), (r0, .inl (cR, 4, .inr (.inr (.inr (.inr fR)))))]) hB ht hvm hP hD [0] [1, 2] rfl rfl (by decide) (by decide) hk1 hFc hK
      generalize H1 = H at hP hS ⊢
      have hP : va_P (dC, dI) vwCl [(h0, .inr (10, [.ref t0, .ref r0, .ref m0, .ref x0, v4, v5, v6, v7, v8, .int 0, .int (-1), .int 0])), (r0, .inl (cR, 4, .inr (.inr (.inr (.inr fR))))), (m0, .inl (cM, 8, .inr (.inr (.inr (.inr (fun _ => none))))))] H := hP
      have hD : va_D A [(h0, .inr (10, [.ref t0, .ref r0, .ref m0, .ref x0, v4, v5, v6, v7, v8, .int 0, .int (-1), .int 0])), (r0, .inl (cR, 4, .inr (.inr (.inr (.inr fR))))), (m0, .inl (cM, 8, .inr (.inr (.inr (.inr (fun _ => none))))))] := hD
      have hK : va_K (dC, dI) vwCl [(cM, .object RX1), (cR, .object RX5)] s := hK
      try dsimp only at hw_14
      have k_15 := hw_14
      subst k_15
      refine W.eq (g2 := F0 m 23 ls [.null]) rfl ?_
      refine lv_astoreN (lv' := [(7, .null), (6, .ref a_6), (5, .null), (0, .ref h0), (1, .int p0), (2, .int p1), (3, .int p2), (4, .int p3)]) hx hb dX8_open_23 hl (by decide) rfl (fun ls hl => ?_)
      refine lv_aload_n hx hb dX8_open_25 rfl (lv_at hl 3 rfl) ?_
      refine lv_iload_n hx hb dX8_open_26 rfl (lv_at hl 5 rfl) ?_
      refine lv_iload_n hx hb dX8_open_27 rfl (lv_at hl 6 rfl) ?_
      have hFc := va_free (wc := [(h0, .inr (10, [.ref t0, .ref r0, .ref m0, .ref x0, v4, v5, v6, v7, v8, .int 0, .int (-1), .int 0])), (m0, .inl (cM, 8, .inr (.inr (.inr (.inr (fun _ => none))))))]) hD hS hA [0, 2] rfl
      refine va_callq (va_runV (As := [.int p1, .int p2]) (rest := []) ⟨hx, hb, hml, hown, hts⟩ (c_X8_fieldOf l dC dI h0 t0 r0 m0 x0 (v4) (v5) (v6) (v7) (v8) cM p1 p2 H.size) (cwV 2 hts gp_X8_open_X8_fieldOf_100 rfl rfl rfl (by decide +kernel) ⟨Nat.le_of_ble_eq_true rfl, Nat.le_of_ble_eq_true rfl⟩) ⟨Pr.blind _, va_recv hK hP (ci := 10) (q0 := 0) rfl rfl, fun U hU hW => ⟨rfl, Pr.at (hP.sub (ws' := [(h0, .inr (10, [.ref t0, .ref r0, .ref m0, .ref x0, v4, v5, v6, v7, v8, .int 0, .int (-1), .int 0])), (m0, .inl (cM, 8, .inr (.inr (.inr (.inr (fun _ => none))))))]) [0, 2] rfl) (hK.sub (tys' := [(cM, .object RX1)]) [0] rfl) (hD.sub (ws' := [(h0, .inr (10, [.ref t0, .ref r0, .ref m0, .ref x0, v4, v5, v6, v7, v8, .int 0, .int (-1), .int 0])), (m0, .inl (cM, 8, .inr (.inr (.inr (.inr (fun _ => none))))))]) [0, 2] (by decide) rfl) hN hZ hS hFc hU hW⟩⟩ rfl rfl hl.1 rfl (lv_room (Nat.le_of_ble_eq_true rfl)) dX8_open_28 ⟨Nat.le_of_ble_eq_true rfl, Nat.le_of_ble_eq_true rfl⟩) hS (fun q _ h => hFc q h) hFc (fun r_16 u t H1 locs ht hvm hw_17 hB hz1 hk1 hS => ?_)
      obtain ⟨hP, hD, hK⟩ := Bq.join (wr := [(r0, .inl (cR, 4, .inr (.inr (.inr (.inr fR)))))]) hB ht hvm hP hD [0, 2] [1] rfl rfl (by decide) (by decide) hk1 hFc hK
      generalize H1 = H at hP hS ⊢
      have hP : va_P (dC, dI) vwCl [(r0, .inl (cR, 4, .inr (.inr (.inr (.inr fR))))), (h0, .inr (10, [.ref t0, .ref r0, .ref m0, .ref x0, v4, v5, v6, v7, v8, .int 0, .int (-1), .int 0])), (m0, .inl (cM, 8, .inr (.inr (.inr (.inr (fun _ => none))))))] H := hP
      have hD : va_D A [(r0, .inl (cR, 4, .inr (.inr (.inr (.inr fR))))), (h0, .inr (10, [.ref t0, .ref r0, .ref m0, .ref x0, v4, v5, v6, v7, v8, .int 0, .int (-1), .int 0])), (m0, .inl (cM, 8, .inr (.inr (.inr (.inr (fun _ => none))))))] := hD
      have hK : va_K (dC, dI) vwCl [(cM, .object RX1), (cR, .object RX5)] s := hK
      try dsimp only at hw_17
      have k_18 := hw_17
      subst k_18
      refine W.eq (g2 := F0 m 31 ls [.null]) rfl ?_
      refine lv_astoreN (lv' := [(8, .null), (7, .null), (6, .ref a_6), (5, .null), (0, .ref h0), (1, .int p0), (2, .int p1), (3, .int p2), (4, .int p3)]) hx hb dX8_open_31 hl (by decide) rfl (fun ls hl => ?_)
      refine lv_aloadN hx hb dX8_open_33 (lv_at hl 3 rfl) ?_
      refine lv_ifnullN (tgt := 63) hx hb dX8_open_35 (by decide) ?_
      refine lv_iconst (v := (-1)) hx hb dX8_open_63 (by decide) ?_
      have hP9 := hP.sub (ws' := []) [] rfl
      have hD9 := hD.sub (ws' := []) [] (by decide) rfl
      have hK9 := hK.sub (tys' := []) [] rfl
      exact W.iret (v := (-1)) hx hb hr (fun t ht hW => ⟨⟨(-1), (), rfl, rfl, by rw [ht]; exact hP9, va_K.moved hW.alike hK9, hD9⟩, hS.F ht⟩) hS.2.2 dX8_open_64
  · refine W.eq (g2 := F0 m 5 ls [.ref a_3]) rfl ?_
    refine lv_astore (lv' := [(5, .ref a_3), (0, .ref h0), (1, .int p0), (2, .int p1), (3, .int p2), (4, .int p3)]) hx hb dX8_open_5 hl (by decide) rfl (fun ls hl => ?_)
    refine lv_aload_n hx hb dX8_open_7 rfl (lv_at hl 1 rfl) ?_
    refine lv_iload hx hb dX8_open_8 (lv_at hl 5 rfl) ?_
    have hFc := va_free (wc := [(h0, .inr (10, [.ref t0, .ref r0, .ref m0, .ref x0, v4, v5, v6, v7, v8, .int 0, .int (-1), .int 0])), (r0, .inl (cR, 4, .inr (.inr (.inr (.inr fR)))))]) hD hS hA [1, 2] rfl
    refine va_callq (va_runV (As := [.int p3]) (rest := []) ⟨hx, hb, hml, hown, hts⟩ (c_X8_recordAny l dC dI h0 t0 r0 m0 x0 (v4) (v5) (v6) (v7) (v8) cR fR p3 H.size) (cwV 1 hts gp_X8_open_X8_recordAny_128 rfl rfl rfl (by decide +kernel) ⟨Nat.le_of_ble_eq_true rfl, Nat.le_of_ble_eq_true rfl⟩) ⟨Pr.blind _, va_recv hK hP (ci := 10) (q0 := 1) rfl rfl, fun U hU hW => ⟨rfl, Pr.at (hP.sub (ws' := [(h0, .inr (10, [.ref t0, .ref r0, .ref m0, .ref x0, v4, v5, v6, v7, v8, .int 0, .int (-1), .int 0])), (r0, .inl (cR, 4, .inr (.inr (.inr (.inr fR)))))]) [1, 2] rfl) (hK.sub (tys' := [(cR, .object RX5)]) [1] rfl) (hD.sub (ws' := [(h0, .inr (10, [.ref t0, .ref r0, .ref m0, .ref x0, v4, v5, v6, v7, v8, .int 0, .int (-1), .int 0])), (r0, .inl (cR, 4, .inr (.inr (.inr (.inr fR)))))]) [1, 2] (by decide) rfl) hN hZ hS hFc hU hW⟩⟩ rfl rfl hl.1 rfl (lv_room (Nat.le_of_ble_eq_true rfl)) dX8_open_10 ⟨Nat.le_of_ble_eq_true rfl, Nat.le_of_ble_eq_true rfl⟩) hS (fun q _ h => hFc q h) hFc (fun r_19 u t H1 locs ht hvm hw_20 hB hz1 hk1 hS => ?_)
    obtain ⟨hP, hD, hK⟩ := Bq.join (wr := [(m0, .inl (cM, 8, .inr (.inr (.inr (.inr (fun _ => none))))))]) hB ht hvm hP hD [1, 2] [0] rfl rfl (by decide) (by decide) hk1 hFc hK
    generalize H1 = H at hP hS ⊢
    have hP : va_P (dC, dI) vwCl [(m0, .inl (cM, 8, .inr (.inr (.inr (.inr (fun _ => none)))))), (h0, .inr (10, [.ref t0, .ref r0, .ref m0, .ref x0, v4, v5, v6, v7, v8, .int 0, .int (-1), .int 0])), (r0, .inl (cR, 4, .inr (.inr (.inr (.inr fR)))))] H := hP
    have hD : va_D A [(m0, .inl (cM, 8, .inr (.inr (.inr (.inr (fun _ => none)))))), (h0, .inr (10, [.ref t0, .ref r0, .ref m0, .ref x0, v4, v5, v6, v7, v8, .int 0, .int (-1), .int 0])), (r0, .inl (cR, 4, .inr (.inr (.inr (.inr fR)))))] := hD
    have hK : va_K (dC, dI) vwCl [(cM, .object RX1), (cR, .object RX5)] s := hK
    try dsimp only at hw_20
    rcases r_19 with _ | a_21
    · refine W.eq (g2 := F0 m 13 ls [.null]) rfl ?_
      refine lv_astoreN (lv' := [(6, .null), (5, .ref a_3), (0, .ref h0), (1, .int p0), (2, .int p1), (3, .int p2), (4, .int p3)]) hx hb dX8_open_13 hl (by decide) rfl (fun ls hl => ?_)
      refine lv_aload_n hx hb dX8_open_15 rfl (lv_at hl 2 rfl) ?_
      refine va_get (D := (dC, dI)) (ci := 10) (v := .ref m0) (C := RX8) (T := TX8) (N := 12) hx hb hts iRX8 hown hK hP 1 rfl rfl 2 (by decide) (hts (.fieldLink RX8 24 "RecordBench" "makes" "[LRecordBench$Make;") (by decide +kernel)) (fun _ h9 => h9) rfl dX8_open_16 ?_
      refine lv_iload_n hx hb dX8_open_19 rfl (lv_at hl 4 rfl) ?_
      have hFc := va_free (wc := [(m0, .inl (cM, 8, .inr (.inr (.inr (.inr (fun _ => none))))))]) hD hS hA [0] rfl
      refine va_callq (va_runS (As := [.ref m0, .int p1]) (rest := []) ⟨hx, hb, hml, hown, hts⟩ (c_X8_makeOf l dC dI m0 p1 cM H.size) (cwS 2 hts gp_X8_open_X8_makeOf_136 rfl rfl rfl (by decide +kernel) ⟨Nat.le_of_ble_eq_true rfl, Nat.le_of_ble_eq_true rfl⟩) ⟨Pr.blind _, fun U hU hW => ⟨rfl, Pr.at (hP.sub (ws' := [(m0, .inl (cM, 8, .inr (.inr (.inr (.inr (fun _ => none))))))]) [0] rfl) (hK.sub (tys' := [(cM, .object RX1)]) [0] rfl) (hD.sub (ws' := [(m0, .inl (cM, 8, .inr (.inr (.inr (.inr (fun _ => none))))))]) [0] (by decide) rfl) hN hZ hS hFc hU hW⟩⟩ rfl rfl hl.1 rfl (lv_room (Nat.le_of_ble_eq_true rfl)) dX8_open_20 ⟨Nat.le_of_ble_eq_true rfl, Nat.le_of_ble_eq_true rfl⟩) hS (fun q _ h => hFc q h) hFc (fun r_22 u t H1 locs ht hvm hw_23 hB hz1 hk1 hS => ?_)
      obtain ⟨hP, hD, hK⟩ := Bq.join (wr := [(h0, .inr (10, [.ref t0, .ref r0, .ref m0, .ref x0, v4, v5, v6, v7, v8, .int 0, .int (-1), .int 0])), (r0, .inl (cR, 4, .inr (.inr (.inr (.inr fR)))))]) hB ht hvm hP hD [0] [1, 2] rfl rfl (by decide) (by decide) hk1 hFc hK
      generalize H1 = H at hP hS ⊢
      have hP : va_P (dC, dI) vwCl [(h0, .inr (10, [.ref t0, .ref r0, .ref m0, .ref x0, v4, v5, v6, v7, v8, .int 0, .int (-1), .int 0])), (r0, .inl (cR, 4, .inr (.inr (.inr (.inr fR))))), (m0, .inl (cM, 8, .inr (.inr (.inr (.inr (fun _ => none))))))] H := hP
      have hD : va_D A [(h0, .inr (10, [.ref t0, .ref r0, .ref m0, .ref x0, v4, v5, v6, v7, v8, .int 0, .int (-1), .int 0])), (r0, .inl (cR, 4, .inr (.inr (.inr (.inr fR))))), (m0, .inl (cM, 8, .inr (.inr (.inr (.inr (fun _ => none))))))] := hD
      have hK : va_K (dC, dI) vwCl [(cM, .object RX1), (cR, .object RX5)] s := hK
      try dsimp only at hw_23
      have k_24 := hw_23
      subst k_24
      refine W.eq (g2 := F0 m 23 ls [.null]) rfl ?_
      refine lv_astoreN (lv' := [(7, .null), (6, .null), (5, .ref a_3), (0, .ref h0), (1, .int p0), (2, .int p1), (3, .int p2), (4, .int p3)]) hx hb dX8_open_23 hl (by decide) rfl (fun ls hl => ?_)
      refine lv_aload_n hx hb dX8_open_25 rfl (lv_at hl 3 rfl) ?_
      refine lv_iload_n hx hb dX8_open_26 rfl (lv_at hl 5 rfl) ?_
      refine lv_iload_n hx hb dX8_open_27 rfl (lv_at hl 6 rfl) ?_
      have hFc := va_free (wc := [(h0, .inr (10, [.ref t0, .ref r0, .ref m0, .ref x0, v4, v5, v6, v7, v8, .int 0, .int (-1), .int 0])), (m0, .inl (cM, 8, .inr (.inr (.inr (.inr (fun _ => none))))))]) hD hS hA [0, 2] rfl
      refine va_callq (va_runV (As := [.int p1, .int p2]) (rest := []) ⟨hx, hb, hml, hown, hts⟩ (c_X8_fieldOf l dC dI h0 t0 r0 m0 x0 (v4) (v5) (v6) (v7) (v8) cM p1 p2 H.size) (cwV 2 hts gp_X8_open_X8_fieldOf_100 rfl rfl rfl (by decide +kernel) ⟨Nat.le_of_ble_eq_true rfl, Nat.le_of_ble_eq_true rfl⟩) ⟨Pr.blind _, va_recv hK hP (ci := 10) (q0 := 0) rfl rfl, fun U hU hW => ⟨rfl, Pr.at (hP.sub (ws' := [(h0, .inr (10, [.ref t0, .ref r0, .ref m0, .ref x0, v4, v5, v6, v7, v8, .int 0, .int (-1), .int 0])), (m0, .inl (cM, 8, .inr (.inr (.inr (.inr (fun _ => none))))))]) [0, 2] rfl) (hK.sub (tys' := [(cM, .object RX1)]) [0] rfl) (hD.sub (ws' := [(h0, .inr (10, [.ref t0, .ref r0, .ref m0, .ref x0, v4, v5, v6, v7, v8, .int 0, .int (-1), .int 0])), (m0, .inl (cM, 8, .inr (.inr (.inr (.inr (fun _ => none))))))]) [0, 2] (by decide) rfl) hN hZ hS hFc hU hW⟩⟩ rfl rfl hl.1 rfl (lv_room (Nat.le_of_ble_eq_true rfl)) dX8_open_28 ⟨Nat.le_of_ble_eq_true rfl, Nat.le_of_ble_eq_true rfl⟩) hS (fun q _ h => hFc q h) hFc (fun r_25 u t H1 locs ht hvm hw_26 hB hz1 hk1 hS => ?_)
      obtain ⟨hP, hD, hK⟩ := Bq.join (wr := [(r0, .inl (cR, 4, .inr (.inr (.inr (.inr fR)))))]) hB ht hvm hP hD [0, 2] [1] rfl rfl (by decide) (by decide) hk1 hFc hK
      generalize H1 = H at hP hS ⊢
      have hP : va_P (dC, dI) vwCl [(r0, .inl (cR, 4, .inr (.inr (.inr (.inr fR))))), (h0, .inr (10, [.ref t0, .ref r0, .ref m0, .ref x0, v4, v5, v6, v7, v8, .int 0, .int (-1), .int 0])), (m0, .inl (cM, 8, .inr (.inr (.inr (.inr (fun _ => none))))))] H := hP
      have hD : va_D A [(r0, .inl (cR, 4, .inr (.inr (.inr (.inr fR))))), (h0, .inr (10, [.ref t0, .ref r0, .ref m0, .ref x0, v4, v5, v6, v7, v8, .int 0, .int (-1), .int 0])), (m0, .inl (cM, 8, .inr (.inr (.inr (.inr (fun _ => none))))))] := hD
      have hK : va_K (dC, dI) vwCl [(cM, .object RX1), (cR, .object RX5)] s := hK
      try dsimp only at hw_26
      have k_27 := hw_26
      subst k_27
      refine W.eq (g2 := F0 m 31 ls [.null]) rfl ?_
      refine lv_astoreN (lv' := [(8, .null), (7, .null), (6, .null), (5, .ref a_3), (0, .ref h0), (1, .int p0), (2, .int p1), (3, .int p2), (4, .int p3)]) hx hb dX8_open_31 hl (by decide) rfl (fun ls hl => ?_)
      refine lv_aload hx hb dX8_open_33 (lv_at hl 3 rfl) ?_
      refine lv_ifnull hx hb dX8_open_35 ?_
      refine lv_aloadN hx hb dX8_open_38 (lv_at hl 2 rfl) ?_
      refine lv_ifnullN (tgt := 63) hx hb dX8_open_40 (by decide) ?_
      refine lv_iconst (v := (-1)) hx hb dX8_open_63 (by decide) ?_
      have hP9 := hP.sub (ws' := []) [] rfl
      have hD9 := hD.sub (ws' := []) [] (by decide) rfl
      have hK9 := hK.sub (tys' := []) [] rfl
      exact W.iret (v := (-1)) hx hb hr (fun t ht hW => ⟨⟨(-1), (), rfl, rfl, by rw [ht]; exact hP9, va_K.moved hW.alike hK9, hD9⟩, hS.F ht⟩) hS.2.2 dX8_open_64
    · refine W.eq (g2 := F0 m 13 ls [.ref a_21]) rfl ?_
      refine lv_astore (lv' := [(6, .ref a_21), (5, .ref a_3), (0, .ref h0), (1, .int p0), (2, .int p1), (3, .int p2), (4, .int p3)]) hx hb dX8_open_13 hl (by decide) rfl (fun ls hl => ?_)
      refine lv_aload_n hx hb dX8_open_15 rfl (lv_at hl 2 rfl) ?_
      refine va_get (D := (dC, dI)) (ci := 10) (v := .ref m0) (C := RX8) (T := TX8) (N := 12) hx hb hts iRX8 hown hK hP 1 rfl rfl 2 (by decide) (hts (.fieldLink RX8 24 "RecordBench" "makes" "[LRecordBench$Make;") (by decide +kernel)) (fun _ h9 => h9) rfl dX8_open_16 ?_
      refine lv_iload_n hx hb dX8_open_19 rfl (lv_at hl 4 rfl) ?_
      have hFc := va_free (wc := [(m0, .inl (cM, 8, .inr (.inr (.inr (.inr (fun _ => none))))))]) hD hS hA [0] rfl
      refine va_callq (va_runS (As := [.ref m0, .int p1]) (rest := []) ⟨hx, hb, hml, hown, hts⟩ (c_X8_makeOf l dC dI m0 p1 cM H.size) (cwS 2 hts gp_X8_open_X8_makeOf_136 rfl rfl rfl (by decide +kernel) ⟨Nat.le_of_ble_eq_true rfl, Nat.le_of_ble_eq_true rfl⟩) ⟨Pr.blind _, fun U hU hW => ⟨rfl, Pr.at (hP.sub (ws' := [(m0, .inl (cM, 8, .inr (.inr (.inr (.inr (fun _ => none))))))]) [0] rfl) (hK.sub (tys' := [(cM, .object RX1)]) [0] rfl) (hD.sub (ws' := [(m0, .inl (cM, 8, .inr (.inr (.inr (.inr (fun _ => none))))))]) [0] (by decide) rfl) hN hZ hS hFc hU hW⟩⟩ rfl rfl hl.1 rfl (lv_room (Nat.le_of_ble_eq_true rfl)) dX8_open_20 ⟨Nat.le_of_ble_eq_true rfl, Nat.le_of_ble_eq_true rfl⟩) hS (fun q _ h => hFc q h) hFc (fun r_28 u t H1 locs ht hvm hw_29 hB hz1 hk1 hS => ?_)
      obtain ⟨hP, hD, hK⟩ := Bq.join (wr := [(h0, .inr (10, [.ref t0, .ref r0, .ref m0, .ref x0, v4, v5, v6, v7, v8, .int 0, .int (-1), .int 0])), (r0, .inl (cR, 4, .inr (.inr (.inr (.inr fR)))))]) hB ht hvm hP hD [0] [1, 2] rfl rfl (by decide) (by decide) hk1 hFc hK
      generalize H1 = H at hP hS ⊢
      have hP : va_P (dC, dI) vwCl [(h0, .inr (10, [.ref t0, .ref r0, .ref m0, .ref x0, v4, v5, v6, v7, v8, .int 0, .int (-1), .int 0])), (r0, .inl (cR, 4, .inr (.inr (.inr (.inr fR))))), (m0, .inl (cM, 8, .inr (.inr (.inr (.inr (fun _ => none))))))] H := hP
      have hD : va_D A [(h0, .inr (10, [.ref t0, .ref r0, .ref m0, .ref x0, v4, v5, v6, v7, v8, .int 0, .int (-1), .int 0])), (r0, .inl (cR, 4, .inr (.inr (.inr (.inr fR))))), (m0, .inl (cM, 8, .inr (.inr (.inr (.inr (fun _ => none))))))] := hD
      have hK : va_K (dC, dI) vwCl [(cM, .object RX1), (cR, .object RX5)] s := hK
      try dsimp only at hw_29
      have k_30 := hw_29
      subst k_30
      refine W.eq (g2 := F0 m 23 ls [.null]) rfl ?_
      refine lv_astoreN (lv' := [(7, .null), (6, .ref a_21), (5, .ref a_3), (0, .ref h0), (1, .int p0), (2, .int p1), (3, .int p2), (4, .int p3)]) hx hb dX8_open_23 hl (by decide) rfl (fun ls hl => ?_)
      refine lv_aload_n hx hb dX8_open_25 rfl (lv_at hl 3 rfl) ?_
      refine lv_iload_n hx hb dX8_open_26 rfl (lv_at hl 5 rfl) ?_
      refine lv_iload_n hx hb dX8_open_27 rfl (lv_at hl 6 rfl) ?_
      have hFc := va_free (wc := [(h0, .inr (10, [.ref t0, .ref r0, .ref m0, .ref x0, v4, v5, v6, v7, v8, .int 0, .int (-1), .int 0])), (m0, .inl (cM, 8, .inr (.inr (.inr (.inr (fun _ => none))))))]) hD hS hA [0, 2] rfl
      refine va_callq (va_runV (As := [.int p1, .int p2]) (rest := []) ⟨hx, hb, hml, hown, hts⟩ (c_X8_fieldOf l dC dI h0 t0 r0 m0 x0 (v4) (v5) (v6) (v7) (v8) cM p1 p2 H.size) (cwV 2 hts gp_X8_open_X8_fieldOf_100 rfl rfl rfl (by decide +kernel) ⟨Nat.le_of_ble_eq_true rfl, Nat.le_of_ble_eq_true rfl⟩) ⟨Pr.blind _, va_recv hK hP (ci := 10) (q0 := 0) rfl rfl, fun U hU hW => ⟨rfl, Pr.at (hP.sub (ws' := [(h0, .inr (10, [.ref t0, .ref r0, .ref m0, .ref x0, v4, v5, v6, v7, v8, .int 0, .int (-1), .int 0])), (m0, .inl (cM, 8, .inr (.inr (.inr (.inr (fun _ => none))))))]) [0, 2] rfl) (hK.sub (tys' := [(cM, .object RX1)]) [0] rfl) (hD.sub (ws' := [(h0, .inr (10, [.ref t0, .ref r0, .ref m0, .ref x0, v4, v5, v6, v7, v8, .int 0, .int (-1), .int 0])), (m0, .inl (cM, 8, .inr (.inr (.inr (.inr (fun _ => none))))))]) [0, 2] (by decide) rfl) hN hZ hS hFc hU hW⟩⟩ rfl rfl hl.1 rfl (lv_room (Nat.le_of_ble_eq_true rfl)) dX8_open_28 ⟨Nat.le_of_ble_eq_true rfl, Nat.le_of_ble_eq_true rfl⟩) hS (fun q _ h => hFc q h) hFc (fun r_31 u t H1 locs ht hvm hw_32 hB hz1 hk1 hS => ?_)
      obtain ⟨hP, hD, hK⟩ := Bq.join (wr := [(r0, .inl (cR, 4, .inr (.inr (.inr (.inr fR)))))]) hB ht hvm hP hD [0, 2] [1] rfl rfl (by decide) (by decide) hk1 hFc hK
      generalize H1 = H at hP hS ⊢
      have hP : va_P (dC, dI) vwCl [(r0, .inl (cR, 4, .inr (.inr (.inr (.inr fR))))), (h0, .inr (10, [.ref t0, .ref r0, .ref m0, .ref x0, v4, v5, v6, v7, v8, .int 0, .int (-1), .int 0])), (m0, .inl (cM, 8, .inr (.inr (.inr (.inr (fun _ => none))))))] H := hP
      have hD : va_D A [(r0, .inl (cR, 4, .inr (.inr (.inr (.inr fR))))), (h0, .inr (10, [.ref t0, .ref r0, .ref m0, .ref x0, v4, v5, v6, v7, v8, .int 0, .int (-1), .int 0])), (m0, .inl (cM, 8, .inr (.inr (.inr (.inr (fun _ => none))))))] := hD
      have hK : va_K (dC, dI) vwCl [(cM, .object RX1), (cR, .object RX5)] s := hK
      try dsimp only at hw_32
      have k_33 := hw_32
      subst k_33
      refine W.eq (g2 := F0 m 31 ls [.null]) rfl ?_
      refine lv_astoreN (lv' := [(8, .null), (7, .null), (6, .ref a_21), (5, .ref a_3), (0, .ref h0), (1, .int p0), (2, .int p1), (3, .int p2), (4, .int p3)]) hx hb dX8_open_31 hl (by decide) rfl (fun ls hl => ?_)
      refine lv_aload hx hb dX8_open_33 (lv_at hl 3 rfl) ?_
      refine lv_ifnull hx hb dX8_open_35 ?_
      refine lv_aload hx hb dX8_open_38 (lv_at hl 2 rfl) ?_
      refine lv_ifnull hx hb dX8_open_40 ?_
      refine lv_aloadN hx hb dX8_open_43 (lv_at hl 1 rfl) ?_
      refine lv_ifnullN (tgt := 63) hx hb dX8_open_45 (by decide) ?_
      refine lv_iconst (v := (-1)) hx hb dX8_open_63 (by decide) ?_
      have hP9 := hP.sub (ws' := []) [] rfl
      have hD9 := hD.sub (ws' := []) [] (by decide) rfl
      have hK9 := hK.sub (tys' := []) [] rfl
      exact W.iret (v := (-1)) hx hb hr (fun t ht hW => ⟨⟨(-1), (), rfl, rfl, by rw [ht]; exact hP9, va_K.moved hW.alike hK9, hD9⟩, hS.F ht⟩) hS.2.2 dX8_open_64
def wp_X8_lookAlong : List Cond := .code yX8_lookAlong cX8_lookAlong 7 (some .int) :: ([.fieldLink RX8 24 "RecordBench" "makes" "[LRecordBench$Make;", .methodLink RX8 136 yX8_makeOf, .static yX8_makeOf, .initialized RX8, .code yX8_makeOf cX8_makeOf 2 (some (.object "RecordBench$Make"))] ++ wsX80)
set_option maxRecDepth 20000 in
theorem gp_X8_lookAlong_X8_makeOf_136 : GoodIn wp_X8_lookAlong (wsS RX8 136 yX8_makeOf wp_X8_makeOf) := goodIn_p _ [5] rfl (by decide +kernel)
set_option maxHeartbeats 4000000 in
set_option maxRecDepth 100000 in
theorem c_X8_lookAlong (l : Launch) (dC : Nat → ClassId) (dI : Nat → Nat → Nat) (h0 : Nat) (t0 : Nat) (r0 : Nat) (m0 : Nat) (x0 : Nat) (v4 : Value) (v5 : Value) (v6 : Value) (v7 : Value) (v8 : Value) (cM : ClassId) (p0 : Int32) (p1 : Int32) (p2 : Int32) (sz : Nat) : Met l yX8_lookAlong wp_X8_lookAlong ({ frames := 1, cells := 0, slots := 0, locals := 25 }) (va_Pc [.ref h0, .int p0, .int p1, .int p2] (Pr (dC, dI) [(cM, .object RX1)] [(h0, .inr (10, [.ref t0, .ref r0, .ref m0, .ref x0, v4, v5, v6, v7, v8, .int 0, .int ((-1)), .int 0])), (m0, .inl (cM, 8, .inr (.inr (.inr (.inr (fun _ => none))))))] sz)) (va_Qi (fun r : Int32 => (fun _ : Unit => r = -1)) (Bq (dC, dI) (fun _ : Unit => []) (fun _ : Unit => []) (va_A [(h0, .inr (10, [.ref t0, .ref r0, .ref m0, .ref x0, v4, v5, v6, v7, v8, .int 0, .int ((-1)), .int 0])), (m0, .inl (cM, 8, .inr (.inr (.inr (.inr (fun _ => none))))))] sz)) (va_A [(h0, .inr (10, [.ref t0, .ref r0, .ref m0, .ref x0, v4, v5, v6, v7, v8, .int 0, .int ((-1)), .int 0])), (m0, .inl (cM, 8, .inr (.inr (.inr (.inr (fun _ => none))))))] sz)) 0 0 (va_A [(h0, .inr (10, [.ref t0, .ref r0, .ref m0, .ref x0, v4, v5, v6, v7, v8, .int 0, .int ((-1)), .int 0])), (m0, .inl (cM, 8, .inr (.inr (.inr (.inr (fun _ => none))))))] sz) := by
  refine Met.ofW (cc := cX8_lookAlong) (maxL := 7) (ret := (some .int)) (by decide) rfl ?_
  intro p e s m args below meth c s₁ B hml hv
  obtain ⟨rfl, hsz, hP, hK, hD0, hN, hZ⟩ := hv
  have hx := B.exec
  have hb := B.bytes
  have hr := B.returns
  have hts := atoms_spec (ws := wp_X8_lookAlong) B.pre
  have hown : s.vm.findClass RX8 = some m.cls := findClass_of_methodNamed B.named
  have hlocks := B.notSynchronized
  have iRX8 : ∀ w ∈ u_ws RX8 TX8 12, w ∈ wp_X8_lookAlong := by decide +kernel
  subst hsz
  have hD := hD0.self (sz := s.heap.size)
  generalize hAe : va_A [(h0, .inr (10, [.ref t0, .ref r0, .ref m0, .ref x0, v4, v5, v6, v7, v8, .int 0, .int ((-1)), .int 0])), (m0, .inl (cM, 8, .inr (.inr (.inr (.inr (fun _ => none))))))] s.heap.size = A at hD hZ ⊢
  have hA : ∀ q : Nat, s.heap.size ≤ q → A q := fun q h => by rw [← hAe]; exact Or.inr h
  have hS : va_S A s.heap s.heap [] := va_S.rf
  have hP : va_P (dC, dI) vwCl [(h0, .inr (10, [.ref t0, .ref r0, .ref m0, .ref x0, v4, v5, v6, v7, v8, .int 0, .int ((-1)), .int 0])), (m0, .inl (cM, 8, .inr (.inr (.inr (.inr (fun _ => none))))))] s.heap := hP
  have hl := lv_entry ([.ref h0, .int p0, .int p1, .int p2]) (n := 7) (Nat.le_of_ble_eq_true rfl)
  rw [lg_entry_eq]
  generalize (lg_sl ([.ref h0, .int p0, .int p1, .int p2]) ++ List.replicate (7 - (lg_sl ([.ref h0, .int p0, .int p1, .int p2])).length) Slot.unset).toArray = ls at hl ⊢
  have hl : lv_has ls 7 [(0, .ref h0), (1, .int p0), (2, .int p1), (3, .int p2)] := hl
  refine lv_aload_n hx hb dX8_lookAlong_0 rfl (lv_at hl 0 rfl) ?_
  refine va_get (D := (dC, dI)) (ci := 10) (v := .ref m0) (C := RX8) (T := TX8) (N := 12) hx hb hts iRX8 hown hK hP 0 rfl rfl 2 (by decide) (hts (.fieldLink RX8 24 "RecordBench" "makes" "[LRecordBench$Make;") (by decide +kernel)) (fun _ h9 => h9) rfl dX8_lookAlong_1 ?_
  refine lv_iload_n hx hb dX8_lookAlong_4 rfl (lv_at hl 1 rfl) ?_
  have hFc := va_free (wc := [(m0, .inl (cM, 8, .inr (.inr (.inr (.inr (fun _ => none))))))]) hD hS hA [1] rfl
  refine va_callq (va_runS (As := [.ref m0, .int p0]) (rest := []) ⟨hx, hb, hml, hown, hts⟩ (c_X8_makeOf l dC dI m0 p0 cM s.heap.size) (cwS 2 hts gp_X8_lookAlong_X8_makeOf_136 rfl rfl rfl (by decide +kernel) ⟨Nat.le_of_ble_eq_true rfl, Nat.le_of_ble_eq_true rfl⟩) ⟨Pr.blind _, fun U hU hW => ⟨rfl, Pr.at (hP.sub (ws' := [(m0, .inl (cM, 8, .inr (.inr (.inr (.inr (fun _ => none))))))]) [1] rfl) (hK.sub (tys' := [(cM, .object RX1)]) [0] rfl) (hD.sub (ws' := [(m0, .inl (cM, 8, .inr (.inr (.inr (.inr (fun _ => none))))))]) [1] (by decide) rfl) hN hZ hS hFc hU hW⟩⟩ rfl rfl hl.1 rfl (lv_room (Nat.le_of_ble_eq_true rfl)) dX8_lookAlong_5 ⟨Nat.le_of_ble_eq_true rfl, Nat.le_of_ble_eq_true rfl⟩) hS (fun q _ h => hFc q h) hFc (fun r_1 u t H1 locs ht hvm hw_2 hB hz1 hk1 hS => ?_)
  obtain ⟨hP, hD, hK⟩ := Bq.join (wr := [(h0, .inr (10, [.ref t0, .ref r0, .ref m0, .ref x0, v4, v5, v6, v7, v8, .int 0, .int ((-1)), .int 0]))]) hB ht hvm hP hD [1] [0] rfl rfl (by decide) (by decide) hk1 hFc hK
  generalize H1 = H at hP hS ⊢
  have hP : va_P (dC, dI) vwCl [(h0, .inr (10, [.ref t0, .ref r0, .ref m0, .ref x0, v4, v5, v6, v7, v8, .int 0, .int ((-1)), .int 0])), (m0, .inl (cM, 8, .inr (.inr (.inr (.inr (fun _ => none))))))] H := hP
  have hD : va_D A [(h0, .inr (10, [.ref t0, .ref r0, .ref m0, .ref x0, v4, v5, v6, v7, v8, .int 0, .int ((-1)), .int 0])), (m0, .inl (cM, 8, .inr (.inr (.inr (.inr (fun _ => none))))))] := hD
  have hK : va_K (dC, dI) vwCl [(cM, .object RX1)] s := hK
  try dsimp only at hw_2
  have k_3 := hw_2
  subst k_3
  refine W.eq (g2 := F0 m 8 ls [.null]) rfl ?_
  refine lv_astoreN (lv' := [(4, .null), (0, .ref h0), (1, .int p0), (2, .int p1), (3, .int p2)]) hx hb dX8_lookAlong_8 hl (by decide) rfl (fun ls hl => ?_)
  refine lv_aload_n hx hb dX8_lookAlong_10 rfl (lv_at hl 1 rfl) ?_
  refine va_get (D := (dC, dI)) (ci := 10) (v := .ref m0) (C := RX8) (T := TX8) (N := 12) hx hb hts iRX8 hown hK hP 0 rfl rfl 2 (by decide) (hts (.fieldLink RX8 24 "RecordBench" "makes" "[LRecordBench$Make;") (by decide +kernel)) (fun _ h9 => h9) rfl dX8_lookAlong_11 ?_
  refine lv_iload_n hx hb dX8_lookAlong_14 rfl (lv_at hl 3 rfl) ?_
  have hFc := va_free (wc := [(m0, .inl (cM, 8, .inr (.inr (.inr (.inr (fun _ => none))))))]) hD hS hA [1] rfl
  refine va_callq (va_runS (As := [.ref m0, .int p1]) (rest := []) ⟨hx, hb, hml, hown, hts⟩ (c_X8_makeOf l dC dI m0 p1 cM H.size) (cwS 2 hts gp_X8_lookAlong_X8_makeOf_136 rfl rfl rfl (by decide +kernel) ⟨Nat.le_of_ble_eq_true rfl, Nat.le_of_ble_eq_true rfl⟩) ⟨Pr.blind _, fun U hU hW => ⟨rfl, Pr.at (hP.sub (ws' := [(m0, .inl (cM, 8, .inr (.inr (.inr (.inr (fun _ => none))))))]) [1] rfl) (hK.sub (tys' := [(cM, .object RX1)]) [0] rfl) (hD.sub (ws' := [(m0, .inl (cM, 8, .inr (.inr (.inr (.inr (fun _ => none))))))]) [1] (by decide) rfl) hN hZ hS hFc hU hW⟩⟩ rfl rfl hl.1 rfl (lv_room (Nat.le_of_ble_eq_true rfl)) dX8_lookAlong_15 ⟨Nat.le_of_ble_eq_true rfl, Nat.le_of_ble_eq_true rfl⟩) hS (fun q _ h => hFc q h) hFc (fun r_4 u t H1 locs ht hvm hw_5 hB hz1 hk1 hS => ?_)
  obtain ⟨hP, hD, hK⟩ := Bq.join (wr := [(h0, .inr (10, [.ref t0, .ref r0, .ref m0, .ref x0, v4, v5, v6, v7, v8, .int 0, .int ((-1)), .int 0]))]) hB ht hvm hP hD [1] [0] rfl rfl (by decide) (by decide) hk1 hFc hK
  generalize H1 = H at hP hS ⊢
  have hP : va_P (dC, dI) vwCl [(h0, .inr (10, [.ref t0, .ref r0, .ref m0, .ref x0, v4, v5, v6, v7, v8, .int 0, .int ((-1)), .int 0])), (m0, .inl (cM, 8, .inr (.inr (.inr (.inr (fun _ => none))))))] H := hP
  have hD : va_D A [(h0, .inr (10, [.ref t0, .ref r0, .ref m0, .ref x0, v4, v5, v6, v7, v8, .int 0, .int ((-1)), .int 0])), (m0, .inl (cM, 8, .inr (.inr (.inr (.inr (fun _ => none))))))] := hD
  have hK : va_K (dC, dI) vwCl [(cM, .object RX1)] s := hK
  try dsimp only at hw_5
  have k_6 := hw_5
  subst k_6
  refine W.eq (g2 := F0 m 18 ls [.null]) rfl ?_
  refine lv_astoreN (lv' := [(5, .null), (4, .null), (0, .ref h0), (1, .int p0), (2, .int p1), (3, .int p2)]) hx hb dX8_lookAlong_18 hl (by decide) rfl (fun ls hl => ?_)
  refine lv_aload_n hx hb dX8_lookAlong_20 rfl (lv_at hl 2 rfl) ?_
  refine va_get (D := (dC, dI)) (ci := 10) (v := .ref m0) (C := RX8) (T := TX8) (N := 12) hx hb hts iRX8 hown hK hP 0 rfl rfl 2 (by decide) (hts (.fieldLink RX8 24 "RecordBench" "makes" "[LRecordBench$Make;") (by decide +kernel)) (fun _ h9 => h9) rfl dX8_lookAlong_21 ?_
  refine lv_iload_n hx hb dX8_lookAlong_24 rfl (lv_at hl 5 rfl) ?_
  have hFc := va_free (wc := [(m0, .inl (cM, 8, .inr (.inr (.inr (.inr (fun _ => none))))))]) hD hS hA [1] rfl
  refine va_callq (va_runS (As := [.ref m0, .int p2]) (rest := []) ⟨hx, hb, hml, hown, hts⟩ (c_X8_makeOf l dC dI m0 p2 cM H.size) (cwS 2 hts gp_X8_lookAlong_X8_makeOf_136 rfl rfl rfl (by decide +kernel) ⟨Nat.le_of_ble_eq_true rfl, Nat.le_of_ble_eq_true rfl⟩) ⟨Pr.blind _, fun U hU hW => ⟨rfl, Pr.at (hP.sub (ws' := [(m0, .inl (cM, 8, .inr (.inr (.inr (.inr (fun _ => none))))))]) [1] rfl) (hK.sub (tys' := [(cM, .object RX1)]) [0] rfl) (hD.sub (ws' := [(m0, .inl (cM, 8, .inr (.inr (.inr (.inr (fun _ => none))))))]) [1] (by decide) rfl) hN hZ hS hFc hU hW⟩⟩ rfl rfl hl.1 rfl (lv_room (Nat.le_of_ble_eq_true rfl)) dX8_lookAlong_25 ⟨Nat.le_of_ble_eq_true rfl, Nat.le_of_ble_eq_true rfl⟩) hS (fun q _ h => hFc q h) hFc (fun r_7 u t H1 locs ht hvm hw_8 hB hz1 hk1 hS => ?_)
  obtain ⟨hP, hD, hK⟩ := Bq.join (wr := [(h0, .inr (10, [.ref t0, .ref r0, .ref m0, .ref x0, v4, v5, v6, v7, v8, .int 0, .int ((-1)), .int 0]))]) hB ht hvm hP hD [1] [0] rfl rfl (by decide) (by decide) hk1 hFc hK
  generalize H1 = H at hP hS ⊢
  have hP : va_P (dC, dI) vwCl [(h0, .inr (10, [.ref t0, .ref r0, .ref m0, .ref x0, v4, v5, v6, v7, v8, .int 0, .int ((-1)), .int 0])), (m0, .inl (cM, 8, .inr (.inr (.inr (.inr (fun _ => none))))))] H := hP
  have hD : va_D A [(h0, .inr (10, [.ref t0, .ref r0, .ref m0, .ref x0, v4, v5, v6, v7, v8, .int 0, .int ((-1)), .int 0])), (m0, .inl (cM, 8, .inr (.inr (.inr (.inr (fun _ => none))))))] := hD
  have hK : va_K (dC, dI) vwCl [(cM, .object RX1)] s := hK
  try dsimp only at hw_8
  have k_9 := hw_8
  subst k_9
  refine W.eq (g2 := F0 m 28 ls [.null]) rfl ?_
  refine lv_astoreN (lv' := [(6, .null), (5, .null), (4, .null), (0, .ref h0), (1, .int p0), (2, .int p1), (3, .int p2)]) hx hb dX8_lookAlong_28 hl (by decide) rfl (fun ls hl => ?_)
  refine lv_aloadN hx hb dX8_lookAlong_30 (lv_at hl 2 rfl) ?_
  refine lv_ifnullN (tgt := 45) hx hb dX8_lookAlong_32 (by decide) ?_
  refine lv_iconst (v := (-1)) hx hb dX8_lookAlong_45 (by decide) ?_
  have hP9 := hP.sub (ws' := []) [] rfl
  have hD9 := hD.sub (ws' := []) [] (by decide) rfl
  have hK9 := hK.sub (tys' := []) [] rfl
  exact W.iret (v := (-1)) hx hb hr (fun t ht hW => ⟨⟨(-1), (), rfl, rfl, by rw [ht]; exact hP9, va_K.moved hW.alike hK9, hD9⟩, hS.F ht⟩) hS.2.2 dX8_lookAlong_46
def wp_X8_step : List Cond := .code yX8_step cX8_step 3 (some .int) :: ([.methodLink RX8 205 yX8_lookAlong, .instanceMethod yX8_lookAlong, .selects RX8 yX8_lookAlong yX8_lookAlong, .initialized RX8, .code yX8_lookAlong cX8_lookAlong 7 (some .int), .fieldLink RX8 24 "RecordBench" "makes" "[LRecordBench$Make;", .methodLink RX8 136 yX8_makeOf, .static yX8_makeOf, .code yX8_makeOf cX8_makeOf 2 (some (.object "RecordBench$Make"))] ++ wsX80)
set_option maxRecDepth 20000 in
theorem gp_X8_step_X8_lookAlong_205 : GoodIn wp_X8_step (wsV RX8 205 RX8 yX8_lookAlong wp_X8_lookAlong) := goodIn_p _ [5, 9] rfl (by decide +kernel)
set_option maxHeartbeats 4000000 in
set_option maxRecDepth 100000 in
theorem c_X8_step (l : Launch) (dC : Nat → ClassId) (dI : Nat → Nat → Nat) (h0 : Nat) (t0 : Nat) (r0 : Nat) (m0 : Nat) (x0 : Nat) (v4 : Value) (v5 : Value) (v6 : Value) (v7 : Value) (v8 : Value) (cM : ClassId) (p0 : Int32) (p1 : Int32) (sz : Nat) : Met l yX8_step wp_X8_step ({ frames := 2, cells := 0, slots := 0, locals := 55 }) (va_Pc [.ref h0, .int p0, .int p1] (Pr (dC, dI) [(cM, .object RX1)] [(h0, .inr (10, [.ref t0, .ref r0, .ref m0, .ref x0, v4, v5, v6, v7, v8, .int 0, .int ((-1)), .int 0])), (m0, .inl (cM, 8, .inr (.inr (.inr (.inr (fun _ => none))))))] sz)) (va_Qi (fun r : Int32 => (fun _ : Unit => r = -1)) (Bq (dC, dI) (fun _ : Unit => []) (fun _ : Unit => []) (va_A [(h0, .inr (10, [.ref t0, .ref r0, .ref m0, .ref x0, v4, v5, v6, v7, v8, .int 0, .int ((-1)), .int 0])), (m0, .inl (cM, 8, .inr (.inr (.inr (.inr (fun _ => none))))))] sz)) (va_A [(h0, .inr (10, [.ref t0, .ref r0, .ref m0, .ref x0, v4, v5, v6, v7, v8, .int 0, .int ((-1)), .int 0])), (m0, .inl (cM, 8, .inr (.inr (.inr (.inr (fun _ => none))))))] sz)) 0 0 (va_A [(h0, .inr (10, [.ref t0, .ref r0, .ref m0, .ref x0, v4, v5, v6, v7, v8, .int 0, .int ((-1)), .int 0])), (m0, .inl (cM, 8, .inr (.inr (.inr (.inr (fun _ => none))))))] sz) := by
  refine Met.ofW (cc := cX8_step) (maxL := 3) (ret := (some .int)) (by decide) rfl ?_
  intro p e s m args below meth c s₁ B hml hv
  obtain ⟨rfl, hsz, hP, hK, hD0, hN, hZ⟩ := hv
  have hx := B.exec
  have hb := B.bytes
  have hr := B.returns
  have hts := atoms_spec (ws := wp_X8_step) B.pre
  have hown : s.vm.findClass RX8 = some m.cls := findClass_of_methodNamed B.named
  have hlocks := B.notSynchronized
  subst hsz
  have hD := hD0.self (sz := s.heap.size)
  generalize hAe : va_A [(h0, .inr (10, [.ref t0, .ref r0, .ref m0, .ref x0, v4, v5, v6, v7, v8, .int 0, .int ((-1)), .int 0])), (m0, .inl (cM, 8, .inr (.inr (.inr (.inr (fun _ => none))))))] s.heap.size = A at hD hZ ⊢
  have hA : ∀ q : Nat, s.heap.size ≤ q → A q := fun q h => by rw [← hAe]; exact Or.inr h
  have hS : va_S A s.heap s.heap [] := va_S.rf
  have hP : va_P (dC, dI) vwCl [(h0, .inr (10, [.ref t0, .ref r0, .ref m0, .ref x0, v4, v5, v6, v7, v8, .int 0, .int ((-1)), .int 0])), (m0, .inl (cM, 8, .inr (.inr (.inr (.inr (fun _ => none))))))] s.heap := hP
  have hl := lv_entry ([.ref h0, .int p0, .int p1]) (n := 3) (Nat.le_of_ble_eq_true rfl)
  rw [lg_entry_eq]
  generalize (lg_sl ([.ref h0, .int p0, .int p1]) ++ List.replicate (3 - (lg_sl ([.ref h0, .int p0, .int p1])).length) Slot.unset).toArray = ls at hl ⊢
  have hl : lv_has ls 3 [(0, .ref h0), (1, .int p0), (2, .int p1)] := hl
  refine lv_aload_n hx hb dX8_step_0 rfl (lv_at hl 0 rfl) ?_
  refine lv_iload_n hx hb dX8_step_1 rfl (lv_at hl 1 rfl) ?_
  refine lv_iload_n hx hb dX8_step_2 rfl (lv_at hl 2 rfl) ?_
  refine lv_iload_n hx hb dX8_step_3 rfl (lv_at hl 2 rfl) ?_
  have hFc := va_free (wc := [(h0, .inr (10, [.ref t0, .ref r0, .ref m0, .ref x0, v4, v5, v6, v7, v8, .int 0, .int ((-1)), .int 0])), (m0, .inl (cM, 8, .inr (.inr (.inr (.inr (fun _ => none))))))]) hD hS hA [0, 1] rfl
  refine va_calli (va_runV (As := [.int p0, .int p1, .int p1]) (rest := []) ⟨hx, hb, hml, hown, hts⟩ (c_X8_lookAlong l dC dI h0 t0 r0 m0 x0 (v4) (v5) (v6) (v7) (v8) cM p0 p1 p1 s.heap.size) (cwV 3 hts gp_X8_step_X8_lookAlong_205 rfl rfl rfl (by decide +kernel) ⟨Nat.le_of_ble_eq_true rfl, Nat.le_of_ble_eq_true rfl⟩) ⟨Pr.blind _, va_recv hK hP (ci := 10) (q0 := 0) rfl rfl, fun U hU hW => ⟨rfl, Pr.at (hP.sub (ws' := [(h0, .inr (10, [.ref t0, .ref r0, .ref m0, .ref x0, v4, v5, v6, v7, v8, .int 0, .int ((-1)), .int 0])), (m0, .inl (cM, 8, .inr (.inr (.inr (.inr (fun _ => none))))))]) [0, 1] rfl) (hK.sub (tys' := [(cM, .object RX1)]) [0] rfl) (hD.sub (ws' := [(h0, .inr (10, [.ref t0, .ref r0, .ref m0, .ref x0, v4, v5, v6, v7, v8, .int 0, .int ((-1)), .int 0])), (m0, .inl (cM, 8, .inr (.inr (.inr (.inr (fun _ => none))))))]) [0, 1] (by decide) rfl) hN hZ hS hFc hU hW⟩⟩ rfl rfl hl.1 rfl (lv_room (Nat.le_of_ble_eq_true rfl)) dX8_step_4 ⟨Nat.le_of_ble_eq_true rfl, Nat.le_of_ble_eq_true rfl⟩) hS (fun q _ h => hFc q h) hFc (fun r_1 u t H1 locs ht hvm hw_2 hB hz1 hk1 hS => ?_)
  obtain ⟨hP, hD, hK⟩ := Bq.join (wr := []) hB ht hvm hP hD [0, 1] [] rfl rfl (by decide) (by decide) hk1 hFc hK
  generalize H1 = H at hP hS ⊢
  have hP : va_P (dC, dI) vwCl [] H := hP
  have hD : va_D A [] := hD
  have hK : va_K (dC, dI) vwCl [(cM, .object RX1)] s := hK
  try dsimp only at hw_2
  have k_3 := hw_2
  refine W_toi (y := -1) k_3 ?_
  have hP9 := hP.sub (ws' := []) [] rfl
  have hD9 := hD.sub (ws' := []) [] (by decide) rfl
  have hK9 := hK.sub (tys' := []) [] rfl
  exact W.iret (v := -1) hx hb hr (fun t ht hW => ⟨⟨-1, (), rfl, rfl, by rw [ht]; exact hP9, va_K.moved hW.alike hK9, hD9⟩, hS.F ht⟩) hS.2.2 dX8_step_7
def wp_X8_walk : List Cond := .code yX8_walk cX8_walk 4 (some .int) :: ([.methodLink RX8 205 yX8_lookAlong, .instanceMethod yX8_lookAlong, .selects RX8 yX8_lookAlong yX8_lookAlong, .initialized RX8, .code yX8_lookAlong cX8_lookAlong 7 (some .int), .fieldLink RX8 24 "RecordBench" "makes" "[LRecordBench$Make;", .methodLink RX8 136 yX8_makeOf, .static yX8_makeOf, .code yX8_makeOf cX8_makeOf 2 (some (.object "RecordBench$Make"))] ++ wsX80)
set_option maxRecDepth 20000 in
theorem gp_X8_walk_X8_lookAlong_205 : GoodIn wp_X8_walk (wsV RX8 205 RX8 yX8_lookAlong wp_X8_lookAlong) := goodIn_p _ [5, 9] rfl (by decide +kernel)
set_option maxHeartbeats 4000000 in
set_option maxRecDepth 100000 in
theorem c_X8_walk (l : Launch) (dC : Nat → ClassId) (dI : Nat → Nat → Nat) (h0 : Nat) (t0 : Nat) (r0 : Nat) (m0 : Nat) (x0 : Nat) (v4 : Value) (v5 : Value) (v6 : Value) (v7 : Value) (v8 : Value) (cM : ClassId) (p0 : Int32) (p1 : Int32) (p2 : Int32) (sz : Nat) : Met l yX8_walk wp_X8_walk ({ frames := 2, cells := 0, slots := 0, locals := 55 }) (va_Pc [.ref h0, .int p0, .int p1, .int p2] (Pr (dC, dI) [(cM, .object RX1)] [(h0, .inr (10, [.ref t0, .ref r0, .ref m0, .ref x0, v4, v5, v6, v7, v8, .int 0, .int ((-1)), .int 0])), (m0, .inl (cM, 8, .inr (.inr (.inr (.inr (fun _ => none))))))] sz)) (va_Qi (fun r : Int32 => (fun _ : Unit => r = -1)) (Bq (dC, dI) (fun _ : Unit => []) (fun _ : Unit => []) (va_A [(h0, .inr (10, [.ref t0, .ref r0, .ref m0, .ref x0, v4, v5, v6, v7, v8, .int 0, .int ((-1)), .int 0])), (m0, .inl (cM, 8, .inr (.inr (.inr (.inr (fun _ => none))))))] sz)) (va_A [(h0, .inr (10, [.ref t0, .ref r0, .ref m0, .ref x0, v4, v5, v6, v7, v8, .int 0, .int ((-1)), .int 0])), (m0, .inl (cM, 8, .inr (.inr (.inr (.inr (fun _ => none))))))] sz)) 0 0 (va_A [(h0, .inr (10, [.ref t0, .ref r0, .ref m0, .ref x0, v4, v5, v6, v7, v8, .int 0, .int ((-1)), .int 0])), (m0, .inl (cM, 8, .inr (.inr (.inr (.inr (fun _ => none))))))] sz) := by
  refine Met.ofW (cc := cX8_walk) (maxL := 4) (ret := (some .int)) (by decide) rfl ?_
  intro p e s m args below meth c s₁ B hml hv
  obtain ⟨rfl, hsz, hP, hK, hD0, hN, hZ⟩ := hv
  have hx := B.exec
  have hb := B.bytes
  have hr := B.returns
  have hts := atoms_spec (ws := wp_X8_walk) B.pre
  have hown : s.vm.findClass RX8 = some m.cls := findClass_of_methodNamed B.named
  have hlocks := B.notSynchronized
  subst hsz
  have hD := hD0.self (sz := s.heap.size)
  generalize hAe : va_A [(h0, .inr (10, [.ref t0, .ref r0, .ref m0, .ref x0, v4, v5, v6, v7, v8, .int 0, .int ((-1)), .int 0])), (m0, .inl (cM, 8, .inr (.inr (.inr (.inr (fun _ => none))))))] s.heap.size = A at hD hZ ⊢
  have hA : ∀ q : Nat, s.heap.size ≤ q → A q := fun q h => by rw [← hAe]; exact Or.inr h
  have hS : va_S A s.heap s.heap [] := va_S.rf
  have hP : va_P (dC, dI) vwCl [(h0, .inr (10, [.ref t0, .ref r0, .ref m0, .ref x0, v4, v5, v6, v7, v8, .int 0, .int ((-1)), .int 0])), (m0, .inl (cM, 8, .inr (.inr (.inr (.inr (fun _ => none))))))] s.heap := hP
  have hl := lv_entry ([.ref h0, .int p0, .int p1, .int p2]) (n := 4) (Nat.le_of_ble_eq_true rfl)
  rw [lg_entry_eq]
  generalize (lg_sl ([.ref h0, .int p0, .int p1, .int p2]) ++ List.replicate (4 - (lg_sl ([.ref h0, .int p0, .int p1, .int p2])).length) Slot.unset).toArray = ls at hl ⊢
  have hl : lv_has ls 4 [(0, .ref h0), (1, .int p0), (2, .int p1), (3, .int p2)] := hl
  refine lv_aload_n hx hb dX8_walk_0 rfl (lv_at hl 0 rfl) ?_
  refine lv_iload_n hx hb dX8_walk_1 rfl (lv_at hl 1 rfl) ?_
  refine lv_iload_n hx hb dX8_walk_2 rfl (lv_at hl 2 rfl) ?_
  refine lv_iload_n hx hb dX8_walk_3 rfl (lv_at hl 3 rfl) ?_
  have hFc := va_free (wc := [(h0, .inr (10, [.ref t0, .ref r0, .ref m0, .ref x0, v4, v5, v6, v7, v8, .int 0, .int ((-1)), .int 0])), (m0, .inl (cM, 8, .inr (.inr (.inr (.inr (fun _ => none))))))]) hD hS hA [0, 1] rfl
  refine va_calli (va_runV (As := [.int p0, .int p1, .int p2]) (rest := []) ⟨hx, hb, hml, hown, hts⟩ (c_X8_lookAlong l dC dI h0 t0 r0 m0 x0 (v4) (v5) (v6) (v7) (v8) cM p0 p1 p2 s.heap.size) (cwV 3 hts gp_X8_walk_X8_lookAlong_205 rfl rfl rfl (by decide +kernel) ⟨Nat.le_of_ble_eq_true rfl, Nat.le_of_ble_eq_true rfl⟩) ⟨Pr.blind _, va_recv hK hP (ci := 10) (q0 := 0) rfl rfl, fun U hU hW => ⟨rfl, Pr.at (hP.sub (ws' := [(h0, .inr (10, [.ref t0, .ref r0, .ref m0, .ref x0, v4, v5, v6, v7, v8, .int 0, .int ((-1)), .int 0])), (m0, .inl (cM, 8, .inr (.inr (.inr (.inr (fun _ => none))))))]) [0, 1] rfl) (hK.sub (tys' := [(cM, .object RX1)]) [0] rfl) (hD.sub (ws' := [(h0, .inr (10, [.ref t0, .ref r0, .ref m0, .ref x0, v4, v5, v6, v7, v8, .int 0, .int ((-1)), .int 0])), (m0, .inl (cM, 8, .inr (.inr (.inr (.inr (fun _ => none))))))]) [0, 1] (by decide) rfl) hN hZ hS hFc hU hW⟩⟩ rfl rfl hl.1 rfl (lv_room (Nat.le_of_ble_eq_true rfl)) dX8_walk_4 ⟨Nat.le_of_ble_eq_true rfl, Nat.le_of_ble_eq_true rfl⟩) hS (fun q _ h => hFc q h) hFc (fun r_1 u t H1 locs ht hvm hw_2 hB hz1 hk1 hS => ?_)
  obtain ⟨hP, hD, hK⟩ := Bq.join (wr := []) hB ht hvm hP hD [0, 1] [] rfl rfl (by decide) (by decide) hk1 hFc hK
  generalize H1 = H at hP hS ⊢
  have hP : va_P (dC, dI) vwCl [] H := hP
  have hD : va_D A [] := hD
  have hK : va_K (dC, dI) vwCl [(cM, .object RX1)] s := hK
  try dsimp only at hw_2
  have k_3 := hw_2
  refine W_toi (y := -1) k_3 ?_
  have hP9 := hP.sub (ws' := []) [] rfl
  have hD9 := hD.sub (ws' := []) [] (by decide) rfl
  have hK9 := hK.sub (tys' := []) [] rfl
  exact W.iret (v := -1) hx hb hr (fun t ht hW => ⟨⟨-1, (), rfl, rfl, by rw [ht]; exact hP9, va_K.moved hW.alike hK9, hD9⟩, hS.F ht⟩) hS.2.2 dX8_walk_7
def wp_X8_readers : List Cond := .code yX8_readers cX8_readers 4 (some .int) :: ([.fieldLink RX8 24 "RecordBench" "makes" "[LRecordBench$Make;", .methodLink RX8 136 yX8_makeOf, .static yX8_makeOf, .initialized RX8, .code yX8_makeOf cX8_makeOf 2 (some (.object "RecordBench$Make"))] ++ wsX80)
set_option maxRecDepth 20000 in
theorem gp_X8_readers_X8_makeOf_136 : GoodIn wp_X8_readers (wsS RX8 136 yX8_makeOf wp_X8_makeOf) := goodIn_p _ [5] rfl (by decide +kernel)
set_option maxHeartbeats 4000000 in
set_option maxRecDepth 100000 in
theorem c_X8_readers (l : Launch) (dC : Nat → ClassId) (dI : Nat → Nat → Nat) (h0 : Nat) (t0 : Nat) (r0 : Nat) (m0 : Nat) (x0 : Nat) (v4 : Value) (v5 : Value) (v6 : Value) (v7 : Value) (v8 : Value) (cM : ClassId) (p0 : Int32) (sz : Nat) : Met l yX8_readers wp_X8_readers ({ frames := 1, cells := 0, slots := 0, locals := 25 }) (va_Pc [.ref h0, .int p0] (Pr (dC, dI) [(cM, .object RX1)] [(h0, .inr (10, [.ref t0, .ref r0, .ref m0, .ref x0, v4, v5, v6, v7, v8, .int 0, .int ((-1)), .int 0])), (m0, .inl (cM, 8, .inr (.inr (.inr (.inr (fun _ => none))))))] sz)) (va_Qi (fun r : Int32 => (fun _ : Unit => r = -1)) (Bq (dC, dI) (fun _ : Unit => []) (fun _ : Unit => []) (va_A [(h0, .inr (10, [.ref t0, .ref r0, .ref m0, .ref x0, v4, v5, v6, v7, v8, .int 0, .int ((-1)), .int 0])), (m0, .inl (cM, 8, .inr (.inr (.inr (.inr (fun _ => none))))))] sz)) (va_A [(h0, .inr (10, [.ref t0, .ref r0, .ref m0, .ref x0, v4, v5, v6, v7, v8, .int 0, .int ((-1)), .int 0])), (m0, .inl (cM, 8, .inr (.inr (.inr (.inr (fun _ => none))))))] sz)) 0 0 (va_A [(h0, .inr (10, [.ref t0, .ref r0, .ref m0, .ref x0, v4, v5, v6, v7, v8, .int 0, .int ((-1)), .int 0])), (m0, .inl (cM, 8, .inr (.inr (.inr (.inr (fun _ => none))))))] sz) := by
  refine Met.ofW (cc := cX8_readers) (maxL := 4) (ret := (some .int)) (by decide) rfl ?_
  intro p e s m args below meth c s₁ B hml hv
  obtain ⟨rfl, hsz, hP, hK, hD0, hN, hZ⟩ := hv
  have hx := B.exec
  have hb := B.bytes
  have hr := B.returns
  have hts := atoms_spec (ws := wp_X8_readers) B.pre
  have hown : s.vm.findClass RX8 = some m.cls := findClass_of_methodNamed B.named
  have hlocks := B.notSynchronized
  have iRX8 : ∀ w ∈ u_ws RX8 TX8 12, w ∈ wp_X8_readers := by decide +kernel
  subst hsz
  have hD := hD0.self (sz := s.heap.size)
  generalize hAe : va_A [(h0, .inr (10, [.ref t0, .ref r0, .ref m0, .ref x0, v4, v5, v6, v7, v8, .int 0, .int ((-1)), .int 0])), (m0, .inl (cM, 8, .inr (.inr (.inr (.inr (fun _ => none))))))] s.heap.size = A at hD hZ ⊢
  have hA : ∀ q : Nat, s.heap.size ≤ q → A q := fun q h => by rw [← hAe]; exact Or.inr h
  have hS : va_S A s.heap s.heap [] := va_S.rf
  have hP : va_P (dC, dI) vwCl [(h0, .inr (10, [.ref t0, .ref r0, .ref m0, .ref x0, v4, v5, v6, v7, v8, .int 0, .int ((-1)), .int 0])), (m0, .inl (cM, 8, .inr (.inr (.inr (.inr (fun _ => none))))))] s.heap := hP
  have hl := lv_entry ([.ref h0, .int p0]) (n := 4) (Nat.le_of_ble_eq_true rfl)
  rw [lg_entry_eq]
  generalize (lg_sl ([.ref h0, .int p0]) ++ List.replicate (4 - (lg_sl ([.ref h0, .int p0])).length) Slot.unset).toArray = ls at hl ⊢
  have hl : lv_has ls 4 [(0, .ref h0), (1, .int p0)] := hl
  refine lv_aload_n hx hb dX8_readers_0 rfl (lv_at hl 0 rfl) ?_
  refine va_get (D := (dC, dI)) (ci := 10) (v := .ref m0) (C := RX8) (T := TX8) (N := 12) hx hb hts iRX8 hown hK hP 0 rfl rfl 2 (by decide) (hts (.fieldLink RX8 24 "RecordBench" "makes" "[LRecordBench$Make;") (by decide +kernel)) (fun _ h9 => h9) rfl dX8_readers_1 ?_
  refine lv_iload_n hx hb dX8_readers_4 rfl (lv_at hl 1 rfl) ?_
  have hFc := va_free (wc := [(m0, .inl (cM, 8, .inr (.inr (.inr (.inr (fun _ => none))))))]) hD hS hA [1] rfl
  refine va_callq (va_runS (As := [.ref m0, .int p0]) (rest := []) ⟨hx, hb, hml, hown, hts⟩ (c_X8_makeOf l dC dI m0 p0 cM s.heap.size) (cwS 2 hts gp_X8_readers_X8_makeOf_136 rfl rfl rfl (by decide +kernel) ⟨Nat.le_of_ble_eq_true rfl, Nat.le_of_ble_eq_true rfl⟩) ⟨Pr.blind _, fun U hU hW => ⟨rfl, Pr.at (hP.sub (ws' := [(m0, .inl (cM, 8, .inr (.inr (.inr (.inr (fun _ => none))))))]) [1] rfl) (hK.sub (tys' := [(cM, .object RX1)]) [0] rfl) (hD.sub (ws' := [(m0, .inl (cM, 8, .inr (.inr (.inr (.inr (fun _ => none))))))]) [1] (by decide) rfl) hN hZ hS hFc hU hW⟩⟩ rfl rfl hl.1 rfl (lv_room (Nat.le_of_ble_eq_true rfl)) dX8_readers_5 ⟨Nat.le_of_ble_eq_true rfl, Nat.le_of_ble_eq_true rfl⟩) hS (fun q _ h => hFc q h) hFc (fun r_1 u t H1 locs ht hvm hw_2 hB hz1 hk1 hS => ?_)
  obtain ⟨hP, hD, hK⟩ := Bq.join (wr := [(h0, .inr (10, [.ref t0, .ref r0, .ref m0, .ref x0, v4, v5, v6, v7, v8, .int 0, .int ((-1)), .int 0]))]) hB ht hvm hP hD [1] [0] rfl rfl (by decide) (by decide) hk1 hFc hK
  generalize H1 = H at hP hS ⊢
  have hP : va_P (dC, dI) vwCl [(h0, .inr (10, [.ref t0, .ref r0, .ref m0, .ref x0, v4, v5, v6, v7, v8, .int 0, .int ((-1)), .int 0])), (m0, .inl (cM, 8, .inr (.inr (.inr (.inr (fun _ => none))))))] H := hP
  have hD : va_D A [(h0, .inr (10, [.ref t0, .ref r0, .ref m0, .ref x0, v4, v5, v6, v7, v8, .int 0, .int ((-1)), .int 0])), (m0, .inl (cM, 8, .inr (.inr (.inr (.inr (fun _ => none))))))] := hD
  have hK : va_K (dC, dI) vwCl [(cM, .object RX1)] s := hK
  try dsimp only at hw_2
  have k_3 := hw_2
  subst k_3
  refine W.eq (g2 := F0 m 8 ls [.null]) rfl ?_
  refine lv_ifnonnullN hx hb dX8_readers_8 ?_
  refine lv_iconst (v := (-1)) hx hb dX8_readers_11 (by decide) ?_
  have hP9 := hP.sub (ws' := []) [] rfl
  have hD9 := hD.sub (ws' := []) [] (by decide) rfl
  have hK9 := hK.sub (tys' := []) [] rfl
  exact W.iret (v := (-1)) hx hb hr (fun t ht hW => ⟨⟨(-1), (), rfl, rfl, by rw [ht]; exact hP9, va_K.moved hW.alike hK9, hD9⟩, hS.F ht⟩) hS.2.2 dX8_readers_12
end
section
theorem dX8_init_0 : decode cX8_init 0 = .ok (.aload_n 0, 1) := by decide +kernel
theorem dX8_init_1 : decode cX8_init 1 = .ok (.invokespecial 1, 3) := by decide +kernel
theorem dX8_init_101 : decode cX8_init 101 = .ok (.dup, 1) := by decide +kernel
theorem dX8_init_102 : decode cX8_init 102 = .ok (.aload_n 0, 1) := by decide +kernel
theorem dX8_init_103 : decode cX8_init 103 = .ok (.getfield 24, 3) := by decide +kernel
theorem dX8_init_106 : decode cX8_init 106 = .ok (.invokespecial 48, 3) := by decide +kernel
theorem dX8_init_109 : decode cX8_init 109 = .ok (.putfield 49, 3) := by decide +kernel
theorem dX8_init_112 : decode cX8_init 112 = .ok (.aload_n 0, 1) := by decide +kernel
theorem dX8_init_113 : decode cX8_init 113 = .ok (.new 53, 3) := by decide +kernel
theorem dX8_init_116 : decode cX8_init 116 = .ok (.dup, 1) := by decide +kernel
theorem dX8_init_117 : decode cX8_init 117 = .ok (.aload_n 0, 1) := by decide +kernel
theorem dX8_init_118 : decode cX8_init 118 = .ok (.getfield 24, 3) := by decide +kernel
theorem dX8_init_12 : decode cX8_init 12 = .ok (.invokespecial 11, 3) := by decide +kernel
theorem dX8_init_121 : decode cX8_init 121 = .ok (.invokespecial 55, 3) := by decide +kernel
theorem dX8_init_124 : decode cX8_init 124 = .ok (.putfield 56, 3) := by decide +kernel
theorem dX8_init_127 : decode cX8_init 127 = .ok (.aload_n 0, 1) := by decide +kernel
theorem dX8_init_128 : decode cX8_init 128 = .ok (.new 7, 3) := by decide +kernel
theorem dX8_init_131 : decode cX8_init 131 = .ok (.dup, 1) := by decide +kernel
theorem dX8_init_132 : decode cX8_init 132 = .ok (.sipush 256, 3) := by decide +kernel
theorem dX8_init_135 : decode cX8_init 135 = .ok (.invokespecial 11, 3) := by decide +kernel
theorem dX8_init_138 : decode cX8_init 138 = .ok (.putfield 60, 3) := by decide +kernel
theorem dX8_init_141 : decode cX8_init 141 = .ok (.aload_n 0, 1) := by decide +kernel
theorem dX8_init_142 : decode cX8_init 142 = .ok (.new 7, 3) := by decide +kernel
theorem dX8_init_145 : decode cX8_init 145 = .ok (.dup, 1) := by decide +kernel
theorem dX8_init_146 : decode cX8_init 146 = .ok (.sipush 256, 3) := by decide +kernel
theorem dX8_init_149 : decode cX8_init 149 = .ok (.invokespecial 11, 3) := by decide +kernel
theorem dX8_init_15 : decode cX8_init 15 = .ok (.putfield 14, 3) := by decide +kernel
theorem dX8_init_152 : decode cX8_init 152 = .ok (.putfield 63, 3) := by decide +kernel
theorem dX8_init_155 : decode cX8_init 155 = .ok (.aload_n 0, 1) := by decide +kernel
theorem dX8_init_156 : decode cX8_init 156 = .ok (.iconst 0, 1) := by decide +kernel
theorem dX8_init_157 : decode cX8_init 157 = .ok (.putfield 66, 3) := by decide +kernel
theorem dX8_init_160 : decode cX8_init 160 = .ok (.aload_n 0, 1) := by decide +kernel
theorem dX8_init_161 : decode cX8_init 161 = .ok (.iconst (-1), 1) := by decide +kernel
theorem dX8_init_162 : decode cX8_init 162 = .ok (.putfield 70, 3) := by decide +kernel
theorem dX8_init_165 : decode cX8_init 165 = .ok (.aload_n 0, 1) := by decide +kernel
theorem dX8_init_166 : decode cX8_init 166 = .ok (.iconst 0, 1) := by decide +kernel
theorem dX8_init_167 : decode cX8_init 167 = .ok (.putfield 73, 3) := by decide +kernel
theorem dX8_init_170 : decode cX8_init 170 = .ok (.return_, 1) := by decide +kernel
theorem dX8_init_18 : decode cX8_init 18 = .ok (.aload_n 0, 1) := by decide +kernel
theorem dX8_init_19 : decode cX8_init 19 = .ok (.iconst 4, 1) := by decide +kernel
theorem dX8_init_20 : decode cX8_init 20 = .ok (.anewarray 7, 3) := by decide +kernel
theorem dX8_init_23 : decode cX8_init 23 = .ok (.putfield 18, 3) := by decide +kernel
theorem dX8_init_26 : decode cX8_init 26 = .ok (.iconst 0, 1) := by decide +kernel
theorem dX8_init_27 : decode cX8_init 27 = .ok (.istore_n 1, 1) := by decide +kernel
theorem dX8_init_28 : decode cX8_init 28 = .ok (.iload_n 1, 1) := by decide +kernel
theorem dX8_init_29 : decode cX8_init 29 = .ok (.iconst 4, 1) := by decide +kernel
theorem dX8_init_30 : decode cX8_init 30 = .ok (.if_icmp .ge 24, 3) := by decide +kernel
theorem dX8_init_33 : decode cX8_init 33 = .ok (.aload_n 0, 1) := by decide +kernel
theorem dX8_init_34 : decode cX8_init 34 = .ok (.getfield 18, 3) := by decide +kernel
theorem dX8_init_37 : decode cX8_init 37 = .ok (.iload_n 1, 1) := by decide +kernel
theorem dX8_init_38 : decode cX8_init 38 = .ok (.new 7, 3) := by decide +kernel
theorem dX8_init_4 : decode cX8_init 4 = .ok (.aload_n 0, 1) := by decide +kernel
theorem dX8_init_41 : decode cX8_init 41 = .ok (.dup, 1) := by decide +kernel
theorem dX8_init_42 : decode cX8_init 42 = .ok (.bipush 120, 2) := by decide +kernel
theorem dX8_init_44 : decode cX8_init 44 = .ok (.invokespecial 11, 3) := by decide +kernel
theorem dX8_init_47 : decode cX8_init 47 = .ok (.aastore, 1) := by decide +kernel
theorem dX8_init_48 : decode cX8_init 48 = .ok (.iinc 1 1, 3) := by decide +kernel
theorem dX8_init_5 : decode cX8_init 5 = .ok (.new 7, 3) := by decide +kernel
theorem dX8_init_51 : decode cX8_init 51 = .ok (.goto (-23), 3) := by decide +kernel
theorem dX8_init_54 : decode cX8_init 54 = .ok (.aload_n 0, 1) := by decide +kernel
theorem dX8_init_55 : decode cX8_init 55 = .ok (.bipush 8, 2) := by decide +kernel
theorem dX8_init_57 : decode cX8_init 57 = .ok (.anewarray 22, 3) := by decide +kernel
theorem dX8_init_60 : decode cX8_init 60 = .ok (.putfield 24, 3) := by decide +kernel
theorem dX8_init_63 : decode cX8_init 63 = .ok (.aload_n 0, 1) := by decide +kernel
theorem dX8_init_64 : decode cX8_init 64 = .ok (.new 28, 3) := by decide +kernel
theorem dX8_init_67 : decode cX8_init 67 = .ok (.dup, 1) := by decide +kernel
theorem dX8_init_68 : decode cX8_init 68 = .ok (.aload_n 0, 1) := by decide +kernel
theorem dX8_init_69 : decode cX8_init 69 = .ok (.getfield 14, 3) := by decide +kernel
theorem dX8_init_72 : decode cX8_init 72 = .ok (.aload_n 0, 1) := by decide +kernel
theorem dX8_init_73 : decode cX8_init 73 = .ok (.getfield 24, 3) := by decide +kernel
theorem dX8_init_76 : decode cX8_init 76 = .ok (.invokespecial 30, 3) := by decide +kernel
theorem dX8_init_79 : decode cX8_init 79 = .ok (.putfield 33, 3) := by decide +kernel
theorem dX8_init_8 : decode cX8_init 8 = .ok (.dup, 1) := by decide +kernel
theorem dX8_init_82 : decode cX8_init 82 = .ok (.aload_n 0, 1) := by decide +kernel
theorem dX8_init_83 : decode cX8_init 83 = .ok (.new 37, 3) := by decide +kernel
theorem dX8_init_86 : decode cX8_init 86 = .ok (.dup, 1) := by decide +kernel
theorem dX8_init_87 : decode cX8_init 87 = .ok (.aload_n 0, 1) := by decide +kernel
theorem dX8_init_88 : decode cX8_init 88 = .ok (.getfield 24, 3) := by decide +kernel
theorem dX8_init_9 : decode cX8_init 9 = .ok (.sipush 400, 3) := by decide +kernel
theorem dX8_init_91 : decode cX8_init 91 = .ok (.invokespecial 39, 3) := by decide +kernel
theorem dX8_init_94 : decode cX8_init 94 = .ok (.putfield 42, 3) := by decide +kernel
theorem dX8_init_97 : decode cX8_init 97 = .ok (.aload_n 0, 1) := by decide +kernel
theorem dX8_init_98 : decode cX8_init 98 = .ok (.new 46, 3) := by decide +kernel
def wp_X8_init : List Cond := .code yX8_init cX8_init 2 none :: ([.methodLink RX8 1 objectInit, .instanceMethod objectInit, .code objectInit ⟨#[0xb1]⟩ 1 none, .classLink RX8 7 RX5, .instantiable RX5 2, .initialized RX5, .instanceMethod yX5_init, .methodLink RX8 11 yX5_init, .fieldLink RX8 14 "RecordBench" "tape" "LRecordBench$Row;", .fieldLink RX8 18 "RecordBench" "records" "[LRecordBench$Row;", .classLink RX8 22 RX1, .fieldLink RX8 24 "RecordBench" "makes" "[LRecordBench$Make;", .classLink RX8 28 RX6, .instantiable RX6 6, .initialized RX6, .instanceMethod yX6_init, .methodLink RX8 30 yX6_init, .fieldLink RX8 33 "RecordBench" "texts" "LRecordBench$TextReader;", .classLink RX8 37 RX3, .instantiable RX3 4, .initialized RX3, .instanceMethod yX3_init, .methodLink RX8 39 yX3_init, .fieldLink RX8 42 "RecordBench" "reader" "LRecordBench$RecordReader;", .classLink RX8 46 RX4, .instantiable RX4 3, .initialized RX4, .instanceMethod yX4_init, .methodLink RX8 48 yX4_init, .fieldLink RX8 49 "RecordBench" "writer" "LRecordBench$RecordWriter;", .classLink RX8 53 RX7, .instantiable RX7 2, .initialized RX7, .instanceMethod yX7_init, .methodLink RX8 55 yX7_init, .fieldLink RX8 56 "RecordBench" "walks" "LRecordBench$Walks;", .fieldLink RX8 60 "RecordBench" "fresh" "LRecordBench$Row;", .fieldLink RX8 63 "RecordBench" "work" "LRecordBench$Row;", .fieldLink RX8 66 "RecordBench" "latestFault" "I", .fieldLink RX8 70 "RecordBench" "latestPlace" "I", .fieldLink RX8 73 "RecordBench" "latestNumber" "I", .code yX5_init cX5_init 2 none, .methodLink RX5 3 objectInit, .methodLink RX5 9 Lib.Math.max.name, .static Lib.Math.max.name, .initialized "java/lang/Math", .code Lib.Math.max.name Lib.Math.max.code 2 (some .int), .arrayClass .int, .fieldLink RX5 15 "RecordBench$Row" "bytes" "[I", .fieldLink RX5 21 "RecordBench$Row" "size" "I", .code yX6_init cX6_init 3 none, .methodLink RX6 3 objectInit, .fieldLink RX6 9 "RecordBench$TextReader" "tape" "LRecordBench$Row;", .fieldLink RX6 15 "RecordBench$TextReader" "makes" "[LRecordBench$Make;", .classLink RX6 19 RJ4, .instantiable RJ4 4, .initialized RJ4, .instanceMethod yJ4_init_da8c8, .methodLink RX6 21 yJ4_init_da8c8, .fieldLink RX6 22 "RecordBench$TextReader" "letters" "Ljava/lang/StringBuilder;", .fieldLink RX6 26 "RecordBench$TextReader" "pos" "I", .fieldLink RX6 30 "RecordBench$TextReader" "fault" "I", .fieldLink RX6 33 "RecordBench$TextReader" "place" "I", .code yJ4_init_da8c8 cJ4_init_da8c8 1 none, .instanceMethod yJ5_init_d00df, .initialized RJ5, .methodLink RJ4 1 yJ5_init_d00df, .code yJ5_init_d00df cJ5_init_d00df 2 none, .methodLink RJ5 3 objectInit, .fieldLink RJ5 18 "java/lang/String" "COMPACT_STRINGS" "Z", .arrayClass .byte, .fieldLink RJ5 15 "java/lang/AbstractStringBuilder" "value" "[B", .fieldLink RJ5 22 "java/lang/AbstractStringBuilder" "coder" "B", .code yX3_init cX3_init 3 none, .methodLink RX3 3 objectInit, .fieldLink RX3 9 "RecordBench$RecordReader" "makes" "[LRecordBench$Make;", .classLink RX3 15 RX2, .fieldLink RX3 17 "RecordBench$RecordReader" "pieces" "[LRecordBench$Piece;", .instantiable RX2 8, .initialized RX2, .instanceMethod yX2_init, .fieldLink RX3 22 "RecordBench$RecordReader" "fault" "I", .fieldLink RX3 26 "RecordBench$RecordReader" "place" "I", .code yX2_init cX2_init 1 none, .methodLink RX2 3 objectInit, .fieldLink RX2 9 "RecordBench$Piece" "number" "I", .fieldLink RX2 15 "RecordBench$Piece" "withLength" "Z", .fieldLink RX2 19 "RecordBench$Piece" "raw" "J", .fieldLink RX2 23 "RecordBench$Piece" "body" "I", .fieldLink RX2 26 "RecordBench$Piece" "end" "I", .fieldLink RX2 29 "RecordBench$Piece" "fault" "I", .fieldLink RX2 32 "RecordBench$Piece" "pos" "I", .fieldLink RX2 35 "RecordBench$Piece" "broken" "Z", .code yX4_init cX4_init 3 none, .methodLink RX4 3 objectInit, .fieldLink RX4 9 "RecordBench$RecordWriter" "makes" "[LRecordBench$Make;", .classLink RX4 15 RX2, .fieldLink RX4 17 "RecordBench$RecordWriter" "pieces" "[LRecordBench$Piece;", .classLink RX4 22 RX5, .methodLink RX4 24 yX5_init, .fieldLink RX4 27 "RecordBench$RecordWriter" "nothing" "LRecordBench$Row;", .code yX7_init cX7_init 2 none, .methodLink RX7 3 objectInit, .fieldLink RX7 9 "RecordBench$Walks" "makes" "[LRecordBench$Make;", .fieldLink RX7 15 "RecordBench$Walks" "seen" "[I"] ++ wsX50 ++ wsX80 ++ wsX60 ++ wsX30 ++ wsX40 ++ wsX70 ++ wsJ40 ++ wsX20)
set_option maxRecDepth 20000 in
theorem gp_X8_init_X5_init_11 : GoodIn wp_X8_init (wp_X5_init) := goodIn_p _ [42, 3, 47] rfl (by decide +kernel)
set_option maxRecDepth 20000 in
theorem gp_X8_init_X6_init_30 : GoodIn wp_X8_init (wp_X6_init) := goodIn_p _ [51, 3, 64, 68] rfl (by decide +kernel)
set_option maxRecDepth 20000 in
theorem gp_X8_init_X3_init_39 : GoodIn wp_X8_init (wp_X3_init) := goodIn_p _ [74, 3, 84] rfl (by decide +kernel)
set_option maxRecDepth 20000 in
theorem gp_X8_init_X4_init_48 : GoodIn wp_X8_init (wp_X4_init) := goodIn_p _ [94, 3, 84, 42, 47] rfl (by decide +kernel)
set_option maxRecDepth 20000 in
theorem gp_X8_init_X7_init_55 : GoodIn wp_X8_init (wp_X7_init) := goodIn_p _ [102, 3] rfl (by decide +kernel)
set_option maxHeartbeats 4000000 in
set_option maxRecDepth 100000 in
theorem c_X8_init (l : Launch) (dC : Nat → ClassId) (dI : Nat → Nat → Nat) (h0 : Nat) (sz : Nat) : Met l yX8_init wp_X8_init ({ frames := 4, cells := 43, slots := 2623, locals := 91 }) (va_Pc [.ref h0] (Pr (dC, dI) [] [(h0, .inr (10, [.null, .null, .null, .null, .null, .null, .null, .null, .null, .int 0, .int 0, .int 0]))] sz)) (va_Qv (fun (u : Nat × Nat × Nat × Nat × Value × Value × Value × Value × Value × Nat × ClassId × ClassId × (Nat → Option Nat) × Nat × Nat × Nat × Nat × Nat × Nat × Nat × Nat × ClassId × Nat) => match u with | (t0, r0, m0, x0, v4, v5, v6, v7, v8, tb, cT, cR, fR, q0, q1, q2, q3, b0, b1, b2, b3, cM, sb) => (fR 0 = some q0) ∧ (fR 1 = some q1) ∧ (fR 2 = some q2) ∧ (fR 3 = some q3)) (Bq (dC, dI) (fun (u : Nat × Nat × Nat × Nat × Value × Value × Value × Value × Value × Nat × ClassId × ClassId × (Nat → Option Nat) × Nat × Nat × Nat × Nat × Nat × Nat × Nat × Nat × ClassId × Nat) => match u with | (t0, r0, m0, x0, v4, v5, v6, v7, v8, tb, cT, cR, fR, q0, q1, q2, q3, b0, b1, b2, b3, cM, sb) => [(h0, .inr (10, [.ref t0, .ref r0, .ref m0, .ref x0, v4, v5, v6, v7, v8, .int 0, .int ((-1)), .int 0])), (t0, .inr (7, [.ref tb, .int 0])), (tb, .inl (cT, 400, .inl (fun _ => 0))), (r0, .inl (cR, 4, .inr (.inr (.inr (.inr fR))))), (q0, .inr (7, [.ref b0, .int 0])), (q1, .inr (7, [.ref b1, .int 0])), (q2, .inr (7, [.ref b2, .int 0])), (q3, .inr (7, [.ref b3, .int 0])), (m0, .inl (cM, 8, .inr (.inr (.inr (.inr (fun _ => none)))))), (x0, .inr (8, [.ref t0, .ref m0, .ref sb, .int 0, .int 0, .int ((-1))]))]) (fun (u : Nat × Nat × Nat × Nat × Value × Value × Value × Value × Value × Nat × ClassId × ClassId × (Nat → Option Nat) × Nat × Nat × Nat × Nat × Nat × Nat × Nat × Nat × ClassId × Nat) => match u with | (t0, r0, m0, x0, v4, v5, v6, v7, v8, tb, cT, cR, fR, q0, q1, q2, q3, b0, b1, b2, b3, cM, sb) => [(cT, .int), (cR, .object RX5), (cM, .object RX1)]) (va_A [(h0, .inr (10, [.null, .null, .null, .null, .null, .null, .null, .null, .null, .int 0, .int 0, .int 0]))] sz)) (va_A [(h0, .inr (10, [.null, .null, .null, .null, .null, .null, .null, .null, .null, .int 0, .int 0, .int 0]))] sz)) 43 2623 (va_A [(h0, .inr (10, [.null, .null, .null, .null, .null, .null, .null, .null, .null, .int 0, .int 0, .int 0]))] sz) := by
  refine Met.ofW (cc := cX8_init) (maxL := 2) (ret := none) (by decide) rfl ?_
  intro p e s m args below meth c s₁ B hml hv
  obtain ⟨rfl, hsz, hP, hK, hD0, hN, hZ⟩ := hv
  have hx := B.exec
  have hb := B.bytes
  have hr := B.returns
  have hts := atoms_spec (ws := wp_X8_init) B.pre
  have hown : s.vm.findClass RX8 = some m.cls := findClass_of_methodNamed B.named
  have hlocks := B.notSynchronized
  have hin : meth.name = "<init>" := (name_of_methodNamed B.named B.method).1
  have iRX5 : ∀ w ∈ u_ws RX5 TX5 2, w ∈ wp_X8_init := by decide +kernel
  have iRX8 : ∀ w ∈ u_ws RX8 TX8 12, w ∈ wp_X8_init := by decide +kernel
  have iRX6 : ∀ w ∈ u_ws RX6 TX6 6, w ∈ wp_X8_init := by decide +kernel
  have iRX3 : ∀ w ∈ u_ws RX3 TX3 4, w ∈ wp_X8_init := by decide +kernel
  have iRX4 : ∀ w ∈ u_ws RX4 TX4 3, w ∈ wp_X8_init := by decide +kernel
  have iRX7 : ∀ w ∈ u_ws RX7 TX7 2, w ∈ wp_X8_init := by decide +kernel
  subst hsz
  have hD := hD0.self (sz := s.heap.size)
  generalize hAe : va_A [(h0, .inr (10, [.null, .null, .null, .null, .null, .null, .null, .null, .null, .int 0, .int 0, .int 0]))] s.heap.size = A at hD hZ ⊢
  have hA : ∀ q : Nat, s.heap.size ≤ q → A q := fun q h => by rw [← hAe]; exact Or.inr h
  have hS : va_S A s.heap s.heap [] := va_S.rf
  have hP : va_P (dC, dI) vwCl [(h0, .inr (10, [.null, .null, .null, .null, .null, .null, .null, .null, .null, .int 0, .int 0, .int 0]))] s.heap := hP
  have hl := lv_entry ([.ref h0]) (n := 2) (Nat.le_of_ble_eq_true rfl)
  rw [lg_entry_eq]
  generalize (lg_sl ([.ref h0]) ++ List.replicate (2 - (lg_sl ([.ref h0])).length) Slot.unset).toArray = ls at hl ⊢
  have hl : lv_has ls 2 [(0, .ref h0)] := hl
  refine lv_aload_n hx hb dX8_init_0 rfl (lv_at hl 0 rfl) ?_
  refine W.objInit hx hb hown (hts (.methodLink RX8 1 objectInit) (by decide +kernel)) (hts (.instanceMethod objectInit) (by decide +kernel)) (hts (.code objectInit ⟨#[0xb1]⟩ 1 none) (by decide +kernel)) rfl (by rw [hml]; exact hl.1) rfl dX8_init_1 (Nat.le_of_ble_eq_true rfl) (Nat.le_of_ble_eq_true rfl) ?_
  refine W.eq (g2 := F0 m 4 ls []) rfl ?_
  refine lv_aload_n hx hb dX8_init_4 rfl (lv_at hl 0 rfl) ?_
  refine va_new (ci := 7) (fs := [.null, .int 0]) (C := RX5) (T := TX5) (N := 2) hx hb hts iRX5 tyX5 tyX5_ok hown (hts (.classLink RX8 7 RX5) (by decide +kernel)) (hts (.instantiable RX5 2) (by decide +kernel)) (hts (.initialized RX5) (by decide +kernel)) hK hP hD hS hA rfl fsX5_ok (Nat.le_of_ble_eq_true rfl) (Nat.le_of_ble_eq_true rfl) dX8_init_5 (fun q_1 H hP hD hS => ?_)
  have hP : va_P (dC, dI) vwCl [(h0, .inr (10, [.null, .null, .null, .null, .null, .null, .null, .null, .null, .int 0, .int 0, .int 0])), (q_1, .inr (7, [.null, .int 0]))] H := hP
  have hD : va_D A [(h0, .inr (10, [.null, .null, .null, .null, .null, .null, .null, .null, .null, .int 0, .int 0, .int 0])), (q_1, .inr (7, [.null, .int 0]))] := hD
  refine W.widen (k := 1) (n := 2) (by omega) (by omega) ?_
  refine lv_dup hx hb dX8_init_8 rfl ?_
  refine lv_sipush (v := 400) hx hb dX8_init_9 (by decide) ?_
  have hFc := va_free (wc := [(q_1, .inr (7, [.null, .int 0]))]) hD hS hA [1] rfl
  refine va_callv (va_runI (As := [.int 400]) (rest := [.ref q_1, .ref h0]) ⟨hx, hb, hml, hown, hts⟩ (c_X5_init l dC dI q_1 400 400 (by decide) (by decide) (by decide) H.size) (cwI 1 hts gp_X8_init_X5_init_11 rfl rfl rfl (hts (.initialized RX5) (by decide +kernel)) (hts (.methodLink RX8 11 yX5_init) (by decide +kernel)) (hts (.instanceMethod yX5_init) (by decide +kernel)) rfl (by decide +kernel) ⟨Nat.le_of_ble_eq_true rfl, Nat.le_of_ble_eq_true rfl⟩) ⟨Pr.blind _, fun U hU hW => ⟨rfl, Pr.at (hP.sub (ws' := [(q_1, .inr (7, [.null, .int 0]))]) [1] rfl) (hK.sub (tys' := []) [] rfl) (hD.sub (ws' := [(q_1, .inr (7, [.null, .int 0]))]) [1] (by decide) rfl) hN hZ hS hFc hU hW⟩⟩ rfl rfl hl.1 rfl (lv_room (Nat.le_of_ble_eq_true rfl)) dX8_init_12 ⟨Nat.le_of_ble_eq_true rfl, Nat.le_of_ble_eq_true rfl⟩) hS (fun q _ h => hFc q h) hFc (fun u t H1 locs ht hvm hw_3 hB hz1 hk1 hS => ?_)
  obtain ⟨q_4, cA_5⟩ := u
  obtain ⟨hP, hD, hK⟩ := Bq.join (wr := [(h0, .inr (10, [.null, .null, .null, .null, .null, .null, .null, .null, .null, .int 0, .int 0, .int 0]))]) hB ht hvm hP hD [1] [0] rfl rfl (by decide) (by decide) hk1 hFc hK
  generalize H1 = H at hP hS ⊢
  have hP : va_P (dC, dI) vwCl [(h0, .inr (10, [.null, .null, .null, .null, .null, .null, .null, .null, .null, .int 0, .int 0, .int 0])), (q_1, .inr (7, [.ref q_4, .int 0])), (q_4, .inl (cA_5, 400, .inl (fun _ => 0)))] H := hP
  have hD : va_D A [(h0, .inr (10, [.null, .null, .null, .null, .null, .null, .null, .null, .null, .int 0, .int 0, .int 0])), (q_1, .inr (7, [.ref q_4, .int 0])), (q_4, .inl (cA_5, 400, .inl (fun _ => 0)))] := hD
  have hK : va_K (dC, dI) vwCl [(cA_5, .int)] s := hK
  refine W.widen (k := 2) (n := 402) (by omega) (by omega) ?_
  refine va_putF (D := (dC, dI)) (ci := 10) (v := .ref q_1) (ty := (.object "RecordBench$Row")) (C := RX8) (T := TX8) (N := 12) hx hb hts iRX8 tyX8 tyX8_ok nmX8 hown hK hP hD hS 0 rfl rfl 0 (by decide) (hts (.fieldLink RX8 14 "RecordBench" "tape" "LRecordBench$Row;") (by decide +kernel)) (fun _ h9 => h9) rfl hin rfl (by decide +kernel) rfl rfl (Nat.le_of_ble_eq_true rfl) dX8_init_15 (fun H locs hP hD hS => ?_)
  have hP : va_P (dC, dI) vwCl [(h0, .inr (10, [.ref q_1, .null, .null, .null, .null, .null, .null, .null, .null, .int 0, .int 0, .int 0])), (q_1, .inr (7, [.ref q_4, .int 0])), (q_4, .inl (cA_5, 400, .inl (fun _ => 0)))] H := hP
  have hD : va_D A [(h0, .inr (10, [.ref q_1, .null, .null, .null, .null, .null, .null, .null, .null, .int 0, .int 0, .int 0])), (q_1, .inr (7, [.ref q_4, .int 0])), (q_4, .inl (cA_5, 400, .inl (fun _ => 0)))] := hD
  refine lv_aload_n hx hb dX8_init_18 rfl (lv_at hl 0 rfl) ?_
  refine lv_iconst (v := 4) hx hb dX8_init_19 (by decide) ?_
  refine va_newq (C := RX5) hx hb hown (hts (.classLink RX8 7 RX5) (by decide +kernel)) hN.2.2.2.1 hK hP hD hS hA (n := 4) (N' := 4) (by decide) (by decide) (by decide) (Nat.le_of_ble_eq_true rfl) (Nat.le_of_ble_eq_true rfl) dX8_init_20 (fun q_6 cA_7 H hK hP hD hS => ?_)
  have hP : va_P (dC, dI) vwCl [(h0, .inr (10, [.ref q_1, .null, .null, .null, .null, .null, .null, .null, .null, .int 0, .int 0, .int 0])), (q_1, .inr (7, [.ref q_4, .int 0])), (q_4, .inl (cA_5, 400, .inl (fun _ => 0))), (q_6, .inl (cA_7, 4, .inr (.inr (.inr (.inr (fun _ => none))))))] H := hP
  have hD : va_D A [(h0, .inr (10, [.ref q_1, .null, .null, .null, .null, .null, .null, .null, .null, .int 0, .int 0, .int 0])), (q_1, .inr (7, [.ref q_4, .int 0])), (q_4, .inl (cA_5, 400, .inl (fun _ => 0))), (q_6, .inl (cA_7, 4, .inr (.inr (.inr (.inr (fun _ => none))))))] := hD
  have hK : va_K (dC, dI) vwCl [(cA_5, .int), (cA_7, .object RX5)] s := hK
  refine W.widen (k := 3) (n := 406) (by omega) (by omega) ?_
  refine va_putF (D := (dC, dI)) (ci := 10) (v := .ref q_6) (ty := (.array (.object "RecordBench$Row"))) (C := RX8) (T := TX8) (N := 12) hx hb hts iRX8 tyX8 tyX8_ok nmX8 hown hK hP hD hS 0 rfl rfl 1 (by decide) (hts (.fieldLink RX8 18 "RecordBench" "records" "[LRecordBench$Row;") (by decide +kernel)) (fun _ h9 => h9) rfl hin rfl (by decide +kernel) rfl rfl (Nat.le_of_ble_eq_true rfl) dX8_init_23 (fun H locs hP hD hS => ?_)
  have hP : va_P (dC, dI) vwCl [(h0, .inr (10, [.ref q_1, .ref q_6, .null, .null, .null, .null, .null, .null, .null, .int 0, .int 0, .int 0])), (q_1, .inr (7, [.ref q_4, .int 0])), (q_4, .inl (cA_5, 400, .inl (fun _ => 0))), (q_6, .inl (cA_7, 4, .inr (.inr (.inr (.inr (fun _ => none))))))] H := hP
  have hD : va_D A [(h0, .inr (10, [.ref q_1, .ref q_6, .null, .null, .null, .null, .null, .null, .null, .int 0, .int 0, .int 0])), (q_1, .inr (7, [.ref q_4, .int 0])), (q_4, .inl (cA_5, 400, .inl (fun _ => 0))), (q_6, .inl (cA_7, 4, .inr (.inr (.inr (.inr (fun _ => none))))))] := hD
  refine lv_iconst (v := 0) hx hb dX8_init_26 (by decide) ?_
  refine lv_istore_n (lv' := [(1, .int 0), (0, .ref h0)]) hx hb dX8_init_27 rfl hl (by decide) rfl (fun ls hl => ?_)
  refine lv_iload_n hx hb dX8_init_28 rfl (lv_at hl 0 rfl) ?_
  refine lv_iconst (v := 4) hx hb dX8_init_29 (by decide) ?_
  refine lv_icmp_ge (tgt := 54) hx hb dX8_init_30 (by decide) (fun c_8 => absurd c_8 (by decide)) (fun c_8 => ?_)
  refine lv_aload_n hx hb dX8_init_33 rfl (lv_at hl 1 rfl) ?_
  refine va_get (D := (dC, dI)) (ci := 10) (v := .ref q_6) (C := RX8) (T := TX8) (N := 12) hx hb hts iRX8 hown hK hP 0 rfl rfl 1 (by decide) (hts (.fieldLink RX8 18 "RecordBench" "records" "[LRecordBench$Row;") (by decide +kernel)) (fun _ h9 => h9) rfl dX8_init_34 ?_
  refine lv_iload_n hx hb dX8_init_37 rfl (lv_at hl 0 rfl) ?_
  refine va_new (ci := 7) (fs := [.null, .int 0]) (C := RX5) (T := TX5) (N := 2) hx hb hts iRX5 tyX5 tyX5_ok hown (hts (.classLink RX8 7 RX5) (by decide +kernel)) (hts (.instantiable RX5 2) (by decide +kernel)) (hts (.initialized RX5) (by decide +kernel)) hK hP hD hS hA rfl fsX5_ok (Nat.le_of_ble_eq_true rfl) (Nat.le_of_ble_eq_true rfl) dX8_init_38 (fun q_9 H hP hD hS => ?_)
  have hP : va_P (dC, dI) vwCl [(h0, .inr (10, [.ref q_1, .ref q_6, .null, .null, .null, .null, .null, .null, .null, .int 0, .int 0, .int 0])), (q_1, .inr (7, [.ref q_4, .int 0])), (q_4, .inl (cA_5, 400, .inl (fun _ => 0))), (q_6, .inl (cA_7, 4, .inr (.inr (.inr (.inr (fun _ => none)))))), (q_9, .inr (7, [.null, .int 0]))] H := hP
  have hD : va_D A [(h0, .inr (10, [.ref q_1, .ref q_6, .null, .null, .null, .null, .null, .null, .null, .int 0, .int 0, .int 0])), (q_1, .inr (7, [.ref q_4, .int 0])), (q_4, .inl (cA_5, 400, .inl (fun _ => 0))), (q_6, .inl (cA_7, 4, .inr (.inr (.inr (.inr (fun _ => none)))))), (q_9, .inr (7, [.null, .int 0]))] := hD
  refine W.widen (k := 4) (n := 408) (by omega) (by omega) ?_
  refine lv_dup hx hb dX8_init_41 rfl ?_
  refine lv_bipush (v := 120) hx hb dX8_init_42 (by decide) ?_
  have hFc := va_free (wc := [(q_9, .inr (7, [.null, .int 0]))]) hD hS hA [4] rfl
  refine va_callv (va_runI (As := [.int 120]) (rest := [.ref q_9, .int 0, .ref q_6]) ⟨hx, hb, hml, hown, hts⟩ (c_X5_init l dC dI q_9 120 120 (by decide) (by decide) (by decide) H.size) (cwI 1 hts gp_X8_init_X5_init_11 rfl rfl rfl (hts (.initialized RX5) (by decide +kernel)) (hts (.methodLink RX8 11 yX5_init) (by decide +kernel)) (hts (.instanceMethod yX5_init) (by decide +kernel)) rfl (by decide +kernel) ⟨Nat.le_of_ble_eq_true rfl, Nat.le_of_ble_eq_true rfl⟩) ⟨Pr.blind _, fun U hU hW => ⟨rfl, Pr.at (hP.sub (ws' := [(q_9, .inr (7, [.null, .int 0]))]) [4] rfl) (hK.sub (tys' := []) [] rfl) (hD.sub (ws' := [(q_9, .inr (7, [.null, .int 0]))]) [4] (by decide) rfl) hN hZ hS hFc hU hW⟩⟩ rfl rfl hl.1 rfl (lv_room (Nat.le_of_ble_eq_true rfl)) dX8_init_44 ⟨Nat.le_of_ble_eq_true rfl, Nat.le_of_ble_eq_true rfl⟩) hS (fun q _ h => hFc q h) hFc (fun u t H1 locs ht hvm hw_11 hB hz1 hk1 hS => ?_)
  obtain ⟨q_12, cA_13⟩ := u
  obtain ⟨hP, hD, hK⟩ := Bq.join (wr := [(h0, .inr (10, [.ref q_1, .ref q_6, .null, .null, .null, .null, .null, .null, .null, .int 0, .int 0, .int 0])), (q_1, .inr (7, [.ref q_4, .int 0])), (q_4, .inl (cA_5, 400, .inl (fun _ => 0))), (q_6, .inl (cA_7, 4, .inr (.inr (.inr (.inr (fun _ => none))))))]) hB ht hvm hP hD [4] [0, 1, 2, 3] rfl rfl (by decide) (by decide) hk1 hFc hK
  generalize H1 = H at hP hS ⊢
  have hP : va_P (dC, dI) vwCl [(h0, .inr (10, [.ref q_1, .ref q_6, .null, .null, .null, .null, .null, .null, .null, .int 0, .int 0, .int 0])), (q_1, .inr (7, [.ref q_4, .int 0])), (q_4, .inl (cA_5, 400, .inl (fun _ => 0))), (q_6, .inl (cA_7, 4, .inr (.inr (.inr (.inr (fun _ => none)))))), (q_9, .inr (7, [.ref q_12, .int 0])), (q_12, .inl (cA_13, 120, .inl (fun _ => 0)))] H := hP
  have hD : va_D A [(h0, .inr (10, [.ref q_1, .ref q_6, .null, .null, .null, .null, .null, .null, .null, .int 0, .int 0, .int 0])), (q_1, .inr (7, [.ref q_4, .int 0])), (q_4, .inl (cA_5, 400, .inl (fun _ => 0))), (q_6, .inl (cA_7, 4, .inr (.inr (.inr (.inr (fun _ => none)))))), (q_9, .inr (7, [.ref q_12, .int 0])), (q_12, .inl (cA_13, 120, .inl (fun _ => 0)))] := hD
  have hK : va_K (dC, dI) vwCl [(cA_5, .int), (cA_7, .object RX5), (cA_13, .int)] s := hK
  refine W.widen (k := 5) (n := 528) (by omega) (by omega) ?_
  refine va_astq hx hb hK hP hD hS 3 1 4 7 rfl rfl rfl rfl (by unfold vp_in; decide) dX8_init_47 (fun H locs hP hD hS => ?_)
  obtain ⟨f_14, ef_14⟩ : ∃ y : Nat → Option Nat, y = va_up (fun _ => none) 0 (some q_9) := ⟨_, rfl⟩
  have hP : va_P (dC, dI) vwCl [(h0, .inr (10, [.ref q_1, .ref q_6, .null, .null, .null, .null, .null, .null, .null, .int 0, .int 0, .int 0])), (q_1, .inr (7, [.ref q_4, .int 0])), (q_4, .inl (cA_5, 400, .inl (fun _ => 0))), (q_6, .inl (cA_7, 4, .inr (.inr (.inr (.inr f_14))))), (q_9, .inr (7, [.ref q_12, .int 0])), (q_12, .inl (cA_13, 120, .inl (fun _ => 0)))] H := by rw [ef_14]; exact hP
  have hD : va_D A [(h0, .inr (10, [.ref q_1, .ref q_6, .null, .null, .null, .null, .null, .null, .null, .int 0, .int 0, .int 0])), (q_1, .inr (7, [.ref q_4, .int 0])), (q_4, .inl (cA_5, 400, .inl (fun _ => 0))), (q_6, .inl (cA_7, 4, .inr (.inr (.inr (.inr f_14))))), (q_9, .inr (7, [.ref q_12, .int 0])), (q_12, .inl (cA_13, 120, .inl (fun _ => 0)))] := by rw [ef_14]; exact hD
  have hP := hP.sub (ws' := [(h0, .inr (10, [.ref q_1, .ref q_6, .null, .null, .null, .null, .null, .null, .null, .int 0, .int 0, .int 0])), (q_1, .inr (7, [.ref q_4, .int 0])), (q_4, .inl (cA_5, 400, .inl (fun _ => 0))), (q_6, .inl (cA_7, 4, .inr (.inr (.inr (.inr f_14))))), (q_9, .inr (7, [.ref q_12, .int 0]))]) [0, 1, 2, 3, 4] rfl
  have hD := hD.sub (ws' := [(h0, .inr (10, [.ref q_1, .ref q_6, .null, .null, .null, .null, .null, .null, .null, .int 0, .int 0, .int 0])), (q_1, .inr (7, [.ref q_4, .int 0])), (q_4, .inl (cA_5, 400, .inl (fun _ => 0))), (q_6, .inl (cA_7, 4, .inr (.inr (.inr (.inr f_14))))), (q_9, .inr (7, [.ref q_12, .int 0]))]) [0, 1, 2, 3, 4] (by decide) rfl
  refine lv_iinc (v := 1) (lv' := [(1, .int 1), (0, .ref h0)]) hx hb dX8_init_48 hl (k := 0) rfl (by decide) (by decide) rfl (fun ls hl => ?_)
  refine lv_goto (tgt := 28) hx hb dX8_init_51 (by decide) ?_
  refine lv_iload_n hx hb dX8_init_28 rfl (lv_at hl 0 rfl) ?_
  refine lv_iconst (v := 4) hx hb dX8_init_29 (by decide) ?_
  refine lv_icmp_ge (tgt := 54) hx hb dX8_init_30 (by decide) (fun c_15 => absurd c_15 (by decide)) (fun c_15 => ?_)
  refine lv_aload_n hx hb dX8_init_33 rfl (lv_at hl 1 rfl) ?_
  refine va_get (D := (dC, dI)) (ci := 10) (v := .ref q_6) (C := RX8) (T := TX8) (N := 12) hx hb hts iRX8 hown hK hP 0 rfl rfl 1 (by decide) (hts (.fieldLink RX8 18 "RecordBench" "records" "[LRecordBench$Row;") (by decide +kernel)) (fun _ h9 => h9) rfl dX8_init_34 ?_
  refine lv_iload_n hx hb dX8_init_37 rfl (lv_at hl 0 rfl) ?_
  refine va_new (ci := 7) (fs := [.null, .int 0]) (C := RX5) (T := TX5) (N := 2) hx hb hts iRX5 tyX5 tyX5_ok hown (hts (.classLink RX8 7 RX5) (by decide +kernel)) (hts (.instantiable RX5 2) (by decide +kernel)) (hts (.initialized RX5) (by decide +kernel)) hK hP hD hS hA rfl fsX5_ok (Nat.le_of_ble_eq_true rfl) (Nat.le_of_ble_eq_true rfl) dX8_init_38 (fun q_16 H hP hD hS => ?_)
  have hP : va_P (dC, dI) vwCl [(h0, .inr (10, [.ref q_1, .ref q_6, .null, .null, .null, .null, .null, .null, .null, .int 0, .int 0, .int 0])), (q_1, .inr (7, [.ref q_4, .int 0])), (q_4, .inl (cA_5, 400, .inl (fun _ => 0))), (q_6, .inl (cA_7, 4, .inr (.inr (.inr (.inr f_14))))), (q_9, .inr (7, [.ref q_12, .int 0])), (q_16, .inr (7, [.null, .int 0]))] H := hP
  have hD : va_D A [(h0, .inr (10, [.ref q_1, .ref q_6, .null, .null, .null, .null, .null, .null, .null, .int 0, .int 0, .int 0])), (q_1, .inr (7, [.ref q_4, .int 0])), (q_4, .inl (cA_5, 400, .inl (fun _ => 0))), (q_6, .inl (cA_7, 4, .inr (.inr (.inr (.inr f_14))))), (q_9, .inr (7, [.ref q_12, .int 0])), (q_16, .inr (7, [.null, .int 0]))] := hD
  refine W.widen (k := 6) (n := 530) (by omega) (by omega) ?_
  refine lv_dup hx hb dX8_init_41 rfl ?_
  refine lv_bipush (v := 120) hx hb dX8_init_42 (by decide) ?_
  have hFc := va_free (wc := [(q_16, .inr (7, [.null, .int 0]))]) hD hS hA [5] rfl
  refine va_callv (va_runI (As := [.int 120]) (rest := [.ref q_16, .int 1, .ref q_6]) ⟨hx, hb, hml, hown, hts⟩ (c_X5_init l dC dI q_16 120 120 (by decide) (by decide) (by decide) H.size) (cwI 1 hts gp_X8_init_X5_init_11 rfl rfl rfl (hts (.initialized RX5) (by decide +kernel)) (hts (.methodLink RX8 11 yX5_init) (by decide +kernel)) (hts (.instanceMethod yX5_init) (by decide +kernel)) rfl (by decide +kernel) ⟨Nat.le_of_ble_eq_true rfl, Nat.le_of_ble_eq_true rfl⟩) ⟨Pr.blind _, fun U hU hW => ⟨rfl, Pr.at (hP.sub (ws' := [(q_16, .inr (7, [.null, .int 0]))]) [5] rfl) (hK.sub (tys' := []) [] rfl) (hD.sub (ws' := [(q_16, .inr (7, [.null, .int 0]))]) [5] (by decide) rfl) hN hZ hS hFc hU hW⟩⟩ rfl rfl hl.1 rfl (lv_room (Nat.le_of_ble_eq_true rfl)) dX8_init_44 ⟨Nat.le_of_ble_eq_true rfl, Nat.le_of_ble_eq_true rfl⟩) hS (fun q _ h => hFc q h) hFc (fun u t H1 locs ht hvm hw_18 hB hz1 hk1 hS => ?_)
  obtain ⟨q_19, cA_20⟩ := u
  obtain ⟨hP, hD, hK⟩ := Bq.join (wr := [(h0, .inr (10, [.ref q_1, .ref q_6, .null, .null, .null, .null, .null, .null, .null, .int 0, .int 0, .int 0])), (q_1, .inr (7, [.ref q_4, .int 0])), (q_4, .inl (cA_5, 400, .inl (fun _ => 0))), (q_6, .inl (cA_7, 4, .inr (.inr (.inr (.inr f_14))))), (q_9, .inr (7, [.ref q_12, .int 0]))]) hB ht hvm hP hD [5] [0, 1, 2, 3, 4] rfl rfl (by decide) (by decide) hk1 hFc hK
  generalize H1 = H at hP hS ⊢
  have hP : va_P (dC, dI) vwCl [(h0, .inr (10, [.ref q_1, .ref q_6, .null, .null, .null, .null, .null, .null, .null, .int 0, .int 0, .int 0])), (q_1, .inr (7, [.ref q_4, .int 0])), (q_4, .inl (cA_5, 400, .inl (fun _ => 0))), (q_6, .inl (cA_7, 4, .inr (.inr (.inr (.inr f_14))))), (q_9, .inr (7, [.ref q_12, .int 0])), (q_16, .inr (7, [.ref q_19, .int 0])), (q_19, .inl (cA_20, 120, .inl (fun _ => 0)))] H := hP
  have hD : va_D A [(h0, .inr (10, [.ref q_1, .ref q_6, .null, .null, .null, .null, .null, .null, .null, .int 0, .int 0, .int 0])), (q_1, .inr (7, [.ref q_4, .int 0])), (q_4, .inl (cA_5, 400, .inl (fun _ => 0))), (q_6, .inl (cA_7, 4, .inr (.inr (.inr (.inr f_14))))), (q_9, .inr (7, [.ref q_12, .int 0])), (q_16, .inr (7, [.ref q_19, .int 0])), (q_19, .inl (cA_20, 120, .inl (fun _ => 0)))] := hD
  have hK : va_K (dC, dI) vwCl [(cA_5, .int), (cA_7, .object RX5), (cA_13, .int), (cA_20, .int)] s := hK
  refine W.widen (k := 7) (n := 650) (by omega) (by omega) ?_
  refine va_astq hx hb hK hP hD hS 3 1 5 7 rfl rfl rfl rfl (by unfold vp_in; decide) dX8_init_47 (fun H locs hP hD hS => ?_)
  obtain ⟨f_21, ef_21⟩ : ∃ y : Nat → Option Nat, y = va_up f_14 1 (some q_16) := ⟨_, rfl⟩
  have hP : va_P (dC, dI) vwCl [(h0, .inr (10, [.ref q_1, .ref q_6, .null, .null, .null, .null, .null, .null, .null, .int 0, .int 0, .int 0])), (q_1, .inr (7, [.ref q_4, .int 0])), (q_4, .inl (cA_5, 400, .inl (fun _ => 0))), (q_6, .inl (cA_7, 4, .inr (.inr (.inr (.inr f_21))))), (q_9, .inr (7, [.ref q_12, .int 0])), (q_16, .inr (7, [.ref q_19, .int 0])), (q_19, .inl (cA_20, 120, .inl (fun _ => 0)))] H := by rw [ef_21]; exact hP
  have hD : va_D A [(h0, .inr (10, [.ref q_1, .ref q_6, .null, .null, .null, .null, .null, .null, .null, .int 0, .int 0, .int 0])), (q_1, .inr (7, [.ref q_4, .int 0])), (q_4, .inl (cA_5, 400, .inl (fun _ => 0))), (q_6, .inl (cA_7, 4, .inr (.inr (.inr (.inr f_21))))), (q_9, .inr (7, [.ref q_12, .int 0])), (q_16, .inr (7, [.ref q_19, .int 0])), (q_19, .inl (cA_20, 120, .inl (fun _ => 0)))] := by rw [ef_21]; exact hD
  have hP := hP.sub (ws' := [(h0, .inr (10, [.ref q_1, .ref q_6, .null, .null, .null, .null, .null, .null, .null, .int 0, .int 0, .int 0])), (q_1, .inr (7, [.ref q_4, .int 0])), (q_4, .inl (cA_5, 400, .inl (fun _ => 0))), (q_6, .inl (cA_7, 4, .inr (.inr (.inr (.inr f_21))))), (q_9, .inr (7, [.ref q_12, .int 0])), (q_16, .inr (7, [.ref q_19, .int 0]))]) [0, 1, 2, 3, 4, 5] rfl
  have hD := hD.sub (ws' := [(h0, .inr (10, [.ref q_1, .ref q_6, .null, .null, .null, .null, .null, .null, .null, .int 0, .int 0, .int 0])), (q_1, .inr (7, [.ref q_4, .int 0])), (q_4, .inl (cA_5, 400, .inl (fun _ => 0))), (q_6, .inl (cA_7, 4, .inr (.inr (.inr (.inr f_21))))), (q_9, .inr (7, [.ref q_12, .int 0])), (q_16, .inr (7, [.ref q_19, .int 0]))]) [0, 1, 2, 3, 4, 5] (by decide) rfl
  refine lv_iinc (v := 2) (lv' := [(1, .int 2), (0, .ref h0)]) hx hb dX8_init_48 hl (k := 0) rfl (by decide) (by decide) rfl (fun ls hl => ?_)
  refine lv_goto (tgt := 28) hx hb dX8_init_51 (by decide) ?_
  refine lv_iload_n hx hb dX8_init_28 rfl (lv_at hl 0 rfl) ?_
  refine lv_iconst (v := 4) hx hb dX8_init_29 (by decide) ?_
  refine lv_icmp_ge (tgt := 54) hx hb dX8_init_30 (by decide) (fun c_22 => absurd c_22 (by decide)) (fun c_22 => ?_)
  refine lv_aload_n hx hb dX8_init_33 rfl (lv_at hl 1 rfl) ?_
  refine va_get (D := (dC, dI)) (ci := 10) (v := .ref q_6) (C := RX8) (T := TX8) (N := 12) hx hb hts iRX8 hown hK hP 0 rfl rfl 1 (by decide) (hts (.fieldLink RX8 18 "RecordBench" "records" "[LRecordBench$Row;") (by decide +kernel)) (fun _ h9 => h9) rfl dX8_init_34 ?_
  refine lv_iload_n hx hb dX8_init_37 rfl (lv_at hl 0 rfl) ?_
  refine va_new (ci := 7) (fs := [.null, .int 0]) (C := RX5) (T := TX5) (N := 2) hx hb hts iRX5 tyX5 tyX5_ok hown (hts (.classLink RX8 7 RX5) (by decide +kernel)) (hts (.instantiable RX5 2) (by decide +kernel)) (hts (.initialized RX5) (by decide +kernel)) hK hP hD hS hA rfl fsX5_ok (Nat.le_of_ble_eq_true rfl) (Nat.le_of_ble_eq_true rfl) dX8_init_38 (fun q_23 H hP hD hS => ?_)
  have hP : va_P (dC, dI) vwCl [(h0, .inr (10, [.ref q_1, .ref q_6, .null, .null, .null, .null, .null, .null, .null, .int 0, .int 0, .int 0])), (q_1, .inr (7, [.ref q_4, .int 0])), (q_4, .inl (cA_5, 400, .inl (fun _ => 0))), (q_6, .inl (cA_7, 4, .inr (.inr (.inr (.inr f_21))))), (q_9, .inr (7, [.ref q_12, .int 0])), (q_16, .inr (7, [.ref q_19, .int 0])), (q_23, .inr (7, [.null, .int 0]))] H := hP
  have hD : va_D A [(h0, .inr (10, [.ref q_1, .ref q_6, .null, .null, .null, .null, .null, .null, .null, .int 0, .int 0, .int 0])), (q_1, .inr (7, [.ref q_4, .int 0])), (q_4, .inl (cA_5, 400, .inl (fun _ => 0))), (q_6, .inl (cA_7, 4, .inr (.inr (.inr (.inr f_21))))), (q_9, .inr (7, [.ref q_12, .int 0])), (q_16, .inr (7, [.ref q_19, .int 0])), (q_23, .inr (7, [.null, .int 0]))] := hD
  refine W.widen (k := 8) (n := 652) (by omega) (by omega) ?_
  refine lv_dup hx hb dX8_init_41 rfl ?_
  refine lv_bipush (v := 120) hx hb dX8_init_42 (by decide) ?_
  have hFc := va_free (wc := [(q_23, .inr (7, [.null, .int 0]))]) hD hS hA [6] rfl
  refine va_callv (va_runI (As := [.int 120]) (rest := [.ref q_23, .int 2, .ref q_6]) ⟨hx, hb, hml, hown, hts⟩ (c_X5_init l dC dI q_23 120 120 (by decide) (by decide) (by decide) H.size) (cwI 1 hts gp_X8_init_X5_init_11 rfl rfl rfl (hts (.initialized RX5) (by decide +kernel)) (hts (.methodLink RX8 11 yX5_init) (by decide +kernel)) (hts (.instanceMethod yX5_init) (by decide +kernel)) rfl (by decide +kernel) ⟨Nat.le_of_ble_eq_true rfl, Nat.le_of_ble_eq_true rfl⟩) ⟨Pr.blind _, fun U hU hW => ⟨rfl, Pr.at (hP.sub (ws' := [(q_23, .inr (7, [.null, .int 0]))]) [6] rfl) (hK.sub (tys' := []) [] rfl) (hD.sub (ws' := [(q_23, .inr (7, [.null, .int 0]))]) [6] (by decide) rfl) hN hZ hS hFc hU hW⟩⟩ rfl rfl hl.1 rfl (lv_room (Nat.le_of_ble_eq_true rfl)) dX8_init_44 ⟨Nat.le_of_ble_eq_true rfl, Nat.le_of_ble_eq_true rfl⟩) hS (fun q _ h => hFc q h) hFc (fun u t H1 locs ht hvm hw_25 hB hz1 hk1 hS => ?_)
  obtain ⟨q_26, cA_27⟩ := u
  obtain ⟨hP, hD, hK⟩ := Bq.join (wr := [(h0, .inr (10, [.ref q_1, .ref q_6, .null, .null, .null, .null, .null, .null, .null, .int 0, .int 0, .int 0])), (q_1, .inr (7, [.ref q_4, .int 0])), (q_4, .inl (cA_5, 400, .inl (fun _ => 0))), (q_6, .inl (cA_7, 4, .inr (.inr (.inr (.inr f_21))))), (q_9, .inr (7, [.ref q_12, .int 0])), (q_16, .inr (7, [.ref q_19, .int 0]))]) hB ht hvm hP hD [6] [0, 1, 2, 3, 4, 5] rfl rfl (by decide) (by decide) hk1 hFc hK
  generalize H1 = H at hP hS ⊢
  have hP : va_P (dC, dI) vwCl [(h0, .inr (10, [.ref q_1, .ref q_6, .null, .null, .null, .null, .null, .null, .null, .int 0, .int 0, .int 0])), (q_1, .inr (7, [.ref q_4, .int 0])), (q_4, .inl (cA_5, 400, .inl (fun _ => 0))), (q_6, .inl (cA_7, 4, .inr (.inr (.inr (.inr f_21))))), (q_9, .inr (7, [.ref q_12, .int 0])), (q_16, .inr (7, [.ref q_19, .int 0])), (q_23, .inr (7, [.ref q_26, .int 0])), (q_26, .inl (cA_27, 120, .inl (fun _ => 0)))] H := hP
  have hD : va_D A [(h0, .inr (10, [.ref q_1, .ref q_6, .null, .null, .null, .null, .null, .null, .null, .int 0, .int 0, .int 0])), (q_1, .inr (7, [.ref q_4, .int 0])), (q_4, .inl (cA_5, 400, .inl (fun _ => 0))), (q_6, .inl (cA_7, 4, .inr (.inr (.inr (.inr f_21))))), (q_9, .inr (7, [.ref q_12, .int 0])), (q_16, .inr (7, [.ref q_19, .int 0])), (q_23, .inr (7, [.ref q_26, .int 0])), (q_26, .inl (cA_27, 120, .inl (fun _ => 0)))] := hD
  have hK : va_K (dC, dI) vwCl [(cA_5, .int), (cA_7, .object RX5), (cA_13, .int), (cA_20, .int), (cA_27, .int)] s := hK
  refine W.widen (k := 9) (n := 772) (by omega) (by omega) ?_
  refine va_astq hx hb hK hP hD hS 3 1 6 7 rfl rfl rfl rfl (by unfold vp_in; decide) dX8_init_47 (fun H locs hP hD hS => ?_)
  obtain ⟨f_28, ef_28⟩ : ∃ y : Nat → Option Nat, y = va_up f_21 2 (some q_23) := ⟨_, rfl⟩
  have hP : va_P (dC, dI) vwCl [(h0, .inr (10, [.ref q_1, .ref q_6, .null, .null, .null, .null, .null, .null, .null, .int 0, .int 0, .int 0])), (q_1, .inr (7, [.ref q_4, .int 0])), (q_4, .inl (cA_5, 400, .inl (fun _ => 0))), (q_6, .inl (cA_7, 4, .inr (.inr (.inr (.inr f_28))))), (q_9, .inr (7, [.ref q_12, .int 0])), (q_16, .inr (7, [.ref q_19, .int 0])), (q_23, .inr (7, [.ref q_26, .int 0])), (q_26, .inl (cA_27, 120, .inl (fun _ => 0)))] H := by rw [ef_28]; exact hP
  have hD : va_D A [(h0, .inr (10, [.ref q_1, .ref q_6, .null, .null, .null, .null, .null, .null, .null, .int 0, .int 0, .int 0])), (q_1, .inr (7, [.ref q_4, .int 0])), (q_4, .inl (cA_5, 400, .inl (fun _ => 0))), (q_6, .inl (cA_7, 4, .inr (.inr (.inr (.inr f_28))))), (q_9, .inr (7, [.ref q_12, .int 0])), (q_16, .inr (7, [.ref q_19, .int 0])), (q_23, .inr (7, [.ref q_26, .int 0])), (q_26, .inl (cA_27, 120, .inl (fun _ => 0)))] := by rw [ef_28]; exact hD
  have hP := hP.sub (ws' := [(h0, .inr (10, [.ref q_1, .ref q_6, .null, .null, .null, .null, .null, .null, .null, .int 0, .int 0, .int 0])), (q_1, .inr (7, [.ref q_4, .int 0])), (q_4, .inl (cA_5, 400, .inl (fun _ => 0))), (q_6, .inl (cA_7, 4, .inr (.inr (.inr (.inr f_28))))), (q_9, .inr (7, [.ref q_12, .int 0])), (q_16, .inr (7, [.ref q_19, .int 0])), (q_23, .inr (7, [.ref q_26, .int 0]))]) [0, 1, 2, 3, 4, 5, 6] rfl
  have hD := hD.sub (ws' := [(h0, .inr (10, [.ref q_1, .ref q_6, .null, .null, .null, .null, .null, .null, .null, .int 0, .int 0, .int 0])), (q_1, .inr (7, [.ref q_4, .int 0])), (q_4, .inl (cA_5, 400, .inl (fun _ => 0))), (q_6, .inl (cA_7, 4, .inr (.inr (.inr (.inr f_28))))), (q_9, .inr (7, [.ref q_12, .int 0])), (q_16, .inr (7, [.ref q_19, .int 0])), (q_23, .inr (7, [.ref q_26, .int 0]))]) [0, 1, 2, 3, 4, 5, 6] (by decide) rfl
  refine lv_iinc (v := 3) (lv' := [(1, .int 3), (0, .ref h0)]) hx hb dX8_init_48 hl (k := 0) rfl (by decide) (by decide) rfl (fun ls hl => ?_)
  refine lv_goto (tgt := 28) hx hb dX8_init_51 (by decide) ?_
  refine lv_iload_n hx hb dX8_init_28 rfl (lv_at hl 0 rfl) ?_
  refine lv_iconst (v := 4) hx hb dX8_init_29 (by decide) ?_
  refine lv_icmp_ge (tgt := 54) hx hb dX8_init_30 (by decide) (fun c_29 => absurd c_29 (by decide)) (fun c_29 => ?_)
  refine lv_aload_n hx hb dX8_init_33 rfl (lv_at hl 1 rfl) ?_
  refine va_get (D := (dC, dI)) (ci := 10) (v := .ref q_6) (C := RX8) (T := TX8) (N := 12) hx hb hts iRX8 hown hK hP 0 rfl rfl 1 (by decide) (hts (.fieldLink RX8 18 "RecordBench" "records" "[LRecordBench$Row;") (by decide +kernel)) (fun _ h9 => h9) rfl dX8_init_34 ?_
  refine lv_iload_n hx hb dX8_init_37 rfl (lv_at hl 0 rfl) ?_
  refine va_new (ci := 7) (fs := [.null, .int 0]) (C := RX5) (T := TX5) (N := 2) hx hb hts iRX5 tyX5 tyX5_ok hown (hts (.classLink RX8 7 RX5) (by decide +kernel)) (hts (.instantiable RX5 2) (by decide +kernel)) (hts (.initialized RX5) (by decide +kernel)) hK hP hD hS hA rfl fsX5_ok (Nat.le_of_ble_eq_true rfl) (Nat.le_of_ble_eq_true rfl) dX8_init_38 (fun q_30 H hP hD hS => ?_)
  have hP : va_P (dC, dI) vwCl [(h0, .inr (10, [.ref q_1, .ref q_6, .null, .null, .null, .null, .null, .null, .null, .int 0, .int 0, .int 0])), (q_1, .inr (7, [.ref q_4, .int 0])), (q_4, .inl (cA_5, 400, .inl (fun _ => 0))), (q_6, .inl (cA_7, 4, .inr (.inr (.inr (.inr f_28))))), (q_9, .inr (7, [.ref q_12, .int 0])), (q_16, .inr (7, [.ref q_19, .int 0])), (q_23, .inr (7, [.ref q_26, .int 0])), (q_30, .inr (7, [.null, .int 0]))] H := hP
  have hD : va_D A [(h0, .inr (10, [.ref q_1, .ref q_6, .null, .null, .null, .null, .null, .null, .null, .int 0, .int 0, .int 0])), (q_1, .inr (7, [.ref q_4, .int 0])), (q_4, .inl (cA_5, 400, .inl (fun _ => 0))), (q_6, .inl (cA_7, 4, .inr (.inr (.inr (.inr f_28))))), (q_9, .inr (7, [.ref q_12, .int 0])), (q_16, .inr (7, [.ref q_19, .int 0])), (q_23, .inr (7, [.ref q_26, .int 0])), (q_30, .inr (7, [.null, .int 0]))] := hD
  refine W.widen (k := 10) (n := 774) (by omega) (by omega) ?_
  refine lv_dup hx hb dX8_init_41 rfl ?_
  refine lv_bipush (v := 120) hx hb dX8_init_42 (by decide) ?_
  have hFc := va_free (wc := [(q_30, .inr (7, [.null, .int 0]))]) hD hS hA [7] rfl
  refine va_callv (va_runI (As := [.int 120]) (rest := [.ref q_30, .int 3, .ref q_6]) ⟨hx, hb, hml, hown, hts⟩ (c_X5_init l dC dI q_30 120 120 (by decide) (by decide) (by decide) H.size) (cwI 1 hts gp_X8_init_X5_init_11 rfl rfl rfl (hts (.initialized RX5) (by decide +kernel)) (hts (.methodLink RX8 11 yX5_init) (by decide +kernel)) (hts (.instanceMethod yX5_init) (by decide +kernel)) rfl (by decide +kernel) ⟨Nat.le_of_ble_eq_true rfl, Nat.le_of_ble_eq_true rfl⟩) ⟨Pr.blind _, fun U hU hW => ⟨rfl, Pr.at (hP.sub (ws' := [(q_30, .inr (7, [.null, .int 0]))]) [7] rfl) (hK.sub (tys' := []) [] rfl) (hD.sub (ws' := [(q_30, .inr (7, [.null, .int 0]))]) [7] (by decide) rfl) hN hZ hS hFc hU hW⟩⟩ rfl rfl hl.1 rfl (lv_room (Nat.le_of_ble_eq_true rfl)) dX8_init_44 ⟨Nat.le_of_ble_eq_true rfl, Nat.le_of_ble_eq_true rfl⟩) hS (fun q _ h => hFc q h) hFc (fun u t H1 locs ht hvm hw_32 hB hz1 hk1 hS => ?_)
  obtain ⟨q_33, cA_34⟩ := u
  obtain ⟨hP, hD, hK⟩ := Bq.join (wr := [(h0, .inr (10, [.ref q_1, .ref q_6, .null, .null, .null, .null, .null, .null, .null, .int 0, .int 0, .int 0])), (q_1, .inr (7, [.ref q_4, .int 0])), (q_4, .inl (cA_5, 400, .inl (fun _ => 0))), (q_6, .inl (cA_7, 4, .inr (.inr (.inr (.inr f_28))))), (q_9, .inr (7, [.ref q_12, .int 0])), (q_16, .inr (7, [.ref q_19, .int 0])), (q_23, .inr (7, [.ref q_26, .int 0]))]) hB ht hvm hP hD [7] [0, 1, 2, 3, 4, 5, 6] rfl rfl (by decide) (by decide) hk1 hFc hK
  generalize H1 = H at hP hS ⊢
  have hP : va_P (dC, dI) vwCl [(h0, .inr (10, [.ref q_1, .ref q_6, .null, .null, .null, .null, .null, .null, .null, .int 0, .int 0, .int 0])), (q_1, .inr (7, [.ref q_4, .int 0])), (q_4, .inl (cA_5, 400, .inl (fun _ => 0))), (q_6, .inl (cA_7, 4, .inr (.inr (.inr (.inr f_28))))), (q_9, .inr (7, [.ref q_12, .int 0])), (q_16, .inr (7, [.ref q_19, .int 0])), (q_23, .inr (7, [.ref q_26, .int 0])), (q_30, .inr (7, [.ref q_33, .int 0])), (q_33, .inl (cA_34, 120, .inl (fun _ => 0)))] H := hP
  have hD : va_D A [(h0, .inr (10, [.ref q_1, .ref q_6, .null, .null, .null, .null, .null, .null, .null, .int 0, .int 0, .int 0])), (q_1, .inr (7, [.ref q_4, .int 0])), (q_4, .inl (cA_5, 400, .inl (fun _ => 0))), (q_6, .inl (cA_7, 4, .inr (.inr (.inr (.inr f_28))))), (q_9, .inr (7, [.ref q_12, .int 0])), (q_16, .inr (7, [.ref q_19, .int 0])), (q_23, .inr (7, [.ref q_26, .int 0])), (q_30, .inr (7, [.ref q_33, .int 0])), (q_33, .inl (cA_34, 120, .inl (fun _ => 0)))] := hD
  have hK : va_K (dC, dI) vwCl [(cA_5, .int), (cA_7, .object RX5), (cA_13, .int), (cA_20, .int), (cA_27, .int), (cA_34, .int)] s := hK
  refine W.widen (k := 11) (n := 894) (by omega) (by omega) ?_
  refine va_astq hx hb hK hP hD hS 3 1 7 7 rfl rfl rfl rfl (by unfold vp_in; decide) dX8_init_47 (fun H locs hP hD hS => ?_)
  obtain ⟨f_35, ef_35⟩ : ∃ y : Nat → Option Nat, y = va_up f_28 3 (some q_30) := ⟨_, rfl⟩
  have hP : va_P (dC, dI) vwCl [(h0, .inr (10, [.ref q_1, .ref q_6, .null, .null, .null, .null, .null, .null, .null, .int 0, .int 0, .int 0])), (q_1, .inr (7, [.ref q_4, .int 0])), (q_4, .inl (cA_5, 400, .inl (fun _ => 0))), (q_6, .inl (cA_7, 4, .inr (.inr (.inr (.inr f_35))))), (q_9, .inr (7, [.ref q_12, .int 0])), (q_16, .inr (7, [.ref q_19, .int 0])), (q_23, .inr (7, [.ref q_26, .int 0])), (q_30, .inr (7, [.ref q_33, .int 0])), (q_33, .inl (cA_34, 120, .inl (fun _ => 0)))] H := by rw [ef_35]; exact hP
  have hD : va_D A [(h0, .inr (10, [.ref q_1, .ref q_6, .null, .null, .null, .null, .null, .null, .null, .int 0, .int 0, .int 0])), (q_1, .inr (7, [.ref q_4, .int 0])), (q_4, .inl (cA_5, 400, .inl (fun _ => 0))), (q_6, .inl (cA_7, 4, .inr (.inr (.inr (.inr f_35))))), (q_9, .inr (7, [.ref q_12, .int 0])), (q_16, .inr (7, [.ref q_19, .int 0])), (q_23, .inr (7, [.ref q_26, .int 0])), (q_30, .inr (7, [.ref q_33, .int 0])), (q_33, .inl (cA_34, 120, .inl (fun _ => 0)))] := by rw [ef_35]; exact hD
  have hP := hP.sub (ws' := [(h0, .inr (10, [.ref q_1, .ref q_6, .null, .null, .null, .null, .null, .null, .null, .int 0, .int 0, .int 0])), (q_1, .inr (7, [.ref q_4, .int 0])), (q_4, .inl (cA_5, 400, .inl (fun _ => 0))), (q_6, .inl (cA_7, 4, .inr (.inr (.inr (.inr f_35))))), (q_9, .inr (7, [.ref q_12, .int 0])), (q_16, .inr (7, [.ref q_19, .int 0])), (q_23, .inr (7, [.ref q_26, .int 0])), (q_30, .inr (7, [.ref q_33, .int 0]))]) [0, 1, 2, 3, 4, 5, 6, 7] rfl
  have hD := hD.sub (ws' := [(h0, .inr (10, [.ref q_1, .ref q_6, .null, .null, .null, .null, .null, .null, .null, .int 0, .int 0, .int 0])), (q_1, .inr (7, [.ref q_4, .int 0])), (q_4, .inl (cA_5, 400, .inl (fun _ => 0))), (q_6, .inl (cA_7, 4, .inr (.inr (.inr (.inr f_35))))), (q_9, .inr (7, [.ref q_12, .int 0])), (q_16, .inr (7, [.ref q_19, .int 0])), (q_23, .inr (7, [.ref q_26, .int 0])), (q_30, .inr (7, [.ref q_33, .int 0]))]) [0, 1, 2, 3, 4, 5, 6, 7] (by decide) rfl
  refine lv_iinc (v := 4) (lv' := [(1, .int 4), (0, .ref h0)]) hx hb dX8_init_48 hl (k := 0) rfl (by decide) (by decide) rfl (fun ls hl => ?_)
  refine lv_goto (tgt := 28) hx hb dX8_init_51 (by decide) ?_
  refine lv_iload_n hx hb dX8_init_28 rfl (lv_at hl 0 rfl) ?_
  refine lv_iconst (v := 4) hx hb dX8_init_29 (by decide) ?_
  refine lv_icmp_ge (tgt := 54) hx hb dX8_init_30 (by decide) (fun c_36 => ?_) (fun c_36 => absurd (by decide) c_36)
  refine lv_aload_n hx hb dX8_init_54 rfl (lv_at hl 1 rfl) ?_
  refine lv_bipush (v := 8) hx hb dX8_init_55 (by decide) ?_
  refine va_newq (C := RX1) hx hb hown (hts (.classLink RX8 22 RX1) (by decide +kernel)) hN.2.2.2.2.1 hK hP hD hS hA (n := 8) (N' := 8) (by decide) (by decide) (by decide) (Nat.le_of_ble_eq_true rfl) (Nat.le_of_ble_eq_true rfl) dX8_init_57 (fun q_37 cA_38 H hK hP hD hS => ?_)
  have hP : va_P (dC, dI) vwCl [(h0, .inr (10, [.ref q_1, .ref q_6, .null, .null, .null, .null, .null, .null, .null, .int 0, .int 0, .int 0])), (q_1, .inr (7, [.ref q_4, .int 0])), (q_4, .inl (cA_5, 400, .inl (fun _ => 0))), (q_6, .inl (cA_7, 4, .inr (.inr (.inr (.inr f_35))))), (q_9, .inr (7, [.ref q_12, .int 0])), (q_16, .inr (7, [.ref q_19, .int 0])), (q_23, .inr (7, [.ref q_26, .int 0])), (q_30, .inr (7, [.ref q_33, .int 0])), (q_37, .inl (cA_38, 8, .inr (.inr (.inr (.inr (fun _ => none))))))] H := hP
  have hD : va_D A [(h0, .inr (10, [.ref q_1, .ref q_6, .null, .null, .null, .null, .null, .null, .null, .int 0, .int 0, .int 0])), (q_1, .inr (7, [.ref q_4, .int 0])), (q_4, .inl (cA_5, 400, .inl (fun _ => 0))), (q_6, .inl (cA_7, 4, .inr (.inr (.inr (.inr f_35))))), (q_9, .inr (7, [.ref q_12, .int 0])), (q_16, .inr (7, [.ref q_19, .int 0])), (q_23, .inr (7, [.ref q_26, .int 0])), (q_30, .inr (7, [.ref q_33, .int 0])), (q_37, .inl (cA_38, 8, .inr (.inr (.inr (.inr (fun _ => none))))))] := hD
  have hK : va_K (dC, dI) vwCl [(cA_5, .int), (cA_7, .object RX5), (cA_13, .int), (cA_20, .int), (cA_27, .int), (cA_34, .int), (cA_38, .object RX1)] s := hK
  refine W.widen (k := 12) (n := 902) (by omega) (by omega) ?_
  refine va_putF (D := (dC, dI)) (ci := 10) (v := .ref q_37) (ty := (.array (.object "RecordBench$Make"))) (C := RX8) (T := TX8) (N := 12) hx hb hts iRX8 tyX8 tyX8_ok nmX8 hown hK hP hD hS 0 rfl rfl 2 (by decide) (hts (.fieldLink RX8 24 "RecordBench" "makes" "[LRecordBench$Make;") (by decide +kernel)) (fun _ h9 => h9) rfl hin rfl (by decide +kernel) rfl rfl (Nat.le_of_ble_eq_true rfl) dX8_init_60 (fun H locs hP hD hS => ?_)
  have hP : va_P (dC, dI) vwCl [(h0, .inr (10, [.ref q_1, .ref q_6, .ref q_37, .null, .null, .null, .null, .null, .null, .int 0, .int 0, .int 0])), (q_1, .inr (7, [.ref q_4, .int 0])), (q_4, .inl (cA_5, 400, .inl (fun _ => 0))), (q_6, .inl (cA_7, 4, .inr (.inr (.inr (.inr f_35))))), (q_9, .inr (7, [.ref q_12, .int 0])), (q_16, .inr (7, [.ref q_19, .int 0])), (q_23, .inr (7, [.ref q_26, .int 0])), (q_30, .inr (7, [.ref q_33, .int 0])), (q_37, .inl (cA_38, 8, .inr (.inr (.inr (.inr (fun _ => none))))))] H := hP
  have hD : va_D A [(h0, .inr (10, [.ref q_1, .ref q_6, .ref q_37, .null, .null, .null, .null, .null, .null, .int 0, .int 0, .int 0])), (q_1, .inr (7, [.ref q_4, .int 0])), (q_4, .inl (cA_5, 400, .inl (fun _ => 0))), (q_6, .inl (cA_7, 4, .inr (.inr (.inr (.inr f_35))))), (q_9, .inr (7, [.ref q_12, .int 0])), (q_16, .inr (7, [.ref q_19, .int 0])), (q_23, .inr (7, [.ref q_26, .int 0])), (q_30, .inr (7, [.ref q_33, .int 0])), (q_37, .inl (cA_38, 8, .inr (.inr (.inr (.inr (fun _ => none))))))] := hD
  refine lv_aload_n hx hb dX8_init_63 rfl (lv_at hl 1 rfl) ?_
  refine va_new (ci := 8) (fs := [.null, .null, .null, .int 0, .int 0, .int 0]) (C := RX6) (T := TX6) (N := 6) hx hb hts iRX6 tyX6 tyX6_ok hown (hts (.classLink RX8 28 RX6) (by decide +kernel)) (hts (.instantiable RX6 6) (by decide +kernel)) (hts (.initialized RX6) (by decide +kernel)) hK hP hD hS hA rfl fsX6_ok (Nat.le_of_ble_eq_true rfl) (Nat.le_of_ble_eq_true rfl) dX8_init_64 (fun q_39 H hP hD hS => ?_)
  have hP : va_P (dC, dI) vwCl [(h0, .inr (10, [.ref q_1, .ref q_6, .ref q_37, .null, .null, .null, .null, .null, .null, .int 0, .int 0, .int 0])), (q_1, .inr (7, [.ref q_4, .int 0])), (q_4, .inl (cA_5, 400, .inl (fun _ => 0))), (q_6, .inl (cA_7, 4, .inr (.inr (.inr (.inr f_35))))), (q_9, .inr (7, [.ref q_12, .int 0])), (q_16, .inr (7, [.ref q_19, .int 0])), (q_23, .inr (7, [.ref q_26, .int 0])), (q_30, .inr (7, [.ref q_33, .int 0])), (q_37, .inl (cA_38, 8, .inr (.inr (.inr (.inr (fun _ => none)))))), (q_39, .inr (8, [.null, .null, .null, .int 0, .int 0, .int 0]))] H := hP
  have hD : va_D A [(h0, .inr (10, [.ref q_1, .ref q_6, .ref q_37, .null, .null, .null, .null, .null, .null, .int 0, .int 0, .int 0])), (q_1, .inr (7, [.ref q_4, .int 0])), (q_4, .inl (cA_5, 400, .inl (fun _ => 0))), (q_6, .inl (cA_7, 4, .inr (.inr (.inr (.inr f_35))))), (q_9, .inr (7, [.ref q_12, .int 0])), (q_16, .inr (7, [.ref q_19, .int 0])), (q_23, .inr (7, [.ref q_26, .int 0])), (q_30, .inr (7, [.ref q_33, .int 0])), (q_37, .inl (cA_38, 8, .inr (.inr (.inr (.inr (fun _ => none)))))), (q_39, .inr (8, [.null, .null, .null, .int 0, .int 0, .int 0]))] := hD
  refine W.widen (k := 13) (n := 908) (by omega) (by omega) ?_
  refine lv_dup hx hb dX8_init_67 rfl ?_
  refine lv_aload_n hx hb dX8_init_68 rfl (lv_at hl 1 rfl) ?_
  refine va_get (D := (dC, dI)) (ci := 10) (v := .ref q_1) (C := RX8) (T := TX8) (N := 12) hx hb hts iRX8 hown hK hP 0 rfl rfl 0 (by decide) (hts (.fieldLink RX8 14 "RecordBench" "tape" "LRecordBench$Row;") (by decide +kernel)) (fun _ h9 => h9) rfl dX8_init_69 ?_
  refine lv_aload_n hx hb dX8_init_72 rfl (lv_at hl 1 rfl) ?_
  refine va_get (D := (dC, dI)) (ci := 10) (v := .ref q_37) (C := RX8) (T := TX8) (N := 12) hx hb hts iRX8 hown hK hP 0 rfl rfl 2 (by decide) (hts (.fieldLink RX8 24 "RecordBench" "makes" "[LRecordBench$Make;") (by decide +kernel)) (fun _ h9 => h9) rfl dX8_init_73 ?_
  have hFc := va_free (wc := [(q_39, .inr (8, [.null, .null, .null, .int 0, .int 0, .int 0]))]) hD hS hA [9] rfl
  refine va_callv (va_runI (As := [.ref q_1, .ref q_37]) (rest := [.ref q_39, .ref h0]) ⟨hx, hb, hml, hown, hts⟩ (c_X6_init l dC dI q_39 q_1 q_37 H.size) (cwI 2 hts gp_X8_init_X6_init_30 rfl rfl rfl (hts (.initialized RX6) (by decide +kernel)) (hts (.methodLink RX8 30 yX6_init) (by decide +kernel)) (hts (.instanceMethod yX6_init) (by decide +kernel)) rfl (by decide +kernel) ⟨Nat.le_of_ble_eq_true rfl, Nat.le_of_ble_eq_true rfl⟩) ⟨Pr.blind _, fun U hU hW => ⟨rfl, Pr.at (hP.sub (ws' := [(q_39, .inr (8, [.null, .null, .null, .int 0, .int 0, .int 0]))]) [9] rfl) (hK.sub (tys' := []) [] rfl) (hD.sub (ws' := [(q_39, .inr (8, [.null, .null, .null, .int 0, .int 0, .int 0]))]) [9] (by decide) rfl) hN hZ hS hFc hU hW⟩⟩ rfl rfl hl.1 rfl (lv_room (Nat.le_of_ble_eq_true rfl)) dX8_init_76 ⟨Nat.le_of_ble_eq_true rfl, Nat.le_of_ble_eq_true rfl⟩) hS (fun q _ h => hFc q h) hFc (fun u t H1 locs ht hvm hw_41 hB hz1 hk1 hS => ?_)
  obtain ⟨sb_42, rfl⟩ : ∃ z, z = u := ⟨_, rfl⟩
  obtain ⟨hP, hD, hK⟩ := Bq.join (wr := [(h0, .inr (10, [.ref q_1, .ref q_6, .ref q_37, .null, .null, .null, .null, .null, .null, .int 0, .int 0, .int 0])), (q_1, .inr (7, [.ref q_4, .int 0])), (q_4, .inl (cA_5, 400, .inl (fun _ => 0))), (q_6, .inl (cA_7, 4, .inr (.inr (.inr (.inr f_35))))), (q_9, .inr (7, [.ref q_12, .int 0])), (q_16, .inr (7, [.ref q_19, .int 0])), (q_23, .inr (7, [.ref q_26, .int 0])), (q_30, .inr (7, [.ref q_33, .int 0])), (q_37, .inl (cA_38, 8, .inr (.inr (.inr (.inr (fun _ => none))))))]) hB ht hvm hP hD [9] [0, 1, 2, 3, 4, 5, 6, 7, 8] rfl rfl (by decide) (by decide) hk1 hFc hK
  generalize H1 = H at hP hS ⊢
  have hP : va_P (dC, dI) vwCl [(h0, .inr (10, [.ref q_1, .ref q_6, .ref q_37, .null, .null, .null, .null, .null, .null, .int 0, .int 0, .int 0])), (q_1, .inr (7, [.ref q_4, .int 0])), (q_4, .inl (cA_5, 400, .inl (fun _ => 0))), (q_6, .inl (cA_7, 4, .inr (.inr (.inr (.inr f_35))))), (q_9, .inr (7, [.ref q_12, .int 0])), (q_16, .inr (7, [.ref q_19, .int 0])), (q_23, .inr (7, [.ref q_26, .int 0])), (q_30, .inr (7, [.ref q_33, .int 0])), (q_37, .inl (cA_38, 8, .inr (.inr (.inr (.inr (fun _ => none)))))), (q_39, .inr (8, [.ref q_1, .ref q_37, .ref sb_42, .int 0, .int 0, .int (-1)]))] H := hP
  have hD : va_D A [(h0, .inr (10, [.ref q_1, .ref q_6, .ref q_37, .null, .null, .null, .null, .null, .null, .int 0, .int 0, .int 0])), (q_1, .inr (7, [.ref q_4, .int 0])), (q_4, .inl (cA_5, 400, .inl (fun _ => 0))), (q_6, .inl (cA_7, 4, .inr (.inr (.inr (.inr f_35))))), (q_9, .inr (7, [.ref q_12, .int 0])), (q_16, .inr (7, [.ref q_19, .int 0])), (q_23, .inr (7, [.ref q_26, .int 0])), (q_30, .inr (7, [.ref q_33, .int 0])), (q_37, .inl (cA_38, 8, .inr (.inr (.inr (.inr (fun _ => none)))))), (q_39, .inr (8, [.ref q_1, .ref q_37, .ref sb_42, .int 0, .int 0, .int (-1)]))] := hD
  have hK : va_K (dC, dI) vwCl [(cA_5, .int), (cA_7, .object RX5), (cA_13, .int), (cA_20, .int), (cA_27, .int), (cA_34, .int), (cA_38, .object RX1)] s := hK
  refine W.widen (k := 15) (n := 928) (by omega) (by omega) ?_
  refine va_putF (D := (dC, dI)) (ci := 10) (v := .ref q_39) (ty := (.object "RecordBench$TextReader")) (C := RX8) (T := TX8) (N := 12) hx hb hts iRX8 tyX8 tyX8_ok nmX8 hown hK hP hD hS 0 rfl rfl 3 (by decide) (hts (.fieldLink RX8 33 "RecordBench" "texts" "LRecordBench$TextReader;") (by decide +kernel)) (fun _ h9 => h9) rfl hin rfl (by decide +kernel) rfl rfl (Nat.le_of_ble_eq_true rfl) dX8_init_79 (fun H locs hP hD hS => ?_)
  have hP : va_P (dC, dI) vwCl [(h0, .inr (10, [.ref q_1, .ref q_6, .ref q_37, .ref q_39, .null, .null, .null, .null, .null, .int 0, .int 0, .int 0])), (q_1, .inr (7, [.ref q_4, .int 0])), (q_4, .inl (cA_5, 400, .inl (fun _ => 0))), (q_6, .inl (cA_7, 4, .inr (.inr (.inr (.inr f_35))))), (q_9, .inr (7, [.ref q_12, .int 0])), (q_16, .inr (7, [.ref q_19, .int 0])), (q_23, .inr (7, [.ref q_26, .int 0])), (q_30, .inr (7, [.ref q_33, .int 0])), (q_37, .inl (cA_38, 8, .inr (.inr (.inr (.inr (fun _ => none)))))), (q_39, .inr (8, [.ref q_1, .ref q_37, .ref sb_42, .int 0, .int 0, .int (-1)]))] H := hP
  have hD : va_D A [(h0, .inr (10, [.ref q_1, .ref q_6, .ref q_37, .ref q_39, .null, .null, .null, .null, .null, .int 0, .int 0, .int 0])), (q_1, .inr (7, [.ref q_4, .int 0])), (q_4, .inl (cA_5, 400, .inl (fun _ => 0))), (q_6, .inl (cA_7, 4, .inr (.inr (.inr (.inr f_35))))), (q_9, .inr (7, [.ref q_12, .int 0])), (q_16, .inr (7, [.ref q_19, .int 0])), (q_23, .inr (7, [.ref q_26, .int 0])), (q_30, .inr (7, [.ref q_33, .int 0])), (q_37, .inl (cA_38, 8, .inr (.inr (.inr (.inr (fun _ => none)))))), (q_39, .inr (8, [.ref q_1, .ref q_37, .ref sb_42, .int 0, .int 0, .int (-1)]))] := hD
  refine lv_aload_n hx hb dX8_init_82 rfl (lv_at hl 1 rfl) ?_
  refine va_new (ci := 5) (fs := [.null, .null, .int 0, .int 0]) (C := RX3) (T := TX3) (N := 4) hx hb hts iRX3 tyX3 tyX3_ok hown (hts (.classLink RX8 37 RX3) (by decide +kernel)) (hts (.instantiable RX3 4) (by decide +kernel)) (hts (.initialized RX3) (by decide +kernel)) hK hP hD hS hA rfl fsX3_ok (Nat.le_of_ble_eq_true rfl) (Nat.le_of_ble_eq_true rfl) dX8_init_83 (fun q_43 H hP hD hS => ?_)
  have hP : va_P (dC, dI) vwCl [(h0, .inr (10, [.ref q_1, .ref q_6, .ref q_37, .ref q_39, .null, .null, .null, .null, .null, .int 0, .int 0, .int 0])), (q_1, .inr (7, [.ref q_4, .int 0])), (q_4, .inl (cA_5, 400, .inl (fun _ => 0))), (q_6, .inl (cA_7, 4, .inr (.inr (.inr (.inr f_35))))), (q_9, .inr (7, [.ref q_12, .int 0])), (q_16, .inr (7, [.ref q_19, .int 0])), (q_23, .inr (7, [.ref q_26, .int 0])), (q_30, .inr (7, [.ref q_33, .int 0])), (q_37, .inl (cA_38, 8, .inr (.inr (.inr (.inr (fun _ => none)))))), (q_39, .inr (8, [.ref q_1, .ref q_37, .ref sb_42, .int 0, .int 0, .int (-1)])), (q_43, .inr (5, [.null, .null, .int 0, .int 0]))] H := hP
  have hD : va_D A [(h0, .inr (10, [.ref q_1, .ref q_6, .ref q_37, .ref q_39, .null, .null, .null, .null, .null, .int 0, .int 0, .int 0])), (q_1, .inr (7, [.ref q_4, .int 0])), (q_4, .inl (cA_5, 400, .inl (fun _ => 0))), (q_6, .inl (cA_7, 4, .inr (.inr (.inr (.inr f_35))))), (q_9, .inr (7, [.ref q_12, .int 0])), (q_16, .inr (7, [.ref q_19, .int 0])), (q_23, .inr (7, [.ref q_26, .int 0])), (q_30, .inr (7, [.ref q_33, .int 0])), (q_37, .inl (cA_38, 8, .inr (.inr (.inr (.inr (fun _ => none)))))), (q_39, .inr (8, [.ref q_1, .ref q_37, .ref sb_42, .int 0, .int 0, .int (-1)])), (q_43, .inr (5, [.null, .null, .int 0, .int 0]))] := hD
  refine W.widen (k := 16) (n := 932) (by omega) (by omega) ?_
  refine lv_dup hx hb dX8_init_86 rfl ?_
  refine lv_aload_n hx hb dX8_init_87 rfl (lv_at hl 1 rfl) ?_
  refine va_get (D := (dC, dI)) (ci := 10) (v := .ref q_37) (C := RX8) (T := TX8) (N := 12) hx hb hts iRX8 hown hK hP 0 rfl rfl 2 (by decide) (hts (.fieldLink RX8 24 "RecordBench" "makes" "[LRecordBench$Make;") (by decide +kernel)) (fun _ h9 => h9) rfl dX8_init_88 ?_
  have hFc := va_free (wc := [(q_43, .inr (5, [.null, .null, .int 0, .int 0]))]) hD hS hA [10] rfl
  refine va_callv (va_runI (As := [.ref q_37]) (rest := [.ref q_43, .ref h0]) ⟨hx, hb, hml, hown, hts⟩ (c_X3_init l dC dI q_43 q_37 H.size) (cwI 1 hts gp_X8_init_X3_init_39 rfl rfl rfl (hts (.initialized RX3) (by decide +kernel)) (hts (.methodLink RX8 39 yX3_init) (by decide +kernel)) (hts (.instanceMethod yX3_init) (by decide +kernel)) rfl (by decide +kernel) ⟨Nat.le_of_ble_eq_true rfl, Nat.le_of_ble_eq_true rfl⟩) ⟨Pr.blind _, fun U hU hW => ⟨rfl, Pr.at (hP.sub (ws' := [(q_43, .inr (5, [.null, .null, .int 0, .int 0]))]) [10] rfl) (hK.sub (tys' := []) [] rfl) (hD.sub (ws' := [(q_43, .inr (5, [.null, .null, .int 0, .int 0]))]) [10] (by decide) rfl) hN hZ hS hFc hU hW⟩⟩ rfl rfl hl.1 rfl (lv_room (Nat.le_of_ble_eq_true rfl)) dX8_init_91 ⟨Nat.le_of_ble_eq_true rfl, Nat.le_of_ble_eq_true rfl⟩) hS (fun q _ h => hFc q h) hFc (fun u t H1 locs ht hvm hw_45 hB hz1 hk1 hS => ?_)
  obtain ⟨hP, hD, hK⟩ := Bq.join (wr := [(h0, .inr (10, [.ref q_1, .ref q_6, .ref q_37, .ref q_39, .null, .null, .null, .null, .null, .int 0, .int 0, .int 0])), (q_1, .inr (7, [.ref q_4, .int 0])), (q_4, .inl (cA_5, 400, .inl (fun _ => 0))), (q_6, .inl (cA_7, 4, .inr (.inr (.inr (.inr f_35))))), (q_9, .inr (7, [.ref q_12, .int 0])), (q_16, .inr (7, [.ref q_19, .int 0])), (q_23, .inr (7, [.ref q_26, .int 0])), (q_30, .inr (7, [.ref q_33, .int 0])), (q_37, .inl (cA_38, 8, .inr (.inr (.inr (.inr (fun _ => none)))))), (q_39, .inr (8, [.ref q_1, .ref q_37, .ref sb_42, .int 0, .int 0, .int (-1)]))]) hB ht hvm hP hD [10] [0, 1, 2, 3, 4, 5, 6, 7, 8, 9] rfl rfl (by decide) (by decide) hk1 hFc hK
  generalize H1 = H at hP hS ⊢
  have hP : va_P (dC, dI) vwCl [(h0, .inr (10, [.ref q_1, .ref q_6, .ref q_37, .ref q_39, .null, .null, .null, .null, .null, .int 0, .int 0, .int 0])), (q_1, .inr (7, [.ref q_4, .int 0])), (q_4, .inl (cA_5, 400, .inl (fun _ => 0))), (q_6, .inl (cA_7, 4, .inr (.inr (.inr (.inr f_35))))), (q_9, .inr (7, [.ref q_12, .int 0])), (q_16, .inr (7, [.ref q_19, .int 0])), (q_23, .inr (7, [.ref q_26, .int 0])), (q_30, .inr (7, [.ref q_33, .int 0])), (q_37, .inl (cA_38, 8, .inr (.inr (.inr (.inr (fun _ => none)))))), (q_39, .inr (8, [.ref q_1, .ref q_37, .ref sb_42, .int 0, .int 0, .int (-1)]))] H := hP
  have hD : va_D A [(h0, .inr (10, [.ref q_1, .ref q_6, .ref q_37, .ref q_39, .null, .null, .null, .null, .null, .int 0, .int 0, .int 0])), (q_1, .inr (7, [.ref q_4, .int 0])), (q_4, .inl (cA_5, 400, .inl (fun _ => 0))), (q_6, .inl (cA_7, 4, .inr (.inr (.inr (.inr f_35))))), (q_9, .inr (7, [.ref q_12, .int 0])), (q_16, .inr (7, [.ref q_19, .int 0])), (q_23, .inr (7, [.ref q_26, .int 0])), (q_30, .inr (7, [.ref q_33, .int 0])), (q_37, .inl (cA_38, 8, .inr (.inr (.inr (.inr (fun _ => none)))))), (q_39, .inr (8, [.ref q_1, .ref q_37, .ref sb_42, .int 0, .int 0, .int (-1)]))] := hD
  have hK : va_K (dC, dI) vwCl [(cA_5, .int), (cA_7, .object RX5), (cA_13, .int), (cA_20, .int), (cA_27, .int), (cA_34, .int), (cA_38, .object RX1)] s := hK
  refine W.widen (k := 25) (n := 1004) (by omega) (by omega) ?_
  refine va_putF (D := (dC, dI)) (ci := 10) (v := .ref q_43) (ty := (.object "RecordBench$RecordReader")) (C := RX8) (T := TX8) (N := 12) hx hb hts iRX8 tyX8 tyX8_ok nmX8 hown hK hP hD hS 0 rfl rfl 4 (by decide) (hts (.fieldLink RX8 42 "RecordBench" "reader" "LRecordBench$RecordReader;") (by decide +kernel)) (fun _ h9 => h9) rfl hin rfl (by decide +kernel) rfl rfl (Nat.le_of_ble_eq_true rfl) dX8_init_94 (fun H locs hP hD hS => ?_)
  have hP : va_P (dC, dI) vwCl [(h0, .inr (10, [.ref q_1, .ref q_6, .ref q_37, .ref q_39, .ref q_43, .null, .null, .null, .null, .int 0, .int 0, .int 0])), (q_1, .inr (7, [.ref q_4, .int 0])), (q_4, .inl (cA_5, 400, .inl (fun _ => 0))), (q_6, .inl (cA_7, 4, .inr (.inr (.inr (.inr f_35))))), (q_9, .inr (7, [.ref q_12, .int 0])), (q_16, .inr (7, [.ref q_19, .int 0])), (q_23, .inr (7, [.ref q_26, .int 0])), (q_30, .inr (7, [.ref q_33, .int 0])), (q_37, .inl (cA_38, 8, .inr (.inr (.inr (.inr (fun _ => none)))))), (q_39, .inr (8, [.ref q_1, .ref q_37, .ref sb_42, .int 0, .int 0, .int (-1)]))] H := hP
  have hD : va_D A [(h0, .inr (10, [.ref q_1, .ref q_6, .ref q_37, .ref q_39, .ref q_43, .null, .null, .null, .null, .int 0, .int 0, .int 0])), (q_1, .inr (7, [.ref q_4, .int 0])), (q_4, .inl (cA_5, 400, .inl (fun _ => 0))), (q_6, .inl (cA_7, 4, .inr (.inr (.inr (.inr f_35))))), (q_9, .inr (7, [.ref q_12, .int 0])), (q_16, .inr (7, [.ref q_19, .int 0])), (q_23, .inr (7, [.ref q_26, .int 0])), (q_30, .inr (7, [.ref q_33, .int 0])), (q_37, .inl (cA_38, 8, .inr (.inr (.inr (.inr (fun _ => none)))))), (q_39, .inr (8, [.ref q_1, .ref q_37, .ref sb_42, .int 0, .int 0, .int (-1)]))] := hD
  refine lv_aload_n hx hb dX8_init_97 rfl (lv_at hl 1 rfl) ?_
  refine va_new (ci := 6) (fs := [.null, .null, .null]) (C := RX4) (T := TX4) (N := 3) hx hb hts iRX4 tyX4 tyX4_ok hown (hts (.classLink RX8 46 RX4) (by decide +kernel)) (hts (.instantiable RX4 3) (by decide +kernel)) (hts (.initialized RX4) (by decide +kernel)) hK hP hD hS hA rfl fsX4_ok (Nat.le_of_ble_eq_true rfl) (Nat.le_of_ble_eq_true rfl) dX8_init_98 (fun q_46 H hP hD hS => ?_)
  have hP : va_P (dC, dI) vwCl [(h0, .inr (10, [.ref q_1, .ref q_6, .ref q_37, .ref q_39, .ref q_43, .null, .null, .null, .null, .int 0, .int 0, .int 0])), (q_1, .inr (7, [.ref q_4, .int 0])), (q_4, .inl (cA_5, 400, .inl (fun _ => 0))), (q_6, .inl (cA_7, 4, .inr (.inr (.inr (.inr f_35))))), (q_9, .inr (7, [.ref q_12, .int 0])), (q_16, .inr (7, [.ref q_19, .int 0])), (q_23, .inr (7, [.ref q_26, .int 0])), (q_30, .inr (7, [.ref q_33, .int 0])), (q_37, .inl (cA_38, 8, .inr (.inr (.inr (.inr (fun _ => none)))))), (q_39, .inr (8, [.ref q_1, .ref q_37, .ref sb_42, .int 0, .int 0, .int (-1)])), (q_46, .inr (6, [.null, .null, .null]))] H := hP
  have hD : va_D A [(h0, .inr (10, [.ref q_1, .ref q_6, .ref q_37, .ref q_39, .ref q_43, .null, .null, .null, .null, .int 0, .int 0, .int 0])), (q_1, .inr (7, [.ref q_4, .int 0])), (q_4, .inl (cA_5, 400, .inl (fun _ => 0))), (q_6, .inl (cA_7, 4, .inr (.inr (.inr (.inr f_35))))), (q_9, .inr (7, [.ref q_12, .int 0])), (q_16, .inr (7, [.ref q_19, .int 0])), (q_23, .inr (7, [.ref q_26, .int 0])), (q_30, .inr (7, [.ref q_33, .int 0])), (q_37, .inl (cA_38, 8, .inr (.inr (.inr (.inr (fun _ => none)))))), (q_39, .inr (8, [.ref q_1, .ref q_37, .ref sb_42, .int 0, .int 0, .int (-1)])), (q_46, .inr (6, [.null, .null, .null]))] := hD
  refine W.widen (k := 26) (n := 1007) (by omega) (by omega) ?_
  refine lv_dup hx hb dX8_init_101 rfl ?_
  refine lv_aload_n hx hb dX8_init_102 rfl (lv_at hl 1 rfl) ?_
  refine va_get (D := (dC, dI)) (ci := 10) (v := .ref q_37) (C := RX8) (T := TX8) (N := 12) hx hb hts iRX8 hown hK hP 0 rfl rfl 2 (by decide) (hts (.fieldLink RX8 24 "RecordBench" "makes" "[LRecordBench$Make;") (by decide +kernel)) (fun _ h9 => h9) rfl dX8_init_103 ?_
  have hFc := va_free (wc := [(q_46, .inr (6, [.null, .null, .null]))]) hD hS hA [10] rfl
  refine va_callv (va_runI (As := [.ref q_37]) (rest := [.ref q_46, .ref h0]) ⟨hx, hb, hml, hown, hts⟩ (c_X4_init l dC dI q_46 q_37 H.size) (cwI 1 hts gp_X8_init_X4_init_48 rfl rfl rfl (hts (.initialized RX4) (by decide +kernel)) (hts (.methodLink RX8 48 yX4_init) (by decide +kernel)) (hts (.instanceMethod yX4_init) (by decide +kernel)) rfl (by decide +kernel) ⟨Nat.le_of_ble_eq_true rfl, Nat.le_of_ble_eq_true rfl⟩) ⟨Pr.blind _, fun U hU hW => ⟨rfl, Pr.at (hP.sub (ws' := [(q_46, .inr (6, [.null, .null, .null]))]) [10] rfl) (hK.sub (tys' := []) [] rfl) (hD.sub (ws' := [(q_46, .inr (6, [.null, .null, .null]))]) [10] (by decide) rfl) hN hZ hS hFc hU hW⟩⟩ rfl rfl hl.1 rfl (lv_room (Nat.le_of_ble_eq_true rfl)) dX8_init_106 ⟨Nat.le_of_ble_eq_true rfl, Nat.le_of_ble_eq_true rfl⟩) hS (fun q _ h => hFc q h) hFc (fun u t H1 locs ht hvm hw_48 hB hz1 hk1 hS => ?_)
  obtain ⟨hP, hD, hK⟩ := Bq.join (wr := [(h0, .inr (10, [.ref q_1, .ref q_6, .ref q_37, .ref q_39, .ref q_43, .null, .null, .null, .null, .int 0, .int 0, .int 0])), (q_1, .inr (7, [.ref q_4, .int 0])), (q_4, .inl (cA_5, 400, .inl (fun _ => 0))), (q_6, .inl (cA_7, 4, .inr (.inr (.inr (.inr f_35))))), (q_9, .inr (7, [.ref q_12, .int 0])), (q_16, .inr (7, [.ref q_19, .int 0])), (q_23, .inr (7, [.ref q_26, .int 0])), (q_30, .inr (7, [.ref q_33, .int 0])), (q_37, .inl (cA_38, 8, .inr (.inr (.inr (.inr (fun _ => none)))))), (q_39, .inr (8, [.ref q_1, .ref q_37, .ref sb_42, .int 0, .int 0, .int (-1)]))]) hB ht hvm hP hD [10] [0, 1, 2, 3, 4, 5, 6, 7, 8, 9] rfl rfl (by decide) (by decide) hk1 hFc hK
  generalize H1 = H at hP hS ⊢
  have hP : va_P (dC, dI) vwCl [(h0, .inr (10, [.ref q_1, .ref q_6, .ref q_37, .ref q_39, .ref q_43, .null, .null, .null, .null, .int 0, .int 0, .int 0])), (q_1, .inr (7, [.ref q_4, .int 0])), (q_4, .inl (cA_5, 400, .inl (fun _ => 0))), (q_6, .inl (cA_7, 4, .inr (.inr (.inr (.inr f_35))))), (q_9, .inr (7, [.ref q_12, .int 0])), (q_16, .inr (7, [.ref q_19, .int 0])), (q_23, .inr (7, [.ref q_26, .int 0])), (q_30, .inr (7, [.ref q_33, .int 0])), (q_37, .inl (cA_38, 8, .inr (.inr (.inr (.inr (fun _ => none)))))), (q_39, .inr (8, [.ref q_1, .ref q_37, .ref sb_42, .int 0, .int 0, .int (-1)]))] H := hP
  have hD : va_D A [(h0, .inr (10, [.ref q_1, .ref q_6, .ref q_37, .ref q_39, .ref q_43, .null, .null, .null, .null, .int 0, .int 0, .int 0])), (q_1, .inr (7, [.ref q_4, .int 0])), (q_4, .inl (cA_5, 400, .inl (fun _ => 0))), (q_6, .inl (cA_7, 4, .inr (.inr (.inr (.inr f_35))))), (q_9, .inr (7, [.ref q_12, .int 0])), (q_16, .inr (7, [.ref q_19, .int 0])), (q_23, .inr (7, [.ref q_26, .int 0])), (q_30, .inr (7, [.ref q_33, .int 0])), (q_37, .inl (cA_38, 8, .inr (.inr (.inr (.inr (fun _ => none)))))), (q_39, .inr (8, [.ref q_1, .ref q_37, .ref sb_42, .int 0, .int 0, .int (-1)]))] := hD
  have hK : va_K (dC, dI) vwCl [(cA_5, .int), (cA_7, .object RX5), (cA_13, .int), (cA_20, .int), (cA_27, .int), (cA_34, .int), (cA_38, .object RX1)] s := hK
  refine W.widen (k := 37) (n := 1081) (by omega) (by omega) ?_
  refine va_putF (D := (dC, dI)) (ci := 10) (v := .ref q_46) (ty := (.object "RecordBench$RecordWriter")) (C := RX8) (T := TX8) (N := 12) hx hb hts iRX8 tyX8 tyX8_ok nmX8 hown hK hP hD hS 0 rfl rfl 5 (by decide) (hts (.fieldLink RX8 49 "RecordBench" "writer" "LRecordBench$RecordWriter;") (by decide +kernel)) (fun _ h9 => h9) rfl hin rfl (by decide +kernel) rfl rfl (Nat.le_of_ble_eq_true rfl) dX8_init_109 (fun H locs hP hD hS => ?_)
  have hP : va_P (dC, dI) vwCl [(h0, .inr (10, [.ref q_1, .ref q_6, .ref q_37, .ref q_39, .ref q_43, .ref q_46, .null, .null, .null, .int 0, .int 0, .int 0])), (q_1, .inr (7, [.ref q_4, .int 0])), (q_4, .inl (cA_5, 400, .inl (fun _ => 0))), (q_6, .inl (cA_7, 4, .inr (.inr (.inr (.inr f_35))))), (q_9, .inr (7, [.ref q_12, .int 0])), (q_16, .inr (7, [.ref q_19, .int 0])), (q_23, .inr (7, [.ref q_26, .int 0])), (q_30, .inr (7, [.ref q_33, .int 0])), (q_37, .inl (cA_38, 8, .inr (.inr (.inr (.inr (fun _ => none)))))), (q_39, .inr (8, [.ref q_1, .ref q_37, .ref sb_42, .int 0, .int 0, .int (-1)]))] H := hP
  have hD : va_D A [(h0, .inr (10, [.ref q_1, .ref q_6, .ref q_37, .ref q_39, .ref q_43, .ref q_46, .null, .null, .null, .int 0, .int 0, .int 0])), (q_1, .inr (7, [.ref q_4, .int 0])), (q_4, .inl (cA_5, 400, .inl (fun _ => 0))), (q_6, .inl (cA_7, 4, .inr (.inr (.inr (.inr f_35))))), (q_9, .inr (7, [.ref q_12, .int 0])), (q_16, .inr (7, [.ref q_19, .int 0])), (q_23, .inr (7, [.ref q_26, .int 0])), (q_30, .inr (7, [.ref q_33, .int 0])), (q_37, .inl (cA_38, 8, .inr (.inr (.inr (.inr (fun _ => none)))))), (q_39, .inr (8, [.ref q_1, .ref q_37, .ref sb_42, .int 0, .int 0, .int (-1)]))] := hD
  refine lv_aload_n hx hb dX8_init_112 rfl (lv_at hl 1 rfl) ?_
  refine va_new (ci := 9) (fs := [.null, .null]) (C := RX7) (T := TX7) (N := 2) hx hb hts iRX7 tyX7 tyX7_ok hown (hts (.classLink RX8 53 RX7) (by decide +kernel)) (hts (.instantiable RX7 2) (by decide +kernel)) (hts (.initialized RX7) (by decide +kernel)) hK hP hD hS hA rfl fsX7_ok (Nat.le_of_ble_eq_true rfl) (Nat.le_of_ble_eq_true rfl) dX8_init_113 (fun q_49 H hP hD hS => ?_)
  have hP : va_P (dC, dI) vwCl [(h0, .inr (10, [.ref q_1, .ref q_6, .ref q_37, .ref q_39, .ref q_43, .ref q_46, .null, .null, .null, .int 0, .int 0, .int 0])), (q_1, .inr (7, [.ref q_4, .int 0])), (q_4, .inl (cA_5, 400, .inl (fun _ => 0))), (q_6, .inl (cA_7, 4, .inr (.inr (.inr (.inr f_35))))), (q_9, .inr (7, [.ref q_12, .int 0])), (q_16, .inr (7, [.ref q_19, .int 0])), (q_23, .inr (7, [.ref q_26, .int 0])), (q_30, .inr (7, [.ref q_33, .int 0])), (q_37, .inl (cA_38, 8, .inr (.inr (.inr (.inr (fun _ => none)))))), (q_39, .inr (8, [.ref q_1, .ref q_37, .ref sb_42, .int 0, .int 0, .int (-1)])), (q_49, .inr (9, [.null, .null]))] H := hP
  have hD : va_D A [(h0, .inr (10, [.ref q_1, .ref q_6, .ref q_37, .ref q_39, .ref q_43, .ref q_46, .null, .null, .null, .int 0, .int 0, .int 0])), (q_1, .inr (7, [.ref q_4, .int 0])), (q_4, .inl (cA_5, 400, .inl (fun _ => 0))), (q_6, .inl (cA_7, 4, .inr (.inr (.inr (.inr f_35))))), (q_9, .inr (7, [.ref q_12, .int 0])), (q_16, .inr (7, [.ref q_19, .int 0])), (q_23, .inr (7, [.ref q_26, .int 0])), (q_30, .inr (7, [.ref q_33, .int 0])), (q_37, .inl (cA_38, 8, .inr (.inr (.inr (.inr (fun _ => none)))))), (q_39, .inr (8, [.ref q_1, .ref q_37, .ref sb_42, .int 0, .int 0, .int (-1)])), (q_49, .inr (9, [.null, .null]))] := hD
  refine W.widen (k := 38) (n := 1083) (by omega) (by omega) ?_
  refine lv_dup hx hb dX8_init_116 rfl ?_
  refine lv_aload_n hx hb dX8_init_117 rfl (lv_at hl 1 rfl) ?_
  refine va_get (D := (dC, dI)) (ci := 10) (v := .ref q_37) (C := RX8) (T := TX8) (N := 12) hx hb hts iRX8 hown hK hP 0 rfl rfl 2 (by decide) (hts (.fieldLink RX8 24 "RecordBench" "makes" "[LRecordBench$Make;") (by decide +kernel)) (fun _ h9 => h9) rfl dX8_init_118 ?_
  have hFc := va_free (wc := [(q_49, .inr (9, [.null, .null]))]) hD hS hA [10] rfl
  refine va_callv (va_runI (As := [.ref q_37]) (rest := [.ref q_49, .ref h0]) ⟨hx, hb, hml, hown, hts⟩ (c_X7_init l dC dI q_49 q_37 H.size) (cwI 1 hts gp_X8_init_X7_init_55 rfl rfl rfl (hts (.initialized RX7) (by decide +kernel)) (hts (.methodLink RX8 55 yX7_init) (by decide +kernel)) (hts (.instanceMethod yX7_init) (by decide +kernel)) rfl (by decide +kernel) ⟨Nat.le_of_ble_eq_true rfl, Nat.le_of_ble_eq_true rfl⟩) ⟨Pr.blind _, fun U hU hW => ⟨rfl, Pr.at (hP.sub (ws' := [(q_49, .inr (9, [.null, .null]))]) [10] rfl) (hK.sub (tys' := []) [] rfl) (hD.sub (ws' := [(q_49, .inr (9, [.null, .null]))]) [10] (by decide) rfl) hN hZ hS hFc hU hW⟩⟩ rfl rfl hl.1 rfl (lv_room (Nat.le_of_ble_eq_true rfl)) dX8_init_121 ⟨Nat.le_of_ble_eq_true rfl, Nat.le_of_ble_eq_true rfl⟩) hS (fun q _ h => hFc q h) hFc (fun u t H1 locs ht hvm hw_51 hB hz1 hk1 hS => ?_)
  obtain ⟨hP, hD, hK⟩ := Bq.join (wr := [(h0, .inr (10, [.ref q_1, .ref q_6, .ref q_37, .ref q_39, .ref q_43, .ref q_46, .null, .null, .null, .int 0, .int 0, .int 0])), (q_1, .inr (7, [.ref q_4, .int 0])), (q_4, .inl (cA_5, 400, .inl (fun _ => 0))), (q_6, .inl (cA_7, 4, .inr (.inr (.inr (.inr f_35))))), (q_9, .inr (7, [.ref q_12, .int 0])), (q_16, .inr (7, [.ref q_19, .int 0])), (q_23, .inr (7, [.ref q_26, .int 0])), (q_30, .inr (7, [.ref q_33, .int 0])), (q_37, .inl (cA_38, 8, .inr (.inr (.inr (.inr (fun _ => none)))))), (q_39, .inr (8, [.ref q_1, .ref q_37, .ref sb_42, .int 0, .int 0, .int (-1)]))]) hB ht hvm hP hD [10] [0, 1, 2, 3, 4, 5, 6, 7, 8, 9] rfl rfl (by decide) (by decide) hk1 hFc hK
  generalize H1 = H at hP hS ⊢
  have hP : va_P (dC, dI) vwCl [(h0, .inr (10, [.ref q_1, .ref q_6, .ref q_37, .ref q_39, .ref q_43, .ref q_46, .null, .null, .null, .int 0, .int 0, .int 0])), (q_1, .inr (7, [.ref q_4, .int 0])), (q_4, .inl (cA_5, 400, .inl (fun _ => 0))), (q_6, .inl (cA_7, 4, .inr (.inr (.inr (.inr f_35))))), (q_9, .inr (7, [.ref q_12, .int 0])), (q_16, .inr (7, [.ref q_19, .int 0])), (q_23, .inr (7, [.ref q_26, .int 0])), (q_30, .inr (7, [.ref q_33, .int 0])), (q_37, .inl (cA_38, 8, .inr (.inr (.inr (.inr (fun _ => none)))))), (q_39, .inr (8, [.ref q_1, .ref q_37, .ref sb_42, .int 0, .int 0, .int (-1)]))] H := hP
  have hD : va_D A [(h0, .inr (10, [.ref q_1, .ref q_6, .ref q_37, .ref q_39, .ref q_43, .ref q_46, .null, .null, .null, .int 0, .int 0, .int 0])), (q_1, .inr (7, [.ref q_4, .int 0])), (q_4, .inl (cA_5, 400, .inl (fun _ => 0))), (q_6, .inl (cA_7, 4, .inr (.inr (.inr (.inr f_35))))), (q_9, .inr (7, [.ref q_12, .int 0])), (q_16, .inr (7, [.ref q_19, .int 0])), (q_23, .inr (7, [.ref q_26, .int 0])), (q_30, .inr (7, [.ref q_33, .int 0])), (q_37, .inl (cA_38, 8, .inr (.inr (.inr (.inr (fun _ => none)))))), (q_39, .inr (8, [.ref q_1, .ref q_37, .ref sb_42, .int 0, .int 0, .int (-1)]))] := hD
  have hK : va_K (dC, dI) vwCl [(cA_5, .int), (cA_7, .object RX5), (cA_13, .int), (cA_20, .int), (cA_27, .int), (cA_34, .int), (cA_38, .object RX1)] s := hK
  refine W.widen (k := 39) (n := 2107) (by omega) (by omega) ?_
  refine va_putF (D := (dC, dI)) (ci := 10) (v := .ref q_49) (ty := (.object "RecordBench$Walks")) (C := RX8) (T := TX8) (N := 12) hx hb hts iRX8 tyX8 tyX8_ok nmX8 hown hK hP hD hS 0 rfl rfl 6 (by decide) (hts (.fieldLink RX8 56 "RecordBench" "walks" "LRecordBench$Walks;") (by decide +kernel)) (fun _ h9 => h9) rfl hin rfl (by decide +kernel) rfl rfl (Nat.le_of_ble_eq_true rfl) dX8_init_124 (fun H locs hP hD hS => ?_)
  have hP : va_P (dC, dI) vwCl [(h0, .inr (10, [.ref q_1, .ref q_6, .ref q_37, .ref q_39, .ref q_43, .ref q_46, .ref q_49, .null, .null, .int 0, .int 0, .int 0])), (q_1, .inr (7, [.ref q_4, .int 0])), (q_4, .inl (cA_5, 400, .inl (fun _ => 0))), (q_6, .inl (cA_7, 4, .inr (.inr (.inr (.inr f_35))))), (q_9, .inr (7, [.ref q_12, .int 0])), (q_16, .inr (7, [.ref q_19, .int 0])), (q_23, .inr (7, [.ref q_26, .int 0])), (q_30, .inr (7, [.ref q_33, .int 0])), (q_37, .inl (cA_38, 8, .inr (.inr (.inr (.inr (fun _ => none)))))), (q_39, .inr (8, [.ref q_1, .ref q_37, .ref sb_42, .int 0, .int 0, .int (-1)]))] H := hP
  have hD : va_D A [(h0, .inr (10, [.ref q_1, .ref q_6, .ref q_37, .ref q_39, .ref q_43, .ref q_46, .ref q_49, .null, .null, .int 0, .int 0, .int 0])), (q_1, .inr (7, [.ref q_4, .int 0])), (q_4, .inl (cA_5, 400, .inl (fun _ => 0))), (q_6, .inl (cA_7, 4, .inr (.inr (.inr (.inr f_35))))), (q_9, .inr (7, [.ref q_12, .int 0])), (q_16, .inr (7, [.ref q_19, .int 0])), (q_23, .inr (7, [.ref q_26, .int 0])), (q_30, .inr (7, [.ref q_33, .int 0])), (q_37, .inl (cA_38, 8, .inr (.inr (.inr (.inr (fun _ => none)))))), (q_39, .inr (8, [.ref q_1, .ref q_37, .ref sb_42, .int 0, .int 0, .int (-1)]))] := hD
  refine lv_aload_n hx hb dX8_init_127 rfl (lv_at hl 1 rfl) ?_
  refine va_new (ci := 7) (fs := [.null, .int 0]) (C := RX5) (T := TX5) (N := 2) hx hb hts iRX5 tyX5 tyX5_ok hown (hts (.classLink RX8 7 RX5) (by decide +kernel)) (hts (.instantiable RX5 2) (by decide +kernel)) (hts (.initialized RX5) (by decide +kernel)) hK hP hD hS hA rfl fsX5_ok (Nat.le_of_ble_eq_true rfl) (Nat.le_of_ble_eq_true rfl) dX8_init_128 (fun q_52 H hP hD hS => ?_)
  have hP : va_P (dC, dI) vwCl [(h0, .inr (10, [.ref q_1, .ref q_6, .ref q_37, .ref q_39, .ref q_43, .ref q_46, .ref q_49, .null, .null, .int 0, .int 0, .int 0])), (q_1, .inr (7, [.ref q_4, .int 0])), (q_4, .inl (cA_5, 400, .inl (fun _ => 0))), (q_6, .inl (cA_7, 4, .inr (.inr (.inr (.inr f_35))))), (q_9, .inr (7, [.ref q_12, .int 0])), (q_16, .inr (7, [.ref q_19, .int 0])), (q_23, .inr (7, [.ref q_26, .int 0])), (q_30, .inr (7, [.ref q_33, .int 0])), (q_37, .inl (cA_38, 8, .inr (.inr (.inr (.inr (fun _ => none)))))), (q_39, .inr (8, [.ref q_1, .ref q_37, .ref sb_42, .int 0, .int 0, .int (-1)])), (q_52, .inr (7, [.null, .int 0]))] H := hP
  have hD : va_D A [(h0, .inr (10, [.ref q_1, .ref q_6, .ref q_37, .ref q_39, .ref q_43, .ref q_46, .ref q_49, .null, .null, .int 0, .int 0, .int 0])), (q_1, .inr (7, [.ref q_4, .int 0])), (q_4, .inl (cA_5, 400, .inl (fun _ => 0))), (q_6, .inl (cA_7, 4, .inr (.inr (.inr (.inr f_35))))), (q_9, .inr (7, [.ref q_12, .int 0])), (q_16, .inr (7, [.ref q_19, .int 0])), (q_23, .inr (7, [.ref q_26, .int 0])), (q_30, .inr (7, [.ref q_33, .int 0])), (q_37, .inl (cA_38, 8, .inr (.inr (.inr (.inr (fun _ => none)))))), (q_39, .inr (8, [.ref q_1, .ref q_37, .ref sb_42, .int 0, .int 0, .int (-1)])), (q_52, .inr (7, [.null, .int 0]))] := hD
  refine W.widen (k := 40) (n := 2109) (by omega) (by omega) ?_
  refine lv_dup hx hb dX8_init_131 rfl ?_
  refine lv_sipush (v := 256) hx hb dX8_init_132 (by decide) ?_
  have hFc := va_free (wc := [(q_52, .inr (7, [.null, .int 0]))]) hD hS hA [10] rfl
  refine va_callv (va_runI (As := [.int 256]) (rest := [.ref q_52, .ref h0]) ⟨hx, hb, hml, hown, hts⟩ (c_X5_init l dC dI q_52 256 256 (by decide) (by decide) (by decide) H.size) (cwI 1 hts gp_X8_init_X5_init_11 rfl rfl rfl (hts (.initialized RX5) (by decide +kernel)) (hts (.methodLink RX8 11 yX5_init) (by decide +kernel)) (hts (.instanceMethod yX5_init) (by decide +kernel)) rfl (by decide +kernel) ⟨Nat.le_of_ble_eq_true rfl, Nat.le_of_ble_eq_true rfl⟩) ⟨Pr.blind _, fun U hU hW => ⟨rfl, Pr.at (hP.sub (ws' := [(q_52, .inr (7, [.null, .int 0]))]) [10] rfl) (hK.sub (tys' := []) [] rfl) (hD.sub (ws' := [(q_52, .inr (7, [.null, .int 0]))]) [10] (by decide) rfl) hN hZ hS hFc hU hW⟩⟩ rfl rfl hl.1 rfl (lv_room (Nat.le_of_ble_eq_true rfl)) dX8_init_135 ⟨Nat.le_of_ble_eq_true rfl, Nat.le_of_ble_eq_true rfl⟩) hS (fun q _ h => hFc q h) hFc (fun u t H1 locs ht hvm hw_54 hB hz1 hk1 hS => ?_)
  obtain ⟨q_55, cA_56⟩ := u
  obtain ⟨hP, hD, hK⟩ := Bq.join (wr := [(h0, .inr (10, [.ref q_1, .ref q_6, .ref q_37, .ref q_39, .ref q_43, .ref q_46, .ref q_49, .null, .null, .int 0, .int 0, .int 0])), (q_1, .inr (7, [.ref q_4, .int 0])), (q_4, .inl (cA_5, 400, .inl (fun _ => 0))), (q_6, .inl (cA_7, 4, .inr (.inr (.inr (.inr f_35))))), (q_9, .inr (7, [.ref q_12, .int 0])), (q_16, .inr (7, [.ref q_19, .int 0])), (q_23, .inr (7, [.ref q_26, .int 0])), (q_30, .inr (7, [.ref q_33, .int 0])), (q_37, .inl (cA_38, 8, .inr (.inr (.inr (.inr (fun _ => none)))))), (q_39, .inr (8, [.ref q_1, .ref q_37, .ref sb_42, .int 0, .int 0, .int (-1)]))]) hB ht hvm hP hD [10] [0, 1, 2, 3, 4, 5, 6, 7, 8, 9] rfl rfl (by decide) (by decide) hk1 hFc hK
  generalize H1 = H at hP hS ⊢
  have hP : va_P (dC, dI) vwCl [(h0, .inr (10, [.ref q_1, .ref q_6, .ref q_37, .ref q_39, .ref q_43, .ref q_46, .ref q_49, .null, .null, .int 0, .int 0, .int 0])), (q_1, .inr (7, [.ref q_4, .int 0])), (q_4, .inl (cA_5, 400, .inl (fun _ => 0))), (q_6, .inl (cA_7, 4, .inr (.inr (.inr (.inr f_35))))), (q_9, .inr (7, [.ref q_12, .int 0])), (q_16, .inr (7, [.ref q_19, .int 0])), (q_23, .inr (7, [.ref q_26, .int 0])), (q_30, .inr (7, [.ref q_33, .int 0])), (q_37, .inl (cA_38, 8, .inr (.inr (.inr (.inr (fun _ => none)))))), (q_39, .inr (8, [.ref q_1, .ref q_37, .ref sb_42, .int 0, .int 0, .int (-1)])), (q_52, .inr (7, [.ref q_55, .int 0])), (q_55, .inl (cA_56, 256, .inl (fun _ => 0)))] H := hP
  have hD : va_D A [(h0, .inr (10, [.ref q_1, .ref q_6, .ref q_37, .ref q_39, .ref q_43, .ref q_46, .ref q_49, .null, .null, .int 0, .int 0, .int 0])), (q_1, .inr (7, [.ref q_4, .int 0])), (q_4, .inl (cA_5, 400, .inl (fun _ => 0))), (q_6, .inl (cA_7, 4, .inr (.inr (.inr (.inr f_35))))), (q_9, .inr (7, [.ref q_12, .int 0])), (q_16, .inr (7, [.ref q_19, .int 0])), (q_23, .inr (7, [.ref q_26, .int 0])), (q_30, .inr (7, [.ref q_33, .int 0])), (q_37, .inl (cA_38, 8, .inr (.inr (.inr (.inr (fun _ => none)))))), (q_39, .inr (8, [.ref q_1, .ref q_37, .ref sb_42, .int 0, .int 0, .int (-1)])), (q_52, .inr (7, [.ref q_55, .int 0])), (q_55, .inl (cA_56, 256, .inl (fun _ => 0)))] := hD
  have hK : va_K (dC, dI) vwCl [(cA_5, .int), (cA_7, .object RX5), (cA_13, .int), (cA_20, .int), (cA_27, .int), (cA_34, .int), (cA_38, .object RX1), (cA_56, .int)] s := hK
  refine W.widen (k := 41) (n := 2365) (by omega) (by omega) ?_
  refine va_putF (D := (dC, dI)) (ci := 10) (v := .ref q_52) (ty := (.object "RecordBench$Row")) (C := RX8) (T := TX8) (N := 12) hx hb hts iRX8 tyX8 tyX8_ok nmX8 hown hK hP hD hS 0 rfl rfl 7 (by decide) (hts (.fieldLink RX8 60 "RecordBench" "fresh" "LRecordBench$Row;") (by decide +kernel)) (fun _ h9 => h9) rfl hin rfl (by decide +kernel) rfl rfl (Nat.le_of_ble_eq_true rfl) dX8_init_138 (fun H locs hP hD hS => ?_)
  have hP : va_P (dC, dI) vwCl [(h0, .inr (10, [.ref q_1, .ref q_6, .ref q_37, .ref q_39, .ref q_43, .ref q_46, .ref q_49, .ref q_52, .null, .int 0, .int 0, .int 0])), (q_1, .inr (7, [.ref q_4, .int 0])), (q_4, .inl (cA_5, 400, .inl (fun _ => 0))), (q_6, .inl (cA_7, 4, .inr (.inr (.inr (.inr f_35))))), (q_9, .inr (7, [.ref q_12, .int 0])), (q_16, .inr (7, [.ref q_19, .int 0])), (q_23, .inr (7, [.ref q_26, .int 0])), (q_30, .inr (7, [.ref q_33, .int 0])), (q_37, .inl (cA_38, 8, .inr (.inr (.inr (.inr (fun _ => none)))))), (q_39, .inr (8, [.ref q_1, .ref q_37, .ref sb_42, .int 0, .int 0, .int (-1)])), (q_52, .inr (7, [.ref q_55, .int 0])), (q_55, .inl (cA_56, 256, .inl (fun _ => 0)))] H := hP
  have hD : va_D A [(h0, .inr (10, [.ref q_1, .ref q_6, .ref q_37, .ref q_39, .ref q_43, .ref q_46, .ref q_49, .ref q_52, .null, .int 0, .int 0, .int 0])), (q_1, .inr (7, [.ref q_4, .int 0])), (q_4, .inl (cA_5, 400, .inl (fun _ => 0))), (q_6, .inl (cA_7, 4, .inr (.inr (.inr (.inr f_35))))), (q_9, .inr (7, [.ref q_12, .int 0])), (q_16, .inr (7, [.ref q_19, .int 0])), (q_23, .inr (7, [.ref q_26, .int 0])), (q_30, .inr (7, [.ref q_33, .int 0])), (q_37, .inl (cA_38, 8, .inr (.inr (.inr (.inr (fun _ => none)))))), (q_39, .inr (8, [.ref q_1, .ref q_37, .ref sb_42, .int 0, .int 0, .int (-1)])), (q_52, .inr (7, [.ref q_55, .int 0])), (q_55, .inl (cA_56, 256, .inl (fun _ => 0)))] := hD
  refine lv_aload_n hx hb dX8_init_141 rfl (lv_at hl 1 rfl) ?_
  refine va_new (ci := 7) (fs := [.null, .int 0]) (C := RX5) (T := TX5) (N := 2) hx hb hts iRX5 tyX5 tyX5_ok hown (hts (.classLink RX8 7 RX5) (by decide +kernel)) (hts (.instantiable RX5 2) (by decide +kernel)) (hts (.initialized RX5) (by decide +kernel)) hK hP hD hS hA rfl fsX5_ok (Nat.le_of_ble_eq_true rfl) (Nat.le_of_ble_eq_true rfl) dX8_init_142 (fun q_57 H hP hD hS => ?_)
  have hP : va_P (dC, dI) vwCl [(h0, .inr (10, [.ref q_1, .ref q_6, .ref q_37, .ref q_39, .ref q_43, .ref q_46, .ref q_49, .ref q_52, .null, .int 0, .int 0, .int 0])), (q_1, .inr (7, [.ref q_4, .int 0])), (q_4, .inl (cA_5, 400, .inl (fun _ => 0))), (q_6, .inl (cA_7, 4, .inr (.inr (.inr (.inr f_35))))), (q_9, .inr (7, [.ref q_12, .int 0])), (q_16, .inr (7, [.ref q_19, .int 0])), (q_23, .inr (7, [.ref q_26, .int 0])), (q_30, .inr (7, [.ref q_33, .int 0])), (q_37, .inl (cA_38, 8, .inr (.inr (.inr (.inr (fun _ => none)))))), (q_39, .inr (8, [.ref q_1, .ref q_37, .ref sb_42, .int 0, .int 0, .int (-1)])), (q_52, .inr (7, [.ref q_55, .int 0])), (q_55, .inl (cA_56, 256, .inl (fun _ => 0))), (q_57, .inr (7, [.null, .int 0]))] H := hP
  have hD : va_D A [(h0, .inr (10, [.ref q_1, .ref q_6, .ref q_37, .ref q_39, .ref q_43, .ref q_46, .ref q_49, .ref q_52, .null, .int 0, .int 0, .int 0])), (q_1, .inr (7, [.ref q_4, .int 0])), (q_4, .inl (cA_5, 400, .inl (fun _ => 0))), (q_6, .inl (cA_7, 4, .inr (.inr (.inr (.inr f_35))))), (q_9, .inr (7, [.ref q_12, .int 0])), (q_16, .inr (7, [.ref q_19, .int 0])), (q_23, .inr (7, [.ref q_26, .int 0])), (q_30, .inr (7, [.ref q_33, .int 0])), (q_37, .inl (cA_38, 8, .inr (.inr (.inr (.inr (fun _ => none)))))), (q_39, .inr (8, [.ref q_1, .ref q_37, .ref sb_42, .int 0, .int 0, .int (-1)])), (q_52, .inr (7, [.ref q_55, .int 0])), (q_55, .inl (cA_56, 256, .inl (fun _ => 0))), (q_57, .inr (7, [.null, .int 0]))] := hD
  refine W.widen (k := 42) (n := 2367) (by omega) (by omega) ?_
  refine lv_dup hx hb dX8_init_145 rfl ?_
  refine lv_sipush (v := 256) hx hb dX8_init_146 (by decide) ?_
  have hFc := va_free (wc := [(q_57, .inr (7, [.null, .int 0]))]) hD hS hA [12] rfl
  refine va_callv (va_runI (As := [.int 256]) (rest := [.ref q_57, .ref h0]) ⟨hx, hb, hml, hown, hts⟩ (c_X5_init l dC dI q_57 256 256 (by decide) (by decide) (by decide) H.size) (cwI 1 hts gp_X8_init_X5_init_11 rfl rfl rfl (hts (.initialized RX5) (by decide +kernel)) (hts (.methodLink RX8 11 yX5_init) (by decide +kernel)) (hts (.instanceMethod yX5_init) (by decide +kernel)) rfl (by decide +kernel) ⟨Nat.le_of_ble_eq_true rfl, Nat.le_of_ble_eq_true rfl⟩) ⟨Pr.blind _, fun U hU hW => ⟨rfl, Pr.at (hP.sub (ws' := [(q_57, .inr (7, [.null, .int 0]))]) [12] rfl) (hK.sub (tys' := []) [] rfl) (hD.sub (ws' := [(q_57, .inr (7, [.null, .int 0]))]) [12] (by decide) rfl) hN hZ hS hFc hU hW⟩⟩ rfl rfl hl.1 rfl (lv_room (Nat.le_of_ble_eq_true rfl)) dX8_init_149 ⟨Nat.le_of_ble_eq_true rfl, Nat.le_of_ble_eq_true rfl⟩) hS (fun q _ h => hFc q h) hFc (fun u t H1 locs ht hvm hw_59 hB hz1 hk1 hS => ?_)
  obtain ⟨q_60, cA_61⟩ := u
  obtain ⟨hP, hD, hK⟩ := Bq.join (wr := [(h0, .inr (10, [.ref q_1, .ref q_6, .ref q_37, .ref q_39, .ref q_43, .ref q_46, .ref q_49, .ref q_52, .null, .int 0, .int 0, .int 0])), (q_1, .inr (7, [.ref q_4, .int 0])), (q_4, .inl (cA_5, 400, .inl (fun _ => 0))), (q_6, .inl (cA_7, 4, .inr (.inr (.inr (.inr f_35))))), (q_9, .inr (7, [.ref q_12, .int 0])), (q_16, .inr (7, [.ref q_19, .int 0])), (q_23, .inr (7, [.ref q_26, .int 0])), (q_30, .inr (7, [.ref q_33, .int 0])), (q_37, .inl (cA_38, 8, .inr (.inr (.inr (.inr (fun _ => none)))))), (q_39, .inr (8, [.ref q_1, .ref q_37, .ref sb_42, .int 0, .int 0, .int (-1)])), (q_52, .inr (7, [.ref q_55, .int 0])), (q_55, .inl (cA_56, 256, .inl (fun _ => 0)))]) hB ht hvm hP hD [12] [0, 1, 2, 3, 4, 5, 6, 7, 8, 9, 10, 11] rfl rfl (by decide) (by decide) hk1 hFc hK
  generalize H1 = H at hP hS ⊢
  have hP : va_P (dC, dI) vwCl [(h0, .inr (10, [.ref q_1, .ref q_6, .ref q_37, .ref q_39, .ref q_43, .ref q_46, .ref q_49, .ref q_52, .null, .int 0, .int 0, .int 0])), (q_1, .inr (7, [.ref q_4, .int 0])), (q_4, .inl (cA_5, 400, .inl (fun _ => 0))), (q_6, .inl (cA_7, 4, .inr (.inr (.inr (.inr f_35))))), (q_9, .inr (7, [.ref q_12, .int 0])), (q_16, .inr (7, [.ref q_19, .int 0])), (q_23, .inr (7, [.ref q_26, .int 0])), (q_30, .inr (7, [.ref q_33, .int 0])), (q_37, .inl (cA_38, 8, .inr (.inr (.inr (.inr (fun _ => none)))))), (q_39, .inr (8, [.ref q_1, .ref q_37, .ref sb_42, .int 0, .int 0, .int (-1)])), (q_52, .inr (7, [.ref q_55, .int 0])), (q_55, .inl (cA_56, 256, .inl (fun _ => 0))), (q_57, .inr (7, [.ref q_60, .int 0])), (q_60, .inl (cA_61, 256, .inl (fun _ => 0)))] H := hP
  have hD : va_D A [(h0, .inr (10, [.ref q_1, .ref q_6, .ref q_37, .ref q_39, .ref q_43, .ref q_46, .ref q_49, .ref q_52, .null, .int 0, .int 0, .int 0])), (q_1, .inr (7, [.ref q_4, .int 0])), (q_4, .inl (cA_5, 400, .inl (fun _ => 0))), (q_6, .inl (cA_7, 4, .inr (.inr (.inr (.inr f_35))))), (q_9, .inr (7, [.ref q_12, .int 0])), (q_16, .inr (7, [.ref q_19, .int 0])), (q_23, .inr (7, [.ref q_26, .int 0])), (q_30, .inr (7, [.ref q_33, .int 0])), (q_37, .inl (cA_38, 8, .inr (.inr (.inr (.inr (fun _ => none)))))), (q_39, .inr (8, [.ref q_1, .ref q_37, .ref sb_42, .int 0, .int 0, .int (-1)])), (q_52, .inr (7, [.ref q_55, .int 0])), (q_55, .inl (cA_56, 256, .inl (fun _ => 0))), (q_57, .inr (7, [.ref q_60, .int 0])), (q_60, .inl (cA_61, 256, .inl (fun _ => 0)))] := hD
  have hK : va_K (dC, dI) vwCl [(cA_5, .int), (cA_7, .object RX5), (cA_13, .int), (cA_20, .int), (cA_27, .int), (cA_34, .int), (cA_38, .object RX1), (cA_56, .int), (cA_61, .int)] s := hK
  refine W.widen (k := 43) (n := 2623) (by omega) (by omega) ?_
  refine va_putF (D := (dC, dI)) (ci := 10) (v := .ref q_57) (ty := (.object "RecordBench$Row")) (C := RX8) (T := TX8) (N := 12) hx hb hts iRX8 tyX8 tyX8_ok nmX8 hown hK hP hD hS 0 rfl rfl 8 (by decide) (hts (.fieldLink RX8 63 "RecordBench" "work" "LRecordBench$Row;") (by decide +kernel)) (fun _ h9 => h9) rfl hin rfl (by decide +kernel) rfl rfl (Nat.le_of_ble_eq_true rfl) dX8_init_152 (fun H locs hP hD hS => ?_)
  have hP : va_P (dC, dI) vwCl [(h0, .inr (10, [.ref q_1, .ref q_6, .ref q_37, .ref q_39, .ref q_43, .ref q_46, .ref q_49, .ref q_52, .ref q_57, .int 0, .int 0, .int 0])), (q_1, .inr (7, [.ref q_4, .int 0])), (q_4, .inl (cA_5, 400, .inl (fun _ => 0))), (q_6, .inl (cA_7, 4, .inr (.inr (.inr (.inr f_35))))), (q_9, .inr (7, [.ref q_12, .int 0])), (q_16, .inr (7, [.ref q_19, .int 0])), (q_23, .inr (7, [.ref q_26, .int 0])), (q_30, .inr (7, [.ref q_33, .int 0])), (q_37, .inl (cA_38, 8, .inr (.inr (.inr (.inr (fun _ => none)))))), (q_39, .inr (8, [.ref q_1, .ref q_37, .ref sb_42, .int 0, .int 0, .int (-1)])), (q_52, .inr (7, [.ref q_55, .int 0])), (q_55, .inl (cA_56, 256, .inl (fun _ => 0))), (q_57, .inr (7, [.ref q_60, .int 0])), (q_60, .inl (cA_61, 256, .inl (fun _ => 0)))] H := hP
  have hD : va_D A [(h0, .inr (10, [.ref q_1, .ref q_6, .ref q_37, .ref q_39, .ref q_43, .ref q_46, .ref q_49, .ref q_52, .ref q_57, .int 0, .int 0, .int 0])), (q_1, .inr (7, [.ref q_4, .int 0])), (q_4, .inl (cA_5, 400, .inl (fun _ => 0))), (q_6, .inl (cA_7, 4, .inr (.inr (.inr (.inr f_35))))), (q_9, .inr (7, [.ref q_12, .int 0])), (q_16, .inr (7, [.ref q_19, .int 0])), (q_23, .inr (7, [.ref q_26, .int 0])), (q_30, .inr (7, [.ref q_33, .int 0])), (q_37, .inl (cA_38, 8, .inr (.inr (.inr (.inr (fun _ => none)))))), (q_39, .inr (8, [.ref q_1, .ref q_37, .ref sb_42, .int 0, .int 0, .int (-1)])), (q_52, .inr (7, [.ref q_55, .int 0])), (q_55, .inl (cA_56, 256, .inl (fun _ => 0))), (q_57, .inr (7, [.ref q_60, .int 0])), (q_60, .inl (cA_61, 256, .inl (fun _ => 0)))] := hD
  refine lv_aload_n hx hb dX8_init_155 rfl (lv_at hl 1 rfl) ?_
  refine lv_iconst (v := 0) hx hb dX8_init_156 (by decide) ?_
  refine va_put (D := (dC, dI)) (ci := 10) (v := .int 0) (ty := .int) (C := RX8) (T := TX8) (N := 12) hx hb hts iRX8 tyX8 tyX8_ok nmX8 hown hK hP hD hS 0 rfl rfl 9 (by decide) (hts (.fieldLink RX8 66 "RecordBench" "latestFault" "I") (by decide +kernel)) (fun _ h9 => h9) rfl (by decide +kernel) rfl rfl (Nat.le_of_ble_eq_true rfl) dX8_init_157 (fun H locs hP hD hS => ?_)
  have hP : va_P (dC, dI) vwCl [(h0, .inr (10, [.ref q_1, .ref q_6, .ref q_37, .ref q_39, .ref q_43, .ref q_46, .ref q_49, .ref q_52, .ref q_57, .int 0, .int 0, .int 0])), (q_1, .inr (7, [.ref q_4, .int 0])), (q_4, .inl (cA_5, 400, .inl (fun _ => 0))), (q_6, .inl (cA_7, 4, .inr (.inr (.inr (.inr f_35))))), (q_9, .inr (7, [.ref q_12, .int 0])), (q_16, .inr (7, [.ref q_19, .int 0])), (q_23, .inr (7, [.ref q_26, .int 0])), (q_30, .inr (7, [.ref q_33, .int 0])), (q_37, .inl (cA_38, 8, .inr (.inr (.inr (.inr (fun _ => none)))))), (q_39, .inr (8, [.ref q_1, .ref q_37, .ref sb_42, .int 0, .int 0, .int (-1)])), (q_52, .inr (7, [.ref q_55, .int 0])), (q_55, .inl (cA_56, 256, .inl (fun _ => 0))), (q_57, .inr (7, [.ref q_60, .int 0])), (q_60, .inl (cA_61, 256, .inl (fun _ => 0)))] H := hP
  have hD : va_D A [(h0, .inr (10, [.ref q_1, .ref q_6, .ref q_37, .ref q_39, .ref q_43, .ref q_46, .ref q_49, .ref q_52, .ref q_57, .int 0, .int 0, .int 0])), (q_1, .inr (7, [.ref q_4, .int 0])), (q_4, .inl (cA_5, 400, .inl (fun _ => 0))), (q_6, .inl (cA_7, 4, .inr (.inr (.inr (.inr f_35))))), (q_9, .inr (7, [.ref q_12, .int 0])), (q_16, .inr (7, [.ref q_19, .int 0])), (q_23, .inr (7, [.ref q_26, .int 0])), (q_30, .inr (7, [.ref q_33, .int 0])), (q_37, .inl (cA_38, 8, .inr (.inr (.inr (.inr (fun _ => none)))))), (q_39, .inr (8, [.ref q_1, .ref q_37, .ref sb_42, .int 0, .int 0, .int (-1)])), (q_52, .inr (7, [.ref q_55, .int 0])), (q_55, .inl (cA_56, 256, .inl (fun _ => 0))), (q_57, .inr (7, [.ref q_60, .int 0])), (q_60, .inl (cA_61, 256, .inl (fun _ => 0)))] := hD
  refine lv_aload_n hx hb dX8_init_160 rfl (lv_at hl 1 rfl) ?_
  refine lv_iconst (v := (-1)) hx hb dX8_init_161 (by decide) ?_
  refine va_put (D := (dC, dI)) (ci := 10) (v := .int ((-1))) (ty := .int) (C := RX8) (T := TX8) (N := 12) hx hb hts iRX8 tyX8 tyX8_ok nmX8 hown hK hP hD hS 0 rfl rfl 10 (by decide) (hts (.fieldLink RX8 70 "RecordBench" "latestPlace" "I") (by decide +kernel)) (fun _ h9 => h9) rfl (by decide +kernel) rfl rfl (Nat.le_of_ble_eq_true rfl) dX8_init_162 (fun H locs hP hD hS => ?_)
  have hP : va_P (dC, dI) vwCl [(h0, .inr (10, [.ref q_1, .ref q_6, .ref q_37, .ref q_39, .ref q_43, .ref q_46, .ref q_49, .ref q_52, .ref q_57, .int 0, .int ((-1)), .int 0])), (q_1, .inr (7, [.ref q_4, .int 0])), (q_4, .inl (cA_5, 400, .inl (fun _ => 0))), (q_6, .inl (cA_7, 4, .inr (.inr (.inr (.inr f_35))))), (q_9, .inr (7, [.ref q_12, .int 0])), (q_16, .inr (7, [.ref q_19, .int 0])), (q_23, .inr (7, [.ref q_26, .int 0])), (q_30, .inr (7, [.ref q_33, .int 0])), (q_37, .inl (cA_38, 8, .inr (.inr (.inr (.inr (fun _ => none)))))), (q_39, .inr (8, [.ref q_1, .ref q_37, .ref sb_42, .int 0, .int 0, .int (-1)])), (q_52, .inr (7, [.ref q_55, .int 0])), (q_55, .inl (cA_56, 256, .inl (fun _ => 0))), (q_57, .inr (7, [.ref q_60, .int 0])), (q_60, .inl (cA_61, 256, .inl (fun _ => 0)))] H := hP
  have hD : va_D A [(h0, .inr (10, [.ref q_1, .ref q_6, .ref q_37, .ref q_39, .ref q_43, .ref q_46, .ref q_49, .ref q_52, .ref q_57, .int 0, .int ((-1)), .int 0])), (q_1, .inr (7, [.ref q_4, .int 0])), (q_4, .inl (cA_5, 400, .inl (fun _ => 0))), (q_6, .inl (cA_7, 4, .inr (.inr (.inr (.inr f_35))))), (q_9, .inr (7, [.ref q_12, .int 0])), (q_16, .inr (7, [.ref q_19, .int 0])), (q_23, .inr (7, [.ref q_26, .int 0])), (q_30, .inr (7, [.ref q_33, .int 0])), (q_37, .inl (cA_38, 8, .inr (.inr (.inr (.inr (fun _ => none)))))), (q_39, .inr (8, [.ref q_1, .ref q_37, .ref sb_42, .int 0, .int 0, .int (-1)])), (q_52, .inr (7, [.ref q_55, .int 0])), (q_55, .inl (cA_56, 256, .inl (fun _ => 0))), (q_57, .inr (7, [.ref q_60, .int 0])), (q_60, .inl (cA_61, 256, .inl (fun _ => 0)))] := hD
  refine lv_aload_n hx hb dX8_init_165 rfl (lv_at hl 1 rfl) ?_
  refine lv_iconst (v := 0) hx hb dX8_init_166 (by decide) ?_
  refine va_put (D := (dC, dI)) (ci := 10) (v := .int 0) (ty := .int) (C := RX8) (T := TX8) (N := 12) hx hb hts iRX8 tyX8 tyX8_ok nmX8 hown hK hP hD hS 0 rfl rfl 11 (by decide) (hts (.fieldLink RX8 73 "RecordBench" "latestNumber" "I") (by decide +kernel)) (fun _ h9 => h9) rfl (by decide +kernel) rfl rfl (Nat.le_of_ble_eq_true rfl) dX8_init_167 (fun H locs hP hD hS => ?_)
  have hP : va_P (dC, dI) vwCl [(h0, .inr (10, [.ref q_1, .ref q_6, .ref q_37, .ref q_39, .ref q_43, .ref q_46, .ref q_49, .ref q_52, .ref q_57, .int 0, .int ((-1)), .int 0])), (q_1, .inr (7, [.ref q_4, .int 0])), (q_4, .inl (cA_5, 400, .inl (fun _ => 0))), (q_6, .inl (cA_7, 4, .inr (.inr (.inr (.inr f_35))))), (q_9, .inr (7, [.ref q_12, .int 0])), (q_16, .inr (7, [.ref q_19, .int 0])), (q_23, .inr (7, [.ref q_26, .int 0])), (q_30, .inr (7, [.ref q_33, .int 0])), (q_37, .inl (cA_38, 8, .inr (.inr (.inr (.inr (fun _ => none)))))), (q_39, .inr (8, [.ref q_1, .ref q_37, .ref sb_42, .int 0, .int 0, .int (-1)])), (q_52, .inr (7, [.ref q_55, .int 0])), (q_55, .inl (cA_56, 256, .inl (fun _ => 0))), (q_57, .inr (7, [.ref q_60, .int 0])), (q_60, .inl (cA_61, 256, .inl (fun _ => 0)))] H := hP
  have hD : va_D A [(h0, .inr (10, [.ref q_1, .ref q_6, .ref q_37, .ref q_39, .ref q_43, .ref q_46, .ref q_49, .ref q_52, .ref q_57, .int 0, .int ((-1)), .int 0])), (q_1, .inr (7, [.ref q_4, .int 0])), (q_4, .inl (cA_5, 400, .inl (fun _ => 0))), (q_6, .inl (cA_7, 4, .inr (.inr (.inr (.inr f_35))))), (q_9, .inr (7, [.ref q_12, .int 0])), (q_16, .inr (7, [.ref q_19, .int 0])), (q_23, .inr (7, [.ref q_26, .int 0])), (q_30, .inr (7, [.ref q_33, .int 0])), (q_37, .inl (cA_38, 8, .inr (.inr (.inr (.inr (fun _ => none)))))), (q_39, .inr (8, [.ref q_1, .ref q_37, .ref sb_42, .int 0, .int 0, .int (-1)])), (q_52, .inr (7, [.ref q_55, .int 0])), (q_55, .inl (cA_56, 256, .inl (fun _ => 0))), (q_57, .inr (7, [.ref q_60, .int 0])), (q_60, .inl (cA_61, 256, .inl (fun _ => 0)))] := hD
  have hP9 := hP.sub (ws' := [(h0, .inr (10, [.ref q_1, .ref q_6, .ref q_37, .ref q_39, .ref q_43, .ref q_46, .ref q_49, .ref q_52, .ref q_57, .int 0, .int ((-1)), .int 0])), (q_1, .inr (7, [.ref q_4, .int 0])), (q_4, .inl (cA_5, 400, .inl (fun _ => 0))), (q_6, .inl (cA_7, 4, .inr (.inr (.inr (.inr f_35))))), (q_9, .inr (7, [.ref q_12, .int 0])), (q_16, .inr (7, [.ref q_19, .int 0])), (q_23, .inr (7, [.ref q_26, .int 0])), (q_30, .inr (7, [.ref q_33, .int 0])), (q_37, .inl (cA_38, 8, .inr (.inr (.inr (.inr (fun _ => none)))))), (q_39, .inr (8, [.ref q_1, .ref q_37, .ref sb_42, .int 0, .int 0, .int (-1)]))]) [0, 1, 2, 3, 4, 5, 6, 7, 8, 9] rfl
  have hD9 := hD.sub (ws' := [(h0, .inr (10, [.ref q_1, .ref q_6, .ref q_37, .ref q_39, .ref q_43, .ref q_46, .ref q_49, .ref q_52, .ref q_57, .int 0, .int ((-1)), .int 0])), (q_1, .inr (7, [.ref q_4, .int 0])), (q_4, .inl (cA_5, 400, .inl (fun _ => 0))), (q_6, .inl (cA_7, 4, .inr (.inr (.inr (.inr f_35))))), (q_9, .inr (7, [.ref q_12, .int 0])), (q_16, .inr (7, [.ref q_19, .int 0])), (q_23, .inr (7, [.ref q_26, .int 0])), (q_30, .inr (7, [.ref q_33, .int 0])), (q_37, .inl (cA_38, 8, .inr (.inr (.inr (.inr (fun _ => none)))))), (q_39, .inr (8, [.ref q_1, .ref q_37, .ref sb_42, .int 0, .int 0, .int (-1)]))]) [0, 1, 2, 3, 4, 5, 6, 7, 8, 9] (by decide) rfl
  have hK9 := hK.sub (tys' := [(cA_5, .int), (cA_7, .object RX5), (cA_38, .object RX1)]) [0, 1, 6] rfl
  exact W.vret hx hb hr (fun t ht hW => ⟨⟨(q_1, q_6, q_37, q_39, (.ref q_43), (.ref q_46), (.ref q_49), (.ref q_52), (.ref q_57), q_4, cA_5, cA_7, f_35, q_9, q_16, q_23, q_30, q_12, q_19, q_26, q_33, cA_38, sb_42), rfl, ⟨(by rw [ef_35, ef_28, ef_21, ef_14]; rfl), (by rw [ef_35, ef_28, ef_21, ef_14]; rfl), (by rw [ef_35, ef_28, ef_21, ef_14]; rfl), (by rw [ef_35, ef_28, ef_21, ef_14]; rfl)⟩, by rw [ht]; exact hP9, va_K.moved hW.alike hK9, hD9⟩, hS.F ht⟩) hS.2.2 dX8_init_170
end
