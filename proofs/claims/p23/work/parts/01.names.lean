-- ===== PART A: goes FIRST, ahead of the names: the tables' words, and 'selects' of the private methods out of them =====
/-- a private method of a class that the tables say can be made, by its rows of tables_1 -/
def lw_okq (q : MethodName × Nat) : Prop := (q.1.cls ≠ "java/lang/invoke/MethodHandle" ∧ q.1.cls ≠ "java/lang/invoke/VarHandle") ∧ Cond.instantiable q.1.cls q.2 ∈ tables_1 ∧ Cond.privateMethod q.1 ∈ tables_1 ∧ Cond.instanceMethod q.1 ∈ tables_1
theorem lw_p0 : lw_okq (⟨"RecordBench$TextReader", "skipBlanks", "()V"⟩, 6) := ⟨⟨by decide +kernel, by decide +kernel⟩, List.mem_of_getElem? (i := 50) (by decide +kernel), List.mem_of_getElem? (i := 287) (by decide +kernel), List.mem_of_getElem? (i := 288) (by decide +kernel)⟩
theorem lw_p1 : lw_okq (⟨"RecordBench$TextReader", "refuse", "(II)Z"⟩, 6) := ⟨⟨by decide +kernel, by decide +kernel⟩, List.mem_of_getElem? (i := 50) (by decide +kernel), List.mem_of_getElem? (i := 299) (by decide +kernel), List.mem_of_getElem? (i := 300) (by decide +kernel)⟩
theorem lw_p2 : lw_okq (⟨"RecordBench$TextReader", "takeField", "(ILRecordBench$Make;)Z"⟩, 6) := ⟨⟨by decide +kernel, by decide +kernel⟩, List.mem_of_getElem? (i := 50) (by decide +kernel), List.mem_of_getElem? (i := 303) (by decide +kernel), List.mem_of_getElem? (i := 304) (by decide +kernel)⟩
theorem lw_p3 : lw_okq (⟨"RecordBench$TextReader", "takeNumber", "(LRecordBench$Field;LRecordBench$Make;)Z"⟩, 6) := ⟨⟨by decide +kernel, by decide +kernel⟩, List.mem_of_getElem? (i := 50) (by decide +kernel), List.mem_of_getElem? (i := 361) (by decide +kernel), List.mem_of_getElem? (i := 362) (by decide +kernel)⟩
theorem lw_p4 : lw_okq (⟨"RecordBench$TextReader", "isDigit", "(I)Z"⟩, 6) := ⟨⟨by decide +kernel, by decide +kernel⟩, List.mem_of_getElem? (i := 50) (by decide +kernel), List.mem_of_getElem? (i := 365) (by decide +kernel), List.mem_of_getElem? (i := 366) (by decide +kernel)⟩
theorem lw_p5 : lw_okq (⟨"RecordBench$TextReader", "digitAt", "(I)I"⟩, 6) := ⟨⟨by decide +kernel, by decide +kernel⟩, List.mem_of_getElem? (i := 50) (by decide +kernel), List.mem_of_getElem? (i := 369) (by decide +kernel), List.mem_of_getElem? (i := 370) (by decide +kernel)⟩
theorem lw_p6 : lw_okq (⟨"RecordBench$TextReader", "isLetter", "(I)Z"⟩, 6) := ⟨⟨by decide +kernel, by decide +kernel⟩, List.mem_of_getElem? (i := 50) (by decide +kernel), List.mem_of_getElem? (i := 377) (by decide +kernel), List.mem_of_getElem? (i := 378) (by decide +kernel)⟩
theorem lw_p7 : lw_okq (⟨"RecordBench$TextReader", "takeName", "(LRecordBench$Field;LRecordBench$Make;)Z"⟩, 6) := ⟨⟨by decide +kernel, by decide +kernel⟩, List.mem_of_getElem? (i := 50) (by decide +kernel), List.mem_of_getElem? (i := 381) (by decide +kernel), List.mem_of_getElem? (i := 382) (by decide +kernel)⟩
theorem lw_p8 : lw_okq (⟨"RecordBench$TextReader", "takeWord", "()Ljava/lang/String;"⟩, 6) := ⟨⟨by decide +kernel, by decide +kernel⟩, List.mem_of_getElem? (i := 50) (by decide +kernel), List.mem_of_getElem? (i := 385) (by decide +kernel), List.mem_of_getElem? (i := 386) (by decide +kernel)⟩
theorem lw_p9 : lw_okq (⟨"RecordBench$TextReader", "takeKind", "(LRecordBench$Field;I)Z"⟩, 6) := ⟨⟨by decide +kernel, by decide +kernel⟩, List.mem_of_getElem? (i := 50) (by decide +kernel), List.mem_of_getElem? (i := 598) (by decide +kernel), List.mem_of_getElem? (i := 599) (by decide +kernel)⟩
theorem lw_p10 : lw_okq (⟨"RecordBench$TextReader", "takeRec", "(LRecordBench$Field;I)Z"⟩, 6) := ⟨⟨by decide +kernel, by decide +kernel⟩, List.mem_of_getElem? (i := 50) (by decide +kernel), List.mem_of_getElem? (i := 602) (by decide +kernel), List.mem_of_getElem? (i := 603) (by decide +kernel)⟩
theorem lw_p11 : lw_okq (⟨"RecordBench$TextReader", "takeGroup", "(LRecordBench$Field;)Z"⟩, 6) := ⟨⟨by decide +kernel, by decide +kernel⟩, List.mem_of_getElem? (i := 50) (by decide +kernel), List.mem_of_getElem? (i := 609) (by decide +kernel), List.mem_of_getElem? (i := 610) (by decide +kernel)⟩
theorem lw_p12 : lw_okq (⟨"RecordBench$TextReader", "takeDefault", "(LRecordBench$Field;)Z"⟩, 6) := ⟨⟨by decide +kernel, by decide +kernel⟩, List.mem_of_getElem? (i := 50) (by decide +kernel), List.mem_of_getElem? (i := 614) (by decide +kernel), List.mem_of_getElem? (i := 615) (by decide +kernel)⟩
theorem lw_p13 : lw_okq (⟨"RecordBench$TextReader", "takeText", "(LRecordBench$Field;)Z"⟩, 6) := ⟨⟨by decide +kernel, by decide +kernel⟩, List.mem_of_getElem? (i := 50) (by decide +kernel), List.mem_of_getElem? (i := 618) (by decide +kernel), List.mem_of_getElem? (i := 619) (by decide +kernel)⟩
theorem lw_p14 : lw_okq (⟨"RecordBench$TextReader", "takeValue", "(LRecordBench$Field;)Z"⟩, 6) := ⟨⟨by decide +kernel, by decide +kernel⟩, List.mem_of_getElem? (i := 50) (by decide +kernel), List.mem_of_getElem? (i := 628) (by decide +kernel), List.mem_of_getElem? (i := 629) (by decide +kernel)⟩
theorem lw_p15 : lw_okq (⟨"RecordBench$TextReader", "takeClose", "()Z"⟩, 6) := ⟨⟨by decide +kernel, by decide +kernel⟩, List.mem_of_getElem? (i := 50) (by decide +kernel), List.mem_of_getElem? (i := 642) (by decide +kernel), List.mem_of_getElem? (i := 643) (by decide +kernel)⟩
def lw_privs_1 : List (MethodName × Nat) := [(⟨"RecordBench$TextReader", "skipBlanks", "()V"⟩, 6), (⟨"RecordBench$TextReader", "refuse", "(II)Z"⟩, 6), (⟨"RecordBench$TextReader", "takeField", "(ILRecordBench$Make;)Z"⟩, 6), (⟨"RecordBench$TextReader", "takeNumber", "(LRecordBench$Field;LRecordBench$Make;)Z"⟩, 6), (⟨"RecordBench$TextReader", "isDigit", "(I)Z"⟩, 6), (⟨"RecordBench$TextReader", "digitAt", "(I)I"⟩, 6), (⟨"RecordBench$TextReader", "isLetter", "(I)Z"⟩, 6), (⟨"RecordBench$TextReader", "takeName", "(LRecordBench$Field;LRecordBench$Make;)Z"⟩, 6), (⟨"RecordBench$TextReader", "takeWord", "()Ljava/lang/String;"⟩, 6), (⟨"RecordBench$TextReader", "takeKind", "(LRecordBench$Field;I)Z"⟩, 6), (⟨"RecordBench$TextReader", "takeRec", "(LRecordBench$Field;I)Z"⟩, 6), (⟨"RecordBench$TextReader", "takeGroup", "(LRecordBench$Field;)Z"⟩, 6), (⟨"RecordBench$TextReader", "takeDefault", "(LRecordBench$Field;)Z"⟩, 6), (⟨"RecordBench$TextReader", "takeText", "(LRecordBench$Field;)Z"⟩, 6), (⟨"RecordBench$TextReader", "takeValue", "(LRecordBench$Field;)Z"⟩, 6), (⟨"RecordBench$TextReader", "takeClose", "()Z"⟩, 6)]
theorem lw_r1 : ∀ q ∈ lw_privs_1, lw_okq q := List.forall_mem_cons.mpr ⟨lw_p0, List.forall_mem_cons.mpr ⟨lw_p1, List.forall_mem_cons.mpr ⟨lw_p2, List.forall_mem_cons.mpr ⟨lw_p3, List.forall_mem_cons.mpr ⟨lw_p4, List.forall_mem_cons.mpr ⟨lw_p5, List.forall_mem_cons.mpr ⟨lw_p6, List.forall_mem_cons.mpr ⟨lw_p7, List.forall_mem_cons.mpr ⟨lw_p8, List.forall_mem_cons.mpr ⟨lw_p9, List.forall_mem_cons.mpr ⟨lw_p10, List.forall_mem_cons.mpr ⟨lw_p11, List.forall_mem_cons.mpr ⟨lw_p12, List.forall_mem_cons.mpr ⟨lw_p13, List.forall_mem_cons.mpr ⟨lw_p14, List.forall_mem_cons.mpr ⟨lw_p15, fun _ h => absurd h List.not_mem_nil⟩⟩⟩⟩⟩⟩⟩⟩⟩⟩⟩⟩⟩⟩⟩⟩
theorem lw_p16 : lw_okq (⟨"RecordBench", "fieldOf", "(II)LRecordBench$Field;"⟩, 12) := ⟨⟨by decide +kernel, by decide +kernel⟩, List.mem_of_getElem? (i := 22) (by decide +kernel), List.mem_of_getElem? (i := 670) (by decide +kernel), List.mem_of_getElem? (i := 671) (by decide +kernel)⟩
theorem lw_p17 : lw_okq (⟨"RecordBench", "recordOf", "(I)LRecordBench$Row;"⟩, 12) := ⟨⟨by decide +kernel, by decide +kernel⟩, List.mem_of_getElem? (i := 22) (by decide +kernel), List.mem_of_getElem? (i := 690) (by decide +kernel), List.mem_of_getElem? (i := 691) (by decide +kernel)⟩
theorem lw_p18 : lw_okq (⟨"RecordBench$RecordReader", "scan", "(LRecordBench$Row;IILRecordBench$Make;I)Z"⟩, 4) := ⟨⟨by decide +kernel, by decide +kernel⟩, List.mem_of_getElem? (i := 108) (by decide +kernel), List.mem_of_getElem? (i := 716) (by decide +kernel), List.mem_of_getElem? (i := 717) (by decide +kernel)⟩
theorem lw_p19 : lw_okq (⟨"RecordBench$RecordReader", "refuse", "(II)Z"⟩, 4) := ⟨⟨by decide +kernel, by decide +kernel⟩, List.mem_of_getElem? (i := 108) (by decide +kernel), List.mem_of_getElem? (i := 720) (by decide +kernel), List.mem_of_getElem? (i := 721) (by decide +kernel)⟩
theorem lw_p20 : lw_okq (⟨"RecordBench$Piece", "takeVarint", "(LRecordBench$Row;I)J"⟩, 8) := ⟨⟨by decide +kernel, by decide +kernel⟩, List.mem_of_getElem? (i := 115) (by decide +kernel), List.mem_of_getElem? (i := 728) (by decide +kernel), List.mem_of_getElem? (i := 729) (by decide +kernel)⟩
theorem lw_p21 : lw_okq (⟨"RecordBench$Piece", "place", "(JI)V"⟩, 8) := ⟨⟨by decide +kernel, by decide +kernel⟩, List.mem_of_getElem? (i := 115) (by decide +kernel), List.mem_of_getElem? (i := 734) (by decide +kernel), List.mem_of_getElem? (i := 735) (by decide +kernel)⟩
theorem lw_p22 : lw_okq (⟨"RecordBench", "settle", "(LRecordBench$Row;LRecordBench$Make;II)I"⟩, 12) := ⟨⟨by decide +kernel, by decide +kernel⟩, List.mem_of_getElem? (i := 22) (by decide +kernel), List.mem_of_getElem? (i := 789) (by decide +kernel), List.mem_of_getElem? (i := 790) (by decide +kernel)⟩
theorem lw_p23 : lw_okq (⟨"RecordBench$RecordWriter", "copyPiece", "(LRecordBench$Row;ILRecordBench$Field;LRecordBench$Row;I)V"⟩, 3) := ⟨⟨by decide +kernel, by decide +kernel⟩, List.mem_of_getElem? (i := 170) (by decide +kernel), List.mem_of_getElem? (i := 805) (by decide +kernel), List.mem_of_getElem? (i := 806) (by decide +kernel)⟩
theorem lw_p24 : lw_okq (⟨"RecordBench$RecordWriter", "copyAll", "(LRecordBench$Row;IILRecordBench$Make;LRecordBench$Row;I)V"⟩, 3) := ⟨⟨by decide +kernel, by decide +kernel⟩, List.mem_of_getElem? (i := 170) (by decide +kernel), List.mem_of_getElem? (i := 816) (by decide +kernel), List.mem_of_getElem? (i := 817) (by decide +kernel)⟩
theorem lw_p25 : lw_okq (⟨"RecordBench", "lookAlong", "(III)I"⟩, 12) := ⟨⟨by decide +kernel, by decide +kernel⟩, List.mem_of_getElem? (i := 22) (by decide +kernel), List.mem_of_getElem? (i := 895) (by decide +kernel), List.mem_of_getElem? (i := 896) (by decide +kernel)⟩
theorem lw_p26 : lw_okq (⟨"RecordBench$Walks", "firstNumber", "(LRecordBench$Make;LRecordBench$Make;LRecordBench$Make;ZI)I"⟩, 2) := ⟨⟨by decide +kernel, by decide +kernel⟩, List.mem_of_getElem? (i := 190) (by decide +kernel), List.mem_of_getElem? (i := 899) (by decide +kernel), List.mem_of_getElem? (i := 900) (by decide +kernel)⟩
theorem lw_p27 : lw_okq (⟨"RecordBench$Walks", "whyBy", "(ILRecordBench$Make;LRecordBench$Make;LRecordBench$Make;ZI)I"⟩, 2) := ⟨⟨by decide +kernel, by decide +kernel⟩, List.mem_of_getElem? (i := 190) (by decide +kernel), List.mem_of_getElem? (i := 903) (by decide +kernel), List.mem_of_getElem? (i := 904) (by decide +kernel)⟩
theorem lw_p28 : lw_okq (⟨"RecordBench$Walks", "recBreaks", "(LRecordBench$Field;LRecordBench$Field;LRecordBench$Field;ZI)Z"⟩, 2) := ⟨⟨by decide +kernel, by decide +kernel⟩, List.mem_of_getElem? (i := 190) (by decide +kernel), List.mem_of_getElem? (i := 935) (by decide +kernel), List.mem_of_getElem? (i := 936) (by decide +kernel)⟩
theorem lw_p29 : lw_okq (⟨"RecordBench$Walks", "breaks", "(IIIZI)Z"⟩, 2) := ⟨⟨by decide +kernel, by decide +kernel⟩, List.mem_of_getElem? (i := 190) (by decide +kernel), List.mem_of_getElem? (i := 939) (by decide +kernel), List.mem_of_getElem? (i := 940) (by decide +kernel)⟩
theorem lw_p30 : lw_okq (⟨"RecordBenchModel", "next", "()I"⟩, 60) := ⟨⟨by decide +kernel, by decide +kernel⟩, List.mem_of_getElem? (i := 959) (by decide +kernel), List.mem_of_getElem? (i := 1165) (by decide +kernel), List.mem_of_getElem? (i := 1166) (by decide +kernel)⟩
theorem lw_p31 : lw_okq (⟨"RecordBenchModel", "field", "(I)V"⟩, 60) := ⟨⟨by decide +kernel, by decide +kernel⟩, List.mem_of_getElem? (i := 959) (by decide +kernel), List.mem_of_getElem? (i := 1169) (by decide +kernel), List.mem_of_getElem? (i := 1170) (by decide +kernel)⟩
def lw_privs_2 : List (MethodName × Nat) := [(⟨"RecordBench", "fieldOf", "(II)LRecordBench$Field;"⟩, 12), (⟨"RecordBench", "recordOf", "(I)LRecordBench$Row;"⟩, 12), (⟨"RecordBench$RecordReader", "scan", "(LRecordBench$Row;IILRecordBench$Make;I)Z"⟩, 4), (⟨"RecordBench$RecordReader", "refuse", "(II)Z"⟩, 4), (⟨"RecordBench$Piece", "takeVarint", "(LRecordBench$Row;I)J"⟩, 8), (⟨"RecordBench$Piece", "place", "(JI)V"⟩, 8), (⟨"RecordBench", "settle", "(LRecordBench$Row;LRecordBench$Make;II)I"⟩, 12), (⟨"RecordBench$RecordWriter", "copyPiece", "(LRecordBench$Row;ILRecordBench$Field;LRecordBench$Row;I)V"⟩, 3), (⟨"RecordBench$RecordWriter", "copyAll", "(LRecordBench$Row;IILRecordBench$Make;LRecordBench$Row;I)V"⟩, 3), (⟨"RecordBench", "lookAlong", "(III)I"⟩, 12), (⟨"RecordBench$Walks", "firstNumber", "(LRecordBench$Make;LRecordBench$Make;LRecordBench$Make;ZI)I"⟩, 2), (⟨"RecordBench$Walks", "whyBy", "(ILRecordBench$Make;LRecordBench$Make;LRecordBench$Make;ZI)I"⟩, 2), (⟨"RecordBench$Walks", "recBreaks", "(LRecordBench$Field;LRecordBench$Field;LRecordBench$Field;ZI)Z"⟩, 2), (⟨"RecordBench$Walks", "breaks", "(IIIZI)Z"⟩, 2), (⟨"RecordBenchModel", "next", "()I"⟩, 60), (⟨"RecordBenchModel", "field", "(I)V"⟩, 60)]
theorem lw_r2 : ∀ q ∈ lw_privs_2, lw_okq q := List.forall_mem_cons.mpr ⟨lw_p16, List.forall_mem_cons.mpr ⟨lw_p17, List.forall_mem_cons.mpr ⟨lw_p18, List.forall_mem_cons.mpr ⟨lw_p19, List.forall_mem_cons.mpr ⟨lw_p20, List.forall_mem_cons.mpr ⟨lw_p21, List.forall_mem_cons.mpr ⟨lw_p22, List.forall_mem_cons.mpr ⟨lw_p23, List.forall_mem_cons.mpr ⟨lw_p24, List.forall_mem_cons.mpr ⟨lw_p25, List.forall_mem_cons.mpr ⟨lw_p26, List.forall_mem_cons.mpr ⟨lw_p27, List.forall_mem_cons.mpr ⟨lw_p28, List.forall_mem_cons.mpr ⟨lw_p29, List.forall_mem_cons.mpr ⟨lw_p30, List.forall_mem_cons.mpr ⟨lw_p31, fun _ h => absurd h List.not_mem_nil⟩⟩⟩⟩⟩⟩⟩⟩⟩⟩⟩⟩⟩⟩⟩⟩
theorem lw_p32 : lw_okq (⟨"RecordBenchModel", "fail", "(II)V"⟩, 60) := ⟨⟨by decide +kernel, by decide +kernel⟩, List.mem_of_getElem? (i := 959) (by decide +kernel), List.mem_of_getElem? (i := 1173) (by decide +kernel), List.mem_of_getElem? (i := 1174) (by decide +kernel)⟩
theorem lw_p33 : lw_okq (⟨"RecordBenchModel", "number", "(III)I"⟩, 60) := ⟨⟨by decide +kernel, by decide +kernel⟩, List.mem_of_getElem? (i := 959) (by decide +kernel), List.mem_of_getElem? (i := 1177) (by decide +kernel), List.mem_of_getElem? (i := 1178) (by decide +kernel)⟩
theorem lw_p34 : lw_okq (⟨"RecordBenchModel", "word", "()J"⟩, 60) := ⟨⟨by decide +kernel, by decide +kernel⟩, List.mem_of_getElem? (i := 959) (by decide +kernel), List.mem_of_getElem? (i := 1184) (by decide +kernel), List.mem_of_getElem? (i := 1185) (by decide +kernel)⟩
theorem lw_p35 : lw_okq (⟨"RecordBenchModel", "wordEnd", "()I"⟩, 60) := ⟨⟨by decide +kernel, by decide +kernel⟩, List.mem_of_getElem? (i := 959) (by decide +kernel), List.mem_of_getElem? (i := 1188) (by decide +kernel), List.mem_of_getElem? (i := 1189) (by decide +kernel)⟩
theorem lw_p36 : lw_okq (⟨"RecordBenchModel", "takes", "()V"⟩, 60) := ⟨⟨by decide +kernel, by decide +kernel⟩, List.mem_of_getElem? (i := 959) (by decide +kernel), List.mem_of_getElem? (i := 1196) (by decide +kernel), List.mem_of_getElem? (i := 1197) (by decide +kernel)⟩
theorem lw_p37 : lw_okq (⟨"RecordBenchModel", "sign", "(I)V"⟩, 60) := ⟨⟨by decide +kernel, by decide +kernel⟩, List.mem_of_getElem? (i := 959) (by decide +kernel), List.mem_of_getElem? (i := 1200) (by decide +kernel), List.mem_of_getElem? (i := 1201) (by decide +kernel)⟩
theorem lw_p38 : lw_okq (⟨"RecordBenchModel", "kindOf", "(J)I"⟩, 60) := ⟨⟨by decide +kernel, by decide +kernel⟩, List.mem_of_getElem? (i := 959) (by decide +kernel), List.mem_of_getElem? (i := 1204) (by decide +kernel), List.mem_of_getElem? (i := 1205) (by decide +kernel)⟩
theorem lw_p39 : lw_okq (⟨"RecordBenchModel", "kinds", "(III)V"⟩, 60) := ⟨⟨by decide +kernel, by decide +kernel⟩, List.mem_of_getElem? (i := 959) (by decide +kernel), List.mem_of_getElem? (i := 1208) (by decide +kernel), List.mem_of_getElem? (i := 1209) (by decide +kernel)⟩
theorem lw_p40 : lw_okq (⟨"RecordBenchModel", "digit", "()I"⟩, 60) := ⟨⟨by decide +kernel, by decide +kernel⟩, List.mem_of_getElem? (i := 959) (by decide +kernel), List.mem_of_getElem? (i := 1212) (by decide +kernel), List.mem_of_getElem? (i := 1213) (by decide +kernel)⟩
theorem lw_p41 : lw_okq (⟨"RecordBenchModel", "ends", "()V"⟩, 60) := ⟨⟨by decide +kernel, by decide +kernel⟩, List.mem_of_getElem? (i := 959) (by decide +kernel), List.mem_of_getElem? (i := 1216) (by decide +kernel), List.mem_of_getElem? (i := 1217) (by decide +kernel)⟩
theorem lw_p42 : lw_okq (⟨"RecordBenchModel", "textValue", "(I)V"⟩, 60) := ⟨⟨by decide +kernel, by decide +kernel⟩, List.mem_of_getElem? (i := 959) (by decide +kernel), List.mem_of_getElem? (i := 1220) (by decide +kernel), List.mem_of_getElem? (i := 1221) (by decide +kernel)⟩
theorem lw_p43 : lw_okq (⟨"RecordBenchModel", "value", "(II)V"⟩, 60) := ⟨⟨by decide +kernel, by decide +kernel⟩, List.mem_of_getElem? (i := 959) (by decide +kernel), List.mem_of_getElem? (i := 1224) (by decide +kernel), List.mem_of_getElem? (i := 1225) (by decide +kernel)⟩
theorem lw_p44 : lw_okq (⟨"RecordBenchModel", "isField", "(II)Z"⟩, 60) := ⟨⟨by decide +kernel, by decide +kernel⟩, List.mem_of_getElem? (i := 959) (by decide +kernel), List.mem_of_getElem? (i := 1246) (by decide +kernel), List.mem_of_getElem? (i := 1247) (by decide +kernel)⟩
theorem lw_p45 : lw_okq (⟨"RecordBenchModel", "isMake", "(I)Z"⟩, 60) := ⟨⟨by decide +kernel, by decide +kernel⟩, List.mem_of_getElem? (i := 959) (by decide +kernel), List.mem_of_getElem? (i := 1250) (by decide +kernel), List.mem_of_getElem? (i := 1251) (by decide +kernel)⟩
theorem lw_p46 : lw_okq (⟨"RecordBenchModel", "has", "(II)Z"⟩, 60) := ⟨⟨by decide +kernel, by decide +kernel⟩, List.mem_of_getElem? (i := 959) (by decide +kernel), List.mem_of_getElem? (i := 1258) (by decide +kernel), List.mem_of_getElem? (i := 1259) (by decide +kernel)⟩
theorem lw_p47 : lw_okq (⟨"RecordBenchModel", "isRead", "(II)Z"⟩, 60) := ⟨⟨by decide +kernel, by decide +kernel⟩, List.mem_of_getElem? (i := 959) (by decide +kernel), List.mem_of_getElem? (i := 1281) (by decide +kernel), List.mem_of_getElem? (i := 1282) (by decide +kernel)⟩
def lw_privs_3 : List (MethodName × Nat) := [(⟨"RecordBenchModel", "fail", "(II)V"⟩, 60), (⟨"RecordBenchModel", "number", "(III)I"⟩, 60), (⟨"RecordBenchModel", "word", "()J"⟩, 60), (⟨"RecordBenchModel", "wordEnd", "()I"⟩, 60), (⟨"RecordBenchModel", "takes", "()V"⟩, 60), (⟨"RecordBenchModel", "sign", "(I)V"⟩, 60), (⟨"RecordBenchModel", "kindOf", "(J)I"⟩, 60), (⟨"RecordBenchModel", "kinds", "(III)V"⟩, 60), (⟨"RecordBenchModel", "digit", "()I"⟩, 60), (⟨"RecordBenchModel", "ends", "()V"⟩, 60), (⟨"RecordBenchModel", "textValue", "(I)V"⟩, 60), (⟨"RecordBenchModel", "value", "(II)V"⟩, 60), (⟨"RecordBenchModel", "isField", "(II)Z"⟩, 60), (⟨"RecordBenchModel", "isMake", "(I)Z"⟩, 60), (⟨"RecordBenchModel", "has", "(II)Z"⟩, 60), (⟨"RecordBenchModel", "isRead", "(II)Z"⟩, 60)]
theorem lw_r3 : ∀ q ∈ lw_privs_3, lw_okq q := List.forall_mem_cons.mpr ⟨lw_p32, List.forall_mem_cons.mpr ⟨lw_p33, List.forall_mem_cons.mpr ⟨lw_p34, List.forall_mem_cons.mpr ⟨lw_p35, List.forall_mem_cons.mpr ⟨lw_p36, List.forall_mem_cons.mpr ⟨lw_p37, List.forall_mem_cons.mpr ⟨lw_p38, List.forall_mem_cons.mpr ⟨lw_p39, List.forall_mem_cons.mpr ⟨lw_p40, List.forall_mem_cons.mpr ⟨lw_p41, List.forall_mem_cons.mpr ⟨lw_p42, List.forall_mem_cons.mpr ⟨lw_p43, List.forall_mem_cons.mpr ⟨lw_p44, List.forall_mem_cons.mpr ⟨lw_p45, List.forall_mem_cons.mpr ⟨lw_p46, List.forall_mem_cons.mpr ⟨lw_p47, fun _ h => absurd h List.not_mem_nil⟩⟩⟩⟩⟩⟩⟩⟩⟩⟩⟩⟩⟩⟩⟩⟩
theorem lw_p48 : lw_okq (⟨"RecordBenchModel", "loads", "(I)V"⟩, 60) := ⟨⟨by decide +kernel, by decide +kernel⟩, List.mem_of_getElem? (i := 959) (by decide +kernel), List.mem_of_getElem? (i := 1285) (by decide +kernel), List.mem_of_getElem? (i := 1286) (by decide +kernel)⟩
theorem lw_p49 : lw_okq (⟨"RecordBenchModel", "reads", "(II)Z"⟩, 60) := ⟨⟨by decide +kernel, by decide +kernel⟩, List.mem_of_getElem? (i := 959) (by decide +kernel), List.mem_of_getElem? (i := 1289) (by decide +kernel), List.mem_of_getElem? (i := 1290) (by decide +kernel)⟩
theorem lw_p50 : lw_okq (⟨"RecordBenchModel", "opens", "(IIII)V"⟩, 60) := ⟨⟨by decide +kernel, by decide +kernel⟩, List.mem_of_getElem? (i := 959) (by decide +kernel), List.mem_of_getElem? (i := 1293) (by decide +kernel), List.mem_of_getElem? (i := 1294) (by decide +kernel)⟩
theorem lw_p51 : lw_okq (⟨"RecordBenchModel", "piece", "(IIIII)V"⟩, 60) := ⟨⟨by decide +kernel, by decide +kernel⟩, List.mem_of_getElem? (i := 959) (by decide +kernel), List.mem_of_getElem? (i := 1297) (by decide +kernel), List.mem_of_getElem? (i := 1298) (by decide +kernel)⟩
theorem lw_p52 : lw_okq (⟨"RecordBenchModel", "varint", "(II)Z"⟩, 60) := ⟨⟨by decide +kernel, by decide +kernel⟩, List.mem_of_getElem? (i := 959) (by decide +kernel), List.mem_of_getElem? (i := 1301) (by decide +kernel), List.mem_of_getElem? (i := 1302) (by decide +kernel)⟩
theorem lw_p53 : lw_okq (⟨"RecordBenchModel", "pieceOf", "(I)I"⟩, 60) := ⟨⟨by decide +kernel, by decide +kernel⟩, List.mem_of_getElem? (i := 959) (by decide +kernel), List.mem_of_getElem? (i := 1319) (by decide +kernel), List.mem_of_getElem? (i := 1320) (by decide +kernel)⟩
theorem lw_p54 : lw_okq (⟨"RecordBenchModel", "writes", "(II)V"⟩, 60) := ⟨⟨by decide +kernel, by decide +kernel⟩, List.mem_of_getElem? (i := 959) (by decide +kernel), List.mem_of_getElem? (i := 1328) (by decide +kernel), List.mem_of_getElem? (i := 1329) (by decide +kernel)⟩
theorem lw_p55 : lw_okq (⟨"RecordBenchModel", "laysVarint", "(IJ)V"⟩, 60) := ⟨⟨by decide +kernel, by decide +kernel⟩, List.mem_of_getElem? (i := 959) (by decide +kernel), List.mem_of_getElem? (i := 1332) (by decide +kernel), List.mem_of_getElem? (i := 1333) (by decide +kernel)⟩
theorem lw_p56 : lw_okq (⟨"RecordBenchModel", "lays", "(II)V"⟩, 60) := ⟨⟨by decide +kernel, by decide +kernel⟩, List.mem_of_getElem? (i := 959) (by decide +kernel), List.mem_of_getElem? (i := 1336) (by decide +kernel), List.mem_of_getElem? (i := 1337) (by decide +kernel)⟩
theorem lw_p57 : lw_okq (⟨"RecordBenchModel", "comes", "(I)V"⟩, 60) := ⟨⟨by decide +kernel, by decide +kernel⟩, List.mem_of_getElem? (i := 959) (by decide +kernel), List.mem_of_getElem? (i := 1343) (by decide +kernel), List.mem_of_getElem? (i := 1344) (by decide +kernel)⟩
theorem lw_p58 : lw_okq (⟨"RecordBenchModel", "keepsFresh", "()V"⟩, 60) := ⟨⟨by decide +kernel, by decide +kernel⟩, List.mem_of_getElem? (i := 959) (by decide +kernel), List.mem_of_getElem? (i := 1351) (by decide +kernel), List.mem_of_getElem? (i := 1352) (by decide +kernel)⟩
theorem lw_p59 : lw_okq (⟨"RecordBenchModel", "puts", "(III)I"⟩, 60) := ⟨⟨by decide +kernel, by decide +kernel⟩, List.mem_of_getElem? (i := 959) (by decide +kernel), List.mem_of_getElem? (i := 1355) (by decide +kernel), List.mem_of_getElem? (i := 1356) (by decide +kernel)⟩
theorem lw_p60 : lw_okq (⟨"RecordBenchModel", "walks", "()V"⟩, 60) := ⟨⟨by decide +kernel, by decide +kernel⟩, List.mem_of_getElem? (i := 959) (by decide +kernel), List.mem_of_getElem? (i := 1379) (by decide +kernel), List.mem_of_getElem? (i := 1380) (by decide +kernel)⟩
theorem lw_p61 : lw_okq (⟨"RecordBenchModel", "whyOf", "(IIIII)I"⟩, 60) := ⟨⟨by decide +kernel, by decide +kernel⟩, List.mem_of_getElem? (i := 959) (by decide +kernel), List.mem_of_getElem? (i := 1386) (by decide +kernel), List.mem_of_getElem? (i := 1387) (by decide +kernel)⟩
theorem lw_p62 : lw_okq (⟨"RecordBenchModel", "isOther", "(III)Z"⟩, 60) := ⟨⟨by decide +kernel, by decide +kernel⟩, List.mem_of_getElem? (i := 959) (by decide +kernel), List.mem_of_getElem? (i := 1390) (by decide +kernel), List.mem_of_getElem? (i := 1391) (by decide +kernel)⟩
theorem lw_p63 : lw_okq (⟨"RecordBenchModel", "sortOf", "(II)I"⟩, 60) := ⟨⟨by decide +kernel, by decide +kernel⟩, List.mem_of_getElem? (i := 959) (by decide +kernel), List.mem_of_getElem? (i := 1394) (by decide +kernel), List.mem_of_getElem? (i := 1395) (by decide +kernel)⟩
def lw_privs_4 : List (MethodName × Nat) := [(⟨"RecordBenchModel", "loads", "(I)V"⟩, 60), (⟨"RecordBenchModel", "reads", "(II)Z"⟩, 60), (⟨"RecordBenchModel", "opens", "(IIII)V"⟩, 60), (⟨"RecordBenchModel", "piece", "(IIIII)V"⟩, 60), (⟨"RecordBenchModel", "varint", "(II)Z"⟩, 60), (⟨"RecordBenchModel", "pieceOf", "(I)I"⟩, 60), (⟨"RecordBenchModel", "writes", "(II)V"⟩, 60), (⟨"RecordBenchModel", "laysVarint", "(IJ)V"⟩, 60), (⟨"RecordBenchModel", "lays", "(II)V"⟩, 60), (⟨"RecordBenchModel", "comes", "(I)V"⟩, 60), (⟨"RecordBenchModel", "keepsFresh", "()V"⟩, 60), (⟨"RecordBenchModel", "puts", "(III)I"⟩, 60), (⟨"RecordBenchModel", "walks", "()V"⟩, 60), (⟨"RecordBenchModel", "whyOf", "(IIIII)I"⟩, 60), (⟨"RecordBenchModel", "isOther", "(III)Z"⟩, 60), (⟨"RecordBenchModel", "sortOf", "(II)I"⟩, 60)]
theorem lw_r4 : ∀ q ∈ lw_privs_4, lw_okq q := List.forall_mem_cons.mpr ⟨lw_p48, List.forall_mem_cons.mpr ⟨lw_p49, List.forall_mem_cons.mpr ⟨lw_p50, List.forall_mem_cons.mpr ⟨lw_p51, List.forall_mem_cons.mpr ⟨lw_p52, List.forall_mem_cons.mpr ⟨lw_p53, List.forall_mem_cons.mpr ⟨lw_p54, List.forall_mem_cons.mpr ⟨lw_p55, List.forall_mem_cons.mpr ⟨lw_p56, List.forall_mem_cons.mpr ⟨lw_p57, List.forall_mem_cons.mpr ⟨lw_p58, List.forall_mem_cons.mpr ⟨lw_p59, List.forall_mem_cons.mpr ⟨lw_p60, List.forall_mem_cons.mpr ⟨lw_p61, List.forall_mem_cons.mpr ⟨lw_p62, List.forall_mem_cons.mpr ⟨lw_p63, fun _ h => absurd h List.not_mem_nil⟩⟩⟩⟩⟩⟩⟩⟩⟩⟩⟩⟩⟩⟩⟩⟩
theorem lw_p64 : lw_okq (⟨"RecordBenchModel", "isNarrower", "(III)Z"⟩, 60) := ⟨⟨by decide +kernel, by decide +kernel⟩, List.mem_of_getElem? (i := 959) (by decide +kernel), List.mem_of_getElem? (i := 1398) (by decide +kernel), List.mem_of_getElem? (i := 1399) (by decide +kernel)⟩
theorem lw_p65 : lw_okq (⟨"RecordBenchModel", "differs", "(III)Z"⟩, 60) := ⟨⟨by decide +kernel, by decide +kernel⟩, List.mem_of_getElem? (i := 959) (by decide +kernel), List.mem_of_getElem? (i := 1402) (by decide +kernel), List.mem_of_getElem? (i := 1403) (by decide +kernel)⟩
theorem lw_p66 : lw_okq (⟨"RecordBenchModel", "isMated", "(III)Z"⟩, 60) := ⟨⟨by decide +kernel, by decide +kernel⟩, List.mem_of_getElem? (i := 959) (by decide +kernel), List.mem_of_getElem? (i := 1406) (by decide +kernel), List.mem_of_getElem? (i := 1407) (by decide +kernel)⟩
theorem lw_p67 : lw_okq (⟨"RecordBenchModel", "withinOf", "(IIIII)I"⟩, 60) := ⟨⟨by decide +kernel, by decide +kernel⟩, List.mem_of_getElem? (i := 959) (by decide +kernel), List.mem_of_getElem? (i := 1410) (by decide +kernel), List.mem_of_getElem? (i := 1411) (by decide +kernel)⟩
def lw_privs_5 : List (MethodName × Nat) := [(⟨"RecordBenchModel", "isNarrower", "(III)Z"⟩, 60), (⟨"RecordBenchModel", "differs", "(III)Z"⟩, 60), (⟨"RecordBenchModel", "isMated", "(III)Z"⟩, 60), (⟨"RecordBenchModel", "withinOf", "(IIIII)I"⟩, 60)]
theorem lw_r5 : ∀ q ∈ lw_privs_5, lw_okq q := List.forall_mem_cons.mpr ⟨lw_p64, List.forall_mem_cons.mpr ⟨lw_p65, List.forall_mem_cons.mpr ⟨lw_p66, List.forall_mem_cons.mpr ⟨lw_p67, fun _ h => absurd h List.not_mem_nil⟩⟩⟩⟩
def lw_privs : List (MethodName × Nat) := lw_privs_1 ++ (lw_privs_2 ++ (lw_privs_3 ++ (lw_privs_4 ++ (lw_privs_5))))
def lw_tbl : List Cond := k2_sels lw_privs ++ tables_1
theorem lw_privs_ok : ∀ q ∈ lw_privs, lw_okq q := by
  show ∀ q ∈ lw_privs_1 ++ (lw_privs_2 ++ (lw_privs_3 ++ (lw_privs_4 ++ (lw_privs_5)))), lw_okq q
  exact List.forall_mem_append.mpr ⟨lw_r1, List.forall_mem_append.mpr ⟨lw_r2, List.forall_mem_append.mpr ⟨lw_r3, List.forall_mem_append.mpr ⟨lw_r4, lw_r5⟩⟩⟩⟩
-- ===== end of PART A; then your names; then what follows =====
/-! ===== BEGIN words of one list among another's, by their places ===== -/
theorem goodIn_r {big : List Cond} (ws : List Cond) (ps : List Nat) (hp : ws = ps.filterMap (fun i => big[i]?)) (h : ws.all goodWord = true) : GoodIn big ws := by
  intro w hw
  have h1 := List.all_eq_true.mp h w hw
  rw [hp] at hw
  obtain ⟨i, -, hi⟩ := List.mem_filterMap.mp hw
  have hm : w ∈ big := by first | exact List.mem_of_getElem? hi | exact List.getElem?_mem hi
  exact ⟨hm, good_of_word h1⟩
theorem goodIn_app {big a b : List Cond} (ha : GoodIn big a) (hb : GoodIn big b) : GoodIn big (a ++ b) := fun w h => (List.mem_append.mp h).elim (ha w) (hb w)
theorem goodIn_ca {big a b : List Cond} {c : Cond} (ha : GoodIn big (c :: a)) (hb : GoodIn big b) : GoodIn big (c :: (a ++ b)) := fun w h => (List.mem_cons.mp h).elim (fun e => ha w (List.mem_cons.mpr (Or.inl e))) (fun h => (List.mem_append.mp h).elim (fun h => ha w (List.mem_cons.mpr (Or.inr h))) (hb w))
theorem goodIn_sub {big ws : List Cond} (hm : ∀ w ∈ ws, w ∈ big) (h : ws.all goodWord = true) : GoodIn big ws := fun w hw => ⟨hm w hw, good_of_word (List.all_eq_true.mp h w hw)⟩
/-! ===== END ===== -/

/-! ===== BEGIN printed: names, fields, word lists, decode rows ===== -/
def RX0 : String := "RecordBench$Field"
def TX0 : u_T := fun k => match k with
  | 0 => ("RecordBench$Field", "number", "I", false)
  | 1 => ("RecordBench$Field", "kind", "I", false)
  | 2 => ("RecordBench$Field", "group", "I", false)
  | 3 => ("RecordBench$Field", "rec", "I", false)
  | 4 => ("RecordBench$Field", "name", "Ljava/lang/String;", false)
  | 5 => ("RecordBench$Field", "text", "Ljava/lang/String;", false)
  | _ => ("RecordBench$Field", "value", "J", false)
def tyX0 : Nat → FieldType := fun k => match k with
  | 0 => .int
  | 1 => .int
  | 2 => .int
  | 3 => .int
  | 4 => .object "java/lang/String"
  | 5 => .object "java/lang/String"
  | _ => .long
abbrev wsX00 : List Cond := u_ws RX0 TX0 7
theorem nmX0 : ∀ a, a < 7 → ∀ b, b < 7 → a ≠ b → (TX0 a).2.1 ≠ (TX0 b).2.1 := by decide +kernel
theorem tyX0_ok : ∀ k, k < 7 → parseFieldDescriptor (TX0 k).2.2.1 = some (tyX0 k) := by decide +kernel
abbrev cX0_init : ByteArray := prog_2_method_1_code
def yX0_init : MethodName := ⟨RX0, "<init>", "()V"⟩
abbrev cX0_isNumber : ByteArray := prog_2_method_2_code
def yX0_isNumber : MethodName := ⟨RX0, "isNumber", "()Z"⟩
abbrev cX0_hasLength : ByteArray := prog_2_method_3_code
def yX0_hasLength : MethodName := ⟨RX0, "hasLength", "()Z"⟩
abbrev cX0_holds : ByteArray := prog_2_method_4_code
def yX0_holds : MethodName := ⟨RX0, "holds", "(J)Z"⟩
abbrev cX0_plainNumber : ByteArray := prog_2_method_5_code
def yX0_plainNumber : MethodName := ⟨RX0, "plainNumber", "()J"⟩
abbrev cX0_sharesGroup : ByteArray := prog_2_method_6_code
def yX0_sharesGroup : MethodName := ⟨RX0, "sharesGroup", "(LRecordBench$Field;)Z"⟩
abbrev cX0_isOtherSort : ByteArray := prog_2_method_7_code
def yX0_isOtherSort : MethodName := ⟨RX0, "isOtherSort", "(LRecordBench$Field;)Z"⟩
abbrev cX0_isNarrower : ByteArray := prog_2_method_8_code
def yX0_isNarrower : MethodName := ⟨RX0, "isNarrower", "(LRecordBench$Field;)Z"⟩
abbrev cX0_hasOtherDefault : ByteArray := prog_2_method_9_code
def yX0_hasOtherDefault : MethodName := ⟨RX0, "hasOtherDefault", "(LRecordBench$Field;)Z"⟩
def RX1 : String := "RecordBench$Make"
def TX1 : u_T := fun k => match k with
  | 0 => ("RecordBench$Make", "fields", "[LRecordBench$Field;", true)
  | _ => ("RecordBench$Make", "count", "I", false)
def tyX1 : Nat → FieldType := fun k => match k with
  | 0 => .array (.object "RecordBench$Field")
  | _ => .int
abbrev wsX10 : List Cond := u_ws RX1 TX1 2
theorem nmX1 : ∀ a, a < 2 → ∀ b, b < 2 → a ≠ b → (TX1 a).2.1 ≠ (TX1 b).2.1 := by decide +kernel
theorem tyX1_ok : ∀ k, k < 2 → parseFieldDescriptor (TX1 k).2.2.1 = some (tyX1 k) := by decide +kernel
abbrev cX1_init : ByteArray := prog_3_method_1_code
def yX1_init : MethodName := ⟨RX1, "<init>", "()V"⟩
abbrev cX1_count : ByteArray := prog_3_method_2_code
def yX1_count : MethodName := ⟨RX1, "count", "()I"⟩
abbrev cX1_fieldAt : ByteArray := prog_3_method_3_code
def yX1_fieldAt : MethodName := ⟨RX1, "fieldAt", "(I)LRecordBench$Field;"⟩
abbrev cX1_knownAt : ByteArray := prog_3_method_4_code
def yX1_knownAt : MethodName := ⟨RX1, "knownAt", "(I)LRecordBench$Field;"⟩
abbrev cX1_hasName : ByteArray := prog_3_method_5_code
def yX1_hasName : MethodName := ⟨RX1, "hasName", "(Ljava/lang/String;)Z"⟩
abbrev cX1_add : ByteArray := prog_3_method_6_code
def yX1_add : MethodName := ⟨RX1, "add", "(LRecordBench$Field;)Z"⟩
def RX2 : String := "RecordBench$Piece"
def TX2 : u_T := fun k => match k with
  | 0 => ("RecordBench$Piece", "number", "I", false)
  | 1 => ("RecordBench$Piece", "withLength", "Z", false)
  | 2 => ("RecordBench$Piece", "raw", "J", false)
  | 3 => ("RecordBench$Piece", "body", "I", false)
  | 4 => ("RecordBench$Piece", "end", "I", false)
  | 5 => ("RecordBench$Piece", "fault", "I", false)
  | 6 => ("RecordBench$Piece", "pos", "I", false)
  | _ => ("RecordBench$Piece", "broken", "Z", false)
def tyX2 : Nat → FieldType := fun k => match k with
  | 0 => .int
  | 1 => .boolean
  | 2 => .long
  | 3 => .int
  | 4 => .int
  | 5 => .int
  | 6 => .int
  | _ => .boolean
abbrev wsX20 : List Cond := u_ws RX2 TX2 8
theorem nmX2 : ∀ a, a < 8 → ∀ b, b < 8 → a ≠ b → (TX2 a).2.1 ≠ (TX2 b).2.1 := by decide +kernel
theorem tyX2_ok : ∀ k, k < 8 → parseFieldDescriptor (TX2 k).2.2.1 = some (tyX2 k) := by decide +kernel
abbrev cX2_init : ByteArray := prog_4_method_1_code
def yX2_init : MethodName := ⟨RX2, "<init>", "()V"⟩
abbrev cX2_look : ByteArray := prog_4_method_2_code
def yX2_look : MethodName := ⟨RX2, "look", "(LRecordBench$Row;II)V"⟩
abbrev cX2_place : ByteArray := prog_4_method_3_code
def yX2_place : MethodName := ⟨RX2, "place", "(JI)V"⟩
abbrev cX2_takeVarint : ByteArray := prog_4_method_4_code
def yX2_takeVarint : MethodName := ⟨RX2, "takeVarint", "(LRecordBench$Row;I)J"⟩
abbrev cX2_asNumber : ByteArray := prog_4_method_5_code
def yX2_asNumber : MethodName := ⟨RX2, "asNumber", "()J"⟩
abbrev cX2_tells : ByteArray := prog_4_method_6_code
def yX2_tells : MethodName := ⟨RX2, "tells", "()J"⟩
def RX3 : String := "RecordBench$RecordReader"
def TX3 : u_T := fun k => match k with
  | 0 => ("RecordBench$RecordReader", "makes", "[LRecordBench$Make;", true)
  | 1 => ("RecordBench$RecordReader", "pieces", "[LRecordBench$Piece;", true)
  | 2 => ("RecordBench$RecordReader", "fault", "I", false)
  | _ => ("RecordBench$RecordReader", "place", "I", false)
def tyX3 : Nat → FieldType := fun k => match k with
  | 0 => .array (.object "RecordBench$Make")
  | 1 => .array (.object "RecordBench$Piece")
  | 2 => .int
  | _ => .int
abbrev wsX30 : List Cond := u_ws RX3 TX3 4
theorem nmX3 : ∀ a, a < 4 → ∀ b, b < 4 → a ≠ b → (TX3 a).2.1 ≠ (TX3 b).2.1 := by decide +kernel
theorem tyX3_ok : ∀ k, k < 4 → parseFieldDescriptor (TX3 k).2.2.1 = some (tyX3 k) := by decide +kernel
abbrev cX3_init : ByteArray := prog_5_method_1_code
def yX3_init : MethodName := ⟨RX3, "<init>", "([LRecordBench$Make;)V"⟩
abbrev cX3_faultFound : ByteArray := prog_5_method_2_code
def yX3_faultFound : MethodName := ⟨RX3, "faultFound", "()I"⟩
abbrev cX3_placeFound : ByteArray := prog_5_method_3_code
def yX3_placeFound : MethodName := ⟨RX3, "placeFound", "()I"⟩
abbrev cX3_isSound : ByteArray := prog_5_method_4_code
def yX3_isSound : MethodName := ⟨RX3, "isSound", "(LRecordBench$Row;LRecordBench$Make;)Z"⟩
abbrev cX3_scan : ByteArray := prog_5_method_5_code
def yX3_scan : MethodName := ⟨RX3, "scan", "(LRecordBench$Row;IILRecordBench$Make;I)Z"⟩
abbrev cX3_refuse : ByteArray := prog_5_method_6_code
def yX3_refuse : MethodName := ⟨RX3, "refuse", "(II)Z"⟩
abbrev cX3_faultOf : ByteArray := prog_5_method_7_code
def yX3_faultOf : MethodName := ⟨RX3, "faultOf", "(LRecordBench$Piece;LRecordBench$Field;LRecordBench$Row;II)I"⟩
abbrev cX3_fits : ByteArray := prog_5_method_8_code
def yX3_fits : MethodName := ⟨RX3, "fits", "(LRecordBench$Piece;LRecordBench$Field;LRecordBench$Row;)Z"⟩
abbrev cX3_isRec : ByteArray := prog_5_method_9_code
def yX3_isRec : MethodName := ⟨RX3, "isRec", "(LRecordBench$Field;)Z"⟩
abbrev cX3_groupBit : ByteArray := prog_5_method_10_code
def yX3_groupBit : MethodName := ⟨RX3, "groupBit", "(LRecordBench$Field;)I"⟩
abbrev cX3_countPieces : ByteArray := prog_5_method_11_code
def yX3_countPieces : MethodName := ⟨RX3, "countPieces", "(LRecordBench$Row;LRecordBench$Make;Z)I"⟩
abbrev cX3_find : ByteArray := prog_5_method_12_code
def yX3_find : MethodName := ⟨RX3, "find", "(LRecordBench$Row;I)LRecordBench$Piece;"⟩
def RX4 : String := "RecordBench$RecordWriter"
def TX4 : u_T := fun k => match k with
  | 0 => ("RecordBench$RecordWriter", "makes", "[LRecordBench$Make;", true)
  | 1 => ("RecordBench$RecordWriter", "pieces", "[LRecordBench$Piece;", true)
  | _ => ("RecordBench$RecordWriter", "nothing", "LRecordBench$Row;", true)
def tyX4 : Nat → FieldType := fun k => match k with
  | 0 => .array (.object "RecordBench$Make")
  | 1 => .array (.object "RecordBench$Piece")
  | _ => .object "RecordBench$Row"
abbrev wsX40 : List Cond := u_ws RX4 TX4 3
theorem nmX4 : ∀ a, a < 3 → ∀ b, b < 3 → a ≠ b → (TX4 a).2.1 ≠ (TX4 b).2.1 := by decide +kernel
theorem tyX4_ok : ∀ k, k < 3 → parseFieldDescriptor (TX4 k).2.2.1 = some (tyX4 k) := by decide +kernel
abbrev cX4_init : ByteArray := prog_6_method_1_code
def yX4_init : MethodName := ⟨RX4, "<init>", "([LRecordBench$Make;)V"⟩
abbrev cX4_rewrite : ByteArray := prog_6_method_2_code
def yX4_rewrite : MethodName := ⟨RX4, "rewrite", "(LRecordBench$Row;LRecordBench$Make;LRecordBench$Row;)V"⟩
abbrev cX4_rewriteWith : ByteArray := prog_6_method_3_code
def yX4_rewriteWith : MethodName := ⟨RX4, "rewriteWith", "(LRecordBench$Row;LRecordBench$Make;IILRecordBench$Row;LRecordBench$Row;)V"⟩
abbrev cX4_copyAll : ByteArray := prog_6_method_4_code
def yX4_copyAll : MethodName := ⟨RX4, "copyAll", "(LRecordBench$Row;IILRecordBench$Make;LRecordBench$Row;I)V"⟩
abbrev cX4_copyPiece : ByteArray := prog_6_method_5_code
def yX4_copyPiece : MethodName := ⟨RX4, "copyPiece", "(LRecordBench$Row;ILRecordBench$Field;LRecordBench$Row;I)V"⟩
def RX5 : String := "RecordBench$Row"
def TX5 : u_T := fun k => match k with
  | 0 => ("RecordBench$Row", "bytes", "[I", true)
  | _ => ("RecordBench$Row", "size", "I", false)
def tyX5 : Nat → FieldType := fun k => match k with
  | 0 => .array .int
  | _ => .int
abbrev wsX50 : List Cond := u_ws RX5 TX5 2
theorem nmX5 : ∀ a, a < 2 → ∀ b, b < 2 → a ≠ b → (TX5 a).2.1 ≠ (TX5 b).2.1 := by decide +kernel
theorem tyX5_ok : ∀ k, k < 2 → parseFieldDescriptor (TX5 k).2.2.1 = some (tyX5 k) := by decide +kernel
abbrev cX5_init : ByteArray := prog_7_method_1_code
def yX5_init : MethodName := ⟨RX5, "<init>", "(I)V"⟩
abbrev cX5_size : ByteArray := prog_7_method_2_code
def yX5_size : MethodName := ⟨RX5, "size", "()I"⟩
abbrev cX5_byteAt : ByteArray := prog_7_method_3_code
def yX5_byteAt : MethodName := ⟨RX5, "byteAt", "(I)I"⟩
abbrev cX5_cut : ByteArray := prog_7_method_4_code
def yX5_cut : MethodName := ⟨RX5, "cut", "(I)Z"⟩
abbrev cX5_push : ByteArray := prog_7_method_5_code
def yX5_push : MethodName := ⟨RX5, "push", "(I)V"⟩
abbrev cX5_pushWord : ByteArray := prog_7_method_6_code
def yX5_pushWord : MethodName := ⟨RX5, "pushWord", "(I)V"⟩
abbrev cX5_pushVarint : ByteArray := prog_7_method_7_code
def yX5_pushVarint : MethodName := ⟨RX5, "pushVarint", "(J)V"⟩
abbrev cX5_pushNumber : ByteArray := prog_7_method_8_code
def yX5_pushNumber : MethodName := ⟨RX5, "pushNumber", "(J)V"⟩
abbrev cX5_pushKey : ByteArray := prog_7_method_9_code
def yX5_pushKey : MethodName := ⟨RX5, "pushKey", "(LRecordBench$Field;)V"⟩
abbrev cX5_append : ByteArray := prog_7_method_10_code
def yX5_append : MethodName := ⟨RX5, "append", "(LRecordBench$Row;II)V"⟩
abbrev cX5_replace : ByteArray := prog_7_method_11_code
def yX5_replace : MethodName := ⟨RX5, "replace", "(II)V"⟩
abbrev cX5_become : ByteArray := prog_7_method_12_code
def yX5_become : MethodName := ⟨RX5, "become", "(LRecordBench$Row;II)V"⟩
abbrev cX5_isText : ByteArray := prog_7_method_13_code
def yX5_isText : MethodName := ⟨RX5, "isText", "(II)Z"⟩
abbrev cX5_isTextByte : ByteArray := prog_7_method_14_code
def yX5_isTextByte : MethodName := ⟨RX5, "isTextByte", "(I)Z"⟩
def RX6 : String := "RecordBench$TextReader"
def TX6 : u_T := fun k => match k with
  | 0 => ("RecordBench$TextReader", "tape", "LRecordBench$Row;", true)
  | 1 => ("RecordBench$TextReader", "makes", "[LRecordBench$Make;", true)
  | 2 => ("RecordBench$TextReader", "letters", "Ljava/lang/StringBuilder;", true)
  | 3 => ("RecordBench$TextReader", "pos", "I", false)
  | 4 => ("RecordBench$TextReader", "fault", "I", false)
  | _ => ("RecordBench$TextReader", "place", "I", false)
def tyX6 : Nat → FieldType := fun k => match k with
  | 0 => .object "RecordBench$Row"
  | 1 => .array (.object "RecordBench$Make")
  | 2 => .object "java/lang/StringBuilder"
  | 3 => .int
  | 4 => .int
  | _ => .int
abbrev wsX60 : List Cond := u_ws RX6 TX6 6
theorem nmX6 : ∀ a, a < 6 → ∀ b, b < 6 → a ≠ b → (TX6 a).2.1 ≠ (TX6 b).2.1 := by decide +kernel
theorem tyX6_ok : ∀ k, k < 6 → parseFieldDescriptor (TX6 k).2.2.1 = some (tyX6 k) := by decide +kernel
abbrev cX6_init : ByteArray := prog_8_method_1_code
def yX6_init : MethodName := ⟨RX6, "<init>", "(LRecordBench$Row;[LRecordBench$Make;)V"⟩
abbrev cX6_faultFound : ByteArray := prog_8_method_2_code
def yX6_faultFound : MethodName := ⟨RX6, "faultFound", "()I"⟩
abbrev cX6_placeFound : ByteArray := prog_8_method_3_code
def yX6_placeFound : MethodName := ⟨RX6, "placeFound", "()I"⟩
abbrev cX6_tell : ByteArray := prog_8_method_4_code
def yX6_tell : MethodName := ⟨RX6, "tell", "(I)LRecordBench$Make;"⟩
abbrev cX6_refuse : ByteArray := prog_8_method_5_code
def yX6_refuse : MethodName := ⟨RX6, "refuse", "(II)Z"⟩
abbrev cX6_takeField : ByteArray := prog_8_method_6_code
def yX6_takeField : MethodName := ⟨RX6, "takeField", "(ILRecordBench$Make;)Z"⟩
abbrev cX6_takeNumber : ByteArray := prog_8_method_7_code
def yX6_takeNumber : MethodName := ⟨RX6, "takeNumber", "(LRecordBench$Field;LRecordBench$Make;)Z"⟩
abbrev cX6_takeName : ByteArray := prog_8_method_8_code
def yX6_takeName : MethodName := ⟨RX6, "takeName", "(LRecordBench$Field;LRecordBench$Make;)Z"⟩
abbrev cX6_takeKind : ByteArray := prog_8_method_9_code
def yX6_takeKind : MethodName := ⟨RX6, "takeKind", "(LRecordBench$Field;I)Z"⟩
abbrev cX6_takeRec : ByteArray := prog_8_method_10_code
def yX6_takeRec : MethodName := ⟨RX6, "takeRec", "(LRecordBench$Field;I)Z"⟩
abbrev cX6_takeGroup : ByteArray := prog_8_method_11_code
def yX6_takeGroup : MethodName := ⟨RX6, "takeGroup", "(LRecordBench$Field;)Z"⟩
abbrev cX6_takeDefault : ByteArray := prog_8_method_12_code
def yX6_takeDefault : MethodName := ⟨RX6, "takeDefault", "(LRecordBench$Field;)Z"⟩
abbrev cX6_takeValue : ByteArray := prog_8_method_13_code
def yX6_takeValue : MethodName := ⟨RX6, "takeValue", "(LRecordBench$Field;)Z"⟩
abbrev cX6_takeText : ByteArray := prog_8_method_14_code
def yX6_takeText : MethodName := ⟨RX6, "takeText", "(LRecordBench$Field;)Z"⟩
abbrev cX6_takeClose : ByteArray := prog_8_method_15_code
def yX6_takeClose : MethodName := ⟨RX6, "takeClose", "()Z"⟩
abbrev cX6_takeWord : ByteArray := prog_8_method_16_code
def yX6_takeWord : MethodName := ⟨RX6, "takeWord", "()Ljava/lang/String;"⟩
abbrev cX6_skipBlanks : ByteArray := prog_8_method_17_code
def yX6_skipBlanks : MethodName := ⟨RX6, "skipBlanks", "()V"⟩
abbrev cX6_isLetter : ByteArray := prog_8_method_18_code
def yX6_isLetter : MethodName := ⟨RX6, "isLetter", "(I)Z"⟩
abbrev cX6_isDigit : ByteArray := prog_8_method_19_code
def yX6_isDigit : MethodName := ⟨RX6, "isDigit", "(I)Z"⟩
abbrev cX6_digitAt : ByteArray := prog_8_method_20_code
def yX6_digitAt : MethodName := ⟨RX6, "digitAt", "(I)I"⟩
abbrev cX6_isBlank : ByteArray := prog_8_method_21_code
def yX6_isBlank : MethodName := ⟨RX6, "isBlank", "(I)Z"⟩
abbrev cX6_isQuotable : ByteArray := prog_8_method_22_code
def yX6_isQuotable : MethodName := ⟨RX6, "isQuotable", "(I)Z"⟩
abbrev cX6_kindOf : ByteArray := prog_8_method_23_code
def yX6_kindOf : MethodName := ⟨RX6, "kindOf", "(Ljava/lang/String;)I"⟩
def RX7 : String := "RecordBench$Walks"
def TX7 : u_T := fun k => match k with
  | 0 => ("RecordBench$Walks", "makes", "[LRecordBench$Make;", true)
  | _ => ("RecordBench$Walks", "seen", "[I", true)
def tyX7 : Nat → FieldType := fun k => match k with
  | 0 => .array (.object "RecordBench$Make")
  | _ => .array .int
abbrev wsX70 : List Cond := u_ws RX7 TX7 2
theorem nmX7 : ∀ a, a < 2 → ∀ b, b < 2 → a ≠ b → (TX7 a).2.1 ≠ (TX7 b).2.1 := by decide +kernel
theorem tyX7_ok : ∀ k, k < 2 → parseFieldDescriptor (TX7 k).2.2.1 = some (tyX7 k) := by decide +kernel
abbrev cX7_init : ByteArray := prog_9_method_1_code
def yX7_init : MethodName := ⟨RX7, "<init>", "([LRecordBench$Make;)V"⟩
abbrev cX7_breaks : ByteArray := prog_9_method_2_code
def yX7_breaks : MethodName := ⟨RX7, "breaks", "(IIIZI)Z"⟩
abbrev cX7_firstNumber : ByteArray := prog_9_method_3_code
def yX7_firstNumber : MethodName := ⟨RX7, "firstNumber", "(LRecordBench$Make;LRecordBench$Make;LRecordBench$Make;ZI)I"⟩
abbrev cX7_whyBy : ByteArray := prog_9_method_4_code
def yX7_whyBy : MethodName := ⟨RX7, "whyBy", "(ILRecordBench$Make;LRecordBench$Make;LRecordBench$Make;ZI)I"⟩
abbrev cX7_isOtherSort : ByteArray := prog_9_method_5_code
def yX7_isOtherSort : MethodName := ⟨RX7, "isOtherSort", "(LRecordBench$Field;LRecordBench$Field;)Z"⟩
abbrev cX7_isNarrower : ByteArray := prog_9_method_6_code
def yX7_isNarrower : MethodName := ⟨RX7, "isNarrower", "(LRecordBench$Field;LRecordBench$Field;)Z"⟩
abbrev cX7_isCrowded : ByteArray := prog_9_method_7_code
def yX7_isCrowded : MethodName := ⟨RX7, "isCrowded", "(LRecordBench$Field;LRecordBench$Make;LRecordBench$Make;)Z"⟩
abbrev cX7_recBreaks : ByteArray := prog_9_method_8_code
def yX7_recBreaks : MethodName := ⟨RX7, "recBreaks", "(LRecordBench$Field;LRecordBench$Field;LRecordBench$Field;ZI)Z"⟩
def RX8 : String := "RecordBench"
def TX8 : u_T := fun k => match k with
  | 0 => ("RecordBench", "tape", "LRecordBench$Row;", true)
  | 1 => ("RecordBench", "records", "[LRecordBench$Row;", true)
  | 2 => ("RecordBench", "makes", "[LRecordBench$Make;", true)
  | 3 => ("RecordBench", "texts", "LRecordBench$TextReader;", true)
  | 4 => ("RecordBench", "reader", "LRecordBench$RecordReader;", true)
  | 5 => ("RecordBench", "writer", "LRecordBench$RecordWriter;", true)
  | 6 => ("RecordBench", "walks", "LRecordBench$Walks;", true)
  | 7 => ("RecordBench", "fresh", "LRecordBench$Row;", true)
  | 8 => ("RecordBench", "work", "LRecordBench$Row;", true)
  | 9 => ("RecordBench", "latestFault", "I", false)
  | 10 => ("RecordBench", "latestPlace", "I", false)
  | _ => ("RecordBench", "latestNumber", "I", false)
def tyX8 : Nat → FieldType := fun k => match k with
  | 0 => .object "RecordBench$Row"
  | 1 => .array (.object "RecordBench$Row")
  | 2 => .array (.object "RecordBench$Make")
  | 3 => .object "RecordBench$TextReader"
  | 4 => .object "RecordBench$RecordReader"
  | 5 => .object "RecordBench$RecordWriter"
  | 6 => .object "RecordBench$Walks"
  | 7 => .object "RecordBench$Row"
  | 8 => .object "RecordBench$Row"
  | 9 => .int
  | 10 => .int
  | _ => .int
abbrev wsX80 : List Cond := u_ws RX8 TX8 12
theorem nmX8 : ∀ a, a < 12 → ∀ b, b < 12 → a ≠ b → (TX8 a).2.1 ≠ (TX8 b).2.1 := by decide +kernel
theorem tyX8_ok : ∀ k, k < 12 → parseFieldDescriptor (TX8 k).2.2.1 = some (tyX8 k) := by decide +kernel
abbrev cX8_init : ByteArray := prog_1_method_1_code
def yX8_init : MethodName := ⟨RX8, "<init>", "()V"⟩
abbrev cX8_feed : ByteArray := prog_1_method_2_code
def yX8_feed : MethodName := ⟨RX8, "feed", "(IIIII)I"⟩
abbrev cX8_end : ByteArray := prog_1_method_3_code
def yX8_end : MethodName := ⟨RX8, "end", "(I)Z"⟩
abbrev cX8_make : ByteArray := prog_1_method_4_code
def yX8_make : MethodName := ⟨RX8, "make", "(I)I"⟩
abbrev cX8_fault : ByteArray := prog_1_method_5_code
def yX8_fault : MethodName := ⟨RX8, "fault", "(I)I"⟩
abbrev cX8_field : ByteArray := prog_1_method_6_code
def yX8_field : MethodName := ⟨RX8, "field", "(III)I"⟩
abbrev cX8_plain : ByteArray := prog_1_method_7_code
def yX8_plain : MethodName := ⟨RX8, "plain", "(II)J"⟩
abbrev cX8_clear : ByteArray := prog_1_method_8_code
def yX8_clear : MethodName := ⟨RX8, "clear", "(I)I"⟩
abbrev cX8_load : ByteArray := prog_1_method_9_code
def yX8_load : MethodName := ⟨RX8, "load", "(I)I"⟩
abbrev cX8_set : ByteArray := prog_1_method_10_code
def yX8_set : MethodName := ⟨RX8, "set", "(IIIJ)I"⟩
abbrev cX8_say : ByteArray := prog_1_method_11_code
def yX8_say : MethodName := ⟨RX8, "say", "(III)I"⟩
abbrev cX8_nest : ByteArray := prog_1_method_12_code
def yX8_nest : MethodName := ⟨RX8, "nest", "(IIII)I"⟩
abbrev cX8_drop : ByteArray := prog_1_method_13_code
def yX8_drop : MethodName := ⟨RX8, "drop", "(III)I"⟩
abbrev cX8_read : ByteArray := prog_1_method_14_code
def yX8_read : MethodName := ⟨RX8, "read", "(II)I"⟩
abbrev cX8_get : ByteArray := prog_1_method_15_code
def yX8_get : MethodName := ⟨RX8, "get", "(IIII)J"⟩
abbrev cX8_kept : ByteArray := prog_1_method_16_code
def yX8_kept : MethodName := ⟨RX8, "kept", "(II)I"⟩
abbrev cX8_write : ByteArray := prog_1_method_17_code
def yX8_write : MethodName := ⟨RX8, "write", "(III)I"⟩
abbrev cX8_at : ByteArray := prog_1_method_18_code
def yX8_at : MethodName := ⟨RX8, "at", "(II)I"⟩
abbrev cX8_open : ByteArray := prog_1_method_19_code
def yX8_open : MethodName := ⟨RX8, "open", "(IIII)I"⟩
abbrev cX8_step : ByteArray := prog_1_method_20_code
def yX8_step : MethodName := ⟨RX8, "step", "(II)I"⟩
abbrev cX8_walk : ByteArray := prog_1_method_21_code
def yX8_walk : MethodName := ⟨RX8, "walk", "(III)I"⟩
abbrev cX8_by : ByteArray := prog_1_method_22_code
def yX8_by : MethodName := ⟨RX8, "by", "()I"⟩
abbrev cX8_readers : ByteArray := prog_1_method_23_code
def yX8_readers : MethodName := ⟨RX8, "readers", "(I)I"⟩
abbrev cX8_lookAlong : ByteArray := prog_1_method_24_code
def yX8_lookAlong : MethodName := ⟨RX8, "lookAlong", "(III)I"⟩
abbrev cX8_settle : ByteArray := prog_1_method_25_code
def yX8_settle : MethodName := ⟨RX8, "settle", "(LRecordBench$Row;LRecordBench$Make;II)I"⟩
abbrev cX8_recordOf : ByteArray := prog_1_method_26_code
def yX8_recordOf : MethodName := ⟨RX8, "recordOf", "(I)LRecordBench$Row;"⟩
abbrev cX8_fieldOf : ByteArray := prog_1_method_27_code
def yX8_fieldOf : MethodName := ⟨RX8, "fieldOf", "(II)LRecordBench$Field;"⟩
abbrev cX8_makeOf : ByteArray := prog_1_method_28_code
def yX8_makeOf : MethodName := ⟨RX8, "makeOf", "([LRecordBench$Make;I)LRecordBench$Make;"⟩
def RX9 : String := "RecordBenchModel"
def TX9 : u_T := fun k => match k with
  | 0 => ("RecordBenchModel", "told", "[Z", true)
  | 1 => ("RecordBenchModel", "kind", "[I", true)
  | 2 => ("RecordBenchModel", "group", "[I", true)
  | 3 => ("RecordBenchModel", "inner", "[I", true)
  | 4 => ("RecordBenchModel", "letters", "[I", true)
  | 5 => ("RecordBenchModel", "name", "[J", true)
  | 6 => ("RecordBenchModel", "plain", "[J", true)
  | 7 => ("RecordBenchModel", "plainText", "[I", true)
  | 8 => ("RecordBenchModel", "isThere", "[Z", true)
  | 9 => ("RecordBenchModel", "tape", "[I", true)
  | 10 => ("RecordBenchModel", "taped", "I", false)
  | 11 => ("RecordBenchModel", "at", "I", false)
  | 12 => ("RecordBenchModel", "size", "I", false)
  | 13 => ("RecordBenchModel", "bad", "I", false)
  | 14 => ("RecordBenchModel", "badPlace", "I", false)
  | 15 => ("RecordBenchModel", "fault", "I", false)
  | 16 => ("RecordBenchModel", "faultPlace", "I", false)
  | 17 => ("RecordBenchModel", "begun", "I", false)
  | 18 => ("RecordBenchModel", "ended", "I", false)
  | 19 => ("RecordBenchModel", "goneWord", "J", true)
  | 20 => ("RecordBenchModel", "flagWord", "J", true)
  | 21 => ("RecordBenchModel", "smallWord", "J", true)
  | 22 => ("RecordBenchModel", "intWord", "J", true)
  | 23 => ("RecordBenchModel", "longWord", "J", true)
  | 24 => ("RecordBenchModel", "textWord", "J", true)
  | 25 => ("RecordBenchModel", "recWord", "J", true)
  | 26 => ("RecordBenchModel", "inWord", "J", true)
  | 27 => ("RecordBenchModel", "fields", "I", false)
  | 28 => ("RecordBenchModel", "bytes", "[I", true)
  | 29 => ("RecordBenchModel", "long0", "[I", true)
  | 30 => ("RecordBenchModel", "row", "[I", true)
  | 31 => ("RecordBenchModel", "varint", "J", false)
  | 32 => ("RecordBenchModel", "varintEnd", "I", false)
  | 33 => ("RecordBenchModel", "number", "I", false)
  | 34 => ("RecordBenchModel", "isLong", "Z", false)
  | 35 => ("RecordBenchModel", "from", "I", false)
  | 36 => ("RecordBenchModel", "to", "I", false)
  | 37 => ("RecordBenchModel", "value", "J", false)
  | 38 => ("RecordBenchModel", "pieceFault", "I", false)
  | 39 => ("RecordBenchModel", "readFault", "I", false)
  | 40 => ("RecordBenchModel", "readPlace", "I", false)
  | 41 => ("RecordBenchModel", "pieces", "I", false)
  | 42 => ("RecordBenchModel", "pieceNumber", "[I", true)
  | 43 => ("RecordBenchModel", "pieceBegin", "[I", true)
  | 44 => ("RecordBenchModel", "pieceFrom", "[I", true)
  | 45 => ("RecordBenchModel", "pieceTo", "[I", true)
  | 46 => ("RecordBenchModel", "pieceValue", "[J", true)
  | 47 => ("RecordBenchModel", "pileMake", "[I", true)
  | 48 => ("RecordBenchModel", "pileAt", "[I", true)
  | 49 => ("RecordBenchModel", "pileEnd", "[I", true)
  | 50 => ("RecordBenchModel", "pileLast", "[I", true)
  | 51 => ("RecordBenchModel", "pileGroups", "[I", true)
  | 52 => ("RecordBenchModel", "laid", "[I", true)
  | 53 => ("RecordBenchModel", "laidLong", "[I", true)
  | 54 => ("RecordBenchModel", "levelKey", "[I", true)
  | 55 => ("RecordBenchModel", "fresh", "[I", true)
  | 56 => ("RecordBenchModel", "freshLong", "I", false)
  | 57 => ("RecordBenchModel", "why", "[I", true)
  | 58 => ("RecordBenchModel", "byNumber", "[I", true)
  | _ => ("RecordBenchModel", "by", "I", false)
def tyX9 : Nat → FieldType := fun k => match k with
  | 0 => .array .boolean
  | 1 => .array .int
  | 2 => .array .int
  | 3 => .array .int
  | 4 => .array .int
  | 5 => .array .long
  | 6 => .array .long
  | 7 => .array .int
  | 8 => .array .boolean
  | 9 => .array .int
  | 10 => .int
  | 11 => .int
  | 12 => .int
  | 13 => .int
  | 14 => .int
  | 15 => .int
  | 16 => .int
  | 17 => .int
  | 18 => .int
  | 19 => .long
  | 20 => .long
  | 21 => .long
  | 22 => .long
  | 23 => .long
  | 24 => .long
  | 25 => .long
  | 26 => .long
  | 27 => .int
  | 28 => .array .int
  | 29 => .array .int
  | 30 => .array .int
  | 31 => .long
  | 32 => .int
  | 33 => .int
  | 34 => .boolean
  | 35 => .int
  | 36 => .int
  | 37 => .long
  | 38 => .int
  | 39 => .int
  | 40 => .int
  | 41 => .int
  | 42 => .array .int
  | 43 => .array .int
  | 44 => .array .int
  | 45 => .array .int
  | 46 => .array .long
  | 47 => .array .int
  | 48 => .array .int
  | 49 => .array .int
  | 50 => .array .int
  | 51 => .array .int
  | 52 => .array .int
  | 53 => .array .int
  | 54 => .array .int
  | 55 => .array .int
  | 56 => .int
  | 57 => .array .int
  | 58 => .array .int
  | _ => .int
abbrev wsX90 : List Cond := u_ws RX9 TX9 60
theorem nmX9 : ∀ a, a < 60 → ∀ b, b < 60 → a ≠ b → (TX9 a).2.1 ≠ (TX9 b).2.1 := by decide +kernel
theorem tyX9_ok : ∀ k, k < 60 → parseFieldDescriptor (TX9 k).2.2.1 = some (tyX9 k) := by decide +kernel
abbrev cX9_init : ByteArray := prog_11_method_1_code
def yX9_init : MethodName := ⟨RX9, "<init>", "()V"⟩
abbrev cX9_isMake : ByteArray := prog_11_method_2_code
def yX9_isMake : MethodName := ⟨RX9, "isMake", "(I)Z"⟩
abbrev cX9_has : ByteArray := prog_11_method_3_code
def yX9_has : MethodName := ⟨RX9, "has", "(II)Z"⟩
abbrev cX9_feed : ByteArray := prog_11_method_4_code
def yX9_feed : MethodName := ⟨RX9, "feed", "(IIIII)I"⟩
abbrev cX9_end : ByteArray := prog_11_method_5_code
def yX9_end : MethodName := ⟨RX9, "end", "(I)Z"⟩
abbrev cX9_fail : ByteArray := prog_11_method_6_code
def yX9_fail : MethodName := ⟨RX9, "fail", "(II)V"⟩
abbrev cX9_isLetter : ByteArray := prog_11_method_7_code
def yX9_isLetter : MethodName := ⟨RX9, "isLetter", "(I)Z"⟩
abbrev cX9_isDigit : ByteArray := prog_11_method_8_code
def yX9_isDigit : MethodName := ⟨RX9, "isDigit", "(I)Z"⟩
abbrev cX9_next : ByteArray := prog_11_method_9_code
def yX9_next : MethodName := ⟨RX9, "next", "()I"⟩
abbrev cX9_sign : ByteArray := prog_11_method_10_code
def yX9_sign : MethodName := ⟨RX9, "sign", "(I)V"⟩
abbrev cX9_number : ByteArray := prog_11_method_11_code
def yX9_number : MethodName := ⟨RX9, "number", "(III)I"⟩
abbrev cX9_digit : ByteArray := prog_11_method_12_code
def yX9_digit : MethodName := ⟨RX9, "digit", "()I"⟩
abbrev cX9_ends : ByteArray := prog_11_method_13_code
def yX9_ends : MethodName := ⟨RX9, "ends", "()V"⟩
abbrev cX9_wordEnd : ByteArray := prog_11_method_14_code
def yX9_wordEnd : MethodName := ⟨RX9, "wordEnd", "()I"⟩
abbrev cX9_packed : ByteArray := prog_11_method_15_code
def yX9_packed : MethodName := ⟨RX9, "packed", "(CCCCC)J"⟩
abbrev cX9_word : ByteArray := prog_11_method_16_code
def yX9_word : MethodName := ⟨RX9, "word", "()J"⟩
abbrev cX9_takes : ByteArray := prog_11_method_17_code
def yX9_takes : MethodName := ⟨RX9, "takes", "()V"⟩
abbrev cX9_kindOf : ByteArray := prog_11_method_18_code
def yX9_kindOf : MethodName := ⟨RX9, "kindOf", "(J)I"⟩
abbrev cX9_field : ByteArray := prog_11_method_19_code
def yX9_field : MethodName := ⟨RX9, "field", "(I)V"⟩
abbrev cX9_kinds : ByteArray := prog_11_method_20_code
def yX9_kinds : MethodName := ⟨RX9, "kinds", "(III)V"⟩
abbrev cX9_isOf : ByteArray := prog_11_method_21_code
def yX9_isOf : MethodName := ⟨RX9, "isOf", "(JI)Z"⟩
abbrev cX9_value : ByteArray := prog_11_method_22_code
def yX9_value : MethodName := ⟨RX9, "value", "(II)V"⟩
abbrev cX9_textValue : ByteArray := prog_11_method_23_code
def yX9_textValue : MethodName := ⟨RX9, "textValue", "(I)V"⟩
abbrev cX9_make : ByteArray := prog_11_method_24_code
def yX9_make : MethodName := ⟨RX9, "make", "(I)I"⟩
abbrev cX9_fault : ByteArray := prog_11_method_25_code
def yX9_fault : MethodName := ⟨RX9, "fault", "(I)I"⟩
abbrev cX9_isField : ByteArray := prog_11_method_26_code
def yX9_isField : MethodName := ⟨RX9, "isField", "(II)Z"⟩
abbrev cX9_field_ : ByteArray := prog_11_method_27_code
def yX9_field_ : MethodName := ⟨RX9, "field", "(III)I"⟩
abbrev cX9_plain : ByteArray := prog_11_method_28_code
def yX9_plain : MethodName := ⟨RX9, "plain", "(II)J"⟩
abbrev cX9_isRecord : ByteArray := prog_11_method_29_code
def yX9_isRecord : MethodName := ⟨RX9, "isRecord", "(I)Z"⟩
abbrev cX9_clear : ByteArray := prog_11_method_30_code
def yX9_clear : MethodName := ⟨RX9, "clear", "(I)I"⟩
abbrev cX9_load : ByteArray := prog_11_method_31_code
def yX9_load : MethodName := ⟨RX9, "load", "(I)I"⟩
abbrev cX9_at : ByteArray := prog_11_method_32_code
def yX9_at : MethodName := ⟨RX9, "at", "(II)I"⟩
abbrev cX9_varint : ByteArray := prog_11_method_33_code
def yX9_varint : MethodName := ⟨RX9, "varint", "(II)Z"⟩
abbrev cX9_piece : ByteArray := prog_11_method_34_code
def yX9_piece : MethodName := ⟨RX9, "piece", "(IIIII)V"⟩
abbrev cX9_isText : ByteArray := prog_11_method_35_code
def yX9_isText : MethodName := ⟨RX9, "isText", "([III)Z"⟩
abbrev cX9_reads : ByteArray := prog_11_method_36_code
def yX9_reads : MethodName := ⟨RX9, "reads", "(II)Z"⟩
abbrev cX9_opens : ByteArray := prog_11_method_37_code
def yX9_opens : MethodName := ⟨RX9, "opens", "(IIII)V"⟩
abbrev cX9_loads : ByteArray := prog_11_method_38_code
def yX9_loads : MethodName := ⟨RX9, "loads", "(I)V"⟩
abbrev cX9_isRead : ByteArray := prog_11_method_39_code
def yX9_isRead : MethodName := ⟨RX9, "isRead", "(II)Z"⟩
abbrev cX9_read : ByteArray := prog_11_method_40_code
def yX9_read : MethodName := ⟨RX9, "read", "(II)I"⟩
abbrev cX9_kept : ByteArray := prog_11_method_41_code
def yX9_kept : MethodName := ⟨RX9, "kept", "(II)I"⟩
abbrev cX9_pieceOf : ByteArray := prog_11_method_42_code
def yX9_pieceOf : MethodName := ⟨RX9, "pieceOf", "(I)I"⟩
abbrev cX9_get : ByteArray := prog_11_method_43_code
def yX9_get : MethodName := ⟨RX9, "get", "(IIII)J"⟩
abbrev cX9_lays : ByteArray := prog_11_method_44_code
def yX9_lays : MethodName := ⟨RX9, "lays", "(II)V"⟩
abbrev cX9_laysVarint : ByteArray := prog_11_method_45_code
def yX9_laysVarint : MethodName := ⟨RX9, "laysVarint", "(IJ)V"⟩
abbrev cX9_folded : ByteArray := prog_11_method_46_code
def yX9_folded : MethodName := ⟨RX9, "folded", "(J)J"⟩
abbrev cX9_writes : ByteArray := prog_11_method_47_code
def yX9_writes : MethodName := ⟨RX9, "writes", "(II)V"⟩
abbrev cX9_comes : ByteArray := prog_11_method_48_code
def yX9_comes : MethodName := ⟨RX9, "comes", "(I)V"⟩
abbrev cX9_write : ByteArray := prog_11_method_49_code
def yX9_write : MethodName := ⟨RX9, "write", "(III)I"⟩
abbrev cX9_keepsFresh : ByteArray := prog_11_method_50_code
def yX9_keepsFresh : MethodName := ⟨RX9, "keepsFresh", "()V"⟩
abbrev cX9_puts : ByteArray := prog_11_method_51_code
def yX9_puts : MethodName := ⟨RX9, "puts", "(III)I"⟩
abbrev cX9_set : ByteArray := prog_11_method_52_code
def yX9_set : MethodName := ⟨RX9, "set", "(IIIJ)I"⟩
abbrev cX9_say : ByteArray := prog_11_method_53_code
def yX9_say : MethodName := ⟨RX9, "say", "(III)I"⟩
abbrev cX9_nest : ByteArray := prog_11_method_54_code
def yX9_nest : MethodName := ⟨RX9, "nest", "(IIII)I"⟩
abbrev cX9_drop : ByteArray := prog_11_method_55_code
def yX9_drop : MethodName := ⟨RX9, "drop", "(III)I"⟩
abbrev cX9_open : ByteArray := prog_11_method_56_code
def yX9_open : MethodName := ⟨RX9, "open", "(IIII)I"⟩
abbrev cX9_place : ByteArray := prog_11_method_57_code
def yX9_place : MethodName := ⟨RX9, "place", "(IIII)I"⟩
abbrev cX9_sortOf : ByteArray := prog_11_method_58_code
def yX9_sortOf : MethodName := ⟨RX9, "sortOf", "(II)I"⟩
abbrev cX9_isOther : ByteArray := prog_11_method_59_code
def yX9_isOther : MethodName := ⟨RX9, "isOther", "(III)Z"⟩
abbrev cX9_isNarrower : ByteArray := prog_11_method_60_code
def yX9_isNarrower : MethodName := ⟨RX9, "isNarrower", "(III)Z"⟩
abbrev cX9_differs : ByteArray := prog_11_method_61_code
def yX9_differs : MethodName := ⟨RX9, "differs", "(III)Z"⟩
abbrev cX9_isMated : ByteArray := prog_11_method_62_code
def yX9_isMated : MethodName := ⟨RX9, "isMated", "(III)Z"⟩
abbrev cX9_withinOf : ByteArray := prog_11_method_63_code
def yX9_withinOf : MethodName := ⟨RX9, "withinOf", "(IIIII)I"⟩
abbrev cX9_whyOf : ByteArray := prog_11_method_64_code
def yX9_whyOf : MethodName := ⟨RX9, "whyOf", "(IIIII)I"⟩
abbrev cX9_walks : ByteArray := prog_11_method_65_code
def yX9_walks : MethodName := ⟨RX9, "walks", "()V"⟩
abbrev cX9_walk : ByteArray := prog_11_method_66_code
def yX9_walk : MethodName := ⟨RX9, "walk", "(III)I"⟩
abbrev cX9_step : ByteArray := prog_11_method_67_code
def yX9_step : MethodName := ⟨RX9, "step", "(II)I"⟩
abbrev cX9_by : ByteArray := prog_11_method_68_code
def yX9_by : MethodName := ⟨RX9, "by", "()I"⟩
abbrev cX9_readers : ByteArray := prog_11_method_69_code
def yX9_readers : MethodName := ⟨RX9, "readers", "(I)I"⟩
def RJ5 : String := "java/lang/AbstractStringBuilder"
def TJ5 : u_T := fun k => match k with
  | _ => ("", "", "", false)
def tyJ5 : Nat → FieldType := fun k => match k with
  | _ => .int
abbrev wsJ50 : List Cond := u_ws RJ5 TJ5 0
theorem nmJ5 : ∀ a, a < 0 → ∀ b, b < 0 → a ≠ b → (TJ5 a).2.1 ≠ (TJ5 b).2.1 := by decide +kernel
theorem tyJ5_ok : ∀ k, k < 0 → parseFieldDescriptor (TJ5 k).2.2.1 = some (tyJ5 k) := by decide +kernel
abbrev cJ5_init_d00df : ByteArray := prog_12_method_2_code
def yJ5_init_d00df : MethodName := ⟨RJ5, "<init>", "(I)V"⟩
abbrev cJ5_length_8abf5 : ByteArray := prog_12_method_6_code
def yJ5_length_8abf5 : MethodName := ⟨RJ5, "length", "()I"⟩
abbrev cJ5_ensureCapacityInternal_d00df : ByteArray := prog_12_method_9_code
def yJ5_ensureCapacityInternal_d00df : MethodName := ⟨RJ5, "ensureCapacityInternal", "(I)V"⟩
abbrev cJ5_newCapacity_0f7a4 : ByteArray := prog_12_method_10_code
def yJ5_newCapacity_0f7a4 : MethodName := ⟨RJ5, "newCapacity", "(I)I"⟩
abbrev cJ5_inflate_da8c8 : ByteArray := prog_12_method_11_code
def yJ5_inflate_da8c8 : MethodName := ⟨RJ5, "inflate", "()V"⟩
abbrev cJ5_setLength_d00df : ByteArray := prog_12_method_13_code
def yJ5_setLength_d00df : MethodName := ⟨RJ5, "setLength", "(I)V"⟩
abbrev cJ5_append_3fe6f : ByteArray := prog_12_method_31_code
def yJ5_append_3fe6f : MethodName := ⟨RJ5, "append", "(C)Ljava/lang/AbstractStringBuilder;"⟩
abbrev cJ5_getValue_6d5f1 : ByteArray := prog_12_method_64_code
def yJ5_getValue_6d5f1 : MethodName := ⟨RJ5, "getValue", "()[B"⟩
abbrev cJ5_isLatin1_aae02 : ByteArray := prog_12_method_68_code
def yJ5_isLatin1_aae02 : MethodName := ⟨RJ5, "isLatin1", "()Z"⟩
def RJx8e188 : String := "java/lang/Cloneable"
def TJx8e188 : u_T := fun k => match k with
  | _ => ("", "", "", false)
def tyJx8e188 : Nat → FieldType := fun k => match k with
  | _ => .int
abbrev wsJx8e1880 : List Cond := u_ws RJx8e188 TJx8e188 0
theorem nmJx8e188 : ∀ a, a < 0 → ∀ b, b < 0 → a ≠ b → (TJx8e188 a).2.1 ≠ (TJx8e188 b).2.1 := by decide +kernel
theorem tyJx8e188_ok : ∀ k, k < 0 → parseFieldDescriptor (TJx8e188 k).2.2.1 = some (tyJx8e188 k) := by decide +kernel
def RJ9 : String := "java/lang/Math"
def TJ9 : u_T := fun k => match k with
  | _ => ("", "", "", false)
def tyJ9 : Nat → FieldType := fun k => match k with
  | _ => .int
abbrev wsJ90 : List Cond := u_ws RJ9 TJ9 0
theorem nmJ9 : ∀ a, a < 0 → ∀ b, b < 0 → a ≠ b → (TJ9 a).2.1 ≠ (TJ9 b).2.1 := by decide +kernel
theorem tyJ9_ok : ∀ k, k < 0 → parseFieldDescriptor (TJ9 k).2.2.1 = some (tyJ9 k) := by decide +kernel
abbrev cJ9_max_7cf53 : ByteArray := prog_14_method_65_code
def yJ9_max_7cf53 : MethodName := ⟨RJ9, "max", "(II)I"⟩
abbrev cJ9_min_7cf53 : ByteArray := prog_14_method_69_code
def yJ9_min_7cf53 : MethodName := ⟨RJ9, "min", "(II)I"⟩
def RJ0 : String := "java/lang/String"
def TJ0 : u_T := fun k => match k with
  | 0 => ("java/lang/String", "value", "[B", true)
  | 1 => ("java/lang/String", "coder", "B", true)
  | 2 => ("java/lang/String", "hash", "I", false)
  | _ => ("java/lang/String", "hashIsZero", "Z", false)
def tyJ0 : Nat → FieldType := fun k => match k with
  | 0 => .array .byte
  | 1 => .byte
  | 2 => .int
  | _ => .boolean
abbrev wsJ00 : List Cond := u_ws RJ0 TJ0 4
theorem nmJ0 : ∀ a, a < 4 → ∀ b, b < 4 → a ≠ b → (TJ0 a).2.1 ≠ (TJ0 b).2.1 := by decide +kernel
theorem tyJ0_ok : ∀ k, k < 4 → parseFieldDescriptor (TJ0 k).2.2.1 = some (tyJ0 k) := by decide +kernel
abbrev cJ0_init_81219 : ByteArray := prog_15_method_53_code
def yJ0_init_81219 : MethodName := ⟨RJ0, "<init>", "(Ljava/lang/StringBuilder;)V"⟩
abbrev cJ0_length_8abf5 : ByteArray := prog_15_method_54_code
def yJ0_length_8abf5 : MethodName := ⟨RJ0, "length", "()I"⟩
abbrev cJ0_isEmpty_aae02 : ByteArray := prog_15_method_55_code
def yJ0_isEmpty_aae02 : MethodName := ⟨RJ0, "isEmpty", "()Z"⟩
abbrev cJ0_equals_9ea2d : ByteArray := prog_15_method_66_code
def yJ0_equals_9ea2d : MethodName := ⟨RJ0, "equals", "(Ljava/lang/Object;)Z"⟩
abbrev cJ0_init_db425 : ByteArray := prog_15_method_150_code
def yJ0_init_db425 : MethodName := ⟨RJ0, "<init>", "(Ljava/lang/AbstractStringBuilder;Ljava/lang/Void;)V"⟩
abbrev cJ0_coder_7d493 : ByteArray := prog_15_method_152_code
def yJ0_coder_7d493 : MethodName := ⟨RJ0, "coder", "()B"⟩
abbrev cJ0_checkIndex_df160 : ByteArray := prog_15_method_155_code
def yJ0_checkIndex_df160 : MethodName := ⟨RJ0, "checkIndex", "(II)V"⟩
abbrev cJ0_checkBoundsOffCount_cabcc : ByteArray := prog_15_method_157_code
def yJ0_checkBoundsOffCount_cabcc : MethodName := ⟨RJ0, "checkBoundsOffCount", "(III)I"⟩
def RJ4 : String := "java/lang/StringBuilder"
def TJ4 : u_T := fun k => match k with
  | 0 => ("java/lang/AbstractStringBuilder", "value", "[B", false)
  | 1 => ("java/lang/AbstractStringBuilder", "coder", "B", false)
  | 2 => ("java/lang/AbstractStringBuilder", "maybeLatin1", "Z", false)
  | _ => ("java/lang/AbstractStringBuilder", "count", "I", false)
def tyJ4 : Nat → FieldType := fun k => match k with
  | 0 => .array .byte
  | 1 => .byte
  | 2 => .boolean
  | _ => .int
abbrev wsJ40 : List Cond := u_ws RJ4 TJ4 4
theorem nmJ4 : ∀ a, a < 4 → ∀ b, b < 4 → a ≠ b → (TJ4 a).2.1 ≠ (TJ4 b).2.1 := by decide +kernel
theorem tyJ4_ok : ∀ k, k < 4 → parseFieldDescriptor (TJ4 k).2.2.1 = some (tyJ4 k) := by decide +kernel
abbrev cJ4_init_da8c8 : ByteArray := prog_16_method_1_code
def yJ4_init_da8c8 : MethodName := ⟨RJ4, "<init>", "()V"⟩
abbrev cJ4_append_cf468 : ByteArray := prog_16_method_14_code
def yJ4_append_cf468 : MethodName := ⟨RJ4, "append", "(C)Ljava/lang/StringBuilder;"⟩
abbrev cJ4_toString_0e30d : ByteArray := prog_16_method_42_code
def yJ4_toString_0e30d : MethodName := ⟨RJ4, "toString", "()Ljava/lang/String;"⟩
abbrev cJ4_setLength_d00df : ByteArray := prog_16_method_89_code
def yJ4_setLength_d00df : MethodName := ⟨RJ4, "setLength", "(I)V"⟩
abbrev cJ4_length_8abf5 : ByteArray := prog_16_method_93_code
def yJ4_length_8abf5 : MethodName := ⟨RJ4, "length", "()I"⟩
def RJ1 : String := "java/lang/StringLatin1"
def TJ1 : u_T := fun k => match k with
  | _ => ("", "", "", false)
def tyJ1 : Nat → FieldType := fun k => match k with
  | _ => .int
abbrev wsJ10 : List Cond := u_ws RJ1 TJ1 0
theorem nmJ1 : ∀ a, a < 0 → ∀ b, b < 0 → a ≠ b → (TJ1 a).2.1 ≠ (TJ1 b).2.1 := by decide +kernel
theorem tyJ1_ok : ∀ k, k < 0 → parseFieldDescriptor (TJ1 k).2.2.1 = some (tyJ1 k) := by decide +kernel
abbrev cJ1_canEncode_fc78d : ByteArray := prog_17_method_3_code
def yJ1_canEncode_fc78d : MethodName := ⟨RJ1, "canEncode", "(C)Z"⟩
abbrev cJ1_equals_b5fdf : ByteArray := prog_17_method_13_code
def yJ1_equals_b5fdf : MethodName := ⟨RJ1, "equals", "([B[B)Z"⟩
abbrev cJ1_fillNull_b72d1 : ByteArray := prog_17_method_48_code
def yJ1_fillNull_b72d1 : MethodName := ⟨RJ1, "fillNull", "([BII)V"⟩
abbrev cJ1_inflate_0e8fd : ByteArray := prog_17_method_50_code
def yJ1_inflate_0e8fd : MethodName := ⟨RJ1, "inflate", "([BI[BII)V"⟩
def RJ2 : String := "java/lang/StringUTF16"
def TJ2 : u_T := fun k => match k with
  | _ => ("", "", "", false)
def tyJ2 : Nat → FieldType := fun k => match k with
  | _ => .int
abbrev wsJ20 : List Cond := u_ws RJ2 TJ2 0
theorem nmJ2 : ∀ a, a < 0 → ∀ b, b < 0 → a ≠ b → (TJ2 a).2.1 ≠ (TJ2 b).2.1 := by decide +kernel
theorem tyJ2_ok : ∀ k, k < 0 → parseFieldDescriptor (TJ2 k).2.2.1 = some (tyJ2 k) := by decide +kernel
abbrev cJ2_newBytesFor_77867 : ByteArray := prog_18_method_2_code
def yJ2_newBytesFor_77867 : MethodName := ⟨RJ2, "newBytesFor", "(I)[B"⟩
abbrev cJ2_newBytesLength_0f7a4 : ByteArray := prog_18_method_3_code
def yJ2_newBytesLength_0f7a4 : MethodName := ⟨RJ2, "newBytesLength", "(I)I"⟩
abbrev cJ2_putChar_b72d1 : ByteArray := prog_18_method_4_code
def yJ2_putChar_b72d1 : MethodName := ⟨RJ2, "putChar", "([BII)V"⟩
abbrev cJ2_getChar_3b067 : ByteArray := prog_18_method_5_code
def yJ2_getChar_3b067 : MethodName := ⟨RJ2, "getChar", "([BI)C"⟩
abbrev cJ2_length_9d52b : ByteArray := prog_18_method_6_code
def yJ2_length_9d52b : MethodName := ⟨RJ2, "length", "([B)I"⟩
abbrev cJ2_coderFromArrayLen_85cad : ByteArray := prog_18_method_15_code
def yJ2_coderFromArrayLen_85cad : MethodName := ⟨RJ2, "coderFromArrayLen", "([BI)B"⟩
abbrev cJ2_compress_39247 : ByteArray := prog_18_method_17_code
def yJ2_compress_39247 : MethodName := ⟨RJ2, "compress", "([BII)[B"⟩
abbrev cJ2_compress_5af95 : ByteArray := prog_18_method_22_code
def yJ2_compress_5af95 : MethodName := ⟨RJ2, "compress", "([BI[BII)I"⟩
abbrev cJ2_fillNull_b72d1 : ByteArray := prog_18_method_70_code
def yJ2_fillNull_b72d1 : MethodName := ⟨RJ2, "fillNull", "([BII)V"⟩
abbrev cJ2_putCharSB_b72d1 : ByteArray := prog_18_method_71_code
def yJ2_putCharSB_b72d1 : MethodName := ⟨RJ2, "putCharSB", "([BII)V"⟩
abbrev cJ2_inflate_0e8fd : ByteArray := prog_18_method_86_code
def yJ2_inflate_0e8fd : MethodName := ⟨RJ2, "inflate", "([BI[BII)V"⟩
abbrev cJ2_checkIndex_2214a : ByteArray := prog_18_method_91_code
def yJ2_checkIndex_2214a : MethodName := ⟨RJ2, "checkIndex", "(I[B)V"⟩
abbrev cJ2_checkBoundsOffCount_d044e : ByteArray := prog_18_method_94_code
def yJ2_checkBoundsOffCount_d044e : MethodName := ⟨RJ2, "checkBoundsOffCount", "(II[B)V"⟩
def RJ10 : String := "java/lang/System"
def TJ10 : u_T := fun k => match k with
  | _ => ("", "", "", false)
def tyJ10 : Nat → FieldType := fun k => match k with
  | _ => .int
abbrev wsJ100 : List Cond := u_ws RJ10 TJ10 0
theorem nmJ10 : ∀ a, a < 0 → ∀ b, b < 0 → a ≠ b → (TJ10 a).2.1 ≠ (TJ10 b).2.1 := by decide +kernel
theorem tyJ10_ok : ∀ k, k < 0 → parseFieldDescriptor (TJ10 k).2.2.1 = some (tyJ10 k) := by decide +kernel
def RJ7 : String := "java/util/Arrays"
def TJ7 : u_T := fun k => match k with
  | _ => ("", "", "", false)
def tyJ7 : Nat → FieldType := fun k => match k with
  | _ => .int
abbrev wsJ70 : List Cond := u_ws RJ7 TJ7 0
theorem nmJ7 : ∀ a, a < 0 → ∀ b, b < 0 → a ≠ b → (TJ7 a).2.1 ≠ (TJ7 b).2.1 := by decide +kernel
theorem tyJ7_ok : ∀ k, k < 0 → parseFieldDescriptor (TJ7 k).2.2.1 = some (tyJ7 k) := by decide +kernel
abbrev cJ7_rangeCheck_23922 : ByteArray := prog_20_method_30_code
def yJ7_rangeCheck_23922 : MethodName := ⟨RJ7, "rangeCheck", "(III)V"⟩
abbrev cJ7_fill_eb02e : ByteArray := prog_20_method_110_code
def yJ7_fill_eb02e : MethodName := ⟨RJ7, "fill", "([BIIB)V"⟩
abbrev cJ7_copyOf_9075b : ByteArray := prog_20_method_121_code
def yJ7_copyOf_9075b : MethodName := ⟨RJ7, "copyOf", "([BI)[B"⟩
abbrev cJ7_checkLength_df160 : ByteArray := prog_20_method_131_code
def yJ7_checkLength_df160 : MethodName := ⟨RJ7, "checkLength", "(II)V"⟩
abbrev cJ7_copyOfRange_39247 : ByteArray := prog_20_method_132_code
def yJ7_copyOfRange_39247 : MethodName := ⟨RJ7, "copyOfRange", "([BII)[B"⟩
abbrev cJ7_copyOfRangeByte_39247 : ByteArray := prog_20_method_133_code
def yJ7_copyOfRangeByte_39247 : MethodName := ⟨RJ7, "copyOfRangeByte", "([BII)[B"⟩
def RJ8 : String := "jdk/internal/util/ArraysSupport"
def TJ8 : u_T := fun k => match k with
  | _ => ("", "", "", false)
def tyJ8 : Nat → FieldType := fun k => match k with
  | _ => .int
abbrev wsJ80 : List Cond := u_ws RJ8 TJ8 0
theorem nmJ8 : ∀ a, a < 0 → ∀ b, b < 0 → a ≠ b → (TJ8 a).2.1 ≠ (TJ8 b).2.1 := by decide +kernel
theorem tyJ8_ok : ∀ k, k < 0 → parseFieldDescriptor (TJ8 k).2.2.1 = some (tyJ8 k) := by decide +kernel
abbrev cJ8_newLength_cabcc : ByteArray := prog_21_method_27_code
def yJ8_newLength_cabcc : MethodName := ⟨RJ8, "newLength", "(III)I"⟩
abbrev cJ8_hugeLength_7cf53 : ByteArray := prog_21_method_28_code
def yJ8_hugeLength_7cf53 : MethodName := ⟨RJ8, "hugeLength", "(II)I"⟩
def RJ3 : String := "jdk/internal/util/Preconditions"
def TJ3 : u_T := fun k => match k with
  | _ => ("", "", "", false)
def tyJ3 : Nat → FieldType := fun k => match k with
  | _ => .int
abbrev wsJ30 : List Cond := u_ws RJ3 TJ3 0
theorem nmJ3 : ∀ a, a < 0 → ∀ b, b < 0 → a ≠ b → (TJ3 a).2.1 ≠ (TJ3 b).2.1 := by decide +kernel
theorem tyJ3_ok : ∀ k, k < 0 → parseFieldDescriptor (TJ3 k).2.2.1 = some (tyJ3 k) := by decide +kernel
abbrev cJ3_checkIndex_8e157 : ByteArray := prog_22_method_11_code
def yJ3_checkIndex_8e157 : MethodName := ⟨RJ3, "checkIndex", "(IILjava/util/function/BiFunction;)I"⟩
abbrev cJ3_checkFromIndexSize_8c36e : ByteArray := prog_22_method_13_code
def yJ3_checkFromIndexSize_8c36e : MethodName := ⟨RJ3, "checkFromIndexSize", "(IIILjava/util/function/BiFunction;)I"⟩
def RL : String := "RecordBenchLaw"
abbrev cL_law : ByteArray := code
def yL_law : MethodName := ⟨RL, "law", "([I)Z"⟩
abbrev vwCl : List vw_C := [(RJ0, TJ0, 4), (RJ4, TJ4, 4), (RX0, TX0, 7), (RX1, TX1, 2), (RX2, TX2, 8), (RX3, TX3, 4), (RX4, TX4, 3), (RX5, TX5, 2), (RX6, TX6, 6), (RX7, TX7, 2), (RX8, TX8, 12), (RX9, TX9, 60)]
