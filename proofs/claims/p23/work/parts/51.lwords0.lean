theorem goodIn_nil {big : List Cond} : GoodIn big [] := fun _ h => absurd h List.not_mem_nil
theorem goodIn_c {big ws : List Cond} {w : Cond} (h : w ∈ big) (g : goodWord w = true) (k : GoodIn big ws) : GoodIn big (w :: ws) := fun v hv => (List.mem_cons.mp hv).elim (fun e => by rw [e]; exact ⟨h, good_of_word g⟩) (k v)
theorem inX {i : Nat} {w : Cond} (h : lwX[i]? = some w) : w ∈ lwT := List.mem_append_left _ (List.mem_of_getElem? h)
theorem inPs {w : Cond} (h : w ∈ k2_sels lw_privs) : w ∈ lwT := List.mem_append_right _ (List.mem_append_left _ h)
theorem inTs {w : Cond} (h : w ∈ tables_1) : w ∈ lwT := List.mem_append_right _ (List.mem_append_right _ h)
theorem k2_sub {a b : List (MethodName × Nat)} {w : Cond} (hs : ∀ q ∈ a, q ∈ b) (h : w ∈ k2_sels a) : w ∈ k2_sels b := by
  obtain ⟨q, hq, e⟩ := List.mem_map.mp h
  exact List.mem_map.mpr ⟨q, hs q hq, e⟩
theorem inP1 {i : Nat} {w : Cond} (h : (k2_sels lw_privs_1)[i]? = some w) : w ∈ lwT := inPs (k2_sub (fun q h => (by unfold lw_privs; exact List.mem_append_left _ h)) (List.mem_of_getElem? h))
theorem inP2 {i : Nat} {w : Cond} (h : (k2_sels lw_privs_2)[i]? = some w) : w ∈ lwT := inPs (k2_sub (fun q h => (by unfold lw_privs; exact List.mem_append_right _ (List.mem_append_left _ h))) (List.mem_of_getElem? h))
theorem inP3 {i : Nat} {w : Cond} (h : (k2_sels lw_privs_3)[i]? = some w) : w ∈ lwT := inPs (k2_sub (fun q h => (by unfold lw_privs; exact List.mem_append_right _ (List.mem_append_right _ (List.mem_append_left _ h)))) (List.mem_of_getElem? h))
theorem inP4 {i : Nat} {w : Cond} (h : (k2_sels lw_privs_4)[i]? = some w) : w ∈ lwT := inPs (k2_sub (fun q h => (by unfold lw_privs; exact List.mem_append_right _ (List.mem_append_right _ (List.mem_append_right _ (List.mem_append_left _ h))))) (List.mem_of_getElem? h))
theorem inP5 {i : Nat} {w : Cond} (h : (k2_sels lw_privs_5)[i]? = some w) : w ∈ lwT := inPs (k2_sub (fun q h => (by unfold lw_privs; exact List.mem_append_right _ (List.mem_append_right _ (List.mem_append_right _ (List.mem_append_right _ (h)))))) (List.mem_of_getElem? h))
theorem inT1 {i : Nat} {w : Cond} (h : tables_1_1[i]? = some w) : w ∈ lwT := inTs (by unfold tables_1; simp only [List.mem_append]; have h := List.mem_of_getElem? h; simp only [h, true_or, or_true])
theorem inT2 {i : Nat} {w : Cond} (h : tables_1_2[i]? = some w) : w ∈ lwT := inTs (by unfold tables_1; simp only [List.mem_append]; have h := List.mem_of_getElem? h; simp only [h, true_or, or_true])
theorem inT3 {i : Nat} {w : Cond} (h : tables_1_3[i]? = some w) : w ∈ lwT := inTs (by unfold tables_1; simp only [List.mem_append]; have h := List.mem_of_getElem? h; simp only [h, true_or, or_true])
theorem inT4 {i : Nat} {w : Cond} (h : tables_1_4[i]? = some w) : w ∈ lwT := inTs (by unfold tables_1; simp only [List.mem_append]; have h := List.mem_of_getElem? h; simp only [h, true_or, or_true])
theorem inT5 {i : Nat} {w : Cond} (h : tables_1_5[i]? = some w) : w ∈ lwT := inTs (by unfold tables_1; simp only [List.mem_append]; have h := List.mem_of_getElem? h; simp only [h, true_or, or_true])
theorem inT6 {i : Nat} {w : Cond} (h : tables_1_6[i]? = some w) : w ∈ lwT := inTs (by unfold tables_1; simp only [List.mem_append]; have h := List.mem_of_getElem? h; simp only [h, true_or, or_true])
theorem lwm_0 : (.fieldLink RX5 15 "RecordBench$Row" "bytes" "[I" : Cond) ∈ lwT := inT1 (i := 38) rfl
theorem lwm_1 : (.code yX5_push cX5_push 2 none : Cond) ∈ lwT := inT2 (i := 14) rfl
theorem lwm_2 : (.selects RX5 yX5_push yX5_push : Cond) ∈ lwT := inT2 (i := 13) rfl
theorem lwm_3 : (.instanceMethod yX5_push : Cond) ∈ lwT := inT2 (i := 12) rfl
theorem lwm_4 : (.methodLink RX5 25 yX5_push : Cond) ∈ lwT := inT2 (i := 11) rfl
theorem lwm_5 : (.code yX5_pushWord cX5_pushWord 2 none : Cond) ∈ lwT := inT2 (i := 10) rfl
theorem lwm_6 : (.fieldLink RX5 21 "RecordBench$Row" "size" "I" : Cond) ∈ lwT := inT1 (i := 39) rfl
theorem lwm_7 : (.code yX5_size cX5_size 1 (some .int) : Cond) ∈ lwT := inT2 (i := 6) rfl
theorem lwm_8 : (.selects RX5 yX5_pushWord yX5_pushWord : Cond) ∈ lwT := inT2 (i := 9) rfl
theorem lwm_9 : (.instanceMethod yX5_pushWord : Cond) ∈ lwT := inT2 (i := 8) rfl
theorem lwm_10 : (.methodLink RX8 80 yX5_pushWord : Cond) ∈ lwT := inT2 (i := 7) rfl
theorem lwm_11 : (.initialized RX5 : Cond) ∈ lwT := inT1 (i := 2) rfl
theorem lwm_12 : (.selects RX5 yX5_size yX5_size : Cond) ∈ lwT := inT2 (i := 5) rfl
theorem lwm_13 : (.instanceMethod yX5_size : Cond) ∈ lwT := inT2 (i := 4) rfl
theorem lwm_14 : (.methodLink RX8 76 yX5_size : Cond) ∈ lwT := inT2 (i := 3) rfl
theorem lwm_15 : (.fieldLink RX8 14 "RecordBench" "tape" "LRecordBench$Row;" : Cond) ∈ lwT := inT1 (i := 202) rfl
theorem lwm_16 : (.code yX8_feed cX8_feed 6 (some .int) : Cond) ∈ lwT := inT2 (i := 2) rfl
theorem lwm_17 : (.initialized RX8 : Cond) ∈ lwT := inT1 (i := 1) rfl
theorem lwm_18 : (.selects RX8 yX8_feed yX8_feed : Cond) ∈ lwT := inT2 (i := 1) rfl
theorem lwm_19 : (.instanceMethod yX8_feed : Cond) ∈ lwT := inT2 (i := 0) rfl
theorem lwm_20 : (.methodLink RL 13 yX8_feed : Cond) ∈ lwT := inT1 (i := 239) rfl
theorem lwm_21 : (.fieldLink RX9 39 "RecordBenchModel" "tape" "[I" : Cond) ∈ lwT := inT5 (i := 18) rfl
theorem lwm_22 : (.fieldLink RX9 132 "RecordBenchModel" "taped" "I" : Cond) ∈ lwT := inT5 (i := 19) rfl
theorem lwm_23 : (.code yX9_feed cX9_feed 8 (some .int) : Cond) ∈ lwT := inT5 (i := 195) rfl
theorem lwm_24 : (.initialized RX9 : Cond) ∈ lwT := inT1 (i := 13) rfl
theorem lwm_25 : (.selects RX9 yX9_feed yX9_feed : Cond) ∈ lwT := inT5 (i := 194) rfl
theorem lwm_26 : (.instanceMethod yX9_feed : Cond) ∈ lwT := inT5 (i := 193) rfl
theorem lwm_27 : (.methodLink RL 17 yX9_feed : Cond) ∈ lwT := inT5 (i := 192) rfl
theorem lwm_28 : (.code yX5_cut cX5_cut 2 (some .boolean) : Cond) ∈ lwT := inT2 (i := 22) rfl
theorem lwm_29 : (.selects RX5 yX5_cut yX5_cut : Cond) ∈ lwT := inT2 (i := 21) rfl
theorem lwm_30 : (.instanceMethod yX5_cut : Cond) ∈ lwT := inT2 (i := 20) rfl
theorem lwm_31 : (.methodLink RX8 83 yX5_cut : Cond) ∈ lwT := inT2 (i := 19) rfl
theorem lwm_32 : (.code yX8_end cX8_end 2 (some .boolean) : Cond) ∈ lwT := inT2 (i := 18) rfl
theorem lwm_33 : (.selects RX8 yX8_end yX8_end : Cond) ∈ lwT := inT2 (i := 17) rfl
theorem lwm_34 : (.instanceMethod yX8_end : Cond) ∈ lwT := inT2 (i := 16) rfl
theorem lwm_35 : (.methodLink RL 18 yX8_end : Cond) ∈ lwT := inT2 (i := 15) rfl
theorem lwm_36 : (.code yX9_end cX9_end 2 (some .boolean) : Cond) ∈ lwT := inT5 (i := 199) rfl
theorem lwm_37 : (.selects RX9 yX9_end yX9_end : Cond) ∈ lwT := inT5 (i := 198) rfl
theorem lwm_38 : (.instanceMethod yX9_end : Cond) ∈ lwT := inT5 (i := 197) rfl
theorem lwm_39 : (.methodLink RL 22 yX9_end : Cond) ∈ lwT := inT5 (i := 196) rfl
theorem lwm_40 : (.selects RX6 yX6_faultFound yX6_faultFound : Cond) ∈ lwT := inT3 (i := 171) rfl
theorem lwm_41 : (.instanceMethod yX6_faultFound : Cond) ∈ lwT := inT3 (i := 170) rfl
theorem lwm_42 : (.methodLink RX8 91 yX6_faultFound : Cond) ∈ lwT := inT3 (i := 169) rfl
theorem lwm_43 : (.initialized RX6 : Cond) ∈ lwT := inT1 (i := 4) rfl
theorem lwm_44 : (.selects RX6 yX6_placeFound yX6_placeFound : Cond) ∈ lwT := inT3 (i := 175) rfl
theorem lwm_45 : (.instanceMethod yX6_placeFound : Cond) ∈ lwT := inT3 (i := 174) rfl
theorem lwm_46 : (.methodLink RX8 94 yX6_placeFound : Cond) ∈ lwT := inT3 (i := 173) rfl
theorem lwm_47 : (.initialized RX1 : Cond) ∈ lwT := inT1 (i := 14) rfl
theorem lwm_48 : (.selects RX1 yX1_count yX1_count : Cond) ∈ lwT := inT3 (i := 179) rfl
theorem lwm_49 : (.instanceMethod yX1_count : Cond) ∈ lwT := inT3 (i := 178) rfl
theorem lwm_50 : (.methodLink RX8 97 yX1_count : Cond) ∈ lwT := inT3 (i := 177) rfl
theorem lwm_51 : (.fieldLink RX8 70 "RecordBench" "latestPlace" "I" : Cond) ∈ lwT := inT1 (i := 212) rfl
theorem lwm_52 : (.fieldLink RX8 66 "RecordBench" "latestFault" "I" : Cond) ∈ lwT := inT1 (i := 211) rfl
theorem lwm_53 : (.fieldLink RX8 33 "RecordBench" "texts" "LRecordBench$TextReader;" : Cond) ∈ lwT := inT1 (i := 205) rfl
theorem lwm_54 : (.fieldLink RX8 24 "RecordBench" "makes" "[LRecordBench$Make;" : Cond) ∈ lwT := inT1 (i := 204) rfl
theorem lwm_55 : (.code yX8_make cX8_make 3 (some .int) : Cond) ∈ lwT := inT2 (i := 26) rfl
theorem lwm_56 : (.instanceMethod yX6_refuse : Cond) ∈ lwT := inT2 (i := 60) rfl
theorem lwm_57 : (.methodLink RX6 48 yX6_refuse : Cond) ∈ lwT := inT2 (i := 58) rfl
theorem lwm_58 : (.selects RX6 yX6_takeField yX6_takeField : Cond) ∈ lwT := inP1 (i := 2) rfl
theorem lwm_59 : (.instanceMethod yX6_takeField : Cond) ∈ lwT := inT2 (i := 64) rfl
theorem lwm_60 : (.methodLink RX6 52 yX6_takeField : Cond) ∈ lwT := inT2 (i := 62) rfl
theorem lwm_61 : (.fieldLink RX6 9 "RecordBench$TextReader" "tape" "LRecordBench$Row;" : Cond) ∈ lwT := inT1 (i := 88) rfl
theorem lwm_62 : (.fieldLink RX6 26 "RecordBench$TextReader" "pos" "I" : Cond) ∈ lwT := inT1 (i := 91) rfl
theorem lwm_63 : (.code yX6_tell cX6_tell 4 (some (.object "RecordBench$Make")) : Cond) ∈ lwT := inT2 (i := 30) rfl
theorem lwm_64 : (.fieldLink RX6 30 "RecordBench$TextReader" "fault" "I" : Cond) ∈ lwT := inT1 (i := 92) rfl
theorem lwm_65 : (.code yX6_faultFound cX6_faultFound 1 (some .int) : Cond) ∈ lwT := inT3 (i := 172) rfl
theorem lwm_66 : (.fieldLink RX6 33 "RecordBench$TextReader" "place" "I" : Cond) ∈ lwT := inT1 (i := 93) rfl
theorem lwm_67 : (.code yX6_placeFound cX6_placeFound 1 (some .int) : Cond) ∈ lwT := inT3 (i := 176) rfl
theorem lwm_68 : (.fieldLink RX1 17 "RecordBench$Make" "count" "I" : Cond) ∈ lwT := inT2 (i := 40) rfl
theorem lwm_69 : (.code yX1_count cX1_count 1 (some .int) : Cond) ∈ lwT := inT3 (i := 180) rfl
theorem lwm_70 : (.selects RX6 yX6_tell yX6_tell : Cond) ∈ lwT := inT2 (i := 29) rfl
theorem lwm_71 : (.instanceMethod yX6_tell : Cond) ∈ lwT := inT2 (i := 28) rfl
theorem lwm_72 : (.methodLink RX8 87 yX6_tell : Cond) ∈ lwT := inT2 (i := 27) rfl
theorem lwm_73 : (.selects RX6 yX6_takeDefault yX6_takeDefault : Cond) ∈ lwT := inP1 (i := 12) rfl
theorem lwm_74 : (.instanceMethod yX6_takeDefault : Cond) ∈ lwT := inT3 (i := 135) rfl
theorem lwm_75 : (.methodLink RX6 84 yX6_takeDefault : Cond) ∈ lwT := inT3 (i := 133) rfl
theorem lwm_76 : (.selects RX6 yX6_takeClose yX6_takeClose : Cond) ∈ lwT := inP1 (i := 15) rfl
theorem lwm_77 : (.instanceMethod yX6_takeClose : Cond) ∈ lwT := inT3 (i := 163) rfl
theorem lwm_78 : (.methodLink RX6 87 yX6_takeClose : Cond) ∈ lwT := inT3 (i := 161) rfl
theorem lwm_79 : (.selects RX1 yX1_add yX1_add : Cond) ∈ lwT := inT3 (i := 167) rfl
theorem lwm_80 : (.instanceMethod yX1_add : Cond) ∈ lwT := inT3 (i := 166) rfl
theorem lwm_81 : (.methodLink RX6 90 yX1_add : Cond) ∈ lwT := inT3 (i := 165) rfl
theorem lwm_82 : (.code yX6_takeField cX6_takeField 6 (some .boolean) : Cond) ∈ lwT := inT2 (i := 65) rfl
theorem lwm_83 : (.instantiable RX1 2 : Cond) ∈ lwT := inT2 (i := 32) rfl
theorem lwm_84 : (.classLink RX6 36 RX1 : Cond) ∈ lwT := inT2 (i := 31) rfl
theorem lwm_85 : (.instanceMethod yX1_init : Cond) ∈ lwT := inT2 (i := 34) rfl
theorem lwm_86 : (.selects RX6 yX6_skipBlanks yX6_skipBlanks : Cond) ∈ lwT := inP1 (i := 0) rfl
theorem lwm_87 : (.instanceMethod yX6_skipBlanks : Cond) ∈ lwT := inT2 (i := 48) rfl
theorem lwm_88 : (.methodLink RX6 39 yX6_skipBlanks : Cond) ∈ lwT := inT2 (i := 46) rfl
theorem lwm_89 : (.methodLink RX6 42 yX5_size : Cond) ∈ lwT := inT2 (i := 50) rfl
theorem lwm_90 : (.selects RX6 yX6_refuse yX6_refuse : Cond) ∈ lwT := inP1 (i := 1) rfl
theorem lwm_91 : (.instantiable RX0 7 : Cond) ∈ lwT := inT2 (i := 67) rfl
theorem lwm_92 : (.classLink RX6 56 RX0 : Cond) ∈ lwT := inT2 (i := 66) rfl
theorem lwm_93 : (.initialized RX0 : Cond) ∈ lwT := inT1 (i := 15) rfl
theorem lwm_94 : (.instanceMethod yX0_init : Cond) ∈ lwT := inT2 (i := 69) rfl
theorem lwm_95 : (.selects RX6 yX6_takeNumber yX6_takeNumber : Cond) ∈ lwT := inP1 (i := 3) rfl
theorem lwm_96 : (.instanceMethod yX6_takeNumber : Cond) ∈ lwT := inT2 (i := 122) rfl
theorem lwm_97 : (.methodLink RX6 59 yX6_takeNumber : Cond) ∈ lwT := inT2 (i := 120) rfl
theorem lwm_98 : (.selects RX6 yX6_takeName yX6_takeName : Cond) ∈ lwT := inP1 (i := 7) rfl
theorem lwm_99 : (.instanceMethod yX6_takeName : Cond) ∈ lwT := inT2 (i := 142) rfl
theorem lwm_100 : (.methodLink RX6 63 yX6_takeName : Cond) ∈ lwT := inT2 (i := 140) rfl
theorem lwm_101 : (.initialized RJ0 : Cond) ∈ lwT := inT1 (i := 7) rfl
theorem lwm_102 : (.selects RJ0 yJ0_isEmpty_aae02 yJ0_isEmpty_aae02 : Cond) ∈ lwT := inT3 (i := 84) rfl
theorem lwm_103 : (.instanceMethod yJ0_isEmpty_aae02 : Cond) ∈ lwT := inT3 (i := 83) rfl
theorem lwm_104 : (.methodLink RX6 70 yJ0_isEmpty_aae02 : Cond) ∈ lwT := inT3 (i := 82) rfl
theorem lwm_105 : (.selects RX6 yX6_takeKind yX6_takeKind : Cond) ∈ lwT := inP1 (i := 9) rfl
theorem lwm_106 : (.instanceMethod yX6_takeKind : Cond) ∈ lwT := inT3 (i := 119) rfl
theorem lwm_107 : (.methodLink RX6 76 yX6_takeKind : Cond) ∈ lwT := inT3 (i := 117) rfl
theorem lwm_108 : (.selects RX6 yX6_takeGroup yX6_takeGroup : Cond) ∈ lwT := inP1 (i := 11) rfl
theorem lwm_109 : (.instanceMethod yX6_takeGroup : Cond) ∈ lwT := inT3 (i := 130) rfl
theorem lwm_110 : (.methodLink RX6 80 yX6_takeGroup : Cond) ∈ lwT := inT3 (i := 128) rfl
theorem lwm_111 : (.instanceMethod yX6_takeText : Cond) ∈ lwT := inT3 (i := 139) rfl
theorem lwm_112 : (.methodLink RX6 153 yX6_takeText : Cond) ∈ lwT := inT3 (i := 137) rfl
theorem lwm_113 : (.selects RX6 yX6_takeValue yX6_takeValue : Cond) ∈ lwT := inP1 (i := 14) rfl
theorem lwm_114 : (.instanceMethod yX6_takeValue : Cond) ∈ lwT := inT3 (i := 149) rfl
theorem lwm_115 : (.methodLink RX6 156 yX6_takeValue : Cond) ∈ lwT := inT3 (i := 147) rfl
theorem lwm_116 : (.code yX6_takeDefault cX6_takeDefault 2 (some .boolean) : Cond) ∈ lwT := inT3 (i := 136) rfl
theorem lwm_117 : (.code yX6_refuse cX6_refuse 3 (some .boolean) : Cond) ∈ lwT := inT2 (i := 61) rfl
theorem lwm_118 : (.code yX6_isBlank cX6_isBlank 1 (some .boolean) : Cond) ∈ lwT := inT2 (i := 57) rfl
theorem lwm_119 : (.code yX5_byteAt cX5_byteAt 2 (some .int) : Cond) ∈ lwT := inT2 (i := 54) rfl
theorem lwm_120 : (.static yX6_isBlank : Cond) ∈ lwT := inT2 (i := 56) rfl
theorem lwm_121 : (.methodLink RX6 189 yX6_isBlank : Cond) ∈ lwT := inT2 (i := 55) rfl
theorem lwm_122 : (.code yX6_skipBlanks cX6_skipBlanks 3 none : Cond) ∈ lwT := inT2 (i := 49) rfl
theorem lwm_123 : (.selects RX5 yX5_byteAt yX5_byteAt : Cond) ∈ lwT := inT2 (i := 53) rfl
theorem lwm_124 : (.instanceMethod yX5_byteAt : Cond) ∈ lwT := inT2 (i := 52) rfl
theorem lwm_125 : (.methodLink RX6 150 yX5_byteAt : Cond) ∈ lwT := inT2 (i := 51) rfl
theorem lwm_126 : (.code yX6_takeClose cX6_takeClose 1 (some .boolean) : Cond) ∈ lwT := inT3 (i := 164) rfl
theorem lwm_127 : (.fieldLink RX1 11 "RecordBench$Make" "fields" "[LRecordBench$Field;" : Cond) ∈ lwT := inT2 (i := 39) rfl
theorem lwm_128 : (.code yX1_add cX1_add 2 (some .boolean) : Cond) ∈ lwT := inT3 (i := 168) rfl
theorem lwm_129 : (.code yX6_isDigit cX6_isDigit 3 (some .boolean) : Cond) ∈ lwT := inT2 (i := 127) rfl
theorem lwm_130 : (.constantLong RX0 43 (2147483647) : Cond) ∈ lwT := inT3 (i := 160) rfl
theorem lwm_131 : (.constantLong RX0 41 (-2147483648) : Cond) ∈ lwT := inT3 (i := 159) rfl
theorem lwm_132 : (.constantLong RX0 39 (127) : Cond) ∈ lwT := inT3 (i := 158) rfl
theorem lwm_133 : (.constantLong RX0 37 (-128) : Cond) ∈ lwT := inT3 (i := 157) rfl
theorem lwm_134 : (.fieldLink RX0 15 "RecordBench$Field" "kind" "I" : Cond) ∈ lwT := inT2 (i := 79) rfl
theorem lwm_135 : (.code yX0_holds cX0_holds 3 (some .boolean) : Cond) ∈ lwT := inT3 (i := 156) rfl
theorem lwm_136 : (.selects RX6 yX6_digitAt yX6_digitAt : Cond) ∈ lwT := inP1 (i := 5) rfl
theorem lwm_137 : (.instanceMethod yX6_digitAt : Cond) ∈ lwT := inT2 (i := 130) rfl
theorem lwm_138 : (.methodLink RX6 97 yX6_digitAt : Cond) ∈ lwT := inT2 (i := 128) rfl
theorem lwm_139 : (.selects RX6 yX6_isDigit yX6_isDigit : Cond) ∈ lwT := inP1 (i := 4) rfl
theorem lwm_140 : (.instanceMethod yX6_isDigit : Cond) ∈ lwT := inT2 (i := 126) rfl
theorem lwm_141 : (.methodLink RX6 93 yX6_isDigit : Cond) ∈ lwT := inT2 (i := 124) rfl
theorem lwm_142 : (.selects RX0 yX0_holds yX0_holds : Cond) ∈ lwT := inT3 (i := 155) rfl
theorem lwm_143 : (.instanceMethod yX0_holds : Cond) ∈ lwT := inT3 (i := 154) rfl
theorem lwm_144 : (.methodLink RX6 163 yX0_holds : Cond) ∈ lwT := inT3 (i := 153) rfl
theorem lwm_145 : (.constantLong RX6 161 (-9223372036854775808) : Cond) ∈ lwT := inT3 (i := 152) rfl
theorem lwm_146 : (.constantLong RX6 159 (10) : Cond) ∈ lwT := inT3 (i := 151) rfl
theorem lwm_147 : (.code yX6_takeValue cX6_takeValue 10 (some .boolean) : Cond) ∈ lwT := inT3 (i := 150) rfl
theorem lwm_148 : (.selects RX6 yX6_takeText yX6_takeText : Cond) ∈ lwT := inP1 (i := 13) rfl
theorem lwm_149 : (.instantiable RJ0 4 : Cond) ∈ lwT := inT3 (i := 33) rfl
theorem lwm_150 : (.classLink RJ4 18 RJ0 : Cond) ∈ lwT := inT3 (i := 32) rfl
theorem lwm_151 : (.methodLink RJ4 137 yJ0_init_81219 : Cond) ∈ lwT := inT3 (i := 34) rfl
theorem lwm_152 : (.instanceMethod yJ0_init_81219 : Cond) ∈ lwT := inT3 (i := 35) rfl
theorem lwm_153 : (.code yJ4_toString_0e30d cJ4_toString_0e30d 1 (some (.object "java/lang/String")) : Cond) ∈ lwT := inT3 (i := 31) rfl
theorem lwm_154 : (.selects RJ4 yJ4_setLength_d00df yJ4_setLength_d00df : Cond) ∈ lwT := inT2 (i := 150) rfl
theorem lwm_155 : (.instanceMethod yJ4_setLength_d00df : Cond) ∈ lwT := inT2 (i := 149) rfl
theorem lwm_156 : (.methodLink RX6 171 yJ4_setLength_d00df : Cond) ∈ lwT := inT2 (i := 148) rfl
theorem lwm_157 : (.static yX6_isQuotable : Cond) ∈ lwT := inT3 (i := 142) rfl
theorem lwm_158 : (.methodLink RX6 175 yX6_isQuotable : Cond) ∈ lwT := inT3 (i := 141) rfl
theorem lwm_159 : (.selects RJ4 yJ4_append_cf468 yJ4_append_cf468 : Cond) ∈ lwT := inT2 (i := 208) rfl
theorem lwm_160 : (.instanceMethod yJ4_append_cf468 : Cond) ∈ lwT := inT2 (i := 207) rfl
theorem lwm_161 : (.methodLink RX6 178 yJ4_append_cf468 : Cond) ∈ lwT := inT2 (i := 206) rfl
theorem lwm_162 : (.initialized RJ4 : Cond) ∈ lwT := inT1 (i := 6) rfl
theorem lwm_163 : (.selects RJ4 yJ4_toString_0e30d yJ4_toString_0e30d : Cond) ∈ lwT := inT3 (i := 30) rfl
theorem lwm_164 : (.instanceMethod yJ4_toString_0e30d : Cond) ∈ lwT := inT3 (i := 29) rfl
theorem lwm_165 : (.methodLink RX6 182 yJ4_toString_0e30d : Cond) ∈ lwT := inT3 (i := 28) rfl
theorem lwm_166 : (.fieldLink RX6 22 "RecordBench$TextReader" "letters" "Ljava/lang/StringBuilder;" : Cond) ∈ lwT := inT1 (i := 90) rfl
theorem lwm_167 : (.code yX6_takeText cX6_takeText 3 (some .boolean) : Cond) ∈ lwT := inT3 (i := 140) rfl
theorem lwm_168 : (.code yX6_digitAt cX6_digitAt 3 (some .int) : Cond) ∈ lwT := inT2 (i := 131) rfl
theorem lwm_169 : (.instanceMethod yJ5_length_8abf5 : Cond) ∈ lwT := inT3 (i := 26) rfl
theorem lwm_170 : (.sameMethod "java/lang/AbstractStringBuilder" "java/lang/AbstractStringBuilder" "length" "()I" : Cond) ∈ lwT := inT6 (i := 232) rfl
theorem lwm_171 : (.methodLink RJ0 549 ⟨"java/lang/AbstractStringBuilder", "length", "()I"⟩ : Cond) ∈ lwT := inT3 (i := 46) rfl
theorem lwm_172 : (.initialized RJ5 : Cond) ∈ lwT := inT1 (i := 5) rfl
theorem lwm_173 : (.instanceMethod yJ5_isLatin1_aae02 : Cond) ∈ lwT := inT2 (i := 189) rfl
theorem lwm_174 : (.selects RJ4 ⟨"java/lang/AbstractStringBuilder", "isLatin1", "()Z"⟩ yJ5_isLatin1_aae02 : Cond) ∈ lwT := inT2 (i := 191) rfl
theorem lwm_175 : (.sameMethod "java/lang/AbstractStringBuilder" "java/lang/AbstractStringBuilder" "isLatin1" "()Z" : Cond) ∈ lwT := inT2 (i := 190) rfl
theorem lwm_176 : (.methodLink RJ0 1047 ⟨"java/lang/AbstractStringBuilder", "isLatin1", "()Z"⟩ : Cond) ∈ lwT := inT3 (i := 47) rfl
theorem lwm_177 : (.initialized RJ7 : Cond) ∈ lwT := inT1 (i := 17) rfl
theorem lwm_178 : (.static yJ7_copyOfRange_39247 : Cond) ∈ lwT := inT3 (i := 49) rfl
theorem lwm_179 : (.methodLink RJ0 54 yJ7_copyOfRange_39247 : Cond) ∈ lwT := inT3 (i := 48) rfl
theorem lwm_180 : (.fieldLink RJ0 9 "java/lang/String" "value" "[B" : Cond) ∈ lwT := inT3 (i := 71) rfl
theorem lwm_181 : (.fieldLink RJ0 15 "java/lang/String" "coder" "B" : Cond) ∈ lwT := inT3 (i := 72) rfl
theorem lwm_182 : (.code objectInit ⟨#[0xb1]⟩ 1 none : Cond) ∈ lwT := inT1 (i := 28) rfl
theorem lwm_183 : (.instanceMethod objectInit : Cond) ∈ lwT := inT1 (i := 27) rfl
theorem lwm_184 : (.methodLink RJ0 1 objectInit : Cond) ∈ lwT := inT3 (i := 40) rfl
theorem lwm_185 : (.code yJ0_init_db425 cJ0_init_db425 5 none : Cond) ∈ lwT := inT3 (i := 39) rfl
theorem lwm_186 : (.methodLink RJ0 489 yJ0_init_db425 : Cond) ∈ lwT := inT3 (i := 37) rfl
theorem lwm_187 : (.instanceMethod yJ0_init_db425 : Cond) ∈ lwT := inT3 (i := 38) rfl
theorem lwm_188 : (.code yJ0_init_81219 cJ0_init_81219 2 none : Cond) ∈ lwT := inT3 (i := 36) rfl
theorem lwm_189 : (.code Lib.Math.min.name Lib.Math.min.code 2 (some .int) : Cond) ∈ lwT := inT2 (i := 184) rfl
theorem lwm_190 : (.initialized "java/lang/Math" : Cond) ∈ lwT := inT1 (i := 3) rfl
theorem lwm_191 : (.static Lib.Math.min.name : Cond) ∈ lwT := inT2 (i := 183) rfl
theorem lwm_192 : (.methodLink RJ7 304 Lib.Math.min.name : Cond) ∈ lwT := inT2 (i := 182) rfl
theorem lwm_193 : (.code yJ7_copyOfRangeByte_39247 cJ7_copyOfRangeByte_39247 5 (some (.array .byte)) : Cond) ∈ lwT := inT3 (i := 53) rfl
theorem lwm_194 : (.selects "[B" ⟨"[B", "clone", "()Ljava/lang/Object;"⟩ ⟨"java/lang/Object", "clone", "()Ljava/lang/Object;"⟩ : Cond) ∈ lwT := inT2 (i := 179) rfl
theorem lwm_195 : (.instanceMethod ⟨"java/lang/Object", "clone", "()Ljava/lang/Object;"⟩ : Cond) ∈ lwT := inT2 (i := 178) rfl
theorem lwm_196 : (.native ⟨"java/lang/Object", "clone", "()Ljava/lang/Object;"⟩ : Cond) ∈ lwT := inT2 (i := 177) rfl
theorem lwm_197 : (.sameMethod "[B" "java/lang/Object" "clone" "()Ljava/lang/Object;" : Cond) ∈ lwT := inT2 (i := 176) rfl
theorem lwm_198 : (.methodLink RJ7 310 ⟨"[B", "clone", "()Ljava/lang/Object;"⟩ : Cond) ∈ lwT := inT2 (i := 175) rfl
theorem lwm_199 : (.static yJ7_copyOfRangeByte_39247 : Cond) ∈ lwT := inT3 (i := 52) rfl
theorem lwm_200 : (.methodLink RJ7 339 yJ7_copyOfRangeByte_39247 : Cond) ∈ lwT := inT3 (i := 51) rfl
theorem lwm_201 : (.classLink RJ7 311 "[B" : Cond) ∈ lwT := inT2 (i := 181) rfl
theorem lwm_202 : (.code yJ7_copyOfRange_39247 cJ7_copyOfRange_39247 3 (some (.array .byte)) : Cond) ∈ lwT := inT3 (i := 50) rfl
theorem lwm_203 : (.instanceMethod yJ5_getValue_6d5f1 : Cond) ∈ lwT := inT3 (i := 42) rfl
theorem lwm_204 : (.selects RJ4 ⟨"java/lang/AbstractStringBuilder", "getValue", "()[B"⟩ yJ5_getValue_6d5f1 : Cond) ∈ lwT := inT3 (i := 44) rfl
theorem lwm_205 : (.sameMethod "java/lang/AbstractStringBuilder" "java/lang/AbstractStringBuilder" "getValue" "()[B" : Cond) ∈ lwT := inT3 (i := 43) rfl
theorem lwm_206 : (.methodLink RJ0 552 ⟨"java/lang/AbstractStringBuilder", "getValue", "()[B"⟩ : Cond) ∈ lwT := inT3 (i := 41) rfl
theorem lwm_207 : (.instanceMethod yJ4_length_8abf5 : Cond) ∈ lwT := inT3 (i := 22) rfl
theorem lwm_208 : (.selects RJ4 ⟨"java/lang/AbstractStringBuilder", "length", "()I"⟩ yJ4_length_8abf5 : Cond) ∈ lwT := inT6 (i := 233) rfl
theorem lwm_209 : (.methodLink RJ4 50 yJ5_append_3fe6f : Cond) ∈ lwT := inT2 (i := 210) rfl
theorem lwm_210 : (.code yJ4_append_cf468 cJ4_append_cf468 2 (some (.object "java/lang/StringBuilder")) : Cond) ∈ lwT := inT2 (i := 209) rfl
theorem lwm_211 : (.fieldLink RJ5 15 "java/lang/AbstractStringBuilder" "value" "[B" : Cond) ∈ lwT := inT1 (i := 73) rfl
theorem lwm_212 : (.code yJ5_getValue_6d5f1 cJ5_getValue_6d5f1 1 (some (.array .byte)) : Cond) ∈ lwT := inT3 (i := 45) rfl
theorem lwm_213 : (.fieldLink RJ5 79 "java/lang/AbstractStringBuilder" "count" "I" : Cond) ∈ lwT := inT1 (i := 77) rfl
theorem lwm_214 : (.code yJ5_length_8abf5 cJ5_length_8abf5 1 (some .int) : Cond) ∈ lwT := inT3 (i := 27) rfl
theorem lwm_215 : (.superclass RJ4 RJ5 : Cond) ∈ lwT := inT1 (i := 86) rfl
theorem lwm_216 : (.methodLink RJ4 343 yJ5_length_8abf5 : Cond) ∈ lwT := inT3 (i := 25) rfl
theorem lwm_217 : (.code yJ4_length_8abf5 cJ4_length_8abf5 1 (some .int) : Cond) ∈ lwT := inT3 (i := 24) rfl
theorem lwm_218 : (.fieldLink RJ5 22 "java/lang/AbstractStringBuilder" "coder" "B" : Cond) ∈ lwT := inT1 (i := 74) rfl
theorem lwm_219 : (.fieldLink RJ5 18 "java/lang/String" "COMPACT_STRINGS" "Z" : Cond) ∈ lwT := inT1 (i := 64) rfl
theorem lwm_220 : (.code yJ5_isLatin1_aae02 cJ5_isLatin1_aae02 1 (some .boolean) : Cond) ∈ lwT := inT2 (i := 192) rfl
theorem lwm_221 : (.code yJ7_checkLength_df160 cJ7_checkLength_df160 2 none : Cond) ∈ lwT := inT3 (i := 56) rfl
theorem lwm_222 : (.static yJ7_checkLength_df160 : Cond) ∈ lwT := inT3 (i := 55) rfl
theorem lwm_223 : (.methodLink RJ7 343 yJ7_checkLength_df160 : Cond) ∈ lwT := inT3 (i := 54) rfl
theorem lwm_224 : (.arrayClass .byte : Cond) ∈ lwT := inT1 (i := 87) rfl
theorem lwm_225 : (.initialized "java/lang/System" : Cond) ∈ lwT := inT1 (i := 18) rfl
theorem lwm_226 : (.static arraycopyName : Cond) ∈ lwT := inT2 (i := 186) rfl
theorem lwm_227 : (.native arraycopyName : Cond) ∈ lwT := inT2 (i := 187) rfl
theorem lwm_228 : (.methodLink RJ7 150 arraycopyName : Cond) ∈ lwT := inT2 (i := 185) rfl
theorem lwm_229 : (.code yJ7_copyOf_9075b cJ7_copyOf_9075b 3 (some (.array .byte)) : Cond) ∈ lwT := inT2 (i := 174) rfl
theorem lwm_230 : (.instanceMethod yJ5_newCapacity_0f7a4 : Cond) ∈ lwT := inT2 (i := 161) rfl
theorem lwm_231 : (.selects RJ4 ⟨"java/lang/AbstractStringBuilder", "newCapacity", "(I)I"⟩ yJ5_newCapacity_0f7a4 : Cond) ∈ lwT := inX (i := 1) rfl
theorem lwm_232 : (.sameMethod "java/lang/AbstractStringBuilder" "java/lang/AbstractStringBuilder" "newCapacity" "(I)I" : Cond) ∈ lwT := inT6 (i := 229) rfl
theorem lwm_233 : (.methodLink RJ5 104 ⟨"java/lang/AbstractStringBuilder", "newCapacity", "(I)I"⟩ : Cond) ∈ lwT := inT2 (i := 159) rfl
theorem lwm_234 : (.static yJ7_copyOf_9075b : Cond) ∈ lwT := inT2 (i := 173) rfl
theorem lwm_235 : (.methodLink RJ5 108 yJ7_copyOf_9075b : Cond) ∈ lwT := inT2 (i := 172) rfl
theorem lwm_236 : (.code yJ5_ensureCapacityInternal_d00df cJ5_ensureCapacityInternal_d00df 3 none : Cond) ∈ lwT := inT2 (i := 158) rfl
theorem lwm_237 : (.code yJ1_canEncode_fc78d cJ1_canEncode_fc78d 1 (some .boolean) : Cond) ∈ lwT := inT2 (i := 215) rfl
theorem lwm_238 : (.instanceMethod yJ5_ensureCapacityInternal_d00df : Cond) ∈ lwT := inT2 (i := 157) rfl
theorem lwm_239 : (.selects RJ4 ⟨"java/lang/AbstractStringBuilder", "ensureCapacityInternal", "(I)V"⟩ yJ5_ensureCapacityInternal_d00df : Cond) ∈ lwT := inX (i := 0) rfl
theorem lwm_240 : (.sameMethod "java/lang/AbstractStringBuilder" "java/lang/AbstractStringBuilder" "ensureCapacityInternal" "(I)V" : Cond) ∈ lwT := inT6 (i := 228) rfl
theorem lwm_241 : (.methodLink RJ5 100 ⟨"java/lang/AbstractStringBuilder", "ensureCapacityInternal", "(I)V"⟩ : Cond) ∈ lwT := inT2 (i := 155) rfl
theorem lwm_242 : (.methodLink RJ5 83 ⟨"java/lang/AbstractStringBuilder", "isLatin1", "()Z"⟩ : Cond) ∈ lwT := inT2 (i := 188) rfl
theorem lwm_243 : (.initialized RJ1 : Cond) ∈ lwT := inT1 (i := 19) rfl
theorem lwm_244 : (.static yJ1_canEncode_fc78d : Cond) ∈ lwT := inT2 (i := 214) rfl
theorem lwm_245 : (.methodLink RJ5 191 yJ1_canEncode_fc78d : Cond) ∈ lwT := inT2 (i := 213) rfl
theorem lwm_246 : (.code yJ5_append_3fe6f cJ5_append_3fe6f 2 (some (.object "java/lang/AbstractStringBuilder")) : Cond) ∈ lwT := inT2 (i := 212) rfl
theorem lwm_247 : (.instanceMethod yJ5_append_3fe6f : Cond) ∈ lwT := inT2 (i := 211) rfl
theorem lwm_248 : (.sameMethod "java/lang/AbstractStringBuilder" "java/lang/AbstractStringBuilder" "append" "(C)Ljava/lang/AbstractStringBuilder;" : Cond) ∈ lwT := inT6 (i := 230) rfl
theorem lwm_249 : (.fieldLink RJ5 73 "java/lang/AbstractStringBuilder" "maybeLatin1" "Z" : Cond) ∈ lwT := inT1 (i := 75) rfl
theorem lwm_250 : (.code yJ5_setLength_d00df cJ5_setLength_d00df 2 none : Cond) ∈ lwT := inT2 (i := 154) rfl
theorem lwm_251 : (.instanceMethod yJ5_setLength_d00df : Cond) ∈ lwT := inT2 (i := 153) rfl
theorem lwm_252 : (.sameMethod "java/lang/AbstractStringBuilder" "java/lang/AbstractStringBuilder" "setLength" "(I)V" : Cond) ∈ lwT := inT6 (i := 227) rfl
theorem lwm_253 : (.methodLink RJ4 333 yJ5_setLength_d00df : Cond) ∈ lwT := inT2 (i := 152) rfl
theorem lwm_254 : (.code yJ4_setLength_d00df cJ4_setLength_d00df 2 none : Cond) ∈ lwT := inT2 (i := 151) rfl
theorem lwm_255 : (.code yX5_isTextByte cX5_isTextByte 1 (some .boolean) : Cond) ∈ lwT := inT3 (i := 146) rfl
theorem lwm_256 : (.static yX5_isTextByte : Cond) ∈ lwT := inT3 (i := 145) rfl
theorem lwm_257 : (.methodLink RX6 192 yX5_isTextByte : Cond) ∈ lwT := inT3 (i := 144) rfl
theorem lwm_258 : (.code yX6_isQuotable cX6_isQuotable 1 (some .boolean) : Cond) ∈ lwT := inT3 (i := 143) rfl
theorem lwm_259 : (.constant RJ8 200 (2147483639) : Cond) ∈ lwT := inT2 (i := 167) rfl
theorem lwm_260 : (.code Lib.Math.max.name Lib.Math.max.code 2 (some .int) : Cond) ∈ lwT := inT1 (i := 37) rfl
theorem lwm_261 : (.static Lib.Math.max.name : Cond) ∈ lwT := inT1 (i := 36) rfl
theorem lwm_262 : (.methodLink RJ8 194 Lib.Math.max.name : Cond) ∈ lwT := inT2 (i := 166) rfl
theorem lwm_263 : (.code yJ8_newLength_cabcc cJ8_newLength_cabcc 4 (some .int) : Cond) ∈ lwT := inT2 (i := 165) rfl
theorem lwm_264 : (.initialized RJ8 : Cond) ∈ lwT := inT1 (i := 16) rfl
theorem lwm_265 : (.static yJ8_newLength_cabcc : Cond) ∈ lwT := inT2 (i := 164) rfl
theorem lwm_266 : (.methodLink RJ5 114 yJ8_newLength_cabcc : Cond) ∈ lwT := inT2 (i := 163) rfl
theorem lwm_267 : (.constant RJ5 39 (2147483647) : Cond) ∈ lwT := inT2 (i := 171) rfl
theorem lwm_268 : (.code yJ5_newCapacity_0f7a4 cJ5_newCapacity_0f7a4 6 (some .int) : Cond) ∈ lwT := inT2 (i := 162) rfl
theorem lwm_269 : (.code yX6_isLetter cX6_isLetter 3 (some .boolean) : Cond) ∈ lwT := inT2 (i := 139) rfl
theorem lwm_270 : (.selects RJ4 yJ4_length_8abf5 yJ4_length_8abf5 : Cond) ∈ lwT := inT3 (i := 23) rfl
theorem lwm_271 : (.methodLink RX6 188 yJ4_length_8abf5 : Cond) ∈ lwT := inT3 (i := 21) rfl
theorem lwm_272 : (.code yX6_takeWord cX6_takeWord 2 (some (.object "java/lang/String")) : Cond) ∈ lwT := inT2 (i := 147) rfl
theorem lwm_273 : (.code yJ1_equals_b5fdf cJ1_equals_b5fdf 3 (some .boolean) : Cond) ∈ lwT := inT3 (i := 102) rfl
theorem lwm_274 : (.static yJ1_equals_b5fdf : Cond) ∈ lwT := inT3 (i := 101) rfl
theorem lwm_275 : (.methodLink RJ0 541 yJ1_equals_b5fdf : Cond) ∈ lwT := inT3 (i := 100) rfl
theorem lwm_276 : (.fieldLink RJ0 38 "java/lang/String" "COMPACT_STRINGS" "Z" : Cond) ∈ lwT := inT3 (i := 57) rfl
theorem lwm_277 : (.classLink RJ0 10 "java/lang/String" : Cond) ∈ lwT := inT3 (i := 99) rfl
theorem lwm_278 : (.code yJ0_equals_9ea2d cJ0_equals_9ea2d 3 (some .boolean) : Cond) ∈ lwT := inT3 (i := 98) rfl
theorem lwm_279 : (.selects RX6 yX6_isLetter yX6_isLetter : Cond) ∈ lwT := inP1 (i := 6) rfl
theorem lwm_280 : (.instanceMethod yX6_isLetter : Cond) ∈ lwT := inT2 (i := 138) rfl
theorem lwm_281 : (.methodLink RX6 108 yX6_isLetter : Cond) ∈ lwT := inT2 (i := 136) rfl
theorem lwm_282 : (.selects RX6 yX6_takeWord yX6_takeWord : Cond) ∈ lwT := inP1 (i := 8) rfl
theorem lwm_283 : (.instanceMethod yX6_takeWord : Cond) ∈ lwT := inT2 (i := 146) rfl
theorem lwm_284 : (.methodLink RX6 111 yX6_takeWord : Cond) ∈ lwT := inT2 (i := 144) rfl
theorem lwm_285 : (.selects RJ0 yJ0_equals_9ea2d yJ0_equals_9ea2d : Cond) ∈ lwT := inT3 (i := 97) rfl
theorem lwm_286 : (.instanceMethod yJ0_equals_9ea2d : Cond) ∈ lwT := inT3 (i := 96) rfl
theorem lwm_287 : (.methodLink RX6 120 yJ0_equals_9ea2d : Cond) ∈ lwT := inT3 (i := 95) rfl
theorem lwm_288 : (.code yX6_takeGroup cX6_takeGroup 4 (some .boolean) : Cond) ∈ lwT := inT3 (i := 131) rfl
theorem lwm_289 : (.selects RJ0 yJ0_length_8abf5 yJ0_length_8abf5 : Cond) ∈ lwT := inT3 (i := 88) rfl
theorem lwm_290 : (.instanceMethod yJ0_length_8abf5 : Cond) ∈ lwT := inT3 (i := 87) rfl
theorem lwm_291 : (.methodLink RX6 115 yJ0_length_8abf5 : Cond) ∈ lwT := inT3 (i := 86) rfl
theorem lwm_292 : (.selects RX1 yX1_hasName yX1_hasName : Cond) ∈ lwT := inT3 (i := 114) rfl
theorem lwm_293 : (.instanceMethod yX1_hasName : Cond) ∈ lwT := inT3 (i := 113) rfl
theorem lwm_294 : (.methodLink RX6 128 yX1_hasName : Cond) ∈ lwT := inT3 (i := 112) rfl
theorem lwm_295 : (.code yX6_takeName cX6_takeName 5 (some .boolean) : Cond) ∈ lwT := inT2 (i := 143) rfl
theorem lwm_296 : (.code yJ0_isEmpty_aae02 cJ0_isEmpty_aae02 1 (some .boolean) : Cond) ∈ lwT := inT3 (i := 85) rfl
theorem lwm_297 : (.code yX6_kindOf cX6_kindOf 1 (some .int) : Cond) ∈ lwT := inT3 (i := 105) rfl
theorem lwm_298 : (.code yX8_makeOf cX8_makeOf 2 (some (.object "RecordBench$Make")) : Cond) ∈ lwT := inT3 (i := 127) rfl
theorem lwm_299 : (.static yX8_makeOf : Cond) ∈ lwT := inT3 (i := 126) rfl
theorem lwm_300 : (.fieldLink RX6 15 "RecordBench$TextReader" "makes" "[LRecordBench$Make;" : Cond) ∈ lwT := inT1 (i := 89) rfl
theorem lwm_301 : (.code yX6_takeRec cX6_takeRec 4 (some .boolean) : Cond) ∈ lwT := inT3 (i := 124) rfl
theorem lwm_302 : (.static yX6_kindOf : Cond) ∈ lwT := inT3 (i := 104) rfl
theorem lwm_303 : (.methodLink RX6 124 yX6_kindOf : Cond) ∈ lwT := inT3 (i := 103) rfl
theorem lwm_304 : (.selects RX6 yX6_takeRec yX6_takeRec : Cond) ∈ lwT := inP1 (i := 10) rfl
theorem lwm_305 : (.instanceMethod yX6_takeRec : Cond) ∈ lwT := inT3 (i := 123) rfl
theorem lwm_306 : (.methodLink RX6 135 yX6_takeRec : Cond) ∈ lwT := inT3 (i := 121) rfl
theorem lwm_307 : (.code yX6_takeKind cX6_takeKind 4 (some .boolean) : Cond) ∈ lwT := inT3 (i := 120) rfl
theorem lwm_308 : (.fieldLink RX0 33 "RecordBench$Field" "value" "J" : Cond) ∈ lwT := inT2 (i := 103) rfl
theorem lwm_309 : (.fieldLink RX0 30 "RecordBench$Field" "text" "Ljava/lang/String;" : Cond) ∈ lwT := inT2 (i := 101) rfl
theorem lwm_310 : (.fieldLink RX0 26 "RecordBench$Field" "name" "Ljava/lang/String;" : Cond) ∈ lwT := inT2 (i := 97) rfl
theorem lwm_311 : (.fieldLink RX0 21 "RecordBench$Field" "rec" "I" : Cond) ∈ lwT := inT2 (i := 91) rfl
theorem lwm_312 : (.fieldLink RX0 18 "RecordBench$Field" "group" "I" : Cond) ∈ lwT := inT2 (i := 86) rfl
theorem lwm_313 : (.fieldLink RX0 9 "RecordBench$Field" "number" "I" : Cond) ∈ lwT := inT2 (i := 73) rfl
theorem lwm_314 : (.methodLink RX0 3 objectInit : Cond) ∈ lwT := inT2 (i := 71) rfl
theorem lwm_315 : (.code yX0_init cX0_init 1 none : Cond) ∈ lwT := inT2 (i := 70) rfl
theorem lwm_316 : (.code yX1_fieldAt cX1_fieldAt 2 (some (.object "RecordBench$Field")) : Cond) ∈ lwT := inT2 (i := 135) rfl
theorem lwm_317 : (.selects RX1 yX1_fieldAt yX1_fieldAt : Cond) ∈ lwT := inT2 (i := 134) rfl
theorem lwm_318 : (.instanceMethod yX1_fieldAt : Cond) ∈ lwT := inT2 (i := 133) rfl
theorem lwm_319 : (.methodLink RX6 101 yX1_fieldAt : Cond) ∈ lwT := inT2 (i := 132) rfl
theorem lwm_320 : (.code yX6_takeNumber cX6_takeNumber 6 (some .boolean) : Cond) ∈ lwT := inT2 (i := 123) rfl
theorem lwm_321 : (.code yJ0_coder_7d493 cJ0_coder_7d493 1 (some .byte) : Cond) ∈ lwT := inT3 (i := 93) rfl
theorem lwm_322 : (.selects RJ0 yJ0_coder_7d493 yJ0_coder_7d493 : Cond) ∈ lwT := inT3 (i := 92) rfl
theorem lwm_323 : (.instanceMethod yJ0_coder_7d493 : Cond) ∈ lwT := inT3 (i := 91) rfl
theorem lwm_324 : (.methodLink RJ0 335 yJ0_coder_7d493 : Cond) ∈ lwT := inT3 (i := 90) rfl
theorem lwm_325 : (.code yJ0_length_8abf5 cJ0_length_8abf5 1 (some .int) : Cond) ∈ lwT := inT3 (i := 89) rfl
theorem lwm_326 : (.methodLink RX1 32 yJ0_equals_9ea2d : Cond) ∈ lwT := inT3 (i := 116) rfl
theorem lwm_327 : (.code yX1_hasName cX1_hasName 4 (some .boolean) : Cond) ∈ lwT := inT3 (i := 115) rfl
theorem lwm_328 : (.classLink RX1 9 RX0 : Cond) ∈ lwT := inT2 (i := 37) rfl
theorem lwm_329 : (.methodLink RX1 3 objectInit : Cond) ∈ lwT := inT2 (i := 36) rfl
theorem lwm_330 : (.code yX1_init cX1_init 1 none : Cond) ∈ lwT := inT2 (i := 35) rfl
theorem lwm_331 : (.selects RX8 yX8_make yX8_make : Cond) ∈ lwT := inT2 (i := 25) rfl
theorem lwm_332 : (.instanceMethod yX8_make : Cond) ∈ lwT := inT2 (i := 24) rfl
theorem lwm_333 : (.methodLink RL 23 yX8_make : Cond) ∈ lwT := inT2 (i := 23) rfl
theorem lwm_334 : (.code yX9_next cX9_next 1 (some .int) : Cond) ∈ lwT := inT5 (i := 207) rfl
theorem lwm_335 : (.selects RX9 yX9_field yX9_field : Cond) ∈ lwT := inP2 (i := 15) rfl
theorem lwm_336 : (.instanceMethod yX9_field : Cond) ∈ lwT := inT5 (i := 210) rfl
theorem lwm_337 : (.methodLink RX9 233 yX9_field : Cond) ∈ lwT := inT5 (i := 208) rfl
theorem lwm_338 : (.selects RX9 yX9_next yX9_next : Cond) ∈ lwT := inP2 (i := 14) rfl
theorem lwm_339 : (.instanceMethod yX9_next : Cond) ∈ lwT := inT5 (i := 206) rfl
theorem lwm_340 : (.methodLink RX9 150 yX9_next : Cond) ∈ lwT := inT5 (i := 204) rfl
theorem lwm_341 : (.fieldLink RX9 42 "RecordBenchModel" "faultPlace" "I" : Cond) ∈ lwT := inT5 (i := 25) rfl
theorem lwm_342 : (.fieldLink RX9 236 "RecordBenchModel" "fault" "I" : Cond) ∈ lwT := inT5 (i := 24) rfl
theorem lwm_343 : (.fieldLink RX9 36 "RecordBenchModel" "isThere" "[Z" : Cond) ∈ lwT := inT5 (i := 17) rfl
theorem lwm_344 : (.fieldLink RX9 177 "RecordBenchModel" "fields" "I" : Cond) ∈ lwT := inT5 (i := 36) rfl
theorem lwm_345 : (.fieldLink RX9 162 "RecordBenchModel" "ended" "I" : Cond) ∈ lwT := inT5 (i := 27) rfl
theorem lwm_346 : (.fieldLink RX9 138 "RecordBenchModel" "badPlace" "I" : Cond) ∈ lwT := inT5 (i := 23) rfl
theorem lwm_347 : (.fieldLink RX9 135 "RecordBenchModel" "bad" "I" : Cond) ∈ lwT := inT5 (i := 22) rfl
theorem lwm_348 : (.fieldLink RX9 144 "RecordBenchModel" "size" "I" : Cond) ∈ lwT := inT5 (i := 21) rfl
theorem lwm_349 : (.fieldLink RX9 141 "RecordBenchModel" "at" "I" : Cond) ∈ lwT := inT5 (i := 20) rfl
theorem lwm_350 : (.fieldLink RX9 7 "RecordBenchModel" "told" "[Z" : Cond) ∈ lwT := inT5 (i := 9) rfl
theorem lwm_351 : (.code yX9_make cX9_make 3 (some .int) : Cond) ∈ lwT := inT5 (i := 203) rfl
theorem lwm_352 : (.selects RX9 yX9_word yX9_word : Cond) ∈ lwT := inP3 (i := 2) rfl
theorem lwm_353 : (.instanceMethod yX9_word : Cond) ∈ lwT := inT5 (i := 225) rfl
theorem lwm_354 : (.methodLink RX9 184 yX9_word : Cond) ∈ lwT := inT5 (i := 223) rfl
theorem lwm_355 : (.selects RX9 yX9_wordEnd yX9_wordEnd : Cond) ∈ lwT := inP3 (i := 3) rfl
theorem lwm_356 : (.instanceMethod yX9_wordEnd : Cond) ∈ lwT := inT5 (i := 229) rfl
theorem lwm_357 : (.methodLink RX9 172 yX9_wordEnd : Cond) ∈ lwT := inT5 (i := 227) rfl
theorem lwm_358 : (.selects RX9 yX9_kinds yX9_kinds : Cond) ∈ lwT := inP3 (i := 7) rfl
theorem lwm_359 : (.instanceMethod yX9_kinds : Cond) ∈ lwT := inT6 (i := 9) rfl
theorem lwm_360 : (.methodLink RX9 199 yX9_kinds : Cond) ∈ lwT := inT6 (i := 7) rfl
theorem lwm_361 : (.selects RX9 yX9_takes yX9_takes : Cond) ∈ lwT := inP3 (i := 4) rfl
theorem lwm_362 : (.instanceMethod yX9_takes : Cond) ∈ lwT := inT5 (i := 237) rfl
theorem lwm_363 : (.methodLink RX9 188 yX9_takes : Cond) ∈ lwT := inT5 (i := 235) rfl
theorem lwm_364 : (.fieldLink RX9 17 "RecordBenchModel" "group" "[I" : Cond) ∈ lwT := inT5 (i := 11) rfl
theorem lwm_365 : (.fieldLink RX9 26 "RecordBenchModel" "name" "[J" : Cond) ∈ lwT := inT5 (i := 14) rfl
theorem lwm_366 : (.fieldLink RX9 23 "RecordBenchModel" "letters" "[I" : Cond) ∈ lwT := inT5 (i := 13) rfl
theorem lwm_367 : (.fieldLink RX9 13 "RecordBenchModel" "kind" "[I" : Cond) ∈ lwT := inT5 (i := 10) rfl
theorem lwm_368 : (.fieldLink RX9 50 "RecordBenchModel" "goneWord" "J" : Cond) ∈ lwT := inT5 (i := 28) rfl
theorem lwm_369 : (.code yX9_field cX9_field 8 none : Cond) ∈ lwT := inT5 (i := 211) rfl
theorem lwm_370 : (.fieldLink RX9 147 "RecordBenchModel" "begun" "I" : Cond) ∈ lwT := inT5 (i := 26) rfl
theorem lwm_371 : (.fieldLink RX9 20 "RecordBenchModel" "inner" "[I" : Cond) ∈ lwT := inT5 (i := 12) rfl
theorem lwm_372 : (.code yX9_kinds cX9_kinds 4 none : Cond) ∈ lwT := inT6 (i := 10) rfl
theorem lwm_373 : (.code yX9_fail cX9_fail 3 none : Cond) ∈ lwT := inT5 (i := 215) rfl
theorem lwm_374 : (.code yX9_isLetter cX9_isLetter 1 (some .boolean) : Cond) ∈ lwT := inT5 (i := 233) rfl
theorem lwm_375 : (.static yX9_isLetter : Cond) ∈ lwT := inT5 (i := 232) rfl
theorem lwm_376 : (.methodLink RX9 165 yX9_isLetter : Cond) ∈ lwT := inT5 (i := 231) rfl
theorem lwm_377 : (.code yX9_wordEnd cX9_wordEnd 2 (some .int) : Cond) ∈ lwT := inT5 (i := 230) rfl
theorem lwm_378 : (.code yX9_takes cX9_takes 1 none : Cond) ∈ lwT := inT5 (i := 238) rfl
theorem lwm_379 : (.selects RX9 yX9_number yX9_number : Cond) ∈ lwT := inP3 (i := 1) rfl
theorem lwm_380 : (.instanceMethod yX9_number : Cond) ∈ lwT := inT5 (i := 218) rfl
theorem lwm_381 : (.methodLink RX9 180 yX9_number : Cond) ∈ lwT := inT5 (i := 216) rfl
theorem lwm_382 : (.selects RX9 yX9_sign yX9_sign : Cond) ∈ lwT := inP3 (i := 5) rfl
theorem lwm_383 : (.instanceMethod yX9_sign : Cond) ∈ lwT := inT6 (i := 1) rfl
theorem lwm_384 : (.methodLink RX9 191 yX9_sign : Cond) ∈ lwT := inT5 (i := 239) rfl
theorem lwm_385 : (.selects RX9 yX9_fail yX9_fail : Cond) ∈ lwT := inP3 (i := 0) rfl
theorem lwm_386 : (.instanceMethod yX9_fail : Cond) ∈ lwT := inT5 (i := 214) rfl
theorem lwm_387 : (.methodLink RX9 154 yX9_fail : Cond) ∈ lwT := inT5 (i := 212) rfl
theorem lwm_388 : (.selects RX9 yX9_kindOf yX9_kindOf : Cond) ∈ lwT := inP3 (i := 6) rfl
theorem lwm_389 : (.instanceMethod yX9_kindOf : Cond) ∈ lwT := inT6 (i := 5) rfl
theorem lwm_390 : (.methodLink RX9 195 yX9_kindOf : Cond) ∈ lwT := inT6 (i := 3) rfl
theorem lwm_391 : (.methodLink RX9 229 yX9_isOf : Cond) ∈ lwT := inT6 (i := 30) rfl
theorem lwm_392 : (.constantLong RX9 227 (-9223372036854775808) : Cond) ∈ lwT := inT6 (i := 29) rfl
theorem lwm_393 : (.constantLong RX9 225 (10) : Cond) ∈ lwT := inT6 (i := 28) rfl
theorem lwm_394 : (.constantLong RX9 223 (-922337203685477580) : Cond) ∈ lwT := inT6 (i := 27) rfl
theorem lwm_395 : (.code yX9_value cX9_value 10 none : Cond) ∈ lwT := inT6 (i := 26) rfl
theorem lwm_396 : (.code yX9_sign cX9_sign 2 none : Cond) ∈ lwT := inT6 (i := 2) rfl
theorem lwm_397 : (.selects RX9 yX9_digit yX9_digit : Cond) ∈ lwT := inP3 (i := 8) rfl
theorem lwm_398 : (.instanceMethod yX9_digit : Cond) ∈ lwT := inT6 (i := 13) rfl
theorem lwm_399 : (.methodLink RX9 203 yX9_digit : Cond) ∈ lwT := inT6 (i := 11) rfl
theorem lwm_400 : (.selects RX9 yX9_ends yX9_ends : Cond) ∈ lwT := inP3 (i := 9) rfl
theorem lwm_401 : (.instanceMethod yX9_ends : Cond) ∈ lwT := inT6 (i := 17) rfl
theorem lwm_402 : (.methodLink RX9 206 yX9_ends : Cond) ∈ lwT := inT6 (i := 15) rfl
theorem lwm_403 : (.selects RX9 yX9_textValue yX9_textValue : Cond) ∈ lwT := inP3 (i := 10) rfl
theorem lwm_404 : (.instanceMethod yX9_textValue : Cond) ∈ lwT := inT6 (i := 21) rfl
theorem lwm_405 : (.methodLink RX9 209 yX9_textValue : Cond) ∈ lwT := inT6 (i := 19) rfl
theorem lwm_406 : (.selects RX9 yX9_value yX9_value : Cond) ∈ lwT := inP3 (i := 11) rfl
theorem lwm_407 : (.instanceMethod yX9_value : Cond) ∈ lwT := inT6 (i := 25) rfl
theorem lwm_408 : (.methodLink RX9 212 yX9_value : Cond) ∈ lwT := inT6 (i := 23) rfl
theorem lwm_409 : (.fieldLink RX9 72 "RecordBenchModel" "inWord" "J" : Cond) ∈ lwT := inT5 (i := 35) rfl
theorem lwm_410 : (.fieldLink RX9 30 "RecordBenchModel" "plain" "[J" : Cond) ∈ lwT := inT5 (i := 15) rfl
theorem lwm_411 : (.fieldLink RX9 57 "RecordBenchModel" "smallWord" "J" : Cond) ∈ lwT := inT5 (i := 30) rfl
theorem lwm_412 : (.fieldLink RX9 54 "RecordBenchModel" "flagWord" "J" : Cond) ∈ lwT := inT5 (i := 29) rfl
theorem lwm_413 : (.code yX9_kindOf cX9_kindOf 3 (some .int) : Cond) ∈ lwT := inT6 (i := 6) rfl
theorem lwm_414 : (.code yX9_digit cX9_digit 1 (some .int) : Cond) ∈ lwT := inT6 (i := 14) rfl
theorem lwm_415 : (.constantLong RX9 170 (97) : Cond) ∈ lwT := inT5 (i := 8) rfl
theorem lwm_416 : (.constantLong RX9 168 (27) : Cond) ∈ lwT := inT5 (i := 7) rfl
theorem lwm_417 : (.constantLong RX9 175 (-1) : Cond) ∈ lwT := inT5 (i := 234) rfl
theorem lwm_418 : (.code yX9_word cX9_word 5 (some .long) : Cond) ∈ lwT := inT5 (i := 226) rfl
theorem lwm_419 : (.code yX9_ends cX9_ends 1 none : Cond) ∈ lwT := inT6 (i := 18) rfl
theorem lwm_420 : (.fieldLink RX9 33 "RecordBenchModel" "plainText" "[I" : Cond) ∈ lwT := inT5 (i := 16) rfl
theorem lwm_421 : (.code yX9_textValue cX9_textValue 3 none : Cond) ∈ lwT := inT6 (i := 22) rfl
theorem lwm_422 : (.code yX9_isDigit cX9_isDigit 1 (some .boolean) : Cond) ∈ lwT := inT5 (i := 222) rfl
theorem lwm_423 : (.constantLong RX9 217 (127) : Cond) ∈ lwT := inT6 (i := 34) rfl
theorem lwm_424 : (.constantLong RX9 215 (-128) : Cond) ∈ lwT := inT6 (i := 33) rfl
theorem lwm_425 : (.constantLong RX9 221 (2147483647) : Cond) ∈ lwT := inT6 (i := 36) rfl
theorem lwm_426 : (.constantLong RX9 219 (-2147483648) : Cond) ∈ lwT := inT6 (i := 35) rfl
theorem lwm_427 : (.code yX9_isOf cX9_isOf 3 (some .boolean) : Cond) ∈ lwT := inT6 (i := 32) rfl
theorem lwm_428 : (.static yX9_isDigit : Cond) ∈ lwT := inT5 (i := 221) rfl
theorem lwm_429 : (.methodLink RX9 158 yX9_isDigit : Cond) ∈ lwT := inT5 (i := 220) rfl
theorem lwm_430 : (.static yX9_isOf : Cond) ∈ lwT := inT6 (i := 31) rfl
theorem lwm_431 : (.code yX9_number cX9_number 5 (some .int) : Cond) ∈ lwT := inT5 (i := 219) rfl
theorem lwm_432 : (.fieldLink RX9 69 "RecordBenchModel" "recWord" "J" : Cond) ∈ lwT := inT5 (i := 34) rfl
theorem lwm_433 : (.fieldLink RX9 66 "RecordBenchModel" "textWord" "J" : Cond) ∈ lwT := inT5 (i := 33) rfl
theorem lwm_434 : (.fieldLink RX9 63 "RecordBenchModel" "longWord" "J" : Cond) ∈ lwT := inT5 (i := 32) rfl
theorem lwm_435 : (.fieldLink RX9 60 "RecordBenchModel" "intWord" "J" : Cond) ∈ lwT := inT5 (i := 31) rfl
theorem lwm_436 : (.selects RX9 yX9_make yX9_make : Cond) ∈ lwT := inT5 (i := 202) rfl
theorem lwm_437 : (.instanceMethod yX9_make : Cond) ∈ lwT := inT5 (i := 201) rfl
theorem lwm_438 : (.methodLink RL 27 yX9_make : Cond) ∈ lwT := inT5 (i := 200) rfl
theorem lwm_439 : (.code yX8_fault cX8_fault 2 (some .int) : Cond) ∈ lwT := inT3 (i := 184) rfl
theorem lwm_440 : (.selects RX8 yX8_fault yX8_fault : Cond) ∈ lwT := inT3 (i := 183) rfl
theorem lwm_441 : (.instanceMethod yX8_fault : Cond) ∈ lwT := inT3 (i := 182) rfl
theorem lwm_442 : (.methodLink RL 28 yX8_fault : Cond) ∈ lwT := inT3 (i := 181) rfl
theorem lwm_443 : (.code yX9_fault cX9_fault 2 (some .int) : Cond) ∈ lwT := inT6 (i := 40) rfl
theorem lwm_444 : (.selects RX9 yX9_fault yX9_fault : Cond) ∈ lwT := inT6 (i := 39) rfl
theorem lwm_445 : (.instanceMethod yX9_fault : Cond) ∈ lwT := inT6 (i := 38) rfl
theorem lwm_446 : (.methodLink RL 31 yX9_fault : Cond) ∈ lwT := inT6 (i := 37) rfl
theorem lwm_447 : (.methodLink RX8 225 yX1_fieldAt : Cond) ∈ lwT := inT3 (i := 194) rfl
theorem lwm_448 : (.methodLink RX8 136 yX8_makeOf : Cond) ∈ lwT := inT3 (i := 193) rfl
theorem lwm_449 : (.code yX8_fieldOf cX8_fieldOf 4 (some (.object "RecordBench$Field")) : Cond) ∈ lwT := inT3 (i := 192) rfl
theorem lwm_450 : (.methodLink RX8 119 yJ0_length_8abf5 : Cond) ∈ lwT := inT3 (i := 195) rfl
theorem lwm_451 : (.selects RX8 yX8_fieldOf yX8_fieldOf : Cond) ∈ lwT := inP2 (i := 0) rfl
theorem lwm_452 : (.instanceMethod yX8_fieldOf : Cond) ∈ lwT := inT3 (i := 191) rfl
theorem lwm_453 : (.methodLink RX8 100 yX8_fieldOf : Cond) ∈ lwT := inT3 (i := 189) rfl
theorem lwm_454 : (.code yX8_field cX8_field 5 (some .int) : Cond) ∈ lwT := inT3 (i := 188) rfl
theorem lwm_455 : (.selects RX8 yX8_field yX8_field : Cond) ∈ lwT := inT3 (i := 187) rfl
theorem lwm_456 : (.instanceMethod yX8_field : Cond) ∈ lwT := inT3 (i := 186) rfl
theorem lwm_457 : (.methodLink RL 32 yX8_field : Cond) ∈ lwT := inT3 (i := 185) rfl
theorem lwm_458 : (.code yX9_isMake cX9_isMake 2 (some .boolean) : Cond) ∈ lwT := inT6 (i := 52) rfl
theorem lwm_459 : (.selects RX9 yX9_isMake yX9_isMake : Cond) ∈ lwT := inP3 (i := 13) rfl
theorem lwm_460 : (.instanceMethod yX9_isMake : Cond) ∈ lwT := inT6 (i := 51) rfl
theorem lwm_461 : (.methodLink RX9 239 yX9_isMake : Cond) ∈ lwT := inT6 (i := 49) rfl
theorem lwm_462 : (.code yX9_isField cX9_isField 3 (some .boolean) : Cond) ∈ lwT := inT6 (i := 48) rfl
theorem lwm_463 : (.selects RX9 yX9_isField yX9_isField : Cond) ∈ lwT := inP3 (i := 12) rfl
theorem lwm_464 : (.instanceMethod yX9_isField : Cond) ∈ lwT := inT6 (i := 47) rfl
theorem lwm_465 : (.methodLink RX9 242 yX9_isField : Cond) ∈ lwT := inT6 (i := 45) rfl
theorem lwm_466 : (.code yX9_field_ cX9_field_ 5 (some .int) : Cond) ∈ lwT := inT6 (i := 44) rfl
theorem lwm_467 : (.selects RX9 yX9_field_ yX9_field_ : Cond) ∈ lwT := inT6 (i := 43) rfl
theorem lwm_468 : (.instanceMethod yX9_field_ : Cond) ∈ lwT := inT6 (i := 42) rfl
theorem lwm_469 : (.methodLink RL 36 yX9_field_ : Cond) ∈ lwT := inT6 (i := 41) rfl
theorem lwm_470 : (.selects RX0 yX0_plainNumber yX0_plainNumber : Cond) ∈ lwT := inT3 (i := 202) rfl
theorem lwm_471 : (.instanceMethod yX0_plainNumber : Cond) ∈ lwT := inT3 (i := 201) rfl
theorem lwm_472 : (.methodLink RX8 124 yX0_plainNumber : Cond) ∈ lwT := inT3 (i := 200) rfl
theorem lwm_473 : (.code yX8_plain cX8_plain 4 (some .long) : Cond) ∈ lwT := inT3 (i := 199) rfl
theorem lwm_474 : (.methodLink RX0 45 yJ0_length_8abf5 : Cond) ∈ lwT := inT3 (i := 204) rfl
theorem lwm_475 : (.code yX0_plainNumber cX0_plainNumber 1 (some .long) : Cond) ∈ lwT := inT3 (i := 203) rfl
theorem lwm_476 : (.selects RX8 yX8_plain yX8_plain : Cond) ∈ lwT := inT3 (i := 198) rfl
theorem lwm_477 : (.instanceMethod yX8_plain : Cond) ∈ lwT := inT3 (i := 197) rfl
theorem lwm_478 : (.methodLink RL 37 yX8_plain : Cond) ∈ lwT := inT3 (i := 196) rfl
theorem lwm_479 : (.code yX9_has cX9_has 3 (some .boolean) : Cond) ∈ lwT := inT6 (i := 60) rfl
theorem lwm_480 : (.selects RX9 yX9_has yX9_has : Cond) ∈ lwT := inP3 (i := 14) rfl
theorem lwm_481 : (.instanceMethod yX9_has : Cond) ∈ lwT := inT6 (i := 59) rfl
theorem lwm_482 : (.methodLink RX9 246 yX9_has : Cond) ∈ lwT := inT6 (i := 57) rfl
theorem lwm_483 : (.code yX9_plain cX9_plain 3 (some .long) : Cond) ∈ lwT := inT6 (i := 56) rfl
theorem lwm_484 : (.selects RX9 yX9_plain yX9_plain : Cond) ∈ lwT := inT6 (i := 55) rfl
theorem lwm_485 : (.instanceMethod yX9_plain : Cond) ∈ lwT := inT6 (i := 54) rfl
theorem lwm_486 : (.methodLink RL 41 yX9_plain : Cond) ∈ lwT := inT6 (i := 53) rfl
theorem lwm_487 : (.fieldLink RX8 18 "RecordBench" "records" "[LRecordBench$Row;" : Cond) ∈ lwT := inT1 (i := 203) rfl
theorem lwm_488 : (.code yX8_recordOf cX8_recordOf 2 (some (.object "RecordBench$Row")) : Cond) ∈ lwT := inT3 (i := 212) rfl
theorem lwm_489 : (.selects RX8 yX8_recordOf yX8_recordOf : Cond) ∈ lwT := inP2 (i := 1) rfl
theorem lwm_490 : (.instanceMethod yX8_recordOf : Cond) ∈ lwT := inT3 (i := 211) rfl
theorem lwm_491 : (.methodLink RX8 128 yX8_recordOf : Cond) ∈ lwT := inT3 (i := 209) rfl
theorem lwm_492 : (.code yX8_clear cX8_clear 4 (some .int) : Cond) ∈ lwT := inT3 (i := 208) rfl
theorem lwm_493 : (.selects RX8 yX8_clear yX8_clear : Cond) ∈ lwT := inT3 (i := 207) rfl
theorem lwm_494 : (.instanceMethod yX8_clear : Cond) ∈ lwT := inT3 (i := 206) rfl
theorem lwm_495 : (.methodLink RL 42 yX8_clear : Cond) ∈ lwT := inT3 (i := 205) rfl
theorem lwm_496 : (.code yX9_isRecord cX9_isRecord 1 (some .boolean) : Cond) ∈ lwT := inT6 (i := 67) rfl
theorem lwm_497 : (.static yX9_isRecord : Cond) ∈ lwT := inT6 (i := 66) rfl
theorem lwm_498 : (.methodLink RX9 249 yX9_isRecord : Cond) ∈ lwT := inT6 (i := 65) rfl
theorem lwm_499 : (.fieldLink RX9 78 "RecordBenchModel" "long0" "[I" : Cond) ∈ lwT := inT5 (i := 38) rfl
theorem lwm_500 : (.code yX9_clear cX9_clear 3 (some .int) : Cond) ∈ lwT := inT6 (i := 64) rfl
theorem lwm_501 : (.selects RX9 yX9_clear yX9_clear : Cond) ∈ lwT := inT6 (i := 63) rfl
theorem lwm_502 : (.instanceMethod yX9_clear : Cond) ∈ lwT := inT6 (i := 62) rfl
theorem lwm_503 : (.methodLink RL 45 yX9_clear : Cond) ∈ lwT := inT6 (i := 61) rfl
theorem lwm_504 : (.selects RX5 yX5_become yX5_become : Cond) ∈ lwT := inT3 (i := 219) rfl
theorem lwm_505 : (.instanceMethod yX5_become : Cond) ∈ lwT := inT3 (i := 218) rfl
theorem lwm_506 : (.methodLink RX8 132 yX5_become : Cond) ∈ lwT := inT3 (i := 217) rfl
theorem lwm_507 : (.code yX8_load cX8_load 3 (some .int) : Cond) ∈ lwT := inT3 (i := 216) rfl
theorem lwm_508 : (.methodLink RX5 48 yX5_byteAt : Cond) ∈ lwT := inT3 (i := 221) rfl
theorem lwm_509 : (.code yX5_become cX5_become 6 none : Cond) ∈ lwT := inT3 (i := 220) rfl
theorem lwm_510 : (.selects RX8 yX8_load yX8_load : Cond) ∈ lwT := inT3 (i := 215) rfl
theorem lwm_511 : (.instanceMethod yX8_load : Cond) ∈ lwT := inT3 (i := 214) rfl
theorem lwm_512 : (.methodLink RL 46 yX8_load : Cond) ∈ lwT := inT3 (i := 213) rfl
theorem lwm_513 : (.fieldLink RX9 75 "RecordBenchModel" "bytes" "[I" : Cond) ∈ lwT := inT5 (i := 37) rfl
theorem lwm_514 : (.code yX9_load cX9_load 3 (some .int) : Cond) ∈ lwT := inT6 (i := 71) rfl
theorem lwm_515 : (.selects RX9 yX9_load yX9_load : Cond) ∈ lwT := inT6 (i := 70) rfl
theorem lwm_516 : (.instanceMethod yX9_load : Cond) ∈ lwT := inT6 (i := 69) rfl
theorem lwm_517 : (.methodLink RL 49 yX9_load : Cond) ∈ lwT := inT6 (i := 68) rfl
theorem lwm_518 : (.selects RX3 yX3_isSound yX3_isSound : Cond) ∈ lwT := inT3 (i := 232) rfl
theorem lwm_519 : (.instanceMethod yX3_isSound : Cond) ∈ lwT := inT3 (i := 231) rfl
theorem lwm_520 : (.methodLink RX8 144 yX3_isSound : Cond) ∈ lwT := inT3 (i := 230) rfl
theorem lwm_521 : (.selects RX0 yX0_isNumber yX0_isNumber : Cond) ∈ lwT := inT3 (i := 228) rfl
theorem lwm_522 : (.instanceMethod yX0_isNumber : Cond) ∈ lwT := inT3 (i := 227) rfl
theorem lwm_523 : (.methodLink RX8 140 yX0_isNumber : Cond) ∈ lwT := inT3 (i := 226) rfl
theorem lwm_524 : (.fieldLink RX8 60 "RecordBench" "fresh" "LRecordBench$Row;" : Cond) ∈ lwT := inT1 (i := 209) rfl
theorem lwm_525 : (.fieldLink RX8 42 "RecordBench" "reader" "LRecordBench$RecordReader;" : Cond) ∈ lwT := inT1 (i := 206) rfl
theorem lwm_526 : (.code yX8_set cX8_set 9 (some .int) : Cond) ∈ lwT := inT3 (i := 225) rfl
theorem lwm_527 : (.selects RX8 yX8_settle yX8_settle : Cond) ∈ lwT := inP2 (i := 6) rfl
theorem lwm_528 : (.instanceMethod yX8_settle : Cond) ∈ lwT := inT4 (i := 70) rfl
theorem lwm_529 : (.methodLink RX8 160 yX8_settle : Cond) ∈ lwT := inT4 (i := 68) rfl
theorem lwm_530 : (.selects RX5 yX5_pushNumber yX5_pushNumber : Cond) ∈ lwT := inT4 (i := 66) rfl
theorem lwm_531 : (.instanceMethod yX5_pushNumber : Cond) ∈ lwT := inT4 (i := 65) rfl
theorem lwm_532 : (.methodLink RX8 156 yX5_pushNumber : Cond) ∈ lwT := inT4 (i := 64) rfl
theorem lwm_533 : (.selects RX5 yX5_pushKey yX5_pushKey : Cond) ∈ lwT := inT4 (i := 54) rfl
theorem lwm_534 : (.instanceMethod yX5_pushKey : Cond) ∈ lwT := inT4 (i := 53) rfl
theorem lwm_535 : (.methodLink RX8 152 yX5_pushKey : Cond) ∈ lwT := inT4 (i := 52) rfl
theorem lwm_536 : (.methodLink RX8 148 yX0_holds : Cond) ∈ lwT := inT4 (i := 51) rfl
theorem lwm_537 : (.initialized RX3 : Cond) ∈ lwT := inT1 (i := 9) rfl
theorem lwm_538 : (.selects RX3 yX3_scan yX3_scan : Cond) ∈ lwT := inP2 (i := 2) rfl
theorem lwm_539 : (.instanceMethod yX3_scan : Cond) ∈ lwT := inT3 (i := 237) rfl
theorem lwm_540 : (.methodLink RX3 35 yX3_scan : Cond) ∈ lwT := inT3 (i := 235) rfl
theorem lwm_541 : (.methodLink RX3 29 yX5_size : Cond) ∈ lwT := inT3 (i := 234) rfl
theorem lwm_542 : (.fieldLink RX3 26 "RecordBench$RecordReader" "place" "I" : Cond) ∈ lwT := inT1 (i := 159) rfl
theorem lwm_543 : (.fieldLink RX3 22 "RecordBench$RecordReader" "fault" "I" : Cond) ∈ lwT := inT1 (i := 158) rfl
theorem lwm_544 : (.code yX3_isSound cX3_isSound 3 (some .boolean) : Cond) ∈ lwT := inT3 (i := 233) rfl
theorem lwm_545 : (.code yX0_isNumber cX0_isNumber 1 (some .boolean) : Cond) ∈ lwT := inT3 (i := 229) rfl
theorem lwm_546 : (.code yX3_groupBit cX3_groupBit 1 (some .int) : Cond) ∈ lwT := inT4 (i := 46) rfl
theorem lwm_547 : (.selects RX3 yX3_refuse yX3_refuse : Cond) ∈ lwT := inP2 (i := 3) rfl
theorem lwm_548 : (.instanceMethod yX3_refuse : Cond) ∈ lwT := inT4 (i := 1) rfl
theorem lwm_549 : (.methodLink RX3 39 yX3_refuse : Cond) ∈ lwT := inT3 (i := 239) rfl
theorem lwm_550 : (.fieldLink RX3 9 "RecordBench$RecordReader" "makes" "[LRecordBench$Make;" : Cond) ∈ lwT := inT1 (i := 156) rfl
theorem lwm_551 : (.static yX3_isRec : Cond) ∈ lwT := inT4 (i := 48) rfl
theorem lwm_552 : (.methodLink RX3 60 yX3_isRec : Cond) ∈ lwT := inT4 (i := 47) rfl
theorem lwm_553 : (.static yX3_faultOf : Cond) ∈ lwT := inT4 (i := 24) rfl
theorem lwm_554 : (.methodLink RX3 56 yX3_faultOf : Cond) ∈ lwT := inT4 (i := 23) rfl
theorem lwm_555 : (.selects RX1 yX1_knownAt yX1_knownAt : Cond) ∈ lwT := inT4 (i := 20) rfl
theorem lwm_556 : (.instanceMethod yX1_knownAt : Cond) ∈ lwT := inT4 (i := 19) rfl
theorem lwm_557 : (.methodLink RX3 50 yX1_knownAt : Cond) ∈ lwT := inT4 (i := 18) rfl
theorem lwm_558 : (.initialized RX2 : Cond) ∈ lwT := inT1 (i := 10) rfl
theorem lwm_559 : (.selects RX2 yX2_look yX2_look : Cond) ∈ lwT := inT4 (i := 5) rfl
theorem lwm_560 : (.instanceMethod yX2_look : Cond) ∈ lwT := inT4 (i := 4) rfl
theorem lwm_561 : (.methodLink RX3 43 yX2_look : Cond) ∈ lwT := inT4 (i := 3) rfl
theorem lwm_562 : (.static yX3_groupBit : Cond) ∈ lwT := inT4 (i := 45) rfl
theorem lwm_563 : (.methodLink RX3 79 yX3_groupBit : Cond) ∈ lwT := inT4 (i := 44) rfl
theorem lwm_564 : (.fieldLink RX3 17 "RecordBench$RecordReader" "pieces" "[LRecordBench$Piece;" : Cond) ∈ lwT := inT1 (i := 157) rfl
theorem lwm_565 : (.code yX3_scan cX3_scan 13 (some .boolean) : Cond) ∈ lwT := inT3 (i := 238) rfl
theorem lwm_566 : (.methodLink RX2 48 yX5_byteAt : Cond) ∈ lwT := inT4 (i := 11) rfl
theorem lwm_567 : (.constantLong RX2 54 (127) : Cond) ∈ lwT := inT4 (i := 12) rfl
theorem lwm_568 : (.code yX2_takeVarint cX2_takeVarint 7 (some .long) : Cond) ∈ lwT := inT4 (i := 10) rfl
theorem lwm_569 : (.constantLong RX2 46 (30) : Cond) ∈ lwT := inT4 (i := 17) rfl
theorem lwm_570 : (.code yX2_place cX2_place 6 none : Cond) ∈ lwT := inT4 (i := 16) rfl
theorem lwm_571 : (.selects RX2 yX2_takeVarint yX2_takeVarint : Cond) ∈ lwT := inP2 (i := 4) rfl
theorem lwm_572 : (.instanceMethod yX2_takeVarint : Cond) ∈ lwT := inT4 (i := 9) rfl
theorem lwm_573 : (.methodLink RX2 38 yX2_takeVarint : Cond) ∈ lwT := inT4 (i := 7) rfl
theorem lwm_574 : (.selects RX2 yX2_place yX2_place : Cond) ∈ lwT := inP2 (i := 5) rfl
theorem lwm_575 : (.instanceMethod yX2_place : Cond) ∈ lwT := inT4 (i := 15) rfl
theorem lwm_576 : (.methodLink RX2 42 yX2_place : Cond) ∈ lwT := inT4 (i := 13) rfl
theorem lwm_577 : (.fieldLink RX2 35 "RecordBench$Piece" "broken" "Z" : Cond) ∈ lwT := inT1 (i := 138) rfl
theorem lwm_578 : (.fieldLink RX2 32 "RecordBench$Piece" "pos" "I" : Cond) ∈ lwT := inT1 (i := 137) rfl
theorem lwm_579 : (.fieldLink RX2 29 "RecordBench$Piece" "fault" "I" : Cond) ∈ lwT := inT1 (i := 135) rfl
theorem lwm_580 : (.fieldLink RX2 26 "RecordBench$Piece" "end" "I" : Cond) ∈ lwT := inT1 (i := 131) rfl
theorem lwm_581 : (.fieldLink RX2 23 "RecordBench$Piece" "body" "I" : Cond) ∈ lwT := inT1 (i := 127) rfl
theorem lwm_582 : (.fieldLink RX2 19 "RecordBench$Piece" "raw" "J" : Cond) ∈ lwT := inT1 (i := 125) rfl
theorem lwm_583 : (.fieldLink RX2 15 "RecordBench$Piece" "withLength" "Z" : Cond) ∈ lwT := inT1 (i := 123) rfl
theorem lwm_584 : (.fieldLink RX2 9 "RecordBench$Piece" "number" "I" : Cond) ∈ lwT := inT1 (i := 120) rfl
theorem lwm_585 : (.code yX2_look cX2_look 6 none : Cond) ∈ lwT := inT4 (i := 6) rfl
theorem lwm_586 : (.selects RX2 yX2_asNumber yX2_asNumber : Cond) ∈ lwT := inT4 (i := 36) rfl
theorem lwm_587 : (.instanceMethod yX2_asNumber : Cond) ∈ lwT := inT4 (i := 35) rfl
theorem lwm_588 : (.methodLink RX3 99 yX2_asNumber : Cond) ∈ lwT := inT4 (i := 34) rfl
theorem lwm_589 : (.selects RX5 yX5_isText yX5_isText : Cond) ∈ lwT := inT4 (i := 41) rfl
theorem lwm_590 : (.instanceMethod yX5_isText : Cond) ∈ lwT := inT4 (i := 40) rfl
theorem lwm_591 : (.methodLink RX3 110 yX5_isText : Cond) ∈ lwT := inT4 (i := 39) rfl
theorem lwm_592 : (.methodLink RX3 96 yX0_isNumber : Cond) ∈ lwT := inT4 (i := 33) rfl
theorem lwm_593 : (.code yX3_fits cX3_fits 3 (some .boolean) : Cond) ∈ lwT := inT4 (i := 32) rfl
theorem lwm_594 : (.selects RX0 yX0_hasLength yX0_hasLength : Cond) ∈ lwT := inT4 (i := 28) rfl
theorem lwm_595 : (.instanceMethod yX0_hasLength : Cond) ∈ lwT := inT4 (i := 27) rfl
theorem lwm_596 : (.methodLink RX3 88 yX0_hasLength : Cond) ∈ lwT := inT4 (i := 26) rfl
theorem lwm_597 : (.static yX3_fits : Cond) ∈ lwT := inT4 (i := 31) rfl
theorem lwm_598 : (.methodLink RX3 92 yX3_fits : Cond) ∈ lwT := inT4 (i := 30) rfl
theorem lwm_599 : (.code yX3_faultOf cX3_faultOf 5 (some .int) : Cond) ∈ lwT := inT4 (i := 25) rfl
theorem lwm_600 : (.methodLink RX1 21 yX1_fieldAt : Cond) ∈ lwT := inT4 (i := 22) rfl
theorem lwm_601 : (.code yX1_knownAt cX1_knownAt 3 (some (.object "RecordBench$Field")) : Cond) ∈ lwT := inT4 (i := 21) rfl
theorem lwm_602 : (.instanceMethod yX5_pushVarint : Cond) ∈ lwT := inT4 (i := 59) rfl
theorem lwm_603 : (.methodLink RX5 33 yX5_pushVarint : Cond) ∈ lwT := inT4 (i := 58) rfl
theorem lwm_604 : (.constantLong RX5 37 (2) : Cond) ∈ lwT := inT4 (i := 56) rfl
theorem lwm_605 : (.code yX5_pushKey cX5_pushKey 2 none : Cond) ∈ lwT := inT4 (i := 55) rfl
theorem lwm_606 : (.code yX3_refuse cX3_refuse 3 (some .boolean) : Cond) ∈ lwT := inT4 (i := 2) rfl
theorem lwm_607 : (.code yX3_isRec cX3_isRec 1 (some .boolean) : Cond) ∈ lwT := inT4 (i := 49) rfl
theorem lwm_608 : (.code yX0_hasLength cX0_hasLength 1 (some .boolean) : Cond) ∈ lwT := inT4 (i := 29) rfl
theorem lwm_609 : (.code yX2_asNumber cX2_asNumber 1 (some .long) : Cond) ∈ lwT := inT4 (i := 37) rfl
theorem lwm_610 : (.methodLink RX5 52 yX5_isTextByte : Cond) ∈ lwT := inT4 (i := 43) rfl
theorem lwm_611 : (.code yX5_isText cX5_isText 4 (some .boolean) : Cond) ∈ lwT := inT4 (i := 42) rfl
theorem lwm_612 : (.methodLink RX3 103 yX0_holds : Cond) ∈ lwT := inT4 (i := 38) rfl
theorem lwm_613 : (.initialized RX4 : Cond) ∈ lwT := inT1 (i := 11) rfl
theorem lwm_614 : (.selects RX4 yX4_rewriteWith yX4_rewriteWith : Cond) ∈ lwT := inT4 (i := 74) rfl
theorem lwm_615 : (.instanceMethod yX4_rewriteWith : Cond) ∈ lwT := inT4 (i := 73) rfl
theorem lwm_616 : (.methodLink RX8 221 yX4_rewriteWith : Cond) ∈ lwT := inT4 (i := 72) rfl
theorem lwm_617 : (.fieldLink RX8 63 "RecordBench" "work" "LRecordBench$Row;" : Cond) ∈ lwT := inT1 (i := 210) rfl
theorem lwm_618 : (.fieldLink RX8 49 "RecordBench" "writer" "LRecordBench$RecordWriter;" : Cond) ∈ lwT := inT1 (i := 207) rfl
theorem lwm_619 : (.code yX8_settle cX8_settle 5 (some .int) : Cond) ∈ lwT := inT4 (i := 71) rfl
theorem lwm_620 : (.code yX5_pushNumber cX5_pushNumber 3 none : Cond) ∈ lwT := inT4 (i := 67) rfl
theorem lwm_621 : (.constantLong RX5 31 (127) : Cond) ∈ lwT := inT4 (i := 63) rfl
theorem lwm_622 : (.constantLong RX5 29 (-128) : Cond) ∈ lwT := inT4 (i := 62) rfl
theorem lwm_623 : (.code yX5_pushVarint cX5_pushVarint 6 none : Cond) ∈ lwT := inT4 (i := 61) rfl
theorem lwm_624 : (.methodLink RX5 44 yX0_hasLength : Cond) ∈ lwT := inT4 (i := 57) rfl
theorem lwm_625 : (.selects RX5 yX5_pushVarint yX5_pushVarint : Cond) ∈ lwT := inT4 (i := 60) rfl
theorem lwm_626 : (.methodLink RX4 112 yX4_copyAll : Cond) ∈ lwT := inT4 (i := 95) rfl
theorem lwm_627 : (.methodLink RX4 102 yX5_push : Cond) ∈ lwT := inT4 (i := 93) rfl
theorem lwm_628 : (.methodLink RX4 77 yX0_isNumber : Cond) ∈ lwT := inT4 (i := 89) rfl
theorem lwm_629 : (.methodLink RX4 73 yX5_pushKey : Cond) ∈ lwT := inT4 (i := 88) rfl
theorem lwm_630 : (.fieldLink RX4 9 "RecordBench$RecordWriter" "makes" "[LRecordBench$Make;" : Cond) ∈ lwT := inT1 (i := 179) rfl
theorem lwm_631 : (.code yX4_copyPiece cX4_copyPiece 8 none : Cond) ∈ lwT := inT4 (i := 87) rfl
theorem lwm_632 : (.code yX5_append cX5_append 5 none : Cond) ∈ lwT := inT4 (i := 82) rfl
theorem lwm_633 : (.methodLink RX4 35 yX5_cut : Cond) ∈ lwT := inT4 (i := 76) rfl
theorem lwm_634 : (.methodLink RX4 43 yX2_look : Cond) ∈ lwT := inT4 (i := 78) rfl
theorem lwm_635 : (.methodLink RX4 54 yX1_knownAt : Cond) ∈ lwT := inT4 (i := 83) rfl
theorem lwm_636 : (.selects RX4 yX4_copyPiece yX4_copyPiece : Cond) ∈ lwT := inP2 (i := 7) rfl
theorem lwm_637 : (.instanceMethod yX4_copyPiece : Cond) ∈ lwT := inT4 (i := 86) rfl
theorem lwm_638 : (.methodLink RX4 66 yX4_copyPiece : Cond) ∈ lwT := inT4 (i := 84) rfl
theorem lwm_639 : (.selects RX5 yX5_append yX5_append : Cond) ∈ lwT := inT4 (i := 81) rfl
theorem lwm_640 : (.instanceMethod yX5_append : Cond) ∈ lwT := inT4 (i := 80) rfl
theorem lwm_641 : (.methodLink RX4 51 yX5_append : Cond) ∈ lwT := inT4 (i := 79) rfl
theorem lwm_642 : (.methodLink RX4 39 yX5_size : Cond) ∈ lwT := inT4 (i := 77) rfl
theorem lwm_643 : (.fieldLink RX4 17 "RecordBench$RecordWriter" "pieces" "[LRecordBench$Piece;" : Cond) ∈ lwT := inT1 (i := 180) rfl
theorem lwm_644 : (.code yX4_rewriteWith cX4_rewriteWith 13 none : Cond) ∈ lwT := inT4 (i := 75) rfl
theorem lwm_645 : (.code yX5_replace cX5_replace 3 none : Cond) ∈ lwT := inT4 (i := 102) rfl
theorem lwm_646 : (.code yX4_copyAll cX4_copyAll 10 none : Cond) ∈ lwT := inT4 (i := 98) rfl
theorem lwm_647 : (.methodLink RX4 85 yX5_pushNumber : Cond) ∈ lwT := inT4 (i := 91) rfl
theorem lwm_648 : (.methodLink RX4 81 yX2_asNumber : Cond) ∈ lwT := inT4 (i := 90) rfl
theorem lwm_649 : (.methodLink RX4 96 yX5_pushVarint : Cond) ∈ lwT := inT4 (i := 92) rfl
theorem lwm_650 : (.selects RX5 yX5_replace yX5_replace : Cond) ∈ lwT := inT4 (i := 101) rfl
theorem lwm_651 : (.instanceMethod yX5_replace : Cond) ∈ lwT := inT4 (i := 100) rfl
theorem lwm_652 : (.methodLink RX4 116 yX5_replace : Cond) ∈ lwT := inT4 (i := 99) rfl
theorem lwm_653 : (.selects RX4 yX4_copyAll yX4_copyAll : Cond) ∈ lwT := inP2 (i := 8) rfl
theorem lwm_654 : (.instanceMethod yX4_copyAll : Cond) ∈ lwT := inT4 (i := 97) rfl
theorem lwm_655 : (.selects RX8 yX8_set yX8_set : Cond) ∈ lwT := inT3 (i := 224) rfl
theorem lwm_656 : (.instanceMethod yX8_set : Cond) ∈ lwT := inT3 (i := 223) rfl
theorem lwm_657 : (.methodLink RL 52 yX8_set : Cond) ∈ lwT := inT3 (i := 222) rfl
theorem lwm_658 : (.selects RX9 yX9_laysVarint yX9_laysVarint : Cond) ∈ lwT := inP4 (i := 7) rfl
theorem lwm_659 : (.instanceMethod yX9_laysVarint : Cond) ∈ lwT := inT6 (i := 133) rfl
theorem lwm_660 : (.methodLink RX9 323 yX9_laysVarint : Cond) ∈ lwT := inT6 (i := 131) rfl
theorem lwm_661 : (.selects RX9 yX9_isRead yX9_isRead : Cond) ∈ lwT := inP3 (i := 15) rfl
theorem lwm_662 : (.instanceMethod yX9_isRead : Cond) ∈ lwT := inT6 (i := 82) rfl
theorem lwm_663 : (.methodLink RX9 308 yX9_isRead : Cond) ∈ lwT := inT6 (i := 80) rfl
theorem lwm_664 : (.fieldLink RX9 117 "RecordBenchModel" "laidLong" "[I" : Cond) ∈ lwT := inT5 (i := 62) rfl
theorem lwm_665 : (.code yX9_set cX9_set 6 (some .int) : Cond) ∈ lwT := inT6 (i := 149) rfl
theorem lwm_666 : (.instanceMethod yX9_reads : Cond) ∈ lwT := inT6 (i := 90) rfl
theorem lwm_667 : (.methodLink RX9 305 yX9_reads : Cond) ∈ lwT := inT6 (i := 88) rfl
theorem lwm_668 : (.selects RX9 yX9_loads yX9_loads : Cond) ∈ lwT := inP4 (i := 0) rfl
theorem lwm_669 : (.instanceMethod yX9_loads : Cond) ∈ lwT := inT6 (i := 86) rfl
theorem lwm_670 : (.methodLink RX9 302 yX9_loads : Cond) ∈ lwT := inT6 (i := 84) rfl
theorem lwm_671 : (.code yX9_isRead cX9_isRead 3 (some .boolean) : Cond) ∈ lwT := inT6 (i := 83) rfl
theorem lwm_672 : (.selects RX9 yX9_puts yX9_puts : Cond) ∈ lwT := inP4 (i := 11) rfl
theorem lwm_673 : (.instanceMethod yX9_puts : Cond) ∈ lwT := inT6 (i := 156) rfl
theorem lwm_674 : (.methodLink RX9 343 yX9_puts : Cond) ∈ lwT := inT6 (i := 154) rfl
theorem lwm_675 : (.selects RX9 yX9_keepsFresh yX9_keepsFresh : Cond) ∈ lwT := inP4 (i := 10) rfl
theorem lwm_676 : (.instanceMethod yX9_keepsFresh : Cond) ∈ lwT := inT6 (i := 152) rfl
theorem lwm_677 : (.methodLink RX9 340 yX9_keepsFresh : Cond) ∈ lwT := inT6 (i := 150) rfl
theorem lwm_678 : (.static yX9_folded : Cond) ∈ lwT := inT6 (i := 140) rfl
theorem lwm_679 : (.methodLink RX9 327 yX9_folded : Cond) ∈ lwT := inT6 (i := 139) rfl
theorem lwm_680 : (.fieldLink RX9 93 "RecordBenchModel" "pieceTo" "[I" : Cond) ∈ lwT := inT5 (i := 54) rfl
theorem lwm_681 : (.fieldLink RX9 275 "RecordBenchModel" "from" "I" : Cond) ∈ lwT := inT5 (i := 44) rfl
theorem lwm_682 : (.fieldLink RX9 90 "RecordBenchModel" "pieceFrom" "[I" : Cond) ∈ lwT := inT5 (i := 53) rfl
theorem lwm_683 : (.fieldLink RX9 87 "RecordBenchModel" "pieceBegin" "[I" : Cond) ∈ lwT := inT5 (i := 52) rfl
theorem lwm_684 : (.fieldLink RX9 263 "RecordBenchModel" "number" "I" : Cond) ∈ lwT := inT5 (i := 42) rfl
theorem lwm_685 : (.fieldLink RX9 84 "RecordBenchModel" "pieceNumber" "[I" : Cond) ∈ lwT := inT5 (i := 51) rfl
theorem lwm_686 : (.fieldLink RX9 260 "RecordBenchModel" "pieceFault" "I" : Cond) ∈ lwT := inT5 (i := 47) rfl
theorem lwm_687 : (.fieldLink RX9 111 "RecordBenchModel" "pileGroups" "[I" : Cond) ∈ lwT := inT5 (i := 60) rfl
theorem lwm_688 : (.fieldLink RX9 108 "RecordBenchModel" "pileLast" "[I" : Cond) ∈ lwT := inT5 (i := 59) rfl
theorem lwm_689 : (.fieldLink RX9 99 "RecordBenchModel" "pileMake" "[I" : Cond) ∈ lwT := inT5 (i := 56) rfl
theorem lwm_690 : (.fieldLink RX9 105 "RecordBenchModel" "pileEnd" "[I" : Cond) ∈ lwT := inT5 (i := 58) rfl
theorem lwm_691 : (.fieldLink RX9 102 "RecordBenchModel" "pileAt" "[I" : Cond) ∈ lwT := inT5 (i := 57) rfl
theorem lwm_692 : (.fieldLink RX9 291 "RecordBenchModel" "pieces" "I" : Cond) ∈ lwT := inT5 (i := 50) rfl
theorem lwm_693 : (.fieldLink RX9 288 "RecordBenchModel" "readPlace" "I" : Cond) ∈ lwT := inT5 (i := 49) rfl
theorem lwm_694 : (.fieldLink RX9 285 "RecordBenchModel" "readFault" "I" : Cond) ∈ lwT := inT5 (i := 48) rfl
theorem lwm_695 : (.code yX9_reads cX9_reads 7 (some .boolean) : Cond) ∈ lwT := inT6 (i := 91) rfl
theorem lwm_696 : (.fieldLink RX9 81 "RecordBenchModel" "row" "[I" : Cond) ∈ lwT := inT5 (i := 39) rfl
theorem lwm_697 : (.code yX9_loads cX9_loads 3 none : Cond) ∈ lwT := inT6 (i := 87) rfl
theorem lwm_698 : (.selects RX9 yX9_reads yX9_reads : Cond) ∈ lwT := inP4 (i := 1) rfl
theorem lwm_699 : (.methodLink RX9 265 yX9_varint : Cond) ∈ lwT := inT6 (i := 100) rfl
theorem lwm_700 : (.static yX9_isText : Cond) ∈ lwT := inT6 (i := 107) rfl
theorem lwm_701 : (.methodLink RX9 281 yX9_isText : Cond) ∈ lwT := inT6 (i := 106) rfl
theorem lwm_702 : (.fieldLink RX9 257 "RecordBenchModel" "varintEnd" "I" : Cond) ∈ lwT := inT5 (i := 41) rfl
theorem lwm_703 : (.constantLong RX9 271 (30) : Cond) ∈ lwT := inT6 (i := 105) rfl
theorem lwm_704 : (.fieldLink RX9 267 "RecordBenchModel" "isLong" "Z" : Cond) ∈ lwT := inT5 (i := 43) rfl
theorem lwm_705 : (.fieldLink RX9 252 "RecordBenchModel" "varint" "J" : Cond) ∈ lwT := inT5 (i := 40) rfl
theorem lwm_706 : (.code yX9_piece cX9_piece 14 none : Cond) ∈ lwT := inT6 (i := 99) rfl
theorem lwm_707 : (.code yX9_opens cX9_opens 5 none : Cond) ∈ lwT := inT6 (i := 95) rfl
theorem lwm_708 : (.selects RX9 yX9_piece yX9_piece : Cond) ∈ lwT := inP4 (i := 3) rfl
theorem lwm_709 : (.instanceMethod yX9_piece : Cond) ∈ lwT := inT6 (i := 98) rfl
theorem lwm_710 : (.methodLink RX9 298 yX9_piece : Cond) ∈ lwT := inT6 (i := 96) rfl
theorem lwm_711 : (.selects RX9 yX9_opens yX9_opens : Cond) ∈ lwT := inP4 (i := 2) rfl
theorem lwm_712 : (.instanceMethod yX9_opens : Cond) ∈ lwT := inT6 (i := 94) rfl
theorem lwm_713 : (.methodLink RX9 294 yX9_opens : Cond) ∈ lwT := inT6 (i := 92) rfl
theorem lwm_714 : (.fieldLink RX9 273 "RecordBenchModel" "value" "J" : Cond) ∈ lwT := inT5 (i := 46) rfl
theorem lwm_715 : (.fieldLink RX9 96 "RecordBenchModel" "pieceValue" "[J" : Cond) ∈ lwT := inT5 (i := 55) rfl
theorem lwm_716 : (.fieldLink RX9 278 "RecordBenchModel" "to" "I" : Cond) ∈ lwT := inT5 (i := 45) rfl
theorem lwm_717 : (.fieldLink RX9 123 "RecordBenchModel" "fresh" "[I" : Cond) ∈ lwT := inT5 (i := 64) rfl
theorem lwm_718 : (.fieldLink RX9 337 "RecordBenchModel" "freshLong" "I" : Cond) ∈ lwT := inT5 (i := 65) rfl
theorem lwm_719 : (.code yX9_keepsFresh cX9_keepsFresh 2 none : Cond) ∈ lwT := inT6 (i := 153) rfl
theorem lwm_720 : (.code yX9_folded cX9_folded 2 (some .long) : Cond) ∈ lwT := inT6 (i := 141) rfl
theorem lwm_721 : (.fieldLink RX9 114 "RecordBenchModel" "laid" "[I" : Cond) ∈ lwT := inT5 (i := 61) rfl
theorem lwm_722 : (.code yX9_lays cX9_lays 3 none : Cond) ∈ lwT := inT6 (i := 138) rfl
theorem lwm_723 : (.selects RX9 yX9_lays yX9_lays : Cond) ∈ lwT := inP4 (i := 8) rfl
theorem lwm_724 : (.instanceMethod yX9_lays : Cond) ∈ lwT := inT6 (i := 137) rfl
theorem lwm_725 : (.methodLink RX9 320 yX9_lays : Cond) ∈ lwT := inT6 (i := 135) rfl
theorem lwm_726 : (.code yX9_laysVarint cX9_laysVarint 6 none : Cond) ∈ lwT := inT6 (i := 134) rfl
theorem lwm_727 : (.constantLong RX9 255 (128) : Cond) ∈ lwT := inT6 (i := 104) rfl
theorem lwm_728 : (.code yX9_varint cX9_varint 6 (some .boolean) : Cond) ∈ lwT := inT6 (i := 103) rfl
theorem lwm_729 : (.code yX9_isText cX9_isText 4 (some .boolean) : Cond) ∈ lwT := inT6 (i := 108) rfl
theorem lwm_730 : (.selects RX9 yX9_varint yX9_varint : Cond) ∈ lwT := inP4 (i := 4) rfl
theorem lwm_731 : (.instanceMethod yX9_varint : Cond) ∈ lwT := inT6 (i := 102) rfl
theorem lwm_732 : (.fieldLink RX9 120 "RecordBenchModel" "levelKey" "[I" : Cond) ∈ lwT := inT5 (i := 63) rfl
theorem lwm_733 : (.code yX9_writes cX9_writes 9 none : Cond) ∈ lwT := inT6 (i := 130) rfl
theorem lwm_734 : (.code yX9_comes cX9_comes 3 none : Cond) ∈ lwT := inT6 (i := 145) rfl
theorem lwm_735 : (.selects RX9 yX9_writes yX9_writes : Cond) ∈ lwT := inP4 (i := 6) rfl
theorem lwm_736 : (.instanceMethod yX9_writes : Cond) ∈ lwT := inT6 (i := 129) rfl
theorem lwm_737 : (.methodLink RX9 331 yX9_writes : Cond) ∈ lwT := inT6 (i := 127) rfl
theorem lwm_738 : (.selects RX9 yX9_comes yX9_comes : Cond) ∈ lwT := inP4 (i := 9) rfl
theorem lwm_739 : (.instanceMethod yX9_comes : Cond) ∈ lwT := inT6 (i := 144) rfl
theorem lwm_740 : (.methodLink RX9 334 yX9_comes : Cond) ∈ lwT := inT6 (i := 142) rfl
theorem lwm_741 : (.code yX9_puts cX9_puts 11 (some .int) : Cond) ∈ lwT := inT6 (i := 157) rfl
theorem lwm_742 : (.selects RX9 yX9_set yX9_set : Cond) ∈ lwT := inT6 (i := 148) rfl
theorem lwm_743 : (.instanceMethod yX9_set : Cond) ∈ lwT := inT6 (i := 147) rfl
theorem lwm_744 : (.methodLink RL 56 yX9_set : Cond) ∈ lwT := inT6 (i := 146) rfl
theorem lwm_745 : (.code yX8_say cX8_say 8 (some .int) : Cond) ∈ lwT := inT4 (i := 106) rfl
theorem lwm_746 : (.methodLink RX8 171 yX5_append : Cond) ∈ lwT := inT4 (i := 109) rfl
theorem lwm_747 : (.methodLink RX8 168 yX5_pushVarint : Cond) ∈ lwT := inT4 (i := 108) rfl
theorem lwm_748 : (.methodLink RX8 164 yX5_isText : Cond) ∈ lwT := inT4 (i := 107) rfl
theorem lwm_749 : (.selects RX8 yX8_say yX8_say : Cond) ∈ lwT := inT4 (i := 105) rfl
theorem lwm_750 : (.instanceMethod yX8_say : Cond) ∈ lwT := inT4 (i := 104) rfl
theorem lwm_751 : (.methodLink RL 57 yX8_say : Cond) ∈ lwT := inT4 (i := 103) rfl
theorem lwm_752 : (.code yX9_say cX9_say 6 (some .int) : Cond) ∈ lwT := inT6 (i := 161) rfl
theorem lwm_753 : (.selects RX9 yX9_say yX9_say : Cond) ∈ lwT := inT6 (i := 160) rfl
theorem lwm_754 : (.instanceMethod yX9_say : Cond) ∈ lwT := inT6 (i := 159) rfl
theorem lwm_755 : (.methodLink RL 60 yX9_say : Cond) ∈ lwT := inT6 (i := 158) rfl
theorem lwm_756 : (.methodLink RX8 174 yX4_rewrite : Cond) ∈ lwT := inT4 (i := 114) rfl
theorem lwm_757 : (.code yX8_nest cX8_nest 10 (some .int) : Cond) ∈ lwT := inT4 (i := 113) rfl
theorem lwm_758 : (.selects RX4 yX4_rewrite yX4_rewrite : Cond) ∈ lwT := inT4 (i := 116) rfl
theorem lwm_759 : (.instanceMethod yX4_rewrite : Cond) ∈ lwT := inT4 (i := 115) rfl
theorem lwm_760 : (.methodLink RX4 31 yX4_rewriteWith : Cond) ∈ lwT := inT4 (i := 118) rfl
theorem lwm_761 : (.fieldLink RX4 27 "RecordBench$RecordWriter" "nothing" "LRecordBench$Row;" : Cond) ∈ lwT := inT1 (i := 181) rfl
theorem lwm_762 : (.code yX4_rewrite cX4_rewrite 4 none : Cond) ∈ lwT := inT4 (i := 117) rfl
theorem lwm_763 : (.selects RX8 yX8_nest yX8_nest : Cond) ∈ lwT := inT4 (i := 112) rfl
theorem lwm_764 : (.instanceMethod yX8_nest : Cond) ∈ lwT := inT4 (i := 111) rfl
theorem lwm_765 : (.methodLink RL 61 yX8_nest : Cond) ∈ lwT := inT4 (i := 110) rfl
theorem lwm_766 : (.code yX9_nest cX9_nest 7 (some .int) : Cond) ∈ lwT := inT6 (i := 165) rfl
theorem lwm_767 : (.selects RX9 yX9_nest yX9_nest : Cond) ∈ lwT := inT6 (i := 164) rfl
theorem lwm_768 : (.instanceMethod yX9_nest : Cond) ∈ lwT := inT6 (i := 163) rfl
theorem lwm_769 : (.methodLink RL 65 yX9_nest : Cond) ∈ lwT := inT6 (i := 162) rfl
theorem lwm_770 : (.code yX8_drop cX8_drop 7 (some .int) : Cond) ∈ lwT := inT4 (i := 122) rfl
theorem lwm_771 : (.selects RX8 yX8_drop yX8_drop : Cond) ∈ lwT := inT4 (i := 121) rfl
theorem lwm_772 : (.instanceMethod yX8_drop : Cond) ∈ lwT := inT4 (i := 120) rfl
theorem lwm_773 : (.methodLink RL 66 yX8_drop : Cond) ∈ lwT := inT4 (i := 119) rfl
theorem lwm_774 : (.code yX9_drop cX9_drop 4 (some .int) : Cond) ∈ lwT := inT6 (i := 169) rfl
theorem lwm_775 : (.selects RX9 yX9_drop yX9_drop : Cond) ∈ lwT := inT6 (i := 168) rfl
theorem lwm_776 : (.instanceMethod yX9_drop : Cond) ∈ lwT := inT6 (i := 167) rfl
theorem lwm_777 : (.methodLink RL 69 yX9_drop : Cond) ∈ lwT := inT6 (i := 166) rfl
theorem lwm_778 : (.instanceMethod yX3_faultFound : Cond) ∈ lwT := inT4 (i := 128) rfl
theorem lwm_779 : (.methodLink RX8 178 yX3_faultFound : Cond) ∈ lwT := inT4 (i := 127) rfl
theorem lwm_780 : (.selects RX3 yX3_countPieces yX3_countPieces : Cond) ∈ lwT := inT4 (i := 137) rfl
theorem lwm_781 : (.instanceMethod yX3_countPieces : Cond) ∈ lwT := inT4 (i := 136) rfl
theorem lwm_782 : (.methodLink RX8 180 yX3_countPieces : Cond) ∈ lwT := inT4 (i := 135) rfl
theorem lwm_783 : (.code yX8_read cX8_read 5 (some .int) : Cond) ∈ lwT := inT4 (i := 126) rfl
theorem lwm_784 : (.selects RX3 yX3_placeFound yX3_placeFound : Cond) ∈ lwT := inT4 (i := 133) rfl
theorem lwm_785 : (.instanceMethod yX3_placeFound : Cond) ∈ lwT := inT4 (i := 132) rfl
theorem lwm_786 : (.methodLink RX8 179 yX3_placeFound : Cond) ∈ lwT := inT4 (i := 131) rfl
theorem lwm_787 : (.selects RX3 yX3_faultFound yX3_faultFound : Cond) ∈ lwT := inT4 (i := 129) rfl
theorem lwm_788 : (.code yX3_placeFound cX3_placeFound 1 (some .int) : Cond) ∈ lwT := inT4 (i := 134) rfl
theorem lwm_789 : (.code yX3_faultFound cX3_faultFound 1 (some .int) : Cond) ∈ lwT := inT4 (i := 130) rfl
theorem lwm_790 : (.code yX3_countPieces cX3_countPieces 8 (some .int) : Cond) ∈ lwT := inT4 (i := 138) rfl
theorem lwm_791 : (.selects RX8 yX8_read yX8_read : Cond) ∈ lwT := inT4 (i := 125) rfl
theorem lwm_792 : (.instanceMethod yX8_read : Cond) ∈ lwT := inT4 (i := 124) rfl
theorem lwm_793 : (.methodLink RL 70 yX8_read : Cond) ∈ lwT := inT4 (i := 123) rfl
theorem lwm_794 : (.code yX9_read cX9_read 6 (some .int) : Cond) ∈ lwT := inT6 (i := 79) rfl
theorem lwm_795 : (.selects RX9 yX9_read yX9_read : Cond) ∈ lwT := inT6 (i := 78) rfl
theorem lwm_796 : (.instanceMethod yX9_read : Cond) ∈ lwT := inT6 (i := 77) rfl
theorem lwm_797 : (.methodLink RL 74 yX9_read : Cond) ∈ lwT := inT6 (i := 76) rfl
theorem lwm_798 : (.selects RX2 yX2_tells yX2_tells : Cond) ∈ lwT := inT4 (i := 150) rfl
theorem lwm_799 : (.instanceMethod yX2_tells : Cond) ∈ lwT := inT4 (i := 149) rfl
theorem lwm_800 : (.methodLink RX8 190 yX2_tells : Cond) ∈ lwT := inT4 (i := 148) rfl
theorem lwm_801 : (.constantLong RX8 184 (-9000000000000000000) : Cond) ∈ lwT := inT4 (i := 143) rfl
theorem lwm_802 : (.code yX8_get cX8_get 9 (some .long) : Cond) ∈ lwT := inT4 (i := 142) rfl
theorem lwm_803 : (.methodLink RX2 56 yX2_asNumber : Cond) ∈ lwT := inT4 (i := 152) rfl
theorem lwm_804 : (.code yX2_tells cX2_tells 1 (some .long) : Cond) ∈ lwT := inT4 (i := 151) rfl
theorem lwm_805 : (.selects RX3 yX3_find yX3_find : Cond) ∈ lwT := inT4 (i := 146) rfl
theorem lwm_806 : (.instanceMethod yX3_find : Cond) ∈ lwT := inT4 (i := 145) rfl
theorem lwm_807 : (.methodLink RX8 186 yX3_find : Cond) ∈ lwT := inT4 (i := 144) rfl
theorem lwm_808 : (.code yX3_find cX3_find 6 (some (.object "RecordBench$Piece")) : Cond) ∈ lwT := inT4 (i := 147) rfl
theorem lwm_809 : (.selects RX8 yX8_get yX8_get : Cond) ∈ lwT := inT4 (i := 141) rfl
theorem lwm_810 : (.instanceMethod yX8_get : Cond) ∈ lwT := inT4 (i := 140) rfl
theorem lwm_811 : (.methodLink RL 75 yX8_get : Cond) ∈ lwT := inT4 (i := 139) rfl
theorem lwm_812 : (.methodLink RX9 317 yX9_plain : Cond) ∈ lwT := inT6 (i := 122) rfl
theorem lwm_813 : (.selects RX9 yX9_pieceOf yX9_pieceOf : Cond) ∈ lwT := inP4 (i := 5) rfl
theorem lwm_814 : (.instanceMethod yX9_pieceOf : Cond) ∈ lwT := inT6 (i := 120) rfl
theorem lwm_815 : (.methodLink RX9 313 yX9_pieceOf : Cond) ∈ lwT := inT6 (i := 118) rfl
theorem lwm_816 : (.constantLong RX9 311 (-9000000000000000000) : Cond) ∈ lwT := inT6 (i := 117) rfl
theorem lwm_817 : (.code yX9_get cX9_get 6 (some .long) : Cond) ∈ lwT := inT6 (i := 116) rfl
theorem lwm_818 : (.code yX9_pieceOf cX9_pieceOf 3 (some .int) : Cond) ∈ lwT := inT6 (i := 121) rfl
theorem lwm_819 : (.selects RX9 yX9_get yX9_get : Cond) ∈ lwT := inT6 (i := 115) rfl
theorem lwm_820 : (.instanceMethod yX9_get : Cond) ∈ lwT := inT6 (i := 114) rfl
theorem lwm_821 : (.methodLink RL 79 yX9_get : Cond) ∈ lwT := inT6 (i := 113) rfl
theorem lwm_822 : (.code yX8_kept cX8_kept 5 (some .int) : Cond) ∈ lwT := inT4 (i := 156) rfl
theorem lwm_823 : (.selects RX8 yX8_kept yX8_kept : Cond) ∈ lwT := inT4 (i := 155) rfl
theorem lwm_824 : (.instanceMethod yX8_kept : Cond) ∈ lwT := inT4 (i := 154) rfl
theorem lwm_825 : (.methodLink RL 80 yX8_kept : Cond) ∈ lwT := inT4 (i := 153) rfl
theorem lwm_826 : (.code yX9_kept cX9_kept 5 (some .int) : Cond) ∈ lwT := inT6 (i := 112) rfl
theorem lwm_827 : (.selects RX9 yX9_kept yX9_kept : Cond) ∈ lwT := inT6 (i := 111) rfl
theorem lwm_828 : (.instanceMethod yX9_kept : Cond) ∈ lwT := inT6 (i := 110) rfl
theorem lwm_829 : (.methodLink RL 83 yX9_kept : Cond) ∈ lwT := inT6 (i := 109) rfl
theorem lwm_830 : (.code yX8_write cX8_write 7 (some .int) : Cond) ∈ lwT := inT4 (i := 160) rfl
theorem lwm_831 : (.selects RX8 yX8_write yX8_write : Cond) ∈ lwT := inT4 (i := 159) rfl
theorem lwm_832 : (.instanceMethod yX8_write : Cond) ∈ lwT := inT4 (i := 158) rfl
theorem lwm_833 : (.methodLink RL 84 yX8_write : Cond) ∈ lwT := inT4 (i := 157) rfl
theorem lwm_834 : (.code yX9_write cX9_write 4 (some .int) : Cond) ∈ lwT := inT6 (i := 126) rfl
theorem lwm_835 : (.selects RX9 yX9_write yX9_write : Cond) ∈ lwT := inT6 (i := 125) rfl
theorem lwm_836 : (.instanceMethod yX9_write : Cond) ∈ lwT := inT6 (i := 124) rfl
theorem lwm_837 : (.methodLink RL 87 yX9_write : Cond) ∈ lwT := inT6 (i := 123) rfl
theorem lwm_838 : (.methodLink RX8 195 yX5_byteAt : Cond) ∈ lwT := inT4 (i := 165) rfl
theorem lwm_839 : (.code yX8_at cX8_at 4 (some .int) : Cond) ∈ lwT := inT4 (i := 164) rfl
theorem lwm_840 : (.selects RX8 yX8_at yX8_at : Cond) ∈ lwT := inT4 (i := 163) rfl
theorem lwm_841 : (.instanceMethod yX8_at : Cond) ∈ lwT := inT4 (i := 162) rfl
theorem lwm_842 : (.methodLink RL 88 yX8_at : Cond) ∈ lwT := inT4 (i := 161) rfl
theorem lwm_843 : (.code yX9_at cX9_at 3 (some .int) : Cond) ∈ lwT := inT6 (i := 75) rfl
theorem lwm_844 : (.selects RX9 yX9_at yX9_at : Cond) ∈ lwT := inT6 (i := 74) rfl
theorem lwm_845 : (.instanceMethod yX9_at : Cond) ∈ lwT := inT6 (i := 73) rfl
theorem lwm_846 : (.methodLink RL 91 yX9_at : Cond) ∈ lwT := inT6 (i := 72) rfl
theorem lwm_847 : (.code yX8_open cX8_open 10 (some .int) : Cond) ∈ lwT := inT4 (i := 169) rfl
theorem lwm_848 : (.selects RX8 yX8_open yX8_open : Cond) ∈ lwT := inT4 (i := 168) rfl
theorem lwm_849 : (.instanceMethod yX8_open : Cond) ∈ lwT := inT4 (i := 167) rfl
theorem lwm_850 : (.methodLink RL 92 yX8_open : Cond) ∈ lwT := inT4 (i := 166) rfl
theorem lwm_851 : (.code yX9_open cX9_open 8 (some .int) : Cond) ∈ lwT := inT6 (i := 173) rfl
theorem lwm_852 : (.selects RX9 yX9_open yX9_open : Cond) ∈ lwT := inT6 (i := 172) rfl
theorem lwm_853 : (.instanceMethod yX9_open : Cond) ∈ lwT := inT6 (i := 171) rfl
theorem lwm_854 : (.methodLink RL 95 yX9_open : Cond) ∈ lwT := inT6 (i := 170) rfl
theorem lwm_855 : (.code yX7_whyBy cX7_whyBy 10 (some .int) : Cond) ∈ lwT := inT4 (i := 185) rfl
theorem lwm_856 : (.methodLink RX7 27 yX7_whyBy : Cond) ∈ lwT := inT4 (i := 182) rfl
theorem lwm_857 : (.code yX7_firstNumber cX7_firstNumber 7 (some .int) : Cond) ∈ lwT := inT4 (i := 181) rfl
theorem lwm_858 : (.selects RX7 yX7_whyBy yX7_whyBy : Cond) ∈ lwT := inP2 (i := 11) rfl
theorem lwm_859 : (.instanceMethod yX7_whyBy : Cond) ∈ lwT := inT4 (i := 184) rfl
theorem lwm_860 : (.initialized RX7 : Cond) ∈ lwT := inT1 (i := 12) rfl
theorem lwm_861 : (.selects RX7 yX7_firstNumber yX7_firstNumber : Cond) ∈ lwT := inP2 (i := 10) rfl
theorem lwm_862 : (.instanceMethod yX7_firstNumber : Cond) ∈ lwT := inT4 (i := 180) rfl
theorem lwm_863 : (.fieldLink RX8 73 "RecordBench" "latestNumber" "I" : Cond) ∈ lwT := inT1 (i := 213) rfl
theorem lwm_864 : (.fieldLink RX8 56 "RecordBench" "walks" "LRecordBench$Walks;" : Cond) ∈ lwT := inT1 (i := 208) rfl
theorem lwm_865 : (.code yX8_lookAlong cX8_lookAlong 7 (some .int) : Cond) ∈ lwT := inT4 (i := 177) rfl
theorem lwm_866 : (.selects RX8 yX8_lookAlong yX8_lookAlong : Cond) ∈ lwT := inP2 (i := 9) rfl
theorem lwm_867 : (.instanceMethod yX8_lookAlong : Cond) ∈ lwT := inT4 (i := 176) rfl
theorem lwm_868 : (.methodLink RX8 205 yX8_lookAlong : Cond) ∈ lwT := inT4 (i := 174) rfl
theorem lwm_869 : (.code yX8_step cX8_step 3 (some .int) : Cond) ∈ lwT := inT4 (i := 173) rfl
theorem lwm_870 : (.instanceMethod yX0_sharesGroup : Cond) ∈ lwT := inT4 (i := 211) rfl
theorem lwm_871 : (.methodLink RX7 69 yX0_sharesGroup : Cond) ∈ lwT := inT4 (i := 210) rfl
theorem lwm_872 : (.code yX7_isCrowded cX7_isCrowded 7 (some .boolean) : Cond) ∈ lwT := inT4 (i := 209) rfl
theorem lwm_873 : (.selects RX0 yX0_hasOtherDefault yX0_hasOtherDefault : Cond) ∈ lwT := inT4 (i := 204) rfl
theorem lwm_874 : (.instanceMethod yX0_hasOtherDefault : Cond) ∈ lwT := inT4 (i := 203) rfl
theorem lwm_875 : (.methodLink RX7 44 yX0_hasOtherDefault : Cond) ∈ lwT := inT4 (i := 202) rfl
theorem lwm_876 : (.static yX7_isNarrower : Cond) ∈ lwT := inT4 (i := 196) rfl
theorem lwm_877 : (.methodLink RX7 41 yX7_isNarrower : Cond) ∈ lwT := inT4 (i := 195) rfl
theorem lwm_878 : (.static yX7_isOtherSort : Cond) ∈ lwT := inT4 (i := 188) rfl
theorem lwm_879 : (.methodLink RX7 37 yX7_isOtherSort : Cond) ∈ lwT := inT4 (i := 187) rfl
theorem lwm_880 : (.methodLink RX7 31 yX1_knownAt : Cond) ∈ lwT := inT4 (i := 186) rfl
theorem lwm_881 : (.selects RX7 yX7_recBreaks yX7_recBreaks : Cond) ∈ lwT := inP2 (i := 12) rfl
theorem lwm_882 : (.instanceMethod yX7_recBreaks : Cond) ∈ lwT := inT4 (i := 216) rfl
theorem lwm_883 : (.methodLink RX7 58 yX7_recBreaks : Cond) ∈ lwT := inT4 (i := 214) rfl
theorem lwm_884 : (.static yX7_isCrowded : Cond) ∈ lwT := inT4 (i := 208) rfl
theorem lwm_885 : (.methodLink RX7 50 yX7_isCrowded : Cond) ∈ lwT := inT4 (i := 207) rfl
theorem lwm_886 : (.instanceMethod yX0_isOtherSort : Cond) ∈ lwT := inT4 (i := 191) rfl
theorem lwm_887 : (.methodLink RX7 62 yX0_isOtherSort : Cond) ∈ lwT := inT4 (i := 190) rfl
theorem lwm_888 : (.code yX7_isOtherSort cX7_isOtherSort 2 (some .boolean) : Cond) ∈ lwT := inT4 (i := 189) rfl
theorem lwm_889 : (.methodLink RX7 23 yX7_firstNumber : Cond) ∈ lwT := inT4 (i := 223) rfl
theorem lwm_890 : (.fieldLink RX7 15 "RecordBench$Walks" "seen" "[I" : Cond) ∈ lwT := inT1 (i := 196) rfl
theorem lwm_891 : (.fieldLink RX7 9 "RecordBench$Walks" "makes" "[LRecordBench$Make;" : Cond) ∈ lwT := inT1 (i := 195) rfl
theorem lwm_892 : (.code yX7_breaks cX7_breaks 11 (some .boolean) : Cond) ∈ lwT := inT4 (i := 221) rfl
theorem lwm_893 : (.selects RX7 yX7_breaks yX7_breaks : Cond) ∈ lwT := inP2 (i := 13) rfl
theorem lwm_894 : (.instanceMethod yX7_breaks : Cond) ∈ lwT := inT4 (i := 220) rfl
theorem lwm_895 : (.methodLink RX7 75 yX7_breaks : Cond) ∈ lwT := inT4 (i := 218) rfl
theorem lwm_896 : (.code yX7_recBreaks cX7_recBreaks 8 (some .boolean) : Cond) ∈ lwT := inT4 (i := 217) rfl
theorem lwm_897 : (.code yX0_sharesGroup cX0_sharesGroup 2 (some .boolean) : Cond) ∈ lwT := inT4 (i := 213) rfl
theorem lwm_898 : (.selects RX0 yX0_sharesGroup yX0_sharesGroup : Cond) ∈ lwT := inT4 (i := 212) rfl
theorem lwm_899 : (.methodLink RX0 55 yJ0_equals_9ea2d : Cond) ∈ lwT := inT4 (i := 206) rfl
theorem lwm_900 : (.code yX0_hasOtherDefault cX0_hasOtherDefault 2 (some .boolean) : Cond) ∈ lwT := inT4 (i := 205) rfl
theorem lwm_901 : (.code yX0_isNarrower cX0_isNarrower 2 (some .boolean) : Cond) ∈ lwT := inT4 (i := 201) rfl
theorem lwm_902 : (.selects RX0 yX0_isNarrower yX0_isNarrower : Cond) ∈ lwT := inT4 (i := 200) rfl
theorem lwm_903 : (.instanceMethod yX0_isNarrower : Cond) ∈ lwT := inT4 (i := 199) rfl
theorem lwm_904 : (.methodLink RX7 64 yX0_isNarrower : Cond) ∈ lwT := inT4 (i := 198) rfl
theorem lwm_905 : (.code yX7_isNarrower cX7_isNarrower 2 (some .boolean) : Cond) ∈ lwT := inT4 (i := 197) rfl
theorem lwm_906 : (.methodLink RX0 51 yX0_isNumber : Cond) ∈ lwT := inT4 (i := 194) rfl
theorem lwm_907 : (.code yX0_isOtherSort cX0_isOtherSort 2 (some .boolean) : Cond) ∈ lwT := inT4 (i := 193) rfl
theorem lwm_908 : (.selects RX0 yX0_isOtherSort yX0_isOtherSort : Cond) ∈ lwT := inT4 (i := 192) rfl
theorem lwm_909 : (.selects RX8 yX8_step yX8_step : Cond) ∈ lwT := inT4 (i := 172) rfl
theorem lwm_910 : (.instanceMethod yX8_step : Cond) ∈ lwT := inT4 (i := 171) rfl
theorem lwm_911 : (.methodLink RL 96 yX8_step : Cond) ∈ lwT := inT4 (i := 170) rfl
theorem lwm_912 : (.code yX9_walks cX9_walks 7 none : Cond) ∈ lwT := inT6 (i := 181) rfl
theorem lwm_913 : (.static yX9_place : Cond) ∈ lwT := inT6 (i := 183) rfl
theorem lwm_914 : (.methodLink RX9 350 yX9_place : Cond) ∈ lwT := inT6 (i := 182) rfl
theorem lwm_915 : (.selects RX9 yX9_walks yX9_walks : Cond) ∈ lwT := inP4 (i := 12) rfl
theorem lwm_916 : (.instanceMethod yX9_walks : Cond) ∈ lwT := inT6 (i := 180) rfl
theorem lwm_917 : (.methodLink RX9 374 yX9_walks : Cond) ∈ lwT := inT6 (i := 178) rfl
theorem lwm_918 : (.fieldLink RX9 126 "RecordBenchModel" "why" "[I" : Cond) ∈ lwT := inT5 (i := 66) rfl
theorem lwm_919 : (.fieldLink RX9 377 "RecordBenchModel" "by" "I" : Cond) ∈ lwT := inT5 (i := 68) rfl
theorem lwm_920 : (.fieldLink RX9 129 "RecordBenchModel" "byNumber" "[I" : Cond) ∈ lwT := inT5 (i := 67) rfl
theorem lwm_921 : (.code yX9_walk cX9_walk 4 (some .int) : Cond) ∈ lwT := inT6 (i := 177) rfl
theorem lwm_922 : (.selects RX9 yX9_walk yX9_walk : Cond) ∈ lwT := inT6 (i := 176) rfl
theorem lwm_923 : (.instanceMethod yX9_walk : Cond) ∈ lwT := inT6 (i := 175) rfl
theorem lwm_924 : (.methodLink RX9 380 yX9_walk : Cond) ∈ lwT := inT6 (i := 217) rfl
theorem lwm_925 : (.code yX9_step cX9_step 3 (some .int) : Cond) ∈ lwT := inT6 (i := 216) rfl
theorem lwm_926 : (.methodLink RX9 354 yX9_isOther : Cond) ∈ lwT := inT6 (i := 189) rfl
theorem lwm_927 : (.selects RX9 yX9_withinOf yX9_withinOf : Cond) ∈ lwT := inP5 (i := 3) rfl
theorem lwm_928 : (.instanceMethod yX9_withinOf : Cond) ∈ lwT := inT6 (i := 211) rfl
theorem lwm_929 : (.methodLink RX9 367 yX9_withinOf : Cond) ∈ lwT := inT6 (i := 209) rfl
theorem lwm_930 : (.selects RX9 yX9_sortOf yX9_sortOf : Cond) ∈ lwT := inP4 (i := 15) rfl
theorem lwm_931 : (.instanceMethod yX9_sortOf : Cond) ∈ lwT := inT6 (i := 195) rfl
theorem lwm_932 : (.methodLink RX9 346 yX9_sortOf : Cond) ∈ lwT := inT6 (i := 193) rfl
theorem lwm_933 : (.selects RX9 yX9_isMated yX9_isMated : Cond) ∈ lwT := inP5 (i := 2) rfl
theorem lwm_934 : (.instanceMethod yX9_isMated : Cond) ∈ lwT := inT6 (i := 207) rfl
theorem lwm_935 : (.methodLink RX9 364 yX9_isMated : Cond) ∈ lwT := inT6 (i := 205) rfl
theorem lwm_936 : (.code yX9_whyOf cX9_whyOf 6 (some .int) : Cond) ∈ lwT := inT6 (i := 188) rfl
theorem lwm_937 : (.selects RX9 yX9_whyOf yX9_whyOf : Cond) ∈ lwT := inP4 (i := 13) rfl
theorem lwm_938 : (.instanceMethod yX9_whyOf : Cond) ∈ lwT := inT6 (i := 187) rfl
theorem lwm_939 : (.methodLink RX9 371 yX9_whyOf : Cond) ∈ lwT := inT6 (i := 185) rfl
theorem lwm_940 : (.code yX9_differs cX9_differs 8 (some .boolean) : Cond) ∈ lwT := inT6 (i := 204) rfl
theorem lwm_941 : (.code yX9_isNarrower cX9_isNarrower 4 (some .boolean) : Cond) ∈ lwT := inT6 (i := 200) rfl
theorem lwm_942 : (.code yX9_isOther cX9_isOther 4 (some .boolean) : Cond) ∈ lwT := inT6 (i := 192) rfl
theorem lwm_943 : (.code yX9_place cX9_place 4 (some .int) : Cond) ∈ lwT := inT6 (i := 184) rfl
theorem lwm_944 : (.code yX9_withinOf cX9_withinOf 11 (some .int) : Cond) ∈ lwT := inT6 (i := 212) rfl
theorem lwm_945 : (.code yX9_sortOf cX9_sortOf 4 (some .int) : Cond) ∈ lwT := inT6 (i := 196) rfl
theorem lwm_946 : (.code yX9_isMated cX9_isMated 5 (some .boolean) : Cond) ∈ lwT := inT6 (i := 208) rfl
theorem lwm_947 : (.selects RX9 yX9_differs yX9_differs : Cond) ∈ lwT := inP5 (i := 1) rfl
theorem lwm_948 : (.instanceMethod yX9_differs : Cond) ∈ lwT := inT6 (i := 203) rfl
theorem lwm_949 : (.methodLink RX9 361 yX9_differs : Cond) ∈ lwT := inT6 (i := 201) rfl
theorem lwm_950 : (.selects RX9 yX9_isNarrower yX9_isNarrower : Cond) ∈ lwT := inP5 (i := 0) rfl
theorem lwm_951 : (.instanceMethod yX9_isNarrower : Cond) ∈ lwT := inT6 (i := 199) rfl
theorem lwm_952 : (.methodLink RX9 358 yX9_isNarrower : Cond) ∈ lwT := inT6 (i := 197) rfl
theorem lwm_953 : (.selects RX9 yX9_isOther yX9_isOther : Cond) ∈ lwT := inP4 (i := 14) rfl
theorem lwm_954 : (.instanceMethod yX9_isOther : Cond) ∈ lwT := inT6 (i := 191) rfl
theorem lwm_955 : (.selects RX9 yX9_step yX9_step : Cond) ∈ lwT := inT6 (i := 215) rfl
theorem lwm_956 : (.instanceMethod yX9_step : Cond) ∈ lwT := inT6 (i := 214) rfl
theorem lwm_957 : (.methodLink RL 99 yX9_step : Cond) ∈ lwT := inT6 (i := 213) rfl
theorem lwm_958 : (.code yX8_walk cX8_walk 4 (some .int) : Cond) ∈ lwT := inT4 (i := 228) rfl
theorem lwm_959 : (.selects RX8 yX8_walk yX8_walk : Cond) ∈ lwT := inT4 (i := 227) rfl
theorem lwm_960 : (.instanceMethod yX8_walk : Cond) ∈ lwT := inT4 (i := 226) rfl
theorem lwm_961 : (.methodLink RL 100 yX8_walk : Cond) ∈ lwT := inT4 (i := 225) rfl
theorem lwm_962 : (.methodLink RL 103 yX9_walk : Cond) ∈ lwT := inT6 (i := 174) rfl
theorem lwm_963 : (.code yX8_by cX8_by 1 (some .int) : Cond) ∈ lwT := inT4 (i := 232) rfl
theorem lwm_964 : (.selects RX8 yX8_by yX8_by : Cond) ∈ lwT := inT4 (i := 231) rfl
theorem lwm_965 : (.instanceMethod yX8_by : Cond) ∈ lwT := inT4 (i := 230) rfl
theorem lwm_966 : (.methodLink RL 104 yX8_by : Cond) ∈ lwT := inT4 (i := 229) rfl
theorem lwm_967 : (.code yX9_by cX9_by 1 (some .int) : Cond) ∈ lwT := inT6 (i := 221) rfl
theorem lwm_968 : (.selects RX9 yX9_by yX9_by : Cond) ∈ lwT := inT6 (i := 220) rfl
theorem lwm_969 : (.instanceMethod yX9_by : Cond) ∈ lwT := inT6 (i := 219) rfl
theorem lwm_970 : (.methodLink RL 108 yX9_by : Cond) ∈ lwT := inT6 (i := 218) rfl
theorem lwm_971 : (.code yX8_readers cX8_readers 4 (some .int) : Cond) ∈ lwT := inT4 (i := 236) rfl
theorem lwm_972 : (.selects RX8 yX8_readers yX8_readers : Cond) ∈ lwT := inT4 (i := 235) rfl
theorem lwm_973 : (.instanceMethod yX8_readers : Cond) ∈ lwT := inT4 (i := 234) rfl
theorem lwm_974 : (.methodLink RL 109 yX8_readers : Cond) ∈ lwT := inT4 (i := 233) rfl
theorem lwm_975 : (.code yX9_readers cX9_readers 4 (some .int) : Cond) ∈ lwT := inT6 (i := 225) rfl
theorem lwm_976 : (.selects RX9 yX9_readers yX9_readers : Cond) ∈ lwT := inT6 (i := 224) rfl
theorem lwm_977 : (.instanceMethod yX9_readers : Cond) ∈ lwT := inT6 (i := 223) rfl
theorem lwm_978 : (.methodLink RL 112 yX9_readers : Cond) ∈ lwT := inT6 (i := 222) rfl
theorem lwm_979 : (.classLink RX8 7 RX5 : Cond) ∈ lwT := inT1 (i := 29) rfl
theorem lwm_980 : (.methodLink RX8 11 yX5_init : Cond) ∈ lwT := inT1 (i := 31) rfl
theorem lwm_981 : (.instanceMethod yX5_init : Cond) ∈ lwT := inT1 (i := 32) rfl
theorem lwm_982 : (.methodLink RX8 1 objectInit : Cond) ∈ lwT := inT1 (i := 26) rfl
theorem lwm_983 : (.code yX8_init cX8_init 2 none : Cond) ∈ lwT := inT1 (i := 25) rfl
theorem lwm_984 : (.classLink RX8 28 RX6 : Cond) ∈ lwT := inT1 (i := 49) rfl
theorem lwm_985 : (.methodLink RX8 30 yX6_init : Cond) ∈ lwT := inT1 (i := 51) rfl
theorem lwm_986 : (.instanceMethod yX6_init : Cond) ∈ lwT := inT1 (i := 52) rfl
theorem lwm_987 : (.instantiable RX3 4 : Cond) ∈ lwT := inT1 (i := 108) rfl
theorem lwm_988 : (.classLink RX8 37 RX3 : Cond) ∈ lwT := inT1 (i := 107) rfl
theorem lwm_989 : (.methodLink RX8 39 yX3_init : Cond) ∈ lwT := inT1 (i := 109) rfl
theorem lwm_990 : (.instanceMethod yX3_init : Cond) ∈ lwT := inT1 (i := 110) rfl
theorem lwm_991 : (.instantiable RX4 3 : Cond) ∈ lwT := inT1 (i := 170) rfl
theorem lwm_992 : (.classLink RX8 46 RX4 : Cond) ∈ lwT := inT1 (i := 169) rfl
theorem lwm_993 : (.methodLink RX8 48 yX4_init : Cond) ∈ lwT := inT1 (i := 171) rfl
theorem lwm_994 : (.instanceMethod yX4_init : Cond) ∈ lwT := inT1 (i := 172) rfl
theorem lwm_995 : (.instantiable RX7 2 : Cond) ∈ lwT := inT1 (i := 190) rfl
theorem lwm_996 : (.classLink RX8 53 RX7 : Cond) ∈ lwT := inT1 (i := 189) rfl
theorem lwm_997 : (.methodLink RX8 55 yX7_init : Cond) ∈ lwT := inT1 (i := 191) rfl
theorem lwm_998 : (.instanceMethod yX7_init : Cond) ∈ lwT := inT1 (i := 192) rfl
theorem lwm_999 : (.instantiable RX5 2 : Cond) ∈ lwT := inT1 (i := 30) rfl
theorem lwm_1000 : (.methodLink RX4 3 objectInit : Cond) ∈ lwT := inT1 (i := 174) rfl
theorem lwm_1001 : (.code yX4_init cX4_init 3 none : Cond) ∈ lwT := inT1 (i := 173) rfl
theorem lwm_1002 : (.methodLink RX7 3 objectInit : Cond) ∈ lwT := inT1 (i := 194) rfl
theorem lwm_1003 : (.code yX7_init cX7_init 2 none : Cond) ∈ lwT := inT1 (i := 193) rfl
theorem lwm_1004 : (.arrayClass .int : Cond) ∈ lwT := inT1 (i := 45) rfl
theorem lwm_1005 : (.methodLink RX5 9 Lib.Math.max.name : Cond) ∈ lwT := inT1 (i := 35) rfl
theorem lwm_1006 : (.methodLink RX5 3 objectInit : Cond) ∈ lwT := inT1 (i := 34) rfl
theorem lwm_1007 : (.code yX5_init cX5_init 2 none : Cond) ∈ lwT := inT1 (i := 33) rfl
theorem lwm_1008 : (.classLink RX8 22 RX1 : Cond) ∈ lwT := inT1 (i := 47) rfl
theorem lwm_1009 : (.instantiable RX6 6 : Cond) ∈ lwT := inT1 (i := 50) rfl
theorem lwm_1010 : (.methodLink RX3 3 objectInit : Cond) ∈ lwT := inT1 (i := 112) rfl
theorem lwm_1011 : (.code yX3_init cX3_init 3 none : Cond) ∈ lwT := inT1 (i := 111) rfl
theorem lwm_1012 : (.methodLink RX2 3 objectInit : Cond) ∈ lwT := inT1 (i := 119) rfl
theorem lwm_1013 : (.code yX2_init cX2_init 1 none : Cond) ∈ lwT := inT1 (i := 118) rfl
theorem lwm_1014 : (.instantiable RX2 8 : Cond) ∈ lwT := inT1 (i := 115) rfl
theorem lwm_1015 : (.classLink RX4 15 RX2 : Cond) ∈ lwT := inT1 (i := 175) rfl
theorem lwm_1016 : (.classLink RX4 22 RX5 : Cond) ∈ lwT := inT1 (i := 177) rfl
theorem lwm_1017 : (.instanceMethod yX2_init : Cond) ∈ lwT := inT1 (i := 117) rfl
theorem lwm_1018 : (.methodLink RX4 24 yX5_init : Cond) ∈ lwT := inT1 (i := 178) rfl
theorem lwm_1019 : (.methodLink RJ4 1 yJ5_init_d00df : Cond) ∈ lwT := inT1 (i := 60) rfl
theorem lwm_1020 : (.instanceMethod yJ5_init_d00df : Cond) ∈ lwT := inT1 (i := 61) rfl
theorem lwm_1021 : (.code yJ4_init_da8c8 cJ4_init_da8c8 1 none : Cond) ∈ lwT := inT1 (i := 59) rfl
theorem lwm_1022 : (.instantiable RJ4 4 : Cond) ∈ lwT := inT1 (i := 56) rfl
theorem lwm_1023 : (.classLink RX6 19 RJ4 : Cond) ∈ lwT := inT1 (i := 55) rfl
theorem lwm_1024 : (.methodLink RX6 21 yJ4_init_da8c8 : Cond) ∈ lwT := inT1 (i := 57) rfl
theorem lwm_1025 : (.instanceMethod yJ4_init_da8c8 : Cond) ∈ lwT := inT1 (i := 58) rfl
theorem lwm_1026 : (.methodLink RX6 3 objectInit : Cond) ∈ lwT := inT1 (i := 54) rfl
theorem lwm_1027 : (.code yX6_init cX6_init 3 none : Cond) ∈ lwT := inT1 (i := 53) rfl
theorem lwm_1028 : (.classLink RX3 15 RX2 : Cond) ∈ lwT := inT1 (i := 113) rfl
theorem lwm_1029 : (.methodLink RJ5 3 objectInit : Cond) ∈ lwT := inT1 (i := 63) rfl
theorem lwm_1030 : (.code yJ5_init_d00df cJ5_init_d00df 2 none : Cond) ∈ lwT := inT1 (i := 62) rfl
theorem lwm_1031 : (.static yX9_packed : Cond) ∈ lwT := inT5 (i := 5) rfl
theorem lwm_1032 : (.methodLink RX9 46 yX9_packed : Cond) ∈ lwT := inT5 (i := 4) rfl
theorem lwm_1033 : (.arrayClass .long : Cond) ∈ lwT := inT5 (i := 191) rfl
theorem lwm_1034 : (.arrayClass .boolean : Cond) ∈ lwT := inT5 (i := 190) rfl
theorem lwm_1035 : (.methodLink RX9 1 objectInit : Cond) ∈ lwT := inT5 (i := 3) rfl
theorem lwm_1036 : (.code yX9_init cX9_init 1 none : Cond) ∈ lwT := inT5 (i := 2) rfl
theorem lwm_1037 : (.code yX9_packed cX9_packed 9 (some .long) : Cond) ∈ lwT := inT5 (i := 6) rfl
