theorem dX9_kinds_0 : decode cX9_kinds 0 = .ok (.aload_n 0, 1) := by decide +kernel
theorem dX9_kinds_1 : decode cX9_kinds 1 = .ok (.getfield 20, 3) := by decide +kernel
theorem dX9_kinds_100 : decode cX9_kinds 100 = .ok (.aload_n 0, 1) := by decide +kernel
theorem dX9_kinds_101 : decode cX9_kinds 101 = .ok (.invokevirtual 188, 3) := by decide +kernel
theorem dX9_kinds_104 : decode cX9_kinds 104 = .ok (.aload_n 0, 1) := by decide +kernel
theorem dX9_kinds_105 : decode cX9_kinds 105 = .ok (.getfield 135, 3) := by decide +kernel
theorem dX9_kinds_108 : decode cX9_kinds 108 = .ok (.ifCond .ne 13, 3) := by decide +kernel
theorem dX9_kinds_11 : decode cX9_kinds 11 = .ok (.iload_n 2, 1) := by decide +kernel
theorem dX9_kinds_111 : decode cX9_kinds 111 = .ok (.aload_n 0, 1) := by decide +kernel
theorem dX9_kinds_112 : decode cX9_kinds 112 = .ok (.getfield 17, 3) := by decide +kernel
theorem dX9_kinds_115 : decode cX9_kinds 115 = .ok (.iload_n 2, 1) := by decide +kernel
theorem dX9_kinds_116 : decode cX9_kinds 116 = .ok (.aload_n 0, 1) := by decide +kernel
theorem dX9_kinds_117 : decode cX9_kinds 117 = .ok (.invokevirtual 203, 3) := by decide +kernel
theorem dX9_kinds_12 : decode cX9_kinds 12 = .ok (.iconst 0, 1) := by decide +kernel
theorem dX9_kinds_120 : decode cX9_kinds 120 = .ok (.iastore, 1) := by decide +kernel
theorem dX9_kinds_121 : decode cX9_kinds 121 = .ok (.aload_n 0, 1) := by decide +kernel
theorem dX9_kinds_122 : decode cX9_kinds 122 = .ok (.getfield 135, 3) := by decide +kernel
theorem dX9_kinds_125 : decode cX9_kinds 125 = .ok (.ifCond .ne 32, 3) := by decide +kernel
theorem dX9_kinds_128 : decode cX9_kinds 128 = .ok (.aload_n 0, 1) := by decide +kernel
theorem dX9_kinds_129 : decode cX9_kinds 129 = .ok (.getfield 17, 3) := by decide +kernel
theorem dX9_kinds_13 : decode cX9_kinds 13 = .ok (.iastore, 1) := by decide +kernel
theorem dX9_kinds_132 : decode cX9_kinds 132 = .ok (.iload_n 2, 1) := by decide +kernel
theorem dX9_kinds_133 : decode cX9_kinds 133 = .ok (.iaload, 1) := by decide +kernel
theorem dX9_kinds_134 : decode cX9_kinds 134 = .ok (.iconst 1, 1) := by decide +kernel
theorem dX9_kinds_135 : decode cX9_kinds 135 = .ok (.if_icmp .lt 13, 3) := by decide +kernel
theorem dX9_kinds_138 : decode cX9_kinds 138 = .ok (.aload_n 0, 1) := by decide +kernel
theorem dX9_kinds_139 : decode cX9_kinds 139 = .ok (.getfield 17, 3) := by decide +kernel
theorem dX9_kinds_14 : decode cX9_kinds 14 = .ok (.aload_n 0, 1) := by decide +kernel
theorem dX9_kinds_142 : decode cX9_kinds 142 = .ok (.iload_n 2, 1) := by decide +kernel
theorem dX9_kinds_143 : decode cX9_kinds 143 = .ok (.iaload, 1) := by decide +kernel
theorem dX9_kinds_144 : decode cX9_kinds 144 = .ok (.iconst 3, 1) := by decide +kernel
theorem dX9_kinds_145 : decode cX9_kinds 145 = .ok (.if_icmp .le 12, 3) := by decide +kernel
theorem dX9_kinds_148 : decode cX9_kinds 148 = .ok (.aload_n 0, 1) := by decide +kernel
theorem dX9_kinds_149 : decode cX9_kinds 149 = .ok (.iconst 1, 1) := by decide +kernel
theorem dX9_kinds_15 : decode cX9_kinds 15 = .ok (.getfield 30, 3) := by decide +kernel
theorem dX9_kinds_150 : decode cX9_kinds 150 = .ok (.aload_n 0, 1) := by decide +kernel
theorem dX9_kinds_151 : decode cX9_kinds 151 = .ok (.getfield 147, 3) := by decide +kernel
theorem dX9_kinds_154 : decode cX9_kinds 154 = .ok (.invokevirtual 154, 3) := by decide +kernel
theorem dX9_kinds_157 : decode cX9_kinds 157 = .ok (.aload_n 0, 1) := by decide +kernel
theorem dX9_kinds_158 : decode cX9_kinds 158 = .ok (.invokevirtual 206, 3) := by decide +kernel
theorem dX9_kinds_161 : decode cX9_kinds 161 = .ok (.aload_n 0, 1) := by decide +kernel
theorem dX9_kinds_162 : decode cX9_kinds 162 = .ok (.getfield 135, 3) := by decide +kernel
theorem dX9_kinds_165 : decode cX9_kinds 165 = .ok (.ifCond .ne 47, 3) := by decide +kernel
theorem dX9_kinds_168 : decode cX9_kinds 168 = .ok (.aload_n 0, 1) := by decide +kernel
theorem dX9_kinds_169 : decode cX9_kinds 169 = .ok (.invokevirtual 150, 3) := by decide +kernel
theorem dX9_kinds_172 : decode cX9_kinds 172 = .ok (.bipush 61, 2) := by decide +kernel
theorem dX9_kinds_174 : decode cX9_kinds 174 = .ok (.if_icmp .ne 38, 3) := by decide +kernel
theorem dX9_kinds_177 : decode cX9_kinds 177 = .ok (.iload_n 3, 1) := by decide +kernel
theorem dX9_kinds_178 : decode cX9_kinds 178 = .ok (.bipush 6, 2) := by decide +kernel
theorem dX9_kinds_18 : decode cX9_kinds 18 = .ok (.iload_n 2, 1) := by decide +kernel
theorem dX9_kinds_180 : decode cX9_kinds 180 = .ok (.if_icmp .eq 32, 3) := by decide +kernel
theorem dX9_kinds_183 : decode cX9_kinds 183 = .ok (.aload_n 0, 1) := by decide +kernel
theorem dX9_kinds_184 : decode cX9_kinds 184 = .ok (.dup, 1) := by decide +kernel
theorem dX9_kinds_185 : decode cX9_kinds 185 = .ok (.getfield 141, 3) := by decide +kernel
theorem dX9_kinds_188 : decode cX9_kinds 188 = .ok (.iconst 1, 1) := by decide +kernel
theorem dX9_kinds_189 : decode cX9_kinds 189 = .ok (.iadd, 1) := by decide +kernel
theorem dX9_kinds_19 : decode cX9_kinds 19 = .ok (.lconst 0, 1) := by decide +kernel
theorem dX9_kinds_190 : decode cX9_kinds 190 = .ok (.putfield 141, 3) := by decide +kernel
theorem dX9_kinds_193 : decode cX9_kinds 193 = .ok (.iload_n 3, 1) := by decide +kernel
theorem dX9_kinds_194 : decode cX9_kinds 194 = .ok (.iconst 5, 1) := by decide +kernel
theorem dX9_kinds_195 : decode cX9_kinds 195 = .ok (.if_icmp .ne 11, 3) := by decide +kernel
theorem dX9_kinds_198 : decode cX9_kinds 198 = .ok (.aload_n 0, 1) := by decide +kernel
theorem dX9_kinds_199 : decode cX9_kinds 199 = .ok (.iload_n 2, 1) := by decide +kernel
theorem dX9_kinds_20 : decode cX9_kinds 20 = .ok (.lastore, 1) := by decide +kernel
theorem dX9_kinds_200 : decode cX9_kinds 200 = .ok (.invokevirtual 209, 3) := by decide +kernel
theorem dX9_kinds_203 : decode cX9_kinds 203 = .ok (.goto 9, 3) := by decide +kernel
theorem dX9_kinds_206 : decode cX9_kinds 206 = .ok (.aload_n 0, 1) := by decide +kernel
theorem dX9_kinds_207 : decode cX9_kinds 207 = .ok (.iload_n 2, 1) := by decide +kernel
theorem dX9_kinds_208 : decode cX9_kinds 208 = .ok (.iload_n 3, 1) := by decide +kernel
theorem dX9_kinds_209 : decode cX9_kinds 209 = .ok (.invokevirtual 212, 3) := by decide +kernel
theorem dX9_kinds_21 : decode cX9_kinds 21 = .ok (.iload_n 3, 1) := by decide +kernel
theorem dX9_kinds_212 : decode cX9_kinds 212 = .ok (.aload_n 0, 1) := by decide +kernel
theorem dX9_kinds_213 : decode cX9_kinds 213 = .ok (.getfield 135, 3) := by decide +kernel
theorem dX9_kinds_216 : decode cX9_kinds 216 = .ok (.ifCond .ne 9, 3) := by decide +kernel
theorem dX9_kinds_219 : decode cX9_kinds 219 = .ok (.aload_n 0, 1) := by decide +kernel
theorem dX9_kinds_22 : decode cX9_kinds 22 = .ok (.bipush 6, 2) := by decide +kernel
theorem dX9_kinds_220 : decode cX9_kinds 220 = .ok (.bipush 59, 2) := by decide +kernel
theorem dX9_kinds_222 : decode cX9_kinds 222 = .ok (.invokevirtual 191, 3) := by decide +kernel
theorem dX9_kinds_225 : decode cX9_kinds 225 = .ok (.return_, 1) := by decide +kernel
theorem dX9_kinds_24 : decode cX9_kinds 24 = .ok (.if_icmp .ne 57, 3) := by decide +kernel
theorem dX9_kinds_27 : decode cX9_kinds 27 = .ok (.aload_n 0, 1) := by decide +kernel
theorem dX9_kinds_28 : decode cX9_kinds 28 = .ok (.getfield 20, 3) := by decide +kernel
theorem dX9_kinds_31 : decode cX9_kinds 31 = .ok (.iload_n 2, 1) := by decide +kernel
theorem dX9_kinds_32 : decode cX9_kinds 32 = .ok (.aload_n 0, 1) := by decide +kernel
theorem dX9_kinds_33 : decode cX9_kinds 33 = .ok (.invokevirtual 203, 3) := by decide +kernel
theorem dX9_kinds_36 : decode cX9_kinds 36 = .ok (.iastore, 1) := by decide +kernel
theorem dX9_kinds_37 : decode cX9_kinds 37 = .ok (.aload_n 0, 1) := by decide +kernel
theorem dX9_kinds_38 : decode cX9_kinds 38 = .ok (.getfield 135, 3) := by decide +kernel
theorem dX9_kinds_4 : decode cX9_kinds 4 = .ok (.iload_n 2, 1) := by decide +kernel
theorem dX9_kinds_41 : decode cX9_kinds 41 = .ok (.ifCond .ne 36, 3) := by decide +kernel
theorem dX9_kinds_44 : decode cX9_kinds 44 = .ok (.aload_n 0, 1) := by decide +kernel
theorem dX9_kinds_45 : decode cX9_kinds 45 = .ok (.getfield 20, 3) := by decide +kernel
theorem dX9_kinds_48 : decode cX9_kinds 48 = .ok (.iload_n 2, 1) := by decide +kernel
theorem dX9_kinds_49 : decode cX9_kinds 49 = .ok (.iaload, 1) := by decide +kernel
theorem dX9_kinds_5 : decode cX9_kinds 5 = .ok (.iconst (-1), 1) := by decide +kernel
theorem dX9_kinds_50 : decode cX9_kinds 50 = .ok (.iload_n 1, 1) := by decide +kernel
theorem dX9_kinds_51 : decode cX9_kinds 51 = .ok (.if_icmp .ge 17, 3) := by decide +kernel
theorem dX9_kinds_54 : decode cX9_kinds 54 = .ok (.aload_n 0, 1) := by decide +kernel
theorem dX9_kinds_55 : decode cX9_kinds 55 = .ok (.getfield 7, 3) := by decide +kernel
theorem dX9_kinds_58 : decode cX9_kinds 58 = .ok (.aload_n 0, 1) := by decide +kernel
theorem dX9_kinds_59 : decode cX9_kinds 59 = .ok (.getfield 20, 3) := by decide +kernel
theorem dX9_kinds_6 : decode cX9_kinds 6 = .ok (.iastore, 1) := by decide +kernel
theorem dX9_kinds_62 : decode cX9_kinds 62 = .ok (.iload_n 2, 1) := by decide +kernel
theorem dX9_kinds_63 : decode cX9_kinds 63 = .ok (.iaload, 1) := by decide +kernel
theorem dX9_kinds_64 : decode cX9_kinds 64 = .ok (.baload, 1) := by decide +kernel
theorem dX9_kinds_65 : decode cX9_kinds 65 = .ok (.ifCond .ne 12, 3) := by decide +kernel
theorem dX9_kinds_68 : decode cX9_kinds 68 = .ok (.aload_n 0, 1) := by decide +kernel
theorem dX9_kinds_69 : decode cX9_kinds 69 = .ok (.iconst 2, 1) := by decide +kernel
theorem dX9_kinds_7 : decode cX9_kinds 7 = .ok (.aload_n 0, 1) := by decide +kernel
theorem dX9_kinds_70 : decode cX9_kinds 70 = .ok (.aload_n 0, 1) := by decide +kernel
theorem dX9_kinds_71 : decode cX9_kinds 71 = .ok (.getfield 147, 3) := by decide +kernel
theorem dX9_kinds_74 : decode cX9_kinds 74 = .ok (.invokevirtual 154, 3) := by decide +kernel
theorem dX9_kinds_77 : decode cX9_kinds 77 = .ok (.aload_n 0, 1) := by decide +kernel
theorem dX9_kinds_78 : decode cX9_kinds 78 = .ok (.invokevirtual 206, 3) := by decide +kernel
theorem dX9_kinds_8 : decode cX9_kinds 8 = .ok (.getfield 17, 3) := by decide +kernel
theorem dX9_kinds_81 : decode cX9_kinds 81 = .ok (.aload_n 0, 1) := by decide +kernel
theorem dX9_kinds_82 : decode cX9_kinds 82 = .ok (.getfield 135, 3) := by decide +kernel
theorem dX9_kinds_85 : decode cX9_kinds 85 = .ok (.ifCond .ne 76, 3) := by decide +kernel
theorem dX9_kinds_88 : decode cX9_kinds 88 = .ok (.aload_n 0, 1) := by decide +kernel
theorem dX9_kinds_89 : decode cX9_kinds 89 = .ok (.invokevirtual 184, 3) := by decide +kernel
theorem dX9_kinds_92 : decode cX9_kinds 92 = .ok (.aload_n 0, 1) := by decide +kernel
theorem dX9_kinds_93 : decode cX9_kinds 93 = .ok (.getfield 72, 3) := by decide +kernel
theorem dX9_kinds_96 : decode cX9_kinds 96 = .ok (.lcmp, 1) := by decide +kernel
theorem dX9_kinds_97 : decode cX9_kinds 97 = .ok (.ifCond .ne 64, 3) := by decide +kernel
def wp_X9_kinds : List Cond := .code yX9_kinds cX9_kinds 4 none :: ([.fieldLink RX9 20 "RecordBenchModel" "inner" "[I", .fieldLink RX9 17 "RecordBenchModel" "group" "[I", .fieldLink RX9 30 "RecordBenchModel" "plain" "[J", .fieldLink RX9 135 "RecordBenchModel" "bad" "I", .methodLink RX9 184 yX9_word, .instanceMethod yX9_word, .selects RX9 yX9_word yX9_word, .initialized RX9, .fieldLink RX9 72 "RecordBenchModel" "inWord" "J", .methodLink RX9 150 yX9_next, .instanceMethod yX9_next, .selects RX9 yX9_next yX9_next, .methodLink RX9 191 yX9_sign, .instanceMethod yX9_sign, .selects RX9 yX9_sign yX9_sign, .fieldLink RX9 141 "RecordBenchModel" "at" "I", .methodLink RX9 212 yX9_value, .instanceMethod yX9_value, .selects RX9 yX9_value yX9_value, .methodLink RX9 209 yX9_textValue, .instanceMethod yX9_textValue, .selects RX9 yX9_textValue yX9_textValue, .methodLink RX9 188 yX9_takes, .instanceMethod yX9_takes, .selects RX9 yX9_takes yX9_takes, .methodLink RX9 203 yX9_digit, .instanceMethod yX9_digit, .selects RX9 yX9_digit yX9_digit, .fieldLink RX9 147 "RecordBenchModel" "begun" "I", .methodLink RX9 154 yX9_fail, .instanceMethod yX9_fail, .selects RX9 yX9_fail yX9_fail, .methodLink RX9 206 yX9_ends, .instanceMethod yX9_ends, .selects RX9 yX9_ends yX9_ends, .fieldLink RX9 7 "RecordBenchModel" "told" "[Z", .code yX9_word cX9_word 5 (some .long), .methodLink RX9 172 yX9_wordEnd, .instanceMethod yX9_wordEnd, .selects RX9 yX9_wordEnd yX9_wordEnd, .constantLong RX9 168 (27), .fieldLink RX9 39 "RecordBenchModel" "tape" "[I", .constantLong RX9 170 (97), .constantLong RX9 175 (-1), .code yX9_next cX9_next 1 (some .int), .fieldLink RX9 144 "RecordBenchModel" "size" "I", .code yX9_wordEnd cX9_wordEnd 2 (some .int), .methodLink RX9 165 yX9_isLetter, .static yX9_isLetter, .code yX9_isLetter cX9_isLetter 1 (some .boolean), .code yX9_sign cX9_sign 2 none, .code yX9_fail cX9_fail 3 none, .fieldLink RX9 138 "RecordBenchModel" "badPlace" "I", .code yX9_value cX9_value 10 none, .fieldLink RX9 162 "RecordBenchModel" "ended" "I", .constantLong RX9 227 (-9223372036854775808), .methodLink RX9 229 yX9_isOf, .static yX9_isOf, .methodLink RX9 158 yX9_isDigit, .static yX9_isDigit, .constantLong RX9 223 (-922337203685477580), .constantLong RX9 225 (10), .code yX9_isOf cX9_isOf 3 (some .boolean), .constantLong RX9 219 (-2147483648), .constantLong RX9 221 (2147483647), .constantLong RX9 215 (-128), .constantLong RX9 217 (127), .code yX9_isDigit cX9_isDigit 1 (some .boolean), .code yX9_textValue cX9_textValue 3 none, .fieldLink RX9 33 "RecordBenchModel" "plainText" "[I", .code yX9_takes cX9_takes 1 none, .code yX9_digit cX9_digit 1 (some .int), .code yX9_ends cX9_ends 1 none] ++ wsX90)
set_option maxRecDepth 20000 in
theorem gp_X9_kinds_X9_word_184 : GoodIn wp_X9_kinds (wsV RX9 184 RX9 yX9_word wp_X9_word) := goodIn_p _ [37, 45, 47, 50] rfl (by decide +kernel)
set_option maxRecDepth 20000 in
theorem gp_X9_kinds_X9_next_150 : GoodIn wp_X9_kinds (wsV RX9 150 RX9 yX9_next wp_X9_next) := goodIn_p _ [45] rfl (by decide +kernel)
set_option maxRecDepth 20000 in
theorem gp_X9_kinds_X9_sign_191 : GoodIn wp_X9_kinds (wsV RX9 191 RX9 yX9_sign wp_X9_sign) := goodIn_p _ [51, 45, 52] rfl (by decide +kernel)
set_option maxRecDepth 20000 in
theorem gp_X9_kinds_X9_value_212 : GoodIn wp_X9_kinds (wsV RX9 212 RX9 yX9_value wp_X9_value) := goodIn_p _ [54, 45, 52, 63, 68] rfl (by decide +kernel)
set_option maxRecDepth 20000 in
theorem gp_X9_kinds_X9_textValue_209 : GoodIn wp_X9_kinds (wsV RX9 209 RX9 yX9_textValue wp_X9_textValue) := goodIn_p _ [69, 51, 45, 52] rfl (by decide +kernel)
set_option maxRecDepth 20000 in
theorem gp_X9_kinds_X9_takes_188 : GoodIn wp_X9_kinds (wsV RX9 188 RX9 yX9_takes wp_X9_takes) := goodIn_p _ [71, 47, 50, 52] rfl (by decide +kernel)
set_option maxRecDepth 20000 in
theorem gp_X9_kinds_X9_digit_203 : GoodIn wp_X9_kinds (wsV RX9 203 RX9 yX9_digit wp_X9_digit) := goodIn_p _ [72, 45, 68, 52] rfl (by decide +kernel)
set_option maxRecDepth 20000 in
theorem gp_X9_kinds_X9_fail_154 : GoodIn wp_X9_kinds (wsV RX9 154 RX9 yX9_fail wp_X9_fail) := goodIn_p _ [52] rfl (by decide +kernel)
set_option maxRecDepth 20000 in
theorem gp_X9_kinds_X9_ends_206 : GoodIn wp_X9_kinds (wsV RX9 206 RX9 yX9_ends wp_X9_ends) := goodIn_p _ [73, 68, 52] rfl (by decide +kernel)
set_option maxHeartbeats 4000000 in
set_option maxRecDepth 100000 in
theorem c_X9_kinds (l : Launch) (dC : Nat → ClassId) (dI : Nat → Nat → Nat) (h0 : Nat) (g : Nat → Value) (a9 : Nat) (cT : ClassId) (f : Nat → Int32) (j : Nat) (n : Nat) (a0 : Nat) (cZ : ClassId) (tl : Nat → Int32) (a2 : Nat) (cG : ClassId) (fG : Nat → Int32) (a3 : Nat) (cI : ClassId) (fI : Nat → Int32) (a6 : Nat) (cP : ClassId) (fP : Nat → Int64) (a7 : Nat) (cX : ClassId) (fX : Nat → Int32) (F : Nat) (e0 : Nat) (iw : Int64) (fh0 : g 0 = .ref a0) (fh2 : g 2 = .ref a2) (fh3 : g 3 = .ref a3) (fh6 : g 6 = .ref a6) (fh7 : g 7 = .ref a7) (fh9 : g 9 = .ref a9) (fh11 : g 11 = .int (nI j)) (fh12 : g 12 = .int (nI n)) (fh13 : g 13 = .int 0) (fh18 : g 18 = .int (nI e0)) (fh26 : g 26 = .long iw) (hj : j ≤ n) (hn : n ≤ 400) (hF : F < 248) (he : e0 ≤ j) (p0 : Int32) (p2 : Int32) (hm : vp_in p0 8) (sz : Nat) : Met l yX9_kinds wp_X9_kinds ({ frames := 3, cells := 0, slots := 0, locals := 77 }) (va_Pc [.ref h0, .int p0, .int (nI F), .int p2] (Pr (dC, dI) [(cT, .int), (cZ, .boolean), (cG, .int), (cI, .int), (cP, .long), (cX, .int)] [] [(h0, .inr (11, mo g)), (a9, .inl (cT, 400, .inl f)), (a0, .inl (cZ, 8, .inl tl)), (a2, .inl (cG, 248, .inl fG)), (a3, .inl (cI, 248, .inl fI)), (a6, .inl (cP, 248, .inr (.inl fP))), (a7, .inl (cX, 2976, .inl fX))] sz)) (va_Qv (fun (u : (Nat → Value) × Nat × Int32 × Int32 × Nat × (Nat → Int32) × (Nat → Int32) × (Nat → Int64) × (Nat → Int32) × Int32 × Int32 × Int64) => match u with | (g1, j1, b1, x1, e1, fI1, fG1, fP1, fX1, in1, gr1, pl1) => ((kAll f n tl iw p0 p2 j (nI e0) = some (j1, in1, gr1, pl1) ∧ b1 = 0 ∧ j1 ≤ n ∧ (x1 = nI e1 ∧ e1 < j1) ∧ fI1 F = in1 ∧ fG1 F = gr1 ∧ fP1 F = pl1) ∨ (kAll f n tl iw p0 p2 j (nI e0) = none ∧ b1 ≠ 0)) ∧ (∀ x : Nat, x ≠ F → fI1 x = fI x) ∧ (∀ x : Nat, x ≠ F → fG1 x = fG x) ∧ (∀ x : Nat, x ≠ F → fP1 x = fP x) ∧ (∀ x : Nat, (x < 12 * F ∨ 12 * F + 12 ≤ x) → fX1 x = fX x) ∧ (g1 11 = .int (nI j1)) ∧ (g1 13 = .int b1) ∧ (g1 18 = .int x1) ∧ (∀ j : Nat, j ≠ 11 → j ≠ 13 → j ≠ 14 → j ≠ 17 → j ≠ 18 → g1 j = g j)) (Bq (dC, dI) (fun (u : (Nat → Value) × Nat × Int32 × Int32 × Nat × (Nat → Int32) × (Nat → Int32) × (Nat → Int64) × (Nat → Int32) × Int32 × Int32 × Int64) => match u with | (g1, j1, b1, x1, e1, fI1, fG1, fP1, fX1, in1, gr1, pl1) => [(h0, .inr (11, mo g1)), (a9, .inl (cT, 400, .inl f)), (a0, .inl (cZ, 8, .inl tl)), (a2, .inl (cG, 248, .inl fG1)), (a3, .inl (cI, 248, .inl fI1)), (a6, .inl (cP, 248, .inr (.inl fP1))), (a7, .inl (cX, 2976, .inl fX1))]) (fun (u : (Nat → Value) × Nat × Int32 × Int32 × Nat × (Nat → Int32) × (Nat → Int32) × (Nat → Int64) × (Nat → Int32) × Int32 × Int32 × Int64) => match u with | (g1, j1, b1, x1, e1, fI1, fG1, fP1, fX1, in1, gr1, pl1) => []) (va_A [(h0, .inr (11, mo g)), (a9, .inl (cT, 400, .inl f)), (a0, .inl (cZ, 8, .inl tl)), (a2, .inl (cG, 248, .inl fG)), (a3, .inl (cI, 248, .inl fI)), (a6, .inl (cP, 248, .inr (.inl fP))), (a7, .inl (cX, 2976, .inl fX))] sz)) (va_A [(h0, .inr (11, mo g)), (a9, .inl (cT, 400, .inl f)), (a0, .inl (cZ, 8, .inl tl)), (a2, .inl (cG, 248, .inl fG)), (a3, .inl (cI, 248, .inl fI)), (a6, .inl (cP, 248, .inr (.inl fP))), (a7, .inl (cX, 2976, .inl fX))] sz)) 0 0 (va_A [(h0, .inr (11, mo g)), (a9, .inl (cT, 400, .inl f)), (a0, .inl (cZ, 8, .inl tl)), (a2, .inl (cG, 248, .inl fG)), (a3, .inl (cI, 248, .inl fI)), (a6, .inl (cP, 248, .inr (.inl fP))), (a7, .inl (cX, 2976, .inl fX))] sz) := by
  refine Met.ofW (cc := cX9_kinds) (maxL := 4) (ret := none) (by decide) rfl ?_
  intro p e s m args below meth c s₁ B hml hv
  obtain ⟨rfl, hsz, hP, hK, hD0, hN, hZ, hR⟩ := hv
  have hx := B.exec
  have hb := B.bytes
  have hr := B.returns
  have hts := atoms_spec (ws := wp_X9_kinds) B.pre
  have hown : s.vm.findClass RX9 = some m.cls := findClass_of_methodNamed B.named
  have hlocks := B.notSynchronized
  have iRX9 : ∀ w ∈ u_ws RX9 TX9 60, w ∈ wp_X9_kinds := by decide +kernel
  subst hsz
  have hD := hD0.self (sz := s.heap.size)
  generalize hAe : va_A [(h0, .inr (11, mo g)), (a9, .inl (cT, 400, .inl f)), (a0, .inl (cZ, 8, .inl tl)), (a2, .inl (cG, 248, .inl fG)), (a3, .inl (cI, 248, .inl fI)), (a6, .inl (cP, 248, .inr (.inl fP))), (a7, .inl (cX, 2976, .inl fX))] s.heap.size = A at hD hZ hR ⊢
  have hA : ∀ q : Nat, s.heap.size ≤ q → A q := fun q h => by rw [← hAe]; exact Or.inr h
  have hS : va_S A s.heap s.heap [] := va_S.rf
  have hP : va_P (dC, dI) vwCl [(h0, .inr (11, mo g)), (a9, .inl (cT, 400, .inl f)), (a0, .inl (cZ, 8, .inl tl)), (a2, .inl (cG, 248, .inl fG)), (a3, .inl (cI, 248, .inl fI)), (a6, .inl (cP, 248, .inr (.inl fP))), (a7, .inl (cX, 2976, .inl fX))] s.heap := hP
  have hl := lv_entry ([.ref h0, .int p0, .int (nI F), .int p2]) (n := 4) (Nat.le_of_ble_eq_true rfl)
  rw [lg_entry_eq]
  generalize (lg_sl ([.ref h0, .int p0, .int (nI F), .int p2]) ++ List.replicate (4 - (lg_sl ([.ref h0, .int p0, .int (nI F), .int p2])).length) Slot.unset).toArray = ls at hl ⊢
  have hl : lv_has ls 4 [(0, .ref h0), (1, .int p0), (2, .int (nI F)), (3, .int p2)] := hl
  have hcF : (nI F).toNatClampNeg = F := nI_clamp (by omega)
  refine lv_aload_n hx hb dX9_kinds_0 rfl (lv_at hl 0 rfl) ?_
  refine va_get (D := (dC, dI)) (ci := 11) (v := .ref a3) (C := RX9) (T := TX9) (N := 60) hx hb hts iRX9 hown hK hP 0 rfl rfl 3 (by decide) (hts (.fieldLink RX9 20 "RecordBenchModel" "inner" "[I") (by decide +kernel)) (fun _ h9 => h9) ((mo_get g (by decide)).trans (congrArg some fh3)) dX9_kinds_1 ?_
  refine lv_iload_n hx hb dX9_kinds_4 rfl (lv_at hl 2 rfl) ?_
  refine lv_iconst (v := (-1)) hx hb dX9_kinds_5 (by decide) ?_
  refine va_iast hx hb hK hP hD hS 4 3 rfl rfl (vp_in_nI hF (by decide)) dX9_kinds_6 (fun H locs hP hD hS => ?_)
  rw [hcF] at hP hD
  obtain ⟨f_1, ef_1⟩ : ∃ y : Nat → Int32, y = upd fI F (-1) := ⟨_, rfl⟩
  have hP : va_P (dC, dI) vwCl [(h0, .inr (11, mo g)), (a9, .inl (cT, 400, .inl f)), (a0, .inl (cZ, 8, .inl tl)), (a2, .inl (cG, 248, .inl fG)), (a3, .inl (cI, 248, .inl f_1)), (a6, .inl (cP, 248, .inr (.inl fP))), (a7, .inl (cX, 2976, .inl fX))] H := by rw [ef_1]; exact hP
  have hD : va_D A [(h0, .inr (11, mo g)), (a9, .inl (cT, 400, .inl f)), (a0, .inl (cZ, 8, .inl tl)), (a2, .inl (cG, 248, .inl fG)), (a3, .inl (cI, 248, .inl f_1)), (a6, .inl (cP, 248, .inr (.inl fP))), (a7, .inl (cX, 2976, .inl fX))] := by rw [ef_1]; exact hD
  have vf_1 : f_1 F = (-1) := by rw [ef_1, pk_us]
  have frf_1 : ∀ x : Nat, x ≠ F → f_1 x = fI x := fun x hx => by rw [ef_1, pk_un hx]
  refine lv_aload_n hx hb dX9_kinds_7 rfl (lv_at hl 0 rfl) ?_
  refine va_get (D := (dC, dI)) (ci := 11) (v := .ref a2) (C := RX9) (T := TX9) (N := 60) hx hb hts iRX9 hown hK hP 0 rfl rfl 2 (by decide) (hts (.fieldLink RX9 17 "RecordBenchModel" "group" "[I") (by decide +kernel)) (fun _ h9 => h9) ((mo_get g (by decide)).trans (congrArg some fh2)) dX9_kinds_8 ?_
  refine lv_iload_n hx hb dX9_kinds_11 rfl (lv_at hl 2 rfl) ?_
  refine lv_iconst (v := 0) hx hb dX9_kinds_12 (by decide) ?_
  refine va_iast hx hb hK hP hD hS 3 2 rfl rfl (vp_in_nI hF (by decide)) dX9_kinds_13 (fun H locs hP hD hS => ?_)
  rw [hcF] at hP hD
  obtain ⟨f_2, ef_2⟩ : ∃ y : Nat → Int32, y = upd fG F 0 := ⟨_, rfl⟩
  have hP : va_P (dC, dI) vwCl [(h0, .inr (11, mo g)), (a9, .inl (cT, 400, .inl f)), (a0, .inl (cZ, 8, .inl tl)), (a2, .inl (cG, 248, .inl f_2)), (a3, .inl (cI, 248, .inl f_1)), (a6, .inl (cP, 248, .inr (.inl fP))), (a7, .inl (cX, 2976, .inl fX))] H := by rw [ef_2]; exact hP
  have hD : va_D A [(h0, .inr (11, mo g)), (a9, .inl (cT, 400, .inl f)), (a0, .inl (cZ, 8, .inl tl)), (a2, .inl (cG, 248, .inl f_2)), (a3, .inl (cI, 248, .inl f_1)), (a6, .inl (cP, 248, .inr (.inl fP))), (a7, .inl (cX, 2976, .inl fX))] := by rw [ef_2]; exact hD
  have vf_2 : f_2 F = 0 := by rw [ef_2, pk_us]
  have frf_2 : ∀ x : Nat, x ≠ F → f_2 x = fG x := fun x hx => by rw [ef_2, pk_un hx]
  refine lv_aload_n hx hb dX9_kinds_14 rfl (lv_at hl 0 rfl) ?_
  refine va_get (D := (dC, dI)) (ci := 11) (v := .ref a6) (C := RX9) (T := TX9) (N := 60) hx hb hts iRX9 hown hK hP 0 rfl rfl 6 (by decide) (hts (.fieldLink RX9 30 "RecordBenchModel" "plain" "[J") (by decide +kernel)) (fun _ h9 => h9) ((mo_get g (by decide)).trans (congrArg some fh6)) dX9_kinds_15 ?_
  refine lv_iload_n hx hb dX9_kinds_18 rfl (lv_at hl 2 rfl) ?_
  refine lv_lconst (v := 0) hx hb dX9_kinds_19 (by decide) ?_
  refine va_last hx hb hK hP hD hS 5 4 rfl rfl (vp_in_nI hF (by decide)) dX9_kinds_20 (fun H locs hP hD hS => ?_)
  rw [hcF] at hP hD
  obtain ⟨f_3, ef_3⟩ : ∃ y : Nat → Int64, y = vp_updL fP F 0 := ⟨_, rfl⟩
  have hP : va_P (dC, dI) vwCl [(h0, .inr (11, mo g)), (a9, .inl (cT, 400, .inl f)), (a0, .inl (cZ, 8, .inl tl)), (a2, .inl (cG, 248, .inl f_2)), (a3, .inl (cI, 248, .inl f_1)), (a6, .inl (cP, 248, .inr (.inl f_3))), (a7, .inl (cX, 2976, .inl fX))] H := by rw [ef_3]; exact hP
  have hD : va_D A [(h0, .inr (11, mo g)), (a9, .inl (cT, 400, .inl f)), (a0, .inl (cZ, 8, .inl tl)), (a2, .inl (cG, 248, .inl f_2)), (a3, .inl (cI, 248, .inl f_1)), (a6, .inl (cP, 248, .inr (.inl f_3))), (a7, .inl (cX, 2976, .inl fX))] := by rw [ef_3]; exact hD
  have vf_3 : f_3 F = 0 := by rw [ef_3, pk_uLs]
  have frf_3 : ∀ x : Nat, x ≠ F → f_3 x = fP x := fun x hx => by rw [ef_3, pk_uLn hx]
  refine lv_iload_n hx hb dX9_kinds_21 rfl (lv_at hl 3 rfl) ?_
  refine lv_bipush (v := 6) hx hb dX9_kinds_22 (by decide) ?_
  refine lv_icmp_ne (tgt := 81) hx hb dX9_kinds_24 (by decide) (fun c_4 => ?_) (fun c_4 => ?_)
  · have hR : kRec f n tl p0 p2 j (nI e0) = some (j, nI e0, -1) := by unfold kRec; rw [pif_neg c_4]
    refine lv_aload_n hx hb dX9_kinds_81 rfl (lv_at hl 0 rfl) ?_
    refine va_get (D := (dC, dI)) (ci := 11) (v := .int 0) (C := RX9) (T := TX9) (N := 60) hx hb hts iRX9 hown hK hP 0 rfl rfl 13 (by decide) (hts (.fieldLink RX9 135 "RecordBenchModel" "bad" "I") (by decide +kernel)) (fun _ h9 => h9) ((mo_get g (by decide)).trans (congrArg some fh13)) dX9_kinds_82 ?_
    refine lv_if_ne (tgt := 161) hx hb dX9_kinds_85 (by decide) (fun c_5 => absurd (by decide) c_5) (fun c_5 => ?_)
    refine lv_aload_n hx hb dX9_kinds_88 rfl (lv_at hl 0 rfl) ?_
    have hFc := va_free (wc := [(h0, .inr (11, mo g)), (a9, .inl (cT, 400, .inl f))]) hD hS hA [0, 1] rfl
    refine va_calll (va_runV (As := []) (rest := []) ⟨hx, hb, hml, hown, hts⟩ (c_X9_word l dC dI h0 g a9 cT f j n fh9 fh11 fh12 (by omega) (by omega) H.size) (cwV 0 hts gp_X9_kinds_X9_word_184 rfl rfl rfl (by decide +kernel) ⟨Nat.le_of_ble_eq_true rfl, Nat.le_of_ble_eq_true rfl⟩) ⟨Pr.blind _, va_recv hK hP (ci := 11) (q0 := 0) rfl rfl, fun U hU hW => ⟨rfl, Pr.at (hP.sub (ws' := [(h0, .inr (11, mo g)), (a9, .inl (cT, 400, .inl f))]) [0, 1] rfl) (hK.sub (tys' := [(cT, .int)]) [0] rfl) (hD.sub (ws' := [(h0, .inr (11, mo g)), (a9, .inl (cT, 400, .inl f))]) [0, 1] (by decide) rfl) hN hZ RO.nil hS hFc hU hW⟩⟩ rfl rfl hl.1 rfl (lv_room (Nat.le_of_ble_eq_true rfl)) dX9_kinds_89 ⟨Nat.le_of_ble_eq_true rfl, Nat.le_of_ble_eq_true rfl⟩) hS (fun q _ h => hFc q h) hFc (fun r_6 u t H1 locs ht hvm hw_7 hB hz1 hk1 hS => ?_)
    obtain ⟨g1_8, rfl⟩ : ∃ z, z = u := ⟨_, rfl⟩
    obtain ⟨hP, hD, hK⟩ := Bq.join (wr := [(a0, .inl (cZ, 8, .inl tl)), (a2, .inl (cG, 248, .inl f_2)), (a3, .inl (cI, 248, .inl f_1)), (a6, .inl (cP, 248, .inr (.inl f_3))), (a7, .inl (cX, 2976, .inl fX))]) hB ht hvm hP hD [0, 1] [2, 3, 4, 5, 6] rfl rfl (by decide) (by decide) hk1 hFc hK
    generalize H1 = H at hP hS ⊢
    have hP : va_P (dC, dI) vwCl [(a0, .inl (cZ, 8, .inl tl)), (a2, .inl (cG, 248, .inl f_2)), (a3, .inl (cI, 248, .inl f_1)), (a6, .inl (cP, 248, .inr (.inl f_3))), (a7, .inl (cX, 2976, .inl fX)), (h0, .inr (11, mo g1_8)), (a9, .inl (cT, 400, .inl f))] H := hP
    have hD : va_D A [(a0, .inl (cZ, 8, .inl tl)), (a2, .inl (cG, 248, .inl f_2)), (a3, .inl (cI, 248, .inl f_1)), (a6, .inl (cP, 248, .inr (.inl f_3))), (a7, .inl (cX, 2976, .inl fX)), (h0, .inr (11, mo g1_8)), (a9, .inl (cT, 400, .inl f))] := hD
    have hK : va_K (dC, dI) vwCl [(cT, .int), (cZ, .boolean), (cG, .int), (cI, .int), (cP, .long), (cX, .int)] s := hK
    try dsimp only at hw_7
    obtain ⟨k_9, k_10, k_11, k_12⟩ := hw_7
    have w_13 : g1_8 0 = .ref a0 := (k_12 0 (by decide) (by decide)).trans fh0
    have w_14 : g1_8 2 = .ref a2 := (k_12 2 (by decide) (by decide)).trans fh2
    have w_15 : g1_8 3 = .ref a3 := (k_12 3 (by decide) (by decide)).trans fh3
    have w_16 : g1_8 6 = .ref a6 := (k_12 6 (by decide) (by decide)).trans fh6
    have w_17 : g1_8 7 = .ref a7 := (k_12 7 (by decide) (by decide)).trans fh7
    have w_18 : g1_8 9 = .ref a9 := (k_12 9 (by decide) (by decide)).trans fh9
    have w_19 : g1_8 12 = .int (nI n) := (k_12 12 (by decide) (by decide)).trans fh12
    have w_20 : g1_8 13 = .int 0 := (k_12 13 (by decide) (by decide)).trans fh13
    have w_21 : g1_8 18 = .int (nI e0) := (k_12 18 (by decide) (by decide)).trans fh18
    have w_22 : g1_8 26 = .long iw := (k_12 26 (by decide) (by decide)).trans fh26
    have un_23 : ∀ j : Nat, j ≠ 11 → j ≠ 17 → g1_8 j = g j := fun j h11 h17 => (k_12 j h11 h17)
    have := tsk_ge f n (j)
    have := tsk_le (f := f) (n := n) (j := j) (by omega)
    have := twe_ge f n (tsk f n (j))
    have := twe_le (f := f) (n := n) (j := tsk f n (j)) (by omega)
    have := twe_ge f n (j)
    have := twe_le (f := f) (n := n) (j := j) (by omega)
    refine W_tol (y := twd f n (tsk f n j)) k_9 ?_
    refine lv_aload_n hx hb dX9_kinds_92 rfl (lv_at hl 0 rfl) ?_
    refine va_get (D := (dC, dI)) (ci := 11) (v := .long iw) (C := RX9) (T := TX9) (N := 60) hx hb hts iRX9 hown hK hP 5 rfl rfl 26 (by decide) (hts (.fieldLink RX9 72 "RecordBenchModel" "inWord" "J") (by decide +kernel)) (fun _ h9 => h9) ((mo_get g1_8 (by decide)).trans (congrArg some w_22)) dX9_kinds_93 ?_
    refine W.lcmp hx hb dX9_kinds_96 ?_
    refine lv_if_ne (tgt := 161) hx hb dX9_kinds_97 (by decide) (fun c_24 => ?_) (fun c_24 => ?_)
    · have hI : kIn f n iw (j) (nI e0) = some (tsk f n (j), nI e0, 0) := by unfold kIn; rw [pif_neg (show ¬ twd f n (tsk f n (j)) = iw from fun h => c_24 ((lg_cmp_eq _ _).mpr h))]
      refine lv_aload_n hx hb dX9_kinds_161 rfl (lv_at hl 0 rfl) ?_
      refine va_get (D := (dC, dI)) (ci := 11) (v := .int 0) (C := RX9) (T := TX9) (N := 60) hx hb hts iRX9 hown hK hP 5 rfl rfl 13 (by decide) (hts (.fieldLink RX9 135 "RecordBenchModel" "bad" "I") (by decide +kernel)) (fun _ h9 => h9) ((mo_get g1_8 (by decide)).trans (congrArg some w_20)) dX9_kinds_162 ?_
      refine lv_if_ne (tgt := 212) hx hb dX9_kinds_165 (by decide) (fun c_25 => absurd (by decide) c_25) (fun c_25 => ?_)
      refine lv_aload_n hx hb dX9_kinds_168 rfl (lv_at hl 0 rfl) ?_
      have hFc := va_free (wc := [(h0, .inr (11, mo g1_8)), (a9, .inl (cT, 400, .inl f))]) hD hS hA [5, 6] rfl
      refine va_calli (va_runV (As := []) (rest := []) ⟨hx, hb, hml, hown, hts⟩ (c_X9_next l dC dI h0 g1_8 a9 cT f (tsk f n j) n w_18 k_10 w_19 (by omega) (by omega) H.size) (cwV 0 hts gp_X9_kinds_X9_next_150 rfl rfl rfl (by decide +kernel) ⟨Nat.le_of_ble_eq_true rfl, Nat.le_of_ble_eq_true rfl⟩) ⟨Pr.blind _, va_recv hK hP (ci := 11) (q0 := 5) rfl rfl, fun U hU hW => ⟨rfl, Pr.at (hP.sub (ws' := [(h0, .inr (11, mo g1_8)), (a9, .inl (cT, 400, .inl f))]) [5, 6] rfl) (hK.sub (tys' := [(cT, .int)]) [0] rfl) (hD.sub (ws' := [(h0, .inr (11, mo g1_8)), (a9, .inl (cT, 400, .inl f))]) [5, 6] (by decide) rfl) hN hZ RO.nil hS hFc hU hW⟩⟩ rfl rfl hl.1 rfl (lv_room (Nat.le_of_ble_eq_true rfl)) dX9_kinds_169 ⟨Nat.le_of_ble_eq_true rfl, Nat.le_of_ble_eq_true rfl⟩) hS (fun q _ h => hFc q h) hFc (fun r_26 u t H1 locs ht hvm hw_27 hB hz1 hk1 hS => ?_)
      obtain ⟨g1_28, rfl⟩ : ∃ z, z = u := ⟨_, rfl⟩
      obtain ⟨hP, hD, hK⟩ := Bq.join (wr := [(a0, .inl (cZ, 8, .inl tl)), (a2, .inl (cG, 248, .inl f_2)), (a3, .inl (cI, 248, .inl f_1)), (a6, .inl (cP, 248, .inr (.inl f_3))), (a7, .inl (cX, 2976, .inl fX))]) hB ht hvm hP hD [5, 6] [0, 1, 2, 3, 4] rfl rfl (by decide) (by decide) hk1 hFc hK
      generalize H1 = H at hP hS ⊢
      have hP : va_P (dC, dI) vwCl [(a0, .inl (cZ, 8, .inl tl)), (a2, .inl (cG, 248, .inl f_2)), (a3, .inl (cI, 248, .inl f_1)), (a6, .inl (cP, 248, .inr (.inl f_3))), (a7, .inl (cX, 2976, .inl fX)), (h0, .inr (11, mo g1_28)), (a9, .inl (cT, 400, .inl f))] H := hP
      have hD : va_D A [(a0, .inl (cZ, 8, .inl tl)), (a2, .inl (cG, 248, .inl f_2)), (a3, .inl (cI, 248, .inl f_1)), (a6, .inl (cP, 248, .inr (.inl f_3))), (a7, .inl (cX, 2976, .inl fX)), (h0, .inr (11, mo g1_28)), (a9, .inl (cT, 400, .inl f))] := hD
      have hK : va_K (dC, dI) vwCl [(cT, .int), (cZ, .boolean), (cG, .int), (cI, .int), (cP, .long), (cX, .int)] s := hK
      try dsimp only at hw_27
      obtain ⟨k_29, k_30, k_31, k_32⟩ := hw_27
      have w_33 : g1_28 0 = .ref a0 := (k_32 0 (by decide) (by decide)).trans w_13
      have w_34 : g1_28 2 = .ref a2 := (k_32 2 (by decide) (by decide)).trans w_14
      have w_35 : g1_28 3 = .ref a3 := (k_32 3 (by decide) (by decide)).trans w_15
      have w_36 : g1_28 6 = .ref a6 := (k_32 6 (by decide) (by decide)).trans w_16
      have w_37 : g1_28 7 = .ref a7 := (k_32 7 (by decide) (by decide)).trans w_17
      have w_38 : g1_28 9 = .ref a9 := (k_32 9 (by decide) (by decide)).trans w_18
      have w_39 : g1_28 12 = .int (nI n) := (k_32 12 (by decide) (by decide)).trans w_19
      have w_40 : g1_28 13 = .int 0 := (k_32 13 (by decide) (by decide)).trans w_20
      have w_41 : g1_28 18 = .int (nI e0) := (k_32 18 (by decide) (by decide)).trans w_21
      have w_42 : g1_28 26 = .long iw := (k_32 26 (by decide) (by decide)).trans w_22
      have un_43 : ∀ j : Nat, j ≠ 11 → j ≠ 17 → g1_28 j = g j := fun j h11 h17 => (k_32 j h11 h17).trans (un_23 j h11 h17)
      have := tsk_ge f n (tsk f n j)
      have := tsk_le (f := f) (n := n) (j := tsk f n j) (by omega)
      have := twe_ge f n (tsk f n (tsk f n j))
      have := twe_le (f := f) (n := n) (j := tsk f n (tsk f n j)) (by omega)
      have := twe_ge f n (tsk f n j)
      have := twe_le (f := f) (n := n) (j := tsk f n j) (by omega)
      refine W_toi (y := tat f n (tsk f n (tsk f n j))) k_29 ?_
      refine lv_bipush (v := 61) hx hb dX9_kinds_172 (by decide) ?_
      refine lv_icmp_ne (tgt := 212) hx hb dX9_kinds_174 (by decide) (fun c_44 => ?_) (fun c_44 => ?_)
      · have hD_ : kDef f n p2 (tsk f n (j)) = some (tsk f n (tsk f n (j)), 0) := by unfold kDef; rw [pif_neg (show ¬ (tat f n (tsk f n (tsk f n (j))) = 61 ∧ p2 ≠ 6) from fun h => c_44 h.1)]
        refine lv_aload_n hx hb dX9_kinds_212 rfl (lv_at hl 0 rfl) ?_
        refine va_get (D := (dC, dI)) (ci := 11) (v := .int 0) (C := RX9) (T := TX9) (N := 60) hx hb hts iRX9 hown hK hP 5 rfl rfl 13 (by decide) (hts (.fieldLink RX9 135 "RecordBenchModel" "bad" "I") (by decide +kernel)) (fun _ h9 => h9) ((mo_get g1_28 (by decide)).trans (congrArg some w_40)) dX9_kinds_213 ?_
        refine lv_if_ne (tgt := 225) hx hb dX9_kinds_216 (by decide) (fun c_45 => absurd (by decide) c_45) (fun c_45 => ?_)
        refine lv_aload_n hx hb dX9_kinds_219 rfl (lv_at hl 0 rfl) ?_
        refine lv_bipush (v := 59) hx hb dX9_kinds_220 (by decide) ?_
        have hFc := va_free (wc := [(h0, .inr (11, mo g1_28)), (a9, .inl (cT, 400, .inl f))]) hD hS hA [5, 6] rfl
        refine va_callv (va_runV (As := [.int 59]) (rest := []) ⟨hx, hb, hml, hown, hts⟩ (c_X9_sign l dC dI h0 g1_28 a9 cT f (tsk f n (tsk f n j)) n 0 w_38 k_30 w_39 w_40 (by omega) (by omega) 59 (by decide) H.size) (cwV 1 hts gp_X9_kinds_X9_sign_191 rfl rfl rfl (by decide +kernel) ⟨Nat.le_of_ble_eq_true rfl, Nat.le_of_ble_eq_true rfl⟩) ⟨Pr.blind _, va_recv hK hP (ci := 11) (q0 := 5) rfl rfl, fun U hU hW => ⟨rfl, Pr.at (hP.sub (ws' := [(h0, .inr (11, mo g1_28)), (a9, .inl (cT, 400, .inl f))]) [5, 6] rfl) (hK.sub (tys' := [(cT, .int)]) [0] rfl) (hD.sub (ws' := [(h0, .inr (11, mo g1_28)), (a9, .inl (cT, 400, .inl f))]) [5, 6] (by decide) rfl) hN hZ RO.nil hS hFc hU hW⟩⟩ rfl rfl hl.1 rfl (lv_room (Nat.le_of_ble_eq_true rfl)) dX9_kinds_222 ⟨Nat.le_of_ble_eq_true rfl, Nat.le_of_ble_eq_true rfl⟩) hS (fun q _ h => hFc q h) hFc (fun u t H1 locs ht hvm hw_47 hB hz1 hk1 hS => ?_)
        obtain ⟨g1_48, j1_49, b1_50⟩ := u
        obtain ⟨hP, hD, hK⟩ := Bq.join (wr := [(a0, .inl (cZ, 8, .inl tl)), (a2, .inl (cG, 248, .inl f_2)), (a3, .inl (cI, 248, .inl f_1)), (a6, .inl (cP, 248, .inr (.inl f_3))), (a7, .inl (cX, 2976, .inl fX))]) hB ht hvm hP hD [5, 6] [0, 1, 2, 3, 4] rfl rfl (by decide) (by decide) hk1 hFc hK
        generalize H1 = H at hP hS ⊢
        have hP : va_P (dC, dI) vwCl [(a0, .inl (cZ, 8, .inl tl)), (a2, .inl (cG, 248, .inl f_2)), (a3, .inl (cI, 248, .inl f_1)), (a6, .inl (cP, 248, .inr (.inl f_3))), (a7, .inl (cX, 2976, .inl fX)), (h0, .inr (11, mo g1_48)), (a9, .inl (cT, 400, .inl f))] H := hP
        have hD : va_D A [(a0, .inl (cZ, 8, .inl tl)), (a2, .inl (cG, 248, .inl f_2)), (a3, .inl (cI, 248, .inl f_1)), (a6, .inl (cP, 248, .inr (.inl f_3))), (a7, .inl (cX, 2976, .inl fX)), (h0, .inr (11, mo g1_48)), (a9, .inl (cT, 400, .inl f))] := hD
        have hK : va_K (dC, dI) vwCl [(cT, .int), (cZ, .boolean), (cG, .int), (cI, .int), (cP, .long), (cX, .int)] s := hK
        try dsimp only at hw_47
        obtain ⟨k_51, k_52, k_53, k_54, k_55⟩ := hw_47
        have w_56 : g1_48 0 = .ref a0 := (k_55 0 (by decide) (by decide) (by decide) (by decide)).trans w_33
        have w_57 : g1_48 2 = .ref a2 := (k_55 2 (by decide) (by decide) (by decide) (by decide)).trans w_34
        have w_58 : g1_48 3 = .ref a3 := (k_55 3 (by decide) (by decide) (by decide) (by decide)).trans w_35
        have w_59 : g1_48 6 = .ref a6 := (k_55 6 (by decide) (by decide) (by decide) (by decide)).trans w_36
        have w_60 : g1_48 7 = .ref a7 := (k_55 7 (by decide) (by decide) (by decide) (by decide)).trans w_37
        have w_61 : g1_48 9 = .ref a9 := (k_55 9 (by decide) (by decide) (by decide) (by decide)).trans w_38
        have w_62 : g1_48 12 = .int (nI n) := (k_55 12 (by decide) (by decide) (by decide) (by decide)).trans w_39
        have w_63 : g1_48 18 = .int (nI e0) := (k_55 18 (by decide) (by decide) (by decide) (by decide)).trans w_41
        have w_64 : g1_48 26 = .long iw := (k_55 26 (by decide) (by decide) (by decide) (by decide)).trans w_42
        have un_65 : ∀ j : Nat, j ≠ 11 → j ≠ 13 → j ≠ 14 → j ≠ 17 → g1_48 j = g j := fun j h11 h13 h14 h17 => (k_55 j h11 h13 h14 h17).trans (un_43 j h11 h17)
        have := tsk_ge f n (tsk f n (tsk f n j))
        have := tsk_le (f := f) (n := n) (j := tsk f n (tsk f n j)) (by omega)
        have := twe_ge f n (tsk f n (tsk f n (tsk f n j)))
        have := twe_le (f := f) (n := n) (j := tsk f n (tsk f n (tsk f n j))) (by omega)
        have := twe_ge f n (tsk f n (tsk f n j))
        have := twe_le (f := f) (n := n) (j := tsk f n (tsk f n j)) (by omega)
        rcases k_51 with ⟨hay_66, hby_66, rfl, rfl⟩ | ⟨hay_66, rfl, hcy_66⟩
        · have hP9 := hP.sub (ws' := [(h0, .inr (11, mo g1_48)), (a9, .inl (cT, 400, .inl f)), (a0, .inl (cZ, 8, .inl tl)), (a2, .inl (cG, 248, .inl f_2)), (a3, .inl (cI, 248, .inl f_1)), (a6, .inl (cP, 248, .inr (.inl f_3))), (a7, .inl (cX, 2976, .inl fX))]) [5, 6, 0, 1, 2, 3, 4] rfl
          have hD9 := hD.sub (ws' := [(h0, .inr (11, mo g1_48)), (a9, .inl (cT, 400, .inl f)), (a0, .inl (cZ, 8, .inl tl)), (a2, .inl (cG, 248, .inl f_2)), (a3, .inl (cI, 248, .inl f_1)), (a6, .inl (cP, 248, .inr (.inl f_3))), (a7, .inl (cX, 2976, .inl fX))]) [5, 6, 0, 1, 2, 3, 4] (by decide) rfl
          have hK9 := hK.sub (tys' := []) [] rfl
          exact W.vret hx hb hr (fun t ht hW => ⟨⟨(g1_48, (tsk f n (tsk f n (tsk f n j)) + 1), 0, (nI e0), e0, f_1, f_2, f_3, fX, (-1), 0, 0), rfl, ⟨Or.inl ⟨by simp only [kAll, hR, hI, hD_, Option.bind_some, Option.bind_none]; rw [pif_pos hay_66], rfl, by omega, ⟨rfl, by omega⟩, vf_1, vf_2, vf_3⟩, (fun x hx => frf_1 x hx), (fun x hx => frf_2 x hx), (fun x hx => frf_3 x hx), (fun _ _ => rfl), k_52, k_53, w_63, (fun j h11 h13 h14 h17 h18 => un_65 j h11 h13 h14 h17)⟩, by rw [ht]; exact hP9, va_K.moved hW.alike hK9, hD9⟩, hS.F ht⟩) hS.2.2 dX9_kinds_225
        · have hP9 := hP.sub (ws' := [(h0, .inr (11, mo g1_48)), (a9, .inl (cT, 400, .inl f)), (a0, .inl (cZ, 8, .inl tl)), (a2, .inl (cG, 248, .inl f_2)), (a3, .inl (cI, 248, .inl f_1)), (a6, .inl (cP, 248, .inr (.inl f_3))), (a7, .inl (cX, 2976, .inl fX))]) [5, 6, 0, 1, 2, 3, 4] rfl
          have hD9 := hD.sub (ws' := [(h0, .inr (11, mo g1_48)), (a9, .inl (cT, 400, .inl f)), (a0, .inl (cZ, 8, .inl tl)), (a2, .inl (cG, 248, .inl f_2)), (a3, .inl (cI, 248, .inl f_1)), (a6, .inl (cP, 248, .inr (.inl f_3))), (a7, .inl (cX, 2976, .inl fX))]) [5, 6, 0, 1, 2, 3, 4] (by decide) rfl
          have hK9 := hK.sub (tys' := []) [] rfl
          exact W.vret hx hb hr (fun t ht hW => ⟨⟨(g1_48, (tsk f n (tsk f n (tsk f n j))), b1_50, (nI e0), e0, f_1, f_2, f_3, fX, (-1), 0, 0), rfl, ⟨Or.inr ⟨by simp only [kAll, hR, hI, hD_, Option.bind_some, Option.bind_none]; rw [pif_neg hay_66], hcy_66⟩, (fun x hx => frf_1 x hx), (fun x hx => frf_2 x hx), (fun x hx => frf_3 x hx), (fun _ _ => rfl), k_52, k_53, w_63, (fun j h11 h13 h14 h17 h18 => un_65 j h11 h13 h14 h17)⟩, by rw [ht]; exact hP9, va_K.moved hW.alike hK9, hD9⟩, hS.F ht⟩) hS.2.2 dX9_kinds_225
      · refine lv_iload_n hx hb dX9_kinds_177 rfl (lv_at hl 3 rfl) ?_
        refine lv_bipush (v := 6) hx hb dX9_kinds_178 (by decide) ?_
        refine lv_icmp_eq (tgt := 212) hx hb dX9_kinds_180 (by decide) (fun c_67 => absurd c_67 (c_4)) (fun c_67 => ?_)
        have hq61 := tat_in c_44 (by decide)
        refine lv_aload_n hx hb dX9_kinds_183 rfl (lv_at hl 0 rfl) ?_
        refine lv_dup hx hb dX9_kinds_184 rfl ?_
        refine va_get (D := (dC, dI)) (ci := 11) (v := .int (nI (tsk f n (tsk f n j)))) (C := RX9) (T := TX9) (N := 60) hx hb hts iRX9 hown hK hP 5 rfl rfl 11 (by decide) (hts (.fieldLink RX9 141 "RecordBenchModel" "at" "I") (by decide +kernel)) (fun _ h9 => h9) ((mo_get g1_28 (by decide)).trans (congrArg some k_30)) dX9_kinds_185 ?_
        refine lv_iconst (v := 1) hx hb dX9_kinds_188 (by decide) ?_
        refine lv_iadd hx hb dX9_kinds_189 ?_
        refine W_toi (y := nI ((tsk f n (tsk f n j)) + 1)) (nI_1 _) ?_
        refine va_put (D := (dC, dI)) (ci := 11) (v := .int (nI ((tsk f n (tsk f n j)) + 1))) (ty := .int) (C := RX9) (T := TX9) (N := 60) hx hb hts iRX9 tyX9 tyX9_ok nmX9 hown hK hP hD hS 5 rfl rfl 11 (by decide) (hts (.fieldLink RX9 141 "RecordBenchModel" "at" "I") (by decide +kernel)) (fun _ h9 => h9) rfl (by decide +kernel) rfl rfl (by rw [mo_len]; decide) dX9_kinds_190 (fun H locs hP hD hS => ?_)
        obtain ⟨g_68, eg_68⟩ : ∃ y, y = va_up g1_28 11 (.int (nI ((tsk f n (tsk f n j)) + 1))) := ⟨_, rfl⟩
        have hP : va_P (dC, dI) vwCl [(a0, .inl (cZ, 8, .inl tl)), (a2, .inl (cG, 248, .inl f_2)), (a3, .inl (cI, 248, .inl f_1)), (a6, .inl (cP, 248, .inr (.inl f_3))), (a7, .inl (cX, 2976, .inl fX)), (h0, .inr (11, mo g_68)), (a9, .inl (cT, 400, .inl f))] H := by rw [eg_68, ← mo_set g1_28 (by decide)]; exact hP
        have hD : va_D A [(a0, .inl (cZ, 8, .inl tl)), (a2, .inl (cG, 248, .inl f_2)), (a3, .inl (cI, 248, .inl f_1)), (a6, .inl (cP, 248, .inr (.inl f_3))), (a7, .inl (cX, 2976, .inl fX)), (h0, .inr (11, mo g_68)), (a9, .inl (cT, 400, .inl f))] := by rw [eg_68, ← mo_set g1_28 (by decide)]; exact hD
        have g_68h17 : g_68 17 = .int (nI (tsk f n (tsk f n j))) := by rw [eg_68, va_up_ne _ _ (by decide)]; exact k_31
        have g_68h0 : g_68 0 = .ref a0 := by rw [eg_68, va_up_ne _ _ (by decide)]; exact w_33
        have g_68h2 : g_68 2 = .ref a2 := by rw [eg_68, va_up_ne _ _ (by decide)]; exact w_34
        have g_68h3 : g_68 3 = .ref a3 := by rw [eg_68, va_up_ne _ _ (by decide)]; exact w_35
        have g_68h6 : g_68 6 = .ref a6 := by rw [eg_68, va_up_ne _ _ (by decide)]; exact w_36
        have g_68h7 : g_68 7 = .ref a7 := by rw [eg_68, va_up_ne _ _ (by decide)]; exact w_37
        have g_68h9 : g_68 9 = .ref a9 := by rw [eg_68, va_up_ne _ _ (by decide)]; exact w_38
        have g_68h12 : g_68 12 = .int (nI n) := by rw [eg_68, va_up_ne _ _ (by decide)]; exact w_39
        have g_68h13 : g_68 13 = .int 0 := by rw [eg_68, va_up_ne _ _ (by decide)]; exact w_40
        have g_68h18 : g_68 18 = .int (nI e0) := by rw [eg_68, va_up_ne _ _ (by decide)]; exact w_41
        have g_68h26 : g_68 26 = .long iw := by rw [eg_68, va_up_ne _ _ (by decide)]; exact w_42
        have g_68h11 : g_68 11 = .int (nI ((tsk f n (tsk f n j)) + 1)) := by rw [eg_68, va_up_self]
        have ung_68 : ∀ j : Nat, j ≠ 11 → j ≠ 17 → g_68 j = g j := fun j h11 h17 => by rw [eg_68, va_up_ne _ _ h11]; exact un_43 j h11 h17
        refine lv_iload_n hx hb dX9_kinds_193 rfl (lv_at hl 3 rfl) ?_
        refine lv_iconst (v := 5) hx hb dX9_kinds_194 (by decide) ?_
        refine lv_icmp_ne (tgt := 206) hx hb dX9_kinds_195 (by decide) (fun c_69 => ?_) (fun c_69 => ?_)
        · refine lv_aload_n hx hb dX9_kinds_206 rfl (lv_at hl 0 rfl) ?_
          refine lv_iload_n hx hb dX9_kinds_207 rfl (lv_at hl 2 rfl) ?_
          refine lv_iload_n hx hb dX9_kinds_208 rfl (lv_at hl 3 rfl) ?_
          have hFc := va_free (wc := [(h0, .inr (11, mo g_68)), (a9, .inl (cT, 400, .inl f)), (a6, .inl (cP, 248, .inr (.inl f_3)))]) hD hS hA [5, 6, 3] rfl
          refine va_callv (va_runV (As := [.int (nI F), .int p2]) (rest := []) ⟨hx, hb, hml, hown, hts⟩ (c_X9_value l dC dI h0 g_68 a9 cT f ((tsk f n (tsk f n j)) + 1) n 0 (nI e0) a6 cP f_3 g_68h6 g_68h9 g_68h11 g_68h12 g_68h13 g_68h18 (by omega) (by omega) (nI F) p2 (vp_in_nI hF (by decide)) H.size) (cwV 2 hts gp_X9_kinds_X9_value_212 rfl rfl rfl (by decide +kernel) ⟨Nat.le_of_ble_eq_true rfl, Nat.le_of_ble_eq_true rfl⟩) ⟨Pr.blind _, va_recv hK hP (ci := 11) (q0 := 5) rfl rfl, fun U hU hW => ⟨rfl, Pr.at (hP.sub (ws' := [(h0, .inr (11, mo g_68)), (a9, .inl (cT, 400, .inl f)), (a6, .inl (cP, 248, .inr (.inl f_3)))]) [5, 6, 3] rfl) (hK.sub (tys' := [(cT, .int), (cP, .long)]) [0, 4] rfl) (hD.sub (ws' := [(h0, .inr (11, mo g_68)), (a9, .inl (cT, 400, .inl f)), (a6, .inl (cP, 248, .inr (.inl f_3)))]) [5, 6, 3] (by decide) rfl) hN hZ RO.nil hS hFc hU hW⟩⟩ rfl rfl hl.1 rfl (lv_room (Nat.le_of_ble_eq_true rfl)) dX9_kinds_209 ⟨Nat.le_of_ble_eq_true rfl, Nat.le_of_ble_eq_true rfl⟩) hS (fun q _ h => hFc q h) hFc (fun u t H1 locs ht hvm hw_71 hB hz1 hk1 hS => ?_)
          obtain ⟨g1_72, j1_73, b1_74, x1_75, fP1_76⟩ := u
          obtain ⟨hP, hD, hK⟩ := Bq.join (wr := [(a0, .inl (cZ, 8, .inl tl)), (a2, .inl (cG, 248, .inl f_2)), (a3, .inl (cI, 248, .inl f_1)), (a7, .inl (cX, 2976, .inl fX))]) hB ht hvm hP hD [5, 6, 3] [0, 1, 2, 4] rfl rfl (by decide) (by decide) hk1 hFc hK
          generalize H1 = H at hP hS ⊢
          have hP : va_P (dC, dI) vwCl [(a0, .inl (cZ, 8, .inl tl)), (a2, .inl (cG, 248, .inl f_2)), (a3, .inl (cI, 248, .inl f_1)), (a7, .inl (cX, 2976, .inl fX)), (h0, .inr (11, mo g1_72)), (a9, .inl (cT, 400, .inl f)), (a6, .inl (cP, 248, .inr (.inl fP1_76)))] H := hP
          have hD : va_D A [(a0, .inl (cZ, 8, .inl tl)), (a2, .inl (cG, 248, .inl f_2)), (a3, .inl (cI, 248, .inl f_1)), (a7, .inl (cX, 2976, .inl fX)), (h0, .inr (11, mo g1_72)), (a9, .inl (cT, 400, .inl f)), (a6, .inl (cP, 248, .inr (.inl fP1_76)))] := hD
          have hK : va_K (dC, dI) vwCl [(cT, .int), (cZ, .boolean), (cG, .int), (cI, .int), (cP, .long), (cX, .int)] s := hK
          try dsimp only at hw_71
          obtain ⟨k_77, k_78, k_79, k_80, k_81⟩ := hw_71
          have w_82 : g1_72 0 = .ref a0 := (k_81 0 (by decide) (by decide) (by decide) (by decide) (by decide)).trans g_68h0
          have w_83 : g1_72 2 = .ref a2 := (k_81 2 (by decide) (by decide) (by decide) (by decide) (by decide)).trans g_68h2
          have w_84 : g1_72 3 = .ref a3 := (k_81 3 (by decide) (by decide) (by decide) (by decide) (by decide)).trans g_68h3
          have w_85 : g1_72 6 = .ref a6 := (k_81 6 (by decide) (by decide) (by decide) (by decide) (by decide)).trans g_68h6
          have w_86 : g1_72 7 = .ref a7 := (k_81 7 (by decide) (by decide) (by decide) (by decide) (by decide)).trans g_68h7
          have w_87 : g1_72 9 = .ref a9 := (k_81 9 (by decide) (by decide) (by decide) (by decide) (by decide)).trans g_68h9
          have w_88 : g1_72 12 = .int (nI n) := (k_81 12 (by decide) (by decide) (by decide) (by decide) (by decide)).trans g_68h12
          have w_89 : g1_72 26 = .long iw := (k_81 26 (by decide) (by decide) (by decide) (by decide) (by decide)).trans g_68h26
          have un_90 : ∀ j : Nat, j ≠ 11 → j ≠ 13 → j ≠ 14 → j ≠ 17 → j ≠ 18 → g1_72 j = g j := fun j h11 h13 h14 h17 h18 => (k_81 j h11 h13 h14 h17 h18).trans (ung_68 j h11 h17)
          have := tsk_ge f n ((tsk f n (tsk f n j)) + 1)
          have := tsk_le (f := f) (n := n) (j := (tsk f n (tsk f n j)) + 1) (by omega)
          have := twe_ge f n (tsk f n ((tsk f n (tsk f n j)) + 1))
          have := twe_le (f := f) (n := n) (j := tsk f n ((tsk f n (tsk f n j)) + 1)) (by omega)
          have := twe_ge f n ((tsk f n (tsk f n j)) + 1)
          have := twe_le (f := f) (n := n) (j := (tsk f n (tsk f n j)) + 1) (by omega)
          have := tfd_ge f n (tsk f n ((tsk f n (tsk f n j)) + 1))
          have := tde_le (f := f) (n := n) (j := tfd f n (tsk f n ((tsk f n (tsk f n j)) + 1))) (tfd_le (by omega))
          have := tde_ge f n (tfd f n (tsk f n ((tsk f n (tsk f n j)) + 1)))
          rcases k_77 with ⟨hay_91, rfl, rfl, rfl, rfl⟩ | ⟨hay_91, hby_91, hcy_91, hdy_91⟩
          · have hD_ : kDef f n p2 (tsk f n (j)) = some (tde f n (tfd f n (tsk f n (tsk f n (tsk f n (j)) + 1))), tvv (tvs f (tfd f n (tsk f n (tsk f n (tsk f n (j)) + 1))) (tde f n (tfd f n (tsk f n (tsk f n (tsk f n (j)) + 1))) - tfd f n (tsk f n (tsk f n (tsk f n (j)) + 1)))) (tsg f n (tsk f n (tsk f n (tsk f n (j)) + 1)))) := by unfold kDef; rw [pif_pos (show tat f n (tsk f n (tsk f n (j))) = 61 ∧ p2 ≠ 6 from ⟨c_44, c_67⟩), pif_neg c_69, pif_pos (show cVal f n p2 (tsk f n (tsk f n (j)) + 1) from hay_91)]
            refine lv_aload_n hx hb dX9_kinds_212 rfl (lv_at hl 0 rfl) ?_
            refine va_get (D := (dC, dI)) (ci := 11) (v := .int 0) (C := RX9) (T := TX9) (N := 60) hx hb hts iRX9 hown hK hP 4 rfl rfl 13 (by decide) (hts (.fieldLink RX9 135 "RecordBenchModel" "bad" "I") (by decide +kernel)) (fun _ h9 => h9) ((mo_get g1_72 (by decide)).trans (congrArg some k_79)) dX9_kinds_213 ?_
            refine lv_if_ne (tgt := 225) hx hb dX9_kinds_216 (by decide) (fun c_92 => absurd (by decide) c_92) (fun c_92 => ?_)
            refine lv_aload_n hx hb dX9_kinds_219 rfl (lv_at hl 0 rfl) ?_
            refine lv_bipush (v := 59) hx hb dX9_kinds_220 (by decide) ?_
            have hFc := va_free (wc := [(h0, .inr (11, mo g1_72)), (a9, .inl (cT, 400, .inl f))]) hD hS hA [4, 5] rfl
            refine va_callv (va_runV (As := [.int 59]) (rest := []) ⟨hx, hb, hml, hown, hts⟩ (c_X9_sign l dC dI h0 g1_72 a9 cT f (tde f n (tfd f n (tsk f n ((tsk f n (tsk f n j)) + 1)))) n 0 w_87 k_78 w_88 k_79 (by omega) (by omega) 59 (by decide) H.size) (cwV 1 hts gp_X9_kinds_X9_sign_191 rfl rfl rfl (by decide +kernel) ⟨Nat.le_of_ble_eq_true rfl, Nat.le_of_ble_eq_true rfl⟩) ⟨Pr.blind _, va_recv hK hP (ci := 11) (q0 := 4) rfl rfl, fun U hU hW => ⟨rfl, Pr.at (hP.sub (ws' := [(h0, .inr (11, mo g1_72)), (a9, .inl (cT, 400, .inl f))]) [4, 5] rfl) (hK.sub (tys' := [(cT, .int)]) [0] rfl) (hD.sub (ws' := [(h0, .inr (11, mo g1_72)), (a9, .inl (cT, 400, .inl f))]) [4, 5] (by decide) rfl) hN hZ RO.nil hS hFc hU hW⟩⟩ rfl rfl hl.1 rfl (lv_room (Nat.le_of_ble_eq_true rfl)) dX9_kinds_222 ⟨Nat.le_of_ble_eq_true rfl, Nat.le_of_ble_eq_true rfl⟩) hS (fun q _ h => hFc q h) hFc (fun u t H1 locs ht hvm hw_94 hB hz1 hk1 hS => ?_)
            obtain ⟨g1_95, j1_96, b1_97⟩ := u
            obtain ⟨hP, hD, hK⟩ := Bq.join (wr := [(a0, .inl (cZ, 8, .inl tl)), (a2, .inl (cG, 248, .inl f_2)), (a3, .inl (cI, 248, .inl f_1)), (a7, .inl (cX, 2976, .inl fX)), (a6, .inl (cP, 248, .inr (.inl (vp_updL f_3 (nI F).toNatClampNeg (tvv (tvs f (tfd f n (tsk f n ((tsk f n (tsk f n j)) + 1))) (tde f n (tfd f n (tsk f n ((tsk f n (tsk f n j)) + 1))) - tfd f n (tsk f n ((tsk f n (tsk f n j)) + 1)))) (tsg f n (tsk f n ((tsk f n (tsk f n j)) + 1))))))))]) hB ht hvm hP hD [4, 5] [0, 1, 2, 3, 6] rfl rfl (by decide) (by decide) hk1 hFc hK
            generalize H1 = H at hP hS ⊢
            have hP : va_P (dC, dI) vwCl [(a0, .inl (cZ, 8, .inl tl)), (a2, .inl (cG, 248, .inl f_2)), (a3, .inl (cI, 248, .inl f_1)), (a7, .inl (cX, 2976, .inl fX)), (a6, .inl (cP, 248, .inr (.inl (vp_updL f_3 (nI F).toNatClampNeg (tvv (tvs f (tfd f n (tsk f n ((tsk f n (tsk f n j)) + 1))) (tde f n (tfd f n (tsk f n ((tsk f n (tsk f n j)) + 1))) - tfd f n (tsk f n ((tsk f n (tsk f n j)) + 1)))) (tsg f n (tsk f n ((tsk f n (tsk f n j)) + 1)))))))), (h0, .inr (11, mo g1_95)), (a9, .inl (cT, 400, .inl f))] H := hP
            have hD : va_D A [(a0, .inl (cZ, 8, .inl tl)), (a2, .inl (cG, 248, .inl f_2)), (a3, .inl (cI, 248, .inl f_1)), (a7, .inl (cX, 2976, .inl fX)), (a6, .inl (cP, 248, .inr (.inl (vp_updL f_3 (nI F).toNatClampNeg (tvv (tvs f (tfd f n (tsk f n ((tsk f n (tsk f n j)) + 1))) (tde f n (tfd f n (tsk f n ((tsk f n (tsk f n j)) + 1))) - tfd f n (tsk f n ((tsk f n (tsk f n j)) + 1)))) (tsg f n (tsk f n ((tsk f n (tsk f n j)) + 1)))))))), (h0, .inr (11, mo g1_95)), (a9, .inl (cT, 400, .inl f))] := hD
            have hK : va_K (dC, dI) vwCl [(cT, .int), (cZ, .boolean), (cG, .int), (cI, .int), (cP, .long), (cX, .int)] s := hK
            try dsimp only at hw_94
            obtain ⟨k_98, k_99, k_100, k_101, k_102⟩ := hw_94
            have w_103 : g1_95 18 = .int (nI (tde f n (tfd f n (tsk f n ((tsk f n (tsk f n j)) + 1))))) := (k_102 18 (by decide) (by decide) (by decide) (by decide)).trans k_80
            have w_104 : g1_95 0 = .ref a0 := (k_102 0 (by decide) (by decide) (by decide) (by decide)).trans w_82
            have w_105 : g1_95 2 = .ref a2 := (k_102 2 (by decide) (by decide) (by decide) (by decide)).trans w_83
            have w_106 : g1_95 3 = .ref a3 := (k_102 3 (by decide) (by decide) (by decide) (by decide)).trans w_84
            have w_107 : g1_95 6 = .ref a6 := (k_102 6 (by decide) (by decide) (by decide) (by decide)).trans w_85
            have w_108 : g1_95 7 = .ref a7 := (k_102 7 (by decide) (by decide) (by decide) (by decide)).trans w_86
            have w_109 : g1_95 9 = .ref a9 := (k_102 9 (by decide) (by decide) (by decide) (by decide)).trans w_87
            have w_110 : g1_95 12 = .int (nI n) := (k_102 12 (by decide) (by decide) (by decide) (by decide)).trans w_88
            have w_111 : g1_95 26 = .long iw := (k_102 26 (by decide) (by decide) (by decide) (by decide)).trans w_89
            have un_112 : ∀ j : Nat, j ≠ 11 → j ≠ 13 → j ≠ 14 → j ≠ 17 → j ≠ 18 → g1_95 j = g j := fun j h11 h13 h14 h17 h18 => (k_102 j h11 h13 h14 h17).trans (un_90 j h11 h13 h14 h17 h18)
            have := tsk_ge f n (tde f n (tfd f n (tsk f n ((tsk f n (tsk f n j)) + 1))))
            have := tsk_le (f := f) (n := n) (j := tde f n (tfd f n (tsk f n ((tsk f n (tsk f n j)) + 1)))) (by omega)
            have := twe_ge f n (tsk f n (tde f n (tfd f n (tsk f n ((tsk f n (tsk f n j)) + 1)))))
            have := twe_le (f := f) (n := n) (j := tsk f n (tde f n (tfd f n (tsk f n ((tsk f n (tsk f n j)) + 1))))) (by omega)
            have := twe_ge f n (tde f n (tfd f n (tsk f n ((tsk f n (tsk f n j)) + 1))))
            have := twe_le (f := f) (n := n) (j := tde f n (tfd f n (tsk f n ((tsk f n (tsk f n j)) + 1)))) (by omega)
            rcases k_98 with ⟨hay_113, hby_113, rfl, rfl⟩ | ⟨hay_113, rfl, hcy_113⟩
            · have hP9 := hP.sub (ws' := [(h0, .inr (11, mo g1_95)), (a9, .inl (cT, 400, .inl f)), (a0, .inl (cZ, 8, .inl tl)), (a2, .inl (cG, 248, .inl f_2)), (a3, .inl (cI, 248, .inl f_1)), (a6, .inl (cP, 248, .inr (.inl (vp_updL f_3 (nI F).toNatClampNeg (tvv (tvs f (tfd f n (tsk f n ((tsk f n (tsk f n j)) + 1))) (tde f n (tfd f n (tsk f n ((tsk f n (tsk f n j)) + 1))) - tfd f n (tsk f n ((tsk f n (tsk f n j)) + 1)))) (tsg f n (tsk f n ((tsk f n (tsk f n j)) + 1)))))))), (a7, .inl (cX, 2976, .inl fX))]) [5, 6, 0, 1, 2, 4, 3] rfl
              have hD9 := hD.sub (ws' := [(h0, .inr (11, mo g1_95)), (a9, .inl (cT, 400, .inl f)), (a0, .inl (cZ, 8, .inl tl)), (a2, .inl (cG, 248, .inl f_2)), (a3, .inl (cI, 248, .inl f_1)), (a6, .inl (cP, 248, .inr (.inl (vp_updL f_3 (nI F).toNatClampNeg (tvv (tvs f (tfd f n (tsk f n ((tsk f n (tsk f n j)) + 1))) (tde f n (tfd f n (tsk f n ((tsk f n (tsk f n j)) + 1))) - tfd f n (tsk f n ((tsk f n (tsk f n j)) + 1)))) (tsg f n (tsk f n ((tsk f n (tsk f n j)) + 1)))))))), (a7, .inl (cX, 2976, .inl fX))]) [5, 6, 0, 1, 2, 4, 3] (by decide) rfl
              have hK9 := hK.sub (tys' := []) [] rfl
              exact W.vret hx hb hr (fun t ht hW => ⟨⟨(g1_95, (tsk f n (tde f n (tfd f n (tsk f n ((tsk f n (tsk f n j)) + 1)))) + 1), 0, (nI (tde f n (tfd f n (tsk f n ((tsk f n (tsk f n j)) + 1))))), (tde f n (tfd f n (tsk f n ((tsk f n (tsk f n j)) + 1)))), f_1, f_2, (vp_updL f_3 (nI F).toNatClampNeg (tvv (tvs f (tfd f n (tsk f n ((tsk f n (tsk f n j)) + 1))) (tde f n (tfd f n (tsk f n ((tsk f n (tsk f n j)) + 1))) - tfd f n (tsk f n ((tsk f n (tsk f n j)) + 1)))) (tsg f n (tsk f n ((tsk f n (tsk f n j)) + 1))))), fX, (-1), 0, (tvv (tvs f (tfd f n (tsk f n (tsk f n (tsk f n (j)) + 1))) (tde f n (tfd f n (tsk f n (tsk f n (tsk f n (j)) + 1))) - tfd f n (tsk f n (tsk f n (tsk f n (j)) + 1)))) (tsg f n (tsk f n (tsk f n (tsk f n (j)) + 1))))), rfl, ⟨Or.inl ⟨by simp only [kAll, hR, hI, hD_, Option.bind_some, Option.bind_none]; rw [pif_pos hay_113], rfl, by omega, ⟨rfl, by omega⟩, vf_1, vf_2, (by rw [hcF, pk_uLs])⟩, (fun x hx => frf_1 x hx), (fun x hx => frf_2 x hx), (fun x hx => by rw [pk_uLn (by rw [hcF]; exact hx)]; exact frf_3 x hx), (fun _ _ => rfl), k_99, k_100, w_103, (fun j h11 h13 h14 h17 h18 => un_112 j h11 h13 h14 h17 h18)⟩, by rw [ht]; exact hP9, va_K.moved hW.alike hK9, hD9⟩, hS.F ht⟩) hS.2.2 dX9_kinds_225
            · have hP9 := hP.sub (ws' := [(h0, .inr (11, mo g1_95)), (a9, .inl (cT, 400, .inl f)), (a0, .inl (cZ, 8, .inl tl)), (a2, .inl (cG, 248, .inl f_2)), (a3, .inl (cI, 248, .inl f_1)), (a6, .inl (cP, 248, .inr (.inl (vp_updL f_3 (nI F).toNatClampNeg (tvv (tvs f (tfd f n (tsk f n ((tsk f n (tsk f n j)) + 1))) (tde f n (tfd f n (tsk f n ((tsk f n (tsk f n j)) + 1))) - tfd f n (tsk f n ((tsk f n (tsk f n j)) + 1)))) (tsg f n (tsk f n ((tsk f n (tsk f n j)) + 1)))))))), (a7, .inl (cX, 2976, .inl fX))]) [5, 6, 0, 1, 2, 4, 3] rfl
              have hD9 := hD.sub (ws' := [(h0, .inr (11, mo g1_95)), (a9, .inl (cT, 400, .inl f)), (a0, .inl (cZ, 8, .inl tl)), (a2, .inl (cG, 248, .inl f_2)), (a3, .inl (cI, 248, .inl f_1)), (a6, .inl (cP, 248, .inr (.inl (vp_updL f_3 (nI F).toNatClampNeg (tvv (tvs f (tfd f n (tsk f n ((tsk f n (tsk f n j)) + 1))) (tde f n (tfd f n (tsk f n ((tsk f n (tsk f n j)) + 1))) - tfd f n (tsk f n ((tsk f n (tsk f n j)) + 1)))) (tsg f n (tsk f n ((tsk f n (tsk f n j)) + 1)))))))), (a7, .inl (cX, 2976, .inl fX))]) [5, 6, 0, 1, 2, 4, 3] (by decide) rfl
              have hK9 := hK.sub (tys' := []) [] rfl
              exact W.vret hx hb hr (fun t ht hW => ⟨⟨(g1_95, (tsk f n (tde f n (tfd f n (tsk f n ((tsk f n (tsk f n j)) + 1))))), b1_97, (nI (tde f n (tfd f n (tsk f n ((tsk f n (tsk f n j)) + 1))))), (tde f n (tfd f n (tsk f n ((tsk f n (tsk f n j)) + 1)))), f_1, f_2, (vp_updL f_3 (nI F).toNatClampNeg (tvv (tvs f (tfd f n (tsk f n ((tsk f n (tsk f n j)) + 1))) (tde f n (tfd f n (tsk f n ((tsk f n (tsk f n j)) + 1))) - tfd f n (tsk f n ((tsk f n (tsk f n j)) + 1)))) (tsg f n (tsk f n ((tsk f n (tsk f n j)) + 1))))), fX, (-1), 0, (tvv (tvs f (tfd f n (tsk f n (tsk f n (tsk f n (j)) + 1))) (tde f n (tfd f n (tsk f n (tsk f n (tsk f n (j)) + 1))) - tfd f n (tsk f n (tsk f n (tsk f n (j)) + 1)))) (tsg f n (tsk f n (tsk f n (tsk f n (j)) + 1))))), rfl, ⟨Or.inr ⟨by simp only [kAll, hR, hI, hD_, Option.bind_some, Option.bind_none]; rw [pif_neg hay_113], hcy_113⟩, (fun x hx => frf_1 x hx), (fun x hx => frf_2 x hx), (fun x hx => by rw [pk_uLn (by rw [hcF]; exact hx)]; exact frf_3 x hx), (fun _ _ => rfl), k_99, k_100, w_103, (fun j h11 h13 h14 h17 h18 => un_112 j h11 h13 h14 h17 h18)⟩, by rw [ht]; exact hP9, va_K.moved hW.alike hK9, hD9⟩, hS.F ht⟩) hS.2.2 dX9_kinds_225
          · have hD_ : kDef f n p2 (tsk f n (j)) = none := by unfold kDef; rw [pif_pos (show tat f n (tsk f n (tsk f n (j))) = 61 ∧ p2 ≠ 6 from ⟨c_44, c_67⟩), pif_neg c_69, pif_neg (show ¬ cVal f n p2 (tsk f n (tsk f n (j)) + 1) from hay_91)]
            refine lv_aload_n hx hb dX9_kinds_212 rfl (lv_at hl 0 rfl) ?_
            refine va_get (D := (dC, dI)) (ci := 11) (v := .int b1_74) (C := RX9) (T := TX9) (N := 60) hx hb hts iRX9 hown hK hP 4 rfl rfl 13 (by decide) (hts (.fieldLink RX9 135 "RecordBenchModel" "bad" "I") (by decide +kernel)) (fun _ h9 => h9) ((mo_get g1_72 (by decide)).trans (congrArg some k_79)) dX9_kinds_213 ?_
            refine lv_if_ne (tgt := 225) hx hb dX9_kinds_216 (by decide) (fun c_114 => ?_) (fun c_114 => absurd c_114 hcy_91)
            have hP9 := hP.sub (ws' := [(h0, .inr (11, mo g1_72)), (a9, .inl (cT, 400, .inl f)), (a0, .inl (cZ, 8, .inl tl)), (a2, .inl (cG, 248, .inl f_2)), (a3, .inl (cI, 248, .inl f_1)), (a6, .inl (cP, 248, .inr (.inl fP1_76))), (a7, .inl (cX, 2976, .inl fX))]) [4, 5, 0, 1, 2, 6, 3] rfl
            have hD9 := hD.sub (ws' := [(h0, .inr (11, mo g1_72)), (a9, .inl (cT, 400, .inl f)), (a0, .inl (cZ, 8, .inl tl)), (a2, .inl (cG, 248, .inl f_2)), (a3, .inl (cI, 248, .inl f_1)), (a6, .inl (cP, 248, .inr (.inl fP1_76))), (a7, .inl (cX, 2976, .inl fX))]) [4, 5, 0, 1, 2, 6, 3] (by decide) rfl
            have hK9 := hK.sub (tys' := []) [] rfl
            exact W.vret hx hb hr (fun t ht hW => ⟨⟨(g1_72, j1_73, b1_74, x1_75, 0, f_1, f_2, fP1_76, fX, 0, 0, 0), rfl, ⟨Or.inr ⟨by simp only [kAll, hR, hI, hD_, Option.bind_some, Option.bind_none], hcy_91⟩, (fun x hx => frf_1 x hx), (fun x hx => frf_2 x hx), (fun x hx => (hdy_91 x (by rw [hcF]; exact hx)).trans (frf_3 x hx)), (fun _ _ => rfl), k_78, k_79, k_80, (fun j h11 h13 h14 h17 h18 => un_90 j h11 h13 h14 h17 h18)⟩, by rw [ht]; exact hP9, va_K.moved hW.alike hK9, hD9⟩, hS.F ht⟩) hS.2.2 dX9_kinds_225
        · refine lv_aload_n hx hb dX9_kinds_198 rfl (lv_at hl 0 rfl) ?_
          refine lv_iload_n hx hb dX9_kinds_199 rfl (lv_at hl 2 rfl) ?_
          have hFc := va_free (wc := [(h0, .inr (11, mo g_68)), (a9, .inl (cT, 400, .inl f)), (a6, .inl (cP, 248, .inr (.inl f_3))), (a7, .inl (cX, 2976, .inl fX))]) hD hS hA [5, 6, 3, 4] rfl
          refine va_callv (va_runV (As := [.int (nI F)]) (rest := []) ⟨hx, hb, hml, hown, hts⟩ (c_X9_textValue l dC dI h0 g_68 a9 cT f ((tsk f n (tsk f n j)) + 1) n a6 cP f_3 a7 cX fX F g_68h6 g_68h7 g_68h9 g_68h11 g_68h12 g_68h13 (by omega) (by omega) (hF) H.size) (cwV 1 hts gp_X9_kinds_X9_textValue_209 rfl rfl rfl (by decide +kernel) ⟨Nat.le_of_ble_eq_true rfl, Nat.le_of_ble_eq_true rfl⟩) ⟨Pr.blind _, va_recv hK hP (ci := 11) (q0 := 5) rfl rfl, fun U hU hW => ⟨rfl, Pr.at (hP.sub (ws' := [(h0, .inr (11, mo g_68)), (a9, .inl (cT, 400, .inl f)), (a6, .inl (cP, 248, .inr (.inl f_3))), (a7, .inl (cX, 2976, .inl fX))]) [5, 6, 3, 4] rfl) (hK.sub (tys' := [(cT, .int), (cP, .long), (cX, .int)]) [0, 4, 5] rfl) (hD.sub (ws' := [(h0, .inr (11, mo g_68)), (a9, .inl (cT, 400, .inl f)), (a6, .inl (cP, 248, .inr (.inl f_3))), (a7, .inl (cX, 2976, .inl fX))]) [5, 6, 3, 4] (by decide) rfl) hN hZ RO.nil hS hFc hU hW⟩⟩ rfl rfl hl.1 rfl (lv_room (Nat.le_of_ble_eq_true rfl)) dX9_kinds_200 ⟨Nat.le_of_ble_eq_true rfl, Nat.le_of_ble_eq_true rfl⟩) hS (fun q _ h => hFc q h) hFc (fun u t H1 locs ht hvm hw_116 hB hz1 hk1 hS => ?_)
          obtain ⟨g1_117, j1_118, b1_119, fX1_120, fP1_121⟩ := u
          obtain ⟨hP, hD, hK⟩ := Bq.join (wr := [(a0, .inl (cZ, 8, .inl tl)), (a2, .inl (cG, 248, .inl f_2)), (a3, .inl (cI, 248, .inl f_1))]) hB ht hvm hP hD [5, 6, 3, 4] [0, 1, 2] rfl rfl (by decide) (by decide) hk1 hFc hK
          generalize H1 = H at hP hS ⊢
          have hP : va_P (dC, dI) vwCl [(a0, .inl (cZ, 8, .inl tl)), (a2, .inl (cG, 248, .inl f_2)), (a3, .inl (cI, 248, .inl f_1)), (h0, .inr (11, mo g1_117)), (a9, .inl (cT, 400, .inl f)), (a6, .inl (cP, 248, .inr (.inl fP1_121))), (a7, .inl (cX, 2976, .inl fX1_120))] H := hP
          have hD : va_D A [(a0, .inl (cZ, 8, .inl tl)), (a2, .inl (cG, 248, .inl f_2)), (a3, .inl (cI, 248, .inl f_1)), (h0, .inr (11, mo g1_117)), (a9, .inl (cT, 400, .inl f)), (a6, .inl (cP, 248, .inr (.inl fP1_121))), (a7, .inl (cX, 2976, .inl fX1_120))] := hD
          have hK : va_K (dC, dI) vwCl [(cT, .int), (cZ, .boolean), (cG, .int), (cI, .int), (cP, .long), (cX, .int)] s := hK
          try dsimp only at hw_116
          obtain ⟨k_122, k_123, k_124, k_125⟩ := hw_116
          have w_126 : g1_117 0 = .ref a0 := (k_125 0 (by decide) (by decide) (by decide) (by decide)).trans g_68h0
          have w_127 : g1_117 2 = .ref a2 := (k_125 2 (by decide) (by decide) (by decide) (by decide)).trans g_68h2
          have w_128 : g1_117 3 = .ref a3 := (k_125 3 (by decide) (by decide) (by decide) (by decide)).trans g_68h3
          have w_129 : g1_117 6 = .ref a6 := (k_125 6 (by decide) (by decide) (by decide) (by decide)).trans g_68h6
          have w_130 : g1_117 7 = .ref a7 := (k_125 7 (by decide) (by decide) (by decide) (by decide)).trans g_68h7
          have w_131 : g1_117 9 = .ref a9 := (k_125 9 (by decide) (by decide) (by decide) (by decide)).trans g_68h9
          have w_132 : g1_117 12 = .int (nI n) := (k_125 12 (by decide) (by decide) (by decide) (by decide)).trans g_68h12
          have w_133 : g1_117 18 = .int (nI e0) := (k_125 18 (by decide) (by decide) (by decide) (by decide)).trans g_68h18
          have w_134 : g1_117 26 = .long iw := (k_125 26 (by decide) (by decide) (by decide) (by decide)).trans g_68h26
          have un_135 : ∀ j : Nat, j ≠ 11 → j ≠ 13 → j ≠ 14 → j ≠ 17 → g1_117 j = g j := fun j h11 h13 h14 h17 => (k_125 j h11 h13 h14 h17).trans (ung_68 j h11 h17)
          have := tsk_ge f n ((tsk f n (tsk f n j)) + 1)
          have := tsk_le (f := f) (n := n) (j := (tsk f n (tsk f n j)) + 1) (by omega)
          have := twe_ge f n (tsk f n ((tsk f n (tsk f n j)) + 1))
          have := twe_le (f := f) (n := n) (j := tsk f n ((tsk f n (tsk f n j)) + 1)) (by omega)
          have := twe_ge f n ((tsk f n (tsk f n j)) + 1)
          have := twe_le (f := f) (n := n) (j := (tsk f n (tsk f n j)) + 1) (by omega)
          have := tqe_ge f n (tsk f n ((tsk f n (tsk f n j)) + 1) + 1)
          rcases k_122 with ⟨hay_136, rfl, rfl, hby_136, hcy_136, rfl⟩ | ⟨hay_136, hcy_136, hdy_136, hey_136⟩
          · refine lv_goto (tgt := 212) hx hb dX9_kinds_203 (by decide) ?_
            have hD_ : kDef f n p2 (tsk f n (j)) = some (tqe f n (tsk f n (tsk f n (tsk f n (j)) + 1) + 1) + 1, (nI (tqe f n (tsk f n (tsk f n (tsk f n (j)) + 1) + 1) - (tsk f n (tsk f n (tsk f n (j)) + 1) + 1))).toInt64) := by unfold kDef; rw [pif_pos (show tat f n (tsk f n (tsk f n (j))) = 61 ∧ p2 ≠ 6 from ⟨c_44, c_67⟩), pif_pos c_69, pif_pos (show cTxt f n (tsk f n (tsk f n (j)) + 1) from hay_136)]
            refine lv_aload_n hx hb dX9_kinds_212 rfl (lv_at hl 0 rfl) ?_
            refine va_get (D := (dC, dI)) (ci := 11) (v := .int 0) (C := RX9) (T := TX9) (N := 60) hx hb hts iRX9 hown hK hP 3 rfl rfl 13 (by decide) (hts (.fieldLink RX9 135 "RecordBenchModel" "bad" "I") (by decide +kernel)) (fun _ h9 => h9) ((mo_get g1_117 (by decide)).trans (congrArg some k_124)) dX9_kinds_213 ?_
            refine lv_if_ne (tgt := 225) hx hb dX9_kinds_216 (by decide) (fun c_137 => absurd (by decide) c_137) (fun c_137 => ?_)
            refine lv_aload_n hx hb dX9_kinds_219 rfl (lv_at hl 0 rfl) ?_
            refine lv_bipush (v := 59) hx hb dX9_kinds_220 (by decide) ?_
            have hFc := va_free (wc := [(h0, .inr (11, mo g1_117)), (a9, .inl (cT, 400, .inl f))]) hD hS hA [3, 4] rfl
            refine va_callv (va_runV (As := [.int 59]) (rest := []) ⟨hx, hb, hml, hown, hts⟩ (c_X9_sign l dC dI h0 g1_117 a9 cT f (tqe f n (tsk f n ((tsk f n (tsk f n j)) + 1) + 1) + 1) n 0 w_131 k_123 w_132 k_124 (by omega) (by omega) 59 (by decide) H.size) (cwV 1 hts gp_X9_kinds_X9_sign_191 rfl rfl rfl (by decide +kernel) ⟨Nat.le_of_ble_eq_true rfl, Nat.le_of_ble_eq_true rfl⟩) ⟨Pr.blind _, va_recv hK hP (ci := 11) (q0 := 3) rfl rfl, fun U hU hW => ⟨rfl, Pr.at (hP.sub (ws' := [(h0, .inr (11, mo g1_117)), (a9, .inl (cT, 400, .inl f))]) [3, 4] rfl) (hK.sub (tys' := [(cT, .int)]) [0] rfl) (hD.sub (ws' := [(h0, .inr (11, mo g1_117)), (a9, .inl (cT, 400, .inl f))]) [3, 4] (by decide) rfl) hN hZ RO.nil hS hFc hU hW⟩⟩ rfl rfl hl.1 rfl (lv_room (Nat.le_of_ble_eq_true rfl)) dX9_kinds_222 ⟨Nat.le_of_ble_eq_true rfl, Nat.le_of_ble_eq_true rfl⟩) hS (fun q _ h => hFc q h) hFc (fun u t H1 locs ht hvm hw_139 hB hz1 hk1 hS => ?_)
            obtain ⟨g1_140, j1_141, b1_142⟩ := u
            obtain ⟨hP, hD, hK⟩ := Bq.join (wr := [(a0, .inl (cZ, 8, .inl tl)), (a2, .inl (cG, 248, .inl f_2)), (a3, .inl (cI, 248, .inl f_1)), (a6, .inl (cP, 248, .inr (.inl (vp_updL f_3 (nI F).toNatClampNeg (nI (tqe f n (tsk f n ((tsk f n (tsk f n j)) + 1) + 1) - (tsk f n ((tsk f n (tsk f n j)) + 1) + 1))).toInt64)))), (a7, .inl (cX, 2976, .inl fX1_120))]) hB ht hvm hP hD [3, 4] [0, 1, 2, 5, 6] rfl rfl (by decide) (by decide) hk1 hFc hK
            generalize H1 = H at hP hS ⊢
            have hP : va_P (dC, dI) vwCl [(a0, .inl (cZ, 8, .inl tl)), (a2, .inl (cG, 248, .inl f_2)), (a3, .inl (cI, 248, .inl f_1)), (a6, .inl (cP, 248, .inr (.inl (vp_updL f_3 (nI F).toNatClampNeg (nI (tqe f n (tsk f n ((tsk f n (tsk f n j)) + 1) + 1) - (tsk f n ((tsk f n (tsk f n j)) + 1) + 1))).toInt64)))), (a7, .inl (cX, 2976, .inl fX1_120)), (h0, .inr (11, mo g1_140)), (a9, .inl (cT, 400, .inl f))] H := hP
            have hD : va_D A [(a0, .inl (cZ, 8, .inl tl)), (a2, .inl (cG, 248, .inl f_2)), (a3, .inl (cI, 248, .inl f_1)), (a6, .inl (cP, 248, .inr (.inl (vp_updL f_3 (nI F).toNatClampNeg (nI (tqe f n (tsk f n ((tsk f n (tsk f n j)) + 1) + 1) - (tsk f n ((tsk f n (tsk f n j)) + 1) + 1))).toInt64)))), (a7, .inl (cX, 2976, .inl fX1_120)), (h0, .inr (11, mo g1_140)), (a9, .inl (cT, 400, .inl f))] := hD
            have hK : va_K (dC, dI) vwCl [(cT, .int), (cZ, .boolean), (cG, .int), (cI, .int), (cP, .long), (cX, .int)] s := hK
            try dsimp only at hw_139
            obtain ⟨k_143, k_144, k_145, k_146, k_147⟩ := hw_139
            have w_148 : g1_140 0 = .ref a0 := (k_147 0 (by decide) (by decide) (by decide) (by decide)).trans w_126
            have w_149 : g1_140 2 = .ref a2 := (k_147 2 (by decide) (by decide) (by decide) (by decide)).trans w_127
            have w_150 : g1_140 3 = .ref a3 := (k_147 3 (by decide) (by decide) (by decide) (by decide)).trans w_128
            have w_151 : g1_140 6 = .ref a6 := (k_147 6 (by decide) (by decide) (by decide) (by decide)).trans w_129
            have w_152 : g1_140 7 = .ref a7 := (k_147 7 (by decide) (by decide) (by decide) (by decide)).trans w_130
            have w_153 : g1_140 9 = .ref a9 := (k_147 9 (by decide) (by decide) (by decide) (by decide)).trans w_131
            have w_154 : g1_140 12 = .int (nI n) := (k_147 12 (by decide) (by decide) (by decide) (by decide)).trans w_132
            have w_155 : g1_140 18 = .int (nI e0) := (k_147 18 (by decide) (by decide) (by decide) (by decide)).trans w_133
            have w_156 : g1_140 26 = .long iw := (k_147 26 (by decide) (by decide) (by decide) (by decide)).trans w_134
            have un_157 : ∀ j : Nat, j ≠ 11 → j ≠ 13 → j ≠ 14 → j ≠ 17 → g1_140 j = g j := fun j h11 h13 h14 h17 => (k_147 j h11 h13 h14 h17).trans (un_135 j h11 h13 h14 h17)
            have := tsk_ge f n (tqe f n (tsk f n ((tsk f n (tsk f n j)) + 1) + 1) + 1)
            have := tsk_le (f := f) (n := n) (j := tqe f n (tsk f n ((tsk f n (tsk f n j)) + 1) + 1) + 1) (by omega)
            have := twe_ge f n (tsk f n (tqe f n (tsk f n ((tsk f n (tsk f n j)) + 1) + 1) + 1))
            have := twe_le (f := f) (n := n) (j := tsk f n (tqe f n (tsk f n ((tsk f n (tsk f n j)) + 1) + 1) + 1)) (by omega)
            have := twe_ge f n (tqe f n (tsk f n ((tsk f n (tsk f n j)) + 1) + 1) + 1)
            have := twe_le (f := f) (n := n) (j := tqe f n (tsk f n ((tsk f n (tsk f n j)) + 1) + 1) + 1) (by omega)
            rcases k_143 with ⟨hay_158, hby_158, rfl, rfl⟩ | ⟨hay_158, rfl, hcy_158⟩
            · have hP9 := hP.sub (ws' := [(h0, .inr (11, mo g1_140)), (a9, .inl (cT, 400, .inl f)), (a0, .inl (cZ, 8, .inl tl)), (a2, .inl (cG, 248, .inl f_2)), (a3, .inl (cI, 248, .inl f_1)), (a6, .inl (cP, 248, .inr (.inl (vp_updL f_3 (nI F).toNatClampNeg (nI (tqe f n (tsk f n ((tsk f n (tsk f n j)) + 1) + 1) - (tsk f n ((tsk f n (tsk f n j)) + 1) + 1))).toInt64)))), (a7, .inl (cX, 2976, .inl fX1_120))]) [5, 6, 0, 1, 2, 3, 4] rfl
              have hD9 := hD.sub (ws' := [(h0, .inr (11, mo g1_140)), (a9, .inl (cT, 400, .inl f)), (a0, .inl (cZ, 8, .inl tl)), (a2, .inl (cG, 248, .inl f_2)), (a3, .inl (cI, 248, .inl f_1)), (a6, .inl (cP, 248, .inr (.inl (vp_updL f_3 (nI F).toNatClampNeg (nI (tqe f n (tsk f n ((tsk f n (tsk f n j)) + 1) + 1) - (tsk f n ((tsk f n (tsk f n j)) + 1) + 1))).toInt64)))), (a7, .inl (cX, 2976, .inl fX1_120))]) [5, 6, 0, 1, 2, 3, 4] (by decide) rfl
              have hK9 := hK.sub (tys' := []) [] rfl
              exact W.vret hx hb hr (fun t ht hW => ⟨⟨(g1_140, (tsk f n (tqe f n (tsk f n ((tsk f n (tsk f n j)) + 1) + 1) + 1) + 1), 0, (nI e0), e0, f_1, f_2, (vp_updL f_3 (nI F).toNatClampNeg (nI (tqe f n (tsk f n ((tsk f n (tsk f n j)) + 1) + 1) - (tsk f n ((tsk f n (tsk f n j)) + 1) + 1))).toInt64), fX1_120, (-1), 0, ((nI (tqe f n (tsk f n (tsk f n (tsk f n (j)) + 1) + 1) - (tsk f n (tsk f n (tsk f n (j)) + 1) + 1))).toInt64)), rfl, ⟨Or.inl ⟨by simp only [kAll, hR, hI, hD_, Option.bind_some, Option.bind_none]; rw [pif_pos hay_158], rfl, by omega, ⟨rfl, by omega⟩, vf_1, vf_2, (by rw [hcF, pk_uLs])⟩, (fun x hx => frf_1 x hx), (fun x hx => frf_2 x hx), (fun x hx => by rw [pk_uLn (by rw [hcF]; exact hx)]; exact frf_3 x hx), hcy_136, k_144, k_145, w_155, (fun j h11 h13 h14 h17 h18 => un_157 j h11 h13 h14 h17)⟩, by rw [ht]; exact hP9, va_K.moved hW.alike hK9, hD9⟩, hS.F ht⟩) hS.2.2 dX9_kinds_225
            · have hP9 := hP.sub (ws' := [(h0, .inr (11, mo g1_140)), (a9, .inl (cT, 400, .inl f)), (a0, .inl (cZ, 8, .inl tl)), (a2, .inl (cG, 248, .inl f_2)), (a3, .inl (cI, 248, .inl f_1)), (a6, .inl (cP, 248, .inr (.inl (vp_updL f_3 (nI F).toNatClampNeg (nI (tqe f n (tsk f n ((tsk f n (tsk f n j)) + 1) + 1) - (tsk f n ((tsk f n (tsk f n j)) + 1) + 1))).toInt64)))), (a7, .inl (cX, 2976, .inl fX1_120))]) [5, 6, 0, 1, 2, 3, 4] rfl
              have hD9 := hD.sub (ws' := [(h0, .inr (11, mo g1_140)), (a9, .inl (cT, 400, .inl f)), (a0, .inl (cZ, 8, .inl tl)), (a2, .inl (cG, 248, .inl f_2)), (a3, .inl (cI, 248, .inl f_1)), (a6, .inl (cP, 248, .inr (.inl (vp_updL f_3 (nI F).toNatClampNeg (nI (tqe f n (tsk f n ((tsk f n (tsk f n j)) + 1) + 1) - (tsk f n ((tsk f n (tsk f n j)) + 1) + 1))).toInt64)))), (a7, .inl (cX, 2976, .inl fX1_120))]) [5, 6, 0, 1, 2, 3, 4] (by decide) rfl
              have hK9 := hK.sub (tys' := []) [] rfl
              exact W.vret hx hb hr (fun t ht hW => ⟨⟨(g1_140, (tsk f n (tqe f n (tsk f n ((tsk f n (tsk f n j)) + 1) + 1) + 1)), b1_142, (nI e0), e0, f_1, f_2, (vp_updL f_3 (nI F).toNatClampNeg (nI (tqe f n (tsk f n ((tsk f n (tsk f n j)) + 1) + 1) - (tsk f n ((tsk f n (tsk f n j)) + 1) + 1))).toInt64), fX1_120, (-1), 0, ((nI (tqe f n (tsk f n (tsk f n (tsk f n (j)) + 1) + 1) - (tsk f n (tsk f n (tsk f n (j)) + 1) + 1))).toInt64)), rfl, ⟨Or.inr ⟨by simp only [kAll, hR, hI, hD_, Option.bind_some, Option.bind_none]; rw [pif_neg hay_158], hcy_158⟩, (fun x hx => frf_1 x hx), (fun x hx => frf_2 x hx), (fun x hx => by rw [pk_uLn (by rw [hcF]; exact hx)]; exact frf_3 x hx), hcy_136, k_144, k_145, w_155, (fun j h11 h13 h14 h17 h18 => un_157 j h11 h13 h14 h17)⟩, by rw [ht]; exact hP9, va_K.moved hW.alike hK9, hD9⟩, hS.F ht⟩) hS.2.2 dX9_kinds_225
          · refine lv_goto (tgt := 212) hx hb dX9_kinds_203 (by decide) ?_
            have hD_ : kDef f n p2 (tsk f n (j)) = none := by unfold kDef; rw [pif_pos (show tat f n (tsk f n (tsk f n (j))) = 61 ∧ p2 ≠ 6 from ⟨c_44, c_67⟩), pif_pos c_69, pif_neg (show ¬ cTxt f n (tsk f n (tsk f n (j)) + 1) from hay_136)]
            refine lv_aload_n hx hb dX9_kinds_212 rfl (lv_at hl 0 rfl) ?_
            refine va_get (D := (dC, dI)) (ci := 11) (v := .int b1_119) (C := RX9) (T := TX9) (N := 60) hx hb hts iRX9 hown hK hP 3 rfl rfl 13 (by decide) (hts (.fieldLink RX9 135 "RecordBenchModel" "bad" "I") (by decide +kernel)) (fun _ h9 => h9) ((mo_get g1_117 (by decide)).trans (congrArg some k_124)) dX9_kinds_213 ?_
            refine lv_if_ne (tgt := 225) hx hb dX9_kinds_216 (by decide) (fun c_159 => ?_) (fun c_159 => absurd c_159 hcy_136)
            have hP9 := hP.sub (ws' := [(h0, .inr (11, mo g1_117)), (a9, .inl (cT, 400, .inl f)), (a0, .inl (cZ, 8, .inl tl)), (a2, .inl (cG, 248, .inl f_2)), (a3, .inl (cI, 248, .inl f_1)), (a6, .inl (cP, 248, .inr (.inl fP1_121))), (a7, .inl (cX, 2976, .inl fX1_120))]) [3, 4, 0, 1, 2, 5, 6] rfl
            have hD9 := hD.sub (ws' := [(h0, .inr (11, mo g1_117)), (a9, .inl (cT, 400, .inl f)), (a0, .inl (cZ, 8, .inl tl)), (a2, .inl (cG, 248, .inl f_2)), (a3, .inl (cI, 248, .inl f_1)), (a6, .inl (cP, 248, .inr (.inl fP1_121))), (a7, .inl (cX, 2976, .inl fX1_120))]) [3, 4, 0, 1, 2, 5, 6] (by decide) rfl
            have hK9 := hK.sub (tys' := []) [] rfl
            exact W.vret hx hb hr (fun t ht hW => ⟨⟨(g1_117, j1_118, b1_119, (nI e0), e0, f_1, f_2, fP1_121, fX1_120, 0, 0, 0), rfl, ⟨Or.inr ⟨by simp only [kAll, hR, hI, hD_, Option.bind_some, Option.bind_none], hcy_136⟩, (fun x hx => frf_1 x hx), (fun x hx => frf_2 x hx), (fun x hx => (hey_136 x (by rw [hcF]; exact hx)).trans (frf_3 x hx)), hdy_136, k_123, k_124, w_133, (fun j h11 h13 h14 h17 h18 => un_135 j h11 h13 h14 h17)⟩, by rw [ht]; exact hP9, va_K.moved hW.alike hK9, hD9⟩, hS.F ht⟩) hS.2.2 dX9_kinds_225
    · refine lv_aload_n hx hb dX9_kinds_100 rfl (lv_at hl 0 rfl) ?_
      have hFc := va_free (wc := [(h0, .inr (11, mo g1_8)), (a9, .inl (cT, 400, .inl f))]) hD hS hA [5, 6] rfl
      refine va_callv (va_runV (As := []) (rest := []) ⟨hx, hb, hml, hown, hts⟩ (c_X9_takes l dC dI h0 g1_8 a9 cT f (tsk f n j) n 0 (nI e0) w_18 k_10 w_19 w_20 w_21 (by omega) (by omega) H.size) (cwV 0 hts gp_X9_kinds_X9_takes_188 rfl rfl rfl (by decide +kernel) ⟨Nat.le_of_ble_eq_true rfl, Nat.le_of_ble_eq_true rfl⟩) ⟨Pr.blind _, va_recv hK hP (ci := 11) (q0 := 5) rfl rfl, fun U hU hW => ⟨rfl, Pr.at (hP.sub (ws' := [(h0, .inr (11, mo g1_8)), (a9, .inl (cT, 400, .inl f))]) [5, 6] rfl) (hK.sub (tys' := [(cT, .int)]) [0] rfl) (hD.sub (ws' := [(h0, .inr (11, mo g1_8)), (a9, .inl (cT, 400, .inl f))]) [5, 6] (by decide) rfl) hN hZ RO.nil hS hFc hU hW⟩⟩ rfl rfl hl.1 rfl (lv_room (Nat.le_of_ble_eq_true rfl)) dX9_kinds_101 ⟨Nat.le_of_ble_eq_true rfl, Nat.le_of_ble_eq_true rfl⟩) hS (fun q _ h => hFc q h) hFc (fun u t H1 locs ht hvm hw_161 hB hz1 hk1 hS => ?_)
      obtain ⟨g1_162, b1_163⟩ := u
      obtain ⟨hP, hD, hK⟩ := Bq.join (wr := [(a0, .inl (cZ, 8, .inl tl)), (a2, .inl (cG, 248, .inl f_2)), (a3, .inl (cI, 248, .inl f_1)), (a6, .inl (cP, 248, .inr (.inl f_3))), (a7, .inl (cX, 2976, .inl fX))]) hB ht hvm hP hD [5, 6] [0, 1, 2, 3, 4] rfl rfl (by decide) (by decide) hk1 hFc hK
      generalize H1 = H at hP hS ⊢
      have hP : va_P (dC, dI) vwCl [(a0, .inl (cZ, 8, .inl tl)), (a2, .inl (cG, 248, .inl f_2)), (a3, .inl (cI, 248, .inl f_1)), (a6, .inl (cP, 248, .inr (.inl f_3))), (a7, .inl (cX, 2976, .inl fX)), (h0, .inr (11, mo g1_162)), (a9, .inl (cT, 400, .inl f))] H := hP
      have hD : va_D A [(a0, .inl (cZ, 8, .inl tl)), (a2, .inl (cG, 248, .inl f_2)), (a3, .inl (cI, 248, .inl f_1)), (a6, .inl (cP, 248, .inr (.inl f_3))), (a7, .inl (cX, 2976, .inl fX)), (h0, .inr (11, mo g1_162)), (a9, .inl (cT, 400, .inl f))] := hD
      have hK : va_K (dC, dI) vwCl [(cT, .int), (cZ, .boolean), (cG, .int), (cI, .int), (cP, .long), (cX, .int)] s := hK
      try dsimp only at hw_161
      obtain ⟨k_164, k_165, k_166, k_167, k_168⟩ := hw_161
      have w_169 : g1_162 17 = .int (nI (tsk f n j)) := (k_168 17 (by decide) (by decide) (by decide) (by decide)).trans k_11
      have w_170 : g1_162 0 = .ref a0 := (k_168 0 (by decide) (by decide) (by decide) (by decide)).trans w_13
      have w_171 : g1_162 2 = .ref a2 := (k_168 2 (by decide) (by decide) (by decide) (by decide)).trans w_14
      have w_172 : g1_162 3 = .ref a3 := (k_168 3 (by decide) (by decide) (by decide) (by decide)).trans w_15
      have w_173 : g1_162 6 = .ref a6 := (k_168 6 (by decide) (by decide) (by decide) (by decide)).trans w_16
      have w_174 : g1_162 7 = .ref a7 := (k_168 7 (by decide) (by decide) (by decide) (by decide)).trans w_17
      have w_175 : g1_162 9 = .ref a9 := (k_168 9 (by decide) (by decide) (by decide) (by decide)).trans w_18
      have w_176 : g1_162 12 = .int (nI n) := (k_168 12 (by decide) (by decide) (by decide) (by decide)).trans w_19
      have w_177 : g1_162 26 = .long iw := (k_168 26 (by decide) (by decide) (by decide) (by decide)).trans w_22
      have un_178 : ∀ j : Nat, j ≠ 11 → j ≠ 13 → j ≠ 14 → j ≠ 17 → j ≠ 18 → g1_162 j = g j := fun j h11 h13 h14 h17 h18 => (k_168 j h11 h13 h14 h18).trans (un_23 j h11 h17)
      have := tsk_ge f n (tsk f n j)
      have := tsk_le (f := f) (n := n) (j := tsk f n j) (by omega)
      have := twe_ge f n (tsk f n (tsk f n j))
      have := twe_le (f := f) (n := n) (j := tsk f n (tsk f n j)) (by omega)
      have := twe_ge f n (tsk f n j)
      have := twe_le (f := f) (n := n) (j := tsk f n j) (by omega)
      rcases k_164 with ⟨hay_179, rfl⟩ | ⟨hay_179, hcy_179⟩
      · refine lv_aload_n hx hb dX9_kinds_104 rfl (lv_at hl 0 rfl) ?_
        refine va_get (D := (dC, dI)) (ci := 11) (v := .int 0) (C := RX9) (T := TX9) (N := 60) hx hb hts iRX9 hown hK hP 5 rfl rfl 13 (by decide) (hts (.fieldLink RX9 135 "RecordBenchModel" "bad" "I") (by decide +kernel)) (fun _ h9 => h9) ((mo_get g1_162 (by decide)).trans (congrArg some k_166)) dX9_kinds_105 ?_
        refine lv_if_ne (tgt := 121) hx hb dX9_kinds_108 (by decide) (fun c_180 => absurd (by decide) c_180) (fun c_180 => ?_)
        refine lv_aload_n hx hb dX9_kinds_111 rfl (lv_at hl 0 rfl) ?_
        refine va_get (D := (dC, dI)) (ci := 11) (v := .ref a2) (C := RX9) (T := TX9) (N := 60) hx hb hts iRX9 hown hK hP 5 rfl rfl 2 (by decide) (hts (.fieldLink RX9 17 "RecordBenchModel" "group" "[I") (by decide +kernel)) (fun _ h9 => h9) ((mo_get g1_162 (by decide)).trans (congrArg some w_171)) dX9_kinds_112 ?_
        refine lv_iload_n hx hb dX9_kinds_115 rfl (lv_at hl 2 rfl) ?_
        refine lv_aload_n hx hb dX9_kinds_116 rfl (lv_at hl 0 rfl) ?_
        have hFc := va_free (wc := [(h0, .inr (11, mo g1_162)), (a9, .inl (cT, 400, .inl f))]) hD hS hA [5, 6] rfl
        refine va_calli (va_runV (As := []) (rest := [.int (nI F), .ref a2]) ⟨hx, hb, hml, hown, hts⟩ (c_X9_digit l dC dI h0 g1_162 a9 cT f (twe f n (tsk f n j)) n 0 (nI (twe f n (tsk f n j))) w_175 k_165 w_176 k_166 k_167 (by omega) (by omega) H.size) (cwV 0 hts gp_X9_kinds_X9_digit_203 rfl rfl rfl (by decide +kernel) ⟨Nat.le_of_ble_eq_true rfl, Nat.le_of_ble_eq_true rfl⟩) ⟨Pr.blind _, va_recv hK hP (ci := 11) (q0 := 5) rfl rfl, fun U hU hW => ⟨rfl, Pr.at (hP.sub (ws' := [(h0, .inr (11, mo g1_162)), (a9, .inl (cT, 400, .inl f))]) [5, 6] rfl) (hK.sub (tys' := [(cT, .int)]) [0] rfl) (hD.sub (ws' := [(h0, .inr (11, mo g1_162)), (a9, .inl (cT, 400, .inl f))]) [5, 6] (by decide) rfl) hN hZ RO.nil hS hFc hU hW⟩⟩ rfl rfl hl.1 rfl (lv_room (Nat.le_of_ble_eq_true rfl)) dX9_kinds_117 ⟨Nat.le_of_ble_eq_true rfl, Nat.le_of_ble_eq_true rfl⟩) hS (fun q _ h => hFc q h) hFc (fun r_181 u t H1 locs ht hvm hw_182 hB hz1 hk1 hS => ?_)
        obtain ⟨g1_183, j1_184, b1_185, x1_186⟩ := u
        obtain ⟨hP, hD, hK⟩ := Bq.join (wr := [(a0, .inl (cZ, 8, .inl tl)), (a2, .inl (cG, 248, .inl f_2)), (a3, .inl (cI, 248, .inl f_1)), (a6, .inl (cP, 248, .inr (.inl f_3))), (a7, .inl (cX, 2976, .inl fX))]) hB ht hvm hP hD [5, 6] [0, 1, 2, 3, 4] rfl rfl (by decide) (by decide) hk1 hFc hK
        generalize H1 = H at hP hS ⊢
        have hP : va_P (dC, dI) vwCl [(a0, .inl (cZ, 8, .inl tl)), (a2, .inl (cG, 248, .inl f_2)), (a3, .inl (cI, 248, .inl f_1)), (a6, .inl (cP, 248, .inr (.inl f_3))), (a7, .inl (cX, 2976, .inl fX)), (h0, .inr (11, mo g1_183)), (a9, .inl (cT, 400, .inl f))] H := hP
        have hD : va_D A [(a0, .inl (cZ, 8, .inl tl)), (a2, .inl (cG, 248, .inl f_2)), (a3, .inl (cI, 248, .inl f_1)), (a6, .inl (cP, 248, .inr (.inl f_3))), (a7, .inl (cX, 2976, .inl fX)), (h0, .inr (11, mo g1_183)), (a9, .inl (cT, 400, .inl f))] := hD
        have hK : va_K (dC, dI) vwCl [(cT, .int), (cZ, .boolean), (cG, .int), (cI, .int), (cP, .long), (cX, .int)] s := hK
        try dsimp only at hw_182
        obtain ⟨k_187, k_188, k_189, k_190, k_191, k_192⟩ := hw_182
        have w_193 : g1_183 0 = .ref a0 := (k_192 0 (by decide) (by decide) (by decide) (by decide) (by decide)).trans w_170
        have w_194 : g1_183 2 = .ref a2 := (k_192 2 (by decide) (by decide) (by decide) (by decide) (by decide)).trans w_171
        have w_195 : g1_183 3 = .ref a3 := (k_192 3 (by decide) (by decide) (by decide) (by decide) (by decide)).trans w_172
        have w_196 : g1_183 6 = .ref a6 := (k_192 6 (by decide) (by decide) (by decide) (by decide) (by decide)).trans w_173
        have w_197 : g1_183 7 = .ref a7 := (k_192 7 (by decide) (by decide) (by decide) (by decide) (by decide)).trans w_174
        have w_198 : g1_183 9 = .ref a9 := (k_192 9 (by decide) (by decide) (by decide) (by decide) (by decide)).trans w_175
        have w_199 : g1_183 12 = .int (nI n) := (k_192 12 (by decide) (by decide) (by decide) (by decide) (by decide)).trans w_176
        have w_200 : g1_183 26 = .long iw := (k_192 26 (by decide) (by decide) (by decide) (by decide) (by decide)).trans w_177
        have un_201 : ∀ j : Nat, j ≠ 11 → j ≠ 13 → j ≠ 14 → j ≠ 17 → j ≠ 18 → g1_183 j = g j := fun j h11 h13 h14 h17 h18 => (k_192 j h11 h13 h14 h17 h18).trans (un_178 j h11 h13 h14 h17 h18)
        have := tsk_ge f n (twe f n (tsk f n j))
        have := tsk_le (f := f) (n := n) (j := twe f n (tsk f n j)) (by omega)
        have := twe_ge f n (tsk f n (twe f n (tsk f n j)))
        have := twe_le (f := f) (n := n) (j := tsk f n (twe f n (tsk f n j))) (by omega)
        have := twe_ge f n (twe f n (tsk f n j))
        have := twe_le (f := f) (n := n) (j := twe f n (tsk f n j)) (by omega)
        rcases k_187 with ⟨hay_202, hby_202, hdy_202, rfl, rfl, rfl, rfl⟩ | ⟨hay_202, rfl, hcy_202, rfl, rfl⟩
        · refine W.eq (g2 := F0 m 120 ls [.int (tat f n (tsk f n (twe f n (tsk f n j))) - 48), .int (nI F), .ref a2]) rfl ?_
          refine va_iast hx hb hK hP hD hS 1 2 rfl rfl (vp_in_nI hF (by decide)) dX9_kinds_120 (fun H locs hP hD hS => ?_)
          rw [hcF] at hP hD
          obtain ⟨f_203, ef_203⟩ : ∃ y : Nat → Int32, y = upd f_2 F (tat f n (tsk f n (twe f n (tsk f n j))) - 48) := ⟨_, rfl⟩
          have hP : va_P (dC, dI) vwCl [(a0, .inl (cZ, 8, .inl tl)), (a2, .inl (cG, 248, .inl f_203)), (a3, .inl (cI, 248, .inl f_1)), (a6, .inl (cP, 248, .inr (.inl f_3))), (a7, .inl (cX, 2976, .inl fX)), (h0, .inr (11, mo g1_183)), (a9, .inl (cT, 400, .inl f))] H := by rw [ef_203]; exact hP
          have hD : va_D A [(a0, .inl (cZ, 8, .inl tl)), (a2, .inl (cG, 248, .inl f_203)), (a3, .inl (cI, 248, .inl f_1)), (a6, .inl (cP, 248, .inr (.inl f_3))), (a7, .inl (cX, 2976, .inl fX)), (h0, .inr (11, mo g1_183)), (a9, .inl (cT, 400, .inl f))] := by rw [ef_203]; exact hD
          have vf_203 : f_203 F = (tat f n (tsk f n (twe f n (tsk f n j))) - 48) := by rw [ef_203, pk_us]
          have frf_203 : ∀ x : Nat, x ≠ F → f_203 x = fG x := fun x hx => by rw [ef_203, pk_un hx]; exact frf_2 x hx
          refine lv_aload_n hx hb dX9_kinds_121 rfl (lv_at hl 0 rfl) ?_
          refine va_get (D := (dC, dI)) (ci := 11) (v := .int 0) (C := RX9) (T := TX9) (N := 60) hx hb hts iRX9 hown hK hP 5 rfl rfl 13 (by decide) (hts (.fieldLink RX9 135 "RecordBenchModel" "bad" "I") (by decide +kernel)) (fun _ h9 => h9) ((mo_get g1_183 (by decide)).trans (congrArg some k_189)) dX9_kinds_122 ?_
          refine lv_if_ne (tgt := 157) hx hb dX9_kinds_125 (by decide) (fun c_204 => absurd (by decide) c_204) (fun c_204 => ?_)
          refine lv_aload_n hx hb dX9_kinds_128 rfl (lv_at hl 0 rfl) ?_
          refine va_get (D := (dC, dI)) (ci := 11) (v := .ref a2) (C := RX9) (T := TX9) (N := 60) hx hb hts iRX9 hown hK hP 5 rfl rfl 2 (by decide) (hts (.fieldLink RX9 17 "RecordBenchModel" "group" "[I") (by decide +kernel)) (fun _ h9 => h9) ((mo_get g1_183 (by decide)).trans (congrArg some w_194)) dX9_kinds_129 ?_
          refine lv_iload_n hx hb dX9_kinds_132 rfl (lv_at hl 2 rfl) ?_
          refine va_iald hx hb hK hP 1 2 rfl rfl (vp_in_nI hF (by decide)) dX9_kinds_133 ?_
          refine W_toi (y := (tat f n (tsk f n (twe f n (tsk f n j))) - 48)) (by rw [hcF]; exact vf_203) ?_
          refine lv_iconst (v := 1) hx hb dX9_kinds_134 (by decide) ?_
          refine lv_icmp_lt (tgt := 148) hx hb dX9_kinds_135 (by decide) (fun c_205 => ?_) (fun c_205 => ?_)
          · refine lv_aload_n hx hb dX9_kinds_148 rfl (lv_at hl 0 rfl) ?_
            refine lv_iconst (v := 1) hx hb dX9_kinds_149 (by decide) ?_
            refine lv_aload_n hx hb dX9_kinds_150 rfl (lv_at hl 0 rfl) ?_
            refine va_get (D := (dC, dI)) (ci := 11) (v := .int (nI (tsk f n (twe f n (tsk f n j))))) (C := RX9) (T := TX9) (N := 60) hx hb hts iRX9 hown hK hP 5 rfl rfl 17 (by decide) (hts (.fieldLink RX9 147 "RecordBenchModel" "begun" "I") (by decide +kernel)) (fun _ h9 => h9) ((mo_get g1_183 (by decide)).trans (congrArg some k_190)) dX9_kinds_151 ?_
            have hFc := va_free (wc := [(h0, .inr (11, mo g1_183))]) hD hS hA [5] rfl
            refine va_callv (va_runV (As := [.int 1, .int (nI (tsk f n (twe f n (tsk f n j))))]) (rest := []) ⟨hx, hb, hml, hown, hts⟩ (c_X9_fail l dC dI h0 g1_183 0 k_189 1 (nI (tsk f n (twe f n (tsk f n j)))) (by decide) H.size) (cwV 2 hts gp_X9_kinds_X9_fail_154 rfl rfl rfl (by decide +kernel) ⟨Nat.le_of_ble_eq_true rfl, Nat.le_of_ble_eq_true rfl⟩) ⟨Pr.blind _, va_recv hK hP (ci := 11) (q0 := 5) rfl rfl, fun U hU hW => ⟨rfl, Pr.at (hP.sub (ws' := [(h0, .inr (11, mo g1_183))]) [5] rfl) (hK.sub (tys' := []) [] rfl) (hD.sub (ws' := [(h0, .inr (11, mo g1_183))]) [5] (by decide) rfl) hN hZ RO.nil hS hFc hU hW⟩⟩ rfl rfl hl.1 rfl (lv_room (Nat.le_of_ble_eq_true rfl)) dX9_kinds_154 ⟨Nat.le_of_ble_eq_true rfl, Nat.le_of_ble_eq_true rfl⟩) hS (fun q _ h => hFc q h) hFc (fun u t H1 locs ht hvm hw_207 hB hz1 hk1 hS => ?_)
            obtain ⟨g1_208, b1_209⟩ := u
            obtain ⟨hP, hD, hK⟩ := Bq.join (wr := [(a0, .inl (cZ, 8, .inl tl)), (a2, .inl (cG, 248, .inl f_203)), (a3, .inl (cI, 248, .inl f_1)), (a6, .inl (cP, 248, .inr (.inl f_3))), (a7, .inl (cX, 2976, .inl fX)), (a9, .inl (cT, 400, .inl f))]) hB ht hvm hP hD [5] [0, 1, 2, 3, 4, 6] rfl rfl (by decide) (by decide) hk1 hFc hK
            generalize H1 = H at hP hS ⊢
            have hP : va_P (dC, dI) vwCl [(a0, .inl (cZ, 8, .inl tl)), (a2, .inl (cG, 248, .inl f_203)), (a3, .inl (cI, 248, .inl f_1)), (a6, .inl (cP, 248, .inr (.inl f_3))), (a7, .inl (cX, 2976, .inl fX)), (a9, .inl (cT, 400, .inl f)), (h0, .inr (11, mo g1_208))] H := hP
            have hD : va_D A [(a0, .inl (cZ, 8, .inl tl)), (a2, .inl (cG, 248, .inl f_203)), (a3, .inl (cI, 248, .inl f_1)), (a6, .inl (cP, 248, .inr (.inl f_3))), (a7, .inl (cX, 2976, .inl fX)), (a9, .inl (cT, 400, .inl f)), (h0, .inr (11, mo g1_208))] := hD
            have hK : va_K (dC, dI) vwCl [(cT, .int), (cZ, .boolean), (cG, .int), (cI, .int), (cP, .long), (cX, .int)] s := hK
            try dsimp only at hw_207
            obtain ⟨k_210, k_211, k_212⟩ := hw_207
            have w_213 : g1_208 11 = .int (nI (tsk f n (twe f n (tsk f n j)) + 1)) := (k_212 11 (by decide) (by decide)).trans k_188
            have w_214 : g1_208 17 = .int (nI (tsk f n (twe f n (tsk f n j)))) := (k_212 17 (by decide) (by decide)).trans k_190
            have w_215 : g1_208 18 = .int (nI (tsk f n (twe f n (tsk f n j)) + 1)) := (k_212 18 (by decide) (by decide)).trans k_191
            have w_216 : g1_208 0 = .ref a0 := (k_212 0 (by decide) (by decide)).trans w_193
            have w_217 : g1_208 2 = .ref a2 := (k_212 2 (by decide) (by decide)).trans w_194
            have w_218 : g1_208 3 = .ref a3 := (k_212 3 (by decide) (by decide)).trans w_195
            have w_219 : g1_208 6 = .ref a6 := (k_212 6 (by decide) (by decide)).trans w_196
            have w_220 : g1_208 7 = .ref a7 := (k_212 7 (by decide) (by decide)).trans w_197
            have w_221 : g1_208 9 = .ref a9 := (k_212 9 (by decide) (by decide)).trans w_198
            have w_222 : g1_208 12 = .int (nI n) := (k_212 12 (by decide) (by decide)).trans w_199
            have w_223 : g1_208 26 = .long iw := (k_212 26 (by decide) (by decide)).trans w_200
            have un_224 : ∀ j : Nat, j ≠ 11 → j ≠ 13 → j ≠ 14 → j ≠ 17 → j ≠ 18 → g1_208 j = g j := fun j h11 h13 h14 h17 h18 => (k_212 j h13 h14).trans (un_201 j h11 h13 h14 h17 h18)
            refine lv_aload_n hx hb dX9_kinds_157 rfl (lv_at hl 0 rfl) ?_
            have hFc := va_free (wc := [(h0, .inr (11, mo g1_208)), (a9, .inl (cT, 400, .inl f))]) hD hS hA [6, 5] rfl
            refine va_callv (va_runV (As := []) (rest := []) ⟨hx, hb, hml, hown, hts⟩ (c_X9_ends l dC dI h0 g1_208 a9 cT f (tsk f n (twe f n (tsk f n j)) + 1) n b1_209 w_221 w_213 w_222 k_211 (by omega) (by omega) H.size) (cwV 0 hts gp_X9_kinds_X9_ends_206 rfl rfl rfl (by decide +kernel) ⟨Nat.le_of_ble_eq_true rfl, Nat.le_of_ble_eq_true rfl⟩) ⟨Pr.blind _, va_recv hK hP (ci := 11) (q0 := 6) rfl rfl, fun U hU hW => ⟨rfl, Pr.at (hP.sub (ws' := [(h0, .inr (11, mo g1_208)), (a9, .inl (cT, 400, .inl f))]) [6, 5] rfl) (hK.sub (tys' := [(cT, .int)]) [0] rfl) (hD.sub (ws' := [(h0, .inr (11, mo g1_208)), (a9, .inl (cT, 400, .inl f))]) [6, 5] (by decide) rfl) hN hZ RO.nil hS hFc hU hW⟩⟩ rfl rfl hl.1 rfl (lv_room (Nat.le_of_ble_eq_true rfl)) dX9_kinds_158 ⟨Nat.le_of_ble_eq_true rfl, Nat.le_of_ble_eq_true rfl⟩) hS (fun q _ h => hFc q h) hFc (fun u t H1 locs ht hvm hw_226 hB hz1 hk1 hS => ?_)
            obtain ⟨g1_227, b1_228⟩ := u
            obtain ⟨hP, hD, hK⟩ := Bq.join (wr := [(a0, .inl (cZ, 8, .inl tl)), (a2, .inl (cG, 248, .inl f_203)), (a3, .inl (cI, 248, .inl f_1)), (a6, .inl (cP, 248, .inr (.inl f_3))), (a7, .inl (cX, 2976, .inl fX))]) hB ht hvm hP hD [6, 5] [0, 1, 2, 3, 4] rfl rfl (by decide) (by decide) hk1 hFc hK
            generalize H1 = H at hP hS ⊢
            have hP : va_P (dC, dI) vwCl [(a0, .inl (cZ, 8, .inl tl)), (a2, .inl (cG, 248, .inl f_203)), (a3, .inl (cI, 248, .inl f_1)), (a6, .inl (cP, 248, .inr (.inl f_3))), (a7, .inl (cX, 2976, .inl fX)), (h0, .inr (11, mo g1_227)), (a9, .inl (cT, 400, .inl f))] H := hP
            have hD : va_D A [(a0, .inl (cZ, 8, .inl tl)), (a2, .inl (cG, 248, .inl f_203)), (a3, .inl (cI, 248, .inl f_1)), (a6, .inl (cP, 248, .inr (.inl f_3))), (a7, .inl (cX, 2976, .inl fX)), (h0, .inr (11, mo g1_227)), (a9, .inl (cT, 400, .inl f))] := hD
            have hK : va_K (dC, dI) vwCl [(cT, .int), (cZ, .boolean), (cG, .int), (cI, .int), (cP, .long), (cX, .int)] s := hK
            try dsimp only at hw_226
            obtain ⟨k_229, k_230, k_231⟩ := hw_226
            have w_232 : g1_227 11 = .int (nI (tsk f n (twe f n (tsk f n j)) + 1)) := (k_231 11 (by decide) (by decide)).trans w_213
            have w_233 : g1_227 17 = .int (nI (tsk f n (twe f n (tsk f n j)))) := (k_231 17 (by decide) (by decide)).trans w_214
            have w_234 : g1_227 18 = .int (nI (tsk f n (twe f n (tsk f n j)) + 1)) := (k_231 18 (by decide) (by decide)).trans w_215
            have w_235 : g1_227 0 = .ref a0 := (k_231 0 (by decide) (by decide)).trans w_216
            have w_236 : g1_227 2 = .ref a2 := (k_231 2 (by decide) (by decide)).trans w_217
            have w_237 : g1_227 3 = .ref a3 := (k_231 3 (by decide) (by decide)).trans w_218
            have w_238 : g1_227 6 = .ref a6 := (k_231 6 (by decide) (by decide)).trans w_219
            have w_239 : g1_227 7 = .ref a7 := (k_231 7 (by decide) (by decide)).trans w_220
            have w_240 : g1_227 9 = .ref a9 := (k_231 9 (by decide) (by decide)).trans w_221
            have w_241 : g1_227 12 = .int (nI n) := (k_231 12 (by decide) (by decide)).trans w_222
            have w_242 : g1_227 26 = .long iw := (k_231 26 (by decide) (by decide)).trans w_223
            have un_243 : ∀ j : Nat, j ≠ 11 → j ≠ 13 → j ≠ 14 → j ≠ 17 → j ≠ 18 → g1_227 j = g j := fun j h11 h13 h14 h17 h18 => (k_231 j h13 h14).trans (un_224 j h11 h13 h14 h17 h18)
            have := tsk_ge f n (tsk f n (twe f n (tsk f n j)) + 1)
            have := tsk_le (f := f) (n := n) (j := tsk f n (twe f n (tsk f n j)) + 1) (by omega)
            have := twe_ge f n (tsk f n (tsk f n (twe f n (tsk f n j)) + 1))
            have := twe_le (f := f) (n := n) (j := tsk f n (tsk f n (twe f n (tsk f n j)) + 1)) (by omega)
            have := twe_ge f n (tsk f n (twe f n (tsk f n j)) + 1)
            have := twe_le (f := f) (n := n) (j := tsk f n (twe f n (tsk f n j)) + 1) (by omega)
            rcases k_229 with ⟨hay_244, rfl⟩ | ⟨hay_244, hcy_244⟩
            · have hI : kIn f n iw (j) (nI e0) = none := by unfold kIn; rw [pif_pos ((lg_cmp_eq _ _).mp c_24), pif_neg (show ¬ cIn f n (tsk f n (j)) (nI e0) from fun h => h.2.2.1.1 c_205)]
              refine lv_aload_n hx hb dX9_kinds_161 rfl (lv_at hl 0 rfl) ?_
              refine va_get (D := (dC, dI)) (ci := 11) (v := .int b1_209) (C := RX9) (T := TX9) (N := 60) hx hb hts iRX9 hown hK hP 5 rfl rfl 13 (by decide) (hts (.fieldLink RX9 135 "RecordBenchModel" "bad" "I") (by decide +kernel)) (fun _ h9 => h9) ((mo_get g1_227 (by decide)).trans (congrArg some k_230)) dX9_kinds_162 ?_
              refine lv_if_ne (tgt := 212) hx hb dX9_kinds_165 (by decide) (fun c_245 => ?_) (fun c_245 => absurd c_245 k_210)
              refine lv_aload_n hx hb dX9_kinds_212 rfl (lv_at hl 0 rfl) ?_
              refine va_get (D := (dC, dI)) (ci := 11) (v := .int b1_209) (C := RX9) (T := TX9) (N := 60) hx hb hts iRX9 hown hK hP 5 rfl rfl 13 (by decide) (hts (.fieldLink RX9 135 "RecordBenchModel" "bad" "I") (by decide +kernel)) (fun _ h9 => h9) ((mo_get g1_227 (by decide)).trans (congrArg some k_230)) dX9_kinds_213 ?_
              refine lv_if_ne (tgt := 225) hx hb dX9_kinds_216 (by decide) (fun c_246 => ?_) (fun c_246 => absurd c_246 k_210)
              have hP9 := hP.sub (ws' := [(h0, .inr (11, mo g1_227)), (a9, .inl (cT, 400, .inl f)), (a0, .inl (cZ, 8, .inl tl)), (a2, .inl (cG, 248, .inl f_203)), (a3, .inl (cI, 248, .inl f_1)), (a6, .inl (cP, 248, .inr (.inl f_3))), (a7, .inl (cX, 2976, .inl fX))]) [5, 6, 0, 1, 2, 3, 4] rfl
              have hD9 := hD.sub (ws' := [(h0, .inr (11, mo g1_227)), (a9, .inl (cT, 400, .inl f)), (a0, .inl (cZ, 8, .inl tl)), (a2, .inl (cG, 248, .inl f_203)), (a3, .inl (cI, 248, .inl f_1)), (a6, .inl (cP, 248, .inr (.inl f_3))), (a7, .inl (cX, 2976, .inl fX))]) [5, 6, 0, 1, 2, 3, 4] (by decide) rfl
              have hK9 := hK.sub (tys' := []) [] rfl
              exact W.vret hx hb hr (fun t ht hW => ⟨⟨(g1_227, (tsk f n (twe f n (tsk f n j)) + 1), b1_209, (nI (tsk f n (twe f n (tsk f n j)) + 1)), (tsk f n (twe f n (tsk f n j)) + 1), f_1, f_203, f_3, fX, 0, 0, 0), rfl, ⟨Or.inr ⟨by simp only [kAll, hR, hI, Option.bind_some, Option.bind_none], k_210⟩, (fun x hx => frf_1 x hx), (fun x hx => frf_203 x hx), (fun x hx => frf_3 x hx), (fun _ _ => rfl), w_232, k_230, w_234, (fun j h11 h13 h14 h17 h18 => un_243 j h11 h13 h14 h17 h18)⟩, by rw [ht]; exact hP9, va_K.moved hW.alike hK9, hD9⟩, hS.F ht⟩) hS.2.2 dX9_kinds_225
            · have hI : kIn f n iw (j) (nI e0) = none := by unfold kIn; rw [pif_pos ((lg_cmp_eq _ _).mp c_24), pif_neg (show ¬ cIn f n (tsk f n (j)) (nI e0) from fun h => h.2.2.1.1 c_205)]
              refine lv_aload_n hx hb dX9_kinds_161 rfl (lv_at hl 0 rfl) ?_
              refine va_get (D := (dC, dI)) (ci := 11) (v := .int b1_228) (C := RX9) (T := TX9) (N := 60) hx hb hts iRX9 hown hK hP 5 rfl rfl 13 (by decide) (hts (.fieldLink RX9 135 "RecordBenchModel" "bad" "I") (by decide +kernel)) (fun _ h9 => h9) ((mo_get g1_227 (by decide)).trans (congrArg some k_230)) dX9_kinds_162 ?_
              refine lv_if_ne (tgt := 212) hx hb dX9_kinds_165 (by decide) (fun c_247 => ?_) (fun c_247 => absurd c_247 hcy_244)
              refine lv_aload_n hx hb dX9_kinds_212 rfl (lv_at hl 0 rfl) ?_
              refine va_get (D := (dC, dI)) (ci := 11) (v := .int b1_228) (C := RX9) (T := TX9) (N := 60) hx hb hts iRX9 hown hK hP 5 rfl rfl 13 (by decide) (hts (.fieldLink RX9 135 "RecordBenchModel" "bad" "I") (by decide +kernel)) (fun _ h9 => h9) ((mo_get g1_227 (by decide)).trans (congrArg some k_230)) dX9_kinds_213 ?_
              refine lv_if_ne (tgt := 225) hx hb dX9_kinds_216 (by decide) (fun c_248 => ?_) (fun c_248 => absurd c_248 hcy_244)
              have hP9 := hP.sub (ws' := [(h0, .inr (11, mo g1_227)), (a9, .inl (cT, 400, .inl f)), (a0, .inl (cZ, 8, .inl tl)), (a2, .inl (cG, 248, .inl f_203)), (a3, .inl (cI, 248, .inl f_1)), (a6, .inl (cP, 248, .inr (.inl f_3))), (a7, .inl (cX, 2976, .inl fX))]) [5, 6, 0, 1, 2, 3, 4] rfl
              have hD9 := hD.sub (ws' := [(h0, .inr (11, mo g1_227)), (a9, .inl (cT, 400, .inl f)), (a0, .inl (cZ, 8, .inl tl)), (a2, .inl (cG, 248, .inl f_203)), (a3, .inl (cI, 248, .inl f_1)), (a6, .inl (cP, 248, .inr (.inl f_3))), (a7, .inl (cX, 2976, .inl fX))]) [5, 6, 0, 1, 2, 3, 4] (by decide) rfl
              have hK9 := hK.sub (tys' := []) [] rfl
              exact W.vret hx hb hr (fun t ht hW => ⟨⟨(g1_227, (tsk f n (twe f n (tsk f n j)) + 1), b1_228, (nI (tsk f n (twe f n (tsk f n j)) + 1)), (tsk f n (twe f n (tsk f n j)) + 1), f_1, f_203, f_3, fX, 0, 0, 0), rfl, ⟨Or.inr ⟨by simp only [kAll, hR, hI, Option.bind_some, Option.bind_none], hcy_244⟩, (fun x hx => frf_1 x hx), (fun x hx => frf_203 x hx), (fun x hx => frf_3 x hx), (fun _ _ => rfl), w_232, k_230, w_234, (fun j h11 h13 h14 h17 h18 => un_243 j h11 h13 h14 h17 h18)⟩, by rw [ht]; exact hP9, va_K.moved hW.alike hK9, hD9⟩, hS.F ht⟩) hS.2.2 dX9_kinds_225
          · refine lv_aload_n hx hb dX9_kinds_138 rfl (lv_at hl 0 rfl) ?_
            refine va_get (D := (dC, dI)) (ci := 11) (v := .ref a2) (C := RX9) (T := TX9) (N := 60) hx hb hts iRX9 hown hK hP 5 rfl rfl 2 (by decide) (hts (.fieldLink RX9 17 "RecordBenchModel" "group" "[I") (by decide +kernel)) (fun _ h9 => h9) ((mo_get g1_183 (by decide)).trans (congrArg some w_194)) dX9_kinds_139 ?_
            refine lv_iload_n hx hb dX9_kinds_142 rfl (lv_at hl 2 rfl) ?_
            refine va_iald hx hb hK hP 1 2 rfl rfl (vp_in_nI hF (by decide)) dX9_kinds_143 ?_
            refine W_toi (y := (tat f n (tsk f n (twe f n (tsk f n j))) - 48)) (by rw [hcF]; exact vf_203) ?_
            refine lv_iconst (v := 3) hx hb dX9_kinds_144 (by decide) ?_
            refine lv_icmp_le (tgt := 157) hx hb dX9_kinds_145 (by decide) (fun c_249 => ?_) (fun c_249 => ?_)
            · refine lv_aload_n hx hb dX9_kinds_157 rfl (lv_at hl 0 rfl) ?_
              have hFc := va_free (wc := [(h0, .inr (11, mo g1_183)), (a9, .inl (cT, 400, .inl f))]) hD hS hA [5, 6] rfl
              refine va_callv (va_runV (As := []) (rest := []) ⟨hx, hb, hml, hown, hts⟩ (c_X9_ends l dC dI h0 g1_183 a9 cT f (tsk f n (twe f n (tsk f n j)) + 1) n 0 w_198 k_188 w_199 k_189 (by omega) (by omega) H.size) (cwV 0 hts gp_X9_kinds_X9_ends_206 rfl rfl rfl (by decide +kernel) ⟨Nat.le_of_ble_eq_true rfl, Nat.le_of_ble_eq_true rfl⟩) ⟨Pr.blind _, va_recv hK hP (ci := 11) (q0 := 5) rfl rfl, fun U hU hW => ⟨rfl, Pr.at (hP.sub (ws' := [(h0, .inr (11, mo g1_183)), (a9, .inl (cT, 400, .inl f))]) [5, 6] rfl) (hK.sub (tys' := [(cT, .int)]) [0] rfl) (hD.sub (ws' := [(h0, .inr (11, mo g1_183)), (a9, .inl (cT, 400, .inl f))]) [5, 6] (by decide) rfl) hN hZ RO.nil hS hFc hU hW⟩⟩ rfl rfl hl.1 rfl (lv_room (Nat.le_of_ble_eq_true rfl)) dX9_kinds_158 ⟨Nat.le_of_ble_eq_true rfl, Nat.le_of_ble_eq_true rfl⟩) hS (fun q _ h => hFc q h) hFc (fun u t H1 locs ht hvm hw_251 hB hz1 hk1 hS => ?_)
              obtain ⟨g1_252, b1_253⟩ := u
              obtain ⟨hP, hD, hK⟩ := Bq.join (wr := [(a0, .inl (cZ, 8, .inl tl)), (a2, .inl (cG, 248, .inl f_203)), (a3, .inl (cI, 248, .inl f_1)), (a6, .inl (cP, 248, .inr (.inl f_3))), (a7, .inl (cX, 2976, .inl fX))]) hB ht hvm hP hD [5, 6] [0, 1, 2, 3, 4] rfl rfl (by decide) (by decide) hk1 hFc hK
              generalize H1 = H at hP hS ⊢
              have hP : va_P (dC, dI) vwCl [(a0, .inl (cZ, 8, .inl tl)), (a2, .inl (cG, 248, .inl f_203)), (a3, .inl (cI, 248, .inl f_1)), (a6, .inl (cP, 248, .inr (.inl f_3))), (a7, .inl (cX, 2976, .inl fX)), (h0, .inr (11, mo g1_252)), (a9, .inl (cT, 400, .inl f))] H := hP
              have hD : va_D A [(a0, .inl (cZ, 8, .inl tl)), (a2, .inl (cG, 248, .inl f_203)), (a3, .inl (cI, 248, .inl f_1)), (a6, .inl (cP, 248, .inr (.inl f_3))), (a7, .inl (cX, 2976, .inl fX)), (h0, .inr (11, mo g1_252)), (a9, .inl (cT, 400, .inl f))] := hD
              have hK : va_K (dC, dI) vwCl [(cT, .int), (cZ, .boolean), (cG, .int), (cI, .int), (cP, .long), (cX, .int)] s := hK
              try dsimp only at hw_251
              obtain ⟨k_254, k_255, k_256⟩ := hw_251
              have w_257 : g1_252 11 = .int (nI (tsk f n (twe f n (tsk f n j)) + 1)) := (k_256 11 (by decide) (by decide)).trans k_188
              have w_258 : g1_252 17 = .int (nI (tsk f n (twe f n (tsk f n j)))) := (k_256 17 (by decide) (by decide)).trans k_190
              have w_259 : g1_252 18 = .int (nI (tsk f n (twe f n (tsk f n j)) + 1)) := (k_256 18 (by decide) (by decide)).trans k_191
              have w_260 : g1_252 0 = .ref a0 := (k_256 0 (by decide) (by decide)).trans w_193
              have w_261 : g1_252 2 = .ref a2 := (k_256 2 (by decide) (by decide)).trans w_194
              have w_262 : g1_252 3 = .ref a3 := (k_256 3 (by decide) (by decide)).trans w_195
              have w_263 : g1_252 6 = .ref a6 := (k_256 6 (by decide) (by decide)).trans w_196
              have w_264 : g1_252 7 = .ref a7 := (k_256 7 (by decide) (by decide)).trans w_197
              have w_265 : g1_252 9 = .ref a9 := (k_256 9 (by decide) (by decide)).trans w_198
              have w_266 : g1_252 12 = .int (nI n) := (k_256 12 (by decide) (by decide)).trans w_199
              have w_267 : g1_252 26 = .long iw := (k_256 26 (by decide) (by decide)).trans w_200
              have un_268 : ∀ j : Nat, j ≠ 11 → j ≠ 13 → j ≠ 14 → j ≠ 17 → j ≠ 18 → g1_252 j = g j := fun j h11 h13 h14 h17 h18 => (k_256 j h13 h14).trans (un_201 j h11 h13 h14 h17 h18)
              have := tsk_ge f n (tsk f n (twe f n (tsk f n j)) + 1)
              have := tsk_le (f := f) (n := n) (j := tsk f n (twe f n (tsk f n j)) + 1) (by omega)
              have := twe_ge f n (tsk f n (tsk f n (twe f n (tsk f n j)) + 1))
              have := twe_le (f := f) (n := n) (j := tsk f n (tsk f n (twe f n (tsk f n j)) + 1)) (by omega)
              have := twe_ge f n (tsk f n (twe f n (tsk f n j)) + 1)
              have := twe_le (f := f) (n := n) (j := tsk f n (twe f n (tsk f n j)) + 1) (by omega)
              rcases k_254 with ⟨hay_269, rfl⟩ | ⟨hay_269, hcy_269⟩
              · have hI : kIn f n iw (j) (nI e0) = some (tsk f n (twe f n (tsk f n (j))) + 1, nI (tsk f n (twe f n (tsk f n (j))) + 1), tat f n (tsk f n (twe f n (tsk f n (j)))) - 48) := by unfold kIn; rw [pif_pos ((lg_cmp_eq _ _).mp c_24), pif_pos (show cIn f n (tsk f n (j)) (nI e0) from ⟨hay_179, ⟨hay_202, hdy_202⟩, ⟨c_205, c_249⟩, hay_269⟩)]
                refine lv_aload_n hx hb dX9_kinds_161 rfl (lv_at hl 0 rfl) ?_
                refine va_get (D := (dC, dI)) (ci := 11) (v := .int 0) (C := RX9) (T := TX9) (N := 60) hx hb hts iRX9 hown hK hP 5 rfl rfl 13 (by decide) (hts (.fieldLink RX9 135 "RecordBenchModel" "bad" "I") (by decide +kernel)) (fun _ h9 => h9) ((mo_get g1_252 (by decide)).trans (congrArg some k_255)) dX9_kinds_162 ?_
                refine lv_if_ne (tgt := 212) hx hb dX9_kinds_165 (by decide) (fun c_270 => absurd (by decide) c_270) (fun c_270 => ?_)
                refine lv_aload_n hx hb dX9_kinds_168 rfl (lv_at hl 0 rfl) ?_
                have hFc := va_free (wc := [(h0, .inr (11, mo g1_252)), (a9, .inl (cT, 400, .inl f))]) hD hS hA [5, 6] rfl
                refine va_calli (va_runV (As := []) (rest := []) ⟨hx, hb, hml, hown, hts⟩ (c_X9_next l dC dI h0 g1_252 a9 cT f (tsk f n (twe f n (tsk f n j)) + 1) n w_265 w_257 w_266 (by omega) (by omega) H.size) (cwV 0 hts gp_X9_kinds_X9_next_150 rfl rfl rfl (by decide +kernel) ⟨Nat.le_of_ble_eq_true rfl, Nat.le_of_ble_eq_true rfl⟩) ⟨Pr.blind _, va_recv hK hP (ci := 11) (q0 := 5) rfl rfl, fun U hU hW => ⟨rfl, Pr.at (hP.sub (ws' := [(h0, .inr (11, mo g1_252)), (a9, .inl (cT, 400, .inl f))]) [5, 6] rfl) (hK.sub (tys' := [(cT, .int)]) [0] rfl) (hD.sub (ws' := [(h0, .inr (11, mo g1_252)), (a9, .inl (cT, 400, .inl f))]) [5, 6] (by decide) rfl) hN hZ RO.nil hS hFc hU hW⟩⟩ rfl rfl hl.1 rfl (lv_room (Nat.le_of_ble_eq_true rfl)) dX9_kinds_169 ⟨Nat.le_of_ble_eq_true rfl, Nat.le_of_ble_eq_true rfl⟩) hS (fun q _ h => hFc q h) hFc (fun r_271 u t H1 locs ht hvm hw_272 hB hz1 hk1 hS => ?_)
                obtain ⟨g1_273, rfl⟩ : ∃ z, z = u := ⟨_, rfl⟩
                obtain ⟨hP, hD, hK⟩ := Bq.join (wr := [(a0, .inl (cZ, 8, .inl tl)), (a2, .inl (cG, 248, .inl f_203)), (a3, .inl (cI, 248, .inl f_1)), (a6, .inl (cP, 248, .inr (.inl f_3))), (a7, .inl (cX, 2976, .inl fX))]) hB ht hvm hP hD [5, 6] [0, 1, 2, 3, 4] rfl rfl (by decide) (by decide) hk1 hFc hK
                generalize H1 = H at hP hS ⊢
                have hP : va_P (dC, dI) vwCl [(a0, .inl (cZ, 8, .inl tl)), (a2, .inl (cG, 248, .inl f_203)), (a3, .inl (cI, 248, .inl f_1)), (a6, .inl (cP, 248, .inr (.inl f_3))), (a7, .inl (cX, 2976, .inl fX)), (h0, .inr (11, mo g1_273)), (a9, .inl (cT, 400, .inl f))] H := hP
                have hD : va_D A [(a0, .inl (cZ, 8, .inl tl)), (a2, .inl (cG, 248, .inl f_203)), (a3, .inl (cI, 248, .inl f_1)), (a6, .inl (cP, 248, .inr (.inl f_3))), (a7, .inl (cX, 2976, .inl fX)), (h0, .inr (11, mo g1_273)), (a9, .inl (cT, 400, .inl f))] := hD
                have hK : va_K (dC, dI) vwCl [(cT, .int), (cZ, .boolean), (cG, .int), (cI, .int), (cP, .long), (cX, .int)] s := hK
                try dsimp only at hw_272
                obtain ⟨k_274, k_275, k_276, k_277⟩ := hw_272
                have w_278 : g1_273 13 = .int 0 := (k_277 13 (by decide) (by decide)).trans k_255
                have w_279 : g1_273 18 = .int (nI (tsk f n (twe f n (tsk f n j)) + 1)) := (k_277 18 (by decide) (by decide)).trans w_259
                have w_280 : g1_273 0 = .ref a0 := (k_277 0 (by decide) (by decide)).trans w_260
                have w_281 : g1_273 2 = .ref a2 := (k_277 2 (by decide) (by decide)).trans w_261
                have w_282 : g1_273 3 = .ref a3 := (k_277 3 (by decide) (by decide)).trans w_262
                have w_283 : g1_273 6 = .ref a6 := (k_277 6 (by decide) (by decide)).trans w_263
                have w_284 : g1_273 7 = .ref a7 := (k_277 7 (by decide) (by decide)).trans w_264
                have w_285 : g1_273 9 = .ref a9 := (k_277 9 (by decide) (by decide)).trans w_265
                have w_286 : g1_273 12 = .int (nI n) := (k_277 12 (by decide) (by decide)).trans w_266
                have w_287 : g1_273 26 = .long iw := (k_277 26 (by decide) (by decide)).trans w_267
                have un_288 : ∀ j : Nat, j ≠ 11 → j ≠ 13 → j ≠ 14 → j ≠ 17 → j ≠ 18 → g1_273 j = g j := fun j h11 h13 h14 h17 h18 => (k_277 j h11 h17).trans (un_268 j h11 h13 h14 h17 h18)
                have := tsk_ge f n (tsk f n (twe f n (tsk f n j)) + 1)
                have := tsk_le (f := f) (n := n) (j := tsk f n (twe f n (tsk f n j)) + 1) (by omega)
                have := twe_ge f n (tsk f n (tsk f n (twe f n (tsk f n j)) + 1))
                have := twe_le (f := f) (n := n) (j := tsk f n (tsk f n (twe f n (tsk f n j)) + 1)) (by omega)
                have := twe_ge f n (tsk f n (twe f n (tsk f n j)) + 1)
                have := twe_le (f := f) (n := n) (j := tsk f n (twe f n (tsk f n j)) + 1) (by omega)
                refine W_toi (y := tat f n (tsk f n (tsk f n (twe f n (tsk f n j)) + 1))) k_274 ?_
                refine lv_bipush (v := 61) hx hb dX9_kinds_172 (by decide) ?_
                refine lv_icmp_ne (tgt := 212) hx hb dX9_kinds_174 (by decide) (fun c_289 => ?_) (fun c_289 => ?_)
                · have hD_ : kDef f n p2 (tsk f n (twe f n (tsk f n (j))) + 1) = some (tsk f n (tsk f n (twe f n (tsk f n (j))) + 1), 0) := by unfold kDef; rw [pif_neg (show ¬ (tat f n (tsk f n (tsk f n (twe f n (tsk f n (j))) + 1)) = 61 ∧ p2 ≠ 6) from fun h => c_289 h.1)]
                  refine lv_aload_n hx hb dX9_kinds_212 rfl (lv_at hl 0 rfl) ?_
                  refine va_get (D := (dC, dI)) (ci := 11) (v := .int 0) (C := RX9) (T := TX9) (N := 60) hx hb hts iRX9 hown hK hP 5 rfl rfl 13 (by decide) (hts (.fieldLink RX9 135 "RecordBenchModel" "bad" "I") (by decide +kernel)) (fun _ h9 => h9) ((mo_get g1_273 (by decide)).trans (congrArg some w_278)) dX9_kinds_213 ?_
                  refine lv_if_ne (tgt := 225) hx hb dX9_kinds_216 (by decide) (fun c_290 => absurd (by decide) c_290) (fun c_290 => ?_)
                  refine lv_aload_n hx hb dX9_kinds_219 rfl (lv_at hl 0 rfl) ?_
                  refine lv_bipush (v := 59) hx hb dX9_kinds_220 (by decide) ?_
                  have hFc := va_free (wc := [(h0, .inr (11, mo g1_273)), (a9, .inl (cT, 400, .inl f))]) hD hS hA [5, 6] rfl
                  refine va_callv (va_runV (As := [.int 59]) (rest := []) ⟨hx, hb, hml, hown, hts⟩ (c_X9_sign l dC dI h0 g1_273 a9 cT f (tsk f n (tsk f n (twe f n (tsk f n j)) + 1)) n 0 w_285 k_275 w_286 w_278 (by omega) (by omega) 59 (by decide) H.size) (cwV 1 hts gp_X9_kinds_X9_sign_191 rfl rfl rfl (by decide +kernel) ⟨Nat.le_of_ble_eq_true rfl, Nat.le_of_ble_eq_true rfl⟩) ⟨Pr.blind _, va_recv hK hP (ci := 11) (q0 := 5) rfl rfl, fun U hU hW => ⟨rfl, Pr.at (hP.sub (ws' := [(h0, .inr (11, mo g1_273)), (a9, .inl (cT, 400, .inl f))]) [5, 6] rfl) (hK.sub (tys' := [(cT, .int)]) [0] rfl) (hD.sub (ws' := [(h0, .inr (11, mo g1_273)), (a9, .inl (cT, 400, .inl f))]) [5, 6] (by decide) rfl) hN hZ RO.nil hS hFc hU hW⟩⟩ rfl rfl hl.1 rfl (lv_room (Nat.le_of_ble_eq_true rfl)) dX9_kinds_222 ⟨Nat.le_of_ble_eq_true rfl, Nat.le_of_ble_eq_true rfl⟩) hS (fun q _ h => hFc q h) hFc (fun u t H1 locs ht hvm hw_292 hB hz1 hk1 hS => ?_)
                  obtain ⟨g1_293, j1_294, b1_295⟩ := u
                  obtain ⟨hP, hD, hK⟩ := Bq.join (wr := [(a0, .inl (cZ, 8, .inl tl)), (a2, .inl (cG, 248, .inl f_203)), (a3, .inl (cI, 248, .inl f_1)), (a6, .inl (cP, 248, .inr (.inl f_3))), (a7, .inl (cX, 2976, .inl fX))]) hB ht hvm hP hD [5, 6] [0, 1, 2, 3, 4] rfl rfl (by decide) (by decide) hk1 hFc hK
                  generalize H1 = H at hP hS ⊢
                  have hP : va_P (dC, dI) vwCl [(a0, .inl (cZ, 8, .inl tl)), (a2, .inl (cG, 248, .inl f_203)), (a3, .inl (cI, 248, .inl f_1)), (a6, .inl (cP, 248, .inr (.inl f_3))), (a7, .inl (cX, 2976, .inl fX)), (h0, .inr (11, mo g1_293)), (a9, .inl (cT, 400, .inl f))] H := hP
                  have hD : va_D A [(a0, .inl (cZ, 8, .inl tl)), (a2, .inl (cG, 248, .inl f_203)), (a3, .inl (cI, 248, .inl f_1)), (a6, .inl (cP, 248, .inr (.inl f_3))), (a7, .inl (cX, 2976, .inl fX)), (h0, .inr (11, mo g1_293)), (a9, .inl (cT, 400, .inl f))] := hD
                  have hK : va_K (dC, dI) vwCl [(cT, .int), (cZ, .boolean), (cG, .int), (cI, .int), (cP, .long), (cX, .int)] s := hK
                  try dsimp only at hw_292
                  obtain ⟨k_296, k_297, k_298, k_299, k_300⟩ := hw_292
                  have w_301 : g1_293 18 = .int (nI (tsk f n (twe f n (tsk f n j)) + 1)) := (k_300 18 (by decide) (by decide) (by decide) (by decide)).trans w_279
                  have w_302 : g1_293 0 = .ref a0 := (k_300 0 (by decide) (by decide) (by decide) (by decide)).trans w_280
                  have w_303 : g1_293 2 = .ref a2 := (k_300 2 (by decide) (by decide) (by decide) (by decide)).trans w_281
                  have w_304 : g1_293 3 = .ref a3 := (k_300 3 (by decide) (by decide) (by decide) (by decide)).trans w_282
                  have w_305 : g1_293 6 = .ref a6 := (k_300 6 (by decide) (by decide) (by decide) (by decide)).trans w_283
                  have w_306 : g1_293 7 = .ref a7 := (k_300 7 (by decide) (by decide) (by decide) (by decide)).trans w_284
                  have w_307 : g1_293 9 = .ref a9 := (k_300 9 (by decide) (by decide) (by decide) (by decide)).trans w_285
                  have w_308 : g1_293 12 = .int (nI n) := (k_300 12 (by decide) (by decide) (by decide) (by decide)).trans w_286
                  have w_309 : g1_293 26 = .long iw := (k_300 26 (by decide) (by decide) (by decide) (by decide)).trans w_287
                  have un_310 : ∀ j : Nat, j ≠ 11 → j ≠ 13 → j ≠ 14 → j ≠ 17 → j ≠ 18 → g1_293 j = g j := fun j h11 h13 h14 h17 h18 => (k_300 j h11 h13 h14 h17).trans (un_288 j h11 h13 h14 h17 h18)
                  have := tsk_ge f n (tsk f n (tsk f n (twe f n (tsk f n j)) + 1))
                  have := tsk_le (f := f) (n := n) (j := tsk f n (tsk f n (twe f n (tsk f n j)) + 1)) (by omega)
                  have := twe_ge f n (tsk f n (tsk f n (tsk f n (twe f n (tsk f n j)) + 1)))
                  have := twe_le (f := f) (n := n) (j := tsk f n (tsk f n (tsk f n (twe f n (tsk f n j)) + 1))) (by omega)
                  have := twe_ge f n (tsk f n (tsk f n (twe f n (tsk f n j)) + 1))
                  have := twe_le (f := f) (n := n) (j := tsk f n (tsk f n (twe f n (tsk f n j)) + 1)) (by omega)
                  rcases k_296 with ⟨hay_311, hby_311, rfl, rfl⟩ | ⟨hay_311, rfl, hcy_311⟩
                  · have hP9 := hP.sub (ws' := [(h0, .inr (11, mo g1_293)), (a9, .inl (cT, 400, .inl f)), (a0, .inl (cZ, 8, .inl tl)), (a2, .inl (cG, 248, .inl f_203)), (a3, .inl (cI, 248, .inl f_1)), (a6, .inl (cP, 248, .inr (.inl f_3))), (a7, .inl (cX, 2976, .inl fX))]) [5, 6, 0, 1, 2, 3, 4] rfl
                    have hD9 := hD.sub (ws' := [(h0, .inr (11, mo g1_293)), (a9, .inl (cT, 400, .inl f)), (a0, .inl (cZ, 8, .inl tl)), (a2, .inl (cG, 248, .inl f_203)), (a3, .inl (cI, 248, .inl f_1)), (a6, .inl (cP, 248, .inr (.inl f_3))), (a7, .inl (cX, 2976, .inl fX))]) [5, 6, 0, 1, 2, 3, 4] (by decide) rfl
                    have hK9 := hK.sub (tys' := []) [] rfl
                    exact W.vret hx hb hr (fun t ht hW => ⟨⟨(g1_293, (tsk f n (tsk f n (tsk f n (twe f n (tsk f n j)) + 1)) + 1), 0, (nI (tsk f n (twe f n (tsk f n j)) + 1)), (tsk f n (twe f n (tsk f n j)) + 1), f_1, f_203, f_3, fX, (-1), (tat f n (tsk f n (twe f n (tsk f n (j)))) - 48), 0), rfl, ⟨Or.inl ⟨by simp only [kAll, hR, hI, hD_, Option.bind_some, Option.bind_none]; rw [pif_pos hay_311], rfl, by omega, ⟨rfl, by omega⟩, vf_1, vf_203, vf_3⟩, (fun x hx => frf_1 x hx), (fun x hx => frf_203 x hx), (fun x hx => frf_3 x hx), (fun _ _ => rfl), k_297, k_298, w_301, (fun j h11 h13 h14 h17 h18 => un_310 j h11 h13 h14 h17 h18)⟩, by rw [ht]; exact hP9, va_K.moved hW.alike hK9, hD9⟩, hS.F ht⟩) hS.2.2 dX9_kinds_225
                  · have hP9 := hP.sub (ws' := [(h0, .inr (11, mo g1_293)), (a9, .inl (cT, 400, .inl f)), (a0, .inl (cZ, 8, .inl tl)), (a2, .inl (cG, 248, .inl f_203)), (a3, .inl (cI, 248, .inl f_1)), (a6, .inl (cP, 248, .inr (.inl f_3))), (a7, .inl (cX, 2976, .inl fX))]) [5, 6, 0, 1, 2, 3, 4] rfl
                    have hD9 := hD.sub (ws' := [(h0, .inr (11, mo g1_293)), (a9, .inl (cT, 400, .inl f)), (a0, .inl (cZ, 8, .inl tl)), (a2, .inl (cG, 248, .inl f_203)), (a3, .inl (cI, 248, .inl f_1)), (a6, .inl (cP, 248, .inr (.inl f_3))), (a7, .inl (cX, 2976, .inl fX))]) [5, 6, 0, 1, 2, 3, 4] (by decide) rfl
                    have hK9 := hK.sub (tys' := []) [] rfl
                    exact W.vret hx hb hr (fun t ht hW => ⟨⟨(g1_293, (tsk f n (tsk f n (tsk f n (twe f n (tsk f n j)) + 1))), b1_295, (nI (tsk f n (twe f n (tsk f n j)) + 1)), (tsk f n (twe f n (tsk f n j)) + 1), f_1, f_203, f_3, fX, (-1), (tat f n (tsk f n (twe f n (tsk f n (j)))) - 48), 0), rfl, ⟨Or.inr ⟨by simp only [kAll, hR, hI, hD_, Option.bind_some, Option.bind_none]; rw [pif_neg hay_311], hcy_311⟩, (fun x hx => frf_1 x hx), (fun x hx => frf_203 x hx), (fun x hx => frf_3 x hx), (fun _ _ => rfl), k_297, k_298, w_301, (fun j h11 h13 h14 h17 h18 => un_310 j h11 h13 h14 h17 h18)⟩, by rw [ht]; exact hP9, va_K.moved hW.alike hK9, hD9⟩, hS.F ht⟩) hS.2.2 dX9_kinds_225
                · refine lv_iload_n hx hb dX9_kinds_177 rfl (lv_at hl 3 rfl) ?_
                  refine lv_bipush (v := 6) hx hb dX9_kinds_178 (by decide) ?_
                  refine lv_icmp_eq (tgt := 212) hx hb dX9_kinds_180 (by decide) (fun c_312 => absurd c_312 (c_4)) (fun c_312 => ?_)
                  have hq61 := tat_in c_289 (by decide)
                  refine lv_aload_n hx hb dX9_kinds_183 rfl (lv_at hl 0 rfl) ?_
                  refine lv_dup hx hb dX9_kinds_184 rfl ?_
                  refine va_get (D := (dC, dI)) (ci := 11) (v := .int (nI (tsk f n (tsk f n (twe f n (tsk f n j)) + 1)))) (C := RX9) (T := TX9) (N := 60) hx hb hts iRX9 hown hK hP 5 rfl rfl 11 (by decide) (hts (.fieldLink RX9 141 "RecordBenchModel" "at" "I") (by decide +kernel)) (fun _ h9 => h9) ((mo_get g1_273 (by decide)).trans (congrArg some k_275)) dX9_kinds_185 ?_
                  refine lv_iconst (v := 1) hx hb dX9_kinds_188 (by decide) ?_
                  refine lv_iadd hx hb dX9_kinds_189 ?_
                  refine W_toi (y := nI ((tsk f n (tsk f n (twe f n (tsk f n j)) + 1)) + 1)) (nI_1 _) ?_
                  refine va_put (D := (dC, dI)) (ci := 11) (v := .int (nI ((tsk f n (tsk f n (twe f n (tsk f n j)) + 1)) + 1))) (ty := .int) (C := RX9) (T := TX9) (N := 60) hx hb hts iRX9 tyX9 tyX9_ok nmX9 hown hK hP hD hS 5 rfl rfl 11 (by decide) (hts (.fieldLink RX9 141 "RecordBenchModel" "at" "I") (by decide +kernel)) (fun _ h9 => h9) rfl (by decide +kernel) rfl rfl (by rw [mo_len]; decide) dX9_kinds_190 (fun H locs hP hD hS => ?_)
                  obtain ⟨g_313, eg_313⟩ : ∃ y, y = va_up g1_273 11 (.int (nI ((tsk f n (tsk f n (twe f n (tsk f n j)) + 1)) + 1))) := ⟨_, rfl⟩
                  have hP : va_P (dC, dI) vwCl [(a0, .inl (cZ, 8, .inl tl)), (a2, .inl (cG, 248, .inl f_203)), (a3, .inl (cI, 248, .inl f_1)), (a6, .inl (cP, 248, .inr (.inl f_3))), (a7, .inl (cX, 2976, .inl fX)), (h0, .inr (11, mo g_313)), (a9, .inl (cT, 400, .inl f))] H := by rw [eg_313, ← mo_set g1_273 (by decide)]; exact hP
                  have hD : va_D A [(a0, .inl (cZ, 8, .inl tl)), (a2, .inl (cG, 248, .inl f_203)), (a3, .inl (cI, 248, .inl f_1)), (a6, .inl (cP, 248, .inr (.inl f_3))), (a7, .inl (cX, 2976, .inl fX)), (h0, .inr (11, mo g_313)), (a9, .inl (cT, 400, .inl f))] := by rw [eg_313, ← mo_set g1_273 (by decide)]; exact hD
                  have g_313h17 : g_313 17 = .int (nI (tsk f n (tsk f n (twe f n (tsk f n j)) + 1))) := by rw [eg_313, va_up_ne _ _ (by decide)]; exact k_276
                  have g_313h13 : g_313 13 = .int 0 := by rw [eg_313, va_up_ne _ _ (by decide)]; exact w_278
                  have g_313h18 : g_313 18 = .int (nI (tsk f n (twe f n (tsk f n j)) + 1)) := by rw [eg_313, va_up_ne _ _ (by decide)]; exact w_279
                  have g_313h0 : g_313 0 = .ref a0 := by rw [eg_313, va_up_ne _ _ (by decide)]; exact w_280
                  have g_313h2 : g_313 2 = .ref a2 := by rw [eg_313, va_up_ne _ _ (by decide)]; exact w_281
                  have g_313h3 : g_313 3 = .ref a3 := by rw [eg_313, va_up_ne _ _ (by decide)]; exact w_282
                  have g_313h6 : g_313 6 = .ref a6 := by rw [eg_313, va_up_ne _ _ (by decide)]; exact w_283
                  have g_313h7 : g_313 7 = .ref a7 := by rw [eg_313, va_up_ne _ _ (by decide)]; exact w_284
                  have g_313h9 : g_313 9 = .ref a9 := by rw [eg_313, va_up_ne _ _ (by decide)]; exact w_285
                  have g_313h12 : g_313 12 = .int (nI n) := by rw [eg_313, va_up_ne _ _ (by decide)]; exact w_286
                  have g_313h26 : g_313 26 = .long iw := by rw [eg_313, va_up_ne _ _ (by decide)]; exact w_287
                  have g_313h11 : g_313 11 = .int (nI ((tsk f n (tsk f n (twe f n (tsk f n j)) + 1)) + 1)) := by rw [eg_313, va_up_self]
                  have ung_313 : ∀ j : Nat, j ≠ 11 → j ≠ 13 → j ≠ 14 → j ≠ 17 → j ≠ 18 → g_313 j = g j := fun j h11 h13 h14 h17 h18 => by rw [eg_313, va_up_ne _ _ h11]; exact un_288 j h11 h13 h14 h17 h18
                  refine lv_iload_n hx hb dX9_kinds_193 rfl (lv_at hl 3 rfl) ?_
                  refine lv_iconst (v := 5) hx hb dX9_kinds_194 (by decide) ?_
                  refine lv_icmp_ne (tgt := 206) hx hb dX9_kinds_195 (by decide) (fun c_314 => ?_) (fun c_314 => ?_)
                  · refine lv_aload_n hx hb dX9_kinds_206 rfl (lv_at hl 0 rfl) ?_
                    refine lv_iload_n hx hb dX9_kinds_207 rfl (lv_at hl 2 rfl) ?_
                    refine lv_iload_n hx hb dX9_kinds_208 rfl (lv_at hl 3 rfl) ?_
                    have hFc := va_free (wc := [(h0, .inr (11, mo g_313)), (a9, .inl (cT, 400, .inl f)), (a6, .inl (cP, 248, .inr (.inl f_3)))]) hD hS hA [5, 6, 3] rfl
                    refine va_callv (va_runV (As := [.int (nI F), .int p2]) (rest := []) ⟨hx, hb, hml, hown, hts⟩ (c_X9_value l dC dI h0 g_313 a9 cT f ((tsk f n (tsk f n (twe f n (tsk f n j)) + 1)) + 1) n 0 (nI (tsk f n (twe f n (tsk f n j)) + 1)) a6 cP f_3 g_313h6 g_313h9 g_313h11 g_313h12 g_313h13 g_313h18 (by omega) (by omega) (nI F) p2 (vp_in_nI hF (by decide)) H.size) (cwV 2 hts gp_X9_kinds_X9_value_212 rfl rfl rfl (by decide +kernel) ⟨Nat.le_of_ble_eq_true rfl, Nat.le_of_ble_eq_true rfl⟩) ⟨Pr.blind _, va_recv hK hP (ci := 11) (q0 := 5) rfl rfl, fun U hU hW => ⟨rfl, Pr.at (hP.sub (ws' := [(h0, .inr (11, mo g_313)), (a9, .inl (cT, 400, .inl f)), (a6, .inl (cP, 248, .inr (.inl f_3)))]) [5, 6, 3] rfl) (hK.sub (tys' := [(cT, .int), (cP, .long)]) [0, 4] rfl) (hD.sub (ws' := [(h0, .inr (11, mo g_313)), (a9, .inl (cT, 400, .inl f)), (a6, .inl (cP, 248, .inr (.inl f_3)))]) [5, 6, 3] (by decide) rfl) hN hZ RO.nil hS hFc hU hW⟩⟩ rfl rfl hl.1 rfl (lv_room (Nat.le_of_ble_eq_true rfl)) dX9_kinds_209 ⟨Nat.le_of_ble_eq_true rfl, Nat.le_of_ble_eq_true rfl⟩) hS (fun q _ h => hFc q h) hFc (fun u t H1 locs ht hvm hw_316 hB hz1 hk1 hS => ?_)
                    obtain ⟨g1_317, j1_318, b1_319, x1_320, fP1_321⟩ := u
                    obtain ⟨hP, hD, hK⟩ := Bq.join (wr := [(a0, .inl (cZ, 8, .inl tl)), (a2, .inl (cG, 248, .inl f_203)), (a3, .inl (cI, 248, .inl f_1)), (a7, .inl (cX, 2976, .inl fX))]) hB ht hvm hP hD [5, 6, 3] [0, 1, 2, 4] rfl rfl (by decide) (by decide) hk1 hFc hK
                    generalize H1 = H at hP hS ⊢
                    have hP : va_P (dC, dI) vwCl [(a0, .inl (cZ, 8, .inl tl)), (a2, .inl (cG, 248, .inl f_203)), (a3, .inl (cI, 248, .inl f_1)), (a7, .inl (cX, 2976, .inl fX)), (h0, .inr (11, mo g1_317)), (a9, .inl (cT, 400, .inl f)), (a6, .inl (cP, 248, .inr (.inl fP1_321)))] H := hP
                    have hD : va_D A [(a0, .inl (cZ, 8, .inl tl)), (a2, .inl (cG, 248, .inl f_203)), (a3, .inl (cI, 248, .inl f_1)), (a7, .inl (cX, 2976, .inl fX)), (h0, .inr (11, mo g1_317)), (a9, .inl (cT, 400, .inl f)), (a6, .inl (cP, 248, .inr (.inl fP1_321)))] := hD
                    have hK : va_K (dC, dI) vwCl [(cT, .int), (cZ, .boolean), (cG, .int), (cI, .int), (cP, .long), (cX, .int)] s := hK
                    try dsimp only at hw_316
                    obtain ⟨k_322, k_323, k_324, k_325, k_326⟩ := hw_316
                    have w_327 : g1_317 0 = .ref a0 := (k_326 0 (by decide) (by decide) (by decide) (by decide) (by decide)).trans g_313h0
                    have w_328 : g1_317 2 = .ref a2 := (k_326 2 (by decide) (by decide) (by decide) (by decide) (by decide)).trans g_313h2
                    have w_329 : g1_317 3 = .ref a3 := (k_326 3 (by decide) (by decide) (by decide) (by decide) (by decide)).trans g_313h3
                    have w_330 : g1_317 6 = .ref a6 := (k_326 6 (by decide) (by decide) (by decide) (by decide) (by decide)).trans g_313h6
                    have w_331 : g1_317 7 = .ref a7 := (k_326 7 (by decide) (by decide) (by decide) (by decide) (by decide)).trans g_313h7
                    have w_332 : g1_317 9 = .ref a9 := (k_326 9 (by decide) (by decide) (by decide) (by decide) (by decide)).trans g_313h9
                    have w_333 : g1_317 12 = .int (nI n) := (k_326 12 (by decide) (by decide) (by decide) (by decide) (by decide)).trans g_313h12
                    have w_334 : g1_317 26 = .long iw := (k_326 26 (by decide) (by decide) (by decide) (by decide) (by decide)).trans g_313h26
                    have un_335 : ∀ j : Nat, j ≠ 11 → j ≠ 13 → j ≠ 14 → j ≠ 17 → j ≠ 18 → g1_317 j = g j := fun j h11 h13 h14 h17 h18 => (k_326 j h11 h13 h14 h17 h18).trans (ung_313 j h11 h13 h14 h17 h18)
                    have := tsk_ge f n ((tsk f n (tsk f n (twe f n (tsk f n j)) + 1)) + 1)
                    have := tsk_le (f := f) (n := n) (j := (tsk f n (tsk f n (twe f n (tsk f n j)) + 1)) + 1) (by omega)
                    have := twe_ge f n (tsk f n ((tsk f n (tsk f n (twe f n (tsk f n j)) + 1)) + 1))
                    have := twe_le (f := f) (n := n) (j := tsk f n ((tsk f n (tsk f n (twe f n (tsk f n j)) + 1)) + 1)) (by omega)
                    have := twe_ge f n ((tsk f n (tsk f n (twe f n (tsk f n j)) + 1)) + 1)
                    have := twe_le (f := f) (n := n) (j := (tsk f n (tsk f n (twe f n (tsk f n j)) + 1)) + 1) (by omega)
                    have := tfd_ge f n (tsk f n ((tsk f n (tsk f n (twe f n (tsk f n j)) + 1)) + 1))
                    have := tde_le (f := f) (n := n) (j := tfd f n (tsk f n ((tsk f n (tsk f n (twe f n (tsk f n j)) + 1)) + 1))) (tfd_le (by omega))
                    have := tde_ge f n (tfd f n (tsk f n ((tsk f n (tsk f n (twe f n (tsk f n j)) + 1)) + 1)))
                    rcases k_322 with ⟨hay_336, rfl, rfl, rfl, rfl⟩ | ⟨hay_336, hby_336, hcy_336, hdy_336⟩
                    · have hD_ : kDef f n p2 (tsk f n (twe f n (tsk f n (j))) + 1) = some (tde f n (tfd f n (tsk f n (tsk f n (tsk f n (twe f n (tsk f n (j))) + 1) + 1))), tvv (tvs f (tfd f n (tsk f n (tsk f n (tsk f n (twe f n (tsk f n (j))) + 1) + 1))) (tde f n (tfd f n (tsk f n (tsk f n (tsk f n (twe f n (tsk f n (j))) + 1) + 1))) - tfd f n (tsk f n (tsk f n (tsk f n (twe f n (tsk f n (j))) + 1) + 1)))) (tsg f n (tsk f n (tsk f n (tsk f n (twe f n (tsk f n (j))) + 1) + 1)))) := by unfold kDef; rw [pif_pos (show tat f n (tsk f n (tsk f n (twe f n (tsk f n (j))) + 1)) = 61 ∧ p2 ≠ 6 from ⟨c_289, c_312⟩), pif_neg c_314, pif_pos (show cVal f n p2 (tsk f n (tsk f n (twe f n (tsk f n (j))) + 1) + 1) from hay_336)]
                      refine lv_aload_n hx hb dX9_kinds_212 rfl (lv_at hl 0 rfl) ?_
                      refine va_get (D := (dC, dI)) (ci := 11) (v := .int 0) (C := RX9) (T := TX9) (N := 60) hx hb hts iRX9 hown hK hP 4 rfl rfl 13 (by decide) (hts (.fieldLink RX9 135 "RecordBenchModel" "bad" "I") (by decide +kernel)) (fun _ h9 => h9) ((mo_get g1_317 (by decide)).trans (congrArg some k_324)) dX9_kinds_213 ?_
                      refine lv_if_ne (tgt := 225) hx hb dX9_kinds_216 (by decide) (fun c_337 => absurd (by decide) c_337) (fun c_337 => ?_)
                      refine lv_aload_n hx hb dX9_kinds_219 rfl (lv_at hl 0 rfl) ?_
                      refine lv_bipush (v := 59) hx hb dX9_kinds_220 (by decide) ?_
                      have hFc := va_free (wc := [(h0, .inr (11, mo g1_317)), (a9, .inl (cT, 400, .inl f))]) hD hS hA [4, 5] rfl
                      refine va_callv (va_runV (As := [.int 59]) (rest := []) ⟨hx, hb, hml, hown, hts⟩ (c_X9_sign l dC dI h0 g1_317 a9 cT f (tde f n (tfd f n (tsk f n ((tsk f n (tsk f n (twe f n (tsk f n j)) + 1)) + 1)))) n 0 w_332 k_323 w_333 k_324 (by omega) (by omega) 59 (by decide) H.size) (cwV 1 hts gp_X9_kinds_X9_sign_191 rfl rfl rfl (by decide +kernel) ⟨Nat.le_of_ble_eq_true rfl, Nat.le_of_ble_eq_true rfl⟩) ⟨Pr.blind _, va_recv hK hP (ci := 11) (q0 := 4) rfl rfl, fun U hU hW => ⟨rfl, Pr.at (hP.sub (ws' := [(h0, .inr (11, mo g1_317)), (a9, .inl (cT, 400, .inl f))]) [4, 5] rfl) (hK.sub (tys' := [(cT, .int)]) [0] rfl) (hD.sub (ws' := [(h0, .inr (11, mo g1_317)), (a9, .inl (cT, 400, .inl f))]) [4, 5] (by decide) rfl) hN hZ RO.nil hS hFc hU hW⟩⟩ rfl rfl hl.1 rfl (lv_room (Nat.le_of_ble_eq_true rfl)) dX9_kinds_222 ⟨Nat.le_of_ble_eq_true rfl, Nat.le_of_ble_eq_true rfl⟩) hS (fun q _ h => hFc q h) hFc (fun u t H1 locs ht hvm hw_339 hB hz1 hk1 hS => ?_)
                      obtain ⟨g1_340, j1_341, b1_342⟩ := u
                      obtain ⟨hP, hD, hK⟩ := Bq.join (wr := [(a0, .inl (cZ, 8, .inl tl)), (a2, .inl (cG, 248, .inl f_203)), (a3, .inl (cI, 248, .inl f_1)), (a7, .inl (cX, 2976, .inl fX)), (a6, .inl (cP, 248, .inr (.inl (vp_updL f_3 (nI F).toNatClampNeg (tvv (tvs f (tfd f n (tsk f n ((tsk f n (tsk f n (twe f n (tsk f n j)) + 1)) + 1))) (tde f n (tfd f n (tsk f n ((tsk f n (tsk f n (twe f n (tsk f n j)) + 1)) + 1))) - tfd f n (tsk f n ((tsk f n (tsk f n (twe f n (tsk f n j)) + 1)) + 1)))) (tsg f n (tsk f n ((tsk f n (tsk f n (twe f n (tsk f n j)) + 1)) + 1))))))))]) hB ht hvm hP hD [4, 5] [0, 1, 2, 3, 6] rfl rfl (by decide) (by decide) hk1 hFc hK
                      generalize H1 = H at hP hS ⊢
                      have hP : va_P (dC, dI) vwCl [(a0, .inl (cZ, 8, .inl tl)), (a2, .inl (cG, 248, .inl f_203)), (a3, .inl (cI, 248, .inl f_1)), (a7, .inl (cX, 2976, .inl fX)), (a6, .inl (cP, 248, .inr (.inl (vp_updL f_3 (nI F).toNatClampNeg (tvv (tvs f (tfd f n (tsk f n ((tsk f n (tsk f n (twe f n (tsk f n j)) + 1)) + 1))) (tde f n (tfd f n (tsk f n ((tsk f n (tsk f n (twe f n (tsk f n j)) + 1)) + 1))) - tfd f n (tsk f n ((tsk f n (tsk f n (twe f n (tsk f n j)) + 1)) + 1)))) (tsg f n (tsk f n ((tsk f n (tsk f n (twe f n (tsk f n j)) + 1)) + 1)))))))), (h0, .inr (11, mo g1_340)), (a9, .inl (cT, 400, .inl f))] H := hP
                      have hD : va_D A [(a0, .inl (cZ, 8, .inl tl)), (a2, .inl (cG, 248, .inl f_203)), (a3, .inl (cI, 248, .inl f_1)), (a7, .inl (cX, 2976, .inl fX)), (a6, .inl (cP, 248, .inr (.inl (vp_updL f_3 (nI F).toNatClampNeg (tvv (tvs f (tfd f n (tsk f n ((tsk f n (tsk f n (twe f n (tsk f n j)) + 1)) + 1))) (tde f n (tfd f n (tsk f n ((tsk f n (tsk f n (twe f n (tsk f n j)) + 1)) + 1))) - tfd f n (tsk f n ((tsk f n (tsk f n (twe f n (tsk f n j)) + 1)) + 1)))) (tsg f n (tsk f n ((tsk f n (tsk f n (twe f n (tsk f n j)) + 1)) + 1)))))))), (h0, .inr (11, mo g1_340)), (a9, .inl (cT, 400, .inl f))] := hD
                      have hK : va_K (dC, dI) vwCl [(cT, .int), (cZ, .boolean), (cG, .int), (cI, .int), (cP, .long), (cX, .int)] s := hK
                      try dsimp only at hw_339
                      obtain ⟨k_343, k_344, k_345, k_346, k_347⟩ := hw_339
                      have w_348 : g1_340 18 = .int (nI (tde f n (tfd f n (tsk f n ((tsk f n (tsk f n (twe f n (tsk f n j)) + 1)) + 1))))) := (k_347 18 (by decide) (by decide) (by decide) (by decide)).trans k_325
                      have w_349 : g1_340 0 = .ref a0 := (k_347 0 (by decide) (by decide) (by decide) (by decide)).trans w_327
                      have w_350 : g1_340 2 = .ref a2 := (k_347 2 (by decide) (by decide) (by decide) (by decide)).trans w_328
                      have w_351 : g1_340 3 = .ref a3 := (k_347 3 (by decide) (by decide) (by decide) (by decide)).trans w_329
                      have w_352 : g1_340 6 = .ref a6 := (k_347 6 (by decide) (by decide) (by decide) (by decide)).trans w_330
                      have w_353 : g1_340 7 = .ref a7 := (k_347 7 (by decide) (by decide) (by decide) (by decide)).trans w_331
                      have w_354 : g1_340 9 = .ref a9 := (k_347 9 (by decide) (by decide) (by decide) (by decide)).trans w_332
                      have w_355 : g1_340 12 = .int (nI n) := (k_347 12 (by decide) (by decide) (by decide) (by decide)).trans w_333
                      have w_356 : g1_340 26 = .long iw := (k_347 26 (by decide) (by decide) (by decide) (by decide)).trans w_334
                      have un_357 : ∀ j : Nat, j ≠ 11 → j ≠ 13 → j ≠ 14 → j ≠ 17 → j ≠ 18 → g1_340 j = g j := fun j h11 h13 h14 h17 h18 => (k_347 j h11 h13 h14 h17).trans (un_335 j h11 h13 h14 h17 h18)
                      have := tsk_ge f n (tde f n (tfd f n (tsk f n ((tsk f n (tsk f n (twe f n (tsk f n j)) + 1)) + 1))))
                      have := tsk_le (f := f) (n := n) (j := tde f n (tfd f n (tsk f n ((tsk f n (tsk f n (twe f n (tsk f n j)) + 1)) + 1)))) (by omega)
                      have := twe_ge f n (tsk f n (tde f n (tfd f n (tsk f n ((tsk f n (tsk f n (twe f n (tsk f n j)) + 1)) + 1)))))
                      have := twe_le (f := f) (n := n) (j := tsk f n (tde f n (tfd f n (tsk f n ((tsk f n (tsk f n (twe f n (tsk f n j)) + 1)) + 1))))) (by omega)
                      have := twe_ge f n (tde f n (tfd f n (tsk f n ((tsk f n (tsk f n (twe f n (tsk f n j)) + 1)) + 1))))
                      have := twe_le (f := f) (n := n) (j := tde f n (tfd f n (tsk f n ((tsk f n (tsk f n (twe f n (tsk f n j)) + 1)) + 1)))) (by omega)
                      rcases k_343 with ⟨hay_358, hby_358, rfl, rfl⟩ | ⟨hay_358, rfl, hcy_358⟩
                      · have hP9 := hP.sub (ws' := [(h0, .inr (11, mo g1_340)), (a9, .inl (cT, 400, .inl f)), (a0, .inl (cZ, 8, .inl tl)), (a2, .inl (cG, 248, .inl f_203)), (a3, .inl (cI, 248, .inl f_1)), (a6, .inl (cP, 248, .inr (.inl (vp_updL f_3 (nI F).toNatClampNeg (tvv (tvs f (tfd f n (tsk f n ((tsk f n (tsk f n (twe f n (tsk f n j)) + 1)) + 1))) (tde f n (tfd f n (tsk f n ((tsk f n (tsk f n (twe f n (tsk f n j)) + 1)) + 1))) - tfd f n (tsk f n ((tsk f n (tsk f n (twe f n (tsk f n j)) + 1)) + 1)))) (tsg f n (tsk f n ((tsk f n (tsk f n (twe f n (tsk f n j)) + 1)) + 1)))))))), (a7, .inl (cX, 2976, .inl fX))]) [5, 6, 0, 1, 2, 4, 3] rfl
                        have hD9 := hD.sub (ws' := [(h0, .inr (11, mo g1_340)), (a9, .inl (cT, 400, .inl f)), (a0, .inl (cZ, 8, .inl tl)), (a2, .inl (cG, 248, .inl f_203)), (a3, .inl (cI, 248, .inl f_1)), (a6, .inl (cP, 248, .inr (.inl (vp_updL f_3 (nI F).toNatClampNeg (tvv (tvs f (tfd f n (tsk f n ((tsk f n (tsk f n (twe f n (tsk f n j)) + 1)) + 1))) (tde f n (tfd f n (tsk f n ((tsk f n (tsk f n (twe f n (tsk f n j)) + 1)) + 1))) - tfd f n (tsk f n ((tsk f n (tsk f n (twe f n (tsk f n j)) + 1)) + 1)))) (tsg f n (tsk f n ((tsk f n (tsk f n (twe f n (tsk f n j)) + 1)) + 1)))))))), (a7, .inl (cX, 2976, .inl fX))]) [5, 6, 0, 1, 2, 4, 3] (by decide) rfl
                        have hK9 := hK.sub (tys' := []) [] rfl
                        exact W.vret hx hb hr (fun t ht hW => ⟨⟨(g1_340, (tsk f n (tde f n (tfd f n (tsk f n ((tsk f n (tsk f n (twe f n (tsk f n j)) + 1)) + 1)))) + 1), 0, (nI (tde f n (tfd f n (tsk f n ((tsk f n (tsk f n (twe f n (tsk f n j)) + 1)) + 1))))), (tde f n (tfd f n (tsk f n ((tsk f n (tsk f n (twe f n (tsk f n j)) + 1)) + 1)))), f_1, f_203, (vp_updL f_3 (nI F).toNatClampNeg (tvv (tvs f (tfd f n (tsk f n ((tsk f n (tsk f n (twe f n (tsk f n j)) + 1)) + 1))) (tde f n (tfd f n (tsk f n ((tsk f n (tsk f n (twe f n (tsk f n j)) + 1)) + 1))) - tfd f n (tsk f n ((tsk f n (tsk f n (twe f n (tsk f n j)) + 1)) + 1)))) (tsg f n (tsk f n ((tsk f n (tsk f n (twe f n (tsk f n j)) + 1)) + 1))))), fX, (-1), (tat f n (tsk f n (twe f n (tsk f n (j)))) - 48), (tvv (tvs f (tfd f n (tsk f n (tsk f n (tsk f n (twe f n (tsk f n (j))) + 1) + 1))) (tde f n (tfd f n (tsk f n (tsk f n (tsk f n (twe f n (tsk f n (j))) + 1) + 1))) - tfd f n (tsk f n (tsk f n (tsk f n (twe f n (tsk f n (j))) + 1) + 1)))) (tsg f n (tsk f n (tsk f n (tsk f n (twe f n (tsk f n (j))) + 1) + 1))))), rfl, ⟨Or.inl ⟨by simp only [kAll, hR, hI, hD_, Option.bind_some, Option.bind_none]; rw [pif_pos hay_358], rfl, by omega, ⟨rfl, by omega⟩, vf_1, vf_203, (by rw [hcF, pk_uLs])⟩, (fun x hx => frf_1 x hx), (fun x hx => frf_203 x hx), (fun x hx => by rw [pk_uLn (by rw [hcF]; exact hx)]; exact frf_3 x hx), (fun _ _ => rfl), k_344, k_345, w_348, (fun j h11 h13 h14 h17 h18 => un_357 j h11 h13 h14 h17 h18)⟩, by rw [ht]; exact hP9, va_K.moved hW.alike hK9, hD9⟩, hS.F ht⟩) hS.2.2 dX9_kinds_225
                      · have hP9 := hP.sub (ws' := [(h0, .inr (11, mo g1_340)), (a9, .inl (cT, 400, .inl f)), (a0, .inl (cZ, 8, .inl tl)), (a2, .inl (cG, 248, .inl f_203)), (a3, .inl (cI, 248, .inl f_1)), (a6, .inl (cP, 248, .inr (.inl (vp_updL f_3 (nI F).toNatClampNeg (tvv (tvs f (tfd f n (tsk f n ((tsk f n (tsk f n (twe f n (tsk f n j)) + 1)) + 1))) (tde f n (tfd f n (tsk f n ((tsk f n (tsk f n (twe f n (tsk f n j)) + 1)) + 1))) - tfd f n (tsk f n ((tsk f n (tsk f n (twe f n (tsk f n j)) + 1)) + 1)))) (tsg f n (tsk f n ((tsk f n (tsk f n (twe f n (tsk f n j)) + 1)) + 1)))))))), (a7, .inl (cX, 2976, .inl fX))]) [5, 6, 0, 1, 2, 4, 3] rfl
                        have hD9 := hD.sub (ws' := [(h0, .inr (11, mo g1_340)), (a9, .inl (cT, 400, .inl f)), (a0, .inl (cZ, 8, .inl tl)), (a2, .inl (cG, 248, .inl f_203)), (a3, .inl (cI, 248, .inl f_1)), (a6, .inl (cP, 248, .inr (.inl (vp_updL f_3 (nI F).toNatClampNeg (tvv (tvs f (tfd f n (tsk f n ((tsk f n (tsk f n (twe f n (tsk f n j)) + 1)) + 1))) (tde f n (tfd f n (tsk f n ((tsk f n (tsk f n (twe f n (tsk f n j)) + 1)) + 1))) - tfd f n (tsk f n ((tsk f n (tsk f n (twe f n (tsk f n j)) + 1)) + 1)))) (tsg f n (tsk f n ((tsk f n (tsk f n (twe f n (tsk f n j)) + 1)) + 1)))))))), (a7, .inl (cX, 2976, .inl fX))]) [5, 6, 0, 1, 2, 4, 3] (by decide) rfl
                        have hK9 := hK.sub (tys' := []) [] rfl
                        exact W.vret hx hb hr (fun t ht hW => ⟨⟨(g1_340, (tsk f n (tde f n (tfd f n (tsk f n ((tsk f n (tsk f n (twe f n (tsk f n j)) + 1)) + 1))))), b1_342, (nI (tde f n (tfd f n (tsk f n ((tsk f n (tsk f n (twe f n (tsk f n j)) + 1)) + 1))))), (tde f n (tfd f n (tsk f n ((tsk f n (tsk f n (twe f n (tsk f n j)) + 1)) + 1)))), f_1, f_203, (vp_updL f_3 (nI F).toNatClampNeg (tvv (tvs f (tfd f n (tsk f n ((tsk f n (tsk f n (twe f n (tsk f n j)) + 1)) + 1))) (tde f n (tfd f n (tsk f n ((tsk f n (tsk f n (twe f n (tsk f n j)) + 1)) + 1))) - tfd f n (tsk f n ((tsk f n (tsk f n (twe f n (tsk f n j)) + 1)) + 1)))) (tsg f n (tsk f n ((tsk f n (tsk f n (twe f n (tsk f n j)) + 1)) + 1))))), fX, (-1), (tat f n (tsk f n (twe f n (tsk f n (j)))) - 48), (tvv (tvs f (tfd f n (tsk f n (tsk f n (tsk f n (twe f n (tsk f n (j))) + 1) + 1))) (tde f n (tfd f n (tsk f n (tsk f n (tsk f n (twe f n (tsk f n (j))) + 1) + 1))) - tfd f n (tsk f n (tsk f n (tsk f n (twe f n (tsk f n (j))) + 1) + 1)))) (tsg f n (tsk f n (tsk f n (tsk f n (twe f n (tsk f n (j))) + 1) + 1))))), rfl, ⟨Or.inr ⟨by simp only [kAll, hR, hI, hD_, Option.bind_some, Option.bind_none]; rw [pif_neg hay_358], hcy_358⟩, (fun x hx => frf_1 x hx), (fun x hx => frf_203 x hx), (fun x hx => by rw [pk_uLn (by rw [hcF]; exact hx)]; exact frf_3 x hx), (fun _ _ => rfl), k_344, k_345, w_348, (fun j h11 h13 h14 h17 h18 => un_357 j h11 h13 h14 h17 h18)⟩, by rw [ht]; exact hP9, va_K.moved hW.alike hK9, hD9⟩, hS.F ht⟩) hS.2.2 dX9_kinds_225
                    · have hD_ : kDef f n p2 (tsk f n (twe f n (tsk f n (j))) + 1) = none := by unfold kDef; rw [pif_pos (show tat f n (tsk f n (tsk f n (twe f n (tsk f n (j))) + 1)) = 61 ∧ p2 ≠ 6 from ⟨c_289, c_312⟩), pif_neg c_314, pif_neg (show ¬ cVal f n p2 (tsk f n (tsk f n (twe f n (tsk f n (j))) + 1) + 1) from hay_336)]
                      refine lv_aload_n hx hb dX9_kinds_212 rfl (lv_at hl 0 rfl) ?_
                      refine va_get (D := (dC, dI)) (ci := 11) (v := .int b1_319) (C := RX9) (T := TX9) (N := 60) hx hb hts iRX9 hown hK hP 4 rfl rfl 13 (by decide) (hts (.fieldLink RX9 135 "RecordBenchModel" "bad" "I") (by decide +kernel)) (fun _ h9 => h9) ((mo_get g1_317 (by decide)).trans (congrArg some k_324)) dX9_kinds_213 ?_
                      refine lv_if_ne (tgt := 225) hx hb dX9_kinds_216 (by decide) (fun c_359 => ?_) (fun c_359 => absurd c_359 hcy_336)
                      have hP9 := hP.sub (ws' := [(h0, .inr (11, mo g1_317)), (a9, .inl (cT, 400, .inl f)), (a0, .inl (cZ, 8, .inl tl)), (a2, .inl (cG, 248, .inl f_203)), (a3, .inl (cI, 248, .inl f_1)), (a6, .inl (cP, 248, .inr (.inl fP1_321))), (a7, .inl (cX, 2976, .inl fX))]) [4, 5, 0, 1, 2, 6, 3] rfl
                      have hD9 := hD.sub (ws' := [(h0, .inr (11, mo g1_317)), (a9, .inl (cT, 400, .inl f)), (a0, .inl (cZ, 8, .inl tl)), (a2, .inl (cG, 248, .inl f_203)), (a3, .inl (cI, 248, .inl f_1)), (a6, .inl (cP, 248, .inr (.inl fP1_321))), (a7, .inl (cX, 2976, .inl fX))]) [4, 5, 0, 1, 2, 6, 3] (by decide) rfl
                      have hK9 := hK.sub (tys' := []) [] rfl
                      exact W.vret hx hb hr (fun t ht hW => ⟨⟨(g1_317, j1_318, b1_319, x1_320, 0, f_1, f_203, fP1_321, fX, 0, 0, 0), rfl, ⟨Or.inr ⟨by simp only [kAll, hR, hI, hD_, Option.bind_some, Option.bind_none], hcy_336⟩, (fun x hx => frf_1 x hx), (fun x hx => frf_203 x hx), (fun x hx => (hdy_336 x (by rw [hcF]; exact hx)).trans (frf_3 x hx)), (fun _ _ => rfl), k_323, k_324, k_325, (fun j h11 h13 h14 h17 h18 => un_335 j h11 h13 h14 h17 h18)⟩, by rw [ht]; exact hP9, va_K.moved hW.alike hK9, hD9⟩, hS.F ht⟩) hS.2.2 dX9_kinds_225
                  · refine lv_aload_n hx hb dX9_kinds_198 rfl (lv_at hl 0 rfl) ?_
                    refine lv_iload_n hx hb dX9_kinds_199 rfl (lv_at hl 2 rfl) ?_
                    have hFc := va_free (wc := [(h0, .inr (11, mo g_313)), (a9, .inl (cT, 400, .inl f)), (a6, .inl (cP, 248, .inr (.inl f_3))), (a7, .inl (cX, 2976, .inl fX))]) hD hS hA [5, 6, 3, 4] rfl
                    refine va_callv (va_runV (As := [.int (nI F)]) (rest := []) ⟨hx, hb, hml, hown, hts⟩ (c_X9_textValue l dC dI h0 g_313 a9 cT f ((tsk f n (tsk f n (twe f n (tsk f n j)) + 1)) + 1) n a6 cP f_3 a7 cX fX F g_313h6 g_313h7 g_313h9 g_313h11 g_313h12 g_313h13 (by omega) (by omega) (hF) H.size) (cwV 1 hts gp_X9_kinds_X9_textValue_209 rfl rfl rfl (by decide +kernel) ⟨Nat.le_of_ble_eq_true rfl, Nat.le_of_ble_eq_true rfl⟩) ⟨Pr.blind _, va_recv hK hP (ci := 11) (q0 := 5) rfl rfl, fun U hU hW => ⟨rfl, Pr.at (hP.sub (ws' := [(h0, .inr (11, mo g_313)), (a9, .inl (cT, 400, .inl f)), (a6, .inl (cP, 248, .inr (.inl f_3))), (a7, .inl (cX, 2976, .inl fX))]) [5, 6, 3, 4] rfl) (hK.sub (tys' := [(cT, .int), (cP, .long), (cX, .int)]) [0, 4, 5] rfl) (hD.sub (ws' := [(h0, .inr (11, mo g_313)), (a9, .inl (cT, 400, .inl f)), (a6, .inl (cP, 248, .inr (.inl f_3))), (a7, .inl (cX, 2976, .inl fX))]) [5, 6, 3, 4] (by decide) rfl) hN hZ RO.nil hS hFc hU hW⟩⟩ rfl rfl hl.1 rfl (lv_room (Nat.le_of_ble_eq_true rfl)) dX9_kinds_200 ⟨Nat.le_of_ble_eq_true rfl, Nat.le_of_ble_eq_true rfl⟩) hS (fun q _ h => hFc q h) hFc (fun u t H1 locs ht hvm hw_361 hB hz1 hk1 hS => ?_)
                    obtain ⟨g1_362, j1_363, b1_364, fX1_365, fP1_366⟩ := u
                    obtain ⟨hP, hD, hK⟩ := Bq.join (wr := [(a0, .inl (cZ, 8, .inl tl)), (a2, .inl (cG, 248, .inl f_203)), (a3, .inl (cI, 248, .inl f_1))]) hB ht hvm hP hD [5, 6, 3, 4] [0, 1, 2] rfl rfl (by decide) (by decide) hk1 hFc hK
                    generalize H1 = H at hP hS ⊢
                    have hP : va_P (dC, dI) vwCl [(a0, .inl (cZ, 8, .inl tl)), (a2, .inl (cG, 248, .inl f_203)), (a3, .inl (cI, 248, .inl f_1)), (h0, .inr (11, mo g1_362)), (a9, .inl (cT, 400, .inl f)), (a6, .inl (cP, 248, .inr (.inl fP1_366))), (a7, .inl (cX, 2976, .inl fX1_365))] H := hP
                    have hD : va_D A [(a0, .inl (cZ, 8, .inl tl)), (a2, .inl (cG, 248, .inl f_203)), (a3, .inl (cI, 248, .inl f_1)), (h0, .inr (11, mo g1_362)), (a9, .inl (cT, 400, .inl f)), (a6, .inl (cP, 248, .inr (.inl fP1_366))), (a7, .inl (cX, 2976, .inl fX1_365))] := hD
                    have hK : va_K (dC, dI) vwCl [(cT, .int), (cZ, .boolean), (cG, .int), (cI, .int), (cP, .long), (cX, .int)] s := hK
                    try dsimp only at hw_361
                    obtain ⟨k_367, k_368, k_369, k_370⟩ := hw_361
                    have w_371 : g1_362 18 = .int (nI (tsk f n (twe f n (tsk f n j)) + 1)) := (k_370 18 (by decide) (by decide) (by decide) (by decide)).trans g_313h18
                    have w_372 : g1_362 0 = .ref a0 := (k_370 0 (by decide) (by decide) (by decide) (by decide)).trans g_313h0
                    have w_373 : g1_362 2 = .ref a2 := (k_370 2 (by decide) (by decide) (by decide) (by decide)).trans g_313h2
                    have w_374 : g1_362 3 = .ref a3 := (k_370 3 (by decide) (by decide) (by decide) (by decide)).trans g_313h3
                    have w_375 : g1_362 6 = .ref a6 := (k_370 6 (by decide) (by decide) (by decide) (by decide)).trans g_313h6
                    have w_376 : g1_362 7 = .ref a7 := (k_370 7 (by decide) (by decide) (by decide) (by decide)).trans g_313h7
                    have w_377 : g1_362 9 = .ref a9 := (k_370 9 (by decide) (by decide) (by decide) (by decide)).trans g_313h9
                    have w_378 : g1_362 12 = .int (nI n) := (k_370 12 (by decide) (by decide) (by decide) (by decide)).trans g_313h12
                    have w_379 : g1_362 26 = .long iw := (k_370 26 (by decide) (by decide) (by decide) (by decide)).trans g_313h26
                    have un_380 : ∀ j : Nat, j ≠ 11 → j ≠ 13 → j ≠ 14 → j ≠ 17 → j ≠ 18 → g1_362 j = g j := fun j h11 h13 h14 h17 h18 => (k_370 j h11 h13 h14 h17).trans (ung_313 j h11 h13 h14 h17 h18)
                    have := tsk_ge f n ((tsk f n (tsk f n (twe f n (tsk f n j)) + 1)) + 1)
                    have := tsk_le (f := f) (n := n) (j := (tsk f n (tsk f n (twe f n (tsk f n j)) + 1)) + 1) (by omega)
                    have := twe_ge f n (tsk f n ((tsk f n (tsk f n (twe f n (tsk f n j)) + 1)) + 1))
                    have := twe_le (f := f) (n := n) (j := tsk f n ((tsk f n (tsk f n (twe f n (tsk f n j)) + 1)) + 1)) (by omega)
                    have := twe_ge f n ((tsk f n (tsk f n (twe f n (tsk f n j)) + 1)) + 1)
                    have := twe_le (f := f) (n := n) (j := (tsk f n (tsk f n (twe f n (tsk f n j)) + 1)) + 1) (by omega)
                    have := tqe_ge f n (tsk f n ((tsk f n (tsk f n (twe f n (tsk f n j)) + 1)) + 1) + 1)
                    rcases k_367 with ⟨hay_381, rfl, rfl, hby_381, hcy_381, rfl⟩ | ⟨hay_381, hcy_381, hdy_381, hey_381⟩
                    · refine lv_goto (tgt := 212) hx hb dX9_kinds_203 (by decide) ?_
                      have hD_ : kDef f n p2 (tsk f n (twe f n (tsk f n (j))) + 1) = some (tqe f n (tsk f n (tsk f n (tsk f n (twe f n (tsk f n (j))) + 1) + 1) + 1) + 1, (nI (tqe f n (tsk f n (tsk f n (tsk f n (twe f n (tsk f n (j))) + 1) + 1) + 1) - (tsk f n (tsk f n (tsk f n (twe f n (tsk f n (j))) + 1) + 1) + 1))).toInt64) := by unfold kDef; rw [pif_pos (show tat f n (tsk f n (tsk f n (twe f n (tsk f n (j))) + 1)) = 61 ∧ p2 ≠ 6 from ⟨c_289, c_312⟩), pif_pos c_314, pif_pos (show cTxt f n (tsk f n (tsk f n (twe f n (tsk f n (j))) + 1) + 1) from hay_381)]
                      refine lv_aload_n hx hb dX9_kinds_212 rfl (lv_at hl 0 rfl) ?_
                      refine va_get (D := (dC, dI)) (ci := 11) (v := .int 0) (C := RX9) (T := TX9) (N := 60) hx hb hts iRX9 hown hK hP 3 rfl rfl 13 (by decide) (hts (.fieldLink RX9 135 "RecordBenchModel" "bad" "I") (by decide +kernel)) (fun _ h9 => h9) ((mo_get g1_362 (by decide)).trans (congrArg some k_369)) dX9_kinds_213 ?_
                      refine lv_if_ne (tgt := 225) hx hb dX9_kinds_216 (by decide) (fun c_382 => absurd (by decide) c_382) (fun c_382 => ?_)
                      refine lv_aload_n hx hb dX9_kinds_219 rfl (lv_at hl 0 rfl) ?_
                      refine lv_bipush (v := 59) hx hb dX9_kinds_220 (by decide) ?_
                      have hFc := va_free (wc := [(h0, .inr (11, mo g1_362)), (a9, .inl (cT, 400, .inl f))]) hD hS hA [3, 4] rfl
                      refine va_callv (va_runV (As := [.int 59]) (rest := []) ⟨hx, hb, hml, hown, hts⟩ (c_X9_sign l dC dI h0 g1_362 a9 cT f (tqe f n (tsk f n ((tsk f n (tsk f n (twe f n (tsk f n j)) + 1)) + 1) + 1) + 1) n 0 w_377 k_368 w_378 k_369 (by omega) (by omega) 59 (by decide) H.size) (cwV 1 hts gp_X9_kinds_X9_sign_191 rfl rfl rfl (by decide +kernel) ⟨Nat.le_of_ble_eq_true rfl, Nat.le_of_ble_eq_true rfl⟩) ⟨Pr.blind _, va_recv hK hP (ci := 11) (q0 := 3) rfl rfl, fun U hU hW => ⟨rfl, Pr.at (hP.sub (ws' := [(h0, .inr (11, mo g1_362)), (a9, .inl (cT, 400, .inl f))]) [3, 4] rfl) (hK.sub (tys' := [(cT, .int)]) [0] rfl) (hD.sub (ws' := [(h0, .inr (11, mo g1_362)), (a9, .inl (cT, 400, .inl f))]) [3, 4] (by decide) rfl) hN hZ RO.nil hS hFc hU hW⟩⟩ rfl rfl hl.1 rfl (lv_room (Nat.le_of_ble_eq_true rfl)) dX9_kinds_222 ⟨Nat.le_of_ble_eq_true rfl, Nat.le_of_ble_eq_true rfl⟩) hS (fun q _ h => hFc q h) hFc (fun u t H1 locs ht hvm hw_384 hB hz1 hk1 hS => ?_)
                      obtain ⟨g1_385, j1_386, b1_387⟩ := u
                      obtain ⟨hP, hD, hK⟩ := Bq.join (wr := [(a0, .inl (cZ, 8, .inl tl)), (a2, .inl (cG, 248, .inl f_203)), (a3, .inl (cI, 248, .inl f_1)), (a6, .inl (cP, 248, .inr (.inl (vp_updL f_3 (nI F).toNatClampNeg (nI (tqe f n (tsk f n ((tsk f n (tsk f n (twe f n (tsk f n j)) + 1)) + 1) + 1) - (tsk f n ((tsk f n (tsk f n (twe f n (tsk f n j)) + 1)) + 1) + 1))).toInt64)))), (a7, .inl (cX, 2976, .inl fX1_365))]) hB ht hvm hP hD [3, 4] [0, 1, 2, 5, 6] rfl rfl (by decide) (by decide) hk1 hFc hK
                      generalize H1 = H at hP hS ⊢
                      have hP : va_P (dC, dI) vwCl [(a0, .inl (cZ, 8, .inl tl)), (a2, .inl (cG, 248, .inl f_203)), (a3, .inl (cI, 248, .inl f_1)), (a6, .inl (cP, 248, .inr (.inl (vp_updL f_3 (nI F).toNatClampNeg (nI (tqe f n (tsk f n ((tsk f n (tsk f n (twe f n (tsk f n j)) + 1)) + 1) + 1) - (tsk f n ((tsk f n (tsk f n (twe f n (tsk f n j)) + 1)) + 1) + 1))).toInt64)))), (a7, .inl (cX, 2976, .inl fX1_365)), (h0, .inr (11, mo g1_385)), (a9, .inl (cT, 400, .inl f))] H := hP
                      have hD : va_D A [(a0, .inl (cZ, 8, .inl tl)), (a2, .inl (cG, 248, .inl f_203)), (a3, .inl (cI, 248, .inl f_1)), (a6, .inl (cP, 248, .inr (.inl (vp_updL f_3 (nI F).toNatClampNeg (nI (tqe f n (tsk f n ((tsk f n (tsk f n (twe f n (tsk f n j)) + 1)) + 1) + 1) - (tsk f n ((tsk f n (tsk f n (twe f n (tsk f n j)) + 1)) + 1) + 1))).toInt64)))), (a7, .inl (cX, 2976, .inl fX1_365)), (h0, .inr (11, mo g1_385)), (a9, .inl (cT, 400, .inl f))] := hD
                      have hK : va_K (dC, dI) vwCl [(cT, .int), (cZ, .boolean), (cG, .int), (cI, .int), (cP, .long), (cX, .int)] s := hK
                      try dsimp only at hw_384
                      obtain ⟨k_388, k_389, k_390, k_391, k_392⟩ := hw_384
                      have w_393 : g1_385 18 = .int (nI (tsk f n (twe f n (tsk f n j)) + 1)) := (k_392 18 (by decide) (by decide) (by decide) (by decide)).trans w_371
                      have w_394 : g1_385 0 = .ref a0 := (k_392 0 (by decide) (by decide) (by decide) (by decide)).trans w_372
                      have w_395 : g1_385 2 = .ref a2 := (k_392 2 (by decide) (by decide) (by decide) (by decide)).trans w_373
                      have w_396 : g1_385 3 = .ref a3 := (k_392 3 (by decide) (by decide) (by decide) (by decide)).trans w_374
                      have w_397 : g1_385 6 = .ref a6 := (k_392 6 (by decide) (by decide) (by decide) (by decide)).trans w_375
                      have w_398 : g1_385 7 = .ref a7 := (k_392 7 (by decide) (by decide) (by decide) (by decide)).trans w_376
                      have w_399 : g1_385 9 = .ref a9 := (k_392 9 (by decide) (by decide) (by decide) (by decide)).trans w_377
                      have w_400 : g1_385 12 = .int (nI n) := (k_392 12 (by decide) (by decide) (by decide) (by decide)).trans w_378
                      have w_401 : g1_385 26 = .long iw := (k_392 26 (by decide) (by decide) (by decide) (by decide)).trans w_379
                      have un_402 : ∀ j : Nat, j ≠ 11 → j ≠ 13 → j ≠ 14 → j ≠ 17 → j ≠ 18 → g1_385 j = g j := fun j h11 h13 h14 h17 h18 => (k_392 j h11 h13 h14 h17).trans (un_380 j h11 h13 h14 h17 h18)
                      have := tsk_ge f n (tqe f n (tsk f n ((tsk f n (tsk f n (twe f n (tsk f n j)) + 1)) + 1) + 1) + 1)
                      have := tsk_le (f := f) (n := n) (j := tqe f n (tsk f n ((tsk f n (tsk f n (twe f n (tsk f n j)) + 1)) + 1) + 1) + 1) (by omega)
                      have := twe_ge f n (tsk f n (tqe f n (tsk f n ((tsk f n (tsk f n (twe f n (tsk f n j)) + 1)) + 1) + 1) + 1))
                      have := twe_le (f := f) (n := n) (j := tsk f n (tqe f n (tsk f n ((tsk f n (tsk f n (twe f n (tsk f n j)) + 1)) + 1) + 1) + 1)) (by omega)
                      have := twe_ge f n (tqe f n (tsk f n ((tsk f n (tsk f n (twe f n (tsk f n j)) + 1)) + 1) + 1) + 1)
                      have := twe_le (f := f) (n := n) (j := tqe f n (tsk f n ((tsk f n (tsk f n (twe f n (tsk f n j)) + 1)) + 1) + 1) + 1) (by omega)
                      rcases k_388 with ⟨hay_403, hby_403, rfl, rfl⟩ | ⟨hay_403, rfl, hcy_403⟩
                      · have hP9 := hP.sub (ws' := [(h0, .inr (11, mo g1_385)), (a9, .inl (cT, 400, .inl f)), (a0, .inl (cZ, 8, .inl tl)), (a2, .inl (cG, 248, .inl f_203)), (a3, .inl (cI, 248, .inl f_1)), (a6, .inl (cP, 248, .inr (.inl (vp_updL f_3 (nI F).toNatClampNeg (nI (tqe f n (tsk f n ((tsk f n (tsk f n (twe f n (tsk f n j)) + 1)) + 1) + 1) - (tsk f n ((tsk f n (tsk f n (twe f n (tsk f n j)) + 1)) + 1) + 1))).toInt64)))), (a7, .inl (cX, 2976, .inl fX1_365))]) [5, 6, 0, 1, 2, 3, 4] rfl
                        have hD9 := hD.sub (ws' := [(h0, .inr (11, mo g1_385)), (a9, .inl (cT, 400, .inl f)), (a0, .inl (cZ, 8, .inl tl)), (a2, .inl (cG, 248, .inl f_203)), (a3, .inl (cI, 248, .inl f_1)), (a6, .inl (cP, 248, .inr (.inl (vp_updL f_3 (nI F).toNatClampNeg (nI (tqe f n (tsk f n ((tsk f n (tsk f n (twe f n (tsk f n j)) + 1)) + 1) + 1) - (tsk f n ((tsk f n (tsk f n (twe f n (tsk f n j)) + 1)) + 1) + 1))).toInt64)))), (a7, .inl (cX, 2976, .inl fX1_365))]) [5, 6, 0, 1, 2, 3, 4] (by decide) rfl
                        have hK9 := hK.sub (tys' := []) [] rfl
                        exact W.vret hx hb hr (fun t ht hW => ⟨⟨(g1_385, (tsk f n (tqe f n (tsk f n ((tsk f n (tsk f n (twe f n (tsk f n j)) + 1)) + 1) + 1) + 1) + 1), 0, (nI (tsk f n (twe f n (tsk f n j)) + 1)), (tsk f n (twe f n (tsk f n j)) + 1), f_1, f_203, (vp_updL f_3 (nI F).toNatClampNeg (nI (tqe f n (tsk f n ((tsk f n (tsk f n (twe f n (tsk f n j)) + 1)) + 1) + 1) - (tsk f n ((tsk f n (tsk f n (twe f n (tsk f n j)) + 1)) + 1) + 1))).toInt64), fX1_365, (-1), (tat f n (tsk f n (twe f n (tsk f n (j)))) - 48), ((nI (tqe f n (tsk f n (tsk f n (tsk f n (twe f n (tsk f n (j))) + 1) + 1) + 1) - (tsk f n (tsk f n (tsk f n (twe f n (tsk f n (j))) + 1) + 1) + 1))).toInt64)), rfl, ⟨Or.inl ⟨by simp only [kAll, hR, hI, hD_, Option.bind_some, Option.bind_none]; rw [pif_pos hay_403], rfl, by omega, ⟨rfl, by omega⟩, vf_1, vf_203, (by rw [hcF, pk_uLs])⟩, (fun x hx => frf_1 x hx), (fun x hx => frf_203 x hx), (fun x hx => by rw [pk_uLn (by rw [hcF]; exact hx)]; exact frf_3 x hx), hcy_381, k_389, k_390, w_393, (fun j h11 h13 h14 h17 h18 => un_402 j h11 h13 h14 h17 h18)⟩, by rw [ht]; exact hP9, va_K.moved hW.alike hK9, hD9⟩, hS.F ht⟩) hS.2.2 dX9_kinds_225
                      · have hP9 := hP.sub (ws' := [(h0, .inr (11, mo g1_385)), (a9, .inl (cT, 400, .inl f)), (a0, .inl (cZ, 8, .inl tl)), (a2, .inl (cG, 248, .inl f_203)), (a3, .inl (cI, 248, .inl f_1)), (a6, .inl (cP, 248, .inr (.inl (vp_updL f_3 (nI F).toNatClampNeg (nI (tqe f n (tsk f n ((tsk f n (tsk f n (twe f n (tsk f n j)) + 1)) + 1) + 1) - (tsk f n ((tsk f n (tsk f n (twe f n (tsk f n j)) + 1)) + 1) + 1))).toInt64)))), (a7, .inl (cX, 2976, .inl fX1_365))]) [5, 6, 0, 1, 2, 3, 4] rfl
                        have hD9 := hD.sub (ws' := [(h0, .inr (11, mo g1_385)), (a9, .inl (cT, 400, .inl f)), (a0, .inl (cZ, 8, .inl tl)), (a2, .inl (cG, 248, .inl f_203)), (a3, .inl (cI, 248, .inl f_1)), (a6, .inl (cP, 248, .inr (.inl (vp_updL f_3 (nI F).toNatClampNeg (nI (tqe f n (tsk f n ((tsk f n (tsk f n (twe f n (tsk f n j)) + 1)) + 1) + 1) - (tsk f n ((tsk f n (tsk f n (twe f n (tsk f n j)) + 1)) + 1) + 1))).toInt64)))), (a7, .inl (cX, 2976, .inl fX1_365))]) [5, 6, 0, 1, 2, 3, 4] (by decide) rfl
                        have hK9 := hK.sub (tys' := []) [] rfl
                        exact W.vret hx hb hr (fun t ht hW => ⟨⟨(g1_385, (tsk f n (tqe f n (tsk f n ((tsk f n (tsk f n (twe f n (tsk f n j)) + 1)) + 1) + 1) + 1)), b1_387, (nI (tsk f n (twe f n (tsk f n j)) + 1)), (tsk f n (twe f n (tsk f n j)) + 1), f_1, f_203, (vp_updL f_3 (nI F).toNatClampNeg (nI (tqe f n (tsk f n ((tsk f n (tsk f n (twe f n (tsk f n j)) + 1)) + 1) + 1) - (tsk f n ((tsk f n (tsk f n (twe f n (tsk f n j)) + 1)) + 1) + 1))).toInt64), fX1_365, (-1), (tat f n (tsk f n (twe f n (tsk f n (j)))) - 48), ((nI (tqe f n (tsk f n (tsk f n (tsk f n (twe f n (tsk f n (j))) + 1) + 1) + 1) - (tsk f n (tsk f n (tsk f n (twe f n (tsk f n (j))) + 1) + 1) + 1))).toInt64)), rfl, ⟨Or.inr ⟨by simp only [kAll, hR, hI, hD_, Option.bind_some, Option.bind_none]; rw [pif_neg hay_403], hcy_403⟩, (fun x hx => frf_1 x hx), (fun x hx => frf_203 x hx), (fun x hx => by rw [pk_uLn (by rw [hcF]; exact hx)]; exact frf_3 x hx), hcy_381, k_389, k_390, w_393, (fun j h11 h13 h14 h17 h18 => un_402 j h11 h13 h14 h17 h18)⟩, by rw [ht]; exact hP9, va_K.moved hW.alike hK9, hD9⟩, hS.F ht⟩) hS.2.2 dX9_kinds_225
                    · refine lv_goto (tgt := 212) hx hb dX9_kinds_203 (by decide) ?_
                      have hD_ : kDef f n p2 (tsk f n (twe f n (tsk f n (j))) + 1) = none := by unfold kDef; rw [pif_pos (show tat f n (tsk f n (tsk f n (twe f n (tsk f n (j))) + 1)) = 61 ∧ p2 ≠ 6 from ⟨c_289, c_312⟩), pif_pos c_314, pif_neg (show ¬ cTxt f n (tsk f n (tsk f n (twe f n (tsk f n (j))) + 1) + 1) from hay_381)]
                      refine lv_aload_n hx hb dX9_kinds_212 rfl (lv_at hl 0 rfl) ?_
                      refine va_get (D := (dC, dI)) (ci := 11) (v := .int b1_364) (C := RX9) (T := TX9) (N := 60) hx hb hts iRX9 hown hK hP 3 rfl rfl 13 (by decide) (hts (.fieldLink RX9 135 "RecordBenchModel" "bad" "I") (by decide +kernel)) (fun _ h9 => h9) ((mo_get g1_362 (by decide)).trans (congrArg some k_369)) dX9_kinds_213 ?_
                      refine lv_if_ne (tgt := 225) hx hb dX9_kinds_216 (by decide) (fun c_404 => ?_) (fun c_404 => absurd c_404 hcy_381)
                      have hP9 := hP.sub (ws' := [(h0, .inr (11, mo g1_362)), (a9, .inl (cT, 400, .inl f)), (a0, .inl (cZ, 8, .inl tl)), (a2, .inl (cG, 248, .inl f_203)), (a3, .inl (cI, 248, .inl f_1)), (a6, .inl (cP, 248, .inr (.inl fP1_366))), (a7, .inl (cX, 2976, .inl fX1_365))]) [3, 4, 0, 1, 2, 5, 6] rfl
                      have hD9 := hD.sub (ws' := [(h0, .inr (11, mo g1_362)), (a9, .inl (cT, 400, .inl f)), (a0, .inl (cZ, 8, .inl tl)), (a2, .inl (cG, 248, .inl f_203)), (a3, .inl (cI, 248, .inl f_1)), (a6, .inl (cP, 248, .inr (.inl fP1_366))), (a7, .inl (cX, 2976, .inl fX1_365))]) [3, 4, 0, 1, 2, 5, 6] (by decide) rfl
                      have hK9 := hK.sub (tys' := []) [] rfl
                      exact W.vret hx hb hr (fun t ht hW => ⟨⟨(g1_362, j1_363, b1_364, (nI (tsk f n (twe f n (tsk f n j)) + 1)), (tsk f n (twe f n (tsk f n j)) + 1), f_1, f_203, fP1_366, fX1_365, 0, 0, 0), rfl, ⟨Or.inr ⟨by simp only [kAll, hR, hI, hD_, Option.bind_some, Option.bind_none], hcy_381⟩, (fun x hx => frf_1 x hx), (fun x hx => frf_203 x hx), (fun x hx => (hey_381 x (by rw [hcF]; exact hx)).trans (frf_3 x hx)), hdy_381, k_368, k_369, w_371, (fun j h11 h13 h14 h17 h18 => un_380 j h11 h13 h14 h17 h18)⟩, by rw [ht]; exact hP9, va_K.moved hW.alike hK9, hD9⟩, hS.F ht⟩) hS.2.2 dX9_kinds_225
              · have hI : kIn f n iw (j) (nI e0) = none := by unfold kIn; rw [pif_pos ((lg_cmp_eq _ _).mp c_24), pif_neg (show ¬ cIn f n (tsk f n (j)) (nI e0) from fun h => h.2.2.2 hay_269)]
                refine lv_aload_n hx hb dX9_kinds_161 rfl (lv_at hl 0 rfl) ?_
                refine va_get (D := (dC, dI)) (ci := 11) (v := .int b1_253) (C := RX9) (T := TX9) (N := 60) hx hb hts iRX9 hown hK hP 5 rfl rfl 13 (by decide) (hts (.fieldLink RX9 135 "RecordBenchModel" "bad" "I") (by decide +kernel)) (fun _ h9 => h9) ((mo_get g1_252 (by decide)).trans (congrArg some k_255)) dX9_kinds_162 ?_
                refine lv_if_ne (tgt := 212) hx hb dX9_kinds_165 (by decide) (fun c_405 => ?_) (fun c_405 => absurd c_405 hcy_269)
                refine lv_aload_n hx hb dX9_kinds_212 rfl (lv_at hl 0 rfl) ?_
                refine va_get (D := (dC, dI)) (ci := 11) (v := .int b1_253) (C := RX9) (T := TX9) (N := 60) hx hb hts iRX9 hown hK hP 5 rfl rfl 13 (by decide) (hts (.fieldLink RX9 135 "RecordBenchModel" "bad" "I") (by decide +kernel)) (fun _ h9 => h9) ((mo_get g1_252 (by decide)).trans (congrArg some k_255)) dX9_kinds_213 ?_
                refine lv_if_ne (tgt := 225) hx hb dX9_kinds_216 (by decide) (fun c_406 => ?_) (fun c_406 => absurd c_406 hcy_269)
                have hP9 := hP.sub (ws' := [(h0, .inr (11, mo g1_252)), (a9, .inl (cT, 400, .inl f)), (a0, .inl (cZ, 8, .inl tl)), (a2, .inl (cG, 248, .inl f_203)), (a3, .inl (cI, 248, .inl f_1)), (a6, .inl (cP, 248, .inr (.inl f_3))), (a7, .inl (cX, 2976, .inl fX))]) [5, 6, 0, 1, 2, 3, 4] rfl
                have hD9 := hD.sub (ws' := [(h0, .inr (11, mo g1_252)), (a9, .inl (cT, 400, .inl f)), (a0, .inl (cZ, 8, .inl tl)), (a2, .inl (cG, 248, .inl f_203)), (a3, .inl (cI, 248, .inl f_1)), (a6, .inl (cP, 248, .inr (.inl f_3))), (a7, .inl (cX, 2976, .inl fX))]) [5, 6, 0, 1, 2, 3, 4] (by decide) rfl
                have hK9 := hK.sub (tys' := []) [] rfl
                exact W.vret hx hb hr (fun t ht hW => ⟨⟨(g1_252, (tsk f n (twe f n (tsk f n j)) + 1), b1_253, (nI (tsk f n (twe f n (tsk f n j)) + 1)), (tsk f n (twe f n (tsk f n j)) + 1), f_1, f_203, f_3, fX, 0, 0, 0), rfl, ⟨Or.inr ⟨by simp only [kAll, hR, hI, Option.bind_some, Option.bind_none], hcy_269⟩, (fun x hx => frf_1 x hx), (fun x hx => frf_203 x hx), (fun x hx => frf_3 x hx), (fun _ _ => rfl), w_257, k_255, w_259, (fun j h11 h13 h14 h17 h18 => un_268 j h11 h13 h14 h17 h18)⟩, by rw [ht]; exact hP9, va_K.moved hW.alike hK9, hD9⟩, hS.F ht⟩) hS.2.2 dX9_kinds_225
            · refine lv_aload_n hx hb dX9_kinds_148 rfl (lv_at hl 0 rfl) ?_
              refine lv_iconst (v := 1) hx hb dX9_kinds_149 (by decide) ?_
              refine lv_aload_n hx hb dX9_kinds_150 rfl (lv_at hl 0 rfl) ?_
              refine va_get (D := (dC, dI)) (ci := 11) (v := .int (nI (tsk f n (twe f n (tsk f n j))))) (C := RX9) (T := TX9) (N := 60) hx hb hts iRX9 hown hK hP 5 rfl rfl 17 (by decide) (hts (.fieldLink RX9 147 "RecordBenchModel" "begun" "I") (by decide +kernel)) (fun _ h9 => h9) ((mo_get g1_183 (by decide)).trans (congrArg some k_190)) dX9_kinds_151 ?_
              have hFc := va_free (wc := [(h0, .inr (11, mo g1_183))]) hD hS hA [5] rfl
              refine va_callv (va_runV (As := [.int 1, .int (nI (tsk f n (twe f n (tsk f n j))))]) (rest := []) ⟨hx, hb, hml, hown, hts⟩ (c_X9_fail l dC dI h0 g1_183 0 k_189 1 (nI (tsk f n (twe f n (tsk f n j)))) (by decide) H.size) (cwV 2 hts gp_X9_kinds_X9_fail_154 rfl rfl rfl (by decide +kernel) ⟨Nat.le_of_ble_eq_true rfl, Nat.le_of_ble_eq_true rfl⟩) ⟨Pr.blind _, va_recv hK hP (ci := 11) (q0 := 5) rfl rfl, fun U hU hW => ⟨rfl, Pr.at (hP.sub (ws' := [(h0, .inr (11, mo g1_183))]) [5] rfl) (hK.sub (tys' := []) [] rfl) (hD.sub (ws' := [(h0, .inr (11, mo g1_183))]) [5] (by decide) rfl) hN hZ RO.nil hS hFc hU hW⟩⟩ rfl rfl hl.1 rfl (lv_room (Nat.le_of_ble_eq_true rfl)) dX9_kinds_154 ⟨Nat.le_of_ble_eq_true rfl, Nat.le_of_ble_eq_true rfl⟩) hS (fun q _ h => hFc q h) hFc (fun u t H1 locs ht hvm hw_408 hB hz1 hk1 hS => ?_)
              obtain ⟨g1_409, b1_410⟩ := u
              obtain ⟨hP, hD, hK⟩ := Bq.join (wr := [(a0, .inl (cZ, 8, .inl tl)), (a2, .inl (cG, 248, .inl f_203)), (a3, .inl (cI, 248, .inl f_1)), (a6, .inl (cP, 248, .inr (.inl f_3))), (a7, .inl (cX, 2976, .inl fX)), (a9, .inl (cT, 400, .inl f))]) hB ht hvm hP hD [5] [0, 1, 2, 3, 4, 6] rfl rfl (by decide) (by decide) hk1 hFc hK
              generalize H1 = H at hP hS ⊢
              have hP : va_P (dC, dI) vwCl [(a0, .inl (cZ, 8, .inl tl)), (a2, .inl (cG, 248, .inl f_203)), (a3, .inl (cI, 248, .inl f_1)), (a6, .inl (cP, 248, .inr (.inl f_3))), (a7, .inl (cX, 2976, .inl fX)), (a9, .inl (cT, 400, .inl f)), (h0, .inr (11, mo g1_409))] H := hP
              have hD : va_D A [(a0, .inl (cZ, 8, .inl tl)), (a2, .inl (cG, 248, .inl f_203)), (a3, .inl (cI, 248, .inl f_1)), (a6, .inl (cP, 248, .inr (.inl f_3))), (a7, .inl (cX, 2976, .inl fX)), (a9, .inl (cT, 400, .inl f)), (h0, .inr (11, mo g1_409))] := hD
              have hK : va_K (dC, dI) vwCl [(cT, .int), (cZ, .boolean), (cG, .int), (cI, .int), (cP, .long), (cX, .int)] s := hK
              try dsimp only at hw_408
              obtain ⟨k_411, k_412, k_413⟩ := hw_408
              have w_414 : g1_409 11 = .int (nI (tsk f n (twe f n (tsk f n j)) + 1)) := (k_413 11 (by decide) (by decide)).trans k_188
              have w_415 : g1_409 17 = .int (nI (tsk f n (twe f n (tsk f n j)))) := (k_413 17 (by decide) (by decide)).trans k_190
              have w_416 : g1_409 18 = .int (nI (tsk f n (twe f n (tsk f n j)) + 1)) := (k_413 18 (by decide) (by decide)).trans k_191
              have w_417 : g1_409 0 = .ref a0 := (k_413 0 (by decide) (by decide)).trans w_193
              have w_418 : g1_409 2 = .ref a2 := (k_413 2 (by decide) (by decide)).trans w_194
              have w_419 : g1_409 3 = .ref a3 := (k_413 3 (by decide) (by decide)).trans w_195
              have w_420 : g1_409 6 = .ref a6 := (k_413 6 (by decide) (by decide)).trans w_196
              have w_421 : g1_409 7 = .ref a7 := (k_413 7 (by decide) (by decide)).trans w_197
              have w_422 : g1_409 9 = .ref a9 := (k_413 9 (by decide) (by decide)).trans w_198
              have w_423 : g1_409 12 = .int (nI n) := (k_413 12 (by decide) (by decide)).trans w_199
              have w_424 : g1_409 26 = .long iw := (k_413 26 (by decide) (by decide)).trans w_200
              have un_425 : ∀ j : Nat, j ≠ 11 → j ≠ 13 → j ≠ 14 → j ≠ 17 → j ≠ 18 → g1_409 j = g j := fun j h11 h13 h14 h17 h18 => (k_413 j h13 h14).trans (un_201 j h11 h13 h14 h17 h18)
              refine lv_aload_n hx hb dX9_kinds_157 rfl (lv_at hl 0 rfl) ?_
              have hFc := va_free (wc := [(h0, .inr (11, mo g1_409)), (a9, .inl (cT, 400, .inl f))]) hD hS hA [6, 5] rfl
              refine va_callv (va_runV (As := []) (rest := []) ⟨hx, hb, hml, hown, hts⟩ (c_X9_ends l dC dI h0 g1_409 a9 cT f (tsk f n (twe f n (tsk f n j)) + 1) n b1_410 w_422 w_414 w_423 k_412 (by omega) (by omega) H.size) (cwV 0 hts gp_X9_kinds_X9_ends_206 rfl rfl rfl (by decide +kernel) ⟨Nat.le_of_ble_eq_true rfl, Nat.le_of_ble_eq_true rfl⟩) ⟨Pr.blind _, va_recv hK hP (ci := 11) (q0 := 6) rfl rfl, fun U hU hW => ⟨rfl, Pr.at (hP.sub (ws' := [(h0, .inr (11, mo g1_409)), (a9, .inl (cT, 400, .inl f))]) [6, 5] rfl) (hK.sub (tys' := [(cT, .int)]) [0] rfl) (hD.sub (ws' := [(h0, .inr (11, mo g1_409)), (a9, .inl (cT, 400, .inl f))]) [6, 5] (by decide) rfl) hN hZ RO.nil hS hFc hU hW⟩⟩ rfl rfl hl.1 rfl (lv_room (Nat.le_of_ble_eq_true rfl)) dX9_kinds_158 ⟨Nat.le_of_ble_eq_true rfl, Nat.le_of_ble_eq_true rfl⟩) hS (fun q _ h => hFc q h) hFc (fun u t H1 locs ht hvm hw_427 hB hz1 hk1 hS => ?_)
              obtain ⟨g1_428, b1_429⟩ := u
              obtain ⟨hP, hD, hK⟩ := Bq.join (wr := [(a0, .inl (cZ, 8, .inl tl)), (a2, .inl (cG, 248, .inl f_203)), (a3, .inl (cI, 248, .inl f_1)), (a6, .inl (cP, 248, .inr (.inl f_3))), (a7, .inl (cX, 2976, .inl fX))]) hB ht hvm hP hD [6, 5] [0, 1, 2, 3, 4] rfl rfl (by decide) (by decide) hk1 hFc hK
              generalize H1 = H at hP hS ⊢
              have hP : va_P (dC, dI) vwCl [(a0, .inl (cZ, 8, .inl tl)), (a2, .inl (cG, 248, .inl f_203)), (a3, .inl (cI, 248, .inl f_1)), (a6, .inl (cP, 248, .inr (.inl f_3))), (a7, .inl (cX, 2976, .inl fX)), (h0, .inr (11, mo g1_428)), (a9, .inl (cT, 400, .inl f))] H := hP
              have hD : va_D A [(a0, .inl (cZ, 8, .inl tl)), (a2, .inl (cG, 248, .inl f_203)), (a3, .inl (cI, 248, .inl f_1)), (a6, .inl (cP, 248, .inr (.inl f_3))), (a7, .inl (cX, 2976, .inl fX)), (h0, .inr (11, mo g1_428)), (a9, .inl (cT, 400, .inl f))] := hD
              have hK : va_K (dC, dI) vwCl [(cT, .int), (cZ, .boolean), (cG, .int), (cI, .int), (cP, .long), (cX, .int)] s := hK
              try dsimp only at hw_427
              obtain ⟨k_430, k_431, k_432⟩ := hw_427
              have w_433 : g1_428 11 = .int (nI (tsk f n (twe f n (tsk f n j)) + 1)) := (k_432 11 (by decide) (by decide)).trans w_414
              have w_434 : g1_428 17 = .int (nI (tsk f n (twe f n (tsk f n j)))) := (k_432 17 (by decide) (by decide)).trans w_415
              have w_435 : g1_428 18 = .int (nI (tsk f n (twe f n (tsk f n j)) + 1)) := (k_432 18 (by decide) (by decide)).trans w_416
              have w_436 : g1_428 0 = .ref a0 := (k_432 0 (by decide) (by decide)).trans w_417
              have w_437 : g1_428 2 = .ref a2 := (k_432 2 (by decide) (by decide)).trans w_418
              have w_438 : g1_428 3 = .ref a3 := (k_432 3 (by decide) (by decide)).trans w_419
              have w_439 : g1_428 6 = .ref a6 := (k_432 6 (by decide) (by decide)).trans w_420
              have w_440 : g1_428 7 = .ref a7 := (k_432 7 (by decide) (by decide)).trans w_421
              have w_441 : g1_428 9 = .ref a9 := (k_432 9 (by decide) (by decide)).trans w_422
              have w_442 : g1_428 12 = .int (nI n) := (k_432 12 (by decide) (by decide)).trans w_423
              have w_443 : g1_428 26 = .long iw := (k_432 26 (by decide) (by decide)).trans w_424
              have un_444 : ∀ j : Nat, j ≠ 11 → j ≠ 13 → j ≠ 14 → j ≠ 17 → j ≠ 18 → g1_428 j = g j := fun j h11 h13 h14 h17 h18 => (k_432 j h13 h14).trans (un_425 j h11 h13 h14 h17 h18)
              have := tsk_ge f n (tsk f n (twe f n (tsk f n j)) + 1)
              have := tsk_le (f := f) (n := n) (j := tsk f n (twe f n (tsk f n j)) + 1) (by omega)
              have := twe_ge f n (tsk f n (tsk f n (twe f n (tsk f n j)) + 1))
              have := twe_le (f := f) (n := n) (j := tsk f n (tsk f n (twe f n (tsk f n j)) + 1)) (by omega)
              have := twe_ge f n (tsk f n (twe f n (tsk f n j)) + 1)
              have := twe_le (f := f) (n := n) (j := tsk f n (twe f n (tsk f n j)) + 1) (by omega)
              rcases k_430 with ⟨hay_445, rfl⟩ | ⟨hay_445, hcy_445⟩
              · have hI : kIn f n iw (j) (nI e0) = none := by unfold kIn; rw [pif_pos ((lg_cmp_eq _ _).mp c_24), pif_neg (show ¬ cIn f n (tsk f n (j)) (nI e0) from fun h => c_249 h.2.2.1.2)]
                refine lv_aload_n hx hb dX9_kinds_161 rfl (lv_at hl 0 rfl) ?_
                refine va_get (D := (dC, dI)) (ci := 11) (v := .int b1_410) (C := RX9) (T := TX9) (N := 60) hx hb hts iRX9 hown hK hP 5 rfl rfl 13 (by decide) (hts (.fieldLink RX9 135 "RecordBenchModel" "bad" "I") (by decide +kernel)) (fun _ h9 => h9) ((mo_get g1_428 (by decide)).trans (congrArg some k_431)) dX9_kinds_162 ?_
                refine lv_if_ne (tgt := 212) hx hb dX9_kinds_165 (by decide) (fun c_446 => ?_) (fun c_446 => absurd c_446 k_411)
                refine lv_aload_n hx hb dX9_kinds_212 rfl (lv_at hl 0 rfl) ?_
                refine va_get (D := (dC, dI)) (ci := 11) (v := .int b1_410) (C := RX9) (T := TX9) (N := 60) hx hb hts iRX9 hown hK hP 5 rfl rfl 13 (by decide) (hts (.fieldLink RX9 135 "RecordBenchModel" "bad" "I") (by decide +kernel)) (fun _ h9 => h9) ((mo_get g1_428 (by decide)).trans (congrArg some k_431)) dX9_kinds_213 ?_
                refine lv_if_ne (tgt := 225) hx hb dX9_kinds_216 (by decide) (fun c_447 => ?_) (fun c_447 => absurd c_447 k_411)
                have hP9 := hP.sub (ws' := [(h0, .inr (11, mo g1_428)), (a9, .inl (cT, 400, .inl f)), (a0, .inl (cZ, 8, .inl tl)), (a2, .inl (cG, 248, .inl f_203)), (a3, .inl (cI, 248, .inl f_1)), (a6, .inl (cP, 248, .inr (.inl f_3))), (a7, .inl (cX, 2976, .inl fX))]) [5, 6, 0, 1, 2, 3, 4] rfl
                have hD9 := hD.sub (ws' := [(h0, .inr (11, mo g1_428)), (a9, .inl (cT, 400, .inl f)), (a0, .inl (cZ, 8, .inl tl)), (a2, .inl (cG, 248, .inl f_203)), (a3, .inl (cI, 248, .inl f_1)), (a6, .inl (cP, 248, .inr (.inl f_3))), (a7, .inl (cX, 2976, .inl fX))]) [5, 6, 0, 1, 2, 3, 4] (by decide) rfl
                have hK9 := hK.sub (tys' := []) [] rfl
                exact W.vret hx hb hr (fun t ht hW => ⟨⟨(g1_428, (tsk f n (twe f n (tsk f n j)) + 1), b1_410, (nI (tsk f n (twe f n (tsk f n j)) + 1)), (tsk f n (twe f n (tsk f n j)) + 1), f_1, f_203, f_3, fX, 0, 0, 0), rfl, ⟨Or.inr ⟨by simp only [kAll, hR, hI, Option.bind_some, Option.bind_none], k_411⟩, (fun x hx => frf_1 x hx), (fun x hx => frf_203 x hx), (fun x hx => frf_3 x hx), (fun _ _ => rfl), w_433, k_431, w_435, (fun j h11 h13 h14 h17 h18 => un_444 j h11 h13 h14 h17 h18)⟩, by rw [ht]; exact hP9, va_K.moved hW.alike hK9, hD9⟩, hS.F ht⟩) hS.2.2 dX9_kinds_225
              · have hI : kIn f n iw (j) (nI e0) = none := by unfold kIn; rw [pif_pos ((lg_cmp_eq _ _).mp c_24), pif_neg (show ¬ cIn f n (tsk f n (j)) (nI e0) from fun h => c_249 h.2.2.1.2)]
                refine lv_aload_n hx hb dX9_kinds_161 rfl (lv_at hl 0 rfl) ?_
                refine va_get (D := (dC, dI)) (ci := 11) (v := .int b1_429) (C := RX9) (T := TX9) (N := 60) hx hb hts iRX9 hown hK hP 5 rfl rfl 13 (by decide) (hts (.fieldLink RX9 135 "RecordBenchModel" "bad" "I") (by decide +kernel)) (fun _ h9 => h9) ((mo_get g1_428 (by decide)).trans (congrArg some k_431)) dX9_kinds_162 ?_
                refine lv_if_ne (tgt := 212) hx hb dX9_kinds_165 (by decide) (fun c_448 => ?_) (fun c_448 => absurd c_448 hcy_445)
                refine lv_aload_n hx hb dX9_kinds_212 rfl (lv_at hl 0 rfl) ?_
                refine va_get (D := (dC, dI)) (ci := 11) (v := .int b1_429) (C := RX9) (T := TX9) (N := 60) hx hb hts iRX9 hown hK hP 5 rfl rfl 13 (by decide) (hts (.fieldLink RX9 135 "RecordBenchModel" "bad" "I") (by decide +kernel)) (fun _ h9 => h9) ((mo_get g1_428 (by decide)).trans (congrArg some k_431)) dX9_kinds_213 ?_
                refine lv_if_ne (tgt := 225) hx hb dX9_kinds_216 (by decide) (fun c_449 => ?_) (fun c_449 => absurd c_449 hcy_445)
                have hP9 := hP.sub (ws' := [(h0, .inr (11, mo g1_428)), (a9, .inl (cT, 400, .inl f)), (a0, .inl (cZ, 8, .inl tl)), (a2, .inl (cG, 248, .inl f_203)), (a3, .inl (cI, 248, .inl f_1)), (a6, .inl (cP, 248, .inr (.inl f_3))), (a7, .inl (cX, 2976, .inl fX))]) [5, 6, 0, 1, 2, 3, 4] rfl
                have hD9 := hD.sub (ws' := [(h0, .inr (11, mo g1_428)), (a9, .inl (cT, 400, .inl f)), (a0, .inl (cZ, 8, .inl tl)), (a2, .inl (cG, 248, .inl f_203)), (a3, .inl (cI, 248, .inl f_1)), (a6, .inl (cP, 248, .inr (.inl f_3))), (a7, .inl (cX, 2976, .inl fX))]) [5, 6, 0, 1, 2, 3, 4] (by decide) rfl
                have hK9 := hK.sub (tys' := []) [] rfl
                exact W.vret hx hb hr (fun t ht hW => ⟨⟨(g1_428, (tsk f n (twe f n (tsk f n j)) + 1), b1_429, (nI (tsk f n (twe f n (tsk f n j)) + 1)), (tsk f n (twe f n (tsk f n j)) + 1), f_1, f_203, f_3, fX, 0, 0, 0), rfl, ⟨Or.inr ⟨by simp only [kAll, hR, hI, Option.bind_some, Option.bind_none], hcy_445⟩, (fun x hx => frf_1 x hx), (fun x hx => frf_203 x hx), (fun x hx => frf_3 x hx), (fun _ _ => rfl), w_433, k_431, w_435, (fun j h11 h13 h14 h17 h18 => un_444 j h11 h13 h14 h17 h18)⟩, by rw [ht]; exact hP9, va_K.moved hW.alike hK9, hD9⟩, hS.F ht⟩) hS.2.2 dX9_kinds_225
        · refine W.eq (g2 := F0 m 120 ls [.int 0, .int (nI F), .ref a2]) rfl ?_
          refine va_iast hx hb hK hP hD hS 1 2 rfl rfl (vp_in_nI hF (by decide)) dX9_kinds_120 (fun H locs hP hD hS => ?_)
          rw [hcF] at hP hD
          obtain ⟨f_450, ef_450⟩ : ∃ y : Nat → Int32, y = upd f_2 F 0 := ⟨_, rfl⟩
          have hP : va_P (dC, dI) vwCl [(a0, .inl (cZ, 8, .inl tl)), (a2, .inl (cG, 248, .inl f_450)), (a3, .inl (cI, 248, .inl f_1)), (a6, .inl (cP, 248, .inr (.inl f_3))), (a7, .inl (cX, 2976, .inl fX)), (h0, .inr (11, mo g1_183)), (a9, .inl (cT, 400, .inl f))] H := by rw [ef_450]; exact hP
          have hD : va_D A [(a0, .inl (cZ, 8, .inl tl)), (a2, .inl (cG, 248, .inl f_450)), (a3, .inl (cI, 248, .inl f_1)), (a6, .inl (cP, 248, .inr (.inl f_3))), (a7, .inl (cX, 2976, .inl fX)), (h0, .inr (11, mo g1_183)), (a9, .inl (cT, 400, .inl f))] := by rw [ef_450]; exact hD
          have vf_450 : f_450 F = 0 := by rw [ef_450, pk_us]
          have frf_450 : ∀ x : Nat, x ≠ F → f_450 x = fG x := fun x hx => by rw [ef_450, pk_un hx]; exact frf_2 x hx
          refine lv_aload_n hx hb dX9_kinds_121 rfl (lv_at hl 0 rfl) ?_
          refine va_get (D := (dC, dI)) (ci := 11) (v := .int b1_185) (C := RX9) (T := TX9) (N := 60) hx hb hts iRX9 hown hK hP 5 rfl rfl 13 (by decide) (hts (.fieldLink RX9 135 "RecordBenchModel" "bad" "I") (by decide +kernel)) (fun _ h9 => h9) ((mo_get g1_183 (by decide)).trans (congrArg some k_189)) dX9_kinds_122 ?_
          refine lv_if_ne (tgt := 157) hx hb dX9_kinds_125 (by decide) (fun c_451 => ?_) (fun c_451 => absurd c_451 hcy_202)
          refine lv_aload_n hx hb dX9_kinds_157 rfl (lv_at hl 0 rfl) ?_
          have hFc := va_free (wc := [(h0, .inr (11, mo g1_183)), (a9, .inl (cT, 400, .inl f))]) hD hS hA [5, 6] rfl
          refine va_callv (va_runV (As := []) (rest := []) ⟨hx, hb, hml, hown, hts⟩ (c_X9_ends l dC dI h0 g1_183 a9 cT f (tsk f n (twe f n (tsk f n j))) n b1_185 w_198 k_188 w_199 k_189 (by omega) (by omega) H.size) (cwV 0 hts gp_X9_kinds_X9_ends_206 rfl rfl rfl (by decide +kernel) ⟨Nat.le_of_ble_eq_true rfl, Nat.le_of_ble_eq_true rfl⟩) ⟨Pr.blind _, va_recv hK hP (ci := 11) (q0 := 5) rfl rfl, fun U hU hW => ⟨rfl, Pr.at (hP.sub (ws' := [(h0, .inr (11, mo g1_183)), (a9, .inl (cT, 400, .inl f))]) [5, 6] rfl) (hK.sub (tys' := [(cT, .int)]) [0] rfl) (hD.sub (ws' := [(h0, .inr (11, mo g1_183)), (a9, .inl (cT, 400, .inl f))]) [5, 6] (by decide) rfl) hN hZ RO.nil hS hFc hU hW⟩⟩ rfl rfl hl.1 rfl (lv_room (Nat.le_of_ble_eq_true rfl)) dX9_kinds_158 ⟨Nat.le_of_ble_eq_true rfl, Nat.le_of_ble_eq_true rfl⟩) hS (fun q _ h => hFc q h) hFc (fun u t H1 locs ht hvm hw_453 hB hz1 hk1 hS => ?_)
          obtain ⟨g1_454, b1_455⟩ := u
          obtain ⟨hP, hD, hK⟩ := Bq.join (wr := [(a0, .inl (cZ, 8, .inl tl)), (a2, .inl (cG, 248, .inl f_450)), (a3, .inl (cI, 248, .inl f_1)), (a6, .inl (cP, 248, .inr (.inl f_3))), (a7, .inl (cX, 2976, .inl fX))]) hB ht hvm hP hD [5, 6] [0, 1, 2, 3, 4] rfl rfl (by decide) (by decide) hk1 hFc hK
          generalize H1 = H at hP hS ⊢
          have hP : va_P (dC, dI) vwCl [(a0, .inl (cZ, 8, .inl tl)), (a2, .inl (cG, 248, .inl f_450)), (a3, .inl (cI, 248, .inl f_1)), (a6, .inl (cP, 248, .inr (.inl f_3))), (a7, .inl (cX, 2976, .inl fX)), (h0, .inr (11, mo g1_454)), (a9, .inl (cT, 400, .inl f))] H := hP
          have hD : va_D A [(a0, .inl (cZ, 8, .inl tl)), (a2, .inl (cG, 248, .inl f_450)), (a3, .inl (cI, 248, .inl f_1)), (a6, .inl (cP, 248, .inr (.inl f_3))), (a7, .inl (cX, 2976, .inl fX)), (h0, .inr (11, mo g1_454)), (a9, .inl (cT, 400, .inl f))] := hD
          have hK : va_K (dC, dI) vwCl [(cT, .int), (cZ, .boolean), (cG, .int), (cI, .int), (cP, .long), (cX, .int)] s := hK
          try dsimp only at hw_453
          obtain ⟨k_456, k_457, k_458⟩ := hw_453
          have w_459 : g1_454 11 = .int (nI (tsk f n (twe f n (tsk f n j)))) := (k_458 11 (by decide) (by decide)).trans k_188
          have w_460 : g1_454 17 = .int (nI (tsk f n (twe f n (tsk f n j)))) := (k_458 17 (by decide) (by decide)).trans k_190
          have w_461 : g1_454 18 = .int (nI (twe f n (tsk f n j))) := (k_458 18 (by decide) (by decide)).trans k_191
          have w_462 : g1_454 0 = .ref a0 := (k_458 0 (by decide) (by decide)).trans w_193
          have w_463 : g1_454 2 = .ref a2 := (k_458 2 (by decide) (by decide)).trans w_194
          have w_464 : g1_454 3 = .ref a3 := (k_458 3 (by decide) (by decide)).trans w_195
          have w_465 : g1_454 6 = .ref a6 := (k_458 6 (by decide) (by decide)).trans w_196
          have w_466 : g1_454 7 = .ref a7 := (k_458 7 (by decide) (by decide)).trans w_197
          have w_467 : g1_454 9 = .ref a9 := (k_458 9 (by decide) (by decide)).trans w_198
          have w_468 : g1_454 12 = .int (nI n) := (k_458 12 (by decide) (by decide)).trans w_199
          have w_469 : g1_454 26 = .long iw := (k_458 26 (by decide) (by decide)).trans w_200
          have un_470 : ∀ j : Nat, j ≠ 11 → j ≠ 13 → j ≠ 14 → j ≠ 17 → j ≠ 18 → g1_454 j = g j := fun j h11 h13 h14 h17 h18 => (k_458 j h13 h14).trans (un_201 j h11 h13 h14 h17 h18)
          have := tsk_ge f n (tsk f n (twe f n (tsk f n j)))
          have := tsk_le (f := f) (n := n) (j := tsk f n (twe f n (tsk f n j))) (by omega)
          have := twe_ge f n (tsk f n (tsk f n (twe f n (tsk f n j))))
          have := twe_le (f := f) (n := n) (j := tsk f n (tsk f n (twe f n (tsk f n j)))) (by omega)
          have := twe_ge f n (tsk f n (twe f n (tsk f n j)))
          have := twe_le (f := f) (n := n) (j := tsk f n (twe f n (tsk f n j))) (by omega)
          rcases k_456 with ⟨hay_471, rfl⟩ | ⟨hay_471, hcy_471⟩
          · have hI : kIn f n iw (j) (nI e0) = none := by unfold kIn; rw [pif_pos ((lg_cmp_eq _ _).mp c_24), pif_neg (show ¬ cIn f n (tsk f n (j)) (nI e0) from fun h => hay_202 h.2.1)]
            refine lv_aload_n hx hb dX9_kinds_161 rfl (lv_at hl 0 rfl) ?_
            refine va_get (D := (dC, dI)) (ci := 11) (v := .int b1_185) (C := RX9) (T := TX9) (N := 60) hx hb hts iRX9 hown hK hP 5 rfl rfl 13 (by decide) (hts (.fieldLink RX9 135 "RecordBenchModel" "bad" "I") (by decide +kernel)) (fun _ h9 => h9) ((mo_get g1_454 (by decide)).trans (congrArg some k_457)) dX9_kinds_162 ?_
            refine lv_if_ne (tgt := 212) hx hb dX9_kinds_165 (by decide) (fun c_472 => ?_) (fun c_472 => absurd c_472 hcy_202)
            refine lv_aload_n hx hb dX9_kinds_212 rfl (lv_at hl 0 rfl) ?_
            refine va_get (D := (dC, dI)) (ci := 11) (v := .int b1_185) (C := RX9) (T := TX9) (N := 60) hx hb hts iRX9 hown hK hP 5 rfl rfl 13 (by decide) (hts (.fieldLink RX9 135 "RecordBenchModel" "bad" "I") (by decide +kernel)) (fun _ h9 => h9) ((mo_get g1_454 (by decide)).trans (congrArg some k_457)) dX9_kinds_213 ?_
            refine lv_if_ne (tgt := 225) hx hb dX9_kinds_216 (by decide) (fun c_473 => ?_) (fun c_473 => absurd c_473 hcy_202)
            have hP9 := hP.sub (ws' := [(h0, .inr (11, mo g1_454)), (a9, .inl (cT, 400, .inl f)), (a0, .inl (cZ, 8, .inl tl)), (a2, .inl (cG, 248, .inl f_450)), (a3, .inl (cI, 248, .inl f_1)), (a6, .inl (cP, 248, .inr (.inl f_3))), (a7, .inl (cX, 2976, .inl fX))]) [5, 6, 0, 1, 2, 3, 4] rfl
            have hD9 := hD.sub (ws' := [(h0, .inr (11, mo g1_454)), (a9, .inl (cT, 400, .inl f)), (a0, .inl (cZ, 8, .inl tl)), (a2, .inl (cG, 248, .inl f_450)), (a3, .inl (cI, 248, .inl f_1)), (a6, .inl (cP, 248, .inr (.inl f_3))), (a7, .inl (cX, 2976, .inl fX))]) [5, 6, 0, 1, 2, 3, 4] (by decide) rfl
            have hK9 := hK.sub (tys' := []) [] rfl
            exact W.vret hx hb hr (fun t ht hW => ⟨⟨(g1_454, (tsk f n (twe f n (tsk f n j))), b1_185, (nI (twe f n (tsk f n j))), (twe f n (tsk f n j)), f_1, f_450, f_3, fX, 0, 0, 0), rfl, ⟨Or.inr ⟨by simp only [kAll, hR, hI, Option.bind_some, Option.bind_none], hcy_202⟩, (fun x hx => frf_1 x hx), (fun x hx => frf_450 x hx), (fun x hx => frf_3 x hx), (fun _ _ => rfl), w_459, k_457, w_461, (fun j h11 h13 h14 h17 h18 => un_470 j h11 h13 h14 h17 h18)⟩, by rw [ht]; exact hP9, va_K.moved hW.alike hK9, hD9⟩, hS.F ht⟩) hS.2.2 dX9_kinds_225
          · have hI : kIn f n iw (j) (nI e0) = none := by unfold kIn; rw [pif_pos ((lg_cmp_eq _ _).mp c_24), pif_neg (show ¬ cIn f n (tsk f n (j)) (nI e0) from fun h => hay_202 h.2.1)]
            refine lv_aload_n hx hb dX9_kinds_161 rfl (lv_at hl 0 rfl) ?_
            refine va_get (D := (dC, dI)) (ci := 11) (v := .int b1_455) (C := RX9) (T := TX9) (N := 60) hx hb hts iRX9 hown hK hP 5 rfl rfl 13 (by decide) (hts (.fieldLink RX9 135 "RecordBenchModel" "bad" "I") (by decide +kernel)) (fun _ h9 => h9) ((mo_get g1_454 (by decide)).trans (congrArg some k_457)) dX9_kinds_162 ?_
            refine lv_if_ne (tgt := 212) hx hb dX9_kinds_165 (by decide) (fun c_474 => ?_) (fun c_474 => absurd c_474 hcy_471)
            refine lv_aload_n hx hb dX9_kinds_212 rfl (lv_at hl 0 rfl) ?_
            refine va_get (D := (dC, dI)) (ci := 11) (v := .int b1_455) (C := RX9) (T := TX9) (N := 60) hx hb hts iRX9 hown hK hP 5 rfl rfl 13 (by decide) (hts (.fieldLink RX9 135 "RecordBenchModel" "bad" "I") (by decide +kernel)) (fun _ h9 => h9) ((mo_get g1_454 (by decide)).trans (congrArg some k_457)) dX9_kinds_213 ?_
            refine lv_if_ne (tgt := 225) hx hb dX9_kinds_216 (by decide) (fun c_475 => ?_) (fun c_475 => absurd c_475 hcy_471)
            have hP9 := hP.sub (ws' := [(h0, .inr (11, mo g1_454)), (a9, .inl (cT, 400, .inl f)), (a0, .inl (cZ, 8, .inl tl)), (a2, .inl (cG, 248, .inl f_450)), (a3, .inl (cI, 248, .inl f_1)), (a6, .inl (cP, 248, .inr (.inl f_3))), (a7, .inl (cX, 2976, .inl fX))]) [5, 6, 0, 1, 2, 3, 4] rfl
            have hD9 := hD.sub (ws' := [(h0, .inr (11, mo g1_454)), (a9, .inl (cT, 400, .inl f)), (a0, .inl (cZ, 8, .inl tl)), (a2, .inl (cG, 248, .inl f_450)), (a3, .inl (cI, 248, .inl f_1)), (a6, .inl (cP, 248, .inr (.inl f_3))), (a7, .inl (cX, 2976, .inl fX))]) [5, 6, 0, 1, 2, 3, 4] (by decide) rfl
            have hK9 := hK.sub (tys' := []) [] rfl
            exact W.vret hx hb hr (fun t ht hW => ⟨⟨(g1_454, (tsk f n (twe f n (tsk f n j))), b1_455, (nI (twe f n (tsk f n j))), (twe f n (tsk f n j)), f_1, f_450, f_3, fX, 0, 0, 0), rfl, ⟨Or.inr ⟨by simp only [kAll, hR, hI, Option.bind_some, Option.bind_none], hcy_471⟩, (fun x hx => frf_1 x hx), (fun x hx => frf_450 x hx), (fun x hx => frf_3 x hx), (fun _ _ => rfl), w_459, k_457, w_461, (fun j h11 h13 h14 h17 h18 => un_470 j h11 h13 h14 h17 h18)⟩, by rw [ht]; exact hP9, va_K.moved hW.alike hK9, hD9⟩, hS.F ht⟩) hS.2.2 dX9_kinds_225
      · refine lv_aload_n hx hb dX9_kinds_104 rfl (lv_at hl 0 rfl) ?_
        refine va_get (D := (dC, dI)) (ci := 11) (v := .int b1_163) (C := RX9) (T := TX9) (N := 60) hx hb hts iRX9 hown hK hP 5 rfl rfl 13 (by decide) (hts (.fieldLink RX9 135 "RecordBenchModel" "bad" "I") (by decide +kernel)) (fun _ h9 => h9) ((mo_get g1_162 (by decide)).trans (congrArg some k_166)) dX9_kinds_105 ?_
        refine lv_if_ne (tgt := 121) hx hb dX9_kinds_108 (by decide) (fun c_476 => ?_) (fun c_476 => absurd c_476 hcy_179)
        refine lv_aload_n hx hb dX9_kinds_121 rfl (lv_at hl 0 rfl) ?_
        refine va_get (D := (dC, dI)) (ci := 11) (v := .int b1_163) (C := RX9) (T := TX9) (N := 60) hx hb hts iRX9 hown hK hP 5 rfl rfl 13 (by decide) (hts (.fieldLink RX9 135 "RecordBenchModel" "bad" "I") (by decide +kernel)) (fun _ h9 => h9) ((mo_get g1_162 (by decide)).trans (congrArg some k_166)) dX9_kinds_122 ?_
        refine lv_if_ne (tgt := 157) hx hb dX9_kinds_125 (by decide) (fun c_477 => ?_) (fun c_477 => absurd c_477 hcy_179)
        refine lv_aload_n hx hb dX9_kinds_157 rfl (lv_at hl 0 rfl) ?_
        have hFc := va_free (wc := [(h0, .inr (11, mo g1_162)), (a9, .inl (cT, 400, .inl f))]) hD hS hA [5, 6] rfl
        refine va_callv (va_runV (As := []) (rest := []) ⟨hx, hb, hml, hown, hts⟩ (c_X9_ends l dC dI h0 g1_162 a9 cT f (twe f n (tsk f n j)) n b1_163 w_175 k_165 w_176 k_166 (by omega) (by omega) H.size) (cwV 0 hts gp_X9_kinds_X9_ends_206 rfl rfl rfl (by decide +kernel) ⟨Nat.le_of_ble_eq_true rfl, Nat.le_of_ble_eq_true rfl⟩) ⟨Pr.blind _, va_recv hK hP (ci := 11) (q0 := 5) rfl rfl, fun U hU hW => ⟨rfl, Pr.at (hP.sub (ws' := [(h0, .inr (11, mo g1_162)), (a9, .inl (cT, 400, .inl f))]) [5, 6] rfl) (hK.sub (tys' := [(cT, .int)]) [0] rfl) (hD.sub (ws' := [(h0, .inr (11, mo g1_162)), (a9, .inl (cT, 400, .inl f))]) [5, 6] (by decide) rfl) hN hZ RO.nil hS hFc hU hW⟩⟩ rfl rfl hl.1 rfl (lv_room (Nat.le_of_ble_eq_true rfl)) dX9_kinds_158 ⟨Nat.le_of_ble_eq_true rfl, Nat.le_of_ble_eq_true rfl⟩) hS (fun q _ h => hFc q h) hFc (fun u t H1 locs ht hvm hw_479 hB hz1 hk1 hS => ?_)
        obtain ⟨g1_480, b1_481⟩ := u
        obtain ⟨hP, hD, hK⟩ := Bq.join (wr := [(a0, .inl (cZ, 8, .inl tl)), (a2, .inl (cG, 248, .inl f_2)), (a3, .inl (cI, 248, .inl f_1)), (a6, .inl (cP, 248, .inr (.inl f_3))), (a7, .inl (cX, 2976, .inl fX))]) hB ht hvm hP hD [5, 6] [0, 1, 2, 3, 4] rfl rfl (by decide) (by decide) hk1 hFc hK
        generalize H1 = H at hP hS ⊢
        have hP : va_P (dC, dI) vwCl [(a0, .inl (cZ, 8, .inl tl)), (a2, .inl (cG, 248, .inl f_2)), (a3, .inl (cI, 248, .inl f_1)), (a6, .inl (cP, 248, .inr (.inl f_3))), (a7, .inl (cX, 2976, .inl fX)), (h0, .inr (11, mo g1_480)), (a9, .inl (cT, 400, .inl f))] H := hP
        have hD : va_D A [(a0, .inl (cZ, 8, .inl tl)), (a2, .inl (cG, 248, .inl f_2)), (a3, .inl (cI, 248, .inl f_1)), (a6, .inl (cP, 248, .inr (.inl f_3))), (a7, .inl (cX, 2976, .inl fX)), (h0, .inr (11, mo g1_480)), (a9, .inl (cT, 400, .inl f))] := hD
        have hK : va_K (dC, dI) vwCl [(cT, .int), (cZ, .boolean), (cG, .int), (cI, .int), (cP, .long), (cX, .int)] s := hK
        try dsimp only at hw_479
        obtain ⟨k_482, k_483, k_484⟩ := hw_479
        have w_485 : g1_480 11 = .int (nI (twe f n (tsk f n j))) := (k_484 11 (by decide) (by decide)).trans k_165
        have w_486 : g1_480 18 = .int (nI (twe f n (tsk f n j))) := (k_484 18 (by decide) (by decide)).trans k_167
        have w_487 : g1_480 17 = .int (nI (tsk f n j)) := (k_484 17 (by decide) (by decide)).trans w_169
        have w_488 : g1_480 0 = .ref a0 := (k_484 0 (by decide) (by decide)).trans w_170
        have w_489 : g1_480 2 = .ref a2 := (k_484 2 (by decide) (by decide)).trans w_171
        have w_490 : g1_480 3 = .ref a3 := (k_484 3 (by decide) (by decide)).trans w_172
        have w_491 : g1_480 6 = .ref a6 := (k_484 6 (by decide) (by decide)).trans w_173
        have w_492 : g1_480 7 = .ref a7 := (k_484 7 (by decide) (by decide)).trans w_174
        have w_493 : g1_480 9 = .ref a9 := (k_484 9 (by decide) (by decide)).trans w_175
        have w_494 : g1_480 12 = .int (nI n) := (k_484 12 (by decide) (by decide)).trans w_176
        have w_495 : g1_480 26 = .long iw := (k_484 26 (by decide) (by decide)).trans w_177
        have un_496 : ∀ j : Nat, j ≠ 11 → j ≠ 13 → j ≠ 14 → j ≠ 17 → j ≠ 18 → g1_480 j = g j := fun j h11 h13 h14 h17 h18 => (k_484 j h13 h14).trans (un_178 j h11 h13 h14 h17 h18)
        have := tsk_ge f n (twe f n (tsk f n j))
        have := tsk_le (f := f) (n := n) (j := twe f n (tsk f n j)) (by omega)
        have := twe_ge f n (tsk f n (twe f n (tsk f n j)))
        have := twe_le (f := f) (n := n) (j := tsk f n (twe f n (tsk f n j))) (by omega)
        have := twe_ge f n (twe f n (tsk f n j))
        have := twe_le (f := f) (n := n) (j := twe f n (tsk f n j)) (by omega)
        rcases k_482 with ⟨hay_497, rfl⟩ | ⟨hay_497, hcy_497⟩
        · have hI : kIn f n iw (j) (nI e0) = none := by unfold kIn; rw [pif_pos ((lg_cmp_eq _ _).mp c_24), pif_neg (show ¬ cIn f n (tsk f n (j)) (nI e0) from fun h => h.1 hay_179)]
          refine lv_aload_n hx hb dX9_kinds_161 rfl (lv_at hl 0 rfl) ?_
          refine va_get (D := (dC, dI)) (ci := 11) (v := .int b1_163) (C := RX9) (T := TX9) (N := 60) hx hb hts iRX9 hown hK hP 5 rfl rfl 13 (by decide) (hts (.fieldLink RX9 135 "RecordBenchModel" "bad" "I") (by decide +kernel)) (fun _ h9 => h9) ((mo_get g1_480 (by decide)).trans (congrArg some k_483)) dX9_kinds_162 ?_
          refine lv_if_ne (tgt := 212) hx hb dX9_kinds_165 (by decide) (fun c_498 => ?_) (fun c_498 => absurd c_498 hcy_179)
          refine lv_aload_n hx hb dX9_kinds_212 rfl (lv_at hl 0 rfl) ?_
          refine va_get (D := (dC, dI)) (ci := 11) (v := .int b1_163) (C := RX9) (T := TX9) (N := 60) hx hb hts iRX9 hown hK hP 5 rfl rfl 13 (by decide) (hts (.fieldLink RX9 135 "RecordBenchModel" "bad" "I") (by decide +kernel)) (fun _ h9 => h9) ((mo_get g1_480 (by decide)).trans (congrArg some k_483)) dX9_kinds_213 ?_
          refine lv_if_ne (tgt := 225) hx hb dX9_kinds_216 (by decide) (fun c_499 => ?_) (fun c_499 => absurd c_499 hcy_179)
          have hP9 := hP.sub (ws' := [(h0, .inr (11, mo g1_480)), (a9, .inl (cT, 400, .inl f)), (a0, .inl (cZ, 8, .inl tl)), (a2, .inl (cG, 248, .inl f_2)), (a3, .inl (cI, 248, .inl f_1)), (a6, .inl (cP, 248, .inr (.inl f_3))), (a7, .inl (cX, 2976, .inl fX))]) [5, 6, 0, 1, 2, 3, 4] rfl
          have hD9 := hD.sub (ws' := [(h0, .inr (11, mo g1_480)), (a9, .inl (cT, 400, .inl f)), (a0, .inl (cZ, 8, .inl tl)), (a2, .inl (cG, 248, .inl f_2)), (a3, .inl (cI, 248, .inl f_1)), (a6, .inl (cP, 248, .inr (.inl f_3))), (a7, .inl (cX, 2976, .inl fX))]) [5, 6, 0, 1, 2, 3, 4] (by decide) rfl
          have hK9 := hK.sub (tys' := []) [] rfl
          exact W.vret hx hb hr (fun t ht hW => ⟨⟨(g1_480, (twe f n (tsk f n j)), b1_163, (nI (twe f n (tsk f n j))), (twe f n (tsk f n j)), f_1, f_2, f_3, fX, 0, 0, 0), rfl, ⟨Or.inr ⟨by simp only [kAll, hR, hI, Option.bind_some, Option.bind_none], hcy_179⟩, (fun x hx => frf_1 x hx), (fun x hx => frf_2 x hx), (fun x hx => frf_3 x hx), (fun _ _ => rfl), w_485, k_483, w_486, (fun j h11 h13 h14 h17 h18 => un_496 j h11 h13 h14 h17 h18)⟩, by rw [ht]; exact hP9, va_K.moved hW.alike hK9, hD9⟩, hS.F ht⟩) hS.2.2 dX9_kinds_225
        · have hI : kIn f n iw (j) (nI e0) = none := by unfold kIn; rw [pif_pos ((lg_cmp_eq _ _).mp c_24), pif_neg (show ¬ cIn f n (tsk f n (j)) (nI e0) from fun h => h.1 hay_179)]
          refine lv_aload_n hx hb dX9_kinds_161 rfl (lv_at hl 0 rfl) ?_
          refine va_get (D := (dC, dI)) (ci := 11) (v := .int b1_481) (C := RX9) (T := TX9) (N := 60) hx hb hts iRX9 hown hK hP 5 rfl rfl 13 (by decide) (hts (.fieldLink RX9 135 "RecordBenchModel" "bad" "I") (by decide +kernel)) (fun _ h9 => h9) ((mo_get g1_480 (by decide)).trans (congrArg some k_483)) dX9_kinds_162 ?_
          refine lv_if_ne (tgt := 212) hx hb dX9_kinds_165 (by decide) (fun c_500 => ?_) (fun c_500 => absurd c_500 hcy_497)
          refine lv_aload_n hx hb dX9_kinds_212 rfl (lv_at hl 0 rfl) ?_
          refine va_get (D := (dC, dI)) (ci := 11) (v := .int b1_481) (C := RX9) (T := TX9) (N := 60) hx hb hts iRX9 hown hK hP 5 rfl rfl 13 (by decide) (hts (.fieldLink RX9 135 "RecordBenchModel" "bad" "I") (by decide +kernel)) (fun _ h9 => h9) ((mo_get g1_480 (by decide)).trans (congrArg some k_483)) dX9_kinds_213 ?_
          refine lv_if_ne (tgt := 225) hx hb dX9_kinds_216 (by decide) (fun c_501 => ?_) (fun c_501 => absurd c_501 hcy_497)
          have hP9 := hP.sub (ws' := [(h0, .inr (11, mo g1_480)), (a9, .inl (cT, 400, .inl f)), (a0, .inl (cZ, 8, .inl tl)), (a2, .inl (cG, 248, .inl f_2)), (a3, .inl (cI, 248, .inl f_1)), (a6, .inl (cP, 248, .inr (.inl f_3))), (a7, .inl (cX, 2976, .inl fX))]) [5, 6, 0, 1, 2, 3, 4] rfl
          have hD9 := hD.sub (ws' := [(h0, .inr (11, mo g1_480)), (a9, .inl (cT, 400, .inl f)), (a0, .inl (cZ, 8, .inl tl)), (a2, .inl (cG, 248, .inl f_2)), (a3, .inl (cI, 248, .inl f_1)), (a6, .inl (cP, 248, .inr (.inl f_3))), (a7, .inl (cX, 2976, .inl fX))]) [5, 6, 0, 1, 2, 3, 4] (by decide) rfl
          have hK9 := hK.sub (tys' := []) [] rfl
          exact W.vret hx hb hr (fun t ht hW => ⟨⟨(g1_480, (twe f n (tsk f n j)), b1_481, (nI (twe f n (tsk f n j))), (twe f n (tsk f n j)), f_1, f_2, f_3, fX, 0, 0, 0), rfl, ⟨Or.inr ⟨by simp only [kAll, hR, hI, Option.bind_some, Option.bind_none], hcy_497⟩, (fun x hx => frf_1 x hx), (fun x hx => frf_2 x hx), (fun x hx => frf_3 x hx), (fun _ _ => rfl), w_485, k_483, w_486, (fun j h11 h13 h14 h17 h18 => un_496 j h11 h13 h14 h17 h18)⟩, by rw [ht]; exact hP9, va_K.moved hW.alike hK9, hD9⟩, hS.F ht⟩) hS.2.2 dX9_kinds_225
  · refine lv_aload_n hx hb dX9_kinds_27 rfl (lv_at hl 0 rfl) ?_
    refine va_get (D := (dC, dI)) (ci := 11) (v := .ref a3) (C := RX9) (T := TX9) (N := 60) hx hb hts iRX9 hown hK hP 0 rfl rfl 3 (by decide) (hts (.fieldLink RX9 20 "RecordBenchModel" "inner" "[I") (by decide +kernel)) (fun _ h9 => h9) ((mo_get g (by decide)).trans (congrArg some fh3)) dX9_kinds_28 ?_
    refine lv_iload_n hx hb dX9_kinds_31 rfl (lv_at hl 2 rfl) ?_
    refine lv_aload_n hx hb dX9_kinds_32 rfl (lv_at hl 0 rfl) ?_
    have hFc := va_free (wc := [(h0, .inr (11, mo g)), (a9, .inl (cT, 400, .inl f))]) hD hS hA [0, 1] rfl
    refine va_calli (va_runV (As := []) (rest := [.int (nI F), .ref a3]) ⟨hx, hb, hml, hown, hts⟩ (c_X9_digit l dC dI h0 g a9 cT f j n 0 (nI e0) fh9 fh11 fh12 fh13 fh18 (by omega) (by omega) H.size) (cwV 0 hts gp_X9_kinds_X9_digit_203 rfl rfl rfl (by decide +kernel) ⟨Nat.le_of_ble_eq_true rfl, Nat.le_of_ble_eq_true rfl⟩) ⟨Pr.blind _, va_recv hK hP (ci := 11) (q0 := 0) rfl rfl, fun U hU hW => ⟨rfl, Pr.at (hP.sub (ws' := [(h0, .inr (11, mo g)), (a9, .inl (cT, 400, .inl f))]) [0, 1] rfl) (hK.sub (tys' := [(cT, .int)]) [0] rfl) (hD.sub (ws' := [(h0, .inr (11, mo g)), (a9, .inl (cT, 400, .inl f))]) [0, 1] (by decide) rfl) hN hZ RO.nil hS hFc hU hW⟩⟩ rfl rfl hl.1 rfl (lv_room (Nat.le_of_ble_eq_true rfl)) dX9_kinds_33 ⟨Nat.le_of_ble_eq_true rfl, Nat.le_of_ble_eq_true rfl⟩) hS (fun q _ h => hFc q h) hFc (fun r_502 u t H1 locs ht hvm hw_503 hB hz1 hk1 hS => ?_)
    obtain ⟨g1_504, j1_505, b1_506, x1_507⟩ := u
    obtain ⟨hP, hD, hK⟩ := Bq.join (wr := [(a0, .inl (cZ, 8, .inl tl)), (a2, .inl (cG, 248, .inl f_2)), (a3, .inl (cI, 248, .inl f_1)), (a6, .inl (cP, 248, .inr (.inl f_3))), (a7, .inl (cX, 2976, .inl fX))]) hB ht hvm hP hD [0, 1] [2, 3, 4, 5, 6] rfl rfl (by decide) (by decide) hk1 hFc hK
    generalize H1 = H at hP hS ⊢
    have hP : va_P (dC, dI) vwCl [(a0, .inl (cZ, 8, .inl tl)), (a2, .inl (cG, 248, .inl f_2)), (a3, .inl (cI, 248, .inl f_1)), (a6, .inl (cP, 248, .inr (.inl f_3))), (a7, .inl (cX, 2976, .inl fX)), (h0, .inr (11, mo g1_504)), (a9, .inl (cT, 400, .inl f))] H := hP
    have hD : va_D A [(a0, .inl (cZ, 8, .inl tl)), (a2, .inl (cG, 248, .inl f_2)), (a3, .inl (cI, 248, .inl f_1)), (a6, .inl (cP, 248, .inr (.inl f_3))), (a7, .inl (cX, 2976, .inl fX)), (h0, .inr (11, mo g1_504)), (a9, .inl (cT, 400, .inl f))] := hD
    have hK : va_K (dC, dI) vwCl [(cT, .int), (cZ, .boolean), (cG, .int), (cI, .int), (cP, .long), (cX, .int)] s := hK
    try dsimp only at hw_503
    obtain ⟨k_508, k_509, k_510, k_511, k_512, k_513⟩ := hw_503
    have w_514 : g1_504 0 = .ref a0 := (k_513 0 (by decide) (by decide) (by decide) (by decide) (by decide)).trans fh0
    have w_515 : g1_504 2 = .ref a2 := (k_513 2 (by decide) (by decide) (by decide) (by decide) (by decide)).trans fh2
    have w_516 : g1_504 3 = .ref a3 := (k_513 3 (by decide) (by decide) (by decide) (by decide) (by decide)).trans fh3
    have w_517 : g1_504 6 = .ref a6 := (k_513 6 (by decide) (by decide) (by decide) (by decide) (by decide)).trans fh6
    have w_518 : g1_504 7 = .ref a7 := (k_513 7 (by decide) (by decide) (by decide) (by decide) (by decide)).trans fh7
    have w_519 : g1_504 9 = .ref a9 := (k_513 9 (by decide) (by decide) (by decide) (by decide) (by decide)).trans fh9
    have w_520 : g1_504 12 = .int (nI n) := (k_513 12 (by decide) (by decide) (by decide) (by decide) (by decide)).trans fh12
    have w_521 : g1_504 26 = .long iw := (k_513 26 (by decide) (by decide) (by decide) (by decide) (by decide)).trans fh26
    have un_522 : ∀ j : Nat, j ≠ 11 → j ≠ 13 → j ≠ 14 → j ≠ 17 → j ≠ 18 → g1_504 j = g j := fun j h11 h13 h14 h17 h18 => (k_513 j h11 h13 h14 h17 h18)
    have := tsk_ge f n (j)
    have := tsk_le (f := f) (n := n) (j := j) (by omega)
    have := twe_ge f n (tsk f n (j))
    have := twe_le (f := f) (n := n) (j := tsk f n (j)) (by omega)
    have := twe_ge f n (j)
    have := twe_le (f := f) (n := n) (j := j) (by omega)
    rcases k_508 with ⟨hay_523, hby_523, hdy_523, rfl, rfl, rfl, rfl⟩ | ⟨hay_523, rfl, hcy_523, rfl, rfl⟩
    · refine W.eq (g2 := F0 m 36 ls [.int (tat f n (tsk f n j) - 48), .int (nI F), .ref a3]) rfl ?_
      refine va_iast hx hb hK hP hD hS 2 3 rfl rfl (vp_in_nI hF (by decide)) dX9_kinds_36 (fun H locs hP hD hS => ?_)
      rw [hcF] at hP hD
      obtain ⟨f_524, ef_524⟩ : ∃ y : Nat → Int32, y = upd f_1 F (tat f n (tsk f n j) - 48) := ⟨_, rfl⟩
      have hP : va_P (dC, dI) vwCl [(a0, .inl (cZ, 8, .inl tl)), (a2, .inl (cG, 248, .inl f_2)), (a3, .inl (cI, 248, .inl f_524)), (a6, .inl (cP, 248, .inr (.inl f_3))), (a7, .inl (cX, 2976, .inl fX)), (h0, .inr (11, mo g1_504)), (a9, .inl (cT, 400, .inl f))] H := by rw [ef_524]; exact hP
      have hD : va_D A [(a0, .inl (cZ, 8, .inl tl)), (a2, .inl (cG, 248, .inl f_2)), (a3, .inl (cI, 248, .inl f_524)), (a6, .inl (cP, 248, .inr (.inl f_3))), (a7, .inl (cX, 2976, .inl fX)), (h0, .inr (11, mo g1_504)), (a9, .inl (cT, 400, .inl f))] := by rw [ef_524]; exact hD
      have vf_524 : f_524 F = (tat f n (tsk f n j) - 48) := by rw [ef_524, pk_us]
      have frf_524 : ∀ x : Nat, x ≠ F → f_524 x = fI x := fun x hx => by rw [ef_524, pk_un hx]; exact frf_1 x hx
      refine lv_aload_n hx hb dX9_kinds_37 rfl (lv_at hl 0 rfl) ?_
      refine va_get (D := (dC, dI)) (ci := 11) (v := .int 0) (C := RX9) (T := TX9) (N := 60) hx hb hts iRX9 hown hK hP 5 rfl rfl 13 (by decide) (hts (.fieldLink RX9 135 "RecordBenchModel" "bad" "I") (by decide +kernel)) (fun _ h9 => h9) ((mo_get g1_504 (by decide)).trans (congrArg some k_510)) dX9_kinds_38 ?_
      refine lv_if_ne (tgt := 77) hx hb dX9_kinds_41 (by decide) (fun c_525 => absurd (by decide) c_525) (fun c_525 => ?_)
      refine lv_aload_n hx hb dX9_kinds_44 rfl (lv_at hl 0 rfl) ?_
      refine va_get (D := (dC, dI)) (ci := 11) (v := .ref a3) (C := RX9) (T := TX9) (N := 60) hx hb hts iRX9 hown hK hP 5 rfl rfl 3 (by decide) (hts (.fieldLink RX9 20 "RecordBenchModel" "inner" "[I") (by decide +kernel)) (fun _ h9 => h9) ((mo_get g1_504 (by decide)).trans (congrArg some w_516)) dX9_kinds_45 ?_
      refine lv_iload_n hx hb dX9_kinds_48 rfl (lv_at hl 2 rfl) ?_
      refine va_iald hx hb hK hP 2 3 rfl rfl (vp_in_nI hF (by decide)) dX9_kinds_49 ?_
      refine W_toi (y := (tat f n (tsk f n j) - 48)) (by rw [hcF]; exact vf_524) ?_
      refine lv_iload_n hx hb dX9_kinds_50 rfl (lv_at hl 1 rfl) ?_
      refine lv_icmp_ge (tgt := 68) hx hb dX9_kinds_51 (by decide) (fun c_526 => ?_) (fun c_526 => ?_)
      · refine lv_aload_n hx hb dX9_kinds_68 rfl (lv_at hl 0 rfl) ?_
        refine lv_iconst (v := 2) hx hb dX9_kinds_69 (by decide) ?_
        refine lv_aload_n hx hb dX9_kinds_70 rfl (lv_at hl 0 rfl) ?_
        refine va_get (D := (dC, dI)) (ci := 11) (v := .int (nI (tsk f n j))) (C := RX9) (T := TX9) (N := 60) hx hb hts iRX9 hown hK hP 5 rfl rfl 17 (by decide) (hts (.fieldLink RX9 147 "RecordBenchModel" "begun" "I") (by decide +kernel)) (fun _ h9 => h9) ((mo_get g1_504 (by decide)).trans (congrArg some k_511)) dX9_kinds_71 ?_
        have hFc := va_free (wc := [(h0, .inr (11, mo g1_504))]) hD hS hA [5] rfl
        refine va_callv (va_runV (As := [.int 2, .int (nI (tsk f n j))]) (rest := []) ⟨hx, hb, hml, hown, hts⟩ (c_X9_fail l dC dI h0 g1_504 0 k_510 2 (nI (tsk f n j)) (by decide) H.size) (cwV 2 hts gp_X9_kinds_X9_fail_154 rfl rfl rfl (by decide +kernel) ⟨Nat.le_of_ble_eq_true rfl, Nat.le_of_ble_eq_true rfl⟩) ⟨Pr.blind _, va_recv hK hP (ci := 11) (q0 := 5) rfl rfl, fun U hU hW => ⟨rfl, Pr.at (hP.sub (ws' := [(h0, .inr (11, mo g1_504))]) [5] rfl) (hK.sub (tys' := []) [] rfl) (hD.sub (ws' := [(h0, .inr (11, mo g1_504))]) [5] (by decide) rfl) hN hZ RO.nil hS hFc hU hW⟩⟩ rfl rfl hl.1 rfl (lv_room (Nat.le_of_ble_eq_true rfl)) dX9_kinds_74 ⟨Nat.le_of_ble_eq_true rfl, Nat.le_of_ble_eq_true rfl⟩) hS (fun q _ h => hFc q h) hFc (fun u t H1 locs ht hvm hw_528 hB hz1 hk1 hS => ?_)
        obtain ⟨g1_529, b1_530⟩ := u
        obtain ⟨hP, hD, hK⟩ := Bq.join (wr := [(a0, .inl (cZ, 8, .inl tl)), (a2, .inl (cG, 248, .inl f_2)), (a3, .inl (cI, 248, .inl f_524)), (a6, .inl (cP, 248, .inr (.inl f_3))), (a7, .inl (cX, 2976, .inl fX)), (a9, .inl (cT, 400, .inl f))]) hB ht hvm hP hD [5] [0, 1, 2, 3, 4, 6] rfl rfl (by decide) (by decide) hk1 hFc hK
        generalize H1 = H at hP hS ⊢
        have hP : va_P (dC, dI) vwCl [(a0, .inl (cZ, 8, .inl tl)), (a2, .inl (cG, 248, .inl f_2)), (a3, .inl (cI, 248, .inl f_524)), (a6, .inl (cP, 248, .inr (.inl f_3))), (a7, .inl (cX, 2976, .inl fX)), (a9, .inl (cT, 400, .inl f)), (h0, .inr (11, mo g1_529))] H := hP
        have hD : va_D A [(a0, .inl (cZ, 8, .inl tl)), (a2, .inl (cG, 248, .inl f_2)), (a3, .inl (cI, 248, .inl f_524)), (a6, .inl (cP, 248, .inr (.inl f_3))), (a7, .inl (cX, 2976, .inl fX)), (a9, .inl (cT, 400, .inl f)), (h0, .inr (11, mo g1_529))] := hD
        have hK : va_K (dC, dI) vwCl [(cT, .int), (cZ, .boolean), (cG, .int), (cI, .int), (cP, .long), (cX, .int)] s := hK
        try dsimp only at hw_528
        obtain ⟨k_531, k_532, k_533⟩ := hw_528
        have w_534 : g1_529 11 = .int (nI (tsk f n j + 1)) := (k_533 11 (by decide) (by decide)).trans k_509
        have w_535 : g1_529 17 = .int (nI (tsk f n j)) := (k_533 17 (by decide) (by decide)).trans k_511
        have w_536 : g1_529 18 = .int (nI (tsk f n j + 1)) := (k_533 18 (by decide) (by decide)).trans k_512
        have w_537 : g1_529 0 = .ref a0 := (k_533 0 (by decide) (by decide)).trans w_514
        have w_538 : g1_529 2 = .ref a2 := (k_533 2 (by decide) (by decide)).trans w_515
        have w_539 : g1_529 3 = .ref a3 := (k_533 3 (by decide) (by decide)).trans w_516
        have w_540 : g1_529 6 = .ref a6 := (k_533 6 (by decide) (by decide)).trans w_517
        have w_541 : g1_529 7 = .ref a7 := (k_533 7 (by decide) (by decide)).trans w_518
        have w_542 : g1_529 9 = .ref a9 := (k_533 9 (by decide) (by decide)).trans w_519
        have w_543 : g1_529 12 = .int (nI n) := (k_533 12 (by decide) (by decide)).trans w_520
        have w_544 : g1_529 26 = .long iw := (k_533 26 (by decide) (by decide)).trans w_521
        have un_545 : ∀ j : Nat, j ≠ 11 → j ≠ 13 → j ≠ 14 → j ≠ 17 → j ≠ 18 → g1_529 j = g j := fun j h11 h13 h14 h17 h18 => (k_533 j h13 h14).trans (un_522 j h11 h13 h14 h17 h18)
        refine lv_aload_n hx hb dX9_kinds_77 rfl (lv_at hl 0 rfl) ?_
        have hFc := va_free (wc := [(h0, .inr (11, mo g1_529)), (a9, .inl (cT, 400, .inl f))]) hD hS hA [6, 5] rfl
        refine va_callv (va_runV (As := []) (rest := []) ⟨hx, hb, hml, hown, hts⟩ (c_X9_ends l dC dI h0 g1_529 a9 cT f (tsk f n j + 1) n b1_530 w_542 w_534 w_543 k_532 (by omega) (by omega) H.size) (cwV 0 hts gp_X9_kinds_X9_ends_206 rfl rfl rfl (by decide +kernel) ⟨Nat.le_of_ble_eq_true rfl, Nat.le_of_ble_eq_true rfl⟩) ⟨Pr.blind _, va_recv hK hP (ci := 11) (q0 := 6) rfl rfl, fun U hU hW => ⟨rfl, Pr.at (hP.sub (ws' := [(h0, .inr (11, mo g1_529)), (a9, .inl (cT, 400, .inl f))]) [6, 5] rfl) (hK.sub (tys' := [(cT, .int)]) [0] rfl) (hD.sub (ws' := [(h0, .inr (11, mo g1_529)), (a9, .inl (cT, 400, .inl f))]) [6, 5] (by decide) rfl) hN hZ RO.nil hS hFc hU hW⟩⟩ rfl rfl hl.1 rfl (lv_room (Nat.le_of_ble_eq_true rfl)) dX9_kinds_78 ⟨Nat.le_of_ble_eq_true rfl, Nat.le_of_ble_eq_true rfl⟩) hS (fun q _ h => hFc q h) hFc (fun u t H1 locs ht hvm hw_547 hB hz1 hk1 hS => ?_)
        obtain ⟨g1_548, b1_549⟩ := u
        obtain ⟨hP, hD, hK⟩ := Bq.join (wr := [(a0, .inl (cZ, 8, .inl tl)), (a2, .inl (cG, 248, .inl f_2)), (a3, .inl (cI, 248, .inl f_524)), (a6, .inl (cP, 248, .inr (.inl f_3))), (a7, .inl (cX, 2976, .inl fX))]) hB ht hvm hP hD [6, 5] [0, 1, 2, 3, 4] rfl rfl (by decide) (by decide) hk1 hFc hK
        generalize H1 = H at hP hS ⊢
        have hP : va_P (dC, dI) vwCl [(a0, .inl (cZ, 8, .inl tl)), (a2, .inl (cG, 248, .inl f_2)), (a3, .inl (cI, 248, .inl f_524)), (a6, .inl (cP, 248, .inr (.inl f_3))), (a7, .inl (cX, 2976, .inl fX)), (h0, .inr (11, mo g1_548)), (a9, .inl (cT, 400, .inl f))] H := hP
        have hD : va_D A [(a0, .inl (cZ, 8, .inl tl)), (a2, .inl (cG, 248, .inl f_2)), (a3, .inl (cI, 248, .inl f_524)), (a6, .inl (cP, 248, .inr (.inl f_3))), (a7, .inl (cX, 2976, .inl fX)), (h0, .inr (11, mo g1_548)), (a9, .inl (cT, 400, .inl f))] := hD
        have hK : va_K (dC, dI) vwCl [(cT, .int), (cZ, .boolean), (cG, .int), (cI, .int), (cP, .long), (cX, .int)] s := hK
        try dsimp only at hw_547
        obtain ⟨k_550, k_551, k_552⟩ := hw_547
        have w_553 : g1_548 11 = .int (nI (tsk f n j + 1)) := (k_552 11 (by decide) (by decide)).trans w_534
        have w_554 : g1_548 17 = .int (nI (tsk f n j)) := (k_552 17 (by decide) (by decide)).trans w_535
        have w_555 : g1_548 18 = .int (nI (tsk f n j + 1)) := (k_552 18 (by decide) (by decide)).trans w_536
        have w_556 : g1_548 0 = .ref a0 := (k_552 0 (by decide) (by decide)).trans w_537
        have w_557 : g1_548 2 = .ref a2 := (k_552 2 (by decide) (by decide)).trans w_538
        have w_558 : g1_548 3 = .ref a3 := (k_552 3 (by decide) (by decide)).trans w_539
        have w_559 : g1_548 6 = .ref a6 := (k_552 6 (by decide) (by decide)).trans w_540
        have w_560 : g1_548 7 = .ref a7 := (k_552 7 (by decide) (by decide)).trans w_541
        have w_561 : g1_548 9 = .ref a9 := (k_552 9 (by decide) (by decide)).trans w_542
        have w_562 : g1_548 12 = .int (nI n) := (k_552 12 (by decide) (by decide)).trans w_543
        have w_563 : g1_548 26 = .long iw := (k_552 26 (by decide) (by decide)).trans w_544
        have un_564 : ∀ j : Nat, j ≠ 11 → j ≠ 13 → j ≠ 14 → j ≠ 17 → j ≠ 18 → g1_548 j = g j := fun j h11 h13 h14 h17 h18 => (k_552 j h13 h14).trans (un_545 j h11 h13 h14 h17 h18)
        have := tsk_ge f n (tsk f n j + 1)
        have := tsk_le (f := f) (n := n) (j := tsk f n j + 1) (by omega)
        have := twe_ge f n (tsk f n (tsk f n j + 1))
        have := twe_le (f := f) (n := n) (j := tsk f n (tsk f n j + 1)) (by omega)
        have := twe_ge f n (tsk f n j + 1)
        have := twe_le (f := f) (n := n) (j := tsk f n j + 1) (by omega)
        rcases k_550 with ⟨hay_565, rfl⟩ | ⟨hay_565, hcy_565⟩
        · have hR : kRec f n tl p0 p2 j (nI e0) = none := by unfold kRec; rw [pif_pos c_4, pif_neg (show ¬ cRec f n tl p0 j (nI e0) from fun h => h.2.1.1 c_526)]
          refine lv_aload_n hx hb dX9_kinds_81 rfl (lv_at hl 0 rfl) ?_
          refine va_get (D := (dC, dI)) (ci := 11) (v := .int b1_530) (C := RX9) (T := TX9) (N := 60) hx hb hts iRX9 hown hK hP 5 rfl rfl 13 (by decide) (hts (.fieldLink RX9 135 "RecordBenchModel" "bad" "I") (by decide +kernel)) (fun _ h9 => h9) ((mo_get g1_548 (by decide)).trans (congrArg some k_551)) dX9_kinds_82 ?_
          refine lv_if_ne (tgt := 161) hx hb dX9_kinds_85 (by decide) (fun c_566 => ?_) (fun c_566 => absurd c_566 k_531)
          refine lv_aload_n hx hb dX9_kinds_161 rfl (lv_at hl 0 rfl) ?_
          refine va_get (D := (dC, dI)) (ci := 11) (v := .int b1_530) (C := RX9) (T := TX9) (N := 60) hx hb hts iRX9 hown hK hP 5 rfl rfl 13 (by decide) (hts (.fieldLink RX9 135 "RecordBenchModel" "bad" "I") (by decide +kernel)) (fun _ h9 => h9) ((mo_get g1_548 (by decide)).trans (congrArg some k_551)) dX9_kinds_162 ?_
          refine lv_if_ne (tgt := 212) hx hb dX9_kinds_165 (by decide) (fun c_567 => ?_) (fun c_567 => absurd c_567 k_531)
          refine lv_aload_n hx hb dX9_kinds_212 rfl (lv_at hl 0 rfl) ?_
          refine va_get (D := (dC, dI)) (ci := 11) (v := .int b1_530) (C := RX9) (T := TX9) (N := 60) hx hb hts iRX9 hown hK hP 5 rfl rfl 13 (by decide) (hts (.fieldLink RX9 135 "RecordBenchModel" "bad" "I") (by decide +kernel)) (fun _ h9 => h9) ((mo_get g1_548 (by decide)).trans (congrArg some k_551)) dX9_kinds_213 ?_
          refine lv_if_ne (tgt := 225) hx hb dX9_kinds_216 (by decide) (fun c_568 => ?_) (fun c_568 => absurd c_568 k_531)
          have hP9 := hP.sub (ws' := [(h0, .inr (11, mo g1_548)), (a9, .inl (cT, 400, .inl f)), (a0, .inl (cZ, 8, .inl tl)), (a2, .inl (cG, 248, .inl f_2)), (a3, .inl (cI, 248, .inl f_524)), (a6, .inl (cP, 248, .inr (.inl f_3))), (a7, .inl (cX, 2976, .inl fX))]) [5, 6, 0, 1, 2, 3, 4] rfl
          have hD9 := hD.sub (ws' := [(h0, .inr (11, mo g1_548)), (a9, .inl (cT, 400, .inl f)), (a0, .inl (cZ, 8, .inl tl)), (a2, .inl (cG, 248, .inl f_2)), (a3, .inl (cI, 248, .inl f_524)), (a6, .inl (cP, 248, .inr (.inl f_3))), (a7, .inl (cX, 2976, .inl fX))]) [5, 6, 0, 1, 2, 3, 4] (by decide) rfl
          have hK9 := hK.sub (tys' := []) [] rfl
          exact W.vret hx hb hr (fun t ht hW => ⟨⟨(g1_548, (tsk f n j + 1), b1_530, (nI (tsk f n j + 1)), (tsk f n j + 1), f_524, f_2, f_3, fX, 0, 0, 0), rfl, ⟨Or.inr ⟨by simp only [kAll, hR, Option.bind_some, Option.bind_none], k_531⟩, (fun x hx => frf_524 x hx), (fun x hx => frf_2 x hx), (fun x hx => frf_3 x hx), (fun _ _ => rfl), w_553, k_551, w_555, (fun j h11 h13 h14 h17 h18 => un_564 j h11 h13 h14 h17 h18)⟩, by rw [ht]; exact hP9, va_K.moved hW.alike hK9, hD9⟩, hS.F ht⟩) hS.2.2 dX9_kinds_225
        · have hR : kRec f n tl p0 p2 j (nI e0) = none := by unfold kRec; rw [pif_pos c_4, pif_neg (show ¬ cRec f n tl p0 j (nI e0) from fun h => h.2.1.1 c_526)]
          refine lv_aload_n hx hb dX9_kinds_81 rfl (lv_at hl 0 rfl) ?_
          refine va_get (D := (dC, dI)) (ci := 11) (v := .int b1_549) (C := RX9) (T := TX9) (N := 60) hx hb hts iRX9 hown hK hP 5 rfl rfl 13 (by decide) (hts (.fieldLink RX9 135 "RecordBenchModel" "bad" "I") (by decide +kernel)) (fun _ h9 => h9) ((mo_get g1_548 (by decide)).trans (congrArg some k_551)) dX9_kinds_82 ?_
          refine lv_if_ne (tgt := 161) hx hb dX9_kinds_85 (by decide) (fun c_569 => ?_) (fun c_569 => absurd c_569 hcy_565)
          refine lv_aload_n hx hb dX9_kinds_161 rfl (lv_at hl 0 rfl) ?_
          refine va_get (D := (dC, dI)) (ci := 11) (v := .int b1_549) (C := RX9) (T := TX9) (N := 60) hx hb hts iRX9 hown hK hP 5 rfl rfl 13 (by decide) (hts (.fieldLink RX9 135 "RecordBenchModel" "bad" "I") (by decide +kernel)) (fun _ h9 => h9) ((mo_get g1_548 (by decide)).trans (congrArg some k_551)) dX9_kinds_162 ?_
          refine lv_if_ne (tgt := 212) hx hb dX9_kinds_165 (by decide) (fun c_570 => ?_) (fun c_570 => absurd c_570 hcy_565)
          refine lv_aload_n hx hb dX9_kinds_212 rfl (lv_at hl 0 rfl) ?_
          refine va_get (D := (dC, dI)) (ci := 11) (v := .int b1_549) (C := RX9) (T := TX9) (N := 60) hx hb hts iRX9 hown hK hP 5 rfl rfl 13 (by decide) (hts (.fieldLink RX9 135 "RecordBenchModel" "bad" "I") (by decide +kernel)) (fun _ h9 => h9) ((mo_get g1_548 (by decide)).trans (congrArg some k_551)) dX9_kinds_213 ?_
          refine lv_if_ne (tgt := 225) hx hb dX9_kinds_216 (by decide) (fun c_571 => ?_) (fun c_571 => absurd c_571 hcy_565)
          have hP9 := hP.sub (ws' := [(h0, .inr (11, mo g1_548)), (a9, .inl (cT, 400, .inl f)), (a0, .inl (cZ, 8, .inl tl)), (a2, .inl (cG, 248, .inl f_2)), (a3, .inl (cI, 248, .inl f_524)), (a6, .inl (cP, 248, .inr (.inl f_3))), (a7, .inl (cX, 2976, .inl fX))]) [5, 6, 0, 1, 2, 3, 4] rfl
          have hD9 := hD.sub (ws' := [(h0, .inr (11, mo g1_548)), (a9, .inl (cT, 400, .inl f)), (a0, .inl (cZ, 8, .inl tl)), (a2, .inl (cG, 248, .inl f_2)), (a3, .inl (cI, 248, .inl f_524)), (a6, .inl (cP, 248, .inr (.inl f_3))), (a7, .inl (cX, 2976, .inl fX))]) [5, 6, 0, 1, 2, 3, 4] (by decide) rfl
          have hK9 := hK.sub (tys' := []) [] rfl
          exact W.vret hx hb hr (fun t ht hW => ⟨⟨(g1_548, (tsk f n j + 1), b1_549, (nI (tsk f n j + 1)), (tsk f n j + 1), f_524, f_2, f_3, fX, 0, 0, 0), rfl, ⟨Or.inr ⟨by simp only [kAll, hR, Option.bind_some, Option.bind_none], hcy_565⟩, (fun x hx => frf_524 x hx), (fun x hx => frf_2 x hx), (fun x hx => frf_3 x hx), (fun _ _ => rfl), w_553, k_551, w_555, (fun j h11 h13 h14 h17 h18 => un_564 j h11 h13 h14 h17 h18)⟩, by rw [ht]; exact hP9, va_K.moved hW.alike hK9, hD9⟩, hS.F ht⟩) hS.2.2 dX9_kinds_225
      · refine lv_aload_n hx hb dX9_kinds_54 rfl (lv_at hl 0 rfl) ?_
        refine va_get (D := (dC, dI)) (ci := 11) (v := .ref a0) (C := RX9) (T := TX9) (N := 60) hx hb hts iRX9 hown hK hP 5 rfl rfl 0 (by decide) (hts (.fieldLink RX9 7 "RecordBenchModel" "told" "[Z") (by decide +kernel)) (fun _ h9 => h9) ((mo_get g1_504 (by decide)).trans (congrArg some w_514)) dX9_kinds_55 ?_
        refine lv_aload_n hx hb dX9_kinds_58 rfl (lv_at hl 0 rfl) ?_
        refine va_get (D := (dC, dI)) (ci := 11) (v := .ref a3) (C := RX9) (T := TX9) (N := 60) hx hb hts iRX9 hown hK hP 5 rfl rfl 3 (by decide) (hts (.fieldLink RX9 20 "RecordBenchModel" "inner" "[I") (by decide +kernel)) (fun _ h9 => h9) ((mo_get g1_504 (by decide)).trans (congrArg some w_516)) dX9_kinds_59 ?_
        refine lv_iload_n hx hb dX9_kinds_62 rfl (lv_at hl 2 rfl) ?_
        refine va_iald hx hb hK hP 2 3 rfl rfl (vp_in_nI hF (by decide)) dX9_kinds_63 ?_
        refine W_toi (y := (tat f n (tsk f n j) - 48)) (by rw [hcF]; exact vf_524) ?_
        refine va_zald hx hb hK hP 0 1 rfl rfl (dig8 hay_523 c_526 hm) dX9_kinds_64 ?_
        refine W_toi (y := tl ((tat f n (tsk f n j) - 48)).toNatClampNeg) (rfl) ?_
        refine lv_if_ne (tgt := 77) hx hb dX9_kinds_65 (by decide) (fun c_572 => ?_) (fun c_572 => ?_)
        · refine lv_aload_n hx hb dX9_kinds_77 rfl (lv_at hl 0 rfl) ?_
          have hFc := va_free (wc := [(h0, .inr (11, mo g1_504)), (a9, .inl (cT, 400, .inl f))]) hD hS hA [5, 6] rfl
          refine va_callv (va_runV (As := []) (rest := []) ⟨hx, hb, hml, hown, hts⟩ (c_X9_ends l dC dI h0 g1_504 a9 cT f (tsk f n j + 1) n 0 w_519 k_509 w_520 k_510 (by omega) (by omega) H.size) (cwV 0 hts gp_X9_kinds_X9_ends_206 rfl rfl rfl (by decide +kernel) ⟨Nat.le_of_ble_eq_true rfl, Nat.le_of_ble_eq_true rfl⟩) ⟨Pr.blind _, va_recv hK hP (ci := 11) (q0 := 5) rfl rfl, fun U hU hW => ⟨rfl, Pr.at (hP.sub (ws' := [(h0, .inr (11, mo g1_504)), (a9, .inl (cT, 400, .inl f))]) [5, 6] rfl) (hK.sub (tys' := [(cT, .int)]) [0] rfl) (hD.sub (ws' := [(h0, .inr (11, mo g1_504)), (a9, .inl (cT, 400, .inl f))]) [5, 6] (by decide) rfl) hN hZ RO.nil hS hFc hU hW⟩⟩ rfl rfl hl.1 rfl (lv_room (Nat.le_of_ble_eq_true rfl)) dX9_kinds_78 ⟨Nat.le_of_ble_eq_true rfl, Nat.le_of_ble_eq_true rfl⟩) hS (fun q _ h => hFc q h) hFc (fun u t H1 locs ht hvm hw_574 hB hz1 hk1 hS => ?_)
          obtain ⟨g1_575, b1_576⟩ := u
          obtain ⟨hP, hD, hK⟩ := Bq.join (wr := [(a0, .inl (cZ, 8, .inl tl)), (a2, .inl (cG, 248, .inl f_2)), (a3, .inl (cI, 248, .inl f_524)), (a6, .inl (cP, 248, .inr (.inl f_3))), (a7, .inl (cX, 2976, .inl fX))]) hB ht hvm hP hD [5, 6] [0, 1, 2, 3, 4] rfl rfl (by decide) (by decide) hk1 hFc hK
          generalize H1 = H at hP hS ⊢
          have hP : va_P (dC, dI) vwCl [(a0, .inl (cZ, 8, .inl tl)), (a2, .inl (cG, 248, .inl f_2)), (a3, .inl (cI, 248, .inl f_524)), (a6, .inl (cP, 248, .inr (.inl f_3))), (a7, .inl (cX, 2976, .inl fX)), (h0, .inr (11, mo g1_575)), (a9, .inl (cT, 400, .inl f))] H := hP
          have hD : va_D A [(a0, .inl (cZ, 8, .inl tl)), (a2, .inl (cG, 248, .inl f_2)), (a3, .inl (cI, 248, .inl f_524)), (a6, .inl (cP, 248, .inr (.inl f_3))), (a7, .inl (cX, 2976, .inl fX)), (h0, .inr (11, mo g1_575)), (a9, .inl (cT, 400, .inl f))] := hD
          have hK : va_K (dC, dI) vwCl [(cT, .int), (cZ, .boolean), (cG, .int), (cI, .int), (cP, .long), (cX, .int)] s := hK
          try dsimp only at hw_574
          obtain ⟨k_577, k_578, k_579⟩ := hw_574
          have w_580 : g1_575 11 = .int (nI (tsk f n j + 1)) := (k_579 11 (by decide) (by decide)).trans k_509
          have w_581 : g1_575 17 = .int (nI (tsk f n j)) := (k_579 17 (by decide) (by decide)).trans k_511
          have w_582 : g1_575 18 = .int (nI (tsk f n j + 1)) := (k_579 18 (by decide) (by decide)).trans k_512
          have w_583 : g1_575 0 = .ref a0 := (k_579 0 (by decide) (by decide)).trans w_514
          have w_584 : g1_575 2 = .ref a2 := (k_579 2 (by decide) (by decide)).trans w_515
          have w_585 : g1_575 3 = .ref a3 := (k_579 3 (by decide) (by decide)).trans w_516
          have w_586 : g1_575 6 = .ref a6 := (k_579 6 (by decide) (by decide)).trans w_517
          have w_587 : g1_575 7 = .ref a7 := (k_579 7 (by decide) (by decide)).trans w_518
          have w_588 : g1_575 9 = .ref a9 := (k_579 9 (by decide) (by decide)).trans w_519
          have w_589 : g1_575 12 = .int (nI n) := (k_579 12 (by decide) (by decide)).trans w_520
          have w_590 : g1_575 26 = .long iw := (k_579 26 (by decide) (by decide)).trans w_521
          have un_591 : ∀ j : Nat, j ≠ 11 → j ≠ 13 → j ≠ 14 → j ≠ 17 → j ≠ 18 → g1_575 j = g j := fun j h11 h13 h14 h17 h18 => (k_579 j h13 h14).trans (un_522 j h11 h13 h14 h17 h18)
          have := tsk_ge f n (tsk f n j + 1)
          have := tsk_le (f := f) (n := n) (j := tsk f n j + 1) (by omega)
          have := twe_ge f n (tsk f n (tsk f n j + 1))
          have := twe_le (f := f) (n := n) (j := tsk f n (tsk f n j + 1)) (by omega)
          have := twe_ge f n (tsk f n j + 1)
          have := twe_le (f := f) (n := n) (j := tsk f n j + 1) (by omega)
          rcases k_577 with ⟨hay_592, rfl⟩ | ⟨hay_592, hcy_592⟩
          · have hR : kRec f n tl p0 p2 j (nI e0) = some (tsk f n j + 1, nI (tsk f n j + 1), tat f n (tsk f n j) - 48) := by unfold kRec; rw [pif_pos c_4, pif_pos (show cRec f n tl p0 j (nI e0) from ⟨⟨hay_523, hdy_523⟩, ⟨c_526, c_572⟩, hay_592⟩)]
            refine lv_aload_n hx hb dX9_kinds_81 rfl (lv_at hl 0 rfl) ?_
            refine va_get (D := (dC, dI)) (ci := 11) (v := .int 0) (C := RX9) (T := TX9) (N := 60) hx hb hts iRX9 hown hK hP 5 rfl rfl 13 (by decide) (hts (.fieldLink RX9 135 "RecordBenchModel" "bad" "I") (by decide +kernel)) (fun _ h9 => h9) ((mo_get g1_575 (by decide)).trans (congrArg some k_578)) dX9_kinds_82 ?_
            refine lv_if_ne (tgt := 161) hx hb dX9_kinds_85 (by decide) (fun c_593 => absurd (by decide) c_593) (fun c_593 => ?_)
            refine lv_aload_n hx hb dX9_kinds_88 rfl (lv_at hl 0 rfl) ?_
            have hFc := va_free (wc := [(h0, .inr (11, mo g1_575)), (a9, .inl (cT, 400, .inl f))]) hD hS hA [5, 6] rfl
            refine va_calll (va_runV (As := []) (rest := []) ⟨hx, hb, hml, hown, hts⟩ (c_X9_word l dC dI h0 g1_575 a9 cT f (tsk f n j + 1) n w_588 w_580 w_589 (by omega) (by omega) H.size) (cwV 0 hts gp_X9_kinds_X9_word_184 rfl rfl rfl (by decide +kernel) ⟨Nat.le_of_ble_eq_true rfl, Nat.le_of_ble_eq_true rfl⟩) ⟨Pr.blind _, va_recv hK hP (ci := 11) (q0 := 5) rfl rfl, fun U hU hW => ⟨rfl, Pr.at (hP.sub (ws' := [(h0, .inr (11, mo g1_575)), (a9, .inl (cT, 400, .inl f))]) [5, 6] rfl) (hK.sub (tys' := [(cT, .int)]) [0] rfl) (hD.sub (ws' := [(h0, .inr (11, mo g1_575)), (a9, .inl (cT, 400, .inl f))]) [5, 6] (by decide) rfl) hN hZ RO.nil hS hFc hU hW⟩⟩ rfl rfl hl.1 rfl (lv_room (Nat.le_of_ble_eq_true rfl)) dX9_kinds_89 ⟨Nat.le_of_ble_eq_true rfl, Nat.le_of_ble_eq_true rfl⟩) hS (fun q _ h => hFc q h) hFc (fun r_594 u t H1 locs ht hvm hw_595 hB hz1 hk1 hS => ?_)
            obtain ⟨g1_596, rfl⟩ : ∃ z, z = u := ⟨_, rfl⟩
            obtain ⟨hP, hD, hK⟩ := Bq.join (wr := [(a0, .inl (cZ, 8, .inl tl)), (a2, .inl (cG, 248, .inl f_2)), (a3, .inl (cI, 248, .inl f_524)), (a6, .inl (cP, 248, .inr (.inl f_3))), (a7, .inl (cX, 2976, .inl fX))]) hB ht hvm hP hD [5, 6] [0, 1, 2, 3, 4] rfl rfl (by decide) (by decide) hk1 hFc hK
            generalize H1 = H at hP hS ⊢
            have hP : va_P (dC, dI) vwCl [(a0, .inl (cZ, 8, .inl tl)), (a2, .inl (cG, 248, .inl f_2)), (a3, .inl (cI, 248, .inl f_524)), (a6, .inl (cP, 248, .inr (.inl f_3))), (a7, .inl (cX, 2976, .inl fX)), (h0, .inr (11, mo g1_596)), (a9, .inl (cT, 400, .inl f))] H := hP
            have hD : va_D A [(a0, .inl (cZ, 8, .inl tl)), (a2, .inl (cG, 248, .inl f_2)), (a3, .inl (cI, 248, .inl f_524)), (a6, .inl (cP, 248, .inr (.inl f_3))), (a7, .inl (cX, 2976, .inl fX)), (h0, .inr (11, mo g1_596)), (a9, .inl (cT, 400, .inl f))] := hD
            have hK : va_K (dC, dI) vwCl [(cT, .int), (cZ, .boolean), (cG, .int), (cI, .int), (cP, .long), (cX, .int)] s := hK
            try dsimp only at hw_595
            obtain ⟨k_597, k_598, k_599, k_600⟩ := hw_595
            have w_601 : g1_596 13 = .int 0 := (k_600 13 (by decide) (by decide)).trans k_578
            have w_602 : g1_596 18 = .int (nI (tsk f n j + 1)) := (k_600 18 (by decide) (by decide)).trans w_582
            have w_603 : g1_596 0 = .ref a0 := (k_600 0 (by decide) (by decide)).trans w_583
            have w_604 : g1_596 2 = .ref a2 := (k_600 2 (by decide) (by decide)).trans w_584
            have w_605 : g1_596 3 = .ref a3 := (k_600 3 (by decide) (by decide)).trans w_585
            have w_606 : g1_596 6 = .ref a6 := (k_600 6 (by decide) (by decide)).trans w_586
            have w_607 : g1_596 7 = .ref a7 := (k_600 7 (by decide) (by decide)).trans w_587
            have w_608 : g1_596 9 = .ref a9 := (k_600 9 (by decide) (by decide)).trans w_588
            have w_609 : g1_596 12 = .int (nI n) := (k_600 12 (by decide) (by decide)).trans w_589
            have w_610 : g1_596 26 = .long iw := (k_600 26 (by decide) (by decide)).trans w_590
            have un_611 : ∀ j : Nat, j ≠ 11 → j ≠ 13 → j ≠ 14 → j ≠ 17 → j ≠ 18 → g1_596 j = g j := fun j h11 h13 h14 h17 h18 => (k_600 j h11 h17).trans (un_591 j h11 h13 h14 h17 h18)
            have := tsk_ge f n (tsk f n j + 1)
            have := tsk_le (f := f) (n := n) (j := tsk f n j + 1) (by omega)
            have := twe_ge f n (tsk f n (tsk f n j + 1))
            have := twe_le (f := f) (n := n) (j := tsk f n (tsk f n j + 1)) (by omega)
            have := twe_ge f n (tsk f n j + 1)
            have := twe_le (f := f) (n := n) (j := tsk f n j + 1) (by omega)
            refine W_tol (y := twd f n (tsk f n (tsk f n j + 1))) k_597 ?_
            refine lv_aload_n hx hb dX9_kinds_92 rfl (lv_at hl 0 rfl) ?_
            refine va_get (D := (dC, dI)) (ci := 11) (v := .long iw) (C := RX9) (T := TX9) (N := 60) hx hb hts iRX9 hown hK hP 5 rfl rfl 26 (by decide) (hts (.fieldLink RX9 72 "RecordBenchModel" "inWord" "J") (by decide +kernel)) (fun _ h9 => h9) ((mo_get g1_596 (by decide)).trans (congrArg some w_610)) dX9_kinds_93 ?_
            refine W.lcmp hx hb dX9_kinds_96 ?_
            refine lv_if_ne (tgt := 161) hx hb dX9_kinds_97 (by decide) (fun c_612 => ?_) (fun c_612 => ?_)
            · have hI : kIn f n iw (tsk f n j + 1) (nI (tsk f n j + 1)) = some (tsk f n (tsk f n j + 1), nI (tsk f n j + 1), 0) := by unfold kIn; rw [pif_neg (show ¬ twd f n (tsk f n (tsk f n j + 1)) = iw from fun h => c_612 ((lg_cmp_eq _ _).mpr h))]
              refine lv_aload_n hx hb dX9_kinds_161 rfl (lv_at hl 0 rfl) ?_
              refine va_get (D := (dC, dI)) (ci := 11) (v := .int 0) (C := RX9) (T := TX9) (N := 60) hx hb hts iRX9 hown hK hP 5 rfl rfl 13 (by decide) (hts (.fieldLink RX9 135 "RecordBenchModel" "bad" "I") (by decide +kernel)) (fun _ h9 => h9) ((mo_get g1_596 (by decide)).trans (congrArg some w_601)) dX9_kinds_162 ?_
              refine lv_if_ne (tgt := 212) hx hb dX9_kinds_165 (by decide) (fun c_613 => absurd (by decide) c_613) (fun c_613 => ?_)
              refine lv_aload_n hx hb dX9_kinds_168 rfl (lv_at hl 0 rfl) ?_
              have hFc := va_free (wc := [(h0, .inr (11, mo g1_596)), (a9, .inl (cT, 400, .inl f))]) hD hS hA [5, 6] rfl
              refine va_calli (va_runV (As := []) (rest := []) ⟨hx, hb, hml, hown, hts⟩ (c_X9_next l dC dI h0 g1_596 a9 cT f (tsk f n (tsk f n j + 1)) n w_608 k_598 w_609 (by omega) (by omega) H.size) (cwV 0 hts gp_X9_kinds_X9_next_150 rfl rfl rfl (by decide +kernel) ⟨Nat.le_of_ble_eq_true rfl, Nat.le_of_ble_eq_true rfl⟩) ⟨Pr.blind _, va_recv hK hP (ci := 11) (q0 := 5) rfl rfl, fun U hU hW => ⟨rfl, Pr.at (hP.sub (ws' := [(h0, .inr (11, mo g1_596)), (a9, .inl (cT, 400, .inl f))]) [5, 6] rfl) (hK.sub (tys' := [(cT, .int)]) [0] rfl) (hD.sub (ws' := [(h0, .inr (11, mo g1_596)), (a9, .inl (cT, 400, .inl f))]) [5, 6] (by decide) rfl) hN hZ RO.nil hS hFc hU hW⟩⟩ rfl rfl hl.1 rfl (lv_room (Nat.le_of_ble_eq_true rfl)) dX9_kinds_169 ⟨Nat.le_of_ble_eq_true rfl, Nat.le_of_ble_eq_true rfl⟩) hS (fun q _ h => hFc q h) hFc (fun r_614 u t H1 locs ht hvm hw_615 hB hz1 hk1 hS => ?_)
              obtain ⟨g1_616, rfl⟩ : ∃ z, z = u := ⟨_, rfl⟩
              obtain ⟨hP, hD, hK⟩ := Bq.join (wr := [(a0, .inl (cZ, 8, .inl tl)), (a2, .inl (cG, 248, .inl f_2)), (a3, .inl (cI, 248, .inl f_524)), (a6, .inl (cP, 248, .inr (.inl f_3))), (a7, .inl (cX, 2976, .inl fX))]) hB ht hvm hP hD [5, 6] [0, 1, 2, 3, 4] rfl rfl (by decide) (by decide) hk1 hFc hK
              generalize H1 = H at hP hS ⊢
              have hP : va_P (dC, dI) vwCl [(a0, .inl (cZ, 8, .inl tl)), (a2, .inl (cG, 248, .inl f_2)), (a3, .inl (cI, 248, .inl f_524)), (a6, .inl (cP, 248, .inr (.inl f_3))), (a7, .inl (cX, 2976, .inl fX)), (h0, .inr (11, mo g1_616)), (a9, .inl (cT, 400, .inl f))] H := hP
              have hD : va_D A [(a0, .inl (cZ, 8, .inl tl)), (a2, .inl (cG, 248, .inl f_2)), (a3, .inl (cI, 248, .inl f_524)), (a6, .inl (cP, 248, .inr (.inl f_3))), (a7, .inl (cX, 2976, .inl fX)), (h0, .inr (11, mo g1_616)), (a9, .inl (cT, 400, .inl f))] := hD
              have hK : va_K (dC, dI) vwCl [(cT, .int), (cZ, .boolean), (cG, .int), (cI, .int), (cP, .long), (cX, .int)] s := hK
              try dsimp only at hw_615
              obtain ⟨k_617, k_618, k_619, k_620⟩ := hw_615
              have w_621 : g1_616 13 = .int 0 := (k_620 13 (by decide) (by decide)).trans w_601
              have w_622 : g1_616 18 = .int (nI (tsk f n j + 1)) := (k_620 18 (by decide) (by decide)).trans w_602
              have w_623 : g1_616 0 = .ref a0 := (k_620 0 (by decide) (by decide)).trans w_603
              have w_624 : g1_616 2 = .ref a2 := (k_620 2 (by decide) (by decide)).trans w_604
              have w_625 : g1_616 3 = .ref a3 := (k_620 3 (by decide) (by decide)).trans w_605
              have w_626 : g1_616 6 = .ref a6 := (k_620 6 (by decide) (by decide)).trans w_606
              have w_627 : g1_616 7 = .ref a7 := (k_620 7 (by decide) (by decide)).trans w_607
              have w_628 : g1_616 9 = .ref a9 := (k_620 9 (by decide) (by decide)).trans w_608
              have w_629 : g1_616 12 = .int (nI n) := (k_620 12 (by decide) (by decide)).trans w_609
              have w_630 : g1_616 26 = .long iw := (k_620 26 (by decide) (by decide)).trans w_610
              have un_631 : ∀ j : Nat, j ≠ 11 → j ≠ 13 → j ≠ 14 → j ≠ 17 → j ≠ 18 → g1_616 j = g j := fun j h11 h13 h14 h17 h18 => (k_620 j h11 h17).trans (un_611 j h11 h13 h14 h17 h18)
              have := tsk_ge f n (tsk f n (tsk f n j + 1))
              have := tsk_le (f := f) (n := n) (j := tsk f n (tsk f n j + 1)) (by omega)
              have := twe_ge f n (tsk f n (tsk f n (tsk f n j + 1)))
              have := twe_le (f := f) (n := n) (j := tsk f n (tsk f n (tsk f n j + 1))) (by omega)
              have := twe_ge f n (tsk f n (tsk f n j + 1))
              have := twe_le (f := f) (n := n) (j := tsk f n (tsk f n j + 1)) (by omega)
              refine W_toi (y := tat f n (tsk f n (tsk f n (tsk f n j + 1)))) k_617 ?_
              refine lv_bipush (v := 61) hx hb dX9_kinds_172 (by decide) ?_
              refine lv_icmp_ne (tgt := 212) hx hb dX9_kinds_174 (by decide) (fun c_632 => ?_) (fun c_632 => ?_)
              · have hD_ : kDef f n p2 (tsk f n (tsk f n j + 1)) = some (tsk f n (tsk f n (tsk f n j + 1)), 0) := by unfold kDef; rw [pif_neg (show ¬ (tat f n (tsk f n (tsk f n (tsk f n j + 1))) = 61 ∧ p2 ≠ 6) from fun h => c_632 h.1)]
                refine lv_aload_n hx hb dX9_kinds_212 rfl (lv_at hl 0 rfl) ?_
                refine va_get (D := (dC, dI)) (ci := 11) (v := .int 0) (C := RX9) (T := TX9) (N := 60) hx hb hts iRX9 hown hK hP 5 rfl rfl 13 (by decide) (hts (.fieldLink RX9 135 "RecordBenchModel" "bad" "I") (by decide +kernel)) (fun _ h9 => h9) ((mo_get g1_616 (by decide)).trans (congrArg some w_621)) dX9_kinds_213 ?_
                refine lv_if_ne (tgt := 225) hx hb dX9_kinds_216 (by decide) (fun c_633 => absurd (by decide) c_633) (fun c_633 => ?_)
                refine lv_aload_n hx hb dX9_kinds_219 rfl (lv_at hl 0 rfl) ?_
                refine lv_bipush (v := 59) hx hb dX9_kinds_220 (by decide) ?_
                have hFc := va_free (wc := [(h0, .inr (11, mo g1_616)), (a9, .inl (cT, 400, .inl f))]) hD hS hA [5, 6] rfl
                refine va_callv (va_runV (As := [.int 59]) (rest := []) ⟨hx, hb, hml, hown, hts⟩ (c_X9_sign l dC dI h0 g1_616 a9 cT f (tsk f n (tsk f n (tsk f n j + 1))) n 0 w_628 k_618 w_629 w_621 (by omega) (by omega) 59 (by decide) H.size) (cwV 1 hts gp_X9_kinds_X9_sign_191 rfl rfl rfl (by decide +kernel) ⟨Nat.le_of_ble_eq_true rfl, Nat.le_of_ble_eq_true rfl⟩) ⟨Pr.blind _, va_recv hK hP (ci := 11) (q0 := 5) rfl rfl, fun U hU hW => ⟨rfl, Pr.at (hP.sub (ws' := [(h0, .inr (11, mo g1_616)), (a9, .inl (cT, 400, .inl f))]) [5, 6] rfl) (hK.sub (tys' := [(cT, .int)]) [0] rfl) (hD.sub (ws' := [(h0, .inr (11, mo g1_616)), (a9, .inl (cT, 400, .inl f))]) [5, 6] (by decide) rfl) hN hZ RO.nil hS hFc hU hW⟩⟩ rfl rfl hl.1 rfl (lv_room (Nat.le_of_ble_eq_true rfl)) dX9_kinds_222 ⟨Nat.le_of_ble_eq_true rfl, Nat.le_of_ble_eq_true rfl⟩) hS (fun q _ h => hFc q h) hFc (fun u t H1 locs ht hvm hw_635 hB hz1 hk1 hS => ?_)
                obtain ⟨g1_636, j1_637, b1_638⟩ := u
                obtain ⟨hP, hD, hK⟩ := Bq.join (wr := [(a0, .inl (cZ, 8, .inl tl)), (a2, .inl (cG, 248, .inl f_2)), (a3, .inl (cI, 248, .inl f_524)), (a6, .inl (cP, 248, .inr (.inl f_3))), (a7, .inl (cX, 2976, .inl fX))]) hB ht hvm hP hD [5, 6] [0, 1, 2, 3, 4] rfl rfl (by decide) (by decide) hk1 hFc hK
                generalize H1 = H at hP hS ⊢
                have hP : va_P (dC, dI) vwCl [(a0, .inl (cZ, 8, .inl tl)), (a2, .inl (cG, 248, .inl f_2)), (a3, .inl (cI, 248, .inl f_524)), (a6, .inl (cP, 248, .inr (.inl f_3))), (a7, .inl (cX, 2976, .inl fX)), (h0, .inr (11, mo g1_636)), (a9, .inl (cT, 400, .inl f))] H := hP
                have hD : va_D A [(a0, .inl (cZ, 8, .inl tl)), (a2, .inl (cG, 248, .inl f_2)), (a3, .inl (cI, 248, .inl f_524)), (a6, .inl (cP, 248, .inr (.inl f_3))), (a7, .inl (cX, 2976, .inl fX)), (h0, .inr (11, mo g1_636)), (a9, .inl (cT, 400, .inl f))] := hD
                have hK : va_K (dC, dI) vwCl [(cT, .int), (cZ, .boolean), (cG, .int), (cI, .int), (cP, .long), (cX, .int)] s := hK
                try dsimp only at hw_635
                obtain ⟨k_639, k_640, k_641, k_642, k_643⟩ := hw_635
                have w_644 : g1_636 18 = .int (nI (tsk f n j + 1)) := (k_643 18 (by decide) (by decide) (by decide) (by decide)).trans w_622
                have w_645 : g1_636 0 = .ref a0 := (k_643 0 (by decide) (by decide) (by decide) (by decide)).trans w_623
                have w_646 : g1_636 2 = .ref a2 := (k_643 2 (by decide) (by decide) (by decide) (by decide)).trans w_624
                have w_647 : g1_636 3 = .ref a3 := (k_643 3 (by decide) (by decide) (by decide) (by decide)).trans w_625
                have w_648 : g1_636 6 = .ref a6 := (k_643 6 (by decide) (by decide) (by decide) (by decide)).trans w_626
                have w_649 : g1_636 7 = .ref a7 := (k_643 7 (by decide) (by decide) (by decide) (by decide)).trans w_627
                have w_650 : g1_636 9 = .ref a9 := (k_643 9 (by decide) (by decide) (by decide) (by decide)).trans w_628
                have w_651 : g1_636 12 = .int (nI n) := (k_643 12 (by decide) (by decide) (by decide) (by decide)).trans w_629
                have w_652 : g1_636 26 = .long iw := (k_643 26 (by decide) (by decide) (by decide) (by decide)).trans w_630
                have un_653 : ∀ j : Nat, j ≠ 11 → j ≠ 13 → j ≠ 14 → j ≠ 17 → j ≠ 18 → g1_636 j = g j := fun j h11 h13 h14 h17 h18 => (k_643 j h11 h13 h14 h17).trans (un_631 j h11 h13 h14 h17 h18)
                have := tsk_ge f n (tsk f n (tsk f n (tsk f n j + 1)))
                have := tsk_le (f := f) (n := n) (j := tsk f n (tsk f n (tsk f n j + 1))) (by omega)
                have := twe_ge f n (tsk f n (tsk f n (tsk f n (tsk f n j + 1))))
                have := twe_le (f := f) (n := n) (j := tsk f n (tsk f n (tsk f n (tsk f n j + 1)))) (by omega)
                have := twe_ge f n (tsk f n (tsk f n (tsk f n j + 1)))
                have := twe_le (f := f) (n := n) (j := tsk f n (tsk f n (tsk f n j + 1))) (by omega)
                rcases k_639 with ⟨hay_654, hby_654, rfl, rfl⟩ | ⟨hay_654, rfl, hcy_654⟩
                · have hP9 := hP.sub (ws' := [(h0, .inr (11, mo g1_636)), (a9, .inl (cT, 400, .inl f)), (a0, .inl (cZ, 8, .inl tl)), (a2, .inl (cG, 248, .inl f_2)), (a3, .inl (cI, 248, .inl f_524)), (a6, .inl (cP, 248, .inr (.inl f_3))), (a7, .inl (cX, 2976, .inl fX))]) [5, 6, 0, 1, 2, 3, 4] rfl
                  have hD9 := hD.sub (ws' := [(h0, .inr (11, mo g1_636)), (a9, .inl (cT, 400, .inl f)), (a0, .inl (cZ, 8, .inl tl)), (a2, .inl (cG, 248, .inl f_2)), (a3, .inl (cI, 248, .inl f_524)), (a6, .inl (cP, 248, .inr (.inl f_3))), (a7, .inl (cX, 2976, .inl fX))]) [5, 6, 0, 1, 2, 3, 4] (by decide) rfl
                  have hK9 := hK.sub (tys' := []) [] rfl
                  exact W.vret hx hb hr (fun t ht hW => ⟨⟨(g1_636, (tsk f n (tsk f n (tsk f n (tsk f n j + 1))) + 1), 0, (nI (tsk f n j + 1)), (tsk f n j + 1), f_524, f_2, f_3, fX, (tat f n (tsk f n j) - 48), 0, 0), rfl, ⟨Or.inl ⟨by simp only [kAll, hR, hI, hD_, Option.bind_some, Option.bind_none]; rw [pif_pos hay_654], rfl, by omega, ⟨rfl, by omega⟩, vf_524, vf_2, vf_3⟩, (fun x hx => frf_524 x hx), (fun x hx => frf_2 x hx), (fun x hx => frf_3 x hx), (fun _ _ => rfl), k_640, k_641, w_644, (fun j h11 h13 h14 h17 h18 => un_653 j h11 h13 h14 h17 h18)⟩, by rw [ht]; exact hP9, va_K.moved hW.alike hK9, hD9⟩, hS.F ht⟩) hS.2.2 dX9_kinds_225
                · have hP9 := hP.sub (ws' := [(h0, .inr (11, mo g1_636)), (a9, .inl (cT, 400, .inl f)), (a0, .inl (cZ, 8, .inl tl)), (a2, .inl (cG, 248, .inl f_2)), (a3, .inl (cI, 248, .inl f_524)), (a6, .inl (cP, 248, .inr (.inl f_3))), (a7, .inl (cX, 2976, .inl fX))]) [5, 6, 0, 1, 2, 3, 4] rfl
                  have hD9 := hD.sub (ws' := [(h0, .inr (11, mo g1_636)), (a9, .inl (cT, 400, .inl f)), (a0, .inl (cZ, 8, .inl tl)), (a2, .inl (cG, 248, .inl f_2)), (a3, .inl (cI, 248, .inl f_524)), (a6, .inl (cP, 248, .inr (.inl f_3))), (a7, .inl (cX, 2976, .inl fX))]) [5, 6, 0, 1, 2, 3, 4] (by decide) rfl
                  have hK9 := hK.sub (tys' := []) [] rfl
                  exact W.vret hx hb hr (fun t ht hW => ⟨⟨(g1_636, (tsk f n (tsk f n (tsk f n (tsk f n j + 1)))), b1_638, (nI (tsk f n j + 1)), (tsk f n j + 1), f_524, f_2, f_3, fX, (tat f n (tsk f n j) - 48), 0, 0), rfl, ⟨Or.inr ⟨by simp only [kAll, hR, hI, hD_, Option.bind_some, Option.bind_none]; rw [pif_neg hay_654], hcy_654⟩, (fun x hx => frf_524 x hx), (fun x hx => frf_2 x hx), (fun x hx => frf_3 x hx), (fun _ _ => rfl), k_640, k_641, w_644, (fun j h11 h13 h14 h17 h18 => un_653 j h11 h13 h14 h17 h18)⟩, by rw [ht]; exact hP9, va_K.moved hW.alike hK9, hD9⟩, hS.F ht⟩) hS.2.2 dX9_kinds_225
              · refine lv_iload_n hx hb dX9_kinds_177 rfl (lv_at hl 3 rfl) ?_
                refine lv_bipush (v := 6) hx hb dX9_kinds_178 (by decide) ?_
                refine lv_icmp_eq (tgt := 212) hx hb dX9_kinds_180 (by decide) (fun c_655 => ?_) (fun c_655 => absurd (c_4) c_655)
                have hD_ : kDef f n p2 (tsk f n (tsk f n j + 1)) = some (tsk f n (tsk f n (tsk f n j + 1)), 0) := by unfold kDef; rw [pif_neg (show ¬ (tat f n (tsk f n (tsk f n (tsk f n j + 1))) = 61 ∧ p2 ≠ 6) from fun h => h.2 c_655)]
                refine lv_aload_n hx hb dX9_kinds_212 rfl (lv_at hl 0 rfl) ?_
                refine va_get (D := (dC, dI)) (ci := 11) (v := .int 0) (C := RX9) (T := TX9) (N := 60) hx hb hts iRX9 hown hK hP 5 rfl rfl 13 (by decide) (hts (.fieldLink RX9 135 "RecordBenchModel" "bad" "I") (by decide +kernel)) (fun _ h9 => h9) ((mo_get g1_616 (by decide)).trans (congrArg some w_621)) dX9_kinds_213 ?_
                refine lv_if_ne (tgt := 225) hx hb dX9_kinds_216 (by decide) (fun c_656 => absurd (by decide) c_656) (fun c_656 => ?_)
                refine lv_aload_n hx hb dX9_kinds_219 rfl (lv_at hl 0 rfl) ?_
                refine lv_bipush (v := 59) hx hb dX9_kinds_220 (by decide) ?_
                have hFc := va_free (wc := [(h0, .inr (11, mo g1_616)), (a9, .inl (cT, 400, .inl f))]) hD hS hA [5, 6] rfl
                refine va_callv (va_runV (As := [.int 59]) (rest := []) ⟨hx, hb, hml, hown, hts⟩ (c_X9_sign l dC dI h0 g1_616 a9 cT f (tsk f n (tsk f n (tsk f n j + 1))) n 0 w_628 k_618 w_629 w_621 (by omega) (by omega) 59 (by decide) H.size) (cwV 1 hts gp_X9_kinds_X9_sign_191 rfl rfl rfl (by decide +kernel) ⟨Nat.le_of_ble_eq_true rfl, Nat.le_of_ble_eq_true rfl⟩) ⟨Pr.blind _, va_recv hK hP (ci := 11) (q0 := 5) rfl rfl, fun U hU hW => ⟨rfl, Pr.at (hP.sub (ws' := [(h0, .inr (11, mo g1_616)), (a9, .inl (cT, 400, .inl f))]) [5, 6] rfl) (hK.sub (tys' := [(cT, .int)]) [0] rfl) (hD.sub (ws' := [(h0, .inr (11, mo g1_616)), (a9, .inl (cT, 400, .inl f))]) [5, 6] (by decide) rfl) hN hZ RO.nil hS hFc hU hW⟩⟩ rfl rfl hl.1 rfl (lv_room (Nat.le_of_ble_eq_true rfl)) dX9_kinds_222 ⟨Nat.le_of_ble_eq_true rfl, Nat.le_of_ble_eq_true rfl⟩) hS (fun q _ h => hFc q h) hFc (fun u t H1 locs ht hvm hw_658 hB hz1 hk1 hS => ?_)
                obtain ⟨g1_659, j1_660, b1_661⟩ := u
                obtain ⟨hP, hD, hK⟩ := Bq.join (wr := [(a0, .inl (cZ, 8, .inl tl)), (a2, .inl (cG, 248, .inl f_2)), (a3, .inl (cI, 248, .inl f_524)), (a6, .inl (cP, 248, .inr (.inl f_3))), (a7, .inl (cX, 2976, .inl fX))]) hB ht hvm hP hD [5, 6] [0, 1, 2, 3, 4] rfl rfl (by decide) (by decide) hk1 hFc hK
                generalize H1 = H at hP hS ⊢
                have hP : va_P (dC, dI) vwCl [(a0, .inl (cZ, 8, .inl tl)), (a2, .inl (cG, 248, .inl f_2)), (a3, .inl (cI, 248, .inl f_524)), (a6, .inl (cP, 248, .inr (.inl f_3))), (a7, .inl (cX, 2976, .inl fX)), (h0, .inr (11, mo g1_659)), (a9, .inl (cT, 400, .inl f))] H := hP
                have hD : va_D A [(a0, .inl (cZ, 8, .inl tl)), (a2, .inl (cG, 248, .inl f_2)), (a3, .inl (cI, 248, .inl f_524)), (a6, .inl (cP, 248, .inr (.inl f_3))), (a7, .inl (cX, 2976, .inl fX)), (h0, .inr (11, mo g1_659)), (a9, .inl (cT, 400, .inl f))] := hD
                have hK : va_K (dC, dI) vwCl [(cT, .int), (cZ, .boolean), (cG, .int), (cI, .int), (cP, .long), (cX, .int)] s := hK
                try dsimp only at hw_658
                obtain ⟨k_662, k_663, k_664, k_665, k_666⟩ := hw_658
                have w_667 : g1_659 18 = .int (nI (tsk f n j + 1)) := (k_666 18 (by decide) (by decide) (by decide) (by decide)).trans w_622
                have w_668 : g1_659 0 = .ref a0 := (k_666 0 (by decide) (by decide) (by decide) (by decide)).trans w_623
                have w_669 : g1_659 2 = .ref a2 := (k_666 2 (by decide) (by decide) (by decide) (by decide)).trans w_624
                have w_670 : g1_659 3 = .ref a3 := (k_666 3 (by decide) (by decide) (by decide) (by decide)).trans w_625
                have w_671 : g1_659 6 = .ref a6 := (k_666 6 (by decide) (by decide) (by decide) (by decide)).trans w_626
                have w_672 : g1_659 7 = .ref a7 := (k_666 7 (by decide) (by decide) (by decide) (by decide)).trans w_627
                have w_673 : g1_659 9 = .ref a9 := (k_666 9 (by decide) (by decide) (by decide) (by decide)).trans w_628
                have w_674 : g1_659 12 = .int (nI n) := (k_666 12 (by decide) (by decide) (by decide) (by decide)).trans w_629
                have w_675 : g1_659 26 = .long iw := (k_666 26 (by decide) (by decide) (by decide) (by decide)).trans w_630
                have un_676 : ∀ j : Nat, j ≠ 11 → j ≠ 13 → j ≠ 14 → j ≠ 17 → j ≠ 18 → g1_659 j = g j := fun j h11 h13 h14 h17 h18 => (k_666 j h11 h13 h14 h17).trans (un_631 j h11 h13 h14 h17 h18)
                have := tsk_ge f n (tsk f n (tsk f n (tsk f n j + 1)))
                have := tsk_le (f := f) (n := n) (j := tsk f n (tsk f n (tsk f n j + 1))) (by omega)
                have := twe_ge f n (tsk f n (tsk f n (tsk f n (tsk f n j + 1))))
                have := twe_le (f := f) (n := n) (j := tsk f n (tsk f n (tsk f n (tsk f n j + 1)))) (by omega)
                have := twe_ge f n (tsk f n (tsk f n (tsk f n j + 1)))
                have := twe_le (f := f) (n := n) (j := tsk f n (tsk f n (tsk f n j + 1))) (by omega)
                rcases k_662 with ⟨hay_677, hby_677, rfl, rfl⟩ | ⟨hay_677, rfl, hcy_677⟩
                · have hP9 := hP.sub (ws' := [(h0, .inr (11, mo g1_659)), (a9, .inl (cT, 400, .inl f)), (a0, .inl (cZ, 8, .inl tl)), (a2, .inl (cG, 248, .inl f_2)), (a3, .inl (cI, 248, .inl f_524)), (a6, .inl (cP, 248, .inr (.inl f_3))), (a7, .inl (cX, 2976, .inl fX))]) [5, 6, 0, 1, 2, 3, 4] rfl
                  have hD9 := hD.sub (ws' := [(h0, .inr (11, mo g1_659)), (a9, .inl (cT, 400, .inl f)), (a0, .inl (cZ, 8, .inl tl)), (a2, .inl (cG, 248, .inl f_2)), (a3, .inl (cI, 248, .inl f_524)), (a6, .inl (cP, 248, .inr (.inl f_3))), (a7, .inl (cX, 2976, .inl fX))]) [5, 6, 0, 1, 2, 3, 4] (by decide) rfl
                  have hK9 := hK.sub (tys' := []) [] rfl
                  exact W.vret hx hb hr (fun t ht hW => ⟨⟨(g1_659, (tsk f n (tsk f n (tsk f n (tsk f n j + 1))) + 1), 0, (nI (tsk f n j + 1)), (tsk f n j + 1), f_524, f_2, f_3, fX, (tat f n (tsk f n j) - 48), 0, 0), rfl, ⟨Or.inl ⟨by simp only [kAll, hR, hI, hD_, Option.bind_some, Option.bind_none]; rw [pif_pos hay_677], rfl, by omega, ⟨rfl, by omega⟩, vf_524, vf_2, vf_3⟩, (fun x hx => frf_524 x hx), (fun x hx => frf_2 x hx), (fun x hx => frf_3 x hx), (fun _ _ => rfl), k_663, k_664, w_667, (fun j h11 h13 h14 h17 h18 => un_676 j h11 h13 h14 h17 h18)⟩, by rw [ht]; exact hP9, va_K.moved hW.alike hK9, hD9⟩, hS.F ht⟩) hS.2.2 dX9_kinds_225
                · have hP9 := hP.sub (ws' := [(h0, .inr (11, mo g1_659)), (a9, .inl (cT, 400, .inl f)), (a0, .inl (cZ, 8, .inl tl)), (a2, .inl (cG, 248, .inl f_2)), (a3, .inl (cI, 248, .inl f_524)), (a6, .inl (cP, 248, .inr (.inl f_3))), (a7, .inl (cX, 2976, .inl fX))]) [5, 6, 0, 1, 2, 3, 4] rfl
                  have hD9 := hD.sub (ws' := [(h0, .inr (11, mo g1_659)), (a9, .inl (cT, 400, .inl f)), (a0, .inl (cZ, 8, .inl tl)), (a2, .inl (cG, 248, .inl f_2)), (a3, .inl (cI, 248, .inl f_524)), (a6, .inl (cP, 248, .inr (.inl f_3))), (a7, .inl (cX, 2976, .inl fX))]) [5, 6, 0, 1, 2, 3, 4] (by decide) rfl
                  have hK9 := hK.sub (tys' := []) [] rfl
                  exact W.vret hx hb hr (fun t ht hW => ⟨⟨(g1_659, (tsk f n (tsk f n (tsk f n (tsk f n j + 1)))), b1_661, (nI (tsk f n j + 1)), (tsk f n j + 1), f_524, f_2, f_3, fX, (tat f n (tsk f n j) - 48), 0, 0), rfl, ⟨Or.inr ⟨by simp only [kAll, hR, hI, hD_, Option.bind_some, Option.bind_none]; rw [pif_neg hay_677], hcy_677⟩, (fun x hx => frf_524 x hx), (fun x hx => frf_2 x hx), (fun x hx => frf_3 x hx), (fun _ _ => rfl), k_663, k_664, w_667, (fun j h11 h13 h14 h17 h18 => un_676 j h11 h13 h14 h17 h18)⟩, by rw [ht]; exact hP9, va_K.moved hW.alike hK9, hD9⟩, hS.F ht⟩) hS.2.2 dX9_kinds_225
            · refine lv_aload_n hx hb dX9_kinds_100 rfl (lv_at hl 0 rfl) ?_
              have hFc := va_free (wc := [(h0, .inr (11, mo g1_596)), (a9, .inl (cT, 400, .inl f))]) hD hS hA [5, 6] rfl
              refine va_callv (va_runV (As := []) (rest := []) ⟨hx, hb, hml, hown, hts⟩ (c_X9_takes l dC dI h0 g1_596 a9 cT f (tsk f n (tsk f n j + 1)) n 0 (nI (tsk f n j + 1)) w_608 k_598 w_609 w_601 w_602 (by omega) (by omega) H.size) (cwV 0 hts gp_X9_kinds_X9_takes_188 rfl rfl rfl (by decide +kernel) ⟨Nat.le_of_ble_eq_true rfl, Nat.le_of_ble_eq_true rfl⟩) ⟨Pr.blind _, va_recv hK hP (ci := 11) (q0 := 5) rfl rfl, fun U hU hW => ⟨rfl, Pr.at (hP.sub (ws' := [(h0, .inr (11, mo g1_596)), (a9, .inl (cT, 400, .inl f))]) [5, 6] rfl) (hK.sub (tys' := [(cT, .int)]) [0] rfl) (hD.sub (ws' := [(h0, .inr (11, mo g1_596)), (a9, .inl (cT, 400, .inl f))]) [5, 6] (by decide) rfl) hN hZ RO.nil hS hFc hU hW⟩⟩ rfl rfl hl.1 rfl (lv_room (Nat.le_of_ble_eq_true rfl)) dX9_kinds_101 ⟨Nat.le_of_ble_eq_true rfl, Nat.le_of_ble_eq_true rfl⟩) hS (fun q _ h => hFc q h) hFc (fun u t H1 locs ht hvm hw_679 hB hz1 hk1 hS => ?_)
              obtain ⟨g1_680, b1_681⟩ := u
              obtain ⟨hP, hD, hK⟩ := Bq.join (wr := [(a0, .inl (cZ, 8, .inl tl)), (a2, .inl (cG, 248, .inl f_2)), (a3, .inl (cI, 248, .inl f_524)), (a6, .inl (cP, 248, .inr (.inl f_3))), (a7, .inl (cX, 2976, .inl fX))]) hB ht hvm hP hD [5, 6] [0, 1, 2, 3, 4] rfl rfl (by decide) (by decide) hk1 hFc hK
              generalize H1 = H at hP hS ⊢
              have hP : va_P (dC, dI) vwCl [(a0, .inl (cZ, 8, .inl tl)), (a2, .inl (cG, 248, .inl f_2)), (a3, .inl (cI, 248, .inl f_524)), (a6, .inl (cP, 248, .inr (.inl f_3))), (a7, .inl (cX, 2976, .inl fX)), (h0, .inr (11, mo g1_680)), (a9, .inl (cT, 400, .inl f))] H := hP
              have hD : va_D A [(a0, .inl (cZ, 8, .inl tl)), (a2, .inl (cG, 248, .inl f_2)), (a3, .inl (cI, 248, .inl f_524)), (a6, .inl (cP, 248, .inr (.inl f_3))), (a7, .inl (cX, 2976, .inl fX)), (h0, .inr (11, mo g1_680)), (a9, .inl (cT, 400, .inl f))] := hD
              have hK : va_K (dC, dI) vwCl [(cT, .int), (cZ, .boolean), (cG, .int), (cI, .int), (cP, .long), (cX, .int)] s := hK
              try dsimp only at hw_679
              obtain ⟨k_682, k_683, k_684, k_685, k_686⟩ := hw_679
              have w_687 : g1_680 17 = .int (nI (tsk f n (tsk f n j + 1))) := (k_686 17 (by decide) (by decide) (by decide) (by decide)).trans k_599
              have w_688 : g1_680 0 = .ref a0 := (k_686 0 (by decide) (by decide) (by decide) (by decide)).trans w_603
              have w_689 : g1_680 2 = .ref a2 := (k_686 2 (by decide) (by decide) (by decide) (by decide)).trans w_604
              have w_690 : g1_680 3 = .ref a3 := (k_686 3 (by decide) (by decide) (by decide) (by decide)).trans w_605
              have w_691 : g1_680 6 = .ref a6 := (k_686 6 (by decide) (by decide) (by decide) (by decide)).trans w_606
              have w_692 : g1_680 7 = .ref a7 := (k_686 7 (by decide) (by decide) (by decide) (by decide)).trans w_607
              have w_693 : g1_680 9 = .ref a9 := (k_686 9 (by decide) (by decide) (by decide) (by decide)).trans w_608
              have w_694 : g1_680 12 = .int (nI n) := (k_686 12 (by decide) (by decide) (by decide) (by decide)).trans w_609
              have w_695 : g1_680 26 = .long iw := (k_686 26 (by decide) (by decide) (by decide) (by decide)).trans w_610
              have un_696 : ∀ j : Nat, j ≠ 11 → j ≠ 13 → j ≠ 14 → j ≠ 17 → j ≠ 18 → g1_680 j = g j := fun j h11 h13 h14 h17 h18 => (k_686 j h11 h13 h14 h18).trans (un_611 j h11 h13 h14 h17 h18)
              have := tsk_ge f n (tsk f n (tsk f n j + 1))
              have := tsk_le (f := f) (n := n) (j := tsk f n (tsk f n j + 1)) (by omega)
              have := twe_ge f n (tsk f n (tsk f n (tsk f n j + 1)))
              have := twe_le (f := f) (n := n) (j := tsk f n (tsk f n (tsk f n j + 1))) (by omega)
              have := twe_ge f n (tsk f n (tsk f n j + 1))
              have := twe_le (f := f) (n := n) (j := tsk f n (tsk f n j + 1)) (by omega)
              rcases k_682 with ⟨hay_697, rfl⟩ | ⟨hay_697, hcy_697⟩
              · refine lv_aload_n hx hb dX9_kinds_104 rfl (lv_at hl 0 rfl) ?_
                refine va_get (D := (dC, dI)) (ci := 11) (v := .int 0) (C := RX9) (T := TX9) (N := 60) hx hb hts iRX9 hown hK hP 5 rfl rfl 13 (by decide) (hts (.fieldLink RX9 135 "RecordBenchModel" "bad" "I") (by decide +kernel)) (fun _ h9 => h9) ((mo_get g1_680 (by decide)).trans (congrArg some k_684)) dX9_kinds_105 ?_
                refine lv_if_ne (tgt := 121) hx hb dX9_kinds_108 (by decide) (fun c_698 => absurd (by decide) c_698) (fun c_698 => ?_)
                refine lv_aload_n hx hb dX9_kinds_111 rfl (lv_at hl 0 rfl) ?_
                refine va_get (D := (dC, dI)) (ci := 11) (v := .ref a2) (C := RX9) (T := TX9) (N := 60) hx hb hts iRX9 hown hK hP 5 rfl rfl 2 (by decide) (hts (.fieldLink RX9 17 "RecordBenchModel" "group" "[I") (by decide +kernel)) (fun _ h9 => h9) ((mo_get g1_680 (by decide)).trans (congrArg some w_689)) dX9_kinds_112 ?_
                refine lv_iload_n hx hb dX9_kinds_115 rfl (lv_at hl 2 rfl) ?_
                refine lv_aload_n hx hb dX9_kinds_116 rfl (lv_at hl 0 rfl) ?_
                have hFc := va_free (wc := [(h0, .inr (11, mo g1_680)), (a9, .inl (cT, 400, .inl f))]) hD hS hA [5, 6] rfl
                refine va_calli (va_runV (As := []) (rest := [.int (nI F), .ref a2]) ⟨hx, hb, hml, hown, hts⟩ (c_X9_digit l dC dI h0 g1_680 a9 cT f (twe f n (tsk f n (tsk f n j + 1))) n 0 (nI (twe f n (tsk f n (tsk f n j + 1)))) w_693 k_683 w_694 k_684 k_685 (by omega) (by omega) H.size) (cwV 0 hts gp_X9_kinds_X9_digit_203 rfl rfl rfl (by decide +kernel) ⟨Nat.le_of_ble_eq_true rfl, Nat.le_of_ble_eq_true rfl⟩) ⟨Pr.blind _, va_recv hK hP (ci := 11) (q0 := 5) rfl rfl, fun U hU hW => ⟨rfl, Pr.at (hP.sub (ws' := [(h0, .inr (11, mo g1_680)), (a9, .inl (cT, 400, .inl f))]) [5, 6] rfl) (hK.sub (tys' := [(cT, .int)]) [0] rfl) (hD.sub (ws' := [(h0, .inr (11, mo g1_680)), (a9, .inl (cT, 400, .inl f))]) [5, 6] (by decide) rfl) hN hZ RO.nil hS hFc hU hW⟩⟩ rfl rfl hl.1 rfl (lv_room (Nat.le_of_ble_eq_true rfl)) dX9_kinds_117 ⟨Nat.le_of_ble_eq_true rfl, Nat.le_of_ble_eq_true rfl⟩) hS (fun q _ h => hFc q h) hFc (fun r_699 u t H1 locs ht hvm hw_700 hB hz1 hk1 hS => ?_)
                obtain ⟨g1_701, j1_702, b1_703, x1_704⟩ := u
                obtain ⟨hP, hD, hK⟩ := Bq.join (wr := [(a0, .inl (cZ, 8, .inl tl)), (a2, .inl (cG, 248, .inl f_2)), (a3, .inl (cI, 248, .inl f_524)), (a6, .inl (cP, 248, .inr (.inl f_3))), (a7, .inl (cX, 2976, .inl fX))]) hB ht hvm hP hD [5, 6] [0, 1, 2, 3, 4] rfl rfl (by decide) (by decide) hk1 hFc hK
                generalize H1 = H at hP hS ⊢
                have hP : va_P (dC, dI) vwCl [(a0, .inl (cZ, 8, .inl tl)), (a2, .inl (cG, 248, .inl f_2)), (a3, .inl (cI, 248, .inl f_524)), (a6, .inl (cP, 248, .inr (.inl f_3))), (a7, .inl (cX, 2976, .inl fX)), (h0, .inr (11, mo g1_701)), (a9, .inl (cT, 400, .inl f))] H := hP
                have hD : va_D A [(a0, .inl (cZ, 8, .inl tl)), (a2, .inl (cG, 248, .inl f_2)), (a3, .inl (cI, 248, .inl f_524)), (a6, .inl (cP, 248, .inr (.inl f_3))), (a7, .inl (cX, 2976, .inl fX)), (h0, .inr (11, mo g1_701)), (a9, .inl (cT, 400, .inl f))] := hD
                have hK : va_K (dC, dI) vwCl [(cT, .int), (cZ, .boolean), (cG, .int), (cI, .int), (cP, .long), (cX, .int)] s := hK
                try dsimp only at hw_700
                obtain ⟨k_705, k_706, k_707, k_708, k_709, k_710⟩ := hw_700
                have w_711 : g1_701 0 = .ref a0 := (k_710 0 (by decide) (by decide) (by decide) (by decide) (by decide)).trans w_688
                have w_712 : g1_701 2 = .ref a2 := (k_710 2 (by decide) (by decide) (by decide) (by decide) (by decide)).trans w_689
                have w_713 : g1_701 3 = .ref a3 := (k_710 3 (by decide) (by decide) (by decide) (by decide) (by decide)).trans w_690
                have w_714 : g1_701 6 = .ref a6 := (k_710 6 (by decide) (by decide) (by decide) (by decide) (by decide)).trans w_691
                have w_715 : g1_701 7 = .ref a7 := (k_710 7 (by decide) (by decide) (by decide) (by decide) (by decide)).trans w_692
                have w_716 : g1_701 9 = .ref a9 := (k_710 9 (by decide) (by decide) (by decide) (by decide) (by decide)).trans w_693
                have w_717 : g1_701 12 = .int (nI n) := (k_710 12 (by decide) (by decide) (by decide) (by decide) (by decide)).trans w_694
                have w_718 : g1_701 26 = .long iw := (k_710 26 (by decide) (by decide) (by decide) (by decide) (by decide)).trans w_695
                have un_719 : ∀ j : Nat, j ≠ 11 → j ≠ 13 → j ≠ 14 → j ≠ 17 → j ≠ 18 → g1_701 j = g j := fun j h11 h13 h14 h17 h18 => (k_710 j h11 h13 h14 h17 h18).trans (un_696 j h11 h13 h14 h17 h18)
                have := tsk_ge f n (twe f n (tsk f n (tsk f n j + 1)))
                have := tsk_le (f := f) (n := n) (j := twe f n (tsk f n (tsk f n j + 1))) (by omega)
                have := twe_ge f n (tsk f n (twe f n (tsk f n (tsk f n j + 1))))
                have := twe_le (f := f) (n := n) (j := tsk f n (twe f n (tsk f n (tsk f n j + 1)))) (by omega)
                have := twe_ge f n (twe f n (tsk f n (tsk f n j + 1)))
                have := twe_le (f := f) (n := n) (j := twe f n (tsk f n (tsk f n j + 1))) (by omega)
                rcases k_705 with ⟨hay_720, hby_720, hdy_720, rfl, rfl, rfl, rfl⟩ | ⟨hay_720, rfl, hcy_720, rfl, rfl⟩
                · refine W.eq (g2 := F0 m 120 ls [.int (tat f n (tsk f n (twe f n (tsk f n (tsk f n j + 1)))) - 48), .int (nI F), .ref a2]) rfl ?_
                  refine va_iast hx hb hK hP hD hS 1 2 rfl rfl (vp_in_nI hF (by decide)) dX9_kinds_120 (fun H locs hP hD hS => ?_)
                  rw [hcF] at hP hD
                  obtain ⟨f_721, ef_721⟩ : ∃ y : Nat → Int32, y = upd f_2 F (tat f n (tsk f n (twe f n (tsk f n (tsk f n j + 1)))) - 48) := ⟨_, rfl⟩
                  have hP : va_P (dC, dI) vwCl [(a0, .inl (cZ, 8, .inl tl)), (a2, .inl (cG, 248, .inl f_721)), (a3, .inl (cI, 248, .inl f_524)), (a6, .inl (cP, 248, .inr (.inl f_3))), (a7, .inl (cX, 2976, .inl fX)), (h0, .inr (11, mo g1_701)), (a9, .inl (cT, 400, .inl f))] H := by rw [ef_721]; exact hP
                  have hD : va_D A [(a0, .inl (cZ, 8, .inl tl)), (a2, .inl (cG, 248, .inl f_721)), (a3, .inl (cI, 248, .inl f_524)), (a6, .inl (cP, 248, .inr (.inl f_3))), (a7, .inl (cX, 2976, .inl fX)), (h0, .inr (11, mo g1_701)), (a9, .inl (cT, 400, .inl f))] := by rw [ef_721]; exact hD
                  have vf_721 : f_721 F = (tat f n (tsk f n (twe f n (tsk f n (tsk f n j + 1)))) - 48) := by rw [ef_721, pk_us]
                  have frf_721 : ∀ x : Nat, x ≠ F → f_721 x = fG x := fun x hx => by rw [ef_721, pk_un hx]; exact frf_2 x hx
                  refine lv_aload_n hx hb dX9_kinds_121 rfl (lv_at hl 0 rfl) ?_
                  refine va_get (D := (dC, dI)) (ci := 11) (v := .int 0) (C := RX9) (T := TX9) (N := 60) hx hb hts iRX9 hown hK hP 5 rfl rfl 13 (by decide) (hts (.fieldLink RX9 135 "RecordBenchModel" "bad" "I") (by decide +kernel)) (fun _ h9 => h9) ((mo_get g1_701 (by decide)).trans (congrArg some k_707)) dX9_kinds_122 ?_
                  refine lv_if_ne (tgt := 157) hx hb dX9_kinds_125 (by decide) (fun c_722 => absurd (by decide) c_722) (fun c_722 => ?_)
                  refine lv_aload_n hx hb dX9_kinds_128 rfl (lv_at hl 0 rfl) ?_
                  refine va_get (D := (dC, dI)) (ci := 11) (v := .ref a2) (C := RX9) (T := TX9) (N := 60) hx hb hts iRX9 hown hK hP 5 rfl rfl 2 (by decide) (hts (.fieldLink RX9 17 "RecordBenchModel" "group" "[I") (by decide +kernel)) (fun _ h9 => h9) ((mo_get g1_701 (by decide)).trans (congrArg some w_712)) dX9_kinds_129 ?_
                  refine lv_iload_n hx hb dX9_kinds_132 rfl (lv_at hl 2 rfl) ?_
                  refine va_iald hx hb hK hP 1 2 rfl rfl (vp_in_nI hF (by decide)) dX9_kinds_133 ?_
                  refine W_toi (y := (tat f n (tsk f n (twe f n (tsk f n (tsk f n j + 1)))) - 48)) (by rw [hcF]; exact vf_721) ?_
                  refine lv_iconst (v := 1) hx hb dX9_kinds_134 (by decide) ?_
                  refine lv_icmp_lt (tgt := 148) hx hb dX9_kinds_135 (by decide) (fun c_723 => ?_) (fun c_723 => ?_)
                  · refine lv_aload_n hx hb dX9_kinds_148 rfl (lv_at hl 0 rfl) ?_
                    refine lv_iconst (v := 1) hx hb dX9_kinds_149 (by decide) ?_
                    refine lv_aload_n hx hb dX9_kinds_150 rfl (lv_at hl 0 rfl) ?_
                    refine va_get (D := (dC, dI)) (ci := 11) (v := .int (nI (tsk f n (twe f n (tsk f n (tsk f n j + 1)))))) (C := RX9) (T := TX9) (N := 60) hx hb hts iRX9 hown hK hP 5 rfl rfl 17 (by decide) (hts (.fieldLink RX9 147 "RecordBenchModel" "begun" "I") (by decide +kernel)) (fun _ h9 => h9) ((mo_get g1_701 (by decide)).trans (congrArg some k_708)) dX9_kinds_151 ?_
                    have hFc := va_free (wc := [(h0, .inr (11, mo g1_701))]) hD hS hA [5] rfl
                    refine va_callv (va_runV (As := [.int 1, .int (nI (tsk f n (twe f n (tsk f n (tsk f n j + 1)))))]) (rest := []) ⟨hx, hb, hml, hown, hts⟩ (c_X9_fail l dC dI h0 g1_701 0 k_707 1 (nI (tsk f n (twe f n (tsk f n (tsk f n j + 1))))) (by decide) H.size) (cwV 2 hts gp_X9_kinds_X9_fail_154 rfl rfl rfl (by decide +kernel) ⟨Nat.le_of_ble_eq_true rfl, Nat.le_of_ble_eq_true rfl⟩) ⟨Pr.blind _, va_recv hK hP (ci := 11) (q0 := 5) rfl rfl, fun U hU hW => ⟨rfl, Pr.at (hP.sub (ws' := [(h0, .inr (11, mo g1_701))]) [5] rfl) (hK.sub (tys' := []) [] rfl) (hD.sub (ws' := [(h0, .inr (11, mo g1_701))]) [5] (by decide) rfl) hN hZ RO.nil hS hFc hU hW⟩⟩ rfl rfl hl.1 rfl (lv_room (Nat.le_of_ble_eq_true rfl)) dX9_kinds_154 ⟨Nat.le_of_ble_eq_true rfl, Nat.le_of_ble_eq_true rfl⟩) hS (fun q _ h => hFc q h) hFc (fun u t H1 locs ht hvm hw_725 hB hz1 hk1 hS => ?_)
                    obtain ⟨g1_726, b1_727⟩ := u
                    obtain ⟨hP, hD, hK⟩ := Bq.join (wr := [(a0, .inl (cZ, 8, .inl tl)), (a2, .inl (cG, 248, .inl f_721)), (a3, .inl (cI, 248, .inl f_524)), (a6, .inl (cP, 248, .inr (.inl f_3))), (a7, .inl (cX, 2976, .inl fX)), (a9, .inl (cT, 400, .inl f))]) hB ht hvm hP hD [5] [0, 1, 2, 3, 4, 6] rfl rfl (by decide) (by decide) hk1 hFc hK
                    generalize H1 = H at hP hS ⊢
                    have hP : va_P (dC, dI) vwCl [(a0, .inl (cZ, 8, .inl tl)), (a2, .inl (cG, 248, .inl f_721)), (a3, .inl (cI, 248, .inl f_524)), (a6, .inl (cP, 248, .inr (.inl f_3))), (a7, .inl (cX, 2976, .inl fX)), (a9, .inl (cT, 400, .inl f)), (h0, .inr (11, mo g1_726))] H := hP
                    have hD : va_D A [(a0, .inl (cZ, 8, .inl tl)), (a2, .inl (cG, 248, .inl f_721)), (a3, .inl (cI, 248, .inl f_524)), (a6, .inl (cP, 248, .inr (.inl f_3))), (a7, .inl (cX, 2976, .inl fX)), (a9, .inl (cT, 400, .inl f)), (h0, .inr (11, mo g1_726))] := hD
                    have hK : va_K (dC, dI) vwCl [(cT, .int), (cZ, .boolean), (cG, .int), (cI, .int), (cP, .long), (cX, .int)] s := hK
                    try dsimp only at hw_725
                    obtain ⟨k_728, k_729, k_730⟩ := hw_725
                    have w_731 : g1_726 11 = .int (nI (tsk f n (twe f n (tsk f n (tsk f n j + 1))) + 1)) := (k_730 11 (by decide) (by decide)).trans k_706
                    have w_732 : g1_726 17 = .int (nI (tsk f n (twe f n (tsk f n (tsk f n j + 1))))) := (k_730 17 (by decide) (by decide)).trans k_708
                    have w_733 : g1_726 18 = .int (nI (tsk f n (twe f n (tsk f n (tsk f n j + 1))) + 1)) := (k_730 18 (by decide) (by decide)).trans k_709
                    have w_734 : g1_726 0 = .ref a0 := (k_730 0 (by decide) (by decide)).trans w_711
                    have w_735 : g1_726 2 = .ref a2 := (k_730 2 (by decide) (by decide)).trans w_712
                    have w_736 : g1_726 3 = .ref a3 := (k_730 3 (by decide) (by decide)).trans w_713
                    have w_737 : g1_726 6 = .ref a6 := (k_730 6 (by decide) (by decide)).trans w_714
                    have w_738 : g1_726 7 = .ref a7 := (k_730 7 (by decide) (by decide)).trans w_715
                    have w_739 : g1_726 9 = .ref a9 := (k_730 9 (by decide) (by decide)).trans w_716
                    have w_740 : g1_726 12 = .int (nI n) := (k_730 12 (by decide) (by decide)).trans w_717
                    have w_741 : g1_726 26 = .long iw := (k_730 26 (by decide) (by decide)).trans w_718
                    have un_742 : ∀ j : Nat, j ≠ 11 → j ≠ 13 → j ≠ 14 → j ≠ 17 → j ≠ 18 → g1_726 j = g j := fun j h11 h13 h14 h17 h18 => (k_730 j h13 h14).trans (un_719 j h11 h13 h14 h17 h18)
                    refine lv_aload_n hx hb dX9_kinds_157 rfl (lv_at hl 0 rfl) ?_
                    have hFc := va_free (wc := [(h0, .inr (11, mo g1_726)), (a9, .inl (cT, 400, .inl f))]) hD hS hA [6, 5] rfl
                    refine va_callv (va_runV (As := []) (rest := []) ⟨hx, hb, hml, hown, hts⟩ (c_X9_ends l dC dI h0 g1_726 a9 cT f (tsk f n (twe f n (tsk f n (tsk f n j + 1))) + 1) n b1_727 w_739 w_731 w_740 k_729 (by omega) (by omega) H.size) (cwV 0 hts gp_X9_kinds_X9_ends_206 rfl rfl rfl (by decide +kernel) ⟨Nat.le_of_ble_eq_true rfl, Nat.le_of_ble_eq_true rfl⟩) ⟨Pr.blind _, va_recv hK hP (ci := 11) (q0 := 6) rfl rfl, fun U hU hW => ⟨rfl, Pr.at (hP.sub (ws' := [(h0, .inr (11, mo g1_726)), (a9, .inl (cT, 400, .inl f))]) [6, 5] rfl) (hK.sub (tys' := [(cT, .int)]) [0] rfl) (hD.sub (ws' := [(h0, .inr (11, mo g1_726)), (a9, .inl (cT, 400, .inl f))]) [6, 5] (by decide) rfl) hN hZ RO.nil hS hFc hU hW⟩⟩ rfl rfl hl.1 rfl (lv_room (Nat.le_of_ble_eq_true rfl)) dX9_kinds_158 ⟨Nat.le_of_ble_eq_true rfl, Nat.le_of_ble_eq_true rfl⟩) hS (fun q _ h => hFc q h) hFc (fun u t H1 locs ht hvm hw_744 hB hz1 hk1 hS => ?_)
                    obtain ⟨g1_745, b1_746⟩ := u
                    obtain ⟨hP, hD, hK⟩ := Bq.join (wr := [(a0, .inl (cZ, 8, .inl tl)), (a2, .inl (cG, 248, .inl f_721)), (a3, .inl (cI, 248, .inl f_524)), (a6, .inl (cP, 248, .inr (.inl f_3))), (a7, .inl (cX, 2976, .inl fX))]) hB ht hvm hP hD [6, 5] [0, 1, 2, 3, 4] rfl rfl (by decide) (by decide) hk1 hFc hK
                    generalize H1 = H at hP hS ⊢
                    have hP : va_P (dC, dI) vwCl [(a0, .inl (cZ, 8, .inl tl)), (a2, .inl (cG, 248, .inl f_721)), (a3, .inl (cI, 248, .inl f_524)), (a6, .inl (cP, 248, .inr (.inl f_3))), (a7, .inl (cX, 2976, .inl fX)), (h0, .inr (11, mo g1_745)), (a9, .inl (cT, 400, .inl f))] H := hP
                    have hD : va_D A [(a0, .inl (cZ, 8, .inl tl)), (a2, .inl (cG, 248, .inl f_721)), (a3, .inl (cI, 248, .inl f_524)), (a6, .inl (cP, 248, .inr (.inl f_3))), (a7, .inl (cX, 2976, .inl fX)), (h0, .inr (11, mo g1_745)), (a9, .inl (cT, 400, .inl f))] := hD
                    have hK : va_K (dC, dI) vwCl [(cT, .int), (cZ, .boolean), (cG, .int), (cI, .int), (cP, .long), (cX, .int)] s := hK
                    try dsimp only at hw_744
                    obtain ⟨k_747, k_748, k_749⟩ := hw_744
                    have w_750 : g1_745 11 = .int (nI (tsk f n (twe f n (tsk f n (tsk f n j + 1))) + 1)) := (k_749 11 (by decide) (by decide)).trans w_731
                    have w_751 : g1_745 17 = .int (nI (tsk f n (twe f n (tsk f n (tsk f n j + 1))))) := (k_749 17 (by decide) (by decide)).trans w_732
                    have w_752 : g1_745 18 = .int (nI (tsk f n (twe f n (tsk f n (tsk f n j + 1))) + 1)) := (k_749 18 (by decide) (by decide)).trans w_733
                    have w_753 : g1_745 0 = .ref a0 := (k_749 0 (by decide) (by decide)).trans w_734
                    have w_754 : g1_745 2 = .ref a2 := (k_749 2 (by decide) (by decide)).trans w_735
                    have w_755 : g1_745 3 = .ref a3 := (k_749 3 (by decide) (by decide)).trans w_736
                    have w_756 : g1_745 6 = .ref a6 := (k_749 6 (by decide) (by decide)).trans w_737
                    have w_757 : g1_745 7 = .ref a7 := (k_749 7 (by decide) (by decide)).trans w_738
                    have w_758 : g1_745 9 = .ref a9 := (k_749 9 (by decide) (by decide)).trans w_739
                    have w_759 : g1_745 12 = .int (nI n) := (k_749 12 (by decide) (by decide)).trans w_740
                    have w_760 : g1_745 26 = .long iw := (k_749 26 (by decide) (by decide)).trans w_741
                    have un_761 : ∀ j : Nat, j ≠ 11 → j ≠ 13 → j ≠ 14 → j ≠ 17 → j ≠ 18 → g1_745 j = g j := fun j h11 h13 h14 h17 h18 => (k_749 j h13 h14).trans (un_742 j h11 h13 h14 h17 h18)
                    have := tsk_ge f n (tsk f n (twe f n (tsk f n (tsk f n j + 1))) + 1)
                    have := tsk_le (f := f) (n := n) (j := tsk f n (twe f n (tsk f n (tsk f n j + 1))) + 1) (by omega)
                    have := twe_ge f n (tsk f n (tsk f n (twe f n (tsk f n (tsk f n j + 1))) + 1))
                    have := twe_le (f := f) (n := n) (j := tsk f n (tsk f n (twe f n (tsk f n (tsk f n j + 1))) + 1)) (by omega)
                    have := twe_ge f n (tsk f n (twe f n (tsk f n (tsk f n j + 1))) + 1)
                    have := twe_le (f := f) (n := n) (j := tsk f n (twe f n (tsk f n (tsk f n j + 1))) + 1) (by omega)
                    rcases k_747 with ⟨hay_762, rfl⟩ | ⟨hay_762, hcy_762⟩
                    · have hI : kIn f n iw (tsk f n j + 1) (nI (tsk f n j + 1)) = none := by unfold kIn; rw [pif_pos ((lg_cmp_eq _ _).mp c_612), pif_neg (show ¬ cIn f n (tsk f n (tsk f n j + 1)) (nI (tsk f n j + 1)) from fun h => h.2.2.1.1 c_723)]
                      refine lv_aload_n hx hb dX9_kinds_161 rfl (lv_at hl 0 rfl) ?_
                      refine va_get (D := (dC, dI)) (ci := 11) (v := .int b1_727) (C := RX9) (T := TX9) (N := 60) hx hb hts iRX9 hown hK hP 5 rfl rfl 13 (by decide) (hts (.fieldLink RX9 135 "RecordBenchModel" "bad" "I") (by decide +kernel)) (fun _ h9 => h9) ((mo_get g1_745 (by decide)).trans (congrArg some k_748)) dX9_kinds_162 ?_
                      refine lv_if_ne (tgt := 212) hx hb dX9_kinds_165 (by decide) (fun c_763 => ?_) (fun c_763 => absurd c_763 k_728)
                      refine lv_aload_n hx hb dX9_kinds_212 rfl (lv_at hl 0 rfl) ?_
                      refine va_get (D := (dC, dI)) (ci := 11) (v := .int b1_727) (C := RX9) (T := TX9) (N := 60) hx hb hts iRX9 hown hK hP 5 rfl rfl 13 (by decide) (hts (.fieldLink RX9 135 "RecordBenchModel" "bad" "I") (by decide +kernel)) (fun _ h9 => h9) ((mo_get g1_745 (by decide)).trans (congrArg some k_748)) dX9_kinds_213 ?_
                      refine lv_if_ne (tgt := 225) hx hb dX9_kinds_216 (by decide) (fun c_764 => ?_) (fun c_764 => absurd c_764 k_728)
                      have hP9 := hP.sub (ws' := [(h0, .inr (11, mo g1_745)), (a9, .inl (cT, 400, .inl f)), (a0, .inl (cZ, 8, .inl tl)), (a2, .inl (cG, 248, .inl f_721)), (a3, .inl (cI, 248, .inl f_524)), (a6, .inl (cP, 248, .inr (.inl f_3))), (a7, .inl (cX, 2976, .inl fX))]) [5, 6, 0, 1, 2, 3, 4] rfl
                      have hD9 := hD.sub (ws' := [(h0, .inr (11, mo g1_745)), (a9, .inl (cT, 400, .inl f)), (a0, .inl (cZ, 8, .inl tl)), (a2, .inl (cG, 248, .inl f_721)), (a3, .inl (cI, 248, .inl f_524)), (a6, .inl (cP, 248, .inr (.inl f_3))), (a7, .inl (cX, 2976, .inl fX))]) [5, 6, 0, 1, 2, 3, 4] (by decide) rfl
                      have hK9 := hK.sub (tys' := []) [] rfl
                      exact W.vret hx hb hr (fun t ht hW => ⟨⟨(g1_745, (tsk f n (twe f n (tsk f n (tsk f n j + 1))) + 1), b1_727, (nI (tsk f n (twe f n (tsk f n (tsk f n j + 1))) + 1)), (tsk f n (twe f n (tsk f n (tsk f n j + 1))) + 1), f_524, f_721, f_3, fX, 0, 0, 0), rfl, ⟨Or.inr ⟨by simp only [kAll, hR, hI, Option.bind_some, Option.bind_none], k_728⟩, (fun x hx => frf_524 x hx), (fun x hx => frf_721 x hx), (fun x hx => frf_3 x hx), (fun _ _ => rfl), w_750, k_748, w_752, (fun j h11 h13 h14 h17 h18 => un_761 j h11 h13 h14 h17 h18)⟩, by rw [ht]; exact hP9, va_K.moved hW.alike hK9, hD9⟩, hS.F ht⟩) hS.2.2 dX9_kinds_225
                    · have hI : kIn f n iw (tsk f n j + 1) (nI (tsk f n j + 1)) = none := by unfold kIn; rw [pif_pos ((lg_cmp_eq _ _).mp c_612), pif_neg (show ¬ cIn f n (tsk f n (tsk f n j + 1)) (nI (tsk f n j + 1)) from fun h => h.2.2.1.1 c_723)]
                      refine lv_aload_n hx hb dX9_kinds_161 rfl (lv_at hl 0 rfl) ?_
                      refine va_get (D := (dC, dI)) (ci := 11) (v := .int b1_746) (C := RX9) (T := TX9) (N := 60) hx hb hts iRX9 hown hK hP 5 rfl rfl 13 (by decide) (hts (.fieldLink RX9 135 "RecordBenchModel" "bad" "I") (by decide +kernel)) (fun _ h9 => h9) ((mo_get g1_745 (by decide)).trans (congrArg some k_748)) dX9_kinds_162 ?_
                      refine lv_if_ne (tgt := 212) hx hb dX9_kinds_165 (by decide) (fun c_765 => ?_) (fun c_765 => absurd c_765 hcy_762)
                      refine lv_aload_n hx hb dX9_kinds_212 rfl (lv_at hl 0 rfl) ?_
                      refine va_get (D := (dC, dI)) (ci := 11) (v := .int b1_746) (C := RX9) (T := TX9) (N := 60) hx hb hts iRX9 hown hK hP 5 rfl rfl 13 (by decide) (hts (.fieldLink RX9 135 "RecordBenchModel" "bad" "I") (by decide +kernel)) (fun _ h9 => h9) ((mo_get g1_745 (by decide)).trans (congrArg some k_748)) dX9_kinds_213 ?_
                      refine lv_if_ne (tgt := 225) hx hb dX9_kinds_216 (by decide) (fun c_766 => ?_) (fun c_766 => absurd c_766 hcy_762)
                      have hP9 := hP.sub (ws' := [(h0, .inr (11, mo g1_745)), (a9, .inl (cT, 400, .inl f)), (a0, .inl (cZ, 8, .inl tl)), (a2, .inl (cG, 248, .inl f_721)), (a3, .inl (cI, 248, .inl f_524)), (a6, .inl (cP, 248, .inr (.inl f_3))), (a7, .inl (cX, 2976, .inl fX))]) [5, 6, 0, 1, 2, 3, 4] rfl
                      have hD9 := hD.sub (ws' := [(h0, .inr (11, mo g1_745)), (a9, .inl (cT, 400, .inl f)), (a0, .inl (cZ, 8, .inl tl)), (a2, .inl (cG, 248, .inl f_721)), (a3, .inl (cI, 248, .inl f_524)), (a6, .inl (cP, 248, .inr (.inl f_3))), (a7, .inl (cX, 2976, .inl fX))]) [5, 6, 0, 1, 2, 3, 4] (by decide) rfl
                      have hK9 := hK.sub (tys' := []) [] rfl
                      exact W.vret hx hb hr (fun t ht hW => ⟨⟨(g1_745, (tsk f n (twe f n (tsk f n (tsk f n j + 1))) + 1), b1_746, (nI (tsk f n (twe f n (tsk f n (tsk f n j + 1))) + 1)), (tsk f n (twe f n (tsk f n (tsk f n j + 1))) + 1), f_524, f_721, f_3, fX, 0, 0, 0), rfl, ⟨Or.inr ⟨by simp only [kAll, hR, hI, Option.bind_some, Option.bind_none], hcy_762⟩, (fun x hx => frf_524 x hx), (fun x hx => frf_721 x hx), (fun x hx => frf_3 x hx), (fun _ _ => rfl), w_750, k_748, w_752, (fun j h11 h13 h14 h17 h18 => un_761 j h11 h13 h14 h17 h18)⟩, by rw [ht]; exact hP9, va_K.moved hW.alike hK9, hD9⟩, hS.F ht⟩) hS.2.2 dX9_kinds_225
                  · refine lv_aload_n hx hb dX9_kinds_138 rfl (lv_at hl 0 rfl) ?_
                    refine va_get (D := (dC, dI)) (ci := 11) (v := .ref a2) (C := RX9) (T := TX9) (N := 60) hx hb hts iRX9 hown hK hP 5 rfl rfl 2 (by decide) (hts (.fieldLink RX9 17 "RecordBenchModel" "group" "[I") (by decide +kernel)) (fun _ h9 => h9) ((mo_get g1_701 (by decide)).trans (congrArg some w_712)) dX9_kinds_139 ?_
                    refine lv_iload_n hx hb dX9_kinds_142 rfl (lv_at hl 2 rfl) ?_
                    refine va_iald hx hb hK hP 1 2 rfl rfl (vp_in_nI hF (by decide)) dX9_kinds_143 ?_
                    refine W_toi (y := (tat f n (tsk f n (twe f n (tsk f n (tsk f n j + 1)))) - 48)) (by rw [hcF]; exact vf_721) ?_
                    refine lv_iconst (v := 3) hx hb dX9_kinds_144 (by decide) ?_
                    refine lv_icmp_le (tgt := 157) hx hb dX9_kinds_145 (by decide) (fun c_767 => ?_) (fun c_767 => ?_)
                    · refine lv_aload_n hx hb dX9_kinds_157 rfl (lv_at hl 0 rfl) ?_
                      have hFc := va_free (wc := [(h0, .inr (11, mo g1_701)), (a9, .inl (cT, 400, .inl f))]) hD hS hA [5, 6] rfl
                      refine va_callv (va_runV (As := []) (rest := []) ⟨hx, hb, hml, hown, hts⟩ (c_X9_ends l dC dI h0 g1_701 a9 cT f (tsk f n (twe f n (tsk f n (tsk f n j + 1))) + 1) n 0 w_716 k_706 w_717 k_707 (by omega) (by omega) H.size) (cwV 0 hts gp_X9_kinds_X9_ends_206 rfl rfl rfl (by decide +kernel) ⟨Nat.le_of_ble_eq_true rfl, Nat.le_of_ble_eq_true rfl⟩) ⟨Pr.blind _, va_recv hK hP (ci := 11) (q0 := 5) rfl rfl, fun U hU hW => ⟨rfl, Pr.at (hP.sub (ws' := [(h0, .inr (11, mo g1_701)), (a9, .inl (cT, 400, .inl f))]) [5, 6] rfl) (hK.sub (tys' := [(cT, .int)]) [0] rfl) (hD.sub (ws' := [(h0, .inr (11, mo g1_701)), (a9, .inl (cT, 400, .inl f))]) [5, 6] (by decide) rfl) hN hZ RO.nil hS hFc hU hW⟩⟩ rfl rfl hl.1 rfl (lv_room (Nat.le_of_ble_eq_true rfl)) dX9_kinds_158 ⟨Nat.le_of_ble_eq_true rfl, Nat.le_of_ble_eq_true rfl⟩) hS (fun q _ h => hFc q h) hFc (fun u t H1 locs ht hvm hw_769 hB hz1 hk1 hS => ?_)
                      obtain ⟨g1_770, b1_771⟩ := u
                      obtain ⟨hP, hD, hK⟩ := Bq.join (wr := [(a0, .inl (cZ, 8, .inl tl)), (a2, .inl (cG, 248, .inl f_721)), (a3, .inl (cI, 248, .inl f_524)), (a6, .inl (cP, 248, .inr (.inl f_3))), (a7, .inl (cX, 2976, .inl fX))]) hB ht hvm hP hD [5, 6] [0, 1, 2, 3, 4] rfl rfl (by decide) (by decide) hk1 hFc hK
                      generalize H1 = H at hP hS ⊢
                      have hP : va_P (dC, dI) vwCl [(a0, .inl (cZ, 8, .inl tl)), (a2, .inl (cG, 248, .inl f_721)), (a3, .inl (cI, 248, .inl f_524)), (a6, .inl (cP, 248, .inr (.inl f_3))), (a7, .inl (cX, 2976, .inl fX)), (h0, .inr (11, mo g1_770)), (a9, .inl (cT, 400, .inl f))] H := hP
                      have hD : va_D A [(a0, .inl (cZ, 8, .inl tl)), (a2, .inl (cG, 248, .inl f_721)), (a3, .inl (cI, 248, .inl f_524)), (a6, .inl (cP, 248, .inr (.inl f_3))), (a7, .inl (cX, 2976, .inl fX)), (h0, .inr (11, mo g1_770)), (a9, .inl (cT, 400, .inl f))] := hD
                      have hK : va_K (dC, dI) vwCl [(cT, .int), (cZ, .boolean), (cG, .int), (cI, .int), (cP, .long), (cX, .int)] s := hK
                      try dsimp only at hw_769
                      obtain ⟨k_772, k_773, k_774⟩ := hw_769
                      have w_775 : g1_770 11 = .int (nI (tsk f n (twe f n (tsk f n (tsk f n j + 1))) + 1)) := (k_774 11 (by decide) (by decide)).trans k_706
                      have w_776 : g1_770 17 = .int (nI (tsk f n (twe f n (tsk f n (tsk f n j + 1))))) := (k_774 17 (by decide) (by decide)).trans k_708
                      have w_777 : g1_770 18 = .int (nI (tsk f n (twe f n (tsk f n (tsk f n j + 1))) + 1)) := (k_774 18 (by decide) (by decide)).trans k_709
                      have w_778 : g1_770 0 = .ref a0 := (k_774 0 (by decide) (by decide)).trans w_711
                      have w_779 : g1_770 2 = .ref a2 := (k_774 2 (by decide) (by decide)).trans w_712
                      have w_780 : g1_770 3 = .ref a3 := (k_774 3 (by decide) (by decide)).trans w_713
                      have w_781 : g1_770 6 = .ref a6 := (k_774 6 (by decide) (by decide)).trans w_714
                      have w_782 : g1_770 7 = .ref a7 := (k_774 7 (by decide) (by decide)).trans w_715
                      have w_783 : g1_770 9 = .ref a9 := (k_774 9 (by decide) (by decide)).trans w_716
                      have w_784 : g1_770 12 = .int (nI n) := (k_774 12 (by decide) (by decide)).trans w_717
                      have w_785 : g1_770 26 = .long iw := (k_774 26 (by decide) (by decide)).trans w_718
                      have un_786 : ∀ j : Nat, j ≠ 11 → j ≠ 13 → j ≠ 14 → j ≠ 17 → j ≠ 18 → g1_770 j = g j := fun j h11 h13 h14 h17 h18 => (k_774 j h13 h14).trans (un_719 j h11 h13 h14 h17 h18)
                      have := tsk_ge f n (tsk f n (twe f n (tsk f n (tsk f n j + 1))) + 1)
                      have := tsk_le (f := f) (n := n) (j := tsk f n (twe f n (tsk f n (tsk f n j + 1))) + 1) (by omega)
                      have := twe_ge f n (tsk f n (tsk f n (twe f n (tsk f n (tsk f n j + 1))) + 1))
                      have := twe_le (f := f) (n := n) (j := tsk f n (tsk f n (twe f n (tsk f n (tsk f n j + 1))) + 1)) (by omega)
                      have := twe_ge f n (tsk f n (twe f n (tsk f n (tsk f n j + 1))) + 1)
                      have := twe_le (f := f) (n := n) (j := tsk f n (twe f n (tsk f n (tsk f n j + 1))) + 1) (by omega)
                      rcases k_772 with ⟨hay_787, rfl⟩ | ⟨hay_787, hcy_787⟩
                      · have hI : kIn f n iw (tsk f n j + 1) (nI (tsk f n j + 1)) = some (tsk f n (twe f n (tsk f n (tsk f n j + 1))) + 1, nI (tsk f n (twe f n (tsk f n (tsk f n j + 1))) + 1), tat f n (tsk f n (twe f n (tsk f n (tsk f n j + 1)))) - 48) := by unfold kIn; rw [pif_pos ((lg_cmp_eq _ _).mp c_612), pif_pos (show cIn f n (tsk f n (tsk f n j + 1)) (nI (tsk f n j + 1)) from ⟨hay_697, ⟨hay_720, hdy_720⟩, ⟨c_723, c_767⟩, hay_787⟩)]
                        refine lv_aload_n hx hb dX9_kinds_161 rfl (lv_at hl 0 rfl) ?_
                        refine va_get (D := (dC, dI)) (ci := 11) (v := .int 0) (C := RX9) (T := TX9) (N := 60) hx hb hts iRX9 hown hK hP 5 rfl rfl 13 (by decide) (hts (.fieldLink RX9 135 "RecordBenchModel" "bad" "I") (by decide +kernel)) (fun _ h9 => h9) ((mo_get g1_770 (by decide)).trans (congrArg some k_773)) dX9_kinds_162 ?_
                        refine lv_if_ne (tgt := 212) hx hb dX9_kinds_165 (by decide) (fun c_788 => absurd (by decide) c_788) (fun c_788 => ?_)
                        refine lv_aload_n hx hb dX9_kinds_168 rfl (lv_at hl 0 rfl) ?_
                        have hFc := va_free (wc := [(h0, .inr (11, mo g1_770)), (a9, .inl (cT, 400, .inl f))]) hD hS hA [5, 6] rfl
                        refine va_calli (va_runV (As := []) (rest := []) ⟨hx, hb, hml, hown, hts⟩ (c_X9_next l dC dI h0 g1_770 a9 cT f (tsk f n (twe f n (tsk f n (tsk f n j + 1))) + 1) n w_783 w_775 w_784 (by omega) (by omega) H.size) (cwV 0 hts gp_X9_kinds_X9_next_150 rfl rfl rfl (by decide +kernel) ⟨Nat.le_of_ble_eq_true rfl, Nat.le_of_ble_eq_true rfl⟩) ⟨Pr.blind _, va_recv hK hP (ci := 11) (q0 := 5) rfl rfl, fun U hU hW => ⟨rfl, Pr.at (hP.sub (ws' := [(h0, .inr (11, mo g1_770)), (a9, .inl (cT, 400, .inl f))]) [5, 6] rfl) (hK.sub (tys' := [(cT, .int)]) [0] rfl) (hD.sub (ws' := [(h0, .inr (11, mo g1_770)), (a9, .inl (cT, 400, .inl f))]) [5, 6] (by decide) rfl) hN hZ RO.nil hS hFc hU hW⟩⟩ rfl rfl hl.1 rfl (lv_room (Nat.le_of_ble_eq_true rfl)) dX9_kinds_169 ⟨Nat.le_of_ble_eq_true rfl, Nat.le_of_ble_eq_true rfl⟩) hS (fun q _ h => hFc q h) hFc (fun r_789 u t H1 locs ht hvm hw_790 hB hz1 hk1 hS => ?_)
                        obtain ⟨g1_791, rfl⟩ : ∃ z, z = u := ⟨_, rfl⟩
                        obtain ⟨hP, hD, hK⟩ := Bq.join (wr := [(a0, .inl (cZ, 8, .inl tl)), (a2, .inl (cG, 248, .inl f_721)), (a3, .inl (cI, 248, .inl f_524)), (a6, .inl (cP, 248, .inr (.inl f_3))), (a7, .inl (cX, 2976, .inl fX))]) hB ht hvm hP hD [5, 6] [0, 1, 2, 3, 4] rfl rfl (by decide) (by decide) hk1 hFc hK
                        generalize H1 = H at hP hS ⊢
                        have hP : va_P (dC, dI) vwCl [(a0, .inl (cZ, 8, .inl tl)), (a2, .inl (cG, 248, .inl f_721)), (a3, .inl (cI, 248, .inl f_524)), (a6, .inl (cP, 248, .inr (.inl f_3))), (a7, .inl (cX, 2976, .inl fX)), (h0, .inr (11, mo g1_791)), (a9, .inl (cT, 400, .inl f))] H := hP
                        have hD : va_D A [(a0, .inl (cZ, 8, .inl tl)), (a2, .inl (cG, 248, .inl f_721)), (a3, .inl (cI, 248, .inl f_524)), (a6, .inl (cP, 248, .inr (.inl f_3))), (a7, .inl (cX, 2976, .inl fX)), (h0, .inr (11, mo g1_791)), (a9, .inl (cT, 400, .inl f))] := hD
                        have hK : va_K (dC, dI) vwCl [(cT, .int), (cZ, .boolean), (cG, .int), (cI, .int), (cP, .long), (cX, .int)] s := hK
                        try dsimp only at hw_790
                        obtain ⟨k_792, k_793, k_794, k_795⟩ := hw_790
                        have w_796 : g1_791 13 = .int 0 := (k_795 13 (by decide) (by decide)).trans k_773
                        have w_797 : g1_791 18 = .int (nI (tsk f n (twe f n (tsk f n (tsk f n j + 1))) + 1)) := (k_795 18 (by decide) (by decide)).trans w_777
                        have w_798 : g1_791 0 = .ref a0 := (k_795 0 (by decide) (by decide)).trans w_778
                        have w_799 : g1_791 2 = .ref a2 := (k_795 2 (by decide) (by decide)).trans w_779
                        have w_800 : g1_791 3 = .ref a3 := (k_795 3 (by decide) (by decide)).trans w_780
                        have w_801 : g1_791 6 = .ref a6 := (k_795 6 (by decide) (by decide)).trans w_781
                        have w_802 : g1_791 7 = .ref a7 := (k_795 7 (by decide) (by decide)).trans w_782
                        have w_803 : g1_791 9 = .ref a9 := (k_795 9 (by decide) (by decide)).trans w_783
                        have w_804 : g1_791 12 = .int (nI n) := (k_795 12 (by decide) (by decide)).trans w_784
                        have w_805 : g1_791 26 = .long iw := (k_795 26 (by decide) (by decide)).trans w_785
                        have un_806 : ∀ j : Nat, j ≠ 11 → j ≠ 13 → j ≠ 14 → j ≠ 17 → j ≠ 18 → g1_791 j = g j := fun j h11 h13 h14 h17 h18 => (k_795 j h11 h17).trans (un_786 j h11 h13 h14 h17 h18)
                        have := tsk_ge f n (tsk f n (twe f n (tsk f n (tsk f n j + 1))) + 1)
                        have := tsk_le (f := f) (n := n) (j := tsk f n (twe f n (tsk f n (tsk f n j + 1))) + 1) (by omega)
                        have := twe_ge f n (tsk f n (tsk f n (twe f n (tsk f n (tsk f n j + 1))) + 1))
                        have := twe_le (f := f) (n := n) (j := tsk f n (tsk f n (twe f n (tsk f n (tsk f n j + 1))) + 1)) (by omega)
                        have := twe_ge f n (tsk f n (twe f n (tsk f n (tsk f n j + 1))) + 1)
                        have := twe_le (f := f) (n := n) (j := tsk f n (twe f n (tsk f n (tsk f n j + 1))) + 1) (by omega)
                        refine W_toi (y := tat f n (tsk f n (tsk f n (twe f n (tsk f n (tsk f n j + 1))) + 1))) k_792 ?_
                        refine lv_bipush (v := 61) hx hb dX9_kinds_172 (by decide) ?_
                        refine lv_icmp_ne (tgt := 212) hx hb dX9_kinds_174 (by decide) (fun c_807 => ?_) (fun c_807 => ?_)
                        · have hD_ : kDef f n p2 (tsk f n (twe f n (tsk f n (tsk f n j + 1))) + 1) = some (tsk f n (tsk f n (twe f n (tsk f n (tsk f n j + 1))) + 1), 0) := by unfold kDef; rw [pif_neg (show ¬ (tat f n (tsk f n (tsk f n (twe f n (tsk f n (tsk f n j + 1))) + 1)) = 61 ∧ p2 ≠ 6) from fun h => c_807 h.1)]
                          refine lv_aload_n hx hb dX9_kinds_212 rfl (lv_at hl 0 rfl) ?_
                          refine va_get (D := (dC, dI)) (ci := 11) (v := .int 0) (C := RX9) (T := TX9) (N := 60) hx hb hts iRX9 hown hK hP 5 rfl rfl 13 (by decide) (hts (.fieldLink RX9 135 "RecordBenchModel" "bad" "I") (by decide +kernel)) (fun _ h9 => h9) ((mo_get g1_791 (by decide)).trans (congrArg some w_796)) dX9_kinds_213 ?_
                          refine lv_if_ne (tgt := 225) hx hb dX9_kinds_216 (by decide) (fun c_808 => absurd (by decide) c_808) (fun c_808 => ?_)
                          refine lv_aload_n hx hb dX9_kinds_219 rfl (lv_at hl 0 rfl) ?_
                          refine lv_bipush (v := 59) hx hb dX9_kinds_220 (by decide) ?_
                          have hFc := va_free (wc := [(h0, .inr (11, mo g1_791)), (a9, .inl (cT, 400, .inl f))]) hD hS hA [5, 6] rfl
                          refine va_callv (va_runV (As := [.int 59]) (rest := []) ⟨hx, hb, hml, hown, hts⟩ (c_X9_sign l dC dI h0 g1_791 a9 cT f (tsk f n (tsk f n (twe f n (tsk f n (tsk f n j + 1))) + 1)) n 0 w_803 k_793 w_804 w_796 (by omega) (by omega) 59 (by decide) H.size) (cwV 1 hts gp_X9_kinds_X9_sign_191 rfl rfl rfl (by decide +kernel) ⟨Nat.le_of_ble_eq_true rfl, Nat.le_of_ble_eq_true rfl⟩) ⟨Pr.blind _, va_recv hK hP (ci := 11) (q0 := 5) rfl rfl, fun U hU hW => ⟨rfl, Pr.at (hP.sub (ws' := [(h0, .inr (11, mo g1_791)), (a9, .inl (cT, 400, .inl f))]) [5, 6] rfl) (hK.sub (tys' := [(cT, .int)]) [0] rfl) (hD.sub (ws' := [(h0, .inr (11, mo g1_791)), (a9, .inl (cT, 400, .inl f))]) [5, 6] (by decide) rfl) hN hZ RO.nil hS hFc hU hW⟩⟩ rfl rfl hl.1 rfl (lv_room (Nat.le_of_ble_eq_true rfl)) dX9_kinds_222 ⟨Nat.le_of_ble_eq_true rfl, Nat.le_of_ble_eq_true rfl⟩) hS (fun q _ h => hFc q h) hFc (fun u t H1 locs ht hvm hw_810 hB hz1 hk1 hS => ?_)
                          obtain ⟨g1_811, j1_812, b1_813⟩ := u
                          obtain ⟨hP, hD, hK⟩ := Bq.join (wr := [(a0, .inl (cZ, 8, .inl tl)), (a2, .inl (cG, 248, .inl f_721)), (a3, .inl (cI, 248, .inl f_524)), (a6, .inl (cP, 248, .inr (.inl f_3))), (a7, .inl (cX, 2976, .inl fX))]) hB ht hvm hP hD [5, 6] [0, 1, 2, 3, 4] rfl rfl (by decide) (by decide) hk1 hFc hK
                          generalize H1 = H at hP hS ⊢
                          have hP : va_P (dC, dI) vwCl [(a0, .inl (cZ, 8, .inl tl)), (a2, .inl (cG, 248, .inl f_721)), (a3, .inl (cI, 248, .inl f_524)), (a6, .inl (cP, 248, .inr (.inl f_3))), (a7, .inl (cX, 2976, .inl fX)), (h0, .inr (11, mo g1_811)), (a9, .inl (cT, 400, .inl f))] H := hP
                          have hD : va_D A [(a0, .inl (cZ, 8, .inl tl)), (a2, .inl (cG, 248, .inl f_721)), (a3, .inl (cI, 248, .inl f_524)), (a6, .inl (cP, 248, .inr (.inl f_3))), (a7, .inl (cX, 2976, .inl fX)), (h0, .inr (11, mo g1_811)), (a9, .inl (cT, 400, .inl f))] := hD
                          have hK : va_K (dC, dI) vwCl [(cT, .int), (cZ, .boolean), (cG, .int), (cI, .int), (cP, .long), (cX, .int)] s := hK
                          try dsimp only at hw_810
                          obtain ⟨k_814, k_815, k_816, k_817, k_818⟩ := hw_810
                          have w_819 : g1_811 18 = .int (nI (tsk f n (twe f n (tsk f n (tsk f n j + 1))) + 1)) := (k_818 18 (by decide) (by decide) (by decide) (by decide)).trans w_797
                          have w_820 : g1_811 0 = .ref a0 := (k_818 0 (by decide) (by decide) (by decide) (by decide)).trans w_798
                          have w_821 : g1_811 2 = .ref a2 := (k_818 2 (by decide) (by decide) (by decide) (by decide)).trans w_799
                          have w_822 : g1_811 3 = .ref a3 := (k_818 3 (by decide) (by decide) (by decide) (by decide)).trans w_800
                          have w_823 : g1_811 6 = .ref a6 := (k_818 6 (by decide) (by decide) (by decide) (by decide)).trans w_801
                          have w_824 : g1_811 7 = .ref a7 := (k_818 7 (by decide) (by decide) (by decide) (by decide)).trans w_802
                          have w_825 : g1_811 9 = .ref a9 := (k_818 9 (by decide) (by decide) (by decide) (by decide)).trans w_803
                          have w_826 : g1_811 12 = .int (nI n) := (k_818 12 (by decide) (by decide) (by decide) (by decide)).trans w_804
                          have w_827 : g1_811 26 = .long iw := (k_818 26 (by decide) (by decide) (by decide) (by decide)).trans w_805
                          have un_828 : ∀ j : Nat, j ≠ 11 → j ≠ 13 → j ≠ 14 → j ≠ 17 → j ≠ 18 → g1_811 j = g j := fun j h11 h13 h14 h17 h18 => (k_818 j h11 h13 h14 h17).trans (un_806 j h11 h13 h14 h17 h18)
                          have := tsk_ge f n (tsk f n (tsk f n (twe f n (tsk f n (tsk f n j + 1))) + 1))
                          have := tsk_le (f := f) (n := n) (j := tsk f n (tsk f n (twe f n (tsk f n (tsk f n j + 1))) + 1)) (by omega)
                          have := twe_ge f n (tsk f n (tsk f n (tsk f n (twe f n (tsk f n (tsk f n j + 1))) + 1)))
                          have := twe_le (f := f) (n := n) (j := tsk f n (tsk f n (tsk f n (twe f n (tsk f n (tsk f n j + 1))) + 1))) (by omega)
                          have := twe_ge f n (tsk f n (tsk f n (twe f n (tsk f n (tsk f n j + 1))) + 1))
                          have := twe_le (f := f) (n := n) (j := tsk f n (tsk f n (twe f n (tsk f n (tsk f n j + 1))) + 1)) (by omega)
                          rcases k_814 with ⟨hay_829, hby_829, rfl, rfl⟩ | ⟨hay_829, rfl, hcy_829⟩
                          · have hP9 := hP.sub (ws' := [(h0, .inr (11, mo g1_811)), (a9, .inl (cT, 400, .inl f)), (a0, .inl (cZ, 8, .inl tl)), (a2, .inl (cG, 248, .inl f_721)), (a3, .inl (cI, 248, .inl f_524)), (a6, .inl (cP, 248, .inr (.inl f_3))), (a7, .inl (cX, 2976, .inl fX))]) [5, 6, 0, 1, 2, 3, 4] rfl
                            have hD9 := hD.sub (ws' := [(h0, .inr (11, mo g1_811)), (a9, .inl (cT, 400, .inl f)), (a0, .inl (cZ, 8, .inl tl)), (a2, .inl (cG, 248, .inl f_721)), (a3, .inl (cI, 248, .inl f_524)), (a6, .inl (cP, 248, .inr (.inl f_3))), (a7, .inl (cX, 2976, .inl fX))]) [5, 6, 0, 1, 2, 3, 4] (by decide) rfl
                            have hK9 := hK.sub (tys' := []) [] rfl
                            exact W.vret hx hb hr (fun t ht hW => ⟨⟨(g1_811, (tsk f n (tsk f n (tsk f n (twe f n (tsk f n (tsk f n j + 1))) + 1)) + 1), 0, (nI (tsk f n (twe f n (tsk f n (tsk f n j + 1))) + 1)), (tsk f n (twe f n (tsk f n (tsk f n j + 1))) + 1), f_524, f_721, f_3, fX, (tat f n (tsk f n j) - 48), (tat f n (tsk f n (twe f n (tsk f n (tsk f n j + 1)))) - 48), 0), rfl, ⟨Or.inl ⟨by simp only [kAll, hR, hI, hD_, Option.bind_some, Option.bind_none]; rw [pif_pos hay_829], rfl, by omega, ⟨rfl, by omega⟩, vf_524, vf_721, vf_3⟩, (fun x hx => frf_524 x hx), (fun x hx => frf_721 x hx), (fun x hx => frf_3 x hx), (fun _ _ => rfl), k_815, k_816, w_819, (fun j h11 h13 h14 h17 h18 => un_828 j h11 h13 h14 h17 h18)⟩, by rw [ht]; exact hP9, va_K.moved hW.alike hK9, hD9⟩, hS.F ht⟩) hS.2.2 dX9_kinds_225
                          · have hP9 := hP.sub (ws' := [(h0, .inr (11, mo g1_811)), (a9, .inl (cT, 400, .inl f)), (a0, .inl (cZ, 8, .inl tl)), (a2, .inl (cG, 248, .inl f_721)), (a3, .inl (cI, 248, .inl f_524)), (a6, .inl (cP, 248, .inr (.inl f_3))), (a7, .inl (cX, 2976, .inl fX))]) [5, 6, 0, 1, 2, 3, 4] rfl
                            have hD9 := hD.sub (ws' := [(h0, .inr (11, mo g1_811)), (a9, .inl (cT, 400, .inl f)), (a0, .inl (cZ, 8, .inl tl)), (a2, .inl (cG, 248, .inl f_721)), (a3, .inl (cI, 248, .inl f_524)), (a6, .inl (cP, 248, .inr (.inl f_3))), (a7, .inl (cX, 2976, .inl fX))]) [5, 6, 0, 1, 2, 3, 4] (by decide) rfl
                            have hK9 := hK.sub (tys' := []) [] rfl
                            exact W.vret hx hb hr (fun t ht hW => ⟨⟨(g1_811, (tsk f n (tsk f n (tsk f n (twe f n (tsk f n (tsk f n j + 1))) + 1))), b1_813, (nI (tsk f n (twe f n (tsk f n (tsk f n j + 1))) + 1)), (tsk f n (twe f n (tsk f n (tsk f n j + 1))) + 1), f_524, f_721, f_3, fX, (tat f n (tsk f n j) - 48), (tat f n (tsk f n (twe f n (tsk f n (tsk f n j + 1)))) - 48), 0), rfl, ⟨Or.inr ⟨by simp only [kAll, hR, hI, hD_, Option.bind_some, Option.bind_none]; rw [pif_neg hay_829], hcy_829⟩, (fun x hx => frf_524 x hx), (fun x hx => frf_721 x hx), (fun x hx => frf_3 x hx), (fun _ _ => rfl), k_815, k_816, w_819, (fun j h11 h13 h14 h17 h18 => un_828 j h11 h13 h14 h17 h18)⟩, by rw [ht]; exact hP9, va_K.moved hW.alike hK9, hD9⟩, hS.F ht⟩) hS.2.2 dX9_kinds_225
                        · refine lv_iload_n hx hb dX9_kinds_177 rfl (lv_at hl 3 rfl) ?_
                          refine lv_bipush (v := 6) hx hb dX9_kinds_178 (by decide) ?_
                          refine lv_icmp_eq (tgt := 212) hx hb dX9_kinds_180 (by decide) (fun c_830 => ?_) (fun c_830 => absurd (c_4) c_830)
                          have hD_ : kDef f n p2 (tsk f n (twe f n (tsk f n (tsk f n j + 1))) + 1) = some (tsk f n (tsk f n (twe f n (tsk f n (tsk f n j + 1))) + 1), 0) := by unfold kDef; rw [pif_neg (show ¬ (tat f n (tsk f n (tsk f n (twe f n (tsk f n (tsk f n j + 1))) + 1)) = 61 ∧ p2 ≠ 6) from fun h => h.2 c_830)]
                          refine lv_aload_n hx hb dX9_kinds_212 rfl (lv_at hl 0 rfl) ?_
                          refine va_get (D := (dC, dI)) (ci := 11) (v := .int 0) (C := RX9) (T := TX9) (N := 60) hx hb hts iRX9 hown hK hP 5 rfl rfl 13 (by decide) (hts (.fieldLink RX9 135 "RecordBenchModel" "bad" "I") (by decide +kernel)) (fun _ h9 => h9) ((mo_get g1_791 (by decide)).trans (congrArg some w_796)) dX9_kinds_213 ?_
                          refine lv_if_ne (tgt := 225) hx hb dX9_kinds_216 (by decide) (fun c_831 => absurd (by decide) c_831) (fun c_831 => ?_)
                          refine lv_aload_n hx hb dX9_kinds_219 rfl (lv_at hl 0 rfl) ?_
                          refine lv_bipush (v := 59) hx hb dX9_kinds_220 (by decide) ?_
                          have hFc := va_free (wc := [(h0, .inr (11, mo g1_791)), (a9, .inl (cT, 400, .inl f))]) hD hS hA [5, 6] rfl
                          refine va_callv (va_runV (As := [.int 59]) (rest := []) ⟨hx, hb, hml, hown, hts⟩ (c_X9_sign l dC dI h0 g1_791 a9 cT f (tsk f n (tsk f n (twe f n (tsk f n (tsk f n j + 1))) + 1)) n 0 w_803 k_793 w_804 w_796 (by omega) (by omega) 59 (by decide) H.size) (cwV 1 hts gp_X9_kinds_X9_sign_191 rfl rfl rfl (by decide +kernel) ⟨Nat.le_of_ble_eq_true rfl, Nat.le_of_ble_eq_true rfl⟩) ⟨Pr.blind _, va_recv hK hP (ci := 11) (q0 := 5) rfl rfl, fun U hU hW => ⟨rfl, Pr.at (hP.sub (ws' := [(h0, .inr (11, mo g1_791)), (a9, .inl (cT, 400, .inl f))]) [5, 6] rfl) (hK.sub (tys' := [(cT, .int)]) [0] rfl) (hD.sub (ws' := [(h0, .inr (11, mo g1_791)), (a9, .inl (cT, 400, .inl f))]) [5, 6] (by decide) rfl) hN hZ RO.nil hS hFc hU hW⟩⟩ rfl rfl hl.1 rfl (lv_room (Nat.le_of_ble_eq_true rfl)) dX9_kinds_222 ⟨Nat.le_of_ble_eq_true rfl, Nat.le_of_ble_eq_true rfl⟩) hS (fun q _ h => hFc q h) hFc (fun u t H1 locs ht hvm hw_833 hB hz1 hk1 hS => ?_)
                          obtain ⟨g1_834, j1_835, b1_836⟩ := u
                          obtain ⟨hP, hD, hK⟩ := Bq.join (wr := [(a0, .inl (cZ, 8, .inl tl)), (a2, .inl (cG, 248, .inl f_721)), (a3, .inl (cI, 248, .inl f_524)), (a6, .inl (cP, 248, .inr (.inl f_3))), (a7, .inl (cX, 2976, .inl fX))]) hB ht hvm hP hD [5, 6] [0, 1, 2, 3, 4] rfl rfl (by decide) (by decide) hk1 hFc hK
                          generalize H1 = H at hP hS ⊢
                          have hP : va_P (dC, dI) vwCl [(a0, .inl (cZ, 8, .inl tl)), (a2, .inl (cG, 248, .inl f_721)), (a3, .inl (cI, 248, .inl f_524)), (a6, .inl (cP, 248, .inr (.inl f_3))), (a7, .inl (cX, 2976, .inl fX)), (h0, .inr (11, mo g1_834)), (a9, .inl (cT, 400, .inl f))] H := hP
                          have hD : va_D A [(a0, .inl (cZ, 8, .inl tl)), (a2, .inl (cG, 248, .inl f_721)), (a3, .inl (cI, 248, .inl f_524)), (a6, .inl (cP, 248, .inr (.inl f_3))), (a7, .inl (cX, 2976, .inl fX)), (h0, .inr (11, mo g1_834)), (a9, .inl (cT, 400, .inl f))] := hD
                          have hK : va_K (dC, dI) vwCl [(cT, .int), (cZ, .boolean), (cG, .int), (cI, .int), (cP, .long), (cX, .int)] s := hK
                          try dsimp only at hw_833
                          obtain ⟨k_837, k_838, k_839, k_840, k_841⟩ := hw_833
                          have w_842 : g1_834 18 = .int (nI (tsk f n (twe f n (tsk f n (tsk f n j + 1))) + 1)) := (k_841 18 (by decide) (by decide) (by decide) (by decide)).trans w_797
                          have w_843 : g1_834 0 = .ref a0 := (k_841 0 (by decide) (by decide) (by decide) (by decide)).trans w_798
                          have w_844 : g1_834 2 = .ref a2 := (k_841 2 (by decide) (by decide) (by decide) (by decide)).trans w_799
                          have w_845 : g1_834 3 = .ref a3 := (k_841 3 (by decide) (by decide) (by decide) (by decide)).trans w_800
                          have w_846 : g1_834 6 = .ref a6 := (k_841 6 (by decide) (by decide) (by decide) (by decide)).trans w_801
                          have w_847 : g1_834 7 = .ref a7 := (k_841 7 (by decide) (by decide) (by decide) (by decide)).trans w_802
                          have w_848 : g1_834 9 = .ref a9 := (k_841 9 (by decide) (by decide) (by decide) (by decide)).trans w_803
                          have w_849 : g1_834 12 = .int (nI n) := (k_841 12 (by decide) (by decide) (by decide) (by decide)).trans w_804
                          have w_850 : g1_834 26 = .long iw := (k_841 26 (by decide) (by decide) (by decide) (by decide)).trans w_805
                          have un_851 : ∀ j : Nat, j ≠ 11 → j ≠ 13 → j ≠ 14 → j ≠ 17 → j ≠ 18 → g1_834 j = g j := fun j h11 h13 h14 h17 h18 => (k_841 j h11 h13 h14 h17).trans (un_806 j h11 h13 h14 h17 h18)
                          have := tsk_ge f n (tsk f n (tsk f n (twe f n (tsk f n (tsk f n j + 1))) + 1))
                          have := tsk_le (f := f) (n := n) (j := tsk f n (tsk f n (twe f n (tsk f n (tsk f n j + 1))) + 1)) (by omega)
                          have := twe_ge f n (tsk f n (tsk f n (tsk f n (twe f n (tsk f n (tsk f n j + 1))) + 1)))
                          have := twe_le (f := f) (n := n) (j := tsk f n (tsk f n (tsk f n (twe f n (tsk f n (tsk f n j + 1))) + 1))) (by omega)
                          have := twe_ge f n (tsk f n (tsk f n (twe f n (tsk f n (tsk f n j + 1))) + 1))
                          have := twe_le (f := f) (n := n) (j := tsk f n (tsk f n (twe f n (tsk f n (tsk f n j + 1))) + 1)) (by omega)
                          rcases k_837 with ⟨hay_852, hby_852, rfl, rfl⟩ | ⟨hay_852, rfl, hcy_852⟩
                          · have hP9 := hP.sub (ws' := [(h0, .inr (11, mo g1_834)), (a9, .inl (cT, 400, .inl f)), (a0, .inl (cZ, 8, .inl tl)), (a2, .inl (cG, 248, .inl f_721)), (a3, .inl (cI, 248, .inl f_524)), (a6, .inl (cP, 248, .inr (.inl f_3))), (a7, .inl (cX, 2976, .inl fX))]) [5, 6, 0, 1, 2, 3, 4] rfl
                            have hD9 := hD.sub (ws' := [(h0, .inr (11, mo g1_834)), (a9, .inl (cT, 400, .inl f)), (a0, .inl (cZ, 8, .inl tl)), (a2, .inl (cG, 248, .inl f_721)), (a3, .inl (cI, 248, .inl f_524)), (a6, .inl (cP, 248, .inr (.inl f_3))), (a7, .inl (cX, 2976, .inl fX))]) [5, 6, 0, 1, 2, 3, 4] (by decide) rfl
                            have hK9 := hK.sub (tys' := []) [] rfl
                            exact W.vret hx hb hr (fun t ht hW => ⟨⟨(g1_834, (tsk f n (tsk f n (tsk f n (twe f n (tsk f n (tsk f n j + 1))) + 1)) + 1), 0, (nI (tsk f n (twe f n (tsk f n (tsk f n j + 1))) + 1)), (tsk f n (twe f n (tsk f n (tsk f n j + 1))) + 1), f_524, f_721, f_3, fX, (tat f n (tsk f n j) - 48), (tat f n (tsk f n (twe f n (tsk f n (tsk f n j + 1)))) - 48), 0), rfl, ⟨Or.inl ⟨by simp only [kAll, hR, hI, hD_, Option.bind_some, Option.bind_none]; rw [pif_pos hay_852], rfl, by omega, ⟨rfl, by omega⟩, vf_524, vf_721, vf_3⟩, (fun x hx => frf_524 x hx), (fun x hx => frf_721 x hx), (fun x hx => frf_3 x hx), (fun _ _ => rfl), k_838, k_839, w_842, (fun j h11 h13 h14 h17 h18 => un_851 j h11 h13 h14 h17 h18)⟩, by rw [ht]; exact hP9, va_K.moved hW.alike hK9, hD9⟩, hS.F ht⟩) hS.2.2 dX9_kinds_225
                          · have hP9 := hP.sub (ws' := [(h0, .inr (11, mo g1_834)), (a9, .inl (cT, 400, .inl f)), (a0, .inl (cZ, 8, .inl tl)), (a2, .inl (cG, 248, .inl f_721)), (a3, .inl (cI, 248, .inl f_524)), (a6, .inl (cP, 248, .inr (.inl f_3))), (a7, .inl (cX, 2976, .inl fX))]) [5, 6, 0, 1, 2, 3, 4] rfl
                            have hD9 := hD.sub (ws' := [(h0, .inr (11, mo g1_834)), (a9, .inl (cT, 400, .inl f)), (a0, .inl (cZ, 8, .inl tl)), (a2, .inl (cG, 248, .inl f_721)), (a3, .inl (cI, 248, .inl f_524)), (a6, .inl (cP, 248, .inr (.inl f_3))), (a7, .inl (cX, 2976, .inl fX))]) [5, 6, 0, 1, 2, 3, 4] (by decide) rfl
                            have hK9 := hK.sub (tys' := []) [] rfl
                            exact W.vret hx hb hr (fun t ht hW => ⟨⟨(g1_834, (tsk f n (tsk f n (tsk f n (twe f n (tsk f n (tsk f n j + 1))) + 1))), b1_836, (nI (tsk f n (twe f n (tsk f n (tsk f n j + 1))) + 1)), (tsk f n (twe f n (tsk f n (tsk f n j + 1))) + 1), f_524, f_721, f_3, fX, (tat f n (tsk f n j) - 48), (tat f n (tsk f n (twe f n (tsk f n (tsk f n j + 1)))) - 48), 0), rfl, ⟨Or.inr ⟨by simp only [kAll, hR, hI, hD_, Option.bind_some, Option.bind_none]; rw [pif_neg hay_852], hcy_852⟩, (fun x hx => frf_524 x hx), (fun x hx => frf_721 x hx), (fun x hx => frf_3 x hx), (fun _ _ => rfl), k_838, k_839, w_842, (fun j h11 h13 h14 h17 h18 => un_851 j h11 h13 h14 h17 h18)⟩, by rw [ht]; exact hP9, va_K.moved hW.alike hK9, hD9⟩, hS.F ht⟩) hS.2.2 dX9_kinds_225
                      · have hI : kIn f n iw (tsk f n j + 1) (nI (tsk f n j + 1)) = none := by unfold kIn; rw [pif_pos ((lg_cmp_eq _ _).mp c_612), pif_neg (show ¬ cIn f n (tsk f n (tsk f n j + 1)) (nI (tsk f n j + 1)) from fun h => h.2.2.2 hay_787)]
                        refine lv_aload_n hx hb dX9_kinds_161 rfl (lv_at hl 0 rfl) ?_
                        refine va_get (D := (dC, dI)) (ci := 11) (v := .int b1_771) (C := RX9) (T := TX9) (N := 60) hx hb hts iRX9 hown hK hP 5 rfl rfl 13 (by decide) (hts (.fieldLink RX9 135 "RecordBenchModel" "bad" "I") (by decide +kernel)) (fun _ h9 => h9) ((mo_get g1_770 (by decide)).trans (congrArg some k_773)) dX9_kinds_162 ?_
                        refine lv_if_ne (tgt := 212) hx hb dX9_kinds_165 (by decide) (fun c_853 => ?_) (fun c_853 => absurd c_853 hcy_787)
                        refine lv_aload_n hx hb dX9_kinds_212 rfl (lv_at hl 0 rfl) ?_
                        refine va_get (D := (dC, dI)) (ci := 11) (v := .int b1_771) (C := RX9) (T := TX9) (N := 60) hx hb hts iRX9 hown hK hP 5 rfl rfl 13 (by decide) (hts (.fieldLink RX9 135 "RecordBenchModel" "bad" "I") (by decide +kernel)) (fun _ h9 => h9) ((mo_get g1_770 (by decide)).trans (congrArg some k_773)) dX9_kinds_213 ?_
                        refine lv_if_ne (tgt := 225) hx hb dX9_kinds_216 (by decide) (fun c_854 => ?_) (fun c_854 => absurd c_854 hcy_787)
                        have hP9 := hP.sub (ws' := [(h0, .inr (11, mo g1_770)), (a9, .inl (cT, 400, .inl f)), (a0, .inl (cZ, 8, .inl tl)), (a2, .inl (cG, 248, .inl f_721)), (a3, .inl (cI, 248, .inl f_524)), (a6, .inl (cP, 248, .inr (.inl f_3))), (a7, .inl (cX, 2976, .inl fX))]) [5, 6, 0, 1, 2, 3, 4] rfl
                        have hD9 := hD.sub (ws' := [(h0, .inr (11, mo g1_770)), (a9, .inl (cT, 400, .inl f)), (a0, .inl (cZ, 8, .inl tl)), (a2, .inl (cG, 248, .inl f_721)), (a3, .inl (cI, 248, .inl f_524)), (a6, .inl (cP, 248, .inr (.inl f_3))), (a7, .inl (cX, 2976, .inl fX))]) [5, 6, 0, 1, 2, 3, 4] (by decide) rfl
                        have hK9 := hK.sub (tys' := []) [] rfl
                        exact W.vret hx hb hr (fun t ht hW => ⟨⟨(g1_770, (tsk f n (twe f n (tsk f n (tsk f n j + 1))) + 1), b1_771, (nI (tsk f n (twe f n (tsk f n (tsk f n j + 1))) + 1)), (tsk f n (twe f n (tsk f n (tsk f n j + 1))) + 1), f_524, f_721, f_3, fX, 0, 0, 0), rfl, ⟨Or.inr ⟨by simp only [kAll, hR, hI, Option.bind_some, Option.bind_none], hcy_787⟩, (fun x hx => frf_524 x hx), (fun x hx => frf_721 x hx), (fun x hx => frf_3 x hx), (fun _ _ => rfl), w_775, k_773, w_777, (fun j h11 h13 h14 h17 h18 => un_786 j h11 h13 h14 h17 h18)⟩, by rw [ht]; exact hP9, va_K.moved hW.alike hK9, hD9⟩, hS.F ht⟩) hS.2.2 dX9_kinds_225
                    · refine lv_aload_n hx hb dX9_kinds_148 rfl (lv_at hl 0 rfl) ?_
                      refine lv_iconst (v := 1) hx hb dX9_kinds_149 (by decide) ?_
                      refine lv_aload_n hx hb dX9_kinds_150 rfl (lv_at hl 0 rfl) ?_
                      refine va_get (D := (dC, dI)) (ci := 11) (v := .int (nI (tsk f n (twe f n (tsk f n (tsk f n j + 1)))))) (C := RX9) (T := TX9) (N := 60) hx hb hts iRX9 hown hK hP 5 rfl rfl 17 (by decide) (hts (.fieldLink RX9 147 "RecordBenchModel" "begun" "I") (by decide +kernel)) (fun _ h9 => h9) ((mo_get g1_701 (by decide)).trans (congrArg some k_708)) dX9_kinds_151 ?_
                      have hFc := va_free (wc := [(h0, .inr (11, mo g1_701))]) hD hS hA [5] rfl
                      refine va_callv (va_runV (As := [.int 1, .int (nI (tsk f n (twe f n (tsk f n (tsk f n j + 1)))))]) (rest := []) ⟨hx, hb, hml, hown, hts⟩ (c_X9_fail l dC dI h0 g1_701 0 k_707 1 (nI (tsk f n (twe f n (tsk f n (tsk f n j + 1))))) (by decide) H.size) (cwV 2 hts gp_X9_kinds_X9_fail_154 rfl rfl rfl (by decide +kernel) ⟨Nat.le_of_ble_eq_true rfl, Nat.le_of_ble_eq_true rfl⟩) ⟨Pr.blind _, va_recv hK hP (ci := 11) (q0 := 5) rfl rfl, fun U hU hW => ⟨rfl, Pr.at (hP.sub (ws' := [(h0, .inr (11, mo g1_701))]) [5] rfl) (hK.sub (tys' := []) [] rfl) (hD.sub (ws' := [(h0, .inr (11, mo g1_701))]) [5] (by decide) rfl) hN hZ RO.nil hS hFc hU hW⟩⟩ rfl rfl hl.1 rfl (lv_room (Nat.le_of_ble_eq_true rfl)) dX9_kinds_154 ⟨Nat.le_of_ble_eq_true rfl, Nat.le_of_ble_eq_true rfl⟩) hS (fun q _ h => hFc q h) hFc (fun u t H1 locs ht hvm hw_856 hB hz1 hk1 hS => ?_)
                      obtain ⟨g1_857, b1_858⟩ := u
                      obtain ⟨hP, hD, hK⟩ := Bq.join (wr := [(a0, .inl (cZ, 8, .inl tl)), (a2, .inl (cG, 248, .inl f_721)), (a3, .inl (cI, 248, .inl f_524)), (a6, .inl (cP, 248, .inr (.inl f_3))), (a7, .inl (cX, 2976, .inl fX)), (a9, .inl (cT, 400, .inl f))]) hB ht hvm hP hD [5] [0, 1, 2, 3, 4, 6] rfl rfl (by decide) (by decide) hk1 hFc hK
                      generalize H1 = H at hP hS ⊢
                      have hP : va_P (dC, dI) vwCl [(a0, .inl (cZ, 8, .inl tl)), (a2, .inl (cG, 248, .inl f_721)), (a3, .inl (cI, 248, .inl f_524)), (a6, .inl (cP, 248, .inr (.inl f_3))), (a7, .inl (cX, 2976, .inl fX)), (a9, .inl (cT, 400, .inl f)), (h0, .inr (11, mo g1_857))] H := hP
                      have hD : va_D A [(a0, .inl (cZ, 8, .inl tl)), (a2, .inl (cG, 248, .inl f_721)), (a3, .inl (cI, 248, .inl f_524)), (a6, .inl (cP, 248, .inr (.inl f_3))), (a7, .inl (cX, 2976, .inl fX)), (a9, .inl (cT, 400, .inl f)), (h0, .inr (11, mo g1_857))] := hD
                      have hK : va_K (dC, dI) vwCl [(cT, .int), (cZ, .boolean), (cG, .int), (cI, .int), (cP, .long), (cX, .int)] s := hK
                      try dsimp only at hw_856
                      obtain ⟨k_859, k_860, k_861⟩ := hw_856
                      have w_862 : g1_857 11 = .int (nI (tsk f n (twe f n (tsk f n (tsk f n j + 1))) + 1)) := (k_861 11 (by decide) (by decide)).trans k_706
                      have w_863 : g1_857 17 = .int (nI (tsk f n (twe f n (tsk f n (tsk f n j + 1))))) := (k_861 17 (by decide) (by decide)).trans k_708
                      have w_864 : g1_857 18 = .int (nI (tsk f n (twe f n (tsk f n (tsk f n j + 1))) + 1)) := (k_861 18 (by decide) (by decide)).trans k_709
                      have w_865 : g1_857 0 = .ref a0 := (k_861 0 (by decide) (by decide)).trans w_711
                      have w_866 : g1_857 2 = .ref a2 := (k_861 2 (by decide) (by decide)).trans w_712
                      have w_867 : g1_857 3 = .ref a3 := (k_861 3 (by decide) (by decide)).trans w_713
                      have w_868 : g1_857 6 = .ref a6 := (k_861 6 (by decide) (by decide)).trans w_714
                      have w_869 : g1_857 7 = .ref a7 := (k_861 7 (by decide) (by decide)).trans w_715
                      have w_870 : g1_857 9 = .ref a9 := (k_861 9 (by decide) (by decide)).trans w_716
                      have w_871 : g1_857 12 = .int (nI n) := (k_861 12 (by decide) (by decide)).trans w_717
                      have w_872 : g1_857 26 = .long iw := (k_861 26 (by decide) (by decide)).trans w_718
                      have un_873 : ∀ j : Nat, j ≠ 11 → j ≠ 13 → j ≠ 14 → j ≠ 17 → j ≠ 18 → g1_857 j = g j := fun j h11 h13 h14 h17 h18 => (k_861 j h13 h14).trans (un_719 j h11 h13 h14 h17 h18)
                      refine lv_aload_n hx hb dX9_kinds_157 rfl (lv_at hl 0 rfl) ?_
                      have hFc := va_free (wc := [(h0, .inr (11, mo g1_857)), (a9, .inl (cT, 400, .inl f))]) hD hS hA [6, 5] rfl
                      refine va_callv (va_runV (As := []) (rest := []) ⟨hx, hb, hml, hown, hts⟩ (c_X9_ends l dC dI h0 g1_857 a9 cT f (tsk f n (twe f n (tsk f n (tsk f n j + 1))) + 1) n b1_858 w_870 w_862 w_871 k_860 (by omega) (by omega) H.size) (cwV 0 hts gp_X9_kinds_X9_ends_206 rfl rfl rfl (by decide +kernel) ⟨Nat.le_of_ble_eq_true rfl, Nat.le_of_ble_eq_true rfl⟩) ⟨Pr.blind _, va_recv hK hP (ci := 11) (q0 := 6) rfl rfl, fun U hU hW => ⟨rfl, Pr.at (hP.sub (ws' := [(h0, .inr (11, mo g1_857)), (a9, .inl (cT, 400, .inl f))]) [6, 5] rfl) (hK.sub (tys' := [(cT, .int)]) [0] rfl) (hD.sub (ws' := [(h0, .inr (11, mo g1_857)), (a9, .inl (cT, 400, .inl f))]) [6, 5] (by decide) rfl) hN hZ RO.nil hS hFc hU hW⟩⟩ rfl rfl hl.1 rfl (lv_room (Nat.le_of_ble_eq_true rfl)) dX9_kinds_158 ⟨Nat.le_of_ble_eq_true rfl, Nat.le_of_ble_eq_true rfl⟩) hS (fun q _ h => hFc q h) hFc (fun u t H1 locs ht hvm hw_875 hB hz1 hk1 hS => ?_)
                      obtain ⟨g1_876, b1_877⟩ := u
                      obtain ⟨hP, hD, hK⟩ := Bq.join (wr := [(a0, .inl (cZ, 8, .inl tl)), (a2, .inl (cG, 248, .inl f_721)), (a3, .inl (cI, 248, .inl f_524)), (a6, .inl (cP, 248, .inr (.inl f_3))), (a7, .inl (cX, 2976, .inl fX))]) hB ht hvm hP hD [6, 5] [0, 1, 2, 3, 4] rfl rfl (by decide) (by decide) hk1 hFc hK
                      generalize H1 = H at hP hS ⊢
                      have hP : va_P (dC, dI) vwCl [(a0, .inl (cZ, 8, .inl tl)), (a2, .inl (cG, 248, .inl f_721)), (a3, .inl (cI, 248, .inl f_524)), (a6, .inl (cP, 248, .inr (.inl f_3))), (a7, .inl (cX, 2976, .inl fX)), (h0, .inr (11, mo g1_876)), (a9, .inl (cT, 400, .inl f))] H := hP
                      have hD : va_D A [(a0, .inl (cZ, 8, .inl tl)), (a2, .inl (cG, 248, .inl f_721)), (a3, .inl (cI, 248, .inl f_524)), (a6, .inl (cP, 248, .inr (.inl f_3))), (a7, .inl (cX, 2976, .inl fX)), (h0, .inr (11, mo g1_876)), (a9, .inl (cT, 400, .inl f))] := hD
                      have hK : va_K (dC, dI) vwCl [(cT, .int), (cZ, .boolean), (cG, .int), (cI, .int), (cP, .long), (cX, .int)] s := hK
                      try dsimp only at hw_875
                      obtain ⟨k_878, k_879, k_880⟩ := hw_875
                      have w_881 : g1_876 11 = .int (nI (tsk f n (twe f n (tsk f n (tsk f n j + 1))) + 1)) := (k_880 11 (by decide) (by decide)).trans w_862
                      have w_882 : g1_876 17 = .int (nI (tsk f n (twe f n (tsk f n (tsk f n j + 1))))) := (k_880 17 (by decide) (by decide)).trans w_863
                      have w_883 : g1_876 18 = .int (nI (tsk f n (twe f n (tsk f n (tsk f n j + 1))) + 1)) := (k_880 18 (by decide) (by decide)).trans w_864
                      have w_884 : g1_876 0 = .ref a0 := (k_880 0 (by decide) (by decide)).trans w_865
                      have w_885 : g1_876 2 = .ref a2 := (k_880 2 (by decide) (by decide)).trans w_866
                      have w_886 : g1_876 3 = .ref a3 := (k_880 3 (by decide) (by decide)).trans w_867
                      have w_887 : g1_876 6 = .ref a6 := (k_880 6 (by decide) (by decide)).trans w_868
                      have w_888 : g1_876 7 = .ref a7 := (k_880 7 (by decide) (by decide)).trans w_869
                      have w_889 : g1_876 9 = .ref a9 := (k_880 9 (by decide) (by decide)).trans w_870
                      have w_890 : g1_876 12 = .int (nI n) := (k_880 12 (by decide) (by decide)).trans w_871
                      have w_891 : g1_876 26 = .long iw := (k_880 26 (by decide) (by decide)).trans w_872
                      have un_892 : ∀ j : Nat, j ≠ 11 → j ≠ 13 → j ≠ 14 → j ≠ 17 → j ≠ 18 → g1_876 j = g j := fun j h11 h13 h14 h17 h18 => (k_880 j h13 h14).trans (un_873 j h11 h13 h14 h17 h18)
                      have := tsk_ge f n (tsk f n (twe f n (tsk f n (tsk f n j + 1))) + 1)
                      have := tsk_le (f := f) (n := n) (j := tsk f n (twe f n (tsk f n (tsk f n j + 1))) + 1) (by omega)
                      have := twe_ge f n (tsk f n (tsk f n (twe f n (tsk f n (tsk f n j + 1))) + 1))
                      have := twe_le (f := f) (n := n) (j := tsk f n (tsk f n (twe f n (tsk f n (tsk f n j + 1))) + 1)) (by omega)
                      have := twe_ge f n (tsk f n (twe f n (tsk f n (tsk f n j + 1))) + 1)
                      have := twe_le (f := f) (n := n) (j := tsk f n (twe f n (tsk f n (tsk f n j + 1))) + 1) (by omega)
                      rcases k_878 with ⟨hay_893, rfl⟩ | ⟨hay_893, hcy_893⟩
                      · have hI : kIn f n iw (tsk f n j + 1) (nI (tsk f n j + 1)) = none := by unfold kIn; rw [pif_pos ((lg_cmp_eq _ _).mp c_612), pif_neg (show ¬ cIn f n (tsk f n (tsk f n j + 1)) (nI (tsk f n j + 1)) from fun h => c_767 h.2.2.1.2)]
                        refine lv_aload_n hx hb dX9_kinds_161 rfl (lv_at hl 0 rfl) ?_
                        refine va_get (D := (dC, dI)) (ci := 11) (v := .int b1_858) (C := RX9) (T := TX9) (N := 60) hx hb hts iRX9 hown hK hP 5 rfl rfl 13 (by decide) (hts (.fieldLink RX9 135 "RecordBenchModel" "bad" "I") (by decide +kernel)) (fun _ h9 => h9) ((mo_get g1_876 (by decide)).trans (congrArg some k_879)) dX9_kinds_162 ?_
                        refine lv_if_ne (tgt := 212) hx hb dX9_kinds_165 (by decide) (fun c_894 => ?_) (fun c_894 => absurd c_894 k_859)
                        refine lv_aload_n hx hb dX9_kinds_212 rfl (lv_at hl 0 rfl) ?_
                        refine va_get (D := (dC, dI)) (ci := 11) (v := .int b1_858) (C := RX9) (T := TX9) (N := 60) hx hb hts iRX9 hown hK hP 5 rfl rfl 13 (by decide) (hts (.fieldLink RX9 135 "RecordBenchModel" "bad" "I") (by decide +kernel)) (fun _ h9 => h9) ((mo_get g1_876 (by decide)).trans (congrArg some k_879)) dX9_kinds_213 ?_
                        refine lv_if_ne (tgt := 225) hx hb dX9_kinds_216 (by decide) (fun c_895 => ?_) (fun c_895 => absurd c_895 k_859)
                        have hP9 := hP.sub (ws' := [(h0, .inr (11, mo g1_876)), (a9, .inl (cT, 400, .inl f)), (a0, .inl (cZ, 8, .inl tl)), (a2, .inl (cG, 248, .inl f_721)), (a3, .inl (cI, 248, .inl f_524)), (a6, .inl (cP, 248, .inr (.inl f_3))), (a7, .inl (cX, 2976, .inl fX))]) [5, 6, 0, 1, 2, 3, 4] rfl
                        have hD9 := hD.sub (ws' := [(h0, .inr (11, mo g1_876)), (a9, .inl (cT, 400, .inl f)), (a0, .inl (cZ, 8, .inl tl)), (a2, .inl (cG, 248, .inl f_721)), (a3, .inl (cI, 248, .inl f_524)), (a6, .inl (cP, 248, .inr (.inl f_3))), (a7, .inl (cX, 2976, .inl fX))]) [5, 6, 0, 1, 2, 3, 4] (by decide) rfl
                        have hK9 := hK.sub (tys' := []) [] rfl
                        exact W.vret hx hb hr (fun t ht hW => ⟨⟨(g1_876, (tsk f n (twe f n (tsk f n (tsk f n j + 1))) + 1), b1_858, (nI (tsk f n (twe f n (tsk f n (tsk f n j + 1))) + 1)), (tsk f n (twe f n (tsk f n (tsk f n j + 1))) + 1), f_524, f_721, f_3, fX, 0, 0, 0), rfl, ⟨Or.inr ⟨by simp only [kAll, hR, hI, Option.bind_some, Option.bind_none], k_859⟩, (fun x hx => frf_524 x hx), (fun x hx => frf_721 x hx), (fun x hx => frf_3 x hx), (fun _ _ => rfl), w_881, k_879, w_883, (fun j h11 h13 h14 h17 h18 => un_892 j h11 h13 h14 h17 h18)⟩, by rw [ht]; exact hP9, va_K.moved hW.alike hK9, hD9⟩, hS.F ht⟩) hS.2.2 dX9_kinds_225
                      · have hI : kIn f n iw (tsk f n j + 1) (nI (tsk f n j + 1)) = none := by unfold kIn; rw [pif_pos ((lg_cmp_eq _ _).mp c_612), pif_neg (show ¬ cIn f n (tsk f n (tsk f n j + 1)) (nI (tsk f n j + 1)) from fun h => c_767 h.2.2.1.2)]
                        refine lv_aload_n hx hb dX9_kinds_161 rfl (lv_at hl 0 rfl) ?_
                        refine va_get (D := (dC, dI)) (ci := 11) (v := .int b1_877) (C := RX9) (T := TX9) (N := 60) hx hb hts iRX9 hown hK hP 5 rfl rfl 13 (by decide) (hts (.fieldLink RX9 135 "RecordBenchModel" "bad" "I") (by decide +kernel)) (fun _ h9 => h9) ((mo_get g1_876 (by decide)).trans (congrArg some k_879)) dX9_kinds_162 ?_
                        refine lv_if_ne (tgt := 212) hx hb dX9_kinds_165 (by decide) (fun c_896 => ?_) (fun c_896 => absurd c_896 hcy_893)
                        refine lv_aload_n hx hb dX9_kinds_212 rfl (lv_at hl 0 rfl) ?_
                        refine va_get (D := (dC, dI)) (ci := 11) (v := .int b1_877) (C := RX9) (T := TX9) (N := 60) hx hb hts iRX9 hown hK hP 5 rfl rfl 13 (by decide) (hts (.fieldLink RX9 135 "RecordBenchModel" "bad" "I") (by decide +kernel)) (fun _ h9 => h9) ((mo_get g1_876 (by decide)).trans (congrArg some k_879)) dX9_kinds_213 ?_
                        refine lv_if_ne (tgt := 225) hx hb dX9_kinds_216 (by decide) (fun c_897 => ?_) (fun c_897 => absurd c_897 hcy_893)
                        have hP9 := hP.sub (ws' := [(h0, .inr (11, mo g1_876)), (a9, .inl (cT, 400, .inl f)), (a0, .inl (cZ, 8, .inl tl)), (a2, .inl (cG, 248, .inl f_721)), (a3, .inl (cI, 248, .inl f_524)), (a6, .inl (cP, 248, .inr (.inl f_3))), (a7, .inl (cX, 2976, .inl fX))]) [5, 6, 0, 1, 2, 3, 4] rfl
                        have hD9 := hD.sub (ws' := [(h0, .inr (11, mo g1_876)), (a9, .inl (cT, 400, .inl f)), (a0, .inl (cZ, 8, .inl tl)), (a2, .inl (cG, 248, .inl f_721)), (a3, .inl (cI, 248, .inl f_524)), (a6, .inl (cP, 248, .inr (.inl f_3))), (a7, .inl (cX, 2976, .inl fX))]) [5, 6, 0, 1, 2, 3, 4] (by decide) rfl
                        have hK9 := hK.sub (tys' := []) [] rfl
                        exact W.vret hx hb hr (fun t ht hW => ⟨⟨(g1_876, (tsk f n (twe f n (tsk f n (tsk f n j + 1))) + 1), b1_877, (nI (tsk f n (twe f n (tsk f n (tsk f n j + 1))) + 1)), (tsk f n (twe f n (tsk f n (tsk f n j + 1))) + 1), f_524, f_721, f_3, fX, 0, 0, 0), rfl, ⟨Or.inr ⟨by simp only [kAll, hR, hI, Option.bind_some, Option.bind_none], hcy_893⟩, (fun x hx => frf_524 x hx), (fun x hx => frf_721 x hx), (fun x hx => frf_3 x hx), (fun _ _ => rfl), w_881, k_879, w_883, (fun j h11 h13 h14 h17 h18 => un_892 j h11 h13 h14 h17 h18)⟩, by rw [ht]; exact hP9, va_K.moved hW.alike hK9, hD9⟩, hS.F ht⟩) hS.2.2 dX9_kinds_225
                · refine W.eq (g2 := F0 m 120 ls [.int 0, .int (nI F), .ref a2]) rfl ?_
                  refine va_iast hx hb hK hP hD hS 1 2 rfl rfl (vp_in_nI hF (by decide)) dX9_kinds_120 (fun H locs hP hD hS => ?_)
                  rw [hcF] at hP hD
                  obtain ⟨f_898, ef_898⟩ : ∃ y : Nat → Int32, y = upd f_2 F 0 := ⟨_, rfl⟩
                  have hP : va_P (dC, dI) vwCl [(a0, .inl (cZ, 8, .inl tl)), (a2, .inl (cG, 248, .inl f_898)), (a3, .inl (cI, 248, .inl f_524)), (a6, .inl (cP, 248, .inr (.inl f_3))), (a7, .inl (cX, 2976, .inl fX)), (h0, .inr (11, mo g1_701)), (a9, .inl (cT, 400, .inl f))] H := by rw [ef_898]; exact hP
                  have hD : va_D A [(a0, .inl (cZ, 8, .inl tl)), (a2, .inl (cG, 248, .inl f_898)), (a3, .inl (cI, 248, .inl f_524)), (a6, .inl (cP, 248, .inr (.inl f_3))), (a7, .inl (cX, 2976, .inl fX)), (h0, .inr (11, mo g1_701)), (a9, .inl (cT, 400, .inl f))] := by rw [ef_898]; exact hD
                  have vf_898 : f_898 F = 0 := by rw [ef_898, pk_us]
                  have frf_898 : ∀ x : Nat, x ≠ F → f_898 x = fG x := fun x hx => by rw [ef_898, pk_un hx]; exact frf_2 x hx
                  refine lv_aload_n hx hb dX9_kinds_121 rfl (lv_at hl 0 rfl) ?_
                  refine va_get (D := (dC, dI)) (ci := 11) (v := .int b1_703) (C := RX9) (T := TX9) (N := 60) hx hb hts iRX9 hown hK hP 5 rfl rfl 13 (by decide) (hts (.fieldLink RX9 135 "RecordBenchModel" "bad" "I") (by decide +kernel)) (fun _ h9 => h9) ((mo_get g1_701 (by decide)).trans (congrArg some k_707)) dX9_kinds_122 ?_
                  refine lv_if_ne (tgt := 157) hx hb dX9_kinds_125 (by decide) (fun c_899 => ?_) (fun c_899 => absurd c_899 hcy_720)
                  refine lv_aload_n hx hb dX9_kinds_157 rfl (lv_at hl 0 rfl) ?_
                  have hFc := va_free (wc := [(h0, .inr (11, mo g1_701)), (a9, .inl (cT, 400, .inl f))]) hD hS hA [5, 6] rfl
                  refine va_callv (va_runV (As := []) (rest := []) ⟨hx, hb, hml, hown, hts⟩ (c_X9_ends l dC dI h0 g1_701 a9 cT f (tsk f n (twe f n (tsk f n (tsk f n j + 1)))) n b1_703 w_716 k_706 w_717 k_707 (by omega) (by omega) H.size) (cwV 0 hts gp_X9_kinds_X9_ends_206 rfl rfl rfl (by decide +kernel) ⟨Nat.le_of_ble_eq_true rfl, Nat.le_of_ble_eq_true rfl⟩) ⟨Pr.blind _, va_recv hK hP (ci := 11) (q0 := 5) rfl rfl, fun U hU hW => ⟨rfl, Pr.at (hP.sub (ws' := [(h0, .inr (11, mo g1_701)), (a9, .inl (cT, 400, .inl f))]) [5, 6] rfl) (hK.sub (tys' := [(cT, .int)]) [0] rfl) (hD.sub (ws' := [(h0, .inr (11, mo g1_701)), (a9, .inl (cT, 400, .inl f))]) [5, 6] (by decide) rfl) hN hZ RO.nil hS hFc hU hW⟩⟩ rfl rfl hl.1 rfl (lv_room (Nat.le_of_ble_eq_true rfl)) dX9_kinds_158 ⟨Nat.le_of_ble_eq_true rfl, Nat.le_of_ble_eq_true rfl⟩) hS (fun q _ h => hFc q h) hFc (fun u t H1 locs ht hvm hw_901 hB hz1 hk1 hS => ?_)
                  obtain ⟨g1_902, b1_903⟩ := u
                  obtain ⟨hP, hD, hK⟩ := Bq.join (wr := [(a0, .inl (cZ, 8, .inl tl)), (a2, .inl (cG, 248, .inl f_898)), (a3, .inl (cI, 248, .inl f_524)), (a6, .inl (cP, 248, .inr (.inl f_3))), (a7, .inl (cX, 2976, .inl fX))]) hB ht hvm hP hD [5, 6] [0, 1, 2, 3, 4] rfl rfl (by decide) (by decide) hk1 hFc hK
                  generalize H1 = H at hP hS ⊢
                  have hP : va_P (dC, dI) vwCl [(a0, .inl (cZ, 8, .inl tl)), (a2, .inl (cG, 248, .inl f_898)), (a3, .inl (cI, 248, .inl f_524)), (a6, .inl (cP, 248, .inr (.inl f_3))), (a7, .inl (cX, 2976, .inl fX)), (h0, .inr (11, mo g1_902)), (a9, .inl (cT, 400, .inl f))] H := hP
                  have hD : va_D A [(a0, .inl (cZ, 8, .inl tl)), (a2, .inl (cG, 248, .inl f_898)), (a3, .inl (cI, 248, .inl f_524)), (a6, .inl (cP, 248, .inr (.inl f_3))), (a7, .inl (cX, 2976, .inl fX)), (h0, .inr (11, mo g1_902)), (a9, .inl (cT, 400, .inl f))] := hD
                  have hK : va_K (dC, dI) vwCl [(cT, .int), (cZ, .boolean), (cG, .int), (cI, .int), (cP, .long), (cX, .int)] s := hK
                  try dsimp only at hw_901
                  obtain ⟨k_904, k_905, k_906⟩ := hw_901
                  have w_907 : g1_902 11 = .int (nI (tsk f n (twe f n (tsk f n (tsk f n j + 1))))) := (k_906 11 (by decide) (by decide)).trans k_706
                  have w_908 : g1_902 17 = .int (nI (tsk f n (twe f n (tsk f n (tsk f n j + 1))))) := (k_906 17 (by decide) (by decide)).trans k_708
                  have w_909 : g1_902 18 = .int (nI (twe f n (tsk f n (tsk f n j + 1)))) := (k_906 18 (by decide) (by decide)).trans k_709
                  have w_910 : g1_902 0 = .ref a0 := (k_906 0 (by decide) (by decide)).trans w_711
                  have w_911 : g1_902 2 = .ref a2 := (k_906 2 (by decide) (by decide)).trans w_712
                  have w_912 : g1_902 3 = .ref a3 := (k_906 3 (by decide) (by decide)).trans w_713
                  have w_913 : g1_902 6 = .ref a6 := (k_906 6 (by decide) (by decide)).trans w_714
                  have w_914 : g1_902 7 = .ref a7 := (k_906 7 (by decide) (by decide)).trans w_715
                  have w_915 : g1_902 9 = .ref a9 := (k_906 9 (by decide) (by decide)).trans w_716
                  have w_916 : g1_902 12 = .int (nI n) := (k_906 12 (by decide) (by decide)).trans w_717
                  have w_917 : g1_902 26 = .long iw := (k_906 26 (by decide) (by decide)).trans w_718
                  have un_918 : ∀ j : Nat, j ≠ 11 → j ≠ 13 → j ≠ 14 → j ≠ 17 → j ≠ 18 → g1_902 j = g j := fun j h11 h13 h14 h17 h18 => (k_906 j h13 h14).trans (un_719 j h11 h13 h14 h17 h18)
                  have := tsk_ge f n (tsk f n (twe f n (tsk f n (tsk f n j + 1))))
                  have := tsk_le (f := f) (n := n) (j := tsk f n (twe f n (tsk f n (tsk f n j + 1)))) (by omega)
                  have := twe_ge f n (tsk f n (tsk f n (twe f n (tsk f n (tsk f n j + 1)))))
                  have := twe_le (f := f) (n := n) (j := tsk f n (tsk f n (twe f n (tsk f n (tsk f n j + 1))))) (by omega)
                  have := twe_ge f n (tsk f n (twe f n (tsk f n (tsk f n j + 1))))
                  have := twe_le (f := f) (n := n) (j := tsk f n (twe f n (tsk f n (tsk f n j + 1)))) (by omega)
                  rcases k_904 with ⟨hay_919, rfl⟩ | ⟨hay_919, hcy_919⟩
                  · have hI : kIn f n iw (tsk f n j + 1) (nI (tsk f n j + 1)) = none := by unfold kIn; rw [pif_pos ((lg_cmp_eq _ _).mp c_612), pif_neg (show ¬ cIn f n (tsk f n (tsk f n j + 1)) (nI (tsk f n j + 1)) from fun h => hay_720 h.2.1)]
                    refine lv_aload_n hx hb dX9_kinds_161 rfl (lv_at hl 0 rfl) ?_
                    refine va_get (D := (dC, dI)) (ci := 11) (v := .int b1_703) (C := RX9) (T := TX9) (N := 60) hx hb hts iRX9 hown hK hP 5 rfl rfl 13 (by decide) (hts (.fieldLink RX9 135 "RecordBenchModel" "bad" "I") (by decide +kernel)) (fun _ h9 => h9) ((mo_get g1_902 (by decide)).trans (congrArg some k_905)) dX9_kinds_162 ?_
                    refine lv_if_ne (tgt := 212) hx hb dX9_kinds_165 (by decide) (fun c_920 => ?_) (fun c_920 => absurd c_920 hcy_720)
                    refine lv_aload_n hx hb dX9_kinds_212 rfl (lv_at hl 0 rfl) ?_
                    refine va_get (D := (dC, dI)) (ci := 11) (v := .int b1_703) (C := RX9) (T := TX9) (N := 60) hx hb hts iRX9 hown hK hP 5 rfl rfl 13 (by decide) (hts (.fieldLink RX9 135 "RecordBenchModel" "bad" "I") (by decide +kernel)) (fun _ h9 => h9) ((mo_get g1_902 (by decide)).trans (congrArg some k_905)) dX9_kinds_213 ?_
                    refine lv_if_ne (tgt := 225) hx hb dX9_kinds_216 (by decide) (fun c_921 => ?_) (fun c_921 => absurd c_921 hcy_720)
                    have hP9 := hP.sub (ws' := [(h0, .inr (11, mo g1_902)), (a9, .inl (cT, 400, .inl f)), (a0, .inl (cZ, 8, .inl tl)), (a2, .inl (cG, 248, .inl f_898)), (a3, .inl (cI, 248, .inl f_524)), (a6, .inl (cP, 248, .inr (.inl f_3))), (a7, .inl (cX, 2976, .inl fX))]) [5, 6, 0, 1, 2, 3, 4] rfl
                    have hD9 := hD.sub (ws' := [(h0, .inr (11, mo g1_902)), (a9, .inl (cT, 400, .inl f)), (a0, .inl (cZ, 8, .inl tl)), (a2, .inl (cG, 248, .inl f_898)), (a3, .inl (cI, 248, .inl f_524)), (a6, .inl (cP, 248, .inr (.inl f_3))), (a7, .inl (cX, 2976, .inl fX))]) [5, 6, 0, 1, 2, 3, 4] (by decide) rfl
                    have hK9 := hK.sub (tys' := []) [] rfl
                    exact W.vret hx hb hr (fun t ht hW => ⟨⟨(g1_902, (tsk f n (twe f n (tsk f n (tsk f n j + 1)))), b1_703, (nI (twe f n (tsk f n (tsk f n j + 1)))), (twe f n (tsk f n (tsk f n j + 1))), f_524, f_898, f_3, fX, 0, 0, 0), rfl, ⟨Or.inr ⟨by simp only [kAll, hR, hI, Option.bind_some, Option.bind_none], hcy_720⟩, (fun x hx => frf_524 x hx), (fun x hx => frf_898 x hx), (fun x hx => frf_3 x hx), (fun _ _ => rfl), w_907, k_905, w_909, (fun j h11 h13 h14 h17 h18 => un_918 j h11 h13 h14 h17 h18)⟩, by rw [ht]; exact hP9, va_K.moved hW.alike hK9, hD9⟩, hS.F ht⟩) hS.2.2 dX9_kinds_225
                  · have hI : kIn f n iw (tsk f n j + 1) (nI (tsk f n j + 1)) = none := by unfold kIn; rw [pif_pos ((lg_cmp_eq _ _).mp c_612), pif_neg (show ¬ cIn f n (tsk f n (tsk f n j + 1)) (nI (tsk f n j + 1)) from fun h => hay_720 h.2.1)]
                    refine lv_aload_n hx hb dX9_kinds_161 rfl (lv_at hl 0 rfl) ?_
                    refine va_get (D := (dC, dI)) (ci := 11) (v := .int b1_903) (C := RX9) (T := TX9) (N := 60) hx hb hts iRX9 hown hK hP 5 rfl rfl 13 (by decide) (hts (.fieldLink RX9 135 "RecordBenchModel" "bad" "I") (by decide +kernel)) (fun _ h9 => h9) ((mo_get g1_902 (by decide)).trans (congrArg some k_905)) dX9_kinds_162 ?_
                    refine lv_if_ne (tgt := 212) hx hb dX9_kinds_165 (by decide) (fun c_922 => ?_) (fun c_922 => absurd c_922 hcy_919)
                    refine lv_aload_n hx hb dX9_kinds_212 rfl (lv_at hl 0 rfl) ?_
                    refine va_get (D := (dC, dI)) (ci := 11) (v := .int b1_903) (C := RX9) (T := TX9) (N := 60) hx hb hts iRX9 hown hK hP 5 rfl rfl 13 (by decide) (hts (.fieldLink RX9 135 "RecordBenchModel" "bad" "I") (by decide +kernel)) (fun _ h9 => h9) ((mo_get g1_902 (by decide)).trans (congrArg some k_905)) dX9_kinds_213 ?_
                    refine lv_if_ne (tgt := 225) hx hb dX9_kinds_216 (by decide) (fun c_923 => ?_) (fun c_923 => absurd c_923 hcy_919)
                    have hP9 := hP.sub (ws' := [(h0, .inr (11, mo g1_902)), (a9, .inl (cT, 400, .inl f)), (a0, .inl (cZ, 8, .inl tl)), (a2, .inl (cG, 248, .inl f_898)), (a3, .inl (cI, 248, .inl f_524)), (a6, .inl (cP, 248, .inr (.inl f_3))), (a7, .inl (cX, 2976, .inl fX))]) [5, 6, 0, 1, 2, 3, 4] rfl
                    have hD9 := hD.sub (ws' := [(h0, .inr (11, mo g1_902)), (a9, .inl (cT, 400, .inl f)), (a0, .inl (cZ, 8, .inl tl)), (a2, .inl (cG, 248, .inl f_898)), (a3, .inl (cI, 248, .inl f_524)), (a6, .inl (cP, 248, .inr (.inl f_3))), (a7, .inl (cX, 2976, .inl fX))]) [5, 6, 0, 1, 2, 3, 4] (by decide) rfl
                    have hK9 := hK.sub (tys' := []) [] rfl
                    exact W.vret hx hb hr (fun t ht hW => ⟨⟨(g1_902, (tsk f n (twe f n (tsk f n (tsk f n j + 1)))), b1_903, (nI (twe f n (tsk f n (tsk f n j + 1)))), (twe f n (tsk f n (tsk f n j + 1))), f_524, f_898, f_3, fX, 0, 0, 0), rfl, ⟨Or.inr ⟨by simp only [kAll, hR, hI, Option.bind_some, Option.bind_none], hcy_919⟩, (fun x hx => frf_524 x hx), (fun x hx => frf_898 x hx), (fun x hx => frf_3 x hx), (fun _ _ => rfl), w_907, k_905, w_909, (fun j h11 h13 h14 h17 h18 => un_918 j h11 h13 h14 h17 h18)⟩, by rw [ht]; exact hP9, va_K.moved hW.alike hK9, hD9⟩, hS.F ht⟩) hS.2.2 dX9_kinds_225
              · refine lv_aload_n hx hb dX9_kinds_104 rfl (lv_at hl 0 rfl) ?_
                refine va_get (D := (dC, dI)) (ci := 11) (v := .int b1_681) (C := RX9) (T := TX9) (N := 60) hx hb hts iRX9 hown hK hP 5 rfl rfl 13 (by decide) (hts (.fieldLink RX9 135 "RecordBenchModel" "bad" "I") (by decide +kernel)) (fun _ h9 => h9) ((mo_get g1_680 (by decide)).trans (congrArg some k_684)) dX9_kinds_105 ?_
                refine lv_if_ne (tgt := 121) hx hb dX9_kinds_108 (by decide) (fun c_924 => ?_) (fun c_924 => absurd c_924 hcy_697)
                refine lv_aload_n hx hb dX9_kinds_121 rfl (lv_at hl 0 rfl) ?_
                refine va_get (D := (dC, dI)) (ci := 11) (v := .int b1_681) (C := RX9) (T := TX9) (N := 60) hx hb hts iRX9 hown hK hP 5 rfl rfl 13 (by decide) (hts (.fieldLink RX9 135 "RecordBenchModel" "bad" "I") (by decide +kernel)) (fun _ h9 => h9) ((mo_get g1_680 (by decide)).trans (congrArg some k_684)) dX9_kinds_122 ?_
                refine lv_if_ne (tgt := 157) hx hb dX9_kinds_125 (by decide) (fun c_925 => ?_) (fun c_925 => absurd c_925 hcy_697)
                refine lv_aload_n hx hb dX9_kinds_157 rfl (lv_at hl 0 rfl) ?_
                have hFc := va_free (wc := [(h0, .inr (11, mo g1_680)), (a9, .inl (cT, 400, .inl f))]) hD hS hA [5, 6] rfl
                refine va_callv (va_runV (As := []) (rest := []) ⟨hx, hb, hml, hown, hts⟩ (c_X9_ends l dC dI h0 g1_680 a9 cT f (twe f n (tsk f n (tsk f n j + 1))) n b1_681 w_693 k_683 w_694 k_684 (by omega) (by omega) H.size) (cwV 0 hts gp_X9_kinds_X9_ends_206 rfl rfl rfl (by decide +kernel) ⟨Nat.le_of_ble_eq_true rfl, Nat.le_of_ble_eq_true rfl⟩) ⟨Pr.blind _, va_recv hK hP (ci := 11) (q0 := 5) rfl rfl, fun U hU hW => ⟨rfl, Pr.at (hP.sub (ws' := [(h0, .inr (11, mo g1_680)), (a9, .inl (cT, 400, .inl f))]) [5, 6] rfl) (hK.sub (tys' := [(cT, .int)]) [0] rfl) (hD.sub (ws' := [(h0, .inr (11, mo g1_680)), (a9, .inl (cT, 400, .inl f))]) [5, 6] (by decide) rfl) hN hZ RO.nil hS hFc hU hW⟩⟩ rfl rfl hl.1 rfl (lv_room (Nat.le_of_ble_eq_true rfl)) dX9_kinds_158 ⟨Nat.le_of_ble_eq_true rfl, Nat.le_of_ble_eq_true rfl⟩) hS (fun q _ h => hFc q h) hFc (fun u t H1 locs ht hvm hw_927 hB hz1 hk1 hS => ?_)
                obtain ⟨g1_928, b1_929⟩ := u
                obtain ⟨hP, hD, hK⟩ := Bq.join (wr := [(a0, .inl (cZ, 8, .inl tl)), (a2, .inl (cG, 248, .inl f_2)), (a3, .inl (cI, 248, .inl f_524)), (a6, .inl (cP, 248, .inr (.inl f_3))), (a7, .inl (cX, 2976, .inl fX))]) hB ht hvm hP hD [5, 6] [0, 1, 2, 3, 4] rfl rfl (by decide) (by decide) hk1 hFc hK
                generalize H1 = H at hP hS ⊢
                have hP : va_P (dC, dI) vwCl [(a0, .inl (cZ, 8, .inl tl)), (a2, .inl (cG, 248, .inl f_2)), (a3, .inl (cI, 248, .inl f_524)), (a6, .inl (cP, 248, .inr (.inl f_3))), (a7, .inl (cX, 2976, .inl fX)), (h0, .inr (11, mo g1_928)), (a9, .inl (cT, 400, .inl f))] H := hP
                have hD : va_D A [(a0, .inl (cZ, 8, .inl tl)), (a2, .inl (cG, 248, .inl f_2)), (a3, .inl (cI, 248, .inl f_524)), (a6, .inl (cP, 248, .inr (.inl f_3))), (a7, .inl (cX, 2976, .inl fX)), (h0, .inr (11, mo g1_928)), (a9, .inl (cT, 400, .inl f))] := hD
                have hK : va_K (dC, dI) vwCl [(cT, .int), (cZ, .boolean), (cG, .int), (cI, .int), (cP, .long), (cX, .int)] s := hK
                try dsimp only at hw_927
                obtain ⟨k_930, k_931, k_932⟩ := hw_927
                have w_933 : g1_928 11 = .int (nI (twe f n (tsk f n (tsk f n j + 1)))) := (k_932 11 (by decide) (by decide)).trans k_683
                have w_934 : g1_928 18 = .int (nI (twe f n (tsk f n (tsk f n j + 1)))) := (k_932 18 (by decide) (by decide)).trans k_685
                have w_935 : g1_928 17 = .int (nI (tsk f n (tsk f n j + 1))) := (k_932 17 (by decide) (by decide)).trans w_687
                have w_936 : g1_928 0 = .ref a0 := (k_932 0 (by decide) (by decide)).trans w_688
                have w_937 : g1_928 2 = .ref a2 := (k_932 2 (by decide) (by decide)).trans w_689
                have w_938 : g1_928 3 = .ref a3 := (k_932 3 (by decide) (by decide)).trans w_690
                have w_939 : g1_928 6 = .ref a6 := (k_932 6 (by decide) (by decide)).trans w_691
                have w_940 : g1_928 7 = .ref a7 := (k_932 7 (by decide) (by decide)).trans w_692
                have w_941 : g1_928 9 = .ref a9 := (k_932 9 (by decide) (by decide)).trans w_693
                have w_942 : g1_928 12 = .int (nI n) := (k_932 12 (by decide) (by decide)).trans w_694
                have w_943 : g1_928 26 = .long iw := (k_932 26 (by decide) (by decide)).trans w_695
                have un_944 : ∀ j : Nat, j ≠ 11 → j ≠ 13 → j ≠ 14 → j ≠ 17 → j ≠ 18 → g1_928 j = g j := fun j h11 h13 h14 h17 h18 => (k_932 j h13 h14).trans (un_696 j h11 h13 h14 h17 h18)
                have := tsk_ge f n (twe f n (tsk f n (tsk f n j + 1)))
                have := tsk_le (f := f) (n := n) (j := twe f n (tsk f n (tsk f n j + 1))) (by omega)
                have := twe_ge f n (tsk f n (twe f n (tsk f n (tsk f n j + 1))))
                have := twe_le (f := f) (n := n) (j := tsk f n (twe f n (tsk f n (tsk f n j + 1)))) (by omega)
                have := twe_ge f n (twe f n (tsk f n (tsk f n j + 1)))
                have := twe_le (f := f) (n := n) (j := twe f n (tsk f n (tsk f n j + 1))) (by omega)
                rcases k_930 with ⟨hay_945, rfl⟩ | ⟨hay_945, hcy_945⟩
                · have hI : kIn f n iw (tsk f n j + 1) (nI (tsk f n j + 1)) = none := by unfold kIn; rw [pif_pos ((lg_cmp_eq _ _).mp c_612), pif_neg (show ¬ cIn f n (tsk f n (tsk f n j + 1)) (nI (tsk f n j + 1)) from fun h => h.1 hay_697)]
                  refine lv_aload_n hx hb dX9_kinds_161 rfl (lv_at hl 0 rfl) ?_
                  refine va_get (D := (dC, dI)) (ci := 11) (v := .int b1_681) (C := RX9) (T := TX9) (N := 60) hx hb hts iRX9 hown hK hP 5 rfl rfl 13 (by decide) (hts (.fieldLink RX9 135 "RecordBenchModel" "bad" "I") (by decide +kernel)) (fun _ h9 => h9) ((mo_get g1_928 (by decide)).trans (congrArg some k_931)) dX9_kinds_162 ?_
                  refine lv_if_ne (tgt := 212) hx hb dX9_kinds_165 (by decide) (fun c_946 => ?_) (fun c_946 => absurd c_946 hcy_697)
                  refine lv_aload_n hx hb dX9_kinds_212 rfl (lv_at hl 0 rfl) ?_
                  refine va_get (D := (dC, dI)) (ci := 11) (v := .int b1_681) (C := RX9) (T := TX9) (N := 60) hx hb hts iRX9 hown hK hP 5 rfl rfl 13 (by decide) (hts (.fieldLink RX9 135 "RecordBenchModel" "bad" "I") (by decide +kernel)) (fun _ h9 => h9) ((mo_get g1_928 (by decide)).trans (congrArg some k_931)) dX9_kinds_213 ?_
                  refine lv_if_ne (tgt := 225) hx hb dX9_kinds_216 (by decide) (fun c_947 => ?_) (fun c_947 => absurd c_947 hcy_697)
                  have hP9 := hP.sub (ws' := [(h0, .inr (11, mo g1_928)), (a9, .inl (cT, 400, .inl f)), (a0, .inl (cZ, 8, .inl tl)), (a2, .inl (cG, 248, .inl f_2)), (a3, .inl (cI, 248, .inl f_524)), (a6, .inl (cP, 248, .inr (.inl f_3))), (a7, .inl (cX, 2976, .inl fX))]) [5, 6, 0, 1, 2, 3, 4] rfl
                  have hD9 := hD.sub (ws' := [(h0, .inr (11, mo g1_928)), (a9, .inl (cT, 400, .inl f)), (a0, .inl (cZ, 8, .inl tl)), (a2, .inl (cG, 248, .inl f_2)), (a3, .inl (cI, 248, .inl f_524)), (a6, .inl (cP, 248, .inr (.inl f_3))), (a7, .inl (cX, 2976, .inl fX))]) [5, 6, 0, 1, 2, 3, 4] (by decide) rfl
                  have hK9 := hK.sub (tys' := []) [] rfl
                  exact W.vret hx hb hr (fun t ht hW => ⟨⟨(g1_928, (twe f n (tsk f n (tsk f n j + 1))), b1_681, (nI (twe f n (tsk f n (tsk f n j + 1)))), (twe f n (tsk f n (tsk f n j + 1))), f_524, f_2, f_3, fX, 0, 0, 0), rfl, ⟨Or.inr ⟨by simp only [kAll, hR, hI, Option.bind_some, Option.bind_none], hcy_697⟩, (fun x hx => frf_524 x hx), (fun x hx => frf_2 x hx), (fun x hx => frf_3 x hx), (fun _ _ => rfl), w_933, k_931, w_934, (fun j h11 h13 h14 h17 h18 => un_944 j h11 h13 h14 h17 h18)⟩, by rw [ht]; exact hP9, va_K.moved hW.alike hK9, hD9⟩, hS.F ht⟩) hS.2.2 dX9_kinds_225
                · have hI : kIn f n iw (tsk f n j + 1) (nI (tsk f n j + 1)) = none := by unfold kIn; rw [pif_pos ((lg_cmp_eq _ _).mp c_612), pif_neg (show ¬ cIn f n (tsk f n (tsk f n j + 1)) (nI (tsk f n j + 1)) from fun h => h.1 hay_697)]
                  refine lv_aload_n hx hb dX9_kinds_161 rfl (lv_at hl 0 rfl) ?_
                  refine va_get (D := (dC, dI)) (ci := 11) (v := .int b1_929) (C := RX9) (T := TX9) (N := 60) hx hb hts iRX9 hown hK hP 5 rfl rfl 13 (by decide) (hts (.fieldLink RX9 135 "RecordBenchModel" "bad" "I") (by decide +kernel)) (fun _ h9 => h9) ((mo_get g1_928 (by decide)).trans (congrArg some k_931)) dX9_kinds_162 ?_
                  refine lv_if_ne (tgt := 212) hx hb dX9_kinds_165 (by decide) (fun c_948 => ?_) (fun c_948 => absurd c_948 hcy_945)
                  refine lv_aload_n hx hb dX9_kinds_212 rfl (lv_at hl 0 rfl) ?_
                  refine va_get (D := (dC, dI)) (ci := 11) (v := .int b1_929) (C := RX9) (T := TX9) (N := 60) hx hb hts iRX9 hown hK hP 5 rfl rfl 13 (by decide) (hts (.fieldLink RX9 135 "RecordBenchModel" "bad" "I") (by decide +kernel)) (fun _ h9 => h9) ((mo_get g1_928 (by decide)).trans (congrArg some k_931)) dX9_kinds_213 ?_
                  refine lv_if_ne (tgt := 225) hx hb dX9_kinds_216 (by decide) (fun c_949 => ?_) (fun c_949 => absurd c_949 hcy_945)
                  have hP9 := hP.sub (ws' := [(h0, .inr (11, mo g1_928)), (a9, .inl (cT, 400, .inl f)), (a0, .inl (cZ, 8, .inl tl)), (a2, .inl (cG, 248, .inl f_2)), (a3, .inl (cI, 248, .inl f_524)), (a6, .inl (cP, 248, .inr (.inl f_3))), (a7, .inl (cX, 2976, .inl fX))]) [5, 6, 0, 1, 2, 3, 4] rfl
                  have hD9 := hD.sub (ws' := [(h0, .inr (11, mo g1_928)), (a9, .inl (cT, 400, .inl f)), (a0, .inl (cZ, 8, .inl tl)), (a2, .inl (cG, 248, .inl f_2)), (a3, .inl (cI, 248, .inl f_524)), (a6, .inl (cP, 248, .inr (.inl f_3))), (a7, .inl (cX, 2976, .inl fX))]) [5, 6, 0, 1, 2, 3, 4] (by decide) rfl
                  have hK9 := hK.sub (tys' := []) [] rfl
                  exact W.vret hx hb hr (fun t ht hW => ⟨⟨(g1_928, (twe f n (tsk f n (tsk f n j + 1))), b1_929, (nI (twe f n (tsk f n (tsk f n j + 1)))), (twe f n (tsk f n (tsk f n j + 1))), f_524, f_2, f_3, fX, 0, 0, 0), rfl, ⟨Or.inr ⟨by simp only [kAll, hR, hI, Option.bind_some, Option.bind_none], hcy_945⟩, (fun x hx => frf_524 x hx), (fun x hx => frf_2 x hx), (fun x hx => frf_3 x hx), (fun _ _ => rfl), w_933, k_931, w_934, (fun j h11 h13 h14 h17 h18 => un_944 j h11 h13 h14 h17 h18)⟩, by rw [ht]; exact hP9, va_K.moved hW.alike hK9, hD9⟩, hS.F ht⟩) hS.2.2 dX9_kinds_225
          · have hR : kRec f n tl p0 p2 j (nI e0) = none := by unfold kRec; rw [pif_pos c_4, pif_neg (show ¬ cRec f n tl p0 j (nI e0) from fun h => h.2.2 hay_592)]
            refine lv_aload_n hx hb dX9_kinds_81 rfl (lv_at hl 0 rfl) ?_
            refine va_get (D := (dC, dI)) (ci := 11) (v := .int b1_576) (C := RX9) (T := TX9) (N := 60) hx hb hts iRX9 hown hK hP 5 rfl rfl 13 (by decide) (hts (.fieldLink RX9 135 "RecordBenchModel" "bad" "I") (by decide +kernel)) (fun _ h9 => h9) ((mo_get g1_575 (by decide)).trans (congrArg some k_578)) dX9_kinds_82 ?_
            refine lv_if_ne (tgt := 161) hx hb dX9_kinds_85 (by decide) (fun c_950 => ?_) (fun c_950 => absurd c_950 hcy_592)
            refine lv_aload_n hx hb dX9_kinds_161 rfl (lv_at hl 0 rfl) ?_
            refine va_get (D := (dC, dI)) (ci := 11) (v := .int b1_576) (C := RX9) (T := TX9) (N := 60) hx hb hts iRX9 hown hK hP 5 rfl rfl 13 (by decide) (hts (.fieldLink RX9 135 "RecordBenchModel" "bad" "I") (by decide +kernel)) (fun _ h9 => h9) ((mo_get g1_575 (by decide)).trans (congrArg some k_578)) dX9_kinds_162 ?_
            refine lv_if_ne (tgt := 212) hx hb dX9_kinds_165 (by decide) (fun c_951 => ?_) (fun c_951 => absurd c_951 hcy_592)
            refine lv_aload_n hx hb dX9_kinds_212 rfl (lv_at hl 0 rfl) ?_
            refine va_get (D := (dC, dI)) (ci := 11) (v := .int b1_576) (C := RX9) (T := TX9) (N := 60) hx hb hts iRX9 hown hK hP 5 rfl rfl 13 (by decide) (hts (.fieldLink RX9 135 "RecordBenchModel" "bad" "I") (by decide +kernel)) (fun _ h9 => h9) ((mo_get g1_575 (by decide)).trans (congrArg some k_578)) dX9_kinds_213 ?_
            refine lv_if_ne (tgt := 225) hx hb dX9_kinds_216 (by decide) (fun c_952 => ?_) (fun c_952 => absurd c_952 hcy_592)
            have hP9 := hP.sub (ws' := [(h0, .inr (11, mo g1_575)), (a9, .inl (cT, 400, .inl f)), (a0, .inl (cZ, 8, .inl tl)), (a2, .inl (cG, 248, .inl f_2)), (a3, .inl (cI, 248, .inl f_524)), (a6, .inl (cP, 248, .inr (.inl f_3))), (a7, .inl (cX, 2976, .inl fX))]) [5, 6, 0, 1, 2, 3, 4] rfl
            have hD9 := hD.sub (ws' := [(h0, .inr (11, mo g1_575)), (a9, .inl (cT, 400, .inl f)), (a0, .inl (cZ, 8, .inl tl)), (a2, .inl (cG, 248, .inl f_2)), (a3, .inl (cI, 248, .inl f_524)), (a6, .inl (cP, 248, .inr (.inl f_3))), (a7, .inl (cX, 2976, .inl fX))]) [5, 6, 0, 1, 2, 3, 4] (by decide) rfl
            have hK9 := hK.sub (tys' := []) [] rfl
            exact W.vret hx hb hr (fun t ht hW => ⟨⟨(g1_575, (tsk f n j + 1), b1_576, (nI (tsk f n j + 1)), (tsk f n j + 1), f_524, f_2, f_3, fX, 0, 0, 0), rfl, ⟨Or.inr ⟨by simp only [kAll, hR, Option.bind_some, Option.bind_none], hcy_592⟩, (fun x hx => frf_524 x hx), (fun x hx => frf_2 x hx), (fun x hx => frf_3 x hx), (fun _ _ => rfl), w_580, k_578, w_582, (fun j h11 h13 h14 h17 h18 => un_591 j h11 h13 h14 h17 h18)⟩, by rw [ht]; exact hP9, va_K.moved hW.alike hK9, hD9⟩, hS.F ht⟩) hS.2.2 dX9_kinds_225
        · refine lv_aload_n hx hb dX9_kinds_68 rfl (lv_at hl 0 rfl) ?_
          refine lv_iconst (v := 2) hx hb dX9_kinds_69 (by decide) ?_
          refine lv_aload_n hx hb dX9_kinds_70 rfl (lv_at hl 0 rfl) ?_
          refine va_get (D := (dC, dI)) (ci := 11) (v := .int (nI (tsk f n j))) (C := RX9) (T := TX9) (N := 60) hx hb hts iRX9 hown hK hP 5 rfl rfl 17 (by decide) (hts (.fieldLink RX9 147 "RecordBenchModel" "begun" "I") (by decide +kernel)) (fun _ h9 => h9) ((mo_get g1_504 (by decide)).trans (congrArg some k_511)) dX9_kinds_71 ?_
          have hFc := va_free (wc := [(h0, .inr (11, mo g1_504))]) hD hS hA [5] rfl
          refine va_callv (va_runV (As := [.int 2, .int (nI (tsk f n j))]) (rest := []) ⟨hx, hb, hml, hown, hts⟩ (c_X9_fail l dC dI h0 g1_504 0 k_510 2 (nI (tsk f n j)) (by decide) H.size) (cwV 2 hts gp_X9_kinds_X9_fail_154 rfl rfl rfl (by decide +kernel) ⟨Nat.le_of_ble_eq_true rfl, Nat.le_of_ble_eq_true rfl⟩) ⟨Pr.blind _, va_recv hK hP (ci := 11) (q0 := 5) rfl rfl, fun U hU hW => ⟨rfl, Pr.at (hP.sub (ws' := [(h0, .inr (11, mo g1_504))]) [5] rfl) (hK.sub (tys' := []) [] rfl) (hD.sub (ws' := [(h0, .inr (11, mo g1_504))]) [5] (by decide) rfl) hN hZ RO.nil hS hFc hU hW⟩⟩ rfl rfl hl.1 rfl (lv_room (Nat.le_of_ble_eq_true rfl)) dX9_kinds_74 ⟨Nat.le_of_ble_eq_true rfl, Nat.le_of_ble_eq_true rfl⟩) hS (fun q _ h => hFc q h) hFc (fun u t H1 locs ht hvm hw_954 hB hz1 hk1 hS => ?_)
          obtain ⟨g1_955, b1_956⟩ := u
          obtain ⟨hP, hD, hK⟩ := Bq.join (wr := [(a0, .inl (cZ, 8, .inl tl)), (a2, .inl (cG, 248, .inl f_2)), (a3, .inl (cI, 248, .inl f_524)), (a6, .inl (cP, 248, .inr (.inl f_3))), (a7, .inl (cX, 2976, .inl fX)), (a9, .inl (cT, 400, .inl f))]) hB ht hvm hP hD [5] [0, 1, 2, 3, 4, 6] rfl rfl (by decide) (by decide) hk1 hFc hK
          generalize H1 = H at hP hS ⊢
          have hP : va_P (dC, dI) vwCl [(a0, .inl (cZ, 8, .inl tl)), (a2, .inl (cG, 248, .inl f_2)), (a3, .inl (cI, 248, .inl f_524)), (a6, .inl (cP, 248, .inr (.inl f_3))), (a7, .inl (cX, 2976, .inl fX)), (a9, .inl (cT, 400, .inl f)), (h0, .inr (11, mo g1_955))] H := hP
          have hD : va_D A [(a0, .inl (cZ, 8, .inl tl)), (a2, .inl (cG, 248, .inl f_2)), (a3, .inl (cI, 248, .inl f_524)), (a6, .inl (cP, 248, .inr (.inl f_3))), (a7, .inl (cX, 2976, .inl fX)), (a9, .inl (cT, 400, .inl f)), (h0, .inr (11, mo g1_955))] := hD
          have hK : va_K (dC, dI) vwCl [(cT, .int), (cZ, .boolean), (cG, .int), (cI, .int), (cP, .long), (cX, .int)] s := hK
          try dsimp only at hw_954
          obtain ⟨k_957, k_958, k_959⟩ := hw_954
          have w_960 : g1_955 11 = .int (nI (tsk f n j + 1)) := (k_959 11 (by decide) (by decide)).trans k_509
          have w_961 : g1_955 17 = .int (nI (tsk f n j)) := (k_959 17 (by decide) (by decide)).trans k_511
          have w_962 : g1_955 18 = .int (nI (tsk f n j + 1)) := (k_959 18 (by decide) (by decide)).trans k_512
          have w_963 : g1_955 0 = .ref a0 := (k_959 0 (by decide) (by decide)).trans w_514
          have w_964 : g1_955 2 = .ref a2 := (k_959 2 (by decide) (by decide)).trans w_515
          have w_965 : g1_955 3 = .ref a3 := (k_959 3 (by decide) (by decide)).trans w_516
          have w_966 : g1_955 6 = .ref a6 := (k_959 6 (by decide) (by decide)).trans w_517
          have w_967 : g1_955 7 = .ref a7 := (k_959 7 (by decide) (by decide)).trans w_518
          have w_968 : g1_955 9 = .ref a9 := (k_959 9 (by decide) (by decide)).trans w_519
          have w_969 : g1_955 12 = .int (nI n) := (k_959 12 (by decide) (by decide)).trans w_520
          have w_970 : g1_955 26 = .long iw := (k_959 26 (by decide) (by decide)).trans w_521
          have un_971 : ∀ j : Nat, j ≠ 11 → j ≠ 13 → j ≠ 14 → j ≠ 17 → j ≠ 18 → g1_955 j = g j := fun j h11 h13 h14 h17 h18 => (k_959 j h13 h14).trans (un_522 j h11 h13 h14 h17 h18)
          refine lv_aload_n hx hb dX9_kinds_77 rfl (lv_at hl 0 rfl) ?_
          have hFc := va_free (wc := [(h0, .inr (11, mo g1_955)), (a9, .inl (cT, 400, .inl f))]) hD hS hA [6, 5] rfl
          refine va_callv (va_runV (As := []) (rest := []) ⟨hx, hb, hml, hown, hts⟩ (c_X9_ends l dC dI h0 g1_955 a9 cT f (tsk f n j + 1) n b1_956 w_968 w_960 w_969 k_958 (by omega) (by omega) H.size) (cwV 0 hts gp_X9_kinds_X9_ends_206 rfl rfl rfl (by decide +kernel) ⟨Nat.le_of_ble_eq_true rfl, Nat.le_of_ble_eq_true rfl⟩) ⟨Pr.blind _, va_recv hK hP (ci := 11) (q0 := 6) rfl rfl, fun U hU hW => ⟨rfl, Pr.at (hP.sub (ws' := [(h0, .inr (11, mo g1_955)), (a9, .inl (cT, 400, .inl f))]) [6, 5] rfl) (hK.sub (tys' := [(cT, .int)]) [0] rfl) (hD.sub (ws' := [(h0, .inr (11, mo g1_955)), (a9, .inl (cT, 400, .inl f))]) [6, 5] (by decide) rfl) hN hZ RO.nil hS hFc hU hW⟩⟩ rfl rfl hl.1 rfl (lv_room (Nat.le_of_ble_eq_true rfl)) dX9_kinds_78 ⟨Nat.le_of_ble_eq_true rfl, Nat.le_of_ble_eq_true rfl⟩) hS (fun q _ h => hFc q h) hFc (fun u t H1 locs ht hvm hw_973 hB hz1 hk1 hS => ?_)
          obtain ⟨g1_974, b1_975⟩ := u
          obtain ⟨hP, hD, hK⟩ := Bq.join (wr := [(a0, .inl (cZ, 8, .inl tl)), (a2, .inl (cG, 248, .inl f_2)), (a3, .inl (cI, 248, .inl f_524)), (a6, .inl (cP, 248, .inr (.inl f_3))), (a7, .inl (cX, 2976, .inl fX))]) hB ht hvm hP hD [6, 5] [0, 1, 2, 3, 4] rfl rfl (by decide) (by decide) hk1 hFc hK
          generalize H1 = H at hP hS ⊢
          have hP : va_P (dC, dI) vwCl [(a0, .inl (cZ, 8, .inl tl)), (a2, .inl (cG, 248, .inl f_2)), (a3, .inl (cI, 248, .inl f_524)), (a6, .inl (cP, 248, .inr (.inl f_3))), (a7, .inl (cX, 2976, .inl fX)), (h0, .inr (11, mo g1_974)), (a9, .inl (cT, 400, .inl f))] H := hP
          have hD : va_D A [(a0, .inl (cZ, 8, .inl tl)), (a2, .inl (cG, 248, .inl f_2)), (a3, .inl (cI, 248, .inl f_524)), (a6, .inl (cP, 248, .inr (.inl f_3))), (a7, .inl (cX, 2976, .inl fX)), (h0, .inr (11, mo g1_974)), (a9, .inl (cT, 400, .inl f))] := hD
          have hK : va_K (dC, dI) vwCl [(cT, .int), (cZ, .boolean), (cG, .int), (cI, .int), (cP, .long), (cX, .int)] s := hK
          try dsimp only at hw_973
          obtain ⟨k_976, k_977, k_978⟩ := hw_973
          have w_979 : g1_974 11 = .int (nI (tsk f n j + 1)) := (k_978 11 (by decide) (by decide)).trans w_960
          have w_980 : g1_974 17 = .int (nI (tsk f n j)) := (k_978 17 (by decide) (by decide)).trans w_961
          have w_981 : g1_974 18 = .int (nI (tsk f n j + 1)) := (k_978 18 (by decide) (by decide)).trans w_962
          have w_982 : g1_974 0 = .ref a0 := (k_978 0 (by decide) (by decide)).trans w_963
          have w_983 : g1_974 2 = .ref a2 := (k_978 2 (by decide) (by decide)).trans w_964
          have w_984 : g1_974 3 = .ref a3 := (k_978 3 (by decide) (by decide)).trans w_965
          have w_985 : g1_974 6 = .ref a6 := (k_978 6 (by decide) (by decide)).trans w_966
          have w_986 : g1_974 7 = .ref a7 := (k_978 7 (by decide) (by decide)).trans w_967
          have w_987 : g1_974 9 = .ref a9 := (k_978 9 (by decide) (by decide)).trans w_968
          have w_988 : g1_974 12 = .int (nI n) := (k_978 12 (by decide) (by decide)).trans w_969
          have w_989 : g1_974 26 = .long iw := (k_978 26 (by decide) (by decide)).trans w_970
          have un_990 : ∀ j : Nat, j ≠ 11 → j ≠ 13 → j ≠ 14 → j ≠ 17 → j ≠ 18 → g1_974 j = g j := fun j h11 h13 h14 h17 h18 => (k_978 j h13 h14).trans (un_971 j h11 h13 h14 h17 h18)
          have := tsk_ge f n (tsk f n j + 1)
          have := tsk_le (f := f) (n := n) (j := tsk f n j + 1) (by omega)
          have := twe_ge f n (tsk f n (tsk f n j + 1))
          have := twe_le (f := f) (n := n) (j := tsk f n (tsk f n j + 1)) (by omega)
          have := twe_ge f n (tsk f n j + 1)
          have := twe_le (f := f) (n := n) (j := tsk f n j + 1) (by omega)
          rcases k_976 with ⟨hay_991, rfl⟩ | ⟨hay_991, hcy_991⟩
          · have hR : kRec f n tl p0 p2 j (nI e0) = none := by unfold kRec; rw [pif_pos c_4, pif_neg (show ¬ cRec f n tl p0 j (nI e0) from fun h => h.2.1.2 c_572)]
            refine lv_aload_n hx hb dX9_kinds_81 rfl (lv_at hl 0 rfl) ?_
            refine va_get (D := (dC, dI)) (ci := 11) (v := .int b1_956) (C := RX9) (T := TX9) (N := 60) hx hb hts iRX9 hown hK hP 5 rfl rfl 13 (by decide) (hts (.fieldLink RX9 135 "RecordBenchModel" "bad" "I") (by decide +kernel)) (fun _ h9 => h9) ((mo_get g1_974 (by decide)).trans (congrArg some k_977)) dX9_kinds_82 ?_
            refine lv_if_ne (tgt := 161) hx hb dX9_kinds_85 (by decide) (fun c_992 => ?_) (fun c_992 => absurd c_992 k_957)
            refine lv_aload_n hx hb dX9_kinds_161 rfl (lv_at hl 0 rfl) ?_
            refine va_get (D := (dC, dI)) (ci := 11) (v := .int b1_956) (C := RX9) (T := TX9) (N := 60) hx hb hts iRX9 hown hK hP 5 rfl rfl 13 (by decide) (hts (.fieldLink RX9 135 "RecordBenchModel" "bad" "I") (by decide +kernel)) (fun _ h9 => h9) ((mo_get g1_974 (by decide)).trans (congrArg some k_977)) dX9_kinds_162 ?_
            refine lv_if_ne (tgt := 212) hx hb dX9_kinds_165 (by decide) (fun c_993 => ?_) (fun c_993 => absurd c_993 k_957)
            refine lv_aload_n hx hb dX9_kinds_212 rfl (lv_at hl 0 rfl) ?_
            refine va_get (D := (dC, dI)) (ci := 11) (v := .int b1_956) (C := RX9) (T := TX9) (N := 60) hx hb hts iRX9 hown hK hP 5 rfl rfl 13 (by decide) (hts (.fieldLink RX9 135 "RecordBenchModel" "bad" "I") (by decide +kernel)) (fun _ h9 => h9) ((mo_get g1_974 (by decide)).trans (congrArg some k_977)) dX9_kinds_213 ?_
            refine lv_if_ne (tgt := 225) hx hb dX9_kinds_216 (by decide) (fun c_994 => ?_) (fun c_994 => absurd c_994 k_957)
            have hP9 := hP.sub (ws' := [(h0, .inr (11, mo g1_974)), (a9, .inl (cT, 400, .inl f)), (a0, .inl (cZ, 8, .inl tl)), (a2, .inl (cG, 248, .inl f_2)), (a3, .inl (cI, 248, .inl f_524)), (a6, .inl (cP, 248, .inr (.inl f_3))), (a7, .inl (cX, 2976, .inl fX))]) [5, 6, 0, 1, 2, 3, 4] rfl
            have hD9 := hD.sub (ws' := [(h0, .inr (11, mo g1_974)), (a9, .inl (cT, 400, .inl f)), (a0, .inl (cZ, 8, .inl tl)), (a2, .inl (cG, 248, .inl f_2)), (a3, .inl (cI, 248, .inl f_524)), (a6, .inl (cP, 248, .inr (.inl f_3))), (a7, .inl (cX, 2976, .inl fX))]) [5, 6, 0, 1, 2, 3, 4] (by decide) rfl
            have hK9 := hK.sub (tys' := []) [] rfl
            exact W.vret hx hb hr (fun t ht hW => ⟨⟨(g1_974, (tsk f n j + 1), b1_956, (nI (tsk f n j + 1)), (tsk f n j + 1), f_524, f_2, f_3, fX, 0, 0, 0), rfl, ⟨Or.inr ⟨by simp only [kAll, hR, Option.bind_some, Option.bind_none], k_957⟩, (fun x hx => frf_524 x hx), (fun x hx => frf_2 x hx), (fun x hx => frf_3 x hx), (fun _ _ => rfl), w_979, k_977, w_981, (fun j h11 h13 h14 h17 h18 => un_990 j h11 h13 h14 h17 h18)⟩, by rw [ht]; exact hP9, va_K.moved hW.alike hK9, hD9⟩, hS.F ht⟩) hS.2.2 dX9_kinds_225
          · have hR : kRec f n tl p0 p2 j (nI e0) = none := by unfold kRec; rw [pif_pos c_4, pif_neg (show ¬ cRec f n tl p0 j (nI e0) from fun h => h.2.1.2 c_572)]
            refine lv_aload_n hx hb dX9_kinds_81 rfl (lv_at hl 0 rfl) ?_
            refine va_get (D := (dC, dI)) (ci := 11) (v := .int b1_975) (C := RX9) (T := TX9) (N := 60) hx hb hts iRX9 hown hK hP 5 rfl rfl 13 (by decide) (hts (.fieldLink RX9 135 "RecordBenchModel" "bad" "I") (by decide +kernel)) (fun _ h9 => h9) ((mo_get g1_974 (by decide)).trans (congrArg some k_977)) dX9_kinds_82 ?_
            refine lv_if_ne (tgt := 161) hx hb dX9_kinds_85 (by decide) (fun c_995 => ?_) (fun c_995 => absurd c_995 hcy_991)
            refine lv_aload_n hx hb dX9_kinds_161 rfl (lv_at hl 0 rfl) ?_
            refine va_get (D := (dC, dI)) (ci := 11) (v := .int b1_975) (C := RX9) (T := TX9) (N := 60) hx hb hts iRX9 hown hK hP 5 rfl rfl 13 (by decide) (hts (.fieldLink RX9 135 "RecordBenchModel" "bad" "I") (by decide +kernel)) (fun _ h9 => h9) ((mo_get g1_974 (by decide)).trans (congrArg some k_977)) dX9_kinds_162 ?_
            refine lv_if_ne (tgt := 212) hx hb dX9_kinds_165 (by decide) (fun c_996 => ?_) (fun c_996 => absurd c_996 hcy_991)
            refine lv_aload_n hx hb dX9_kinds_212 rfl (lv_at hl 0 rfl) ?_
            refine va_get (D := (dC, dI)) (ci := 11) (v := .int b1_975) (C := RX9) (T := TX9) (N := 60) hx hb hts iRX9 hown hK hP 5 rfl rfl 13 (by decide) (hts (.fieldLink RX9 135 "RecordBenchModel" "bad" "I") (by decide +kernel)) (fun _ h9 => h9) ((mo_get g1_974 (by decide)).trans (congrArg some k_977)) dX9_kinds_213 ?_
            refine lv_if_ne (tgt := 225) hx hb dX9_kinds_216 (by decide) (fun c_997 => ?_) (fun c_997 => absurd c_997 hcy_991)
            have hP9 := hP.sub (ws' := [(h0, .inr (11, mo g1_974)), (a9, .inl (cT, 400, .inl f)), (a0, .inl (cZ, 8, .inl tl)), (a2, .inl (cG, 248, .inl f_2)), (a3, .inl (cI, 248, .inl f_524)), (a6, .inl (cP, 248, .inr (.inl f_3))), (a7, .inl (cX, 2976, .inl fX))]) [5, 6, 0, 1, 2, 3, 4] rfl
            have hD9 := hD.sub (ws' := [(h0, .inr (11, mo g1_974)), (a9, .inl (cT, 400, .inl f)), (a0, .inl (cZ, 8, .inl tl)), (a2, .inl (cG, 248, .inl f_2)), (a3, .inl (cI, 248, .inl f_524)), (a6, .inl (cP, 248, .inr (.inl f_3))), (a7, .inl (cX, 2976, .inl fX))]) [5, 6, 0, 1, 2, 3, 4] (by decide) rfl
            have hK9 := hK.sub (tys' := []) [] rfl
            exact W.vret hx hb hr (fun t ht hW => ⟨⟨(g1_974, (tsk f n j + 1), b1_975, (nI (tsk f n j + 1)), (tsk f n j + 1), f_524, f_2, f_3, fX, 0, 0, 0), rfl, ⟨Or.inr ⟨by simp only [kAll, hR, Option.bind_some, Option.bind_none], hcy_991⟩, (fun x hx => frf_524 x hx), (fun x hx => frf_2 x hx), (fun x hx => frf_3 x hx), (fun _ _ => rfl), w_979, k_977, w_981, (fun j h11 h13 h14 h17 h18 => un_990 j h11 h13 h14 h17 h18)⟩, by rw [ht]; exact hP9, va_K.moved hW.alike hK9, hD9⟩, hS.F ht⟩) hS.2.2 dX9_kinds_225
    · refine W.eq (g2 := F0 m 36 ls [.int 0, .int (nI F), .ref a3]) rfl ?_
      refine va_iast hx hb hK hP hD hS 2 3 rfl rfl (vp_in_nI hF (by decide)) dX9_kinds_36 (fun H locs hP hD hS => ?_)
      rw [hcF] at hP hD
      obtain ⟨f_998, ef_998⟩ : ∃ y : Nat → Int32, y = upd f_1 F 0 := ⟨_, rfl⟩
      have hP : va_P (dC, dI) vwCl [(a0, .inl (cZ, 8, .inl tl)), (a2, .inl (cG, 248, .inl f_2)), (a3, .inl (cI, 248, .inl f_998)), (a6, .inl (cP, 248, .inr (.inl f_3))), (a7, .inl (cX, 2976, .inl fX)), (h0, .inr (11, mo g1_504)), (a9, .inl (cT, 400, .inl f))] H := by rw [ef_998]; exact hP
      have hD : va_D A [(a0, .inl (cZ, 8, .inl tl)), (a2, .inl (cG, 248, .inl f_2)), (a3, .inl (cI, 248, .inl f_998)), (a6, .inl (cP, 248, .inr (.inl f_3))), (a7, .inl (cX, 2976, .inl fX)), (h0, .inr (11, mo g1_504)), (a9, .inl (cT, 400, .inl f))] := by rw [ef_998]; exact hD
      have vf_998 : f_998 F = 0 := by rw [ef_998, pk_us]
      have frf_998 : ∀ x : Nat, x ≠ F → f_998 x = fI x := fun x hx => by rw [ef_998, pk_un hx]; exact frf_1 x hx
      refine lv_aload_n hx hb dX9_kinds_37 rfl (lv_at hl 0 rfl) ?_
      refine va_get (D := (dC, dI)) (ci := 11) (v := .int b1_506) (C := RX9) (T := TX9) (N := 60) hx hb hts iRX9 hown hK hP 5 rfl rfl 13 (by decide) (hts (.fieldLink RX9 135 "RecordBenchModel" "bad" "I") (by decide +kernel)) (fun _ h9 => h9) ((mo_get g1_504 (by decide)).trans (congrArg some k_510)) dX9_kinds_38 ?_
      refine lv_if_ne (tgt := 77) hx hb dX9_kinds_41 (by decide) (fun c_999 => ?_) (fun c_999 => absurd c_999 hcy_523)
      refine lv_aload_n hx hb dX9_kinds_77 rfl (lv_at hl 0 rfl) ?_
      have hFc := va_free (wc := [(h0, .inr (11, mo g1_504)), (a9, .inl (cT, 400, .inl f))]) hD hS hA [5, 6] rfl
      refine va_callv (va_runV (As := []) (rest := []) ⟨hx, hb, hml, hown, hts⟩ (c_X9_ends l dC dI h0 g1_504 a9 cT f (tsk f n j) n b1_506 w_519 k_509 w_520 k_510 (by omega) (by omega) H.size) (cwV 0 hts gp_X9_kinds_X9_ends_206 rfl rfl rfl (by decide +kernel) ⟨Nat.le_of_ble_eq_true rfl, Nat.le_of_ble_eq_true rfl⟩) ⟨Pr.blind _, va_recv hK hP (ci := 11) (q0 := 5) rfl rfl, fun U hU hW => ⟨rfl, Pr.at (hP.sub (ws' := [(h0, .inr (11, mo g1_504)), (a9, .inl (cT, 400, .inl f))]) [5, 6] rfl) (hK.sub (tys' := [(cT, .int)]) [0] rfl) (hD.sub (ws' := [(h0, .inr (11, mo g1_504)), (a9, .inl (cT, 400, .inl f))]) [5, 6] (by decide) rfl) hN hZ RO.nil hS hFc hU hW⟩⟩ rfl rfl hl.1 rfl (lv_room (Nat.le_of_ble_eq_true rfl)) dX9_kinds_78 ⟨Nat.le_of_ble_eq_true rfl, Nat.le_of_ble_eq_true rfl⟩) hS (fun q _ h => hFc q h) hFc (fun u t H1 locs ht hvm hw_1001 hB hz1 hk1 hS => ?_)
      obtain ⟨g1_1002, b1_1003⟩ := u
      obtain ⟨hP, hD, hK⟩ := Bq.join (wr := [(a0, .inl (cZ, 8, .inl tl)), (a2, .inl (cG, 248, .inl f_2)), (a3, .inl (cI, 248, .inl f_998)), (a6, .inl (cP, 248, .inr (.inl f_3))), (a7, .inl (cX, 2976, .inl fX))]) hB ht hvm hP hD [5, 6] [0, 1, 2, 3, 4] rfl rfl (by decide) (by decide) hk1 hFc hK
      generalize H1 = H at hP hS ⊢
      have hP : va_P (dC, dI) vwCl [(a0, .inl (cZ, 8, .inl tl)), (a2, .inl (cG, 248, .inl f_2)), (a3, .inl (cI, 248, .inl f_998)), (a6, .inl (cP, 248, .inr (.inl f_3))), (a7, .inl (cX, 2976, .inl fX)), (h0, .inr (11, mo g1_1002)), (a9, .inl (cT, 400, .inl f))] H := hP
      have hD : va_D A [(a0, .inl (cZ, 8, .inl tl)), (a2, .inl (cG, 248, .inl f_2)), (a3, .inl (cI, 248, .inl f_998)), (a6, .inl (cP, 248, .inr (.inl f_3))), (a7, .inl (cX, 2976, .inl fX)), (h0, .inr (11, mo g1_1002)), (a9, .inl (cT, 400, .inl f))] := hD
      have hK : va_K (dC, dI) vwCl [(cT, .int), (cZ, .boolean), (cG, .int), (cI, .int), (cP, .long), (cX, .int)] s := hK
      try dsimp only at hw_1001
      obtain ⟨k_1004, k_1005, k_1006⟩ := hw_1001
      have w_1007 : g1_1002 11 = .int (nI (tsk f n j)) := (k_1006 11 (by decide) (by decide)).trans k_509
      have w_1008 : g1_1002 17 = .int (nI (tsk f n j)) := (k_1006 17 (by decide) (by decide)).trans k_511
      have w_1009 : g1_1002 18 = .int (nI e0) := (k_1006 18 (by decide) (by decide)).trans k_512
      have w_1010 : g1_1002 0 = .ref a0 := (k_1006 0 (by decide) (by decide)).trans w_514
      have w_1011 : g1_1002 2 = .ref a2 := (k_1006 2 (by decide) (by decide)).trans w_515
      have w_1012 : g1_1002 3 = .ref a3 := (k_1006 3 (by decide) (by decide)).trans w_516
      have w_1013 : g1_1002 6 = .ref a6 := (k_1006 6 (by decide) (by decide)).trans w_517
      have w_1014 : g1_1002 7 = .ref a7 := (k_1006 7 (by decide) (by decide)).trans w_518
      have w_1015 : g1_1002 9 = .ref a9 := (k_1006 9 (by decide) (by decide)).trans w_519
      have w_1016 : g1_1002 12 = .int (nI n) := (k_1006 12 (by decide) (by decide)).trans w_520
      have w_1017 : g1_1002 26 = .long iw := (k_1006 26 (by decide) (by decide)).trans w_521
      have un_1018 : ∀ j : Nat, j ≠ 11 → j ≠ 13 → j ≠ 14 → j ≠ 17 → j ≠ 18 → g1_1002 j = g j := fun j h11 h13 h14 h17 h18 => (k_1006 j h13 h14).trans (un_522 j h11 h13 h14 h17 h18)
      have := tsk_ge f n (tsk f n j)
      have := tsk_le (f := f) (n := n) (j := tsk f n j) (by omega)
      have := twe_ge f n (tsk f n (tsk f n j))
      have := twe_le (f := f) (n := n) (j := tsk f n (tsk f n j)) (by omega)
      have := twe_ge f n (tsk f n j)
      have := twe_le (f := f) (n := n) (j := tsk f n j) (by omega)
      rcases k_1004 with ⟨hay_1019, rfl⟩ | ⟨hay_1019, hcy_1019⟩
      · have hR : kRec f n tl p0 p2 j (nI e0) = none := by unfold kRec; rw [pif_pos c_4, pif_neg (show ¬ cRec f n tl p0 j (nI e0) from fun h => hay_523 h.1)]
        refine lv_aload_n hx hb dX9_kinds_81 rfl (lv_at hl 0 rfl) ?_
        refine va_get (D := (dC, dI)) (ci := 11) (v := .int b1_506) (C := RX9) (T := TX9) (N := 60) hx hb hts iRX9 hown hK hP 5 rfl rfl 13 (by decide) (hts (.fieldLink RX9 135 "RecordBenchModel" "bad" "I") (by decide +kernel)) (fun _ h9 => h9) ((mo_get g1_1002 (by decide)).trans (congrArg some k_1005)) dX9_kinds_82 ?_
        refine lv_if_ne (tgt := 161) hx hb dX9_kinds_85 (by decide) (fun c_1020 => ?_) (fun c_1020 => absurd c_1020 hcy_523)
        refine lv_aload_n hx hb dX9_kinds_161 rfl (lv_at hl 0 rfl) ?_
        refine va_get (D := (dC, dI)) (ci := 11) (v := .int b1_506) (C := RX9) (T := TX9) (N := 60) hx hb hts iRX9 hown hK hP 5 rfl rfl 13 (by decide) (hts (.fieldLink RX9 135 "RecordBenchModel" "bad" "I") (by decide +kernel)) (fun _ h9 => h9) ((mo_get g1_1002 (by decide)).trans (congrArg some k_1005)) dX9_kinds_162 ?_
        refine lv_if_ne (tgt := 212) hx hb dX9_kinds_165 (by decide) (fun c_1021 => ?_) (fun c_1021 => absurd c_1021 hcy_523)
        refine lv_aload_n hx hb dX9_kinds_212 rfl (lv_at hl 0 rfl) ?_
        refine va_get (D := (dC, dI)) (ci := 11) (v := .int b1_506) (C := RX9) (T := TX9) (N := 60) hx hb hts iRX9 hown hK hP 5 rfl rfl 13 (by decide) (hts (.fieldLink RX9 135 "RecordBenchModel" "bad" "I") (by decide +kernel)) (fun _ h9 => h9) ((mo_get g1_1002 (by decide)).trans (congrArg some k_1005)) dX9_kinds_213 ?_
        refine lv_if_ne (tgt := 225) hx hb dX9_kinds_216 (by decide) (fun c_1022 => ?_) (fun c_1022 => absurd c_1022 hcy_523)
        have hP9 := hP.sub (ws' := [(h0, .inr (11, mo g1_1002)), (a9, .inl (cT, 400, .inl f)), (a0, .inl (cZ, 8, .inl tl)), (a2, .inl (cG, 248, .inl f_2)), (a3, .inl (cI, 248, .inl f_998)), (a6, .inl (cP, 248, .inr (.inl f_3))), (a7, .inl (cX, 2976, .inl fX))]) [5, 6, 0, 1, 2, 3, 4] rfl
        have hD9 := hD.sub (ws' := [(h0, .inr (11, mo g1_1002)), (a9, .inl (cT, 400, .inl f)), (a0, .inl (cZ, 8, .inl tl)), (a2, .inl (cG, 248, .inl f_2)), (a3, .inl (cI, 248, .inl f_998)), (a6, .inl (cP, 248, .inr (.inl f_3))), (a7, .inl (cX, 2976, .inl fX))]) [5, 6, 0, 1, 2, 3, 4] (by decide) rfl
        have hK9 := hK.sub (tys' := []) [] rfl
        exact W.vret hx hb hr (fun t ht hW => ⟨⟨(g1_1002, (tsk f n j), b1_506, (nI e0), e0, f_998, f_2, f_3, fX, 0, 0, 0), rfl, ⟨Or.inr ⟨by simp only [kAll, hR, Option.bind_some, Option.bind_none], hcy_523⟩, (fun x hx => frf_998 x hx), (fun x hx => frf_2 x hx), (fun x hx => frf_3 x hx), (fun _ _ => rfl), w_1007, k_1005, w_1009, (fun j h11 h13 h14 h17 h18 => un_1018 j h11 h13 h14 h17 h18)⟩, by rw [ht]; exact hP9, va_K.moved hW.alike hK9, hD9⟩, hS.F ht⟩) hS.2.2 dX9_kinds_225
      · have hR : kRec f n tl p0 p2 j (nI e0) = none := by unfold kRec; rw [pif_pos c_4, pif_neg (show ¬ cRec f n tl p0 j (nI e0) from fun h => hay_523 h.1)]
        refine lv_aload_n hx hb dX9_kinds_81 rfl (lv_at hl 0 rfl) ?_
        refine va_get (D := (dC, dI)) (ci := 11) (v := .int b1_1003) (C := RX9) (T := TX9) (N := 60) hx hb hts iRX9 hown hK hP 5 rfl rfl 13 (by decide) (hts (.fieldLink RX9 135 "RecordBenchModel" "bad" "I") (by decide +kernel)) (fun _ h9 => h9) ((mo_get g1_1002 (by decide)).trans (congrArg some k_1005)) dX9_kinds_82 ?_
        refine lv_if_ne (tgt := 161) hx hb dX9_kinds_85 (by decide) (fun c_1023 => ?_) (fun c_1023 => absurd c_1023 hcy_1019)
        refine lv_aload_n hx hb dX9_kinds_161 rfl (lv_at hl 0 rfl) ?_
        refine va_get (D := (dC, dI)) (ci := 11) (v := .int b1_1003) (C := RX9) (T := TX9) (N := 60) hx hb hts iRX9 hown hK hP 5 rfl rfl 13 (by decide) (hts (.fieldLink RX9 135 "RecordBenchModel" "bad" "I") (by decide +kernel)) (fun _ h9 => h9) ((mo_get g1_1002 (by decide)).trans (congrArg some k_1005)) dX9_kinds_162 ?_
        refine lv_if_ne (tgt := 212) hx hb dX9_kinds_165 (by decide) (fun c_1024 => ?_) (fun c_1024 => absurd c_1024 hcy_1019)
        refine lv_aload_n hx hb dX9_kinds_212 rfl (lv_at hl 0 rfl) ?_
        refine va_get (D := (dC, dI)) (ci := 11) (v := .int b1_1003) (C := RX9) (T := TX9) (N := 60) hx hb hts iRX9 hown hK hP 5 rfl rfl 13 (by decide) (hts (.fieldLink RX9 135 "RecordBenchModel" "bad" "I") (by decide +kernel)) (fun _ h9 => h9) ((mo_get g1_1002 (by decide)).trans (congrArg some k_1005)) dX9_kinds_213 ?_
        refine lv_if_ne (tgt := 225) hx hb dX9_kinds_216 (by decide) (fun c_1025 => ?_) (fun c_1025 => absurd c_1025 hcy_1019)
        have hP9 := hP.sub (ws' := [(h0, .inr (11, mo g1_1002)), (a9, .inl (cT, 400, .inl f)), (a0, .inl (cZ, 8, .inl tl)), (a2, .inl (cG, 248, .inl f_2)), (a3, .inl (cI, 248, .inl f_998)), (a6, .inl (cP, 248, .inr (.inl f_3))), (a7, .inl (cX, 2976, .inl fX))]) [5, 6, 0, 1, 2, 3, 4] rfl
        have hD9 := hD.sub (ws' := [(h0, .inr (11, mo g1_1002)), (a9, .inl (cT, 400, .inl f)), (a0, .inl (cZ, 8, .inl tl)), (a2, .inl (cG, 248, .inl f_2)), (a3, .inl (cI, 248, .inl f_998)), (a6, .inl (cP, 248, .inr (.inl f_3))), (a7, .inl (cX, 2976, .inl fX))]) [5, 6, 0, 1, 2, 3, 4] (by decide) rfl
        have hK9 := hK.sub (tys' := []) [] rfl
        exact W.vret hx hb hr (fun t ht hW => ⟨⟨(g1_1002, (tsk f n j), b1_1003, (nI e0), e0, f_998, f_2, f_3, fX, 0, 0, 0), rfl, ⟨Or.inr ⟨by simp only [kAll, hR, Option.bind_some, Option.bind_none], hcy_1019⟩, (fun x hx => frf_998 x hx), (fun x hx => frf_2 x hx), (fun x hx => frf_3 x hx), (fun _ _ => rfl), w_1007, k_1005, w_1009, (fun j h11 h13 h14 h17 h18 => un_1018 j h11 h13 h14 h17 h18)⟩, by rw [ht]; exact hP9, va_K.moved hW.alike hK9, hD9⟩, hS.F ht⟩) hS.2.2 dX9_kinds_225
