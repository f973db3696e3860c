theorem dX9_value_0 : decode cX9_value 0 = .ok (.aload_n 0, 1) := by decide +kernel
theorem dX9_value_1 : decode cX9_value 1 = .ok (.invokevirtual 150, 3) := by decide +kernel
theorem dX9_value_10 : decode cX9_value 10 = .ok (.aload_n 0, 1) := by decide +kernel
theorem dX9_value_101 : decode cX9_value 101 = .ok (.isub, 1) := by decide +kernel
theorem dX9_value_102 : decode cX9_value 102 = .ok (.bipush 19, 2) := by decide +kernel
theorem dX9_value_104 : decode cX9_value 104 = .ok (.if_icmp .ne 13, 3) := by decide +kernel
theorem dX9_value_107 : decode cX9_value 107 = .ok (.aload_n 0, 1) := by decide +kernel
theorem dX9_value_108 : decode cX9_value 108 = .ok (.iconst 1, 1) := by decide +kernel
theorem dX9_value_109 : decode cX9_value 109 = .ok (.aload_n 0, 1) := by decide +kernel
theorem dX9_value_11 : decode cX9_value 11 = .ok (.getfield 141, 3) := by decide +kernel
theorem dX9_value_110 : decode cX9_value 110 = .ok (.getfield 141, 3) := by decide +kernel
theorem dX9_value_113 : decode cX9_value 113 = .ok (.invokevirtual 154, 3) := by decide +kernel
theorem dX9_value_116 : decode cX9_value 116 = .ok (.return_, 1) := by decide +kernel
theorem dX9_value_117 : decode cX9_value 117 = .ok (.aload_n 0, 1) := by decide +kernel
theorem dX9_value_118 : decode cX9_value 118 = .ok (.getfield 39, 3) := by decide +kernel
theorem dX9_value_121 : decode cX9_value 121 = .ok (.aload_n 0, 1) := by decide +kernel
theorem dX9_value_122 : decode cX9_value 122 = .ok (.getfield 141, 3) := by decide +kernel
theorem dX9_value_125 : decode cX9_value 125 = .ok (.iaload, 1) := by decide +kernel
theorem dX9_value_126 : decode cX9_value 126 = .ok (.bipush 48, 2) := by decide +kernel
theorem dX9_value_128 : decode cX9_value 128 = .ok (.isub, 1) := by decide +kernel
theorem dX9_value_129 : decode cX9_value 129 = .ok (.istore 9, 2) := by decide +kernel
theorem dX9_value_131 : decode cX9_value 131 = .ok (.iload 8, 2) := by decide +kernel
theorem dX9_value_133 : decode cX9_value 133 = .ok (.ifCond .ne 28, 3) := by decide +kernel
theorem dX9_value_136 : decode cX9_value 136 = .ok (.lload 6, 2) := by decide +kernel
theorem dX9_value_138 : decode cX9_value 138 = .ok (.ldc2_w 223, 3) := by decide +kernel
theorem dX9_value_14 : decode cX9_value 14 = .ok (.aload_n 0, 1) := by decide +kernel
theorem dX9_value_141 : decode cX9_value 141 = .ok (.lcmp, 1) := by decide +kernel
theorem dX9_value_142 : decode cX9_value 142 = .ok (.ifCond .lt 19, 3) := by decide +kernel
theorem dX9_value_145 : decode cX9_value 145 = .ok (.lload 6, 2) := by decide +kernel
theorem dX9_value_147 : decode cX9_value 147 = .ok (.ldc2_w 223, 3) := by decide +kernel
theorem dX9_value_15 : decode cX9_value 15 = .ok (.getfield 144, 3) := by decide +kernel
theorem dX9_value_150 : decode cX9_value 150 = .ok (.lcmp, 1) := by decide +kernel
theorem dX9_value_151 : decode cX9_value 151 = .ok (.ifCond .ne 14, 3) := by decide +kernel
theorem dX9_value_154 : decode cX9_value 154 = .ok (.iload 9, 2) := by decide +kernel
theorem dX9_value_156 : decode cX9_value 156 = .ok (.bipush 8, 2) := by decide +kernel
theorem dX9_value_158 : decode cX9_value 158 = .ok (.if_icmp .le 7, 3) := by decide +kernel
theorem dX9_value_161 : decode cX9_value 161 = .ok (.iconst 1, 1) := by decide +kernel
theorem dX9_value_162 : decode cX9_value 162 = .ok (.goto 4, 3) := by decide +kernel
theorem dX9_value_165 : decode cX9_value 165 = .ok (.iconst 0, 1) := by decide +kernel
theorem dX9_value_166 : decode cX9_value 166 = .ok (.istore 8, 2) := by decide +kernel
theorem dX9_value_168 : decode cX9_value 168 = .ok (.iload 8, 2) := by decide +kernel
theorem dX9_value_170 : decode cX9_value 170 = .ok (.ifCond .ne 15, 3) := by decide +kernel
theorem dX9_value_173 : decode cX9_value 173 = .ok (.ldc2_w 225, 3) := by decide +kernel
theorem dX9_value_176 : decode cX9_value 176 = .ok (.lload 6, 2) := by decide +kernel
theorem dX9_value_178 : decode cX9_value 178 = .ok (.lmul, 1) := by decide +kernel
theorem dX9_value_179 : decode cX9_value 179 = .ok (.iload 9, 2) := by decide +kernel
theorem dX9_value_18 : decode cX9_value 18 = .ok (.if_icmp .ge 21, 3) := by decide +kernel
theorem dX9_value_181 : decode cX9_value 181 = .ok (.i2l, 1) := by decide +kernel
theorem dX9_value_182 : decode cX9_value 182 = .ok (.lsub, 1) := by decide +kernel
theorem dX9_value_183 : decode cX9_value 183 = .ok (.lstore 6, 2) := by decide +kernel
theorem dX9_value_185 : decode cX9_value 185 = .ok (.aload_n 0, 1) := by decide +kernel
theorem dX9_value_186 : decode cX9_value 186 = .ok (.dup, 1) := by decide +kernel
theorem dX9_value_187 : decode cX9_value 187 = .ok (.getfield 141, 3) := by decide +kernel
theorem dX9_value_190 : decode cX9_value 190 = .ok (.iconst 1, 1) := by decide +kernel
theorem dX9_value_191 : decode cX9_value 191 = .ok (.iadd, 1) := by decide +kernel
theorem dX9_value_192 : decode cX9_value 192 = .ok (.putfield 141, 3) := by decide +kernel
theorem dX9_value_195 : decode cX9_value 195 = .ok (.goto (-126), 3) := by decide +kernel
theorem dX9_value_198 : decode cX9_value 198 = .ok (.aload_n 0, 1) := by decide +kernel
theorem dX9_value_199 : decode cX9_value 199 = .ok (.getfield 141, 3) := by decide +kernel
theorem dX9_value_202 : decode cX9_value 202 = .ok (.iload 5, 2) := by decide +kernel
theorem dX9_value_204 : decode cX9_value 204 = .ok (.if_icmp .ne 13, 3) := by decide +kernel
theorem dX9_value_207 : decode cX9_value 207 = .ok (.aload_n 0, 1) := by decide +kernel
theorem dX9_value_208 : decode cX9_value 208 = .ok (.iconst 1, 1) := by decide +kernel
theorem dX9_value_209 : decode cX9_value 209 = .ok (.aload_n 0, 1) := by decide +kernel
theorem dX9_value_21 : decode cX9_value 21 = .ok (.aload_n 0, 1) := by decide +kernel
theorem dX9_value_210 : decode cX9_value 210 = .ok (.getfield 141, 3) := by decide +kernel
theorem dX9_value_213 : decode cX9_value 213 = .ok (.invokevirtual 154, 3) := by decide +kernel
theorem dX9_value_216 : decode cX9_value 216 = .ok (.return_, 1) := by decide +kernel
theorem dX9_value_217 : decode cX9_value 217 = .ok (.aload_n 0, 1) := by decide +kernel
theorem dX9_value_218 : decode cX9_value 218 = .ok (.aload_n 0, 1) := by decide +kernel
theorem dX9_value_219 : decode cX9_value 219 = .ok (.getfield 141, 3) := by decide +kernel
theorem dX9_value_22 : decode cX9_value 22 = .ok (.getfield 39, 3) := by decide +kernel
theorem dX9_value_222 : decode cX9_value 222 = .ok (.putfield 162, 3) := by decide +kernel
theorem dX9_value_225 : decode cX9_value 225 = .ok (.iload 4, 2) := by decide +kernel
theorem dX9_value_227 : decode cX9_value 227 = .ok (.ifCond .ne 15, 3) := by decide +kernel
theorem dX9_value_230 : decode cX9_value 230 = .ok (.lload 6, 2) := by decide +kernel
theorem dX9_value_232 : decode cX9_value 232 = .ok (.ldc2_w 227, 3) := by decide +kernel
theorem dX9_value_235 : decode cX9_value 235 = .ok (.lcmp, 1) := by decide +kernel
theorem dX9_value_236 : decode cX9_value 236 = .ok (.ifCond .ne 6, 3) := by decide +kernel
theorem dX9_value_239 : decode cX9_value 239 = .ok (.iconst 1, 1) := by decide +kernel
theorem dX9_value_240 : decode cX9_value 240 = .ok (.istore 8, 2) := by decide +kernel
theorem dX9_value_242 : decode cX9_value 242 = .ok (.iload 4, 2) := by decide +kernel
theorem dX9_value_244 : decode cX9_value 244 = .ok (.ifCond .ne 9, 3) := by decide +kernel
theorem dX9_value_247 : decode cX9_value 247 = .ok (.lconst 0, 1) := by decide +kernel
theorem dX9_value_248 : decode cX9_value 248 = .ok (.lload 6, 2) := by decide +kernel
theorem dX9_value_25 : decode cX9_value 25 = .ok (.aload_n 0, 1) := by decide +kernel
theorem dX9_value_250 : decode cX9_value 250 = .ok (.lsub, 1) := by decide +kernel
theorem dX9_value_251 : decode cX9_value 251 = .ok (.lstore 6, 2) := by decide +kernel
theorem dX9_value_253 : decode cX9_value 253 = .ok (.iload 8, 2) := by decide +kernel
theorem dX9_value_255 : decode cX9_value 255 = .ok (.ifCond .ne 12, 3) := by decide +kernel
theorem dX9_value_258 : decode cX9_value 258 = .ok (.lload 6, 2) := by decide +kernel
theorem dX9_value_26 : decode cX9_value 26 = .ok (.getfield 141, 3) := by decide +kernel
theorem dX9_value_260 : decode cX9_value 260 = .ok (.iload_n 2, 1) := by decide +kernel
theorem dX9_value_261 : decode cX9_value 261 = .ok (.invokestatic 229, 3) := by decide +kernel
theorem dX9_value_264 : decode cX9_value 264 = .ok (.ifCond .ne 9, 3) := by decide +kernel
theorem dX9_value_267 : decode cX9_value 267 = .ok (.aload_n 0, 1) := by decide +kernel
theorem dX9_value_268 : decode cX9_value 268 = .ok (.iconst 2, 1) := by decide +kernel
theorem dX9_value_269 : decode cX9_value 269 = .ok (.iload_n 3, 1) := by decide +kernel
theorem dX9_value_270 : decode cX9_value 270 = .ok (.invokevirtual 154, 3) := by decide +kernel
theorem dX9_value_273 : decode cX9_value 273 = .ok (.aload_n 0, 1) := by decide +kernel
theorem dX9_value_274 : decode cX9_value 274 = .ok (.getfield 30, 3) := by decide +kernel
theorem dX9_value_277 : decode cX9_value 277 = .ok (.iload_n 1, 1) := by decide +kernel
theorem dX9_value_278 : decode cX9_value 278 = .ok (.lload 6, 2) := by decide +kernel
theorem dX9_value_280 : decode cX9_value 280 = .ok (.lastore, 1) := by decide +kernel
theorem dX9_value_281 : decode cX9_value 281 = .ok (.return_, 1) := by decide +kernel
theorem dX9_value_29 : decode cX9_value 29 = .ok (.iaload, 1) := by decide +kernel
theorem dX9_value_30 : decode cX9_value 30 = .ok (.bipush 45, 2) := by decide +kernel
theorem dX9_value_32 : decode cX9_value 32 = .ok (.if_icmp .ne 7, 3) := by decide +kernel
theorem dX9_value_35 : decode cX9_value 35 = .ok (.iconst 1, 1) := by decide +kernel
theorem dX9_value_36 : decode cX9_value 36 = .ok (.goto 4, 3) := by decide +kernel
theorem dX9_value_39 : decode cX9_value 39 = .ok (.iconst 0, 1) := by decide +kernel
theorem dX9_value_4 : decode cX9_value 4 = .ok (.pop, 1) := by decide +kernel
theorem dX9_value_40 : decode cX9_value 40 = .ok (.istore 4, 2) := by decide +kernel
theorem dX9_value_42 : decode cX9_value 42 = .ok (.iload 4, 2) := by decide +kernel
theorem dX9_value_44 : decode cX9_value 44 = .ok (.ifCond .eq 13, 3) := by decide +kernel
theorem dX9_value_47 : decode cX9_value 47 = .ok (.aload_n 0, 1) := by decide +kernel
theorem dX9_value_48 : decode cX9_value 48 = .ok (.dup, 1) := by decide +kernel
theorem dX9_value_49 : decode cX9_value 49 = .ok (.getfield 141, 3) := by decide +kernel
theorem dX9_value_5 : decode cX9_value 5 = .ok (.aload_n 0, 1) := by decide +kernel
theorem dX9_value_52 : decode cX9_value 52 = .ok (.iconst 1, 1) := by decide +kernel
theorem dX9_value_53 : decode cX9_value 53 = .ok (.iadd, 1) := by decide +kernel
theorem dX9_value_54 : decode cX9_value 54 = .ok (.putfield 141, 3) := by decide +kernel
theorem dX9_value_57 : decode cX9_value 57 = .ok (.aload_n 0, 1) := by decide +kernel
theorem dX9_value_58 : decode cX9_value 58 = .ok (.getfield 141, 3) := by decide +kernel
theorem dX9_value_6 : decode cX9_value 6 = .ok (.getfield 141, 3) := by decide +kernel
theorem dX9_value_61 : decode cX9_value 61 = .ok (.istore 5, 2) := by decide +kernel
theorem dX9_value_63 : decode cX9_value 63 = .ok (.lconst 0, 1) := by decide +kernel
theorem dX9_value_64 : decode cX9_value 64 = .ok (.lstore 6, 2) := by decide +kernel
theorem dX9_value_66 : decode cX9_value 66 = .ok (.iconst 0, 1) := by decide +kernel
theorem dX9_value_67 : decode cX9_value 67 = .ok (.istore 8, 2) := by decide +kernel
theorem dX9_value_69 : decode cX9_value 69 = .ok (.aload_n 0, 1) := by decide +kernel
theorem dX9_value_70 : decode cX9_value 70 = .ok (.getfield 141, 3) := by decide +kernel
theorem dX9_value_73 : decode cX9_value 73 = .ok (.aload_n 0, 1) := by decide +kernel
theorem dX9_value_74 : decode cX9_value 74 = .ok (.getfield 144, 3) := by decide +kernel
theorem dX9_value_77 : decode cX9_value 77 = .ok (.if_icmp .ge 121, 3) := by decide +kernel
theorem dX9_value_80 : decode cX9_value 80 = .ok (.aload_n 0, 1) := by decide +kernel
theorem dX9_value_81 : decode cX9_value 81 = .ok (.getfield 39, 3) := by decide +kernel
theorem dX9_value_84 : decode cX9_value 84 = .ok (.aload_n 0, 1) := by decide +kernel
theorem dX9_value_85 : decode cX9_value 85 = .ok (.getfield 141, 3) := by decide +kernel
theorem dX9_value_88 : decode cX9_value 88 = .ok (.iaload, 1) := by decide +kernel
theorem dX9_value_89 : decode cX9_value 89 = .ok (.invokestatic 158, 3) := by decide +kernel
theorem dX9_value_9 : decode cX9_value 9 = .ok (.istore_n 3, 1) := by decide +kernel
theorem dX9_value_92 : decode cX9_value 92 = .ok (.ifCond .eq 106, 3) := by decide +kernel
theorem dX9_value_95 : decode cX9_value 95 = .ok (.aload_n 0, 1) := by decide +kernel
theorem dX9_value_96 : decode cX9_value 96 = .ok (.getfield 141, 3) := by decide +kernel
theorem dX9_value_99 : decode cX9_value 99 = .ok (.iload 5, 2) := by decide +kernel
def wp_X9_value : List Cond := .code yX9_value cX9_value 10 none :: ([.methodLink RX9 150 yX9_next, .instanceMethod yX9_next, .selects RX9 yX9_next yX9_next, .initialized RX9, .fieldLink RX9 141 "RecordBenchModel" "at" "I", .fieldLink RX9 144 "RecordBenchModel" "size" "I", .fieldLink RX9 162 "RecordBenchModel" "ended" "I", .constantLong RX9 227 (-9223372036854775808), .methodLink RX9 154 yX9_fail, .instanceMethod yX9_fail, .selects RX9 yX9_fail yX9_fail, .fieldLink RX9 30 "RecordBenchModel" "plain" "[J", .methodLink RX9 229 yX9_isOf, .static yX9_isOf, .fieldLink RX9 39 "RecordBenchModel" "tape" "[I", .methodLink RX9 158 yX9_isDigit, .static yX9_isDigit, .constantLong RX9 223 (-922337203685477580), .constantLong RX9 225 (10), .code yX9_next cX9_next 1 (some .int), .fieldLink RX9 147 "RecordBenchModel" "begun" "I", .code yX9_fail cX9_fail 3 none, .fieldLink RX9 135 "RecordBenchModel" "bad" "I", .fieldLink RX9 138 "RecordBenchModel" "badPlace" "I", .code yX9_isOf cX9_isOf 3 (some .boolean), .constantLong RX9 219 (-2147483648), .constantLong RX9 221 (2147483647), .constantLong RX9 215 (-128), .constantLong RX9 217 (127), .code yX9_isDigit cX9_isDigit 1 (some .boolean)] ++ wsX90)
set_option maxRecDepth 20000 in
theorem gp_X9_value_X9_next_150 : GoodIn wp_X9_value (wsV RX9 150 RX9 yX9_next wp_X9_next) := goodIn_p _ [20] rfl (by decide +kernel)
set_option maxRecDepth 20000 in
theorem gp_X9_value_X9_fail_154 : GoodIn wp_X9_value (wsV RX9 154 RX9 yX9_fail wp_X9_fail) := goodIn_p _ [22] rfl (by decide +kernel)
set_option maxRecDepth 20000 in
theorem gp_X9_value_X9_isOf_229 : GoodIn wp_X9_value (wsS RX9 229 yX9_isOf wp_X9_isOf) := goodIn_p _ [25] rfl (by decide +kernel)
set_option maxRecDepth 20000 in
theorem gp_X9_value_X9_isDigit_158 : GoodIn wp_X9_value (wsS RX9 158 yX9_isDigit wp_X9_isDigit) := goodIn_p _ [30] rfl (by decide +kernel)
set_option maxHeartbeats 4000000 in
set_option maxRecDepth 100000 in
theorem c_X9_value (l : Launch) (dC : Nat → ClassId) (dI : Nat → Nat → Nat) (h0 : Nat) (g : Nat → Value) (a9 : Nat) (cT : ClassId) (f : Nat → Int32) (j : Nat) (n : Nat) (b0 : Int32) (x18 : Int32) (a6 : Nat) (cP : ClassId) (fP : Nat → Int64) (fh6 : g 6 = .ref a6) (fh9 : g 9 = .ref a9) (fh11 : g 11 = .int (nI j)) (fh12 : g 12 = .int (nI n)) (fh13 : g 13 = .int b0) (fh18 : g 18 = .int x18) (hj : j ≤ n) (hn : n ≤ 400) (p0 : Int32) (p1 : Int32) (hp0 : vp_in p0 248) (sz : Nat) : Met l yX9_value wp_X9_value ({ frames := 1, cells := 0, slots := 0, locals := 26 }) (va_Pc [.ref h0, .int p0, .int p1] (Pr (dC, dI) [(cT, .int), (cP, .long)] [] [(h0, .inr (11, mo g)), (a9, .inl (cT, 400, .inl f)), (a6, .inl (cP, 248, .inr (.inl fP)))] sz)) (va_Qv (fun (u : (Nat → Value) × Nat × Int32 × Int32 × (Nat → Int64)) => match u with | (g1, j1, b1, x1, fP1) => (((tde f n (tfd f n (tsk f n j)) ≠ tfd f n (tsk f n j) ∧ tde f n (tfd f n (tsk f n j)) - tfd f n (tsk f n j) ≤ 19 ∧ tvo (tvs f (tfd f n (tsk f n j)) (tde f n (tfd f n (tsk f n j)) - tfd f n (tsk f n j))) (tsg f n (tsk f n j)) p1) ∧ j1 = tde f n (tfd f n (tsk f n j)) ∧ b0 = b1 ∧ x1 = nI (tde f n (tfd f n (tsk f n j))) ∧ fP1 = vp_updL fP p0.toNatClampNeg (tvv (tvs f (tfd f n (tsk f n j)) (tde f n (tfd f n (tsk f n j)) - tfd f n (tsk f n j))) (tsg f n (tsk f n j)))) ∨ (¬ (tde f n (tfd f n (tsk f n j)) ≠ tfd f n (tsk f n j) ∧ tde f n (tfd f n (tsk f n j)) - tfd f n (tsk f n j) ≤ 19 ∧ tvo (tvs f (tfd f n (tsk f n j)) (tde f n (tfd f n (tsk f n j)) - tfd f n (tsk f n j))) (tsg f n (tsk f n j)) p1) ∧ j1 ≤ n ∧ b1 ≠ 0 ∧ ∀ x : Nat, x ≠ p0.toNatClampNeg → fP1 x = fP x)) ∧ (g1 11 = .int (nI j1)) ∧ (g1 13 = .int b1) ∧ (g1 18 = .int x1) ∧ (∀ j : Nat, j ≠ 11 → j ≠ 13 → j ≠ 14 → j ≠ 17 → j ≠ 18 → g1 j = g j)) (Bq (dC, dI) (fun (u : (Nat → Value) × Nat × Int32 × Int32 × (Nat → Int64)) => match u with | (g1, j1, b1, x1, fP1) => [(h0, .inr (11, mo g1)), (a9, .inl (cT, 400, .inl f)), (a6, .inl (cP, 248, .inr (.inl fP1)))]) (fun (u : (Nat → Value) × Nat × Int32 × Int32 × (Nat → Int64)) => match u with | (g1, j1, b1, x1, fP1) => []) (va_A [(h0, .inr (11, mo g)), (a9, .inl (cT, 400, .inl f)), (a6, .inl (cP, 248, .inr (.inl fP)))] sz)) (va_A [(h0, .inr (11, mo g)), (a9, .inl (cT, 400, .inl f)), (a6, .inl (cP, 248, .inr (.inl fP)))] sz)) 0 0 (va_A [(h0, .inr (11, mo g)), (a9, .inl (cT, 400, .inl f)), (a6, .inl (cP, 248, .inr (.inl fP)))] sz) := by
  refine Met.ofW (cc := cX9_value) (maxL := 10) (ret := none) (by decide) rfl ?_
  intro p e s m args below meth c s₁ B hml hv
  obtain ⟨rfl, hsz, hP, hK, hD0, hN, hZ, hR⟩ := hv
  have hx := B.exec
  have hb := B.bytes
  have hr := B.returns
  have hts := atoms_spec (ws := wp_X9_value) B.pre
  have hown : s.vm.findClass RX9 = some m.cls := findClass_of_methodNamed B.named
  have hlocks := B.notSynchronized
  have iRX9 : ∀ w ∈ u_ws RX9 TX9 60, w ∈ wp_X9_value := by decide +kernel
  subst hsz
  have hD := hD0.self (sz := s.heap.size)
  generalize hAe : va_A [(h0, .inr (11, mo g)), (a9, .inl (cT, 400, .inl f)), (a6, .inl (cP, 248, .inr (.inl fP)))] s.heap.size = A at hD hZ hR ⊢
  have hA : ∀ q : Nat, s.heap.size ≤ q → A q := fun q h => by rw [← hAe]; exact Or.inr h
  have hS : va_S A s.heap s.heap [] := va_S.rf
  have hP : va_P (dC, dI) vwCl [(h0, .inr (11, mo g)), (a9, .inl (cT, 400, .inl f)), (a6, .inl (cP, 248, .inr (.inl fP)))] s.heap := hP
  have hl := lv_entry ([.ref h0, .int p0, .int p1]) (n := 10) (Nat.le_of_ble_eq_true rfl)
  rw [lg_entry_eq]
  generalize (lg_sl ([.ref h0, .int p0, .int p1]) ++ List.replicate (10 - (lg_sl ([.ref h0, .int p0, .int p1])).length) Slot.unset).toArray = ls at hl ⊢
  have hl : lv_has ls 10 [(0, .ref h0), (1, .int p0), (2, .int p1)] := hl
  have hq1 := tsk_ge f n j
  have hq2 := tsk_le (f := f) (n := n) hj
  refine lv_aload_n hx hb dX9_value_0 rfl (lv_at hl 0 rfl) ?_
  have hFc := va_free (wc := [(h0, .inr (11, mo g)), (a9, .inl (cT, 400, .inl f))]) hD hS hA [0, 1] rfl
  refine va_calli (va_runV (As := []) (rest := []) ⟨hx, hb, hml, hown, hts⟩ (c_X9_next l dC dI h0 g a9 cT f j n fh9 fh11 fh12 (by omega) (by omega) s.heap.size) (cwV 0 hts gp_X9_value_X9_next_150 rfl rfl rfl (by decide +kernel) ⟨Nat.le_of_ble_eq_true rfl, Nat.le_of_ble_eq_true rfl⟩) ⟨Pr.blind _, va_recv hK hP (ci := 11) (q0 := 0) rfl rfl, fun U hU hW => ⟨rfl, Pr.at (hP.sub (ws' := [(h0, .inr (11, mo g)), (a9, .inl (cT, 400, .inl f))]) [0, 1] rfl) (hK.sub (tys' := [(cT, .int)]) [0] rfl) (hD.sub (ws' := [(h0, .inr (11, mo g)), (a9, .inl (cT, 400, .inl f))]) [0, 1] (by decide) rfl) hN hZ RO.nil hS hFc hU hW⟩⟩ rfl rfl hl.1 rfl (lv_room (Nat.le_of_ble_eq_true rfl)) dX9_value_1 ⟨Nat.le_of_ble_eq_true rfl, Nat.le_of_ble_eq_true rfl⟩) hS (fun q _ h => hFc q h) hFc (fun r_1 u t H1 locs ht hvm hw_2 hB hz1 hk1 hS => ?_)
  obtain ⟨g1_3, rfl⟩ : ∃ z, z = u := ⟨_, rfl⟩
  obtain ⟨hP, hD, hK⟩ := Bq.join (wr := [(a6, .inl (cP, 248, .inr (.inl fP)))]) hB ht hvm hP hD [0, 1] [2] rfl rfl (by decide) (by decide) hk1 hFc hK
  generalize H1 = H at hP hS ⊢
  have hP : va_P (dC, dI) vwCl [(a6, .inl (cP, 248, .inr (.inl fP))), (h0, .inr (11, mo g1_3)), (a9, .inl (cT, 400, .inl f))] H := hP
  have hD : va_D A [(a6, .inl (cP, 248, .inr (.inl fP))), (h0, .inr (11, mo g1_3)), (a9, .inl (cT, 400, .inl f))] := hD
  have hK : va_K (dC, dI) vwCl [(cT, .int), (cP, .long)] s := hK
  try dsimp only at hw_2
  obtain ⟨k_4, k_5, k_6, k_7⟩ := hw_2
  have w_8 : g1_3 9 = .ref a9 := (k_7 9 (by decide) (by decide)).trans fh9
  have w_9 : g1_3 12 = .int (nI n) := (k_7 12 (by decide) (by decide)).trans fh12
  have w_10 : g1_3 13 = .int b0 := (k_7 13 (by decide) (by decide)).trans fh13
  have w_11 : g1_3 18 = .int x18 := (k_7 18 (by decide) (by decide)).trans fh18
  have w_12 : g1_3 6 = .ref a6 := (k_7 6 (by decide) (by decide)).trans fh6
  have un_13 : ∀ j : Nat, j ≠ 11 → j ≠ 17 → g1_3 j = g j := fun j h11 h17 => (k_7 j h11 h17)
  refine W_toi (y := tat f n (tsk f n j)) k_4 ?_
  refine lv_pop hx hb dX9_value_4 rfl ?_
  refine lv_aload_n hx hb dX9_value_5 rfl (lv_at hl 0 rfl) ?_
  refine va_get (D := (dC, dI)) (ci := 11) (v := .int (nI (tsk f n j))) (C := RX9) (T := TX9) (N := 60) hx hb hts iRX9 hown hK hP 1 rfl rfl 11 (by decide) (hts (.fieldLink RX9 141 "RecordBenchModel" "at" "I") (by decide +kernel)) (fun _ h9 => h9) ((mo_get g1_3 (by decide)).trans (congrArg some k_5)) dX9_value_6 ?_
  refine lv_istore_n (lv' := [(3, .int (nI (tsk f n j))), (0, .ref h0), (1, .int p0), (2, .int p1)]) hx hb dX9_value_9 rfl hl (by decide) rfl (fun ls hl => ?_)
  refine lv_aload_n hx hb dX9_value_10 rfl (lv_at hl 1 rfl) ?_
  refine va_get (D := (dC, dI)) (ci := 11) (v := .int (nI (tsk f n j))) (C := RX9) (T := TX9) (N := 60) hx hb hts iRX9 hown hK hP 1 rfl rfl 11 (by decide) (hts (.fieldLink RX9 141 "RecordBenchModel" "at" "I") (by decide +kernel)) (fun _ h9 => h9) ((mo_get g1_3 (by decide)).trans (congrArg some k_5)) dX9_value_11 ?_
  refine lv_aload_n hx hb dX9_value_14 rfl (lv_at hl 1 rfl) ?_
  refine va_get (D := (dC, dI)) (ci := 11) (v := .int (nI n)) (C := RX9) (T := TX9) (N := 60) hx hb hts iRX9 hown hK hP 1 rfl rfl 12 (by decide) (hts (.fieldLink RX9 144 "RecordBenchModel" "size" "I") (by decide +kernel)) (fun _ h9 => h9) ((mo_get g1_3 (by decide)).trans (congrArg some w_9)) dX9_value_15 ?_
  refine W_join (at' := 39) (nL := 10) (st := []) (fun _ : { _u : Unit // tat f n (tsk f n j) ≠ 45 } => [(3, .int (nI (tsk f n j))), (0, .ref h0), (1, .int p0), (2, .int p1)]) (fun gj ls hl => ?_) (fun J_15 => ?_)
  · have hm0 := gj.2
    refine lv_iconst (v := 0) hx hb dX9_value_39 (by decide) ?_
    refine lv_istore (lv' := [(4, .int 0), (3, .int (nI (tsk f n j))), (0, .ref h0), (1, .int p0), (2, .int p1)]) hx hb dX9_value_40 hl (by decide) rfl (fun ls hl => ?_)
    refine lv_iload hx hb dX9_value_42 (lv_at hl 0 rfl) ?_
    refine lv_if_eq (tgt := 57) hx hb dX9_value_44 (by decide) (fun c_16 => ?_) (fun c_16 => absurd (by decide) c_16)
    have hpp : tfd f n (tsk f n j) = tsk f n j := if_neg hm0
    have hmi : tsg f n (tsk f n j) = 0 := if_neg hm0
    have hpn : tfd f n (tsk f n j) ≤ n := by rw [hpp]; exact hq2
    refine lv_aload_n hx hb dX9_value_57 rfl (lv_at hl 2 rfl) ?_
    refine va_get (D := (dC, dI)) (ci := 11) (v := .int (nI (tsk f n j))) (C := RX9) (T := TX9) (N := 60) hx hb hts iRX9 hown hK hP 1 rfl rfl 11 (by decide) (hts (.fieldLink RX9 141 "RecordBenchModel" "at" "I") (by decide +kernel)) (fun _ h9 => h9) ((mo_get g1_3 (by decide)).trans (congrArg some k_5)) dX9_value_58 ?_
    refine lv_istore (lv' := [(5, .int (nI (tsk f n j))), (4, .int 0), (3, .int (nI (tsk f n j))), (0, .ref h0), (1, .int p0), (2, .int p1)]) hx hb dX9_value_61 hl (by decide) rfl (fun ls hl => ?_)
    refine lv_lconst (v := 0) hx hb dX9_value_63 (by decide) ?_
    refine lv_lstore (lv' := [(6, .long 0), (5, .int (nI (tsk f n j))), (4, .int 0), (3, .int (nI (tsk f n j))), (0, .ref h0), (1, .int p0), (2, .int p1)]) hx hb dX9_value_64 hl (by decide) rfl (fun ls hl => ?_)
    refine lv_iconst (v := 0) hx hb dX9_value_66 (by decide) ?_
    refine lv_istore (lv' := [(8, .int 0), (6, .long 0), (5, .int (nI (tsk f n j))), (4, .int 0), (3, .int (nI (tsk f n j))), (0, .ref h0), (1, .int p0), (2, .int p1)]) hx hb dX9_value_67 hl (by decide) rfl (fun ls hl => ?_)
    refine W_loop (σ := Nat × (Nat → Value)) (D := (dC, dI)) (A := A) [] (fun (u : Nat × (Nat → Value)) => match u with | (i, g2) => [(6, .long ((tvs f (tfd f n (tsk f n j)) (i - tfd f n (tsk f n j))).1)), (8, .int ((tvs f (tfd f n (tsk f n j)) (i - tfd f n (tsk f n j))).2)), (0, .ref h0), (1, .int p0), (2, .int p1), (3, .int (nI (tsk f n j))), (4, .int 0), (5, .int (nI (tfd f n (tsk f n j))))]) (fun (u : Nat × (Nat → Value)) => match u with | (i, g2) => [(h0, .inr (11, mo g2)), (a9, .inl (cT, 400, .inl f)), (a6, .inl (cP, 248, .inr (.inl fP)))]) (fun (u : Nat × (Nat → Value)) => match u with | (i, g2) => (tfd f n (tsk f n j) ≤ i) ∧ (i ≤ tfd f n (tsk f n j) + 19) ∧ (i ≤ n) ∧ (tde f n i = tde f n (tfd f n (tsk f n j))) ∧ (g2 6 = .ref a6) ∧ (g2 9 = .ref a9) ∧ (g2 11 = .int (nI i)) ∧ (g2 12 = .int (nI n)) ∧ (g2 13 = .int b0) ∧ (g2 18 = .int x18) ∧ (∀ k : Nat, k ≠ 11 → k ≠ 17 → g2 k = g k)) (fun (u : Nat × (Nat → Value)) => match u with | (i, g2) => n - i) ?_ ((tfd f n (tsk f n j)), g1_3) ⟨(Nat.le_refl _), (by omega), hpn, rfl, w_12, w_8, (k_5.trans (by rw [hpp])), w_9, w_10, w_11, (fun k h1 h2 => un_13 k h1 h2)⟩ _ _ _ (hP.sub (ws' := [(h0, .inr (11, mo g1_3)), (a9, .inl (cT, 400, .inl f)), (a6, .inl (cP, 248, .inr (.inl fP)))]) [1, 2, 0] rfl) (hD.sub (ws' := [(h0, .inr (11, mo g1_3)), (a9, .inl (cT, 400, .inl f)), (a6, .inl (cP, 248, .inr (.inl fP)))]) [1, 2, 0] (by decide) rfl) hS (by show lv_has _ _ [(6, .long ((tvs f (tfd f n (tsk f n j)) (tfd f n (tsk f n j) - tfd f n (tsk f n j))).1)), (8, .int ((tvs f (tfd f n (tsk f n j)) (tfd f n (tsk f n j) - tfd f n (tsk f n j))).2)), (0, .ref h0), (1, .int p0), (2, .int p1), (3, .int (nI (tsk f n j))), (4, .int 0), (5, .int (nI (tfd f n (tsk f n j))))]; rw [Nat.sub_self, hpp]; exact lv_sub hl [1, 0, 5, 6, 7, 4, 3, 2] rfl)
    intro u hI H locs ls hP hD hS hl ih
    obtain ⟨i, g2⟩ := u
    try dsimp only at hI
    obtain ⟨hi1, hi2, hi3, hde, h6, h9, h11, h12, h13, h18, hun⟩ := hI
    have hP : va_P (dC, dI) vwCl [(h0, .inr (11, mo g2)), (a9, .inl (cT, 400, .inl f)), (a6, .inl (cP, 248, .inr (.inl fP)))] H := hP
    have hD : va_D A [(h0, .inr (11, mo g2)), (a9, .inl (cT, 400, .inl f)), (a6, .inl (cP, 248, .inr (.inl fP)))] := hD
    have hl : lv_has ls 10 [(6, .long ((tvs f (tfd f n (tsk f n j)) (i - tfd f n (tsk f n j))).1)), (8, .int ((tvs f (tfd f n (tsk f n j)) (i - tfd f n (tsk f n j))).2)), (0, .ref h0), (1, .int p0), (2, .int p1), (3, .int (nI (tsk f n j))), (4, .int 0), (5, .int (nI (tfd f n (tsk f n j))))] := hl
    refine lv_aload_n hx hb dX9_value_69 rfl (lv_at hl 2 rfl) ?_
    refine va_get (D := (dC, dI)) (ci := 11) (v := .int (nI i)) (C := RX9) (T := TX9) (N := 60) hx hb hts iRX9 hown hK hP 0 rfl rfl 11 (by decide) (hts (.fieldLink RX9 141 "RecordBenchModel" "at" "I") (by decide +kernel)) (fun _ h9 => h9) ((mo_get g2 (by decide)).trans (congrArg some h11)) dX9_value_70 ?_
    refine lv_aload_n hx hb dX9_value_73 rfl (lv_at hl 2 rfl) ?_
    refine va_get (D := (dC, dI)) (ci := 11) (v := .int (nI n)) (C := RX9) (T := TX9) (N := 60) hx hb hts iRX9 hown hK hP 0 rfl rfl 12 (by decide) (hts (.fieldLink RX9 144 "RecordBenchModel" "size" "I") (by decide +kernel)) (fun _ h9 => h9) ((mo_get g2 (by decide)).trans (congrArg some h12)) dX9_value_74 ?_
    refine lv_icmp_ge (tgt := 198) hx hb dX9_value_77 (by decide) (fun c_17 => ?_) (fun c_17 => ?_)
    · have htd : tde f n (tfd f n (tsk f n j)) = i := hde.symm.trans (tde_no (fun h => absurd h.1 (by have := nI_leN (by omega) (by omega) c_17; omega)))
      refine lv_aload_n hx hb dX9_value_198 rfl (lv_at hl 2 rfl) ?_
      refine va_get (D := (dC, dI)) (ci := 11) (v := .int (nI i)) (C := RX9) (T := TX9) (N := 60) hx hb hts iRX9 hown hK hP 0 rfl rfl 11 (by decide) (hts (.fieldLink RX9 141 "RecordBenchModel" "at" "I") (by decide +kernel)) (fun _ h9 => h9) ((mo_get g2 (by decide)).trans (congrArg some h11)) dX9_value_199 ?_
      refine lv_iload hx hb dX9_value_202 (lv_at hl 7 rfl) ?_
      refine lv_icmp_ne (tgt := 217) hx hb dX9_value_204 (by decide) (fun c_18 => ?_) (fun c_18 => ?_)
      · refine lv_aload_n hx hb dX9_value_217 rfl (lv_at hl 2 rfl) ?_
        refine lv_aload_n hx hb dX9_value_218 rfl (lv_at hl 2 rfl) ?_
        refine va_get (D := (dC, dI)) (ci := 11) (v := .int (nI i)) (C := RX9) (T := TX9) (N := 60) hx hb hts iRX9 hown hK hP 0 rfl rfl 11 (by decide) (hts (.fieldLink RX9 141 "RecordBenchModel" "at" "I") (by decide +kernel)) (fun _ h9 => h9) ((mo_get g2 (by decide)).trans (congrArg some h11)) dX9_value_219 ?_
        refine va_put (D := (dC, dI)) (ci := 11) (v := .int (nI i)) (ty := .int) (C := RX9) (T := TX9) (N := 60) hx hb hts iRX9 tyX9 tyX9_ok nmX9 hown hK hP hD hS 0 rfl rfl 18 (by decide) (hts (.fieldLink RX9 162 "RecordBenchModel" "ended" "I") (by decide +kernel)) (fun _ h9 => h9) rfl (by decide +kernel) rfl rfl (by rw [mo_len]; decide) dX9_value_222 (fun H locs hP hD hS => ?_)
        obtain ⟨g_19, eg_19⟩ : ∃ y, y = va_up g2 18 (.int (nI i)) := ⟨_, rfl⟩
        have hP : va_P (dC, dI) vwCl [(h0, .inr (11, mo g_19)), (a9, .inl (cT, 400, .inl f)), (a6, .inl (cP, 248, .inr (.inl fP)))] H := by rw [eg_19, ← mo_set g2 (by decide)]; exact hP
        have hD : va_D A [(h0, .inr (11, mo g_19)), (a9, .inl (cT, 400, .inl f)), (a6, .inl (cP, 248, .inr (.inl fP)))] := by rw [eg_19, ← mo_set g2 (by decide)]; exact hD
        have g_19h6 : g_19 6 = .ref a6 := by rw [eg_19, va_up_ne _ _ (by decide)]; exact h6
        have g_19h9 : g_19 9 = .ref a9 := by rw [eg_19, va_up_ne _ _ (by decide)]; exact h9
        have g_19h11 : g_19 11 = .int (nI i) := by rw [eg_19, va_up_ne _ _ (by decide)]; exact h11
        have g_19h12 : g_19 12 = .int (nI n) := by rw [eg_19, va_up_ne _ _ (by decide)]; exact h12
        have g_19h13 : g_19 13 = .int b0 := by rw [eg_19, va_up_ne _ _ (by decide)]; exact h13
        have g_19h18 : g_19 18 = .int (nI i) := by rw [eg_19, va_up_self]
        have ung_19 : ∀ j : Nat, j ≠ 11 → j ≠ 17 → j ≠ 18 → g_19 j = g j := fun j h11 h17 h18 => by rw [eg_19, va_up_ne _ _ h18]; exact hun j h11 h17
        refine lv_iload hx hb dX9_value_225 (lv_at hl 6 rfl) ?_
        refine lv_if_ne (tgt := 242) hx hb dX9_value_227 (by decide) (fun c_20 => absurd (by decide) c_20) (fun c_20 => ?_)
        refine lv_lload hx hb dX9_value_230 (lv_at hl 0 rfl) ?_
        refine lv_ldc2 hx hb hown (hts (.constantLong RX9 227 (-9223372036854775808)) (by decide +kernel)) dX9_value_232 ?_
        refine W.lcmp hx hb dX9_value_235 ?_
        refine lv_if_ne (tgt := 242) hx hb dX9_value_236 (by decide) (fun c_21 => ?_) (fun c_21 => ?_)
        · refine lv_iload hx hb dX9_value_242 (lv_at hl 6 rfl) ?_
          refine lv_if_ne (tgt := 253) hx hb dX9_value_244 (by decide) (fun c_22 => absurd (by decide) c_22) (fun c_22 => ?_)
          refine lv_lconst (v := 0) hx hb dX9_value_247 (by decide) ?_
          refine lv_lload hx hb dX9_value_248 (lv_at hl 0 rfl) ?_
          refine lv_lsub hx hb dX9_value_250 ?_
          refine lv_lstore (lv' := [(6, .long (0 - ((tvs f (tfd f n (tsk f n j)) (i - tfd f n (tsk f n j))).1))), (8, .int ((tvs f (tfd f n (tsk f n j)) (i - tfd f n (tsk f n j))).2)), (0, .ref h0), (1, .int p0), (2, .int p1), (3, .int (nI (tsk f n j))), (4, .int 0), (5, .int (nI (tfd f n (tsk f n j))))]) hx hb dX9_value_251 hl (by decide) rfl (fun ls hl => ?_)
          refine lv_iload hx hb dX9_value_253 (lv_at hl 1 rfl) ?_
          refine lv_if_ne (tgt := 267) hx hb dX9_value_255 (by decide) (fun c_23 => ?_) (fun c_23 => ?_)
          · refine lv_aload_n hx hb dX9_value_267 rfl (lv_at hl 2 rfl) ?_
            refine lv_iconst (v := 2) hx hb dX9_value_268 (by decide) ?_
            refine lv_iload_n hx hb dX9_value_269 rfl (lv_at hl 5 rfl) ?_
            have hFc := va_free (wc := [(h0, .inr (11, mo g_19))]) hD hS hA [0] rfl
            refine va_callv (va_runV (As := [.int 2, .int (nI (tsk f n j))]) (rest := []) ⟨hx, hb, hml, hown, hts⟩ (c_X9_fail l dC dI h0 g_19 b0 g_19h13 2 (nI (tsk f n j)) (by decide) H.size) (cwV 2 hts gp_X9_value_X9_fail_154 rfl rfl rfl (by decide +kernel) ⟨Nat.le_of_ble_eq_true rfl, Nat.le_of_ble_eq_true rfl⟩) ⟨Pr.blind _, va_recv hK hP (ci := 11) (q0 := 0) rfl rfl, fun U hU hW => ⟨rfl, Pr.at (hP.sub (ws' := [(h0, .inr (11, mo g_19))]) [0] rfl) (hK.sub (tys' := []) [] rfl) (hD.sub (ws' := [(h0, .inr (11, mo g_19))]) [0] (by decide) rfl) hN hZ RO.nil hS hFc hU hW⟩⟩ rfl rfl hl.1 rfl (lv_room (Nat.le_of_ble_eq_true rfl)) dX9_value_270 ⟨Nat.le_of_ble_eq_true rfl, Nat.le_of_ble_eq_true rfl⟩) hS (fun q _ h => hFc q h) hFc (fun u t H1 locs ht hvm hw_25 hB hz1 hk1 hS => ?_)
            obtain ⟨g1_26, b1_27⟩ := u
            obtain ⟨hP, hD, hK⟩ := Bq.join (wr := [(a9, .inl (cT, 400, .inl f)), (a6, .inl (cP, 248, .inr (.inl fP)))]) hB ht hvm hP hD [0] [1, 2] rfl rfl (by decide) (by decide) hk1 hFc hK
            generalize H1 = H at hP hS ⊢
            have hP : va_P (dC, dI) vwCl [(a9, .inl (cT, 400, .inl f)), (a6, .inl (cP, 248, .inr (.inl fP))), (h0, .inr (11, mo g1_26))] H := hP
            have hD : va_D A [(a9, .inl (cT, 400, .inl f)), (a6, .inl (cP, 248, .inr (.inl fP))), (h0, .inr (11, mo g1_26))] := hD
            have hK : va_K (dC, dI) vwCl [(cT, .int), (cP, .long)] s := hK
            try dsimp only at hw_25
            obtain ⟨k_28, k_29, k_30⟩ := hw_25
            have w_31 : g1_26 6 = .ref a6 := (k_30 6 (by decide) (by decide)).trans g_19h6
            have w_32 : g1_26 9 = .ref a9 := (k_30 9 (by decide) (by decide)).trans g_19h9
            have w_33 : g1_26 11 = .int (nI i) := (k_30 11 (by decide) (by decide)).trans g_19h11
            have w_34 : g1_26 12 = .int (nI n) := (k_30 12 (by decide) (by decide)).trans g_19h12
            have w_35 : g1_26 18 = .int (nI i) := (k_30 18 (by decide) (by decide)).trans g_19h18
            have un_36 : ∀ j : Nat, j ≠ 11 → j ≠ 13 → j ≠ 14 → j ≠ 17 → j ≠ 18 → g1_26 j = g j := fun j h11 h13 h14 h17 h18 => (k_30 j h13 h14).trans (ung_19 j h11 h17 h18)
            refine lv_aload_n hx hb dX9_value_273 rfl (lv_at hl 2 rfl) ?_
            refine va_get (D := (dC, dI)) (ci := 11) (v := .ref a6) (C := RX9) (T := TX9) (N := 60) hx hb hts iRX9 hown hK hP 2 rfl rfl 6 (by decide) (hts (.fieldLink RX9 30 "RecordBenchModel" "plain" "[J") (by decide +kernel)) (fun _ h9 => h9) ((mo_get g1_26 (by decide)).trans (congrArg some w_31)) dX9_value_274 ?_
            refine lv_iload_n hx hb dX9_value_277 rfl (lv_at hl 3 rfl) ?_
            refine lv_lload hx hb dX9_value_278 (lv_at hl 0 rfl) ?_
            refine va_last hx hb hK hP hD hS 1 1 rfl rfl hp0 dX9_value_280 (fun H locs hP hD hS => ?_)
            obtain ⟨f_37, ef_37⟩ : ∃ y : Nat → Int64, y = vp_updL fP (p0 : Int32).toNatClampNeg (0 - ((tvs f (tfd f n (tsk f n j)) (i - tfd f n (tsk f n j))).1)) := ⟨_, rfl⟩
            have hP : va_P (dC, dI) vwCl [(a9, .inl (cT, 400, .inl f)), (a6, .inl (cP, 248, .inr (.inl f_37))), (h0, .inr (11, mo g1_26))] H := by rw [ef_37]; exact hP
            have hD : va_D A [(a9, .inl (cT, 400, .inl f)), (a6, .inl (cP, 248, .inr (.inl f_37))), (h0, .inr (11, mo g1_26))] := by rw [ef_37]; exact hD
            have hP9 := hP.sub (ws' := [(h0, .inr (11, mo g1_26)), (a9, .inl (cT, 400, .inl f)), (a6, .inl (cP, 248, .inr (.inl f_37)))]) [2, 0, 1] rfl
            have hD9 := hD.sub (ws' := [(h0, .inr (11, mo g1_26)), (a9, .inl (cT, 400, .inl f)), (a6, .inl (cP, 248, .inr (.inl f_37)))]) [2, 0, 1] (by decide) rfl
            have hK9 := hK.sub (tys' := []) [] rfl
            exact W.vret hx hb hr (fun t ht hW => ⟨⟨(g1_26, i, b1_27, (nI i), f_37), rfl, ⟨Or.inr ⟨fun h => c_23 (by have := h.2.2.1; rw [htd] at this; exact this), hi3, k_28, fun x hx => by rw [ef_37]; exact pk_uLn hx⟩, w_33, k_29, w_35, (fun j h11 h13 h14 h17 h18 => un_36 j h11 h13 h14 h17 h18)⟩, by rw [ht]; exact hP9, va_K.moved hW.alike hK9, hD9⟩, hS.F ht⟩) hS.2.2 dX9_value_281
          · refine lv_lload hx hb dX9_value_258 (lv_at hl 0 rfl) ?_
            refine lv_iload_n hx hb dX9_value_260 rfl (lv_at hl 4 rfl) ?_
            have hFc := va_free (wc := []) hD hS hA [] rfl
            refine va_calli (va_runS (As := [.long (0 - ((tvs f (tfd f n (tsk f n j)) (i - tfd f n (tsk f n j))).1)), .int p1]) (rest := []) ⟨hx, hb, hml, hown, hts⟩ (c_X9_isOf l dC dI (0 - ((tvs f (tfd f n (tsk f n j)) (i - tfd f n (tsk f n j))).1)) p1 H.size) (cwS 2 hts gp_X9_value_X9_isOf_229 rfl rfl rfl (by decide +kernel) ⟨Nat.le_of_ble_eq_true rfl, Nat.le_of_ble_eq_true rfl⟩) ⟨Pr.blind _, fun U hU hW => ⟨rfl, Pr.at (hP.sub (ws' := []) [] rfl) (hK.sub (tys' := []) [] rfl) (hD.sub (ws' := []) [] (by decide) rfl) hN hZ RO.nil hS hFc hU hW⟩⟩ rfl rfl hl.1 rfl (lv_room (Nat.le_of_ble_eq_true rfl)) dX9_value_261 ⟨Nat.le_of_ble_eq_true rfl, Nat.le_of_ble_eq_true rfl⟩) hS (fun q _ h => hFc q h) hFc (fun r_38 u t H1 locs ht hvm hw_39 hB hz1 hk1 hS => ?_)
            obtain ⟨hP, hD, hK⟩ := Bq.join (wr := [(h0, .inr (11, mo g_19)), (a9, .inl (cT, 400, .inl f)), (a6, .inl (cP, 248, .inr (.inl fP)))]) hB ht hvm hP hD [] [0, 1, 2] rfl rfl (by decide) (by decide) hk1 hFc hK
            generalize H1 = H at hP hS ⊢
            have hP : va_P (dC, dI) vwCl [(h0, .inr (11, mo g_19)), (a9, .inl (cT, 400, .inl f)), (a6, .inl (cP, 248, .inr (.inl fP)))] H := hP
            have hD : va_D A [(h0, .inr (11, mo g_19)), (a9, .inl (cT, 400, .inl f)), (a6, .inl (cP, 248, .inr (.inl fP)))] := hD
            have hK : va_K (dC, dI) vwCl [(cT, .int), (cP, .long)] s := hK
            try dsimp only at hw_39
            have k_40 := hw_39
            rcases k_40 with ⟨ho, rfl⟩ | ⟨ho, rfl⟩
            · refine W.eq (g2 := F0 m 264 ls [.int 1]) rfl ?_
              refine lv_if_ne (tgt := 273) hx hb dX9_value_264 (by decide) (fun c_41 => ?_) (fun c_41 => absurd c_41 (by decide))
              refine lv_aload_n hx hb dX9_value_273 rfl (lv_at hl 2 rfl) ?_
              refine va_get (D := (dC, dI)) (ci := 11) (v := .ref a6) (C := RX9) (T := TX9) (N := 60) hx hb hts iRX9 hown hK hP 0 rfl rfl 6 (by decide) (hts (.fieldLink RX9 30 "RecordBenchModel" "plain" "[J") (by decide +kernel)) (fun _ h9 => h9) ((mo_get g_19 (by decide)).trans (congrArg some g_19h6)) dX9_value_274 ?_
              refine lv_iload_n hx hb dX9_value_277 rfl (lv_at hl 3 rfl) ?_
              refine lv_lload hx hb dX9_value_278 (lv_at hl 0 rfl) ?_
              refine va_last hx hb hK hP hD hS 2 1 rfl rfl hp0 dX9_value_280 (fun H locs hP hD hS => ?_)
              obtain ⟨f_42, ef_42⟩ : ∃ y : Nat → Int64, y = vp_updL fP (p0 : Int32).toNatClampNeg (0 - ((tvs f (tfd f n (tsk f n j)) (i - tfd f n (tsk f n j))).1)) := ⟨_, rfl⟩
              have hP : va_P (dC, dI) vwCl [(h0, .inr (11, mo g_19)), (a9, .inl (cT, 400, .inl f)), (a6, .inl (cP, 248, .inr (.inl f_42)))] H := by rw [ef_42]; exact hP
              have hD : va_D A [(h0, .inr (11, mo g_19)), (a9, .inl (cT, 400, .inl f)), (a6, .inl (cP, 248, .inr (.inl f_42)))] := by rw [ef_42]; exact hD
              have hP9 := hP.sub (ws' := [(h0, .inr (11, mo g_19)), (a9, .inl (cT, 400, .inl f)), (a6, .inl (cP, 248, .inr (.inl f_42)))]) [0, 1, 2] rfl
              have hD9 := hD.sub (ws' := [(h0, .inr (11, mo g_19)), (a9, .inl (cT, 400, .inl f)), (a6, .inl (cP, 248, .inr (.inl f_42)))]) [0, 1, 2] (by decide) rfl
              have hK9 := hK.sub (tys' := []) [] rfl
              exact W.vret hx hb hr (fun t ht hW => ⟨⟨(g_19, i, b0, (nI i), f_42), rfl, ⟨Or.inl ⟨⟨by rw [htd]; exact fun h => c_18 (by rw [h]), by rw [htd]; omega, by rw [htd]; exact ⟨c_23, (fun h => c_21 ((lg_cmp_eq _ _).mpr h.2)), by rw [tvv, hmi, if_pos rfl]; exact ho⟩⟩, htd.symm, rfl, by rw [htd], by rw [ef_42, htd, tvv, hmi, if_pos rfl]⟩, g_19h11, g_19h13, g_19h18, (fun j h11 h13 h14 h17 h18 => ung_19 j h11 h17 h18)⟩, by rw [ht]; exact hP9, va_K.moved hW.alike hK9, hD9⟩, hS.F ht⟩) hS.2.2 dX9_value_281
            · refine W.eq (g2 := F0 m 264 ls [.int 0]) rfl ?_
              refine lv_if_ne (tgt := 273) hx hb dX9_value_264 (by decide) (fun c_43 => absurd (by decide) c_43) (fun c_43 => ?_)
              refine lv_aload_n hx hb dX9_value_267 rfl (lv_at hl 2 rfl) ?_
              refine lv_iconst (v := 2) hx hb dX9_value_268 (by decide) ?_
              refine lv_iload_n hx hb dX9_value_269 rfl (lv_at hl 5 rfl) ?_
              have hFc := va_free (wc := [(h0, .inr (11, mo g_19))]) hD hS hA [0] rfl
              refine va_callv (va_runV (As := [.int 2, .int (nI (tsk f n j))]) (rest := []) ⟨hx, hb, hml, hown, hts⟩ (c_X9_fail l dC dI h0 g_19 b0 g_19h13 2 (nI (tsk f n j)) (by decide) H.size) (cwV 2 hts gp_X9_value_X9_fail_154 rfl rfl rfl (by decide +kernel) ⟨Nat.le_of_ble_eq_true rfl, Nat.le_of_ble_eq_true rfl⟩) ⟨Pr.blind _, va_recv hK hP (ci := 11) (q0 := 0) rfl rfl, fun U hU hW => ⟨rfl, Pr.at (hP.sub (ws' := [(h0, .inr (11, mo g_19))]) [0] rfl) (hK.sub (tys' := []) [] rfl) (hD.sub (ws' := [(h0, .inr (11, mo g_19))]) [0] (by decide) rfl) hN hZ RO.nil hS hFc hU hW⟩⟩ rfl rfl hl.1 rfl (lv_room (Nat.le_of_ble_eq_true rfl)) dX9_value_270 ⟨Nat.le_of_ble_eq_true rfl, Nat.le_of_ble_eq_true rfl⟩) hS (fun q _ h => hFc q h) hFc (fun u t H1 locs ht hvm hw_45 hB hz1 hk1 hS => ?_)
              obtain ⟨g1_46, b1_47⟩ := u
              obtain ⟨hP, hD, hK⟩ := Bq.join (wr := [(a9, .inl (cT, 400, .inl f)), (a6, .inl (cP, 248, .inr (.inl fP)))]) hB ht hvm hP hD [0] [1, 2] rfl rfl (by decide) (by decide) hk1 hFc hK
              generalize H1 = H at hP hS ⊢
              have hP : va_P (dC, dI) vwCl [(a9, .inl (cT, 400, .inl f)), (a6, .inl (cP, 248, .inr (.inl fP))), (h0, .inr (11, mo g1_46))] H := hP
              have hD : va_D A [(a9, .inl (cT, 400, .inl f)), (a6, .inl (cP, 248, .inr (.inl fP))), (h0, .inr (11, mo g1_46))] := hD
              have hK : va_K (dC, dI) vwCl [(cT, .int), (cP, .long)] s := hK
              try dsimp only at hw_45
              obtain ⟨k_48, k_49, k_50⟩ := hw_45
              have w_51 : g1_46 6 = .ref a6 := (k_50 6 (by decide) (by decide)).trans g_19h6
              have w_52 : g1_46 9 = .ref a9 := (k_50 9 (by decide) (by decide)).trans g_19h9
              have w_53 : g1_46 11 = .int (nI i) := (k_50 11 (by decide) (by decide)).trans g_19h11
              have w_54 : g1_46 12 = .int (nI n) := (k_50 12 (by decide) (by decide)).trans g_19h12
              have w_55 : g1_46 18 = .int (nI i) := (k_50 18 (by decide) (by decide)).trans g_19h18
              have un_56 : ∀ j : Nat, j ≠ 11 → j ≠ 13 → j ≠ 14 → j ≠ 17 → j ≠ 18 → g1_46 j = g j := fun j h11 h13 h14 h17 h18 => (k_50 j h13 h14).trans (ung_19 j h11 h17 h18)
              refine lv_aload_n hx hb dX9_value_273 rfl (lv_at hl 2 rfl) ?_
              refine va_get (D := (dC, dI)) (ci := 11) (v := .ref a6) (C := RX9) (T := TX9) (N := 60) hx hb hts iRX9 hown hK hP 2 rfl rfl 6 (by decide) (hts (.fieldLink RX9 30 "RecordBenchModel" "plain" "[J") (by decide +kernel)) (fun _ h9 => h9) ((mo_get g1_46 (by decide)).trans (congrArg some w_51)) dX9_value_274 ?_
              refine lv_iload_n hx hb dX9_value_277 rfl (lv_at hl 3 rfl) ?_
              refine lv_lload hx hb dX9_value_278 (lv_at hl 0 rfl) ?_
              refine va_last hx hb hK hP hD hS 1 1 rfl rfl hp0 dX9_value_280 (fun H locs hP hD hS => ?_)
              obtain ⟨f_57, ef_57⟩ : ∃ y : Nat → Int64, y = vp_updL fP (p0 : Int32).toNatClampNeg (0 - ((tvs f (tfd f n (tsk f n j)) (i - tfd f n (tsk f n j))).1)) := ⟨_, rfl⟩
              have hP : va_P (dC, dI) vwCl [(a9, .inl (cT, 400, .inl f)), (a6, .inl (cP, 248, .inr (.inl f_57))), (h0, .inr (11, mo g1_46))] H := by rw [ef_57]; exact hP
              have hD : va_D A [(a9, .inl (cT, 400, .inl f)), (a6, .inl (cP, 248, .inr (.inl f_57))), (h0, .inr (11, mo g1_46))] := by rw [ef_57]; exact hD
              have hP9 := hP.sub (ws' := [(h0, .inr (11, mo g1_46)), (a9, .inl (cT, 400, .inl f)), (a6, .inl (cP, 248, .inr (.inl f_57)))]) [2, 0, 1] rfl
              have hD9 := hD.sub (ws' := [(h0, .inr (11, mo g1_46)), (a9, .inl (cT, 400, .inl f)), (a6, .inl (cP, 248, .inr (.inl f_57)))]) [2, 0, 1] (by decide) rfl
              have hK9 := hK.sub (tys' := []) [] rfl
              exact W.vret hx hb hr (fun t ht hW => ⟨⟨(g1_46, i, b1_47, (nI i), f_57), rfl, ⟨Or.inr ⟨fun h => ho (by have := h.2.2.2.2; rw [htd, tvv, hmi, if_pos rfl] at this; exact this), hi3, k_48, fun x hx => by rw [ef_57]; exact pk_uLn hx⟩, w_53, k_49, w_55, (fun j h11 h13 h14 h17 h18 => un_56 j h11 h13 h14 h17 h18)⟩, by rw [ht]; exact hP9, va_K.moved hW.alike hK9, hD9⟩, hS.F ht⟩) hS.2.2 dX9_value_281
        · refine lv_iconst (v := 1) hx hb dX9_value_239 (by decide) ?_
          refine lv_istore (lv' := [(8, .int 1), (6, .long ((tvs f (tfd f n (tsk f n j)) (i - tfd f n (tsk f n j))).1)), (0, .ref h0), (1, .int p0), (2, .int p1), (3, .int (nI (tsk f n j))), (4, .int 0), (5, .int (nI (tfd f n (tsk f n j))))]) hx hb dX9_value_240 hl (by decide) rfl (fun ls hl => ?_)
          refine lv_iload hx hb dX9_value_242 (lv_at hl 6 rfl) ?_
          refine lv_if_ne (tgt := 253) hx hb dX9_value_244 (by decide) (fun c_58 => absurd (by decide) c_58) (fun c_58 => ?_)
          refine lv_lconst (v := 0) hx hb dX9_value_247 (by decide) ?_
          refine lv_lload hx hb dX9_value_248 (lv_at hl 1 rfl) ?_
          refine lv_lsub hx hb dX9_value_250 ?_
          refine lv_lstore (lv' := [(6, .long (0 - ((tvs f (tfd f n (tsk f n j)) (i - tfd f n (tsk f n j))).1))), (8, .int 1), (0, .ref h0), (1, .int p0), (2, .int p1), (3, .int (nI (tsk f n j))), (4, .int 0), (5, .int (nI (tfd f n (tsk f n j))))]) hx hb dX9_value_251 hl (by decide) rfl (fun ls hl => ?_)
          refine lv_iload hx hb dX9_value_253 (lv_at hl 1 rfl) ?_
          refine lv_if_ne (tgt := 267) hx hb dX9_value_255 (by decide) (fun c_59 => ?_) (fun c_59 => absurd c_59 (by decide))
          refine lv_aload_n hx hb dX9_value_267 rfl (lv_at hl 2 rfl) ?_
          refine lv_iconst (v := 2) hx hb dX9_value_268 (by decide) ?_
          refine lv_iload_n hx hb dX9_value_269 rfl (lv_at hl 5 rfl) ?_
          have hFc := va_free (wc := [(h0, .inr (11, mo g_19))]) hD hS hA [0] rfl
          refine va_callv (va_runV (As := [.int 2, .int (nI (tsk f n j))]) (rest := []) ⟨hx, hb, hml, hown, hts⟩ (c_X9_fail l dC dI h0 g_19 b0 g_19h13 2 (nI (tsk f n j)) (by decide) H.size) (cwV 2 hts gp_X9_value_X9_fail_154 rfl rfl rfl (by decide +kernel) ⟨Nat.le_of_ble_eq_true rfl, Nat.le_of_ble_eq_true rfl⟩) ⟨Pr.blind _, va_recv hK hP (ci := 11) (q0 := 0) rfl rfl, fun U hU hW => ⟨rfl, Pr.at (hP.sub (ws' := [(h0, .inr (11, mo g_19))]) [0] rfl) (hK.sub (tys' := []) [] rfl) (hD.sub (ws' := [(h0, .inr (11, mo g_19))]) [0] (by decide) rfl) hN hZ RO.nil hS hFc hU hW⟩⟩ rfl rfl hl.1 rfl (lv_room (Nat.le_of_ble_eq_true rfl)) dX9_value_270 ⟨Nat.le_of_ble_eq_true rfl, Nat.le_of_ble_eq_true rfl⟩) hS (fun q _ h => hFc q h) hFc (fun u t H1 locs ht hvm hw_61 hB hz1 hk1 hS => ?_)
          obtain ⟨g1_62, b1_63⟩ := u
          obtain ⟨hP, hD, hK⟩ := Bq.join (wr := [(a9, .inl (cT, 400, .inl f)), (a6, .inl (cP, 248, .inr (.inl fP)))]) hB ht hvm hP hD [0] [1, 2] rfl rfl (by decide) (by decide) hk1 hFc hK
          generalize H1 = H at hP hS ⊢
          have hP : va_P (dC, dI) vwCl [(a9, .inl (cT, 400, .inl f)), (a6, .inl (cP, 248, .inr (.inl fP))), (h0, .inr (11, mo g1_62))] H := hP
          have hD : va_D A [(a9, .inl (cT, 400, .inl f)), (a6, .inl (cP, 248, .inr (.inl fP))), (h0, .inr (11, mo g1_62))] := hD
          have hK : va_K (dC, dI) vwCl [(cT, .int), (cP, .long)] s := hK
          try dsimp only at hw_61
          obtain ⟨k_64, k_65, k_66⟩ := hw_61
          have w_67 : g1_62 6 = .ref a6 := (k_66 6 (by decide) (by decide)).trans g_19h6
          have w_68 : g1_62 9 = .ref a9 := (k_66 9 (by decide) (by decide)).trans g_19h9
          have w_69 : g1_62 11 = .int (nI i) := (k_66 11 (by decide) (by decide)).trans g_19h11
          have w_70 : g1_62 12 = .int (nI n) := (k_66 12 (by decide) (by decide)).trans g_19h12
          have w_71 : g1_62 18 = .int (nI i) := (k_66 18 (by decide) (by decide)).trans g_19h18
          have un_72 : ∀ j : Nat, j ≠ 11 → j ≠ 13 → j ≠ 14 → j ≠ 17 → j ≠ 18 → g1_62 j = g j := fun j h11 h13 h14 h17 h18 => (k_66 j h13 h14).trans (ung_19 j h11 h17 h18)
          refine lv_aload_n hx hb dX9_value_273 rfl (lv_at hl 2 rfl) ?_
          refine va_get (D := (dC, dI)) (ci := 11) (v := .ref a6) (C := RX9) (T := TX9) (N := 60) hx hb hts iRX9 hown hK hP 2 rfl rfl 6 (by decide) (hts (.fieldLink RX9 30 "RecordBenchModel" "plain" "[J") (by decide +kernel)) (fun _ h9 => h9) ((mo_get g1_62 (by decide)).trans (congrArg some w_67)) dX9_value_274 ?_
          refine lv_iload_n hx hb dX9_value_277 rfl (lv_at hl 3 rfl) ?_
          refine lv_lload hx hb dX9_value_278 (lv_at hl 0 rfl) ?_
          refine va_last hx hb hK hP hD hS 1 1 rfl rfl hp0 dX9_value_280 (fun H locs hP hD hS => ?_)
          obtain ⟨f_73, ef_73⟩ : ∃ y : Nat → Int64, y = vp_updL fP (p0 : Int32).toNatClampNeg (0 - ((tvs f (tfd f n (tsk f n j)) (i - tfd f n (tsk f n j))).1)) := ⟨_, rfl⟩
          have hP : va_P (dC, dI) vwCl [(a9, .inl (cT, 400, .inl f)), (a6, .inl (cP, 248, .inr (.inl f_73))), (h0, .inr (11, mo g1_62))] H := by rw [ef_73]; exact hP
          have hD : va_D A [(a9, .inl (cT, 400, .inl f)), (a6, .inl (cP, 248, .inr (.inl f_73))), (h0, .inr (11, mo g1_62))] := by rw [ef_73]; exact hD
          have hP9 := hP.sub (ws' := [(h0, .inr (11, mo g1_62)), (a9, .inl (cT, 400, .inl f)), (a6, .inl (cP, 248, .inr (.inl f_73)))]) [2, 0, 1] rfl
          have hD9 := hD.sub (ws' := [(h0, .inr (11, mo g1_62)), (a9, .inl (cT, 400, .inl f)), (a6, .inl (cP, 248, .inr (.inl f_73)))]) [2, 0, 1] (by decide) rfl
          have hK9 := hK.sub (tys' := []) [] rfl
          exact W.vret hx hb hr (fun t ht hW => ⟨⟨(g1_62, i, b1_63, (nI i), f_73), rfl, ⟨Or.inr ⟨fun h => h.2.2.2.1 ⟨hmi, by rw [htd]; exact (lg_cmp_eq _ _).mp c_21⟩, hi3, k_64, fun x hx => by rw [ef_73]; exact pk_uLn hx⟩, w_69, k_65, w_71, (fun j h11 h13 h14 h17 h18 => un_72 j h11 h13 h14 h17 h18)⟩, by rw [ht]; exact hP9, va_K.moved hW.alike hK9, hD9⟩, hS.F ht⟩) hS.2.2 dX9_value_281
      · refine lv_aload_n hx hb dX9_value_207 rfl (lv_at hl 2 rfl) ?_
        refine lv_iconst (v := 1) hx hb dX9_value_208 (by decide) ?_
        refine lv_aload_n hx hb dX9_value_209 rfl (lv_at hl 2 rfl) ?_
        refine va_get (D := (dC, dI)) (ci := 11) (v := .int (nI i)) (C := RX9) (T := TX9) (N := 60) hx hb hts iRX9 hown hK hP 0 rfl rfl 11 (by decide) (hts (.fieldLink RX9 141 "RecordBenchModel" "at" "I") (by decide +kernel)) (fun _ h9 => h9) ((mo_get g2 (by decide)).trans (congrArg some h11)) dX9_value_210 ?_
        have hFc := va_free (wc := [(h0, .inr (11, mo g2))]) hD hS hA [0] rfl
        refine va_callv (va_runV (As := [.int 1, .int (nI i)]) (rest := []) ⟨hx, hb, hml, hown, hts⟩ (c_X9_fail l dC dI h0 g2 b0 h13 1 (nI i) (by decide) H.size) (cwV 2 hts gp_X9_value_X9_fail_154 rfl rfl rfl (by decide +kernel) ⟨Nat.le_of_ble_eq_true rfl, Nat.le_of_ble_eq_true rfl⟩) ⟨Pr.blind _, va_recv hK hP (ci := 11) (q0 := 0) rfl rfl, fun U hU hW => ⟨rfl, Pr.at (hP.sub (ws' := [(h0, .inr (11, mo g2))]) [0] rfl) (hK.sub (tys' := []) [] rfl) (hD.sub (ws' := [(h0, .inr (11, mo g2))]) [0] (by decide) rfl) hN hZ RO.nil hS hFc hU hW⟩⟩ rfl rfl hl.1 rfl (lv_room (Nat.le_of_ble_eq_true rfl)) dX9_value_213 ⟨Nat.le_of_ble_eq_true rfl, Nat.le_of_ble_eq_true rfl⟩) hS (fun q _ h => hFc q h) hFc (fun u t H1 locs ht hvm hw_75 hB hz1 hk1 hS => ?_)
        obtain ⟨g1_76, b1_77⟩ := u
        obtain ⟨hP, hD, hK⟩ := Bq.join (wr := [(a9, .inl (cT, 400, .inl f)), (a6, .inl (cP, 248, .inr (.inl fP)))]) hB ht hvm hP hD [0] [1, 2] rfl rfl (by decide) (by decide) hk1 hFc hK
        generalize H1 = H at hP hS ⊢
        have hP : va_P (dC, dI) vwCl [(a9, .inl (cT, 400, .inl f)), (a6, .inl (cP, 248, .inr (.inl fP))), (h0, .inr (11, mo g1_76))] H := hP
        have hD : va_D A [(a9, .inl (cT, 400, .inl f)), (a6, .inl (cP, 248, .inr (.inl fP))), (h0, .inr (11, mo g1_76))] := hD
        have hK : va_K (dC, dI) vwCl [(cT, .int), (cP, .long)] s := hK
        try dsimp only at hw_75
        obtain ⟨k_78, k_79, k_80⟩ := hw_75
        have w_81 : g1_76 6 = .ref a6 := (k_80 6 (by decide) (by decide)).trans h6
        have w_82 : g1_76 9 = .ref a9 := (k_80 9 (by decide) (by decide)).trans h9
        have w_83 : g1_76 11 = .int (nI i) := (k_80 11 (by decide) (by decide)).trans h11
        have w_84 : g1_76 12 = .int (nI n) := (k_80 12 (by decide) (by decide)).trans h12
        have w_85 : g1_76 18 = .int x18 := (k_80 18 (by decide) (by decide)).trans h18
        have un_86 : ∀ j : Nat, j ≠ 11 → j ≠ 13 → j ≠ 14 → j ≠ 17 → g1_76 j = g j := fun j h11 h13 h14 h17 => (k_80 j h13 h14).trans (hun j h11 h17)
        have hP9 := hP.sub (ws' := [(h0, .inr (11, mo g1_76)), (a9, .inl (cT, 400, .inl f)), (a6, .inl (cP, 248, .inr (.inl fP)))]) [2, 0, 1] rfl
        have hD9 := hD.sub (ws' := [(h0, .inr (11, mo g1_76)), (a9, .inl (cT, 400, .inl f)), (a6, .inl (cP, 248, .inr (.inl fP)))]) [2, 0, 1] (by decide) rfl
        have hK9 := hK.sub (tys' := []) [] rfl
        exact W.vret hx hb hr (fun t ht hW => ⟨⟨(g1_76, i, b1_77, x18, fP), rfl, ⟨Or.inr ⟨fun h => h.1 (by rw [htd]; exact (nI_eq (by omega) (by omega)).mp c_18), hi3, k_78, fun _ _ => rfl⟩, w_83, k_79, w_85, (fun j h11 h13 h14 h17 h18 => un_86 j h11 h13 h14 h17)⟩, by rw [ht]; exact hP9, va_K.moved hW.alike hK9, hD9⟩, hS.F ht⟩) hS.2.2 dX9_value_216
    · have hlt : i < n := nI_ltN (by omega) (by omega) c_17
      refine lv_aload_n hx hb dX9_value_80 rfl (lv_at hl 2 rfl) ?_
      refine va_get (D := (dC, dI)) (ci := 11) (v := .ref a9) (C := RX9) (T := TX9) (N := 60) hx hb hts iRX9 hown hK hP 0 rfl rfl 9 (by decide) (hts (.fieldLink RX9 39 "RecordBenchModel" "tape" "[I") (by decide +kernel)) (fun _ h9 => h9) ((mo_get g2 (by decide)).trans (congrArg some h9)) dX9_value_81 ?_
      refine lv_aload_n hx hb dX9_value_84 rfl (lv_at hl 2 rfl) ?_
      refine va_get (D := (dC, dI)) (ci := 11) (v := .int (nI i)) (C := RX9) (T := TX9) (N := 60) hx hb hts iRX9 hown hK hP 0 rfl rfl 11 (by decide) (hts (.fieldLink RX9 141 "RecordBenchModel" "at" "I") (by decide +kernel)) (fun _ h9 => h9) ((mo_get g2 (by decide)).trans (congrArg some h11)) dX9_value_85 ?_
      refine va_iald hx hb hK hP 1 0 rfl rfl (vp_in_nI (by omega) (by decide)) dX9_value_88 ?_
      refine W_toi (y := f i) (by rw [nI_clamp (by omega)]) ?_
      have hFc := va_free (wc := []) hD hS hA [] rfl
      refine va_calli (va_runS (As := [.int (f i)]) (rest := []) ⟨hx, hb, hml, hown, hts⟩ (c_X9_isDigit l dC dI (f i) H.size) (cwS 1 hts gp_X9_value_X9_isDigit_158 rfl rfl rfl (by decide +kernel) ⟨Nat.le_of_ble_eq_true rfl, Nat.le_of_ble_eq_true rfl⟩) ⟨Pr.blind _, fun U hU hW => ⟨rfl, Pr.at (hP.sub (ws' := []) [] rfl) (hK.sub (tys' := []) [] rfl) (hD.sub (ws' := []) [] (by decide) rfl) hN hZ RO.nil hS hFc hU hW⟩⟩ rfl rfl hl.1 rfl (lv_room (Nat.le_of_ble_eq_true rfl)) dX9_value_89 ⟨Nat.le_of_ble_eq_true rfl, Nat.le_of_ble_eq_true rfl⟩) hS (fun q _ h => hFc q h) hFc (fun r_87 u t H1 locs ht hvm hw_88 hB hz1 hk1 hS => ?_)
      obtain ⟨hP, hD, hK⟩ := Bq.join (wr := [(h0, .inr (11, mo g2)), (a9, .inl (cT, 400, .inl f)), (a6, .inl (cP, 248, .inr (.inl fP)))]) hB ht hvm hP hD [] [0, 1, 2] rfl rfl (by decide) (by decide) hk1 hFc hK
      generalize H1 = H at hP hS ⊢
      have hP : va_P (dC, dI) vwCl [(h0, .inr (11, mo g2)), (a9, .inl (cT, 400, .inl f)), (a6, .inl (cP, 248, .inr (.inl fP)))] H := hP
      have hD : va_D A [(h0, .inr (11, mo g2)), (a9, .inl (cT, 400, .inl f)), (a6, .inl (cP, 248, .inr (.inl fP)))] := hD
      have hK : va_K (dC, dI) vwCl [(cT, .int), (cP, .long)] s := hK
      try dsimp only at hw_88
      have k_89 := hw_88
      rcases k_89 with ⟨ho, rfl⟩ | ⟨ho, rfl⟩
      · refine W.eq (g2 := F0 m 92 ls [.int 1]) rfl ?_
        refine lv_if_eq (tgt := 198) hx hb dX9_value_92 (by decide) (fun c_90 => absurd c_90 (by decide)) (fun c_90 => ?_)
        refine lv_aload_n hx hb dX9_value_95 rfl (lv_at hl 2 rfl) ?_
        refine va_get (D := (dC, dI)) (ci := 11) (v := .int (nI i)) (C := RX9) (T := TX9) (N := 60) hx hb hts iRX9 hown hK hP 0 rfl rfl 11 (by decide) (hts (.fieldLink RX9 141 "RecordBenchModel" "at" "I") (by decide +kernel)) (fun _ h9 => h9) ((mo_get g2 (by decide)).trans (congrArg some h11)) dX9_value_96 ?_
        refine lv_iload hx hb dX9_value_99 (lv_at hl 7 rfl) ?_
        refine lv_isub hx hb dX9_value_101 ?_
        refine W_toi (y := nI (i - tfd f n (tsk f n j))) (pk_sub hi1) ?_
        refine lv_bipush (v := 19) hx hb dX9_value_102 (by decide) ?_
        refine lv_icmp_ne (tgt := 117) hx hb dX9_value_104 (by decide) (fun c_91 => ?_) (fun c_91 => ?_)
        · have hne : i - tfd f n (tsk f n j) ≠ 19 := fun h => c_91 (by rw [h]; rfl)
          refine lv_aload_n hx hb dX9_value_117 rfl (lv_at hl 2 rfl) ?_
          refine va_get (D := (dC, dI)) (ci := 11) (v := .ref a9) (C := RX9) (T := TX9) (N := 60) hx hb hts iRX9 hown hK hP 0 rfl rfl 9 (by decide) (hts (.fieldLink RX9 39 "RecordBenchModel" "tape" "[I") (by decide +kernel)) (fun _ h9 => h9) ((mo_get g2 (by decide)).trans (congrArg some h9)) dX9_value_118 ?_
          refine lv_aload_n hx hb dX9_value_121 rfl (lv_at hl 2 rfl) ?_
          refine va_get (D := (dC, dI)) (ci := 11) (v := .int (nI i)) (C := RX9) (T := TX9) (N := 60) hx hb hts iRX9 hown hK hP 0 rfl rfl 11 (by decide) (hts (.fieldLink RX9 141 "RecordBenchModel" "at" "I") (by decide +kernel)) (fun _ h9 => h9) ((mo_get g2 (by decide)).trans (congrArg some h11)) dX9_value_122 ?_
          refine va_iald hx hb hK hP 1 0 rfl rfl (vp_in_nI (by omega) (by decide)) dX9_value_125 ?_
          refine W_toi (y := f i) (by rw [nI_clamp (by omega)]) ?_
          refine lv_bipush (v := 48) hx hb dX9_value_126 (by decide) ?_
          refine lv_isub hx hb dX9_value_128 ?_
          refine lv_istore (lv' := [(9, .int ((f i) - 48)), (6, .long ((tvs f (tfd f n (tsk f n j)) (i - tfd f n (tsk f n j))).1)), (8, .int ((tvs f (tfd f n (tsk f n j)) (i - tfd f n (tsk f n j))).2)), (0, .ref h0), (1, .int p0), (2, .int p1), (3, .int (nI (tsk f n j))), (4, .int 0), (5, .int (nI (tfd f n (tsk f n j))))]) hx hb dX9_value_129 hl (by decide) rfl (fun ls hl => ?_)
          refine lv_iload hx hb dX9_value_131 (lv_at hl 2 rfl) ?_
          refine lv_if_ne (tgt := 161) hx hb dX9_value_133 (by decide) (fun c_92 => ?_) (fun c_92 => ?_)
          · refine lv_iconst (v := 1) hx hb dX9_value_161 (by decide) ?_
            refine lv_goto (tgt := 166) hx hb dX9_value_162 (by decide) ?_
            refine lv_istore (lv' := [(8, .int 1), (9, .int ((f i) - 48)), (6, .long ((tvs f (tfd f n (tsk f n j)) (i - tfd f n (tsk f n j))).1)), (0, .ref h0), (1, .int p0), (2, .int p1), (3, .int (nI (tsk f n j))), (4, .int 0), (5, .int (nI (tfd f n (tsk f n j))))]) hx hb dX9_value_166 hl (by decide) rfl (fun ls hl => ?_)
            refine lv_iload hx hb dX9_value_168 (lv_at hl 0 rfl) ?_
            refine lv_if_ne (tgt := 185) hx hb dX9_value_170 (by decide) (fun c_93 => ?_) (fun c_93 => absurd c_93 (by decide))
            refine lv_aload_n hx hb dX9_value_185 rfl (lv_at hl 3 rfl) ?_
            refine lv_dup hx hb dX9_value_186 rfl ?_
            refine va_get (D := (dC, dI)) (ci := 11) (v := .int (nI i)) (C := RX9) (T := TX9) (N := 60) hx hb hts iRX9 hown hK hP 0 rfl rfl 11 (by decide) (hts (.fieldLink RX9 141 "RecordBenchModel" "at" "I") (by decide +kernel)) (fun _ h9 => h9) ((mo_get g2 (by decide)).trans (congrArg some h11)) dX9_value_187 ?_
            refine lv_iconst (v := 1) hx hb dX9_value_190 (by decide) ?_
            refine lv_iadd hx hb dX9_value_191 ?_
            refine W_toi (y := nI (i + 1)) (nI_1 i) ?_
            refine va_put (D := (dC, dI)) (ci := 11) (v := .int (nI (i + 1))) (ty := .int) (C := RX9) (T := TX9) (N := 60) hx hb hts iRX9 tyX9 tyX9_ok nmX9 hown hK hP hD hS 0 rfl rfl 11 (by decide) (hts (.fieldLink RX9 141 "RecordBenchModel" "at" "I") (by decide +kernel)) (fun _ h9 => h9) rfl (by decide +kernel) rfl rfl (by rw [mo_len]; decide) dX9_value_192 (fun H locs hP hD hS => ?_)
            obtain ⟨g_94, eg_94⟩ : ∃ y, y = va_up g2 11 (.int (nI (i + 1))) := ⟨_, rfl⟩
            have hP : va_P (dC, dI) vwCl [(h0, .inr (11, mo g_94)), (a9, .inl (cT, 400, .inl f)), (a6, .inl (cP, 248, .inr (.inl fP)))] H := by rw [eg_94, ← mo_set g2 (by decide)]; exact hP
            have hD : va_D A [(h0, .inr (11, mo g_94)), (a9, .inl (cT, 400, .inl f)), (a6, .inl (cP, 248, .inr (.inl fP)))] := by rw [eg_94, ← mo_set g2 (by decide)]; exact hD
            have g_94h6 : g_94 6 = .ref a6 := by rw [eg_94, va_up_ne _ _ (by decide)]; exact h6
            have g_94h9 : g_94 9 = .ref a9 := by rw [eg_94, va_up_ne _ _ (by decide)]; exact h9
            have g_94h12 : g_94 12 = .int (nI n) := by rw [eg_94, va_up_ne _ _ (by decide)]; exact h12
            have g_94h13 : g_94 13 = .int b0 := by rw [eg_94, va_up_ne _ _ (by decide)]; exact h13
            have g_94h18 : g_94 18 = .int x18 := by rw [eg_94, va_up_ne _ _ (by decide)]; exact h18
            have g_94h11 : g_94 11 = .int (nI (i + 1)) := by rw [eg_94, va_up_self]
            have ung_94 : ∀ j : Nat, j ≠ 11 → j ≠ 17 → g_94 j = g j := fun j h11 h17 => by rw [eg_94, va_up_ne _ _ h11]; exact hun j h11 h17
            refine lv_goto (tgt := 69) hx hb dX9_value_195 (by decide) ?_
            exact ih ((i + 1), g_94) (by show n - (i + 1) < n - i; omega) ⟨(by omega), (by omega), (by omega), ((tde_go hlt ho).symm.trans hde), g_94h6, g_94h9, g_94h11, g_94h12, g_94h13, g_94h18, (fun k h1 h2 => ung_94 k h1 h2)⟩ _ _ _ (hP.sub (ws' := [(h0, .inr (11, mo g_94)), (a9, .inl (cT, 400, .inl f)), (a6, .inl (cP, 248, .inr (.inl fP)))]) [0, 1, 2] rfl) (hD.sub (ws' := [(h0, .inr (11, mo g_94)), (a9, .inl (cT, 400, .inl f)), (a6, .inl (cP, 248, .inr (.inl fP)))]) [0, 1, 2] (by decide) rfl) hS (by show lv_has _ _ [(6, .long ((tvs f (tfd f n (tsk f n j)) (i + 1 - tfd f n (tsk f n j))).1)), (8, .int ((tvs f (tfd f n (tsk f n j)) (i + 1 - tfd f n (tsk f n j))).2)), (0, .ref h0), (1, .int p0), (2, .int p1), (3, .int (nI (tsk f n j))), (4, .int 0), (5, .int (nI (tfd f n (tsk f n j))))]; rw [tvs_step hi1, stp, if_pos (Or.inl c_92)]; exact lv_sub hl [2, 0, 3, 4, 5, 6, 7, 8] rfl)
          · refine lv_lload hx hb dX9_value_136 (lv_at hl 1 rfl) ?_
            refine lv_ldc2 hx hb hown (hts (.constantLong RX9 223 (-922337203685477580)) (by decide +kernel)) dX9_value_138 ?_
            refine W.lcmp hx hb dX9_value_141 ?_
            refine lv_if_lt (tgt := 161) hx hb dX9_value_142 (by decide) (fun c_95 => ?_) (fun c_95 => ?_)
            · refine lv_iconst (v := 1) hx hb dX9_value_161 (by decide) ?_
              refine lv_goto (tgt := 166) hx hb dX9_value_162 (by decide) ?_
              refine lv_istore (lv' := [(8, .int 1), (9, .int ((f i) - 48)), (6, .long ((tvs f (tfd f n (tsk f n j)) (i - tfd f n (tsk f n j))).1)), (0, .ref h0), (1, .int p0), (2, .int p1), (3, .int (nI (tsk f n j))), (4, .int 0), (5, .int (nI (tfd f n (tsk f n j))))]) hx hb dX9_value_166 hl (by decide) rfl (fun ls hl => ?_)
              refine lv_iload hx hb dX9_value_168 (lv_at hl 0 rfl) ?_
              refine lv_if_ne (tgt := 185) hx hb dX9_value_170 (by decide) (fun c_96 => ?_) (fun c_96 => absurd c_96 (by decide))
              refine lv_aload_n hx hb dX9_value_185 rfl (lv_at hl 3 rfl) ?_
              refine lv_dup hx hb dX9_value_186 rfl ?_
              refine va_get (D := (dC, dI)) (ci := 11) (v := .int (nI i)) (C := RX9) (T := TX9) (N := 60) hx hb hts iRX9 hown hK hP 0 rfl rfl 11 (by decide) (hts (.fieldLink RX9 141 "RecordBenchModel" "at" "I") (by decide +kernel)) (fun _ h9 => h9) ((mo_get g2 (by decide)).trans (congrArg some h11)) dX9_value_187 ?_
              refine lv_iconst (v := 1) hx hb dX9_value_190 (by decide) ?_
              refine lv_iadd hx hb dX9_value_191 ?_
              refine W_toi (y := nI (i + 1)) (nI_1 i) ?_
              refine va_put (D := (dC, dI)) (ci := 11) (v := .int (nI (i + 1))) (ty := .int) (C := RX9) (T := TX9) (N := 60) hx hb hts iRX9 tyX9 tyX9_ok nmX9 hown hK hP hD hS 0 rfl rfl 11 (by decide) (hts (.fieldLink RX9 141 "RecordBenchModel" "at" "I") (by decide +kernel)) (fun _ h9 => h9) rfl (by decide +kernel) rfl rfl (by rw [mo_len]; decide) dX9_value_192 (fun H locs hP hD hS => ?_)
              obtain ⟨g_97, eg_97⟩ : ∃ y, y = va_up g2 11 (.int (nI (i + 1))) := ⟨_, rfl⟩
              have hP : va_P (dC, dI) vwCl [(h0, .inr (11, mo g_97)), (a9, .inl (cT, 400, .inl f)), (a6, .inl (cP, 248, .inr (.inl fP)))] H := by rw [eg_97, ← mo_set g2 (by decide)]; exact hP
              have hD : va_D A [(h0, .inr (11, mo g_97)), (a9, .inl (cT, 400, .inl f)), (a6, .inl (cP, 248, .inr (.inl fP)))] := by rw [eg_97, ← mo_set g2 (by decide)]; exact hD
              have g_97h6 : g_97 6 = .ref a6 := by rw [eg_97, va_up_ne _ _ (by decide)]; exact h6
              have g_97h9 : g_97 9 = .ref a9 := by rw [eg_97, va_up_ne _ _ (by decide)]; exact h9
              have g_97h12 : g_97 12 = .int (nI n) := by rw [eg_97, va_up_ne _ _ (by decide)]; exact h12
              have g_97h13 : g_97 13 = .int b0 := by rw [eg_97, va_up_ne _ _ (by decide)]; exact h13
              have g_97h18 : g_97 18 = .int x18 := by rw [eg_97, va_up_ne _ _ (by decide)]; exact h18
              have g_97h11 : g_97 11 = .int (nI (i + 1)) := by rw [eg_97, va_up_self]
              have ung_97 : ∀ j : Nat, j ≠ 11 → j ≠ 17 → g_97 j = g j := fun j h11 h17 => by rw [eg_97, va_up_ne _ _ h11]; exact hun j h11 h17
              refine lv_goto (tgt := 69) hx hb dX9_value_195 (by decide) ?_
              exact ih ((i + 1), g_97) (by show n - (i + 1) < n - i; omega) ⟨(by omega), (by omega), (by omega), ((tde_go hlt ho).symm.trans hde), g_97h6, g_97h9, g_97h11, g_97h12, g_97h13, g_97h18, (fun k h1 h2 => ung_97 k h1 h2)⟩ _ _ _ (hP.sub (ws' := [(h0, .inr (11, mo g_97)), (a9, .inl (cT, 400, .inl f)), (a6, .inl (cP, 248, .inr (.inl fP)))]) [0, 1, 2] rfl) (hD.sub (ws' := [(h0, .inr (11, mo g_97)), (a9, .inl (cT, 400, .inl f)), (a6, .inl (cP, 248, .inr (.inl fP)))]) [0, 1, 2] (by decide) rfl) hS (by show lv_has _ _ [(6, .long ((tvs f (tfd f n (tsk f n j)) (i + 1 - tfd f n (tsk f n j))).1)), (8, .int ((tvs f (tfd f n (tsk f n j)) (i + 1 - tfd f n (tsk f n j))).2)), (0, .ref h0), (1, .int p0), (2, .int p1), (3, .int (nI (tsk f n j))), (4, .int 0), (5, .int (nI (tfd f n (tsk f n j))))]; rw [tvs_step hi1, stp, if_pos (Or.inr (Or.inl ((lg_cmp_lt _ _).mp c_95)))]; exact lv_sub hl [2, 0, 3, 4, 5, 6, 7, 8] rfl)
            · refine lv_lload hx hb dX9_value_145 (lv_at hl 1 rfl) ?_
              refine lv_ldc2 hx hb hown (hts (.constantLong RX9 223 (-922337203685477580)) (by decide +kernel)) dX9_value_147 ?_
              refine W.lcmp hx hb dX9_value_150 ?_
              refine lv_if_ne (tgt := 165) hx hb dX9_value_151 (by decide) (fun c_98 => ?_) (fun c_98 => ?_)
              · refine lv_iconst (v := 0) hx hb dX9_value_165 (by decide) ?_
                refine lv_istore (lv' := [(8, .int 0), (9, .int ((f i) - 48)), (6, .long ((tvs f (tfd f n (tsk f n j)) (i - tfd f n (tsk f n j))).1)), (0, .ref h0), (1, .int p0), (2, .int p1), (3, .int (nI (tsk f n j))), (4, .int 0), (5, .int (nI (tfd f n (tsk f n j))))]) hx hb dX9_value_166 hl (by decide) rfl (fun ls hl => ?_)
                refine lv_iload hx hb dX9_value_168 (lv_at hl 0 rfl) ?_
                refine lv_if_ne (tgt := 185) hx hb dX9_value_170 (by decide) (fun c_99 => absurd (by decide) c_99) (fun c_99 => ?_)
                refine lv_ldc2 hx hb hown (hts (.constantLong RX9 225 (10)) (by decide +kernel)) dX9_value_173 ?_
                refine lv_lload hx hb dX9_value_176 (lv_at hl 2 rfl) ?_
                refine lv_lmul hx hb dX9_value_178 ?_
                refine lv_iload hx hb dX9_value_179 (lv_at hl 1 rfl) ?_
                refine lv_i2l (v := ((f i) - 48).toInt64) hx hb dX9_value_181 rfl ?_
                refine lv_lsub hx hb dX9_value_182 ?_
                refine lv_lstore (lv' := [(6, .long ((10 * ((tvs f (tfd f n (tsk f n j)) (i - tfd f n (tsk f n j))).1)) - (((f i) - 48).toInt64))), (8, .int 0), (9, .int ((f i) - 48)), (0, .ref h0), (1, .int p0), (2, .int p1), (3, .int (nI (tsk f n j))), (4, .int 0), (5, .int (nI (tfd f n (tsk f n j))))]) hx hb dX9_value_183 hl (by decide) rfl (fun ls hl => ?_)
                refine lv_aload_n hx hb dX9_value_185 rfl (lv_at hl 3 rfl) ?_
                refine lv_dup hx hb dX9_value_186 rfl ?_
                refine va_get (D := (dC, dI)) (ci := 11) (v := .int (nI i)) (C := RX9) (T := TX9) (N := 60) hx hb hts iRX9 hown hK hP 0 rfl rfl 11 (by decide) (hts (.fieldLink RX9 141 "RecordBenchModel" "at" "I") (by decide +kernel)) (fun _ h9 => h9) ((mo_get g2 (by decide)).trans (congrArg some h11)) dX9_value_187 ?_
                refine lv_iconst (v := 1) hx hb dX9_value_190 (by decide) ?_
                refine lv_iadd hx hb dX9_value_191 ?_
                refine W_toi (y := nI (i + 1)) (nI_1 i) ?_
                refine va_put (D := (dC, dI)) (ci := 11) (v := .int (nI (i + 1))) (ty := .int) (C := RX9) (T := TX9) (N := 60) hx hb hts iRX9 tyX9 tyX9_ok nmX9 hown hK hP hD hS 0 rfl rfl 11 (by decide) (hts (.fieldLink RX9 141 "RecordBenchModel" "at" "I") (by decide +kernel)) (fun _ h9 => h9) rfl (by decide +kernel) rfl rfl (by rw [mo_len]; decide) dX9_value_192 (fun H locs hP hD hS => ?_)
                obtain ⟨g_101, eg_101⟩ : ∃ y, y = va_up g2 11 (.int (nI (i + 1))) := ⟨_, rfl⟩
                have hP : va_P (dC, dI) vwCl [(h0, .inr (11, mo g_101)), (a9, .inl (cT, 400, .inl f)), (a6, .inl (cP, 248, .inr (.inl fP)))] H := by rw [eg_101, ← mo_set g2 (by decide)]; exact hP
                have hD : va_D A [(h0, .inr (11, mo g_101)), (a9, .inl (cT, 400, .inl f)), (a6, .inl (cP, 248, .inr (.inl fP)))] := by rw [eg_101, ← mo_set g2 (by decide)]; exact hD
                have g_101h6 : g_101 6 = .ref a6 := by rw [eg_101, va_up_ne _ _ (by decide)]; exact h6
                have g_101h9 : g_101 9 = .ref a9 := by rw [eg_101, va_up_ne _ _ (by decide)]; exact h9
                have g_101h12 : g_101 12 = .int (nI n) := by rw [eg_101, va_up_ne _ _ (by decide)]; exact h12
                have g_101h13 : g_101 13 = .int b0 := by rw [eg_101, va_up_ne _ _ (by decide)]; exact h13
                have g_101h18 : g_101 18 = .int x18 := by rw [eg_101, va_up_ne _ _ (by decide)]; exact h18
                have g_101h11 : g_101 11 = .int (nI (i + 1)) := by rw [eg_101, va_up_self]
                have ung_101 : ∀ j : Nat, j ≠ 11 → j ≠ 17 → g_101 j = g j := fun j h11 h17 => by rw [eg_101, va_up_ne _ _ h11]; exact hun j h11 h17
                refine lv_goto (tgt := 69) hx hb dX9_value_195 (by decide) ?_
                exact ih ((i + 1), g_101) (by show n - (i + 1) < n - i; omega) ⟨(by omega), (by omega), (by omega), ((tde_go hlt ho).symm.trans hde), g_101h6, g_101h9, g_101h11, g_101h12, g_101h13, g_101h18, (fun k h1 h2 => ung_101 k h1 h2)⟩ _ _ _ (hP.sub (ws' := [(h0, .inr (11, mo g_101)), (a9, .inl (cT, 400, .inl f)), (a6, .inl (cP, 248, .inr (.inl fP)))]) [0, 1, 2] rfl) (hD.sub (ws' := [(h0, .inr (11, mo g_101)), (a9, .inl (cT, 400, .inl f)), (a6, .inl (cP, 248, .inr (.inl fP)))]) [0, 1, 2] (by decide) rfl) hS (by show lv_has _ _ [(6, .long ((tvs f (tfd f n (tsk f n j)) (i + 1 - tfd f n (tsk f n j))).1)), (8, .int ((tvs f (tfd f n (tsk f n j)) (i + 1 - tfd f n (tsk f n j))).2)), (0, .ref h0), (1, .int p0), (2, .int p1), (3, .int (nI (tsk f n j))), (4, .int 0), (5, .int (nI (tfd f n (tsk f n j))))]; rw [tvs_step hi1, stp, if_neg (fun h => h.elim (fun h0 => h0 c_92) (fun h1 => h1.elim (fun h2 => c_95 ((lg_cmp_lt _ _).mpr h2)) (fun h => c_98 ((lg_cmp_eq _ _).mpr h.1))))]; exact lv_sub hl [0, 1, 3, 4, 5, 6, 7, 8] rfl)
              · refine lv_iload hx hb dX9_value_154 (lv_at hl 0 rfl) ?_
                refine lv_bipush (v := 8) hx hb dX9_value_156 (by decide) ?_
                refine lv_icmp_le (tgt := 165) hx hb dX9_value_158 (by decide) (fun c_102 => ?_) (fun c_102 => ?_)
                · refine lv_iconst (v := 0) hx hb dX9_value_165 (by decide) ?_
                  refine lv_istore (lv' := [(8, .int 0), (9, .int ((f i) - 48)), (6, .long ((tvs f (tfd f n (tsk f n j)) (i - tfd f n (tsk f n j))).1)), (0, .ref h0), (1, .int p0), (2, .int p1), (3, .int (nI (tsk f n j))), (4, .int 0), (5, .int (nI (tfd f n (tsk f n j))))]) hx hb dX9_value_166 hl (by decide) rfl (fun ls hl => ?_)
                  refine lv_iload hx hb dX9_value_168 (lv_at hl 0 rfl) ?_
                  refine lv_if_ne (tgt := 185) hx hb dX9_value_170 (by decide) (fun c_103 => absurd (by decide) c_103) (fun c_103 => ?_)
                  refine lv_ldc2 hx hb hown (hts (.constantLong RX9 225 (10)) (by decide +kernel)) dX9_value_173 ?_
                  refine lv_lload hx hb dX9_value_176 (lv_at hl 2 rfl) ?_
                  refine lv_lmul hx hb dX9_value_178 ?_
                  refine lv_iload hx hb dX9_value_179 (lv_at hl 1 rfl) ?_
                  refine lv_i2l (v := ((f i) - 48).toInt64) hx hb dX9_value_181 rfl ?_
                  refine lv_lsub hx hb dX9_value_182 ?_
                  refine lv_lstore (lv' := [(6, .long ((10 * ((tvs f (tfd f n (tsk f n j)) (i - tfd f n (tsk f n j))).1)) - (((f i) - 48).toInt64))), (8, .int 0), (9, .int ((f i) - 48)), (0, .ref h0), (1, .int p0), (2, .int p1), (3, .int (nI (tsk f n j))), (4, .int 0), (5, .int (nI (tfd f n (tsk f n j))))]) hx hb dX9_value_183 hl (by decide) rfl (fun ls hl => ?_)
                  refine lv_aload_n hx hb dX9_value_185 rfl (lv_at hl 3 rfl) ?_
                  refine lv_dup hx hb dX9_value_186 rfl ?_
                  refine va_get (D := (dC, dI)) (ci := 11) (v := .int (nI i)) (C := RX9) (T := TX9) (N := 60) hx hb hts iRX9 hown hK hP 0 rfl rfl 11 (by decide) (hts (.fieldLink RX9 141 "RecordBenchModel" "at" "I") (by decide +kernel)) (fun _ h9 => h9) ((mo_get g2 (by decide)).trans (congrArg some h11)) dX9_value_187 ?_
                  refine lv_iconst (v := 1) hx hb dX9_value_190 (by decide) ?_
                  refine lv_iadd hx hb dX9_value_191 ?_
                  refine W_toi (y := nI (i + 1)) (nI_1 i) ?_
                  refine va_put (D := (dC, dI)) (ci := 11) (v := .int (nI (i + 1))) (ty := .int) (C := RX9) (T := TX9) (N := 60) hx hb hts iRX9 tyX9 tyX9_ok nmX9 hown hK hP hD hS 0 rfl rfl 11 (by decide) (hts (.fieldLink RX9 141 "RecordBenchModel" "at" "I") (by decide +kernel)) (fun _ h9 => h9) rfl (by decide +kernel) rfl rfl (by rw [mo_len]; decide) dX9_value_192 (fun H locs hP hD hS => ?_)
                  obtain ⟨g_105, eg_105⟩ : ∃ y, y = va_up g2 11 (.int (nI (i + 1))) := ⟨_, rfl⟩
                  have hP : va_P (dC, dI) vwCl [(h0, .inr (11, mo g_105)), (a9, .inl (cT, 400, .inl f)), (a6, .inl (cP, 248, .inr (.inl fP)))] H := by rw [eg_105, ← mo_set g2 (by decide)]; exact hP
                  have hD : va_D A [(h0, .inr (11, mo g_105)), (a9, .inl (cT, 400, .inl f)), (a6, .inl (cP, 248, .inr (.inl fP)))] := by rw [eg_105, ← mo_set g2 (by decide)]; exact hD
                  have g_105h6 : g_105 6 = .ref a6 := by rw [eg_105, va_up_ne _ _ (by decide)]; exact h6
                  have g_105h9 : g_105 9 = .ref a9 := by rw [eg_105, va_up_ne _ _ (by decide)]; exact h9
                  have g_105h12 : g_105 12 = .int (nI n) := by rw [eg_105, va_up_ne _ _ (by decide)]; exact h12
                  have g_105h13 : g_105 13 = .int b0 := by rw [eg_105, va_up_ne _ _ (by decide)]; exact h13
                  have g_105h18 : g_105 18 = .int x18 := by rw [eg_105, va_up_ne _ _ (by decide)]; exact h18
                  have g_105h11 : g_105 11 = .int (nI (i + 1)) := by rw [eg_105, va_up_self]
                  have ung_105 : ∀ j : Nat, j ≠ 11 → j ≠ 17 → g_105 j = g j := fun j h11 h17 => by rw [eg_105, va_up_ne _ _ h11]; exact hun j h11 h17
                  refine lv_goto (tgt := 69) hx hb dX9_value_195 (by decide) ?_
                  exact ih ((i + 1), g_105) (by show n - (i + 1) < n - i; omega) ⟨(by omega), (by omega), (by omega), ((tde_go hlt ho).symm.trans hde), g_105h6, g_105h9, g_105h11, g_105h12, g_105h13, g_105h18, (fun k h1 h2 => ung_105 k h1 h2)⟩ _ _ _ (hP.sub (ws' := [(h0, .inr (11, mo g_105)), (a9, .inl (cT, 400, .inl f)), (a6, .inl (cP, 248, .inr (.inl fP)))]) [0, 1, 2] rfl) (hD.sub (ws' := [(h0, .inr (11, mo g_105)), (a9, .inl (cT, 400, .inl f)), (a6, .inl (cP, 248, .inr (.inl fP)))]) [0, 1, 2] (by decide) rfl) hS (by show lv_has _ _ [(6, .long ((tvs f (tfd f n (tsk f n j)) (i + 1 - tfd f n (tsk f n j))).1)), (8, .int ((tvs f (tfd f n (tsk f n j)) (i + 1 - tfd f n (tsk f n j))).2)), (0, .ref h0), (1, .int p0), (2, .int p1), (3, .int (nI (tsk f n j))), (4, .int 0), (5, .int (nI (tfd f n (tsk f n j))))]; rw [tvs_step hi1, stp, if_neg (fun h => h.elim (fun h0 => h0 c_92) (fun h1 => h1.elim (fun h2 => c_95 ((lg_cmp_lt _ _).mpr h2)) (fun h => absurd h.2 (Int32.not_lt.mpr c_102))))]; exact lv_sub hl [0, 1, 3, 4, 5, 6, 7, 8] rfl)
                · refine lv_iconst (v := 1) hx hb dX9_value_161 (by decide) ?_
                  refine lv_goto (tgt := 166) hx hb dX9_value_162 (by decide) ?_
                  refine lv_istore (lv' := [(8, .int 1), (9, .int ((f i) - 48)), (6, .long ((tvs f (tfd f n (tsk f n j)) (i - tfd f n (tsk f n j))).1)), (0, .ref h0), (1, .int p0), (2, .int p1), (3, .int (nI (tsk f n j))), (4, .int 0), (5, .int (nI (tfd f n (tsk f n j))))]) hx hb dX9_value_166 hl (by decide) rfl (fun ls hl => ?_)
                  refine lv_iload hx hb dX9_value_168 (lv_at hl 0 rfl) ?_
                  refine lv_if_ne (tgt := 185) hx hb dX9_value_170 (by decide) (fun c_106 => ?_) (fun c_106 => absurd c_106 (by decide))
                  refine lv_aload_n hx hb dX9_value_185 rfl (lv_at hl 3 rfl) ?_
                  refine lv_dup hx hb dX9_value_186 rfl ?_
                  refine va_get (D := (dC, dI)) (ci := 11) (v := .int (nI i)) (C := RX9) (T := TX9) (N := 60) hx hb hts iRX9 hown hK hP 0 rfl rfl 11 (by decide) (hts (.fieldLink RX9 141 "RecordBenchModel" "at" "I") (by decide +kernel)) (fun _ h9 => h9) ((mo_get g2 (by decide)).trans (congrArg some h11)) dX9_value_187 ?_
                  refine lv_iconst (v := 1) hx hb dX9_value_190 (by decide) ?_
                  refine lv_iadd hx hb dX9_value_191 ?_
                  refine W_toi (y := nI (i + 1)) (nI_1 i) ?_
                  refine va_put (D := (dC, dI)) (ci := 11) (v := .int (nI (i + 1))) (ty := .int) (C := RX9) (T := TX9) (N := 60) hx hb hts iRX9 tyX9 tyX9_ok nmX9 hown hK hP hD hS 0 rfl rfl 11 (by decide) (hts (.fieldLink RX9 141 "RecordBenchModel" "at" "I") (by decide +kernel)) (fun _ h9 => h9) rfl (by decide +kernel) rfl rfl (by rw [mo_len]; decide) dX9_value_192 (fun H locs hP hD hS => ?_)
                  obtain ⟨g_107, eg_107⟩ : ∃ y, y = va_up g2 11 (.int (nI (i + 1))) := ⟨_, rfl⟩
                  have hP : va_P (dC, dI) vwCl [(h0, .inr (11, mo g_107)), (a9, .inl (cT, 400, .inl f)), (a6, .inl (cP, 248, .inr (.inl fP)))] H := by rw [eg_107, ← mo_set g2 (by decide)]; exact hP
                  have hD : va_D A [(h0, .inr (11, mo g_107)), (a9, .inl (cT, 400, .inl f)), (a6, .inl (cP, 248, .inr (.inl fP)))] := by rw [eg_107, ← mo_set g2 (by decide)]; exact hD
                  have g_107h6 : g_107 6 = .ref a6 := by rw [eg_107, va_up_ne _ _ (by decide)]; exact h6
                  have g_107h9 : g_107 9 = .ref a9 := by rw [eg_107, va_up_ne _ _ (by decide)]; exact h9
                  have g_107h12 : g_107 12 = .int (nI n) := by rw [eg_107, va_up_ne _ _ (by decide)]; exact h12
                  have g_107h13 : g_107 13 = .int b0 := by rw [eg_107, va_up_ne _ _ (by decide)]; exact h13
                  have g_107h18 : g_107 18 = .int x18 := by rw [eg_107, va_up_ne _ _ (by decide)]; exact h18
                  have g_107h11 : g_107 11 = .int (nI (i + 1)) := by rw [eg_107, va_up_self]
                  have ung_107 : ∀ j : Nat, j ≠ 11 → j ≠ 17 → g_107 j = g j := fun j h11 h17 => by rw [eg_107, va_up_ne _ _ h11]; exact hun j h11 h17
                  refine lv_goto (tgt := 69) hx hb dX9_value_195 (by decide) ?_
                  exact ih ((i + 1), g_107) (by show n - (i + 1) < n - i; omega) ⟨(by omega), (by omega), (by omega), ((tde_go hlt ho).symm.trans hde), g_107h6, g_107h9, g_107h11, g_107h12, g_107h13, g_107h18, (fun k h1 h2 => ung_107 k h1 h2)⟩ _ _ _ (hP.sub (ws' := [(h0, .inr (11, mo g_107)), (a9, .inl (cT, 400, .inl f)), (a6, .inl (cP, 248, .inr (.inl fP)))]) [0, 1, 2] rfl) (hD.sub (ws' := [(h0, .inr (11, mo g_107)), (a9, .inl (cT, 400, .inl f)), (a6, .inl (cP, 248, .inr (.inl fP)))]) [0, 1, 2] (by decide) rfl) hS (by show lv_has _ _ [(6, .long ((tvs f (tfd f n (tsk f n j)) (i + 1 - tfd f n (tsk f n j))).1)), (8, .int ((tvs f (tfd f n (tsk f n j)) (i + 1 - tfd f n (tsk f n j))).2)), (0, .ref h0), (1, .int p0), (2, .int p1), (3, .int (nI (tsk f n j))), (4, .int 0), (5, .int (nI (tfd f n (tsk f n j))))]; rw [tvs_step hi1, stp, if_pos (Or.inr (Or.inr ⟨(lg_cmp_eq _ _).mp c_98, Int32.not_le.mp c_102⟩))]; exact lv_sub hl [2, 0, 3, 4, 5, 6, 7, 8] rfl)
        · refine lv_aload_n hx hb dX9_value_107 rfl (lv_at hl 2 rfl) ?_
          refine lv_iconst (v := 1) hx hb dX9_value_108 (by decide) ?_
          refine lv_aload_n hx hb dX9_value_109 rfl (lv_at hl 2 rfl) ?_
          refine va_get (D := (dC, dI)) (ci := 11) (v := .int (nI i)) (C := RX9) (T := TX9) (N := 60) hx hb hts iRX9 hown hK hP 0 rfl rfl 11 (by decide) (hts (.fieldLink RX9 141 "RecordBenchModel" "at" "I") (by decide +kernel)) (fun _ h9 => h9) ((mo_get g2 (by decide)).trans (congrArg some h11)) dX9_value_110 ?_
          have hFc := va_free (wc := [(h0, .inr (11, mo g2))]) hD hS hA [0] rfl
          refine va_callv (va_runV (As := [.int 1, .int (nI i)]) (rest := []) ⟨hx, hb, hml, hown, hts⟩ (c_X9_fail l dC dI h0 g2 b0 h13 1 (nI i) (by decide) H.size) (cwV 2 hts gp_X9_value_X9_fail_154 rfl rfl rfl (by decide +kernel) ⟨Nat.le_of_ble_eq_true rfl, Nat.le_of_ble_eq_true rfl⟩) ⟨Pr.blind _, va_recv hK hP (ci := 11) (q0 := 0) rfl rfl, fun U hU hW => ⟨rfl, Pr.at (hP.sub (ws' := [(h0, .inr (11, mo g2))]) [0] rfl) (hK.sub (tys' := []) [] rfl) (hD.sub (ws' := [(h0, .inr (11, mo g2))]) [0] (by decide) rfl) hN hZ RO.nil hS hFc hU hW⟩⟩ rfl rfl hl.1 rfl (lv_room (Nat.le_of_ble_eq_true rfl)) dX9_value_113 ⟨Nat.le_of_ble_eq_true rfl, Nat.le_of_ble_eq_true rfl⟩) hS (fun q _ h => hFc q h) hFc (fun u t H1 locs ht hvm hw_109 hB hz1 hk1 hS => ?_)
          obtain ⟨g1_110, b1_111⟩ := u
          obtain ⟨hP, hD, hK⟩ := Bq.join (wr := [(a9, .inl (cT, 400, .inl f)), (a6, .inl (cP, 248, .inr (.inl fP)))]) hB ht hvm hP hD [0] [1, 2] rfl rfl (by decide) (by decide) hk1 hFc hK
          generalize H1 = H at hP hS ⊢
          have hP : va_P (dC, dI) vwCl [(a9, .inl (cT, 400, .inl f)), (a6, .inl (cP, 248, .inr (.inl fP))), (h0, .inr (11, mo g1_110))] H := hP
          have hD : va_D A [(a9, .inl (cT, 400, .inl f)), (a6, .inl (cP, 248, .inr (.inl fP))), (h0, .inr (11, mo g1_110))] := hD
          have hK : va_K (dC, dI) vwCl [(cT, .int), (cP, .long)] s := hK
          try dsimp only at hw_109
          obtain ⟨k_112, k_113, k_114⟩ := hw_109
          have w_115 : g1_110 6 = .ref a6 := (k_114 6 (by decide) (by decide)).trans h6
          have w_116 : g1_110 9 = .ref a9 := (k_114 9 (by decide) (by decide)).trans h9
          have w_117 : g1_110 11 = .int (nI i) := (k_114 11 (by decide) (by decide)).trans h11
          have w_118 : g1_110 12 = .int (nI n) := (k_114 12 (by decide) (by decide)).trans h12
          have w_119 : g1_110 18 = .int x18 := (k_114 18 (by decide) (by decide)).trans h18
          have un_120 : ∀ j : Nat, j ≠ 11 → j ≠ 13 → j ≠ 14 → j ≠ 17 → g1_110 j = g j := fun j h11 h13 h14 h17 => (k_114 j h13 h14).trans (hun j h11 h17)
          have hP9 := hP.sub (ws' := [(h0, .inr (11, mo g1_110)), (a9, .inl (cT, 400, .inl f)), (a6, .inl (cP, 248, .inr (.inl fP)))]) [2, 0, 1] rfl
          have hD9 := hD.sub (ws' := [(h0, .inr (11, mo g1_110)), (a9, .inl (cT, 400, .inl f)), (a6, .inl (cP, 248, .inr (.inl fP)))]) [2, 0, 1] (by decide) rfl
          have hK9 := hK.sub (tys' := []) [] rfl
          exact W.vret hx hb hr (fun t ht hW => ⟨⟨(g1_110, i, b1_111, x18, fP), rfl, ⟨Or.inr ⟨fun h => absurd h.2.1 (by have e2 : i - tfd f n (tsk f n j) = 19 := (nI_eq (b := 19) (by omega) (by decide)).mp c_91; rw [← hde, tde_go hlt ho]; have := tde_ge f n (i + 1); omega), hi3, k_112, fun _ _ => rfl⟩, w_117, k_113, w_119, (fun j h11 h13 h14 h17 h18 => un_120 j h11 h13 h14 h17)⟩, by rw [ht]; exact hP9, va_K.moved hW.alike hK9, hD9⟩, hS.F ht⟩) hS.2.2 dX9_value_116
      · refine W.eq (g2 := F0 m 92 ls [.int 0]) rfl ?_
        refine lv_if_eq (tgt := 198) hx hb dX9_value_92 (by decide) (fun c_121 => ?_) (fun c_121 => absurd (by decide) c_121)
        have htd : tde f n (tfd f n (tsk f n j)) = i := hde.symm.trans (tde_no (fun h => ho h.2))
        refine lv_aload_n hx hb dX9_value_198 rfl (lv_at hl 2 rfl) ?_
        refine va_get (D := (dC, dI)) (ci := 11) (v := .int (nI i)) (C := RX9) (T := TX9) (N := 60) hx hb hts iRX9 hown hK hP 0 rfl rfl 11 (by decide) (hts (.fieldLink RX9 141 "RecordBenchModel" "at" "I") (by decide +kernel)) (fun _ h9 => h9) ((mo_get g2 (by decide)).trans (congrArg some h11)) dX9_value_199 ?_
        refine lv_iload hx hb dX9_value_202 (lv_at hl 7 rfl) ?_
        refine lv_icmp_ne (tgt := 217) hx hb dX9_value_204 (by decide) (fun c_122 => ?_) (fun c_122 => ?_)
        · refine lv_aload_n hx hb dX9_value_217 rfl (lv_at hl 2 rfl) ?_
          refine lv_aload_n hx hb dX9_value_218 rfl (lv_at hl 2 rfl) ?_
          refine va_get (D := (dC, dI)) (ci := 11) (v := .int (nI i)) (C := RX9) (T := TX9) (N := 60) hx hb hts iRX9 hown hK hP 0 rfl rfl 11 (by decide) (hts (.fieldLink RX9 141 "RecordBenchModel" "at" "I") (by decide +kernel)) (fun _ h9 => h9) ((mo_get g2 (by decide)).trans (congrArg some h11)) dX9_value_219 ?_
          refine va_put (D := (dC, dI)) (ci := 11) (v := .int (nI i)) (ty := .int) (C := RX9) (T := TX9) (N := 60) hx hb hts iRX9 tyX9 tyX9_ok nmX9 hown hK hP hD hS 0 rfl rfl 18 (by decide) (hts (.fieldLink RX9 162 "RecordBenchModel" "ended" "I") (by decide +kernel)) (fun _ h9 => h9) rfl (by decide +kernel) rfl rfl (by rw [mo_len]; decide) dX9_value_222 (fun H locs hP hD hS => ?_)
          obtain ⟨g_123, eg_123⟩ : ∃ y, y = va_up g2 18 (.int (nI i)) := ⟨_, rfl⟩
          have hP : va_P (dC, dI) vwCl [(h0, .inr (11, mo g_123)), (a9, .inl (cT, 400, .inl f)), (a6, .inl (cP, 248, .inr (.inl fP)))] H := by rw [eg_123, ← mo_set g2 (by decide)]; exact hP
          have hD : va_D A [(h0, .inr (11, mo g_123)), (a9, .inl (cT, 400, .inl f)), (a6, .inl (cP, 248, .inr (.inl fP)))] := by rw [eg_123, ← mo_set g2 (by decide)]; exact hD
          have g_123h6 : g_123 6 = .ref a6 := by rw [eg_123, va_up_ne _ _ (by decide)]; exact h6
          have g_123h9 : g_123 9 = .ref a9 := by rw [eg_123, va_up_ne _ _ (by decide)]; exact h9
          have g_123h11 : g_123 11 = .int (nI i) := by rw [eg_123, va_up_ne _ _ (by decide)]; exact h11
          have g_123h12 : g_123 12 = .int (nI n) := by rw [eg_123, va_up_ne _ _ (by decide)]; exact h12
          have g_123h13 : g_123 13 = .int b0 := by rw [eg_123, va_up_ne _ _ (by decide)]; exact h13
          have g_123h18 : g_123 18 = .int (nI i) := by rw [eg_123, va_up_self]
          have ung_123 : ∀ j : Nat, j ≠ 11 → j ≠ 17 → j ≠ 18 → g_123 j = g j := fun j h11 h17 h18 => by rw [eg_123, va_up_ne _ _ h18]; exact hun j h11 h17
          refine lv_iload hx hb dX9_value_225 (lv_at hl 6 rfl) ?_
          refine lv_if_ne (tgt := 242) hx hb dX9_value_227 (by decide) (fun c_124 => absurd (by decide) c_124) (fun c_124 => ?_)
          refine lv_lload hx hb dX9_value_230 (lv_at hl 0 rfl) ?_
          refine lv_ldc2 hx hb hown (hts (.constantLong RX9 227 (-9223372036854775808)) (by decide +kernel)) dX9_value_232 ?_
          refine W.lcmp hx hb dX9_value_235 ?_
          refine lv_if_ne (tgt := 242) hx hb dX9_value_236 (by decide) (fun c_125 => ?_) (fun c_125 => ?_)
          · refine lv_iload hx hb dX9_value_242 (lv_at hl 6 rfl) ?_
            refine lv_if_ne (tgt := 253) hx hb dX9_value_244 (by decide) (fun c_126 => absurd (by decide) c_126) (fun c_126 => ?_)
            refine lv_lconst (v := 0) hx hb dX9_value_247 (by decide) ?_
            refine lv_lload hx hb dX9_value_248 (lv_at hl 0 rfl) ?_
            refine lv_lsub hx hb dX9_value_250 ?_
            refine lv_lstore (lv' := [(6, .long (0 - ((tvs f (tfd f n (tsk f n j)) (i - tfd f n (tsk f n j))).1))), (8, .int ((tvs f (tfd f n (tsk f n j)) (i - tfd f n (tsk f n j))).2)), (0, .ref h0), (1, .int p0), (2, .int p1), (3, .int (nI (tsk f n j))), (4, .int 0), (5, .int (nI (tfd f n (tsk f n j))))]) hx hb dX9_value_251 hl (by decide) rfl (fun ls hl => ?_)
            refine lv_iload hx hb dX9_value_253 (lv_at hl 1 rfl) ?_
            refine lv_if_ne (tgt := 267) hx hb dX9_value_255 (by decide) (fun c_127 => ?_) (fun c_127 => ?_)
            · refine lv_aload_n hx hb dX9_value_267 rfl (lv_at hl 2 rfl) ?_
              refine lv_iconst (v := 2) hx hb dX9_value_268 (by decide) ?_
              refine lv_iload_n hx hb dX9_value_269 rfl (lv_at hl 5 rfl) ?_
              have hFc := va_free (wc := [(h0, .inr (11, mo g_123))]) hD hS hA [0] rfl
              refine va_callv (va_runV (As := [.int 2, .int (nI (tsk f n j))]) (rest := []) ⟨hx, hb, hml, hown, hts⟩ (c_X9_fail l dC dI h0 g_123 b0 g_123h13 2 (nI (tsk f n j)) (by decide) H.size) (cwV 2 hts gp_X9_value_X9_fail_154 rfl rfl rfl (by decide +kernel) ⟨Nat.le_of_ble_eq_true rfl, Nat.le_of_ble_eq_true rfl⟩) ⟨Pr.blind _, va_recv hK hP (ci := 11) (q0 := 0) rfl rfl, fun U hU hW => ⟨rfl, Pr.at (hP.sub (ws' := [(h0, .inr (11, mo g_123))]) [0] rfl) (hK.sub (tys' := []) [] rfl) (hD.sub (ws' := [(h0, .inr (11, mo g_123))]) [0] (by decide) rfl) hN hZ RO.nil hS hFc hU hW⟩⟩ rfl rfl hl.1 rfl (lv_room (Nat.le_of_ble_eq_true rfl)) dX9_value_270 ⟨Nat.le_of_ble_eq_true rfl, Nat.le_of_ble_eq_true rfl⟩) hS (fun q _ h => hFc q h) hFc (fun u t H1 locs ht hvm hw_129 hB hz1 hk1 hS => ?_)
              obtain ⟨g1_130, b1_131⟩ := u
              obtain ⟨hP, hD, hK⟩ := Bq.join (wr := [(a9, .inl (cT, 400, .inl f)), (a6, .inl (cP, 248, .inr (.inl fP)))]) hB ht hvm hP hD [0] [1, 2] rfl rfl (by decide) (by decide) hk1 hFc hK
              generalize H1 = H at hP hS ⊢
              have hP : va_P (dC, dI) vwCl [(a9, .inl (cT, 400, .inl f)), (a6, .inl (cP, 248, .inr (.inl fP))), (h0, .inr (11, mo g1_130))] H := hP
              have hD : va_D A [(a9, .inl (cT, 400, .inl f)), (a6, .inl (cP, 248, .inr (.inl fP))), (h0, .inr (11, mo g1_130))] := hD
              have hK : va_K (dC, dI) vwCl [(cT, .int), (cP, .long)] s := hK
              try dsimp only at hw_129
              obtain ⟨k_132, k_133, k_134⟩ := hw_129
              have w_135 : g1_130 6 = .ref a6 := (k_134 6 (by decide) (by decide)).trans g_123h6
              have w_136 : g1_130 9 = .ref a9 := (k_134 9 (by decide) (by decide)).trans g_123h9
              have w_137 : g1_130 11 = .int (nI i) := (k_134 11 (by decide) (by decide)).trans g_123h11
              have w_138 : g1_130 12 = .int (nI n) := (k_134 12 (by decide) (by decide)).trans g_123h12
              have w_139 : g1_130 18 = .int (nI i) := (k_134 18 (by decide) (by decide)).trans g_123h18
              have un_140 : ∀ j : Nat, j ≠ 11 → j ≠ 13 → j ≠ 14 → j ≠ 17 → j ≠ 18 → g1_130 j = g j := fun j h11 h13 h14 h17 h18 => (k_134 j h13 h14).trans (ung_123 j h11 h17 h18)
              refine lv_aload_n hx hb dX9_value_273 rfl (lv_at hl 2 rfl) ?_
              refine va_get (D := (dC, dI)) (ci := 11) (v := .ref a6) (C := RX9) (T := TX9) (N := 60) hx hb hts iRX9 hown hK hP 2 rfl rfl 6 (by decide) (hts (.fieldLink RX9 30 "RecordBenchModel" "plain" "[J") (by decide +kernel)) (fun _ h9 => h9) ((mo_get g1_130 (by decide)).trans (congrArg some w_135)) dX9_value_274 ?_
              refine lv_iload_n hx hb dX9_value_277 rfl (lv_at hl 3 rfl) ?_
              refine lv_lload hx hb dX9_value_278 (lv_at hl 0 rfl) ?_
              refine va_last hx hb hK hP hD hS 1 1 rfl rfl hp0 dX9_value_280 (fun H locs hP hD hS => ?_)
              obtain ⟨f_141, ef_141⟩ : ∃ y : Nat → Int64, y = vp_updL fP (p0 : Int32).toNatClampNeg (0 - ((tvs f (tfd f n (tsk f n j)) (i - tfd f n (tsk f n j))).1)) := ⟨_, rfl⟩
              have hP : va_P (dC, dI) vwCl [(a9, .inl (cT, 400, .inl f)), (a6, .inl (cP, 248, .inr (.inl f_141))), (h0, .inr (11, mo g1_130))] H := by rw [ef_141]; exact hP
              have hD : va_D A [(a9, .inl (cT, 400, .inl f)), (a6, .inl (cP, 248, .inr (.inl f_141))), (h0, .inr (11, mo g1_130))] := by rw [ef_141]; exact hD
              have hP9 := hP.sub (ws' := [(h0, .inr (11, mo g1_130)), (a9, .inl (cT, 400, .inl f)), (a6, .inl (cP, 248, .inr (.inl f_141)))]) [2, 0, 1] rfl
              have hD9 := hD.sub (ws' := [(h0, .inr (11, mo g1_130)), (a9, .inl (cT, 400, .inl f)), (a6, .inl (cP, 248, .inr (.inl f_141)))]) [2, 0, 1] (by decide) rfl
              have hK9 := hK.sub (tys' := []) [] rfl
              exact W.vret hx hb hr (fun t ht hW => ⟨⟨(g1_130, i, b1_131, (nI i), f_141), rfl, ⟨Or.inr ⟨fun h => c_127 (by have := h.2.2.1; rw [htd] at this; exact this), hi3, k_132, fun x hx => by rw [ef_141]; exact pk_uLn hx⟩, w_137, k_133, w_139, (fun j h11 h13 h14 h17 h18 => un_140 j h11 h13 h14 h17 h18)⟩, by rw [ht]; exact hP9, va_K.moved hW.alike hK9, hD9⟩, hS.F ht⟩) hS.2.2 dX9_value_281
            · refine lv_lload hx hb dX9_value_258 (lv_at hl 0 rfl) ?_
              refine lv_iload_n hx hb dX9_value_260 rfl (lv_at hl 4 rfl) ?_
              have hFc := va_free (wc := []) hD hS hA [] rfl
              refine va_calli (va_runS (As := [.long (0 - ((tvs f (tfd f n (tsk f n j)) (i - tfd f n (tsk f n j))).1)), .int p1]) (rest := []) ⟨hx, hb, hml, hown, hts⟩ (c_X9_isOf l dC dI (0 - ((tvs f (tfd f n (tsk f n j)) (i - tfd f n (tsk f n j))).1)) p1 H.size) (cwS 2 hts gp_X9_value_X9_isOf_229 rfl rfl rfl (by decide +kernel) ⟨Nat.le_of_ble_eq_true rfl, Nat.le_of_ble_eq_true rfl⟩) ⟨Pr.blind _, fun U hU hW => ⟨rfl, Pr.at (hP.sub (ws' := []) [] rfl) (hK.sub (tys' := []) [] rfl) (hD.sub (ws' := []) [] (by decide) rfl) hN hZ RO.nil hS hFc hU hW⟩⟩ rfl rfl hl.1 rfl (lv_room (Nat.le_of_ble_eq_true rfl)) dX9_value_261 ⟨Nat.le_of_ble_eq_true rfl, Nat.le_of_ble_eq_true rfl⟩) hS (fun q _ h => hFc q h) hFc (fun r_142 u t H1 locs ht hvm hw_143 hB hz1 hk1 hS => ?_)
              obtain ⟨hP, hD, hK⟩ := Bq.join (wr := [(h0, .inr (11, mo g_123)), (a9, .inl (cT, 400, .inl f)), (a6, .inl (cP, 248, .inr (.inl fP)))]) hB ht hvm hP hD [] [0, 1, 2] rfl rfl (by decide) (by decide) hk1 hFc hK
              generalize H1 = H at hP hS ⊢
              have hP : va_P (dC, dI) vwCl [(h0, .inr (11, mo g_123)), (a9, .inl (cT, 400, .inl f)), (a6, .inl (cP, 248, .inr (.inl fP)))] H := hP
              have hD : va_D A [(h0, .inr (11, mo g_123)), (a9, .inl (cT, 400, .inl f)), (a6, .inl (cP, 248, .inr (.inl fP)))] := hD
              have hK : va_K (dC, dI) vwCl [(cT, .int), (cP, .long)] s := hK
              try dsimp only at hw_143
              have k_144 := hw_143
              rcases k_144 with ⟨ho, rfl⟩ | ⟨ho, rfl⟩
              · refine W.eq (g2 := F0 m 264 ls [.int 1]) rfl ?_
                refine lv_if_ne (tgt := 273) hx hb dX9_value_264 (by decide) (fun c_145 => ?_) (fun c_145 => absurd c_145 (by decide))
                refine lv_aload_n hx hb dX9_value_273 rfl (lv_at hl 2 rfl) ?_
                refine va_get (D := (dC, dI)) (ci := 11) (v := .ref a6) (C := RX9) (T := TX9) (N := 60) hx hb hts iRX9 hown hK hP 0 rfl rfl 6 (by decide) (hts (.fieldLink RX9 30 "RecordBenchModel" "plain" "[J") (by decide +kernel)) (fun _ h9 => h9) ((mo_get g_123 (by decide)).trans (congrArg some g_123h6)) dX9_value_274 ?_
                refine lv_iload_n hx hb dX9_value_277 rfl (lv_at hl 3 rfl) ?_
                refine lv_lload hx hb dX9_value_278 (lv_at hl 0 rfl) ?_
                refine va_last hx hb hK hP hD hS 2 1 rfl rfl hp0 dX9_value_280 (fun H locs hP hD hS => ?_)
                obtain ⟨f_146, ef_146⟩ : ∃ y : Nat → Int64, y = vp_updL fP (p0 : Int32).toNatClampNeg (0 - ((tvs f (tfd f n (tsk f n j)) (i - tfd f n (tsk f n j))).1)) := ⟨_, rfl⟩
                have hP : va_P (dC, dI) vwCl [(h0, .inr (11, mo g_123)), (a9, .inl (cT, 400, .inl f)), (a6, .inl (cP, 248, .inr (.inl f_146)))] H := by rw [ef_146]; exact hP
                have hD : va_D A [(h0, .inr (11, mo g_123)), (a9, .inl (cT, 400, .inl f)), (a6, .inl (cP, 248, .inr (.inl f_146)))] := by rw [ef_146]; exact hD
                have hP9 := hP.sub (ws' := [(h0, .inr (11, mo g_123)), (a9, .inl (cT, 400, .inl f)), (a6, .inl (cP, 248, .inr (.inl f_146)))]) [0, 1, 2] rfl
                have hD9 := hD.sub (ws' := [(h0, .inr (11, mo g_123)), (a9, .inl (cT, 400, .inl f)), (a6, .inl (cP, 248, .inr (.inl f_146)))]) [0, 1, 2] (by decide) rfl
                have hK9 := hK.sub (tys' := []) [] rfl
                exact W.vret hx hb hr (fun t ht hW => ⟨⟨(g_123, i, b0, (nI i), f_146), rfl, ⟨Or.inl ⟨⟨by rw [htd]; exact fun h => c_122 (by rw [h]), by rw [htd]; omega, by rw [htd]; exact ⟨c_127, (fun h => c_125 ((lg_cmp_eq _ _).mpr h.2)), by rw [tvv, hmi, if_pos rfl]; exact ho⟩⟩, htd.symm, rfl, by rw [htd], by rw [ef_146, htd, tvv, hmi, if_pos rfl]⟩, g_123h11, g_123h13, g_123h18, (fun j h11 h13 h14 h17 h18 => ung_123 j h11 h17 h18)⟩, by rw [ht]; exact hP9, va_K.moved hW.alike hK9, hD9⟩, hS.F ht⟩) hS.2.2 dX9_value_281
              · refine W.eq (g2 := F0 m 264 ls [.int 0]) rfl ?_
                refine lv_if_ne (tgt := 273) hx hb dX9_value_264 (by decide) (fun c_147 => absurd (by decide) c_147) (fun c_147 => ?_)
                refine lv_aload_n hx hb dX9_value_267 rfl (lv_at hl 2 rfl) ?_
                refine lv_iconst (v := 2) hx hb dX9_value_268 (by decide) ?_
                refine lv_iload_n hx hb dX9_value_269 rfl (lv_at hl 5 rfl) ?_
                have hFc := va_free (wc := [(h0, .inr (11, mo g_123))]) hD hS hA [0] rfl
                refine va_callv (va_runV (As := [.int 2, .int (nI (tsk f n j))]) (rest := []) ⟨hx, hb, hml, hown, hts⟩ (c_X9_fail l dC dI h0 g_123 b0 g_123h13 2 (nI (tsk f n j)) (by decide) H.size) (cwV 2 hts gp_X9_value_X9_fail_154 rfl rfl rfl (by decide +kernel) ⟨Nat.le_of_ble_eq_true rfl, Nat.le_of_ble_eq_true rfl⟩) ⟨Pr.blind _, va_recv hK hP (ci := 11) (q0 := 0) rfl rfl, fun U hU hW => ⟨rfl, Pr.at (hP.sub (ws' := [(h0, .inr (11, mo g_123))]) [0] rfl) (hK.sub (tys' := []) [] rfl) (hD.sub (ws' := [(h0, .inr (11, mo g_123))]) [0] (by decide) rfl) hN hZ RO.nil hS hFc hU hW⟩⟩ rfl rfl hl.1 rfl (lv_room (Nat.le_of_ble_eq_true rfl)) dX9_value_270 ⟨Nat.le_of_ble_eq_true rfl, Nat.le_of_ble_eq_true rfl⟩) hS (fun q _ h => hFc q h) hFc (fun u t H1 locs ht hvm hw_149 hB hz1 hk1 hS => ?_)
                obtain ⟨g1_150, b1_151⟩ := u
                obtain ⟨hP, hD, hK⟩ := Bq.join (wr := [(a9, .inl (cT, 400, .inl f)), (a6, .inl (cP, 248, .inr (.inl fP)))]) hB ht hvm hP hD [0] [1, 2] rfl rfl (by decide) (by decide) hk1 hFc hK
                generalize H1 = H at hP hS ⊢
                have hP : va_P (dC, dI) vwCl [(a9, .inl (cT, 400, .inl f)), (a6, .inl (cP, 248, .inr (.inl fP))), (h0, .inr (11, mo g1_150))] H := hP
                have hD : va_D A [(a9, .inl (cT, 400, .inl f)), (a6, .inl (cP, 248, .inr (.inl fP))), (h0, .inr (11, mo g1_150))] := hD
                have hK : va_K (dC, dI) vwCl [(cT, .int), (cP, .long)] s := hK
                try dsimp only at hw_149
                obtain ⟨k_152, k_153, k_154⟩ := hw_149
                have w_155 : g1_150 6 = .ref a6 := (k_154 6 (by decide) (by decide)).trans g_123h6
                have w_156 : g1_150 9 = .ref a9 := (k_154 9 (by decide) (by decide)).trans g_123h9
                have w_157 : g1_150 11 = .int (nI i) := (k_154 11 (by decide) (by decide)).trans g_123h11
                have w_158 : g1_150 12 = .int (nI n) := (k_154 12 (by decide) (by decide)).trans g_123h12
                have w_159 : g1_150 18 = .int (nI i) := (k_154 18 (by decide) (by decide)).trans g_123h18
                have un_160 : ∀ j : Nat, j ≠ 11 → j ≠ 13 → j ≠ 14 → j ≠ 17 → j ≠ 18 → g1_150 j = g j := fun j h11 h13 h14 h17 h18 => (k_154 j h13 h14).trans (ung_123 j h11 h17 h18)
                refine lv_aload_n hx hb dX9_value_273 rfl (lv_at hl 2 rfl) ?_
                refine va_get (D := (dC, dI)) (ci := 11) (v := .ref a6) (C := RX9) (T := TX9) (N := 60) hx hb hts iRX9 hown hK hP 2 rfl rfl 6 (by decide) (hts (.fieldLink RX9 30 "RecordBenchModel" "plain" "[J") (by decide +kernel)) (fun _ h9 => h9) ((mo_get g1_150 (by decide)).trans (congrArg some w_155)) dX9_value_274 ?_
                refine lv_iload_n hx hb dX9_value_277 rfl (lv_at hl 3 rfl) ?_
                refine lv_lload hx hb dX9_value_278 (lv_at hl 0 rfl) ?_
                refine va_last hx hb hK hP hD hS 1 1 rfl rfl hp0 dX9_value_280 (fun H locs hP hD hS => ?_)
                obtain ⟨f_161, ef_161⟩ : ∃ y : Nat → Int64, y = vp_updL fP (p0 : Int32).toNatClampNeg (0 - ((tvs f (tfd f n (tsk f n j)) (i - tfd f n (tsk f n j))).1)) := ⟨_, rfl⟩
                have hP : va_P (dC, dI) vwCl [(a9, .inl (cT, 400, .inl f)), (a6, .inl (cP, 248, .inr (.inl f_161))), (h0, .inr (11, mo g1_150))] H := by rw [ef_161]; exact hP
                have hD : va_D A [(a9, .inl (cT, 400, .inl f)), (a6, .inl (cP, 248, .inr (.inl f_161))), (h0, .inr (11, mo g1_150))] := by rw [ef_161]; exact hD
                have hP9 := hP.sub (ws' := [(h0, .inr (11, mo g1_150)), (a9, .inl (cT, 400, .inl f)), (a6, .inl (cP, 248, .inr (.inl f_161)))]) [2, 0, 1] rfl
                have hD9 := hD.sub (ws' := [(h0, .inr (11, mo g1_150)), (a9, .inl (cT, 400, .inl f)), (a6, .inl (cP, 248, .inr (.inl f_161)))]) [2, 0, 1] (by decide) rfl
                have hK9 := hK.sub (tys' := []) [] rfl
                exact W.vret hx hb hr (fun t ht hW => ⟨⟨(g1_150, i, b1_151, (nI i), f_161), rfl, ⟨Or.inr ⟨fun h => ho (by have := h.2.2.2.2; rw [htd, tvv, hmi, if_pos rfl] at this; exact this), hi3, k_152, fun x hx => by rw [ef_161]; exact pk_uLn hx⟩, w_157, k_153, w_159, (fun j h11 h13 h14 h17 h18 => un_160 j h11 h13 h14 h17 h18)⟩, by rw [ht]; exact hP9, va_K.moved hW.alike hK9, hD9⟩, hS.F ht⟩) hS.2.2 dX9_value_281
          · refine lv_iconst (v := 1) hx hb dX9_value_239 (by decide) ?_
            refine lv_istore (lv' := [(8, .int 1), (6, .long ((tvs f (tfd f n (tsk f n j)) (i - tfd f n (tsk f n j))).1)), (0, .ref h0), (1, .int p0), (2, .int p1), (3, .int (nI (tsk f n j))), (4, .int 0), (5, .int (nI (tfd f n (tsk f n j))))]) hx hb dX9_value_240 hl (by decide) rfl (fun ls hl => ?_)
            refine lv_iload hx hb dX9_value_242 (lv_at hl 6 rfl) ?_
            refine lv_if_ne (tgt := 253) hx hb dX9_value_244 (by decide) (fun c_162 => absurd (by decide) c_162) (fun c_162 => ?_)
            refine lv_lconst (v := 0) hx hb dX9_value_247 (by decide) ?_
            refine lv_lload hx hb dX9_value_248 (lv_at hl 1 rfl) ?_
            refine lv_lsub hx hb dX9_value_250 ?_
            refine lv_lstore (lv' := [(6, .long (0 - ((tvs f (tfd f n (tsk f n j)) (i - tfd f n (tsk f n j))).1))), (8, .int 1), (0, .ref h0), (1, .int p0), (2, .int p1), (3, .int (nI (tsk f n j))), (4, .int 0), (5, .int (nI (tfd f n (tsk f n j))))]) hx hb dX9_value_251 hl (by decide) rfl (fun ls hl => ?_)
            refine lv_iload hx hb dX9_value_253 (lv_at hl 1 rfl) ?_
            refine lv_if_ne (tgt := 267) hx hb dX9_value_255 (by decide) (fun c_163 => ?_) (fun c_163 => absurd c_163 (by decide))
            refine lv_aload_n hx hb dX9_value_267 rfl (lv_at hl 2 rfl) ?_
            refine lv_iconst (v := 2) hx hb dX9_value_268 (by decide) ?_
            refine lv_iload_n hx hb dX9_value_269 rfl (lv_at hl 5 rfl) ?_
            have hFc := va_free (wc := [(h0, .inr (11, mo g_123))]) hD hS hA [0] rfl
            refine va_callv (va_runV (As := [.int 2, .int (nI (tsk f n j))]) (rest := []) ⟨hx, hb, hml, hown, hts⟩ (c_X9_fail l dC dI h0 g_123 b0 g_123h13 2 (nI (tsk f n j)) (by decide) H.size) (cwV 2 hts gp_X9_value_X9_fail_154 rfl rfl rfl (by decide +kernel) ⟨Nat.le_of_ble_eq_true rfl, Nat.le_of_ble_eq_true rfl⟩) ⟨Pr.blind _, va_recv hK hP (ci := 11) (q0 := 0) rfl rfl, fun U hU hW => ⟨rfl, Pr.at (hP.sub (ws' := [(h0, .inr (11, mo g_123))]) [0] rfl) (hK.sub (tys' := []) [] rfl) (hD.sub (ws' := [(h0, .inr (11, mo g_123))]) [0] (by decide) rfl) hN hZ RO.nil hS hFc hU hW⟩⟩ rfl rfl hl.1 rfl (lv_room (Nat.le_of_ble_eq_true rfl)) dX9_value_270 ⟨Nat.le_of_ble_eq_true rfl, Nat.le_of_ble_eq_true rfl⟩) hS (fun q _ h => hFc q h) hFc (fun u t H1 locs ht hvm hw_165 hB hz1 hk1 hS => ?_)
            obtain ⟨g1_166, b1_167⟩ := u
            obtain ⟨hP, hD, hK⟩ := Bq.join (wr := [(a9, .inl (cT, 400, .inl f)), (a6, .inl (cP, 248, .inr (.inl fP)))]) hB ht hvm hP hD [0] [1, 2] rfl rfl (by decide) (by decide) hk1 hFc hK
            generalize H1 = H at hP hS ⊢
            have hP : va_P (dC, dI) vwCl [(a9, .inl (cT, 400, .inl f)), (a6, .inl (cP, 248, .inr (.inl fP))), (h0, .inr (11, mo g1_166))] H := hP
            have hD : va_D A [(a9, .inl (cT, 400, .inl f)), (a6, .inl (cP, 248, .inr (.inl fP))), (h0, .inr (11, mo g1_166))] := hD
            have hK : va_K (dC, dI) vwCl [(cT, .int), (cP, .long)] s := hK
            try dsimp only at hw_165
            obtain ⟨k_168, k_169, k_170⟩ := hw_165
            have w_171 : g1_166 6 = .ref a6 := (k_170 6 (by decide) (by decide)).trans g_123h6
            have w_172 : g1_166 9 = .ref a9 := (k_170 9 (by decide) (by decide)).trans g_123h9
            have w_173 : g1_166 11 = .int (nI i) := (k_170 11 (by decide) (by decide)).trans g_123h11
            have w_174 : g1_166 12 = .int (nI n) := (k_170 12 (by decide) (by decide)).trans g_123h12
            have w_175 : g1_166 18 = .int (nI i) := (k_170 18 (by decide) (by decide)).trans g_123h18
            have un_176 : ∀ j : Nat, j ≠ 11 → j ≠ 13 → j ≠ 14 → j ≠ 17 → j ≠ 18 → g1_166 j = g j := fun j h11 h13 h14 h17 h18 => (k_170 j h13 h14).trans (ung_123 j h11 h17 h18)
            refine lv_aload_n hx hb dX9_value_273 rfl (lv_at hl 2 rfl) ?_
            refine va_get (D := (dC, dI)) (ci := 11) (v := .ref a6) (C := RX9) (T := TX9) (N := 60) hx hb hts iRX9 hown hK hP 2 rfl rfl 6 (by decide) (hts (.fieldLink RX9 30 "RecordBenchModel" "plain" "[J") (by decide +kernel)) (fun _ h9 => h9) ((mo_get g1_166 (by decide)).trans (congrArg some w_171)) dX9_value_274 ?_
            refine lv_iload_n hx hb dX9_value_277 rfl (lv_at hl 3 rfl) ?_
            refine lv_lload hx hb dX9_value_278 (lv_at hl 0 rfl) ?_
            refine va_last hx hb hK hP hD hS 1 1 rfl rfl hp0 dX9_value_280 (fun H locs hP hD hS => ?_)
            obtain ⟨f_177, ef_177⟩ : ∃ y : Nat → Int64, y = vp_updL fP (p0 : Int32).toNatClampNeg (0 - ((tvs f (tfd f n (tsk f n j)) (i - tfd f n (tsk f n j))).1)) := ⟨_, rfl⟩
            have hP : va_P (dC, dI) vwCl [(a9, .inl (cT, 400, .inl f)), (a6, .inl (cP, 248, .inr (.inl f_177))), (h0, .inr (11, mo g1_166))] H := by rw [ef_177]; exact hP
            have hD : va_D A [(a9, .inl (cT, 400, .inl f)), (a6, .inl (cP, 248, .inr (.inl f_177))), (h0, .inr (11, mo g1_166))] := by rw [ef_177]; exact hD
            have hP9 := hP.sub (ws' := [(h0, .inr (11, mo g1_166)), (a9, .inl (cT, 400, .inl f)), (a6, .inl (cP, 248, .inr (.inl f_177)))]) [2, 0, 1] rfl
            have hD9 := hD.sub (ws' := [(h0, .inr (11, mo g1_166)), (a9, .inl (cT, 400, .inl f)), (a6, .inl (cP, 248, .inr (.inl f_177)))]) [2, 0, 1] (by decide) rfl
            have hK9 := hK.sub (tys' := []) [] rfl
            exact W.vret hx hb hr (fun t ht hW => ⟨⟨(g1_166, i, b1_167, (nI i), f_177), rfl, ⟨Or.inr ⟨fun h => h.2.2.2.1 ⟨hmi, by rw [htd]; exact (lg_cmp_eq _ _).mp c_125⟩, hi3, k_168, fun x hx => by rw [ef_177]; exact pk_uLn hx⟩, w_173, k_169, w_175, (fun j h11 h13 h14 h17 h18 => un_176 j h11 h13 h14 h17 h18)⟩, by rw [ht]; exact hP9, va_K.moved hW.alike hK9, hD9⟩, hS.F ht⟩) hS.2.2 dX9_value_281
        · refine lv_aload_n hx hb dX9_value_207 rfl (lv_at hl 2 rfl) ?_
          refine lv_iconst (v := 1) hx hb dX9_value_208 (by decide) ?_
          refine lv_aload_n hx hb dX9_value_209 rfl (lv_at hl 2 rfl) ?_
          refine va_get (D := (dC, dI)) (ci := 11) (v := .int (nI i)) (C := RX9) (T := TX9) (N := 60) hx hb hts iRX9 hown hK hP 0 rfl rfl 11 (by decide) (hts (.fieldLink RX9 141 "RecordBenchModel" "at" "I") (by decide +kernel)) (fun _ h9 => h9) ((mo_get g2 (by decide)).trans (congrArg some h11)) dX9_value_210 ?_
          have hFc := va_free (wc := [(h0, .inr (11, mo g2))]) hD hS hA [0] rfl
          refine va_callv (va_runV (As := [.int 1, .int (nI i)]) (rest := []) ⟨hx, hb, hml, hown, hts⟩ (c_X9_fail l dC dI h0 g2 b0 h13 1 (nI i) (by decide) H.size) (cwV 2 hts gp_X9_value_X9_fail_154 rfl rfl rfl (by decide +kernel) ⟨Nat.le_of_ble_eq_true rfl, Nat.le_of_ble_eq_true rfl⟩) ⟨Pr.blind _, va_recv hK hP (ci := 11) (q0 := 0) rfl rfl, fun U hU hW => ⟨rfl, Pr.at (hP.sub (ws' := [(h0, .inr (11, mo g2))]) [0] rfl) (hK.sub (tys' := []) [] rfl) (hD.sub (ws' := [(h0, .inr (11, mo g2))]) [0] (by decide) rfl) hN hZ RO.nil hS hFc hU hW⟩⟩ rfl rfl hl.1 rfl (lv_room (Nat.le_of_ble_eq_true rfl)) dX9_value_213 ⟨Nat.le_of_ble_eq_true rfl, Nat.le_of_ble_eq_true rfl⟩) hS (fun q _ h => hFc q h) hFc (fun u t H1 locs ht hvm hw_179 hB hz1 hk1 hS => ?_)
          obtain ⟨g1_180, b1_181⟩ := u
          obtain ⟨hP, hD, hK⟩ := Bq.join (wr := [(a9, .inl (cT, 400, .inl f)), (a6, .inl (cP, 248, .inr (.inl fP)))]) hB ht hvm hP hD [0] [1, 2] rfl rfl (by decide) (by decide) hk1 hFc hK
          generalize H1 = H at hP hS ⊢
          have hP : va_P (dC, dI) vwCl [(a9, .inl (cT, 400, .inl f)), (a6, .inl (cP, 248, .inr (.inl fP))), (h0, .inr (11, mo g1_180))] H := hP
          have hD : va_D A [(a9, .inl (cT, 400, .inl f)), (a6, .inl (cP, 248, .inr (.inl fP))), (h0, .inr (11, mo g1_180))] := hD
          have hK : va_K (dC, dI) vwCl [(cT, .int), (cP, .long)] s := hK
          try dsimp only at hw_179
          obtain ⟨k_182, k_183, k_184⟩ := hw_179
          have w_185 : g1_180 6 = .ref a6 := (k_184 6 (by decide) (by decide)).trans h6
          have w_186 : g1_180 9 = .ref a9 := (k_184 9 (by decide) (by decide)).trans h9
          have w_187 : g1_180 11 = .int (nI i) := (k_184 11 (by decide) (by decide)).trans h11
          have w_188 : g1_180 12 = .int (nI n) := (k_184 12 (by decide) (by decide)).trans h12
          have w_189 : g1_180 18 = .int x18 := (k_184 18 (by decide) (by decide)).trans h18
          have un_190 : ∀ j : Nat, j ≠ 11 → j ≠ 13 → j ≠ 14 → j ≠ 17 → g1_180 j = g j := fun j h11 h13 h14 h17 => (k_184 j h13 h14).trans (hun j h11 h17)
          have hP9 := hP.sub (ws' := [(h0, .inr (11, mo g1_180)), (a9, .inl (cT, 400, .inl f)), (a6, .inl (cP, 248, .inr (.inl fP)))]) [2, 0, 1] rfl
          have hD9 := hD.sub (ws' := [(h0, .inr (11, mo g1_180)), (a9, .inl (cT, 400, .inl f)), (a6, .inl (cP, 248, .inr (.inl fP)))]) [2, 0, 1] (by decide) rfl
          have hK9 := hK.sub (tys' := []) [] rfl
          exact W.vret hx hb hr (fun t ht hW => ⟨⟨(g1_180, i, b1_181, x18, fP), rfl, ⟨Or.inr ⟨fun h => h.1 (by rw [htd]; exact (nI_eq (by omega) (by omega)).mp c_122), hi3, k_182, fun _ _ => rfl⟩, w_187, k_183, w_189, (fun j h11 h13 h14 h17 h18 => un_190 j h11 h13 h14 h17)⟩, by rw [ht]; exact hP9, va_K.moved hW.alike hK9, hD9⟩, hS.F ht⟩) hS.2.2 dX9_value_216
  refine lv_icmp_ge (tgt := 39) hx hb dX9_value_18 (by decide) (fun c_14 => ?_) (fun c_14 => ?_)
  · exact J_15 ⟨(), (fun h => absurd (tat_in h (by decide)) (by have := nI_leN (by omega) (by omega) c_14; omega))⟩ ls (lv_sub hl [0, 1, 2, 3] rfl)
  · have hlt0 : tsk f n j < n := nI_ltN (by omega) (by omega) c_14
    refine lv_aload_n hx hb dX9_value_21 rfl (lv_at hl 1 rfl) ?_
    refine va_get (D := (dC, dI)) (ci := 11) (v := .ref a9) (C := RX9) (T := TX9) (N := 60) hx hb hts iRX9 hown hK hP 1 rfl rfl 9 (by decide) (hts (.fieldLink RX9 39 "RecordBenchModel" "tape" "[I") (by decide +kernel)) (fun _ h9 => h9) ((mo_get g1_3 (by decide)).trans (congrArg some w_8)) dX9_value_22 ?_
    refine lv_aload_n hx hb dX9_value_25 rfl (lv_at hl 1 rfl) ?_
    refine va_get (D := (dC, dI)) (ci := 11) (v := .int (nI (tsk f n j))) (C := RX9) (T := TX9) (N := 60) hx hb hts iRX9 hown hK hP 1 rfl rfl 11 (by decide) (hts (.fieldLink RX9 141 "RecordBenchModel" "at" "I") (by decide +kernel)) (fun _ h9 => h9) ((mo_get g1_3 (by decide)).trans (congrArg some k_5)) dX9_value_26 ?_
    refine va_iald hx hb hK hP 2 0 rfl rfl (vp_in_nI (by omega) (by decide)) dX9_value_29 ?_
    refine W_toi (y := f (tsk f n j)) (by rw [nI_clamp (by omega)]) ?_
    refine lv_bipush (v := 45) hx hb dX9_value_30 (by decide) ?_
    refine lv_icmp_ne (tgt := 39) hx hb dX9_value_32 (by decide) (fun c_191 => ?_) (fun c_191 => ?_)
    · exact J_15 ⟨(), (by rw [tat_at hlt0]; exact c_191)⟩ ls (lv_sub hl [0, 1, 2, 3] rfl)
    · refine lv_iconst (v := 1) hx hb dX9_value_35 (by decide) ?_
      refine lv_goto (tgt := 40) hx hb dX9_value_36 (by decide) ?_
      refine lv_istore (lv' := [(4, .int 1), (3, .int (nI (tsk f n j))), (0, .ref h0), (1, .int p0), (2, .int p1)]) hx hb dX9_value_40 hl (by decide) rfl (fun ls hl => ?_)
      refine lv_iload hx hb dX9_value_42 (lv_at hl 0 rfl) ?_
      refine lv_if_eq (tgt := 57) hx hb dX9_value_44 (by decide) (fun c_192 => absurd c_192 (by decide)) (fun c_192 => ?_)
      refine lv_aload_n hx hb dX9_value_47 rfl (lv_at hl 2 rfl) ?_
      refine lv_dup hx hb dX9_value_48 rfl ?_
      refine va_get (D := (dC, dI)) (ci := 11) (v := .int (nI (tsk f n j))) (C := RX9) (T := TX9) (N := 60) hx hb hts iRX9 hown hK hP 1 rfl rfl 11 (by decide) (hts (.fieldLink RX9 141 "RecordBenchModel" "at" "I") (by decide +kernel)) (fun _ h9 => h9) ((mo_get g1_3 (by decide)).trans (congrArg some k_5)) dX9_value_49 ?_
      refine lv_iconst (v := 1) hx hb dX9_value_52 (by decide) ?_
      refine lv_iadd hx hb dX9_value_53 ?_
      refine W_toi (y := nI (tsk f n j + 1)) (nI_1 _) ?_
      refine va_put (D := (dC, dI)) (ci := 11) (v := .int (nI (tsk f n j + 1))) (ty := .int) (C := RX9) (T := TX9) (N := 60) hx hb hts iRX9 tyX9 tyX9_ok nmX9 hown hK hP hD hS 1 rfl rfl 11 (by decide) (hts (.fieldLink RX9 141 "RecordBenchModel" "at" "I") (by decide +kernel)) (fun _ h9 => h9) rfl (by decide +kernel) rfl rfl (by rw [mo_len]; decide) dX9_value_54 (fun H locs hP hD hS => ?_)
      obtain ⟨g_193, eg_193⟩ : ∃ y, y = va_up g1_3 11 (.int (nI (tsk f n j + 1))) := ⟨_, rfl⟩
      have hP : va_P (dC, dI) vwCl [(a6, .inl (cP, 248, .inr (.inl fP))), (h0, .inr (11, mo g_193)), (a9, .inl (cT, 400, .inl f))] H := by rw [eg_193, ← mo_set g1_3 (by decide)]; exact hP
      have hD : va_D A [(a6, .inl (cP, 248, .inr (.inl fP))), (h0, .inr (11, mo g_193)), (a9, .inl (cT, 400, .inl f))] := by rw [eg_193, ← mo_set g1_3 (by decide)]; exact hD
      have g_193h17 : g_193 17 = .int (nI (tsk f n j)) := by rw [eg_193, va_up_ne _ _ (by decide)]; exact k_6
      have g_193h9 : g_193 9 = .ref a9 := by rw [eg_193, va_up_ne _ _ (by decide)]; exact w_8
      have g_193h12 : g_193 12 = .int (nI n) := by rw [eg_193, va_up_ne _ _ (by decide)]; exact w_9
      have g_193h13 : g_193 13 = .int b0 := by rw [eg_193, va_up_ne _ _ (by decide)]; exact w_10
      have g_193h18 : g_193 18 = .int x18 := by rw [eg_193, va_up_ne _ _ (by decide)]; exact w_11
      have g_193h6 : g_193 6 = .ref a6 := by rw [eg_193, va_up_ne _ _ (by decide)]; exact w_12
      have g_193h11 : g_193 11 = .int (nI (tsk f n j + 1)) := by rw [eg_193, va_up_self]
      have ung_193 : ∀ j : Nat, j ≠ 11 → j ≠ 17 → g_193 j = g j := fun j h11 h17 => by rw [eg_193, va_up_ne _ _ h11]; exact un_13 j h11 h17
      have hm1 : tat f n (tsk f n j) = 45 := by rw [tat_at hlt0]; exact c_191
      have hpp : tfd f n (tsk f n j) = tsk f n j + 1 := if_pos hm1
      have hmi : tsg f n (tsk f n j) = 1 := if_pos hm1
      have hpn : tfd f n (tsk f n j) ≤ n := by rw [hpp]; exact hlt0
      refine lv_aload_n hx hb dX9_value_57 rfl (lv_at hl 2 rfl) ?_
      refine va_get (D := (dC, dI)) (ci := 11) (v := .int (nI (tsk f n j + 1))) (C := RX9) (T := TX9) (N := 60) hx hb hts iRX9 hown hK hP 1 rfl rfl 11 (by decide) (hts (.fieldLink RX9 141 "RecordBenchModel" "at" "I") (by decide +kernel)) (fun _ h9 => h9) ((mo_get g_193 (by decide)).trans (congrArg some g_193h11)) dX9_value_58 ?_
      refine lv_istore (lv' := [(5, .int (nI (tsk f n j + 1))), (4, .int 1), (3, .int (nI (tsk f n j))), (0, .ref h0), (1, .int p0), (2, .int p1)]) hx hb dX9_value_61 hl (by decide) rfl (fun ls hl => ?_)
      refine lv_lconst (v := 0) hx hb dX9_value_63 (by decide) ?_
      refine lv_lstore (lv' := [(6, .long 0), (5, .int (nI (tsk f n j + 1))), (4, .int 1), (3, .int (nI (tsk f n j))), (0, .ref h0), (1, .int p0), (2, .int p1)]) hx hb dX9_value_64 hl (by decide) rfl (fun ls hl => ?_)
      refine lv_iconst (v := 0) hx hb dX9_value_66 (by decide) ?_
      refine lv_istore (lv' := [(8, .int 0), (6, .long 0), (5, .int (nI (tsk f n j + 1))), (4, .int 1), (3, .int (nI (tsk f n j))), (0, .ref h0), (1, .int p0), (2, .int p1)]) hx hb dX9_value_67 hl (by decide) rfl (fun ls hl => ?_)
      refine W_loop (σ := Nat × (Nat → Value)) (D := (dC, dI)) (A := A) [] (fun (u : Nat × (Nat → Value)) => match u with | (i, g2) => [(6, .long ((tvs f (tfd f n (tsk f n j)) (i - tfd f n (tsk f n j))).1)), (8, .int ((tvs f (tfd f n (tsk f n j)) (i - tfd f n (tsk f n j))).2)), (0, .ref h0), (1, .int p0), (2, .int p1), (3, .int (nI (tsk f n j))), (4, .int 1), (5, .int (nI (tfd f n (tsk f n j))))]) (fun (u : Nat × (Nat → Value)) => match u with | (i, g2) => [(h0, .inr (11, mo g2)), (a9, .inl (cT, 400, .inl f)), (a6, .inl (cP, 248, .inr (.inl fP)))]) (fun (u : Nat × (Nat → Value)) => match u with | (i, g2) => (tfd f n (tsk f n j) ≤ i) ∧ (i ≤ tfd f n (tsk f n j) + 19) ∧ (i ≤ n) ∧ (tde f n i = tde f n (tfd f n (tsk f n j))) ∧ (g2 6 = .ref a6) ∧ (g2 9 = .ref a9) ∧ (g2 11 = .int (nI i)) ∧ (g2 12 = .int (nI n)) ∧ (g2 13 = .int b0) ∧ (g2 18 = .int x18) ∧ (∀ k : Nat, k ≠ 11 → k ≠ 17 → g2 k = g k)) (fun (u : Nat × (Nat → Value)) => match u with | (i, g2) => n - i) ?_ ((tfd f n (tsk f n j)), g_193) ⟨(Nat.le_refl _), (by omega), hpn, rfl, g_193h6, g_193h9, (g_193h11.trans (by rw [hpp])), g_193h12, g_193h13, g_193h18, (fun k h1 h2 => ung_193 k h1 h2)⟩ _ _ _ (hP.sub (ws' := [(h0, .inr (11, mo g_193)), (a9, .inl (cT, 400, .inl f)), (a6, .inl (cP, 248, .inr (.inl fP)))]) [1, 2, 0] rfl) (hD.sub (ws' := [(h0, .inr (11, mo g_193)), (a9, .inl (cT, 400, .inl f)), (a6, .inl (cP, 248, .inr (.inl fP)))]) [1, 2, 0] (by decide) rfl) hS (by show lv_has _ _ [(6, .long ((tvs f (tfd f n (tsk f n j)) (tfd f n (tsk f n j) - tfd f n (tsk f n j))).1)), (8, .int ((tvs f (tfd f n (tsk f n j)) (tfd f n (tsk f n j) - tfd f n (tsk f n j))).2)), (0, .ref h0), (1, .int p0), (2, .int p1), (3, .int (nI (tsk f n j))), (4, .int 1), (5, .int (nI (tfd f n (tsk f n j))))]; rw [Nat.sub_self, hpp]; exact lv_sub hl [1, 0, 5, 6, 7, 4, 3, 2] rfl)
      intro u hI H locs ls hP hD hS hl ih
      obtain ⟨i, g2⟩ := u
      try dsimp only at hI
      obtain ⟨hi1, hi2, hi3, hde, h6, h9, h11, h12, h13, h18, hun⟩ := hI
      have hP : va_P (dC, dI) vwCl [(h0, .inr (11, mo g2)), (a9, .inl (cT, 400, .inl f)), (a6, .inl (cP, 248, .inr (.inl fP)))] H := hP
      have hD : va_D A [(h0, .inr (11, mo g2)), (a9, .inl (cT, 400, .inl f)), (a6, .inl (cP, 248, .inr (.inl fP)))] := hD
      have hl : lv_has ls 10 [(6, .long ((tvs f (tfd f n (tsk f n j)) (i - tfd f n (tsk f n j))).1)), (8, .int ((tvs f (tfd f n (tsk f n j)) (i - tfd f n (tsk f n j))).2)), (0, .ref h0), (1, .int p0), (2, .int p1), (3, .int (nI (tsk f n j))), (4, .int 1), (5, .int (nI (tfd f n (tsk f n j))))] := hl
      refine lv_aload_n hx hb dX9_value_69 rfl (lv_at hl 2 rfl) ?_
      refine va_get (D := (dC, dI)) (ci := 11) (v := .int (nI i)) (C := RX9) (T := TX9) (N := 60) hx hb hts iRX9 hown hK hP 0 rfl rfl 11 (by decide) (hts (.fieldLink RX9 141 "RecordBenchModel" "at" "I") (by decide +kernel)) (fun _ h9 => h9) ((mo_get g2 (by decide)).trans (congrArg some h11)) dX9_value_70 ?_
      refine lv_aload_n hx hb dX9_value_73 rfl (lv_at hl 2 rfl) ?_
      refine va_get (D := (dC, dI)) (ci := 11) (v := .int (nI n)) (C := RX9) (T := TX9) (N := 60) hx hb hts iRX9 hown hK hP 0 rfl rfl 12 (by decide) (hts (.fieldLink RX9 144 "RecordBenchModel" "size" "I") (by decide +kernel)) (fun _ h9 => h9) ((mo_get g2 (by decide)).trans (congrArg some h12)) dX9_value_74 ?_
      refine lv_icmp_ge (tgt := 198) hx hb dX9_value_77 (by decide) (fun c_194 => ?_) (fun c_194 => ?_)
      · have htd : tde f n (tfd f n (tsk f n j)) = i := hde.symm.trans (tde_no (fun h => absurd h.1 (by have := nI_leN (by omega) (by omega) c_194; omega)))
        refine lv_aload_n hx hb dX9_value_198 rfl (lv_at hl 2 rfl) ?_
        refine va_get (D := (dC, dI)) (ci := 11) (v := .int (nI i)) (C := RX9) (T := TX9) (N := 60) hx hb hts iRX9 hown hK hP 0 rfl rfl 11 (by decide) (hts (.fieldLink RX9 141 "RecordBenchModel" "at" "I") (by decide +kernel)) (fun _ h9 => h9) ((mo_get g2 (by decide)).trans (congrArg some h11)) dX9_value_199 ?_
        refine lv_iload hx hb dX9_value_202 (lv_at hl 7 rfl) ?_
        refine lv_icmp_ne (tgt := 217) hx hb dX9_value_204 (by decide) (fun c_195 => ?_) (fun c_195 => ?_)
        · refine lv_aload_n hx hb dX9_value_217 rfl (lv_at hl 2 rfl) ?_
          refine lv_aload_n hx hb dX9_value_218 rfl (lv_at hl 2 rfl) ?_
          refine va_get (D := (dC, dI)) (ci := 11) (v := .int (nI i)) (C := RX9) (T := TX9) (N := 60) hx hb hts iRX9 hown hK hP 0 rfl rfl 11 (by decide) (hts (.fieldLink RX9 141 "RecordBenchModel" "at" "I") (by decide +kernel)) (fun _ h9 => h9) ((mo_get g2 (by decide)).trans (congrArg some h11)) dX9_value_219 ?_
          refine va_put (D := (dC, dI)) (ci := 11) (v := .int (nI i)) (ty := .int) (C := RX9) (T := TX9) (N := 60) hx hb hts iRX9 tyX9 tyX9_ok nmX9 hown hK hP hD hS 0 rfl rfl 18 (by decide) (hts (.fieldLink RX9 162 "RecordBenchModel" "ended" "I") (by decide +kernel)) (fun _ h9 => h9) rfl (by decide +kernel) rfl rfl (by rw [mo_len]; decide) dX9_value_222 (fun H locs hP hD hS => ?_)
          obtain ⟨g_196, eg_196⟩ : ∃ y, y = va_up g2 18 (.int (nI i)) := ⟨_, rfl⟩
          have hP : va_P (dC, dI) vwCl [(h0, .inr (11, mo g_196)), (a9, .inl (cT, 400, .inl f)), (a6, .inl (cP, 248, .inr (.inl fP)))] H := by rw [eg_196, ← mo_set g2 (by decide)]; exact hP
          have hD : va_D A [(h0, .inr (11, mo g_196)), (a9, .inl (cT, 400, .inl f)), (a6, .inl (cP, 248, .inr (.inl fP)))] := by rw [eg_196, ← mo_set g2 (by decide)]; exact hD
          have g_196h6 : g_196 6 = .ref a6 := by rw [eg_196, va_up_ne _ _ (by decide)]; exact h6
          have g_196h9 : g_196 9 = .ref a9 := by rw [eg_196, va_up_ne _ _ (by decide)]; exact h9
          have g_196h11 : g_196 11 = .int (nI i) := by rw [eg_196, va_up_ne _ _ (by decide)]; exact h11
          have g_196h12 : g_196 12 = .int (nI n) := by rw [eg_196, va_up_ne _ _ (by decide)]; exact h12
          have g_196h13 : g_196 13 = .int b0 := by rw [eg_196, va_up_ne _ _ (by decide)]; exact h13
          have g_196h18 : g_196 18 = .int (nI i) := by rw [eg_196, va_up_self]
          have ung_196 : ∀ j : Nat, j ≠ 11 → j ≠ 17 → j ≠ 18 → g_196 j = g j := fun j h11 h17 h18 => by rw [eg_196, va_up_ne _ _ h18]; exact hun j h11 h17
          refine lv_iload hx hb dX9_value_225 (lv_at hl 6 rfl) ?_
          refine lv_if_ne (tgt := 242) hx hb dX9_value_227 (by decide) (fun c_197 => ?_) (fun c_197 => absurd c_197 (by decide))
          refine lv_iload hx hb dX9_value_242 (lv_at hl 6 rfl) ?_
          refine lv_if_ne (tgt := 253) hx hb dX9_value_244 (by decide) (fun c_198 => ?_) (fun c_198 => absurd c_198 (by decide))
          refine lv_iload hx hb dX9_value_253 (lv_at hl 1 rfl) ?_
          refine lv_if_ne (tgt := 267) hx hb dX9_value_255 (by decide) (fun c_199 => ?_) (fun c_199 => ?_)
          · refine lv_aload_n hx hb dX9_value_267 rfl (lv_at hl 2 rfl) ?_
            refine lv_iconst (v := 2) hx hb dX9_value_268 (by decide) ?_
            refine lv_iload_n hx hb dX9_value_269 rfl (lv_at hl 5 rfl) ?_
            have hFc := va_free (wc := [(h0, .inr (11, mo g_196))]) hD hS hA [0] rfl
            refine va_callv (va_runV (As := [.int 2, .int (nI (tsk f n j))]) (rest := []) ⟨hx, hb, hml, hown, hts⟩ (c_X9_fail l dC dI h0 g_196 b0 g_196h13 2 (nI (tsk f n j)) (by decide) H.size) (cwV 2 hts gp_X9_value_X9_fail_154 rfl rfl rfl (by decide +kernel) ⟨Nat.le_of_ble_eq_true rfl, Nat.le_of_ble_eq_true rfl⟩) ⟨Pr.blind _, va_recv hK hP (ci := 11) (q0 := 0) rfl rfl, fun U hU hW => ⟨rfl, Pr.at (hP.sub (ws' := [(h0, .inr (11, mo g_196))]) [0] rfl) (hK.sub (tys' := []) [] rfl) (hD.sub (ws' := [(h0, .inr (11, mo g_196))]) [0] (by decide) rfl) hN hZ RO.nil hS hFc hU hW⟩⟩ rfl rfl hl.1 rfl (lv_room (Nat.le_of_ble_eq_true rfl)) dX9_value_270 ⟨Nat.le_of_ble_eq_true rfl, Nat.le_of_ble_eq_true rfl⟩) hS (fun q _ h => hFc q h) hFc (fun u t H1 locs ht hvm hw_201 hB hz1 hk1 hS => ?_)
            obtain ⟨g1_202, b1_203⟩ := u
            obtain ⟨hP, hD, hK⟩ := Bq.join (wr := [(a9, .inl (cT, 400, .inl f)), (a6, .inl (cP, 248, .inr (.inl fP)))]) hB ht hvm hP hD [0] [1, 2] rfl rfl (by decide) (by decide) hk1 hFc hK
            generalize H1 = H at hP hS ⊢
            have hP : va_P (dC, dI) vwCl [(a9, .inl (cT, 400, .inl f)), (a6, .inl (cP, 248, .inr (.inl fP))), (h0, .inr (11, mo g1_202))] H := hP
            have hD : va_D A [(a9, .inl (cT, 400, .inl f)), (a6, .inl (cP, 248, .inr (.inl fP))), (h0, .inr (11, mo g1_202))] := hD
            have hK : va_K (dC, dI) vwCl [(cT, .int), (cP, .long)] s := hK
            try dsimp only at hw_201
            obtain ⟨k_204, k_205, k_206⟩ := hw_201
            have w_207 : g1_202 6 = .ref a6 := (k_206 6 (by decide) (by decide)).trans g_196h6
            have w_208 : g1_202 9 = .ref a9 := (k_206 9 (by decide) (by decide)).trans g_196h9
            have w_209 : g1_202 11 = .int (nI i) := (k_206 11 (by decide) (by decide)).trans g_196h11
            have w_210 : g1_202 12 = .int (nI n) := (k_206 12 (by decide) (by decide)).trans g_196h12
            have w_211 : g1_202 18 = .int (nI i) := (k_206 18 (by decide) (by decide)).trans g_196h18
            have un_212 : ∀ j : Nat, j ≠ 11 → j ≠ 13 → j ≠ 14 → j ≠ 17 → j ≠ 18 → g1_202 j = g j := fun j h11 h13 h14 h17 h18 => (k_206 j h13 h14).trans (ung_196 j h11 h17 h18)
            refine lv_aload_n hx hb dX9_value_273 rfl (lv_at hl 2 rfl) ?_
            refine va_get (D := (dC, dI)) (ci := 11) (v := .ref a6) (C := RX9) (T := TX9) (N := 60) hx hb hts iRX9 hown hK hP 2 rfl rfl 6 (by decide) (hts (.fieldLink RX9 30 "RecordBenchModel" "plain" "[J") (by decide +kernel)) (fun _ h9 => h9) ((mo_get g1_202 (by decide)).trans (congrArg some w_207)) dX9_value_274 ?_
            refine lv_iload_n hx hb dX9_value_277 rfl (lv_at hl 3 rfl) ?_
            refine lv_lload hx hb dX9_value_278 (lv_at hl 0 rfl) ?_
            refine va_last hx hb hK hP hD hS 1 1 rfl rfl hp0 dX9_value_280 (fun H locs hP hD hS => ?_)
            obtain ⟨f_213, ef_213⟩ : ∃ y : Nat → Int64, y = vp_updL fP (p0 : Int32).toNatClampNeg ((tvs f (tfd f n (tsk f n j)) (i - tfd f n (tsk f n j))).1) := ⟨_, rfl⟩
            have hP : va_P (dC, dI) vwCl [(a9, .inl (cT, 400, .inl f)), (a6, .inl (cP, 248, .inr (.inl f_213))), (h0, .inr (11, mo g1_202))] H := by rw [ef_213]; exact hP
            have hD : va_D A [(a9, .inl (cT, 400, .inl f)), (a6, .inl (cP, 248, .inr (.inl f_213))), (h0, .inr (11, mo g1_202))] := by rw [ef_213]; exact hD
            have hP9 := hP.sub (ws' := [(h0, .inr (11, mo g1_202)), (a9, .inl (cT, 400, .inl f)), (a6, .inl (cP, 248, .inr (.inl f_213)))]) [2, 0, 1] rfl
            have hD9 := hD.sub (ws' := [(h0, .inr (11, mo g1_202)), (a9, .inl (cT, 400, .inl f)), (a6, .inl (cP, 248, .inr (.inl f_213)))]) [2, 0, 1] (by decide) rfl
            have hK9 := hK.sub (tys' := []) [] rfl
            exact W.vret hx hb hr (fun t ht hW => ⟨⟨(g1_202, i, b1_203, (nI i), f_213), rfl, ⟨Or.inr ⟨fun h => c_199 (by have := h.2.2.1; rw [htd] at this; exact this), hi3, k_204, fun x hx => by rw [ef_213]; exact pk_uLn hx⟩, w_209, k_205, w_211, (fun j h11 h13 h14 h17 h18 => un_212 j h11 h13 h14 h17 h18)⟩, by rw [ht]; exact hP9, va_K.moved hW.alike hK9, hD9⟩, hS.F ht⟩) hS.2.2 dX9_value_281
          · refine lv_lload hx hb dX9_value_258 (lv_at hl 0 rfl) ?_
            refine lv_iload_n hx hb dX9_value_260 rfl (lv_at hl 4 rfl) ?_
            have hFc := va_free (wc := []) hD hS hA [] rfl
            refine va_calli (va_runS (As := [.long ((tvs f (tfd f n (tsk f n j)) (i - tfd f n (tsk f n j))).1), .int p1]) (rest := []) ⟨hx, hb, hml, hown, hts⟩ (c_X9_isOf l dC dI ((tvs f (tfd f n (tsk f n j)) (i - tfd f n (tsk f n j))).1) p1 H.size) (cwS 2 hts gp_X9_value_X9_isOf_229 rfl rfl rfl (by decide +kernel) ⟨Nat.le_of_ble_eq_true rfl, Nat.le_of_ble_eq_true rfl⟩) ⟨Pr.blind _, fun U hU hW => ⟨rfl, Pr.at (hP.sub (ws' := []) [] rfl) (hK.sub (tys' := []) [] rfl) (hD.sub (ws' := []) [] (by decide) rfl) hN hZ RO.nil hS hFc hU hW⟩⟩ rfl rfl hl.1 rfl (lv_room (Nat.le_of_ble_eq_true rfl)) dX9_value_261 ⟨Nat.le_of_ble_eq_true rfl, Nat.le_of_ble_eq_true rfl⟩) hS (fun q _ h => hFc q h) hFc (fun r_214 u t H1 locs ht hvm hw_215 hB hz1 hk1 hS => ?_)
            obtain ⟨hP, hD, hK⟩ := Bq.join (wr := [(h0, .inr (11, mo g_196)), (a9, .inl (cT, 400, .inl f)), (a6, .inl (cP, 248, .inr (.inl fP)))]) hB ht hvm hP hD [] [0, 1, 2] rfl rfl (by decide) (by decide) hk1 hFc hK
            generalize H1 = H at hP hS ⊢
            have hP : va_P (dC, dI) vwCl [(h0, .inr (11, mo g_196)), (a9, .inl (cT, 400, .inl f)), (a6, .inl (cP, 248, .inr (.inl fP)))] H := hP
            have hD : va_D A [(h0, .inr (11, mo g_196)), (a9, .inl (cT, 400, .inl f)), (a6, .inl (cP, 248, .inr (.inl fP)))] := hD
            have hK : va_K (dC, dI) vwCl [(cT, .int), (cP, .long)] s := hK
            try dsimp only at hw_215
            have k_216 := hw_215
            rcases k_216 with ⟨ho, rfl⟩ | ⟨ho, rfl⟩
            · refine W.eq (g2 := F0 m 264 ls [.int 1]) rfl ?_
              refine lv_if_ne (tgt := 273) hx hb dX9_value_264 (by decide) (fun c_217 => ?_) (fun c_217 => absurd c_217 (by decide))
              refine lv_aload_n hx hb dX9_value_273 rfl (lv_at hl 2 rfl) ?_
              refine va_get (D := (dC, dI)) (ci := 11) (v := .ref a6) (C := RX9) (T := TX9) (N := 60) hx hb hts iRX9 hown hK hP 0 rfl rfl 6 (by decide) (hts (.fieldLink RX9 30 "RecordBenchModel" "plain" "[J") (by decide +kernel)) (fun _ h9 => h9) ((mo_get g_196 (by decide)).trans (congrArg some g_196h6)) dX9_value_274 ?_
              refine lv_iload_n hx hb dX9_value_277 rfl (lv_at hl 3 rfl) ?_
              refine lv_lload hx hb dX9_value_278 (lv_at hl 0 rfl) ?_
              refine va_last hx hb hK hP hD hS 2 1 rfl rfl hp0 dX9_value_280 (fun H locs hP hD hS => ?_)
              obtain ⟨f_218, ef_218⟩ : ∃ y : Nat → Int64, y = vp_updL fP (p0 : Int32).toNatClampNeg ((tvs f (tfd f n (tsk f n j)) (i - tfd f n (tsk f n j))).1) := ⟨_, rfl⟩
              have hP : va_P (dC, dI) vwCl [(h0, .inr (11, mo g_196)), (a9, .inl (cT, 400, .inl f)), (a6, .inl (cP, 248, .inr (.inl f_218)))] H := by rw [ef_218]; exact hP
              have hD : va_D A [(h0, .inr (11, mo g_196)), (a9, .inl (cT, 400, .inl f)), (a6, .inl (cP, 248, .inr (.inl f_218)))] := by rw [ef_218]; exact hD
              have hP9 := hP.sub (ws' := [(h0, .inr (11, mo g_196)), (a9, .inl (cT, 400, .inl f)), (a6, .inl (cP, 248, .inr (.inl f_218)))]) [0, 1, 2] rfl
              have hD9 := hD.sub (ws' := [(h0, .inr (11, mo g_196)), (a9, .inl (cT, 400, .inl f)), (a6, .inl (cP, 248, .inr (.inl f_218)))]) [0, 1, 2] (by decide) rfl
              have hK9 := hK.sub (tys' := []) [] rfl
              exact W.vret hx hb hr (fun t ht hW => ⟨⟨(g_196, i, b0, (nI i), f_218), rfl, ⟨Or.inl ⟨⟨by rw [htd]; exact fun h => c_195 (by rw [h]), by rw [htd]; omega, by rw [htd]; exact ⟨c_199, (fun h => absurd h.1 (by rw [hmi]; decide)), by rw [tvv, hmi, if_neg (by decide)]; exact ho⟩⟩, htd.symm, rfl, by rw [htd], by rw [ef_218, htd, tvv, hmi, if_neg (by decide)]⟩, g_196h11, g_196h13, g_196h18, (fun j h11 h13 h14 h17 h18 => ung_196 j h11 h17 h18)⟩, by rw [ht]; exact hP9, va_K.moved hW.alike hK9, hD9⟩, hS.F ht⟩) hS.2.2 dX9_value_281
            · refine W.eq (g2 := F0 m 264 ls [.int 0]) rfl ?_
              refine lv_if_ne (tgt := 273) hx hb dX9_value_264 (by decide) (fun c_219 => absurd (by decide) c_219) (fun c_219 => ?_)
              refine lv_aload_n hx hb dX9_value_267 rfl (lv_at hl 2 rfl) ?_
              refine lv_iconst (v := 2) hx hb dX9_value_268 (by decide) ?_
              refine lv_iload_n hx hb dX9_value_269 rfl (lv_at hl 5 rfl) ?_
              have hFc := va_free (wc := [(h0, .inr (11, mo g_196))]) hD hS hA [0] rfl
              refine va_callv (va_runV (As := [.int 2, .int (nI (tsk f n j))]) (rest := []) ⟨hx, hb, hml, hown, hts⟩ (c_X9_fail l dC dI h0 g_196 b0 g_196h13 2 (nI (tsk f n j)) (by decide) H.size) (cwV 2 hts gp_X9_value_X9_fail_154 rfl rfl rfl (by decide +kernel) ⟨Nat.le_of_ble_eq_true rfl, Nat.le_of_ble_eq_true rfl⟩) ⟨Pr.blind _, va_recv hK hP (ci := 11) (q0 := 0) rfl rfl, fun U hU hW => ⟨rfl, Pr.at (hP.sub (ws' := [(h0, .inr (11, mo g_196))]) [0] rfl) (hK.sub (tys' := []) [] rfl) (hD.sub (ws' := [(h0, .inr (11, mo g_196))]) [0] (by decide) rfl) hN hZ RO.nil hS hFc hU hW⟩⟩ rfl rfl hl.1 rfl (lv_room (Nat.le_of_ble_eq_true rfl)) dX9_value_270 ⟨Nat.le_of_ble_eq_true rfl, Nat.le_of_ble_eq_true rfl⟩) hS (fun q _ h => hFc q h) hFc (fun u t H1 locs ht hvm hw_221 hB hz1 hk1 hS => ?_)
              obtain ⟨g1_222, b1_223⟩ := u
              obtain ⟨hP, hD, hK⟩ := Bq.join (wr := [(a9, .inl (cT, 400, .inl f)), (a6, .inl (cP, 248, .inr (.inl fP)))]) hB ht hvm hP hD [0] [1, 2] rfl rfl (by decide) (by decide) hk1 hFc hK
              generalize H1 = H at hP hS ⊢
              have hP : va_P (dC, dI) vwCl [(a9, .inl (cT, 400, .inl f)), (a6, .inl (cP, 248, .inr (.inl fP))), (h0, .inr (11, mo g1_222))] H := hP
              have hD : va_D A [(a9, .inl (cT, 400, .inl f)), (a6, .inl (cP, 248, .inr (.inl fP))), (h0, .inr (11, mo g1_222))] := hD
              have hK : va_K (dC, dI) vwCl [(cT, .int), (cP, .long)] s := hK
              try dsimp only at hw_221
              obtain ⟨k_224, k_225, k_226⟩ := hw_221
              have w_227 : g1_222 6 = .ref a6 := (k_226 6 (by decide) (by decide)).trans g_196h6
              have w_228 : g1_222 9 = .ref a9 := (k_226 9 (by decide) (by decide)).trans g_196h9
              have w_229 : g1_222 11 = .int (nI i) := (k_226 11 (by decide) (by decide)).trans g_196h11
              have w_230 : g1_222 12 = .int (nI n) := (k_226 12 (by decide) (by decide)).trans g_196h12
              have w_231 : g1_222 18 = .int (nI i) := (k_226 18 (by decide) (by decide)).trans g_196h18
              have un_232 : ∀ j : Nat, j ≠ 11 → j ≠ 13 → j ≠ 14 → j ≠ 17 → j ≠ 18 → g1_222 j = g j := fun j h11 h13 h14 h17 h18 => (k_226 j h13 h14).trans (ung_196 j h11 h17 h18)
              refine lv_aload_n hx hb dX9_value_273 rfl (lv_at hl 2 rfl) ?_
              refine va_get (D := (dC, dI)) (ci := 11) (v := .ref a6) (C := RX9) (T := TX9) (N := 60) hx hb hts iRX9 hown hK hP 2 rfl rfl 6 (by decide) (hts (.fieldLink RX9 30 "RecordBenchModel" "plain" "[J") (by decide +kernel)) (fun _ h9 => h9) ((mo_get g1_222 (by decide)).trans (congrArg some w_227)) dX9_value_274 ?_
              refine lv_iload_n hx hb dX9_value_277 rfl (lv_at hl 3 rfl) ?_
              refine lv_lload hx hb dX9_value_278 (lv_at hl 0 rfl) ?_
              refine va_last hx hb hK hP hD hS 1 1 rfl rfl hp0 dX9_value_280 (fun H locs hP hD hS => ?_)
              obtain ⟨f_233, ef_233⟩ : ∃ y : Nat → Int64, y = vp_updL fP (p0 : Int32).toNatClampNeg ((tvs f (tfd f n (tsk f n j)) (i - tfd f n (tsk f n j))).1) := ⟨_, rfl⟩
              have hP : va_P (dC, dI) vwCl [(a9, .inl (cT, 400, .inl f)), (a6, .inl (cP, 248, .inr (.inl f_233))), (h0, .inr (11, mo g1_222))] H := by rw [ef_233]; exact hP
              have hD : va_D A [(a9, .inl (cT, 400, .inl f)), (a6, .inl (cP, 248, .inr (.inl f_233))), (h0, .inr (11, mo g1_222))] := by rw [ef_233]; exact hD
              have hP9 := hP.sub (ws' := [(h0, .inr (11, mo g1_222)), (a9, .inl (cT, 400, .inl f)), (a6, .inl (cP, 248, .inr (.inl f_233)))]) [2, 0, 1] rfl
              have hD9 := hD.sub (ws' := [(h0, .inr (11, mo g1_222)), (a9, .inl (cT, 400, .inl f)), (a6, .inl (cP, 248, .inr (.inl f_233)))]) [2, 0, 1] (by decide) rfl
              have hK9 := hK.sub (tys' := []) [] rfl
              exact W.vret hx hb hr (fun t ht hW => ⟨⟨(g1_222, i, b1_223, (nI i), f_233), rfl, ⟨Or.inr ⟨fun h => ho (by have := h.2.2.2.2; rw [htd, tvv, hmi, if_neg (by decide)] at this; exact this), hi3, k_224, fun x hx => by rw [ef_233]; exact pk_uLn hx⟩, w_229, k_225, w_231, (fun j h11 h13 h14 h17 h18 => un_232 j h11 h13 h14 h17 h18)⟩, by rw [ht]; exact hP9, va_K.moved hW.alike hK9, hD9⟩, hS.F ht⟩) hS.2.2 dX9_value_281
        · refine lv_aload_n hx hb dX9_value_207 rfl (lv_at hl 2 rfl) ?_
          refine lv_iconst (v := 1) hx hb dX9_value_208 (by decide) ?_
          refine lv_aload_n hx hb dX9_value_209 rfl (lv_at hl 2 rfl) ?_
          refine va_get (D := (dC, dI)) (ci := 11) (v := .int (nI i)) (C := RX9) (T := TX9) (N := 60) hx hb hts iRX9 hown hK hP 0 rfl rfl 11 (by decide) (hts (.fieldLink RX9 141 "RecordBenchModel" "at" "I") (by decide +kernel)) (fun _ h9 => h9) ((mo_get g2 (by decide)).trans (congrArg some h11)) dX9_value_210 ?_
          have hFc := va_free (wc := [(h0, .inr (11, mo g2))]) hD hS hA [0] rfl
          refine va_callv (va_runV (As := [.int 1, .int (nI i)]) (rest := []) ⟨hx, hb, hml, hown, hts⟩ (c_X9_fail l dC dI h0 g2 b0 h13 1 (nI i) (by decide) H.size) (cwV 2 hts gp_X9_value_X9_fail_154 rfl rfl rfl (by decide +kernel) ⟨Nat.le_of_ble_eq_true rfl, Nat.le_of_ble_eq_true rfl⟩) ⟨Pr.blind _, va_recv hK hP (ci := 11) (q0 := 0) rfl rfl, fun U hU hW => ⟨rfl, Pr.at (hP.sub (ws' := [(h0, .inr (11, mo g2))]) [0] rfl) (hK.sub (tys' := []) [] rfl) (hD.sub (ws' := [(h0, .inr (11, mo g2))]) [0] (by decide) rfl) hN hZ RO.nil hS hFc hU hW⟩⟩ rfl rfl hl.1 rfl (lv_room (Nat.le_of_ble_eq_true rfl)) dX9_value_213 ⟨Nat.le_of_ble_eq_true rfl, Nat.le_of_ble_eq_true rfl⟩) hS (fun q _ h => hFc q h) hFc (fun u t H1 locs ht hvm hw_235 hB hz1 hk1 hS => ?_)
          obtain ⟨g1_236, b1_237⟩ := u
          obtain ⟨hP, hD, hK⟩ := Bq.join (wr := [(a9, .inl (cT, 400, .inl f)), (a6, .inl (cP, 248, .inr (.inl fP)))]) hB ht hvm hP hD [0] [1, 2] rfl rfl (by decide) (by decide) hk1 hFc hK
          generalize H1 = H at hP hS ⊢
          have hP : va_P (dC, dI) vwCl [(a9, .inl (cT, 400, .inl f)), (a6, .inl (cP, 248, .inr (.inl fP))), (h0, .inr (11, mo g1_236))] H := hP
          have hD : va_D A [(a9, .inl (cT, 400, .inl f)), (a6, .inl (cP, 248, .inr (.inl fP))), (h0, .inr (11, mo g1_236))] := hD
          have hK : va_K (dC, dI) vwCl [(cT, .int), (cP, .long)] s := hK
          try dsimp only at hw_235
          obtain ⟨k_238, k_239, k_240⟩ := hw_235
          have w_241 : g1_236 6 = .ref a6 := (k_240 6 (by decide) (by decide)).trans h6
          have w_242 : g1_236 9 = .ref a9 := (k_240 9 (by decide) (by decide)).trans h9
          have w_243 : g1_236 11 = .int (nI i) := (k_240 11 (by decide) (by decide)).trans h11
          have w_244 : g1_236 12 = .int (nI n) := (k_240 12 (by decide) (by decide)).trans h12
          have w_245 : g1_236 18 = .int x18 := (k_240 18 (by decide) (by decide)).trans h18
          have un_246 : ∀ j : Nat, j ≠ 11 → j ≠ 13 → j ≠ 14 → j ≠ 17 → g1_236 j = g j := fun j h11 h13 h14 h17 => (k_240 j h13 h14).trans (hun j h11 h17)
          have hP9 := hP.sub (ws' := [(h0, .inr (11, mo g1_236)), (a9, .inl (cT, 400, .inl f)), (a6, .inl (cP, 248, .inr (.inl fP)))]) [2, 0, 1] rfl
          have hD9 := hD.sub (ws' := [(h0, .inr (11, mo g1_236)), (a9, .inl (cT, 400, .inl f)), (a6, .inl (cP, 248, .inr (.inl fP)))]) [2, 0, 1] (by decide) rfl
          have hK9 := hK.sub (tys' := []) [] rfl
          exact W.vret hx hb hr (fun t ht hW => ⟨⟨(g1_236, i, b1_237, x18, fP), rfl, ⟨Or.inr ⟨fun h => h.1 (by rw [htd]; exact (nI_eq (by omega) (by omega)).mp c_195), hi3, k_238, fun _ _ => rfl⟩, w_243, k_239, w_245, (fun j h11 h13 h14 h17 h18 => un_246 j h11 h13 h14 h17)⟩, by rw [ht]; exact hP9, va_K.moved hW.alike hK9, hD9⟩, hS.F ht⟩) hS.2.2 dX9_value_216
      · have hlt : i < n := nI_ltN (by omega) (by omega) c_194
        refine lv_aload_n hx hb dX9_value_80 rfl (lv_at hl 2 rfl) ?_
        refine va_get (D := (dC, dI)) (ci := 11) (v := .ref a9) (C := RX9) (T := TX9) (N := 60) hx hb hts iRX9 hown hK hP 0 rfl rfl 9 (by decide) (hts (.fieldLink RX9 39 "RecordBenchModel" "tape" "[I") (by decide +kernel)) (fun _ h9 => h9) ((mo_get g2 (by decide)).trans (congrArg some h9)) dX9_value_81 ?_
        refine lv_aload_n hx hb dX9_value_84 rfl (lv_at hl 2 rfl) ?_
        refine va_get (D := (dC, dI)) (ci := 11) (v := .int (nI i)) (C := RX9) (T := TX9) (N := 60) hx hb hts iRX9 hown hK hP 0 rfl rfl 11 (by decide) (hts (.fieldLink RX9 141 "RecordBenchModel" "at" "I") (by decide +kernel)) (fun _ h9 => h9) ((mo_get g2 (by decide)).trans (congrArg some h11)) dX9_value_85 ?_
        refine va_iald hx hb hK hP 1 0 rfl rfl (vp_in_nI (by omega) (by decide)) dX9_value_88 ?_
        refine W_toi (y := f i) (by rw [nI_clamp (by omega)]) ?_
        have hFc := va_free (wc := []) hD hS hA [] rfl
        refine va_calli (va_runS (As := [.int (f i)]) (rest := []) ⟨hx, hb, hml, hown, hts⟩ (c_X9_isDigit l dC dI (f i) H.size) (cwS 1 hts gp_X9_value_X9_isDigit_158 rfl rfl rfl (by decide +kernel) ⟨Nat.le_of_ble_eq_true rfl, Nat.le_of_ble_eq_true rfl⟩) ⟨Pr.blind _, fun U hU hW => ⟨rfl, Pr.at (hP.sub (ws' := []) [] rfl) (hK.sub (tys' := []) [] rfl) (hD.sub (ws' := []) [] (by decide) rfl) hN hZ RO.nil hS hFc hU hW⟩⟩ rfl rfl hl.1 rfl (lv_room (Nat.le_of_ble_eq_true rfl)) dX9_value_89 ⟨Nat.le_of_ble_eq_true rfl, Nat.le_of_ble_eq_true rfl⟩) hS (fun q _ h => hFc q h) hFc (fun r_247 u t H1 locs ht hvm hw_248 hB hz1 hk1 hS => ?_)
        obtain ⟨hP, hD, hK⟩ := Bq.join (wr := [(h0, .inr (11, mo g2)), (a9, .inl (cT, 400, .inl f)), (a6, .inl (cP, 248, .inr (.inl fP)))]) hB ht hvm hP hD [] [0, 1, 2] rfl rfl (by decide) (by decide) hk1 hFc hK
        generalize H1 = H at hP hS ⊢
        have hP : va_P (dC, dI) vwCl [(h0, .inr (11, mo g2)), (a9, .inl (cT, 400, .inl f)), (a6, .inl (cP, 248, .inr (.inl fP)))] H := hP
        have hD : va_D A [(h0, .inr (11, mo g2)), (a9, .inl (cT, 400, .inl f)), (a6, .inl (cP, 248, .inr (.inl fP)))] := hD
        have hK : va_K (dC, dI) vwCl [(cT, .int), (cP, .long)] s := hK
        try dsimp only at hw_248
        have k_249 := hw_248
        rcases k_249 with ⟨ho, rfl⟩ | ⟨ho, rfl⟩
        · refine W.eq (g2 := F0 m 92 ls [.int 1]) rfl ?_
          refine lv_if_eq (tgt := 198) hx hb dX9_value_92 (by decide) (fun c_250 => absurd c_250 (by decide)) (fun c_250 => ?_)
          refine lv_aload_n hx hb dX9_value_95 rfl (lv_at hl 2 rfl) ?_
          refine va_get (D := (dC, dI)) (ci := 11) (v := .int (nI i)) (C := RX9) (T := TX9) (N := 60) hx hb hts iRX9 hown hK hP 0 rfl rfl 11 (by decide) (hts (.fieldLink RX9 141 "RecordBenchModel" "at" "I") (by decide +kernel)) (fun _ h9 => h9) ((mo_get g2 (by decide)).trans (congrArg some h11)) dX9_value_96 ?_
          refine lv_iload hx hb dX9_value_99 (lv_at hl 7 rfl) ?_
          refine lv_isub hx hb dX9_value_101 ?_
          refine W_toi (y := nI (i - tfd f n (tsk f n j))) (pk_sub hi1) ?_
          refine lv_bipush (v := 19) hx hb dX9_value_102 (by decide) ?_
          refine lv_icmp_ne (tgt := 117) hx hb dX9_value_104 (by decide) (fun c_251 => ?_) (fun c_251 => ?_)
          · have hne : i - tfd f n (tsk f n j) ≠ 19 := fun h => c_251 (by rw [h]; rfl)
            refine lv_aload_n hx hb dX9_value_117 rfl (lv_at hl 2 rfl) ?_
            refine va_get (D := (dC, dI)) (ci := 11) (v := .ref a9) (C := RX9) (T := TX9) (N := 60) hx hb hts iRX9 hown hK hP 0 rfl rfl 9 (by decide) (hts (.fieldLink RX9 39 "RecordBenchModel" "tape" "[I") (by decide +kernel)) (fun _ h9 => h9) ((mo_get g2 (by decide)).trans (congrArg some h9)) dX9_value_118 ?_
            refine lv_aload_n hx hb dX9_value_121 rfl (lv_at hl 2 rfl) ?_
            refine va_get (D := (dC, dI)) (ci := 11) (v := .int (nI i)) (C := RX9) (T := TX9) (N := 60) hx hb hts iRX9 hown hK hP 0 rfl rfl 11 (by decide) (hts (.fieldLink RX9 141 "RecordBenchModel" "at" "I") (by decide +kernel)) (fun _ h9 => h9) ((mo_get g2 (by decide)).trans (congrArg some h11)) dX9_value_122 ?_
            refine va_iald hx hb hK hP 1 0 rfl rfl (vp_in_nI (by omega) (by decide)) dX9_value_125 ?_
            refine W_toi (y := f i) (by rw [nI_clamp (by omega)]) ?_
            refine lv_bipush (v := 48) hx hb dX9_value_126 (by decide) ?_
            refine lv_isub hx hb dX9_value_128 ?_
            refine lv_istore (lv' := [(9, .int ((f i) - 48)), (6, .long ((tvs f (tfd f n (tsk f n j)) (i - tfd f n (tsk f n j))).1)), (8, .int ((tvs f (tfd f n (tsk f n j)) (i - tfd f n (tsk f n j))).2)), (0, .ref h0), (1, .int p0), (2, .int p1), (3, .int (nI (tsk f n j))), (4, .int 1), (5, .int (nI (tfd f n (tsk f n j))))]) hx hb dX9_value_129 hl (by decide) rfl (fun ls hl => ?_)
            refine lv_iload hx hb dX9_value_131 (lv_at hl 2 rfl) ?_
            refine lv_if_ne (tgt := 161) hx hb dX9_value_133 (by decide) (fun c_252 => ?_) (fun c_252 => ?_)
            · refine lv_iconst (v := 1) hx hb dX9_value_161 (by decide) ?_
              refine lv_goto (tgt := 166) hx hb dX9_value_162 (by decide) ?_
              refine lv_istore (lv' := [(8, .int 1), (9, .int ((f i) - 48)), (6, .long ((tvs f (tfd f n (tsk f n j)) (i - tfd f n (tsk f n j))).1)), (0, .ref h0), (1, .int p0), (2, .int p1), (3, .int (nI (tsk f n j))), (4, .int 1), (5, .int (nI (tfd f n (tsk f n j))))]) hx hb dX9_value_166 hl (by decide) rfl (fun ls hl => ?_)
              refine lv_iload hx hb dX9_value_168 (lv_at hl 0 rfl) ?_
              refine lv_if_ne (tgt := 185) hx hb dX9_value_170 (by decide) (fun c_253 => ?_) (fun c_253 => absurd c_253 (by decide))
              refine lv_aload_n hx hb dX9_value_185 rfl (lv_at hl 3 rfl) ?_
              refine lv_dup hx hb dX9_value_186 rfl ?_
              refine va_get (D := (dC, dI)) (ci := 11) (v := .int (nI i)) (C := RX9) (T := TX9) (N := 60) hx hb hts iRX9 hown hK hP 0 rfl rfl 11 (by decide) (hts (.fieldLink RX9 141 "RecordBenchModel" "at" "I") (by decide +kernel)) (fun _ h9 => h9) ((mo_get g2 (by decide)).trans (congrArg some h11)) dX9_value_187 ?_
              refine lv_iconst (v := 1) hx hb dX9_value_190 (by decide) ?_
              refine lv_iadd hx hb dX9_value_191 ?_
              refine W_toi (y := nI (i + 1)) (nI_1 i) ?_
              refine va_put (D := (dC, dI)) (ci := 11) (v := .int (nI (i + 1))) (ty := .int) (C := RX9) (T := TX9) (N := 60) hx hb hts iRX9 tyX9 tyX9_ok nmX9 hown hK hP hD hS 0 rfl rfl 11 (by decide) (hts (.fieldLink RX9 141 "RecordBenchModel" "at" "I") (by decide +kernel)) (fun _ h9 => h9) rfl (by decide +kernel) rfl rfl (by rw [mo_len]; decide) dX9_value_192 (fun H locs hP hD hS => ?_)
              obtain ⟨g_254, eg_254⟩ : ∃ y, y = va_up g2 11 (.int (nI (i + 1))) := ⟨_, rfl⟩
              have hP : va_P (dC, dI) vwCl [(h0, .inr (11, mo g_254)), (a9, .inl (cT, 400, .inl f)), (a6, .inl (cP, 248, .inr (.inl fP)))] H := by rw [eg_254, ← mo_set g2 (by decide)]; exact hP
              have hD : va_D A [(h0, .inr (11, mo g_254)), (a9, .inl (cT, 400, .inl f)), (a6, .inl (cP, 248, .inr (.inl fP)))] := by rw [eg_254, ← mo_set g2 (by decide)]; exact hD
              have g_254h6 : g_254 6 = .ref a6 := by rw [eg_254, va_up_ne _ _ (by decide)]; exact h6
              have g_254h9 : g_254 9 = .ref a9 := by rw [eg_254, va_up_ne _ _ (by decide)]; exact h9
              have g_254h12 : g_254 12 = .int (nI n) := by rw [eg_254, va_up_ne _ _ (by decide)]; exact h12
              have g_254h13 : g_254 13 = .int b0 := by rw [eg_254, va_up_ne _ _ (by decide)]; exact h13
              have g_254h18 : g_254 18 = .int x18 := by rw [eg_254, va_up_ne _ _ (by decide)]; exact h18
              have g_254h11 : g_254 11 = .int (nI (i + 1)) := by rw [eg_254, va_up_self]
              have ung_254 : ∀ j : Nat, j ≠ 11 → j ≠ 17 → g_254 j = g j := fun j h11 h17 => by rw [eg_254, va_up_ne _ _ h11]; exact hun j h11 h17
              refine lv_goto (tgt := 69) hx hb dX9_value_195 (by decide) ?_
              exact ih ((i + 1), g_254) (by show n - (i + 1) < n - i; omega) ⟨(by omega), (by omega), (by omega), ((tde_go hlt ho).symm.trans hde), g_254h6, g_254h9, g_254h11, g_254h12, g_254h13, g_254h18, (fun k h1 h2 => ung_254 k h1 h2)⟩ _ _ _ (hP.sub (ws' := [(h0, .inr (11, mo g_254)), (a9, .inl (cT, 400, .inl f)), (a6, .inl (cP, 248, .inr (.inl fP)))]) [0, 1, 2] rfl) (hD.sub (ws' := [(h0, .inr (11, mo g_254)), (a9, .inl (cT, 400, .inl f)), (a6, .inl (cP, 248, .inr (.inl fP)))]) [0, 1, 2] (by decide) rfl) hS (by show lv_has _ _ [(6, .long ((tvs f (tfd f n (tsk f n j)) (i + 1 - tfd f n (tsk f n j))).1)), (8, .int ((tvs f (tfd f n (tsk f n j)) (i + 1 - tfd f n (tsk f n j))).2)), (0, .ref h0), (1, .int p0), (2, .int p1), (3, .int (nI (tsk f n j))), (4, .int 1), (5, .int (nI (tfd f n (tsk f n j))))]; rw [tvs_step hi1, stp, if_pos (Or.inl c_252)]; exact lv_sub hl [2, 0, 3, 4, 5, 6, 7, 8] rfl)
            · refine lv_lload hx hb dX9_value_136 (lv_at hl 1 rfl) ?_
              refine lv_ldc2 hx hb hown (hts (.constantLong RX9 223 (-922337203685477580)) (by decide +kernel)) dX9_value_138 ?_
              refine W.lcmp hx hb dX9_value_141 ?_
              refine lv_if_lt (tgt := 161) hx hb dX9_value_142 (by decide) (fun c_255 => ?_) (fun c_255 => ?_)
              · refine lv_iconst (v := 1) hx hb dX9_value_161 (by decide) ?_
                refine lv_goto (tgt := 166) hx hb dX9_value_162 (by decide) ?_
                refine lv_istore (lv' := [(8, .int 1), (9, .int ((f i) - 48)), (6, .long ((tvs f (tfd f n (tsk f n j)) (i - tfd f n (tsk f n j))).1)), (0, .ref h0), (1, .int p0), (2, .int p1), (3, .int (nI (tsk f n j))), (4, .int 1), (5, .int (nI (tfd f n (tsk f n j))))]) hx hb dX9_value_166 hl (by decide) rfl (fun ls hl => ?_)
                refine lv_iload hx hb dX9_value_168 (lv_at hl 0 rfl) ?_
                refine lv_if_ne (tgt := 185) hx hb dX9_value_170 (by decide) (fun c_256 => ?_) (fun c_256 => absurd c_256 (by decide))
                refine lv_aload_n hx hb dX9_value_185 rfl (lv_at hl 3 rfl) ?_
                refine lv_dup hx hb dX9_value_186 rfl ?_
                refine va_get (D := (dC, dI)) (ci := 11) (v := .int (nI i)) (C := RX9) (T := TX9) (N := 60) hx hb hts iRX9 hown hK hP 0 rfl rfl 11 (by decide) (hts (.fieldLink RX9 141 "RecordBenchModel" "at" "I") (by decide +kernel)) (fun _ h9 => h9) ((mo_get g2 (by decide)).trans (congrArg some h11)) dX9_value_187 ?_
                refine lv_iconst (v := 1) hx hb dX9_value_190 (by decide) ?_
                refine lv_iadd hx hb dX9_value_191 ?_
                refine W_toi (y := nI (i + 1)) (nI_1 i) ?_
                refine va_put (D := (dC, dI)) (ci := 11) (v := .int (nI (i + 1))) (ty := .int) (C := RX9) (T := TX9) (N := 60) hx hb hts iRX9 tyX9 tyX9_ok nmX9 hown hK hP hD hS 0 rfl rfl 11 (by decide) (hts (.fieldLink RX9 141 "RecordBenchModel" "at" "I") (by decide +kernel)) (fun _ h9 => h9) rfl (by decide +kernel) rfl rfl (by rw [mo_len]; decide) dX9_value_192 (fun H locs hP hD hS => ?_)
                obtain ⟨g_257, eg_257⟩ : ∃ y, y = va_up g2 11 (.int (nI (i + 1))) := ⟨_, rfl⟩
                have hP : va_P (dC, dI) vwCl [(h0, .inr (11, mo g_257)), (a9, .inl (cT, 400, .inl f)), (a6, .inl (cP, 248, .inr (.inl fP)))] H := by rw [eg_257, ← mo_set g2 (by decide)]; exact hP
                have hD : va_D A [(h0, .inr (11, mo g_257)), (a9, .inl (cT, 400, .inl f)), (a6, .inl (cP, 248, .inr (.inl fP)))] := by rw [eg_257, ← mo_set g2 (by decide)]; exact hD
                have g_257h6 : g_257 6 = .ref a6 := by rw [eg_257, va_up_ne _ _ (by decide)]; exact h6
                have g_257h9 : g_257 9 = .ref a9 := by rw [eg_257, va_up_ne _ _ (by decide)]; exact h9
                have g_257h12 : g_257 12 = .int (nI n) := by rw [eg_257, va_up_ne _ _ (by decide)]; exact h12
                have g_257h13 : g_257 13 = .int b0 := by rw [eg_257, va_up_ne _ _ (by decide)]; exact h13
                have g_257h18 : g_257 18 = .int x18 := by rw [eg_257, va_up_ne _ _ (by decide)]; exact h18
                have g_257h11 : g_257 11 = .int (nI (i + 1)) := by rw [eg_257, va_up_self]
                have ung_257 : ∀ j : Nat, j ≠ 11 → j ≠ 17 → g_257 j = g j := fun j h11 h17 => by rw [eg_257, va_up_ne _ _ h11]; exact hun j h11 h17
                refine lv_goto (tgt := 69) hx hb dX9_value_195 (by decide) ?_
                exact ih ((i + 1), g_257) (by show n - (i + 1) < n - i; omega) ⟨(by omega), (by omega), (by omega), ((tde_go hlt ho).symm.trans hde), g_257h6, g_257h9, g_257h11, g_257h12, g_257h13, g_257h18, (fun k h1 h2 => ung_257 k h1 h2)⟩ _ _ _ (hP.sub (ws' := [(h0, .inr (11, mo g_257)), (a9, .inl (cT, 400, .inl f)), (a6, .inl (cP, 248, .inr (.inl fP)))]) [0, 1, 2] rfl) (hD.sub (ws' := [(h0, .inr (11, mo g_257)), (a9, .inl (cT, 400, .inl f)), (a6, .inl (cP, 248, .inr (.inl fP)))]) [0, 1, 2] (by decide) rfl) hS (by show lv_has _ _ [(6, .long ((tvs f (tfd f n (tsk f n j)) (i + 1 - tfd f n (tsk f n j))).1)), (8, .int ((tvs f (tfd f n (tsk f n j)) (i + 1 - tfd f n (tsk f n j))).2)), (0, .ref h0), (1, .int p0), (2, .int p1), (3, .int (nI (tsk f n j))), (4, .int 1), (5, .int (nI (tfd f n (tsk f n j))))]; rw [tvs_step hi1, stp, if_pos (Or.inr (Or.inl ((lg_cmp_lt _ _).mp c_255)))]; exact lv_sub hl [2, 0, 3, 4, 5, 6, 7, 8] rfl)
              · refine lv_lload hx hb dX9_value_145 (lv_at hl 1 rfl) ?_
                refine lv_ldc2 hx hb hown (hts (.constantLong RX9 223 (-922337203685477580)) (by decide +kernel)) dX9_value_147 ?_
                refine W.lcmp hx hb dX9_value_150 ?_
                refine lv_if_ne (tgt := 165) hx hb dX9_value_151 (by decide) (fun c_258 => ?_) (fun c_258 => ?_)
                · refine lv_iconst (v := 0) hx hb dX9_value_165 (by decide) ?_
                  refine lv_istore (lv' := [(8, .int 0), (9, .int ((f i) - 48)), (6, .long ((tvs f (tfd f n (tsk f n j)) (i - tfd f n (tsk f n j))).1)), (0, .ref h0), (1, .int p0), (2, .int p1), (3, .int (nI (tsk f n j))), (4, .int 1), (5, .int (nI (tfd f n (tsk f n j))))]) hx hb dX9_value_166 hl (by decide) rfl (fun ls hl => ?_)
                  refine lv_iload hx hb dX9_value_168 (lv_at hl 0 rfl) ?_
                  refine lv_if_ne (tgt := 185) hx hb dX9_value_170 (by decide) (fun c_259 => absurd (by decide) c_259) (fun c_259 => ?_)
                  refine lv_ldc2 hx hb hown (hts (.constantLong RX9 225 (10)) (by decide +kernel)) dX9_value_173 ?_
                  refine lv_lload hx hb dX9_value_176 (lv_at hl 2 rfl) ?_
                  refine lv_lmul hx hb dX9_value_178 ?_
                  refine lv_iload hx hb dX9_value_179 (lv_at hl 1 rfl) ?_
                  refine lv_i2l (v := ((f i) - 48).toInt64) hx hb dX9_value_181 rfl ?_
                  refine lv_lsub hx hb dX9_value_182 ?_
                  refine lv_lstore (lv' := [(6, .long ((10 * ((tvs f (tfd f n (tsk f n j)) (i - tfd f n (tsk f n j))).1)) - (((f i) - 48).toInt64))), (8, .int 0), (9, .int ((f i) - 48)), (0, .ref h0), (1, .int p0), (2, .int p1), (3, .int (nI (tsk f n j))), (4, .int 1), (5, .int (nI (tfd f n (tsk f n j))))]) hx hb dX9_value_183 hl (by decide) rfl (fun ls hl => ?_)
                  refine lv_aload_n hx hb dX9_value_185 rfl (lv_at hl 3 rfl) ?_
                  refine lv_dup hx hb dX9_value_186 rfl ?_
                  refine va_get (D := (dC, dI)) (ci := 11) (v := .int (nI i)) (C := RX9) (T := TX9) (N := 60) hx hb hts iRX9 hown hK hP 0 rfl rfl 11 (by decide) (hts (.fieldLink RX9 141 "RecordBenchModel" "at" "I") (by decide +kernel)) (fun _ h9 => h9) ((mo_get g2 (by decide)).trans (congrArg some h11)) dX9_value_187 ?_
                  refine lv_iconst (v := 1) hx hb dX9_value_190 (by decide) ?_
                  refine lv_iadd hx hb dX9_value_191 ?_
                  refine W_toi (y := nI (i + 1)) (nI_1 i) ?_
                  refine va_put (D := (dC, dI)) (ci := 11) (v := .int (nI (i + 1))) (ty := .int) (C := RX9) (T := TX9) (N := 60) hx hb hts iRX9 tyX9 tyX9_ok nmX9 hown hK hP hD hS 0 rfl rfl 11 (by decide) (hts (.fieldLink RX9 141 "RecordBenchModel" "at" "I") (by decide +kernel)) (fun _ h9 => h9) rfl (by decide +kernel) rfl rfl (by rw [mo_len]; decide) dX9_value_192 (fun H locs hP hD hS => ?_)
                  obtain ⟨g_261, eg_261⟩ : ∃ y, y = va_up g2 11 (.int (nI (i + 1))) := ⟨_, rfl⟩
                  have hP : va_P (dC, dI) vwCl [(h0, .inr (11, mo g_261)), (a9, .inl (cT, 400, .inl f)), (a6, .inl (cP, 248, .inr (.inl fP)))] H := by rw [eg_261, ← mo_set g2 (by decide)]; exact hP
                  have hD : va_D A [(h0, .inr (11, mo g_261)), (a9, .inl (cT, 400, .inl f)), (a6, .inl (cP, 248, .inr (.inl fP)))] := by rw [eg_261, ← mo_set g2 (by decide)]; exact hD
                  have g_261h6 : g_261 6 = .ref a6 := by rw [eg_261, va_up_ne _ _ (by decide)]; exact h6
                  have g_261h9 : g_261 9 = .ref a9 := by rw [eg_261, va_up_ne _ _ (by decide)]; exact h9
                  have g_261h12 : g_261 12 = .int (nI n) := by rw [eg_261, va_up_ne _ _ (by decide)]; exact h12
                  have g_261h13 : g_261 13 = .int b0 := by rw [eg_261, va_up_ne _ _ (by decide)]; exact h13
                  have g_261h18 : g_261 18 = .int x18 := by rw [eg_261, va_up_ne _ _ (by decide)]; exact h18
                  have g_261h11 : g_261 11 = .int (nI (i + 1)) := by rw [eg_261, va_up_self]
                  have ung_261 : ∀ j : Nat, j ≠ 11 → j ≠ 17 → g_261 j = g j := fun j h11 h17 => by rw [eg_261, va_up_ne _ _ h11]; exact hun j h11 h17
                  refine lv_goto (tgt := 69) hx hb dX9_value_195 (by decide) ?_
                  exact ih ((i + 1), g_261) (by show n - (i + 1) < n - i; omega) ⟨(by omega), (by omega), (by omega), ((tde_go hlt ho).symm.trans hde), g_261h6, g_261h9, g_261h11, g_261h12, g_261h13, g_261h18, (fun k h1 h2 => ung_261 k h1 h2)⟩ _ _ _ (hP.sub (ws' := [(h0, .inr (11, mo g_261)), (a9, .inl (cT, 400, .inl f)), (a6, .inl (cP, 248, .inr (.inl fP)))]) [0, 1, 2] rfl) (hD.sub (ws' := [(h0, .inr (11, mo g_261)), (a9, .inl (cT, 400, .inl f)), (a6, .inl (cP, 248, .inr (.inl fP)))]) [0, 1, 2] (by decide) rfl) hS (by show lv_has _ _ [(6, .long ((tvs f (tfd f n (tsk f n j)) (i + 1 - tfd f n (tsk f n j))).1)), (8, .int ((tvs f (tfd f n (tsk f n j)) (i + 1 - tfd f n (tsk f n j))).2)), (0, .ref h0), (1, .int p0), (2, .int p1), (3, .int (nI (tsk f n j))), (4, .int 1), (5, .int (nI (tfd f n (tsk f n j))))]; rw [tvs_step hi1, stp, if_neg (fun h => h.elim (fun h0 => h0 c_252) (fun h1 => h1.elim (fun h2 => c_255 ((lg_cmp_lt _ _).mpr h2)) (fun h => c_258 ((lg_cmp_eq _ _).mpr h.1))))]; exact lv_sub hl [0, 1, 3, 4, 5, 6, 7, 8] rfl)
                · refine lv_iload hx hb dX9_value_154 (lv_at hl 0 rfl) ?_
                  refine lv_bipush (v := 8) hx hb dX9_value_156 (by decide) ?_
                  refine lv_icmp_le (tgt := 165) hx hb dX9_value_158 (by decide) (fun c_262 => ?_) (fun c_262 => ?_)
                  · refine lv_iconst (v := 0) hx hb dX9_value_165 (by decide) ?_
                    refine lv_istore (lv' := [(8, .int 0), (9, .int ((f i) - 48)), (6, .long ((tvs f (tfd f n (tsk f n j)) (i - tfd f n (tsk f n j))).1)), (0, .ref h0), (1, .int p0), (2, .int p1), (3, .int (nI (tsk f n j))), (4, .int 1), (5, .int (nI (tfd f n (tsk f n j))))]) hx hb dX9_value_166 hl (by decide) rfl (fun ls hl => ?_)
                    refine lv_iload hx hb dX9_value_168 (lv_at hl 0 rfl) ?_
                    refine lv_if_ne (tgt := 185) hx hb dX9_value_170 (by decide) (fun c_263 => absurd (by decide) c_263) (fun c_263 => ?_)
                    refine lv_ldc2 hx hb hown (hts (.constantLong RX9 225 (10)) (by decide +kernel)) dX9_value_173 ?_
                    refine lv_lload hx hb dX9_value_176 (lv_at hl 2 rfl) ?_
                    refine lv_lmul hx hb dX9_value_178 ?_
                    refine lv_iload hx hb dX9_value_179 (lv_at hl 1 rfl) ?_
                    refine lv_i2l (v := ((f i) - 48).toInt64) hx hb dX9_value_181 rfl ?_
                    refine lv_lsub hx hb dX9_value_182 ?_
                    refine lv_lstore (lv' := [(6, .long ((10 * ((tvs f (tfd f n (tsk f n j)) (i - tfd f n (tsk f n j))).1)) - (((f i) - 48).toInt64))), (8, .int 0), (9, .int ((f i) - 48)), (0, .ref h0), (1, .int p0), (2, .int p1), (3, .int (nI (tsk f n j))), (4, .int 1), (5, .int (nI (tfd f n (tsk f n j))))]) hx hb dX9_value_183 hl (by decide) rfl (fun ls hl => ?_)
                    refine lv_aload_n hx hb dX9_value_185 rfl (lv_at hl 3 rfl) ?_
                    refine lv_dup hx hb dX9_value_186 rfl ?_
                    refine va_get (D := (dC, dI)) (ci := 11) (v := .int (nI i)) (C := RX9) (T := TX9) (N := 60) hx hb hts iRX9 hown hK hP 0 rfl rfl 11 (by decide) (hts (.fieldLink RX9 141 "RecordBenchModel" "at" "I") (by decide +kernel)) (fun _ h9 => h9) ((mo_get g2 (by decide)).trans (congrArg some h11)) dX9_value_187 ?_
                    refine lv_iconst (v := 1) hx hb dX9_value_190 (by decide) ?_
                    refine lv_iadd hx hb dX9_value_191 ?_
                    refine W_toi (y := nI (i + 1)) (nI_1 i) ?_
                    refine va_put (D := (dC, dI)) (ci := 11) (v := .int (nI (i + 1))) (ty := .int) (C := RX9) (T := TX9) (N := 60) hx hb hts iRX9 tyX9 tyX9_ok nmX9 hown hK hP hD hS 0 rfl rfl 11 (by decide) (hts (.fieldLink RX9 141 "RecordBenchModel" "at" "I") (by decide +kernel)) (fun _ h9 => h9) rfl (by decide +kernel) rfl rfl (by rw [mo_len]; decide) dX9_value_192 (fun H locs hP hD hS => ?_)
                    obtain ⟨g_265, eg_265⟩ : ∃ y, y = va_up g2 11 (.int (nI (i + 1))) := ⟨_, rfl⟩
                    have hP : va_P (dC, dI) vwCl [(h0, .inr (11, mo g_265)), (a9, .inl (cT, 400, .inl f)), (a6, .inl (cP, 248, .inr (.inl fP)))] H := by rw [eg_265, ← mo_set g2 (by decide)]; exact hP
                    have hD : va_D A [(h0, .inr (11, mo g_265)), (a9, .inl (cT, 400, .inl f)), (a6, .inl (cP, 248, .inr (.inl fP)))] := by rw [eg_265, ← mo_set g2 (by decide)]; exact hD
                    have g_265h6 : g_265 6 = .ref a6 := by rw [eg_265, va_up_ne _ _ (by decide)]; exact h6
                    have g_265h9 : g_265 9 = .ref a9 := by rw [eg_265, va_up_ne _ _ (by decide)]; exact h9
                    have g_265h12 : g_265 12 = .int (nI n) := by rw [eg_265, va_up_ne _ _ (by decide)]; exact h12
                    have g_265h13 : g_265 13 = .int b0 := by rw [eg_265, va_up_ne _ _ (by decide)]; exact h13
                    have g_265h18 : g_265 18 = .int x18 := by rw [eg_265, va_up_ne _ _ (by decide)]; exact h18
                    have g_265h11 : g_265 11 = .int (nI (i + 1)) := by rw [eg_265, va_up_self]
                    have ung_265 : ∀ j : Nat, j ≠ 11 → j ≠ 17 → g_265 j = g j := fun j h11 h17 => by rw [eg_265, va_up_ne _ _ h11]; exact hun j h11 h17
                    refine lv_goto (tgt := 69) hx hb dX9_value_195 (by decide) ?_
                    exact ih ((i + 1), g_265) (by show n - (i + 1) < n - i; omega) ⟨(by omega), (by omega), (by omega), ((tde_go hlt ho).symm.trans hde), g_265h6, g_265h9, g_265h11, g_265h12, g_265h13, g_265h18, (fun k h1 h2 => ung_265 k h1 h2)⟩ _ _ _ (hP.sub (ws' := [(h0, .inr (11, mo g_265)), (a9, .inl (cT, 400, .inl f)), (a6, .inl (cP, 248, .inr (.inl fP)))]) [0, 1, 2] rfl) (hD.sub (ws' := [(h0, .inr (11, mo g_265)), (a9, .inl (cT, 400, .inl f)), (a6, .inl (cP, 248, .inr (.inl fP)))]) [0, 1, 2] (by decide) rfl) hS (by show lv_has _ _ [(6, .long ((tvs f (tfd f n (tsk f n j)) (i + 1 - tfd f n (tsk f n j))).1)), (8, .int ((tvs f (tfd f n (tsk f n j)) (i + 1 - tfd f n (tsk f n j))).2)), (0, .ref h0), (1, .int p0), (2, .int p1), (3, .int (nI (tsk f n j))), (4, .int 1), (5, .int (nI (tfd f n (tsk f n j))))]; rw [tvs_step hi1, stp, if_neg (fun h => h.elim (fun h0 => h0 c_252) (fun h1 => h1.elim (fun h2 => c_255 ((lg_cmp_lt _ _).mpr h2)) (fun h => absurd h.2 (Int32.not_lt.mpr c_262))))]; exact lv_sub hl [0, 1, 3, 4, 5, 6, 7, 8] rfl)
                  · refine lv_iconst (v := 1) hx hb dX9_value_161 (by decide) ?_
                    refine lv_goto (tgt := 166) hx hb dX9_value_162 (by decide) ?_
                    refine lv_istore (lv' := [(8, .int 1), (9, .int ((f i) - 48)), (6, .long ((tvs f (tfd f n (tsk f n j)) (i - tfd f n (tsk f n j))).1)), (0, .ref h0), (1, .int p0), (2, .int p1), (3, .int (nI (tsk f n j))), (4, .int 1), (5, .int (nI (tfd f n (tsk f n j))))]) hx hb dX9_value_166 hl (by decide) rfl (fun ls hl => ?_)
                    refine lv_iload hx hb dX9_value_168 (lv_at hl 0 rfl) ?_
                    refine lv_if_ne (tgt := 185) hx hb dX9_value_170 (by decide) (fun c_266 => ?_) (fun c_266 => absurd c_266 (by decide))
                    refine lv_aload_n hx hb dX9_value_185 rfl (lv_at hl 3 rfl) ?_
                    refine lv_dup hx hb dX9_value_186 rfl ?_
                    refine va_get (D := (dC, dI)) (ci := 11) (v := .int (nI i)) (C := RX9) (T := TX9) (N := 60) hx hb hts iRX9 hown hK hP 0 rfl rfl 11 (by decide) (hts (.fieldLink RX9 141 "RecordBenchModel" "at" "I") (by decide +kernel)) (fun _ h9 => h9) ((mo_get g2 (by decide)).trans (congrArg some h11)) dX9_value_187 ?_
                    refine lv_iconst (v := 1) hx hb dX9_value_190 (by decide) ?_
                    refine lv_iadd hx hb dX9_value_191 ?_
                    refine W_toi (y := nI (i + 1)) (nI_1 i) ?_
                    refine va_put (D := (dC, dI)) (ci := 11) (v := .int (nI (i + 1))) (ty := .int) (C := RX9) (T := TX9) (N := 60) hx hb hts iRX9 tyX9 tyX9_ok nmX9 hown hK hP hD hS 0 rfl rfl 11 (by decide) (hts (.fieldLink RX9 141 "RecordBenchModel" "at" "I") (by decide +kernel)) (fun _ h9 => h9) rfl (by decide +kernel) rfl rfl (by rw [mo_len]; decide) dX9_value_192 (fun H locs hP hD hS => ?_)
                    obtain ⟨g_267, eg_267⟩ : ∃ y, y = va_up g2 11 (.int (nI (i + 1))) := ⟨_, rfl⟩
                    have hP : va_P (dC, dI) vwCl [(h0, .inr (11, mo g_267)), (a9, .inl (cT, 400, .inl f)), (a6, .inl (cP, 248, .inr (.inl fP)))] H := by rw [eg_267, ← mo_set g2 (by decide)]; exact hP
                    have hD : va_D A [(h0, .inr (11, mo g_267)), (a9, .inl (cT, 400, .inl f)), (a6, .inl (cP, 248, .inr (.inl fP)))] := by rw [eg_267, ← mo_set g2 (by decide)]; exact hD
                    have g_267h6 : g_267 6 = .ref a6 := by rw [eg_267, va_up_ne _ _ (by decide)]; exact h6
                    have g_267h9 : g_267 9 = .ref a9 := by rw [eg_267, va_up_ne _ _ (by decide)]; exact h9
                    have g_267h12 : g_267 12 = .int (nI n) := by rw [eg_267, va_up_ne _ _ (by decide)]; exact h12
                    have g_267h13 : g_267 13 = .int b0 := by rw [eg_267, va_up_ne _ _ (by decide)]; exact h13
                    have g_267h18 : g_267 18 = .int x18 := by rw [eg_267, va_up_ne _ _ (by decide)]; exact h18
                    have g_267h11 : g_267 11 = .int (nI (i + 1)) := by rw [eg_267, va_up_self]
                    have ung_267 : ∀ j : Nat, j ≠ 11 → j ≠ 17 → g_267 j = g j := fun j h11 h17 => by rw [eg_267, va_up_ne _ _ h11]; exact hun j h11 h17
                    refine lv_goto (tgt := 69) hx hb dX9_value_195 (by decide) ?_
                    exact ih ((i + 1), g_267) (by show n - (i + 1) < n - i; omega) ⟨(by omega), (by omega), (by omega), ((tde_go hlt ho).symm.trans hde), g_267h6, g_267h9, g_267h11, g_267h12, g_267h13, g_267h18, (fun k h1 h2 => ung_267 k h1 h2)⟩ _ _ _ (hP.sub (ws' := [(h0, .inr (11, mo g_267)), (a9, .inl (cT, 400, .inl f)), (a6, .inl (cP, 248, .inr (.inl fP)))]) [0, 1, 2] rfl) (hD.sub (ws' := [(h0, .inr (11, mo g_267)), (a9, .inl (cT, 400, .inl f)), (a6, .inl (cP, 248, .inr (.inl fP)))]) [0, 1, 2] (by decide) rfl) hS (by show lv_has _ _ [(6, .long ((tvs f (tfd f n (tsk f n j)) (i + 1 - tfd f n (tsk f n j))).1)), (8, .int ((tvs f (tfd f n (tsk f n j)) (i + 1 - tfd f n (tsk f n j))).2)), (0, .ref h0), (1, .int p0), (2, .int p1), (3, .int (nI (tsk f n j))), (4, .int 1), (5, .int (nI (tfd f n (tsk f n j))))]; rw [tvs_step hi1, stp, if_pos (Or.inr (Or.inr ⟨(lg_cmp_eq _ _).mp c_258, Int32.not_le.mp c_262⟩))]; exact lv_sub hl [2, 0, 3, 4, 5, 6, 7, 8] rfl)
          · refine lv_aload_n hx hb dX9_value_107 rfl (lv_at hl 2 rfl) ?_
            refine lv_iconst (v := 1) hx hb dX9_value_108 (by decide) ?_
            refine lv_aload_n hx hb dX9_value_109 rfl (lv_at hl 2 rfl) ?_
            refine va_get (D := (dC, dI)) (ci := 11) (v := .int (nI i)) (C := RX9) (T := TX9) (N := 60) hx hb hts iRX9 hown hK hP 0 rfl rfl 11 (by decide) (hts (.fieldLink RX9 141 "RecordBenchModel" "at" "I") (by decide +kernel)) (fun _ h9 => h9) ((mo_get g2 (by decide)).trans (congrArg some h11)) dX9_value_110 ?_
            have hFc := va_free (wc := [(h0, .inr (11, mo g2))]) hD hS hA [0] rfl
            refine va_callv (va_runV (As := [.int 1, .int (nI i)]) (rest := []) ⟨hx, hb, hml, hown, hts⟩ (c_X9_fail l dC dI h0 g2 b0 h13 1 (nI i) (by decide) H.size) (cwV 2 hts gp_X9_value_X9_fail_154 rfl rfl rfl (by decide +kernel) ⟨Nat.le_of_ble_eq_true rfl, Nat.le_of_ble_eq_true rfl⟩) ⟨Pr.blind _, va_recv hK hP (ci := 11) (q0 := 0) rfl rfl, fun U hU hW => ⟨rfl, Pr.at (hP.sub (ws' := [(h0, .inr (11, mo g2))]) [0] rfl) (hK.sub (tys' := []) [] rfl) (hD.sub (ws' := [(h0, .inr (11, mo g2))]) [0] (by decide) rfl) hN hZ RO.nil hS hFc hU hW⟩⟩ rfl rfl hl.1 rfl (lv_room (Nat.le_of_ble_eq_true rfl)) dX9_value_113 ⟨Nat.le_of_ble_eq_true rfl, Nat.le_of_ble_eq_true rfl⟩) hS (fun q _ h => hFc q h) hFc (fun u t H1 locs ht hvm hw_269 hB hz1 hk1 hS => ?_)
            obtain ⟨g1_270, b1_271⟩ := u
            obtain ⟨hP, hD, hK⟩ := Bq.join (wr := [(a9, .inl (cT, 400, .inl f)), (a6, .inl (cP, 248, .inr (.inl fP)))]) hB ht hvm hP hD [0] [1, 2] rfl rfl (by decide) (by decide) hk1 hFc hK
            generalize H1 = H at hP hS ⊢
            have hP : va_P (dC, dI) vwCl [(a9, .inl (cT, 400, .inl f)), (a6, .inl (cP, 248, .inr (.inl fP))), (h0, .inr (11, mo g1_270))] H := hP
            have hD : va_D A [(a9, .inl (cT, 400, .inl f)), (a6, .inl (cP, 248, .inr (.inl fP))), (h0, .inr (11, mo g1_270))] := hD
            have hK : va_K (dC, dI) vwCl [(cT, .int), (cP, .long)] s := hK
            try dsimp only at hw_269
            obtain ⟨k_272, k_273, k_274⟩ := hw_269
            have w_275 : g1_270 6 = .ref a6 := (k_274 6 (by decide) (by decide)).trans h6
            have w_276 : g1_270 9 = .ref a9 := (k_274 9 (by decide) (by decide)).trans h9
            have w_277 : g1_270 11 = .int (nI i) := (k_274 11 (by decide) (by decide)).trans h11
            have w_278 : g1_270 12 = .int (nI n) := (k_274 12 (by decide) (by decide)).trans h12
            have w_279 : g1_270 18 = .int x18 := (k_274 18 (by decide) (by decide)).trans h18
            have un_280 : ∀ j : Nat, j ≠ 11 → j ≠ 13 → j ≠ 14 → j ≠ 17 → g1_270 j = g j := fun j h11 h13 h14 h17 => (k_274 j h13 h14).trans (hun j h11 h17)
            have hP9 := hP.sub (ws' := [(h0, .inr (11, mo g1_270)), (a9, .inl (cT, 400, .inl f)), (a6, .inl (cP, 248, .inr (.inl fP)))]) [2, 0, 1] rfl
            have hD9 := hD.sub (ws' := [(h0, .inr (11, mo g1_270)), (a9, .inl (cT, 400, .inl f)), (a6, .inl (cP, 248, .inr (.inl fP)))]) [2, 0, 1] (by decide) rfl
            have hK9 := hK.sub (tys' := []) [] rfl
            exact W.vret hx hb hr (fun t ht hW => ⟨⟨(g1_270, i, b1_271, x18, fP), rfl, ⟨Or.inr ⟨fun h => absurd h.2.1 (by have e2 : i - tfd f n (tsk f n j) = 19 := (nI_eq (b := 19) (by omega) (by decide)).mp c_251; rw [← hde, tde_go hlt ho]; have := tde_ge f n (i + 1); omega), hi3, k_272, fun _ _ => rfl⟩, w_277, k_273, w_279, (fun j h11 h13 h14 h17 h18 => un_280 j h11 h13 h14 h17)⟩, by rw [ht]; exact hP9, va_K.moved hW.alike hK9, hD9⟩, hS.F ht⟩) hS.2.2 dX9_value_116
        · refine W.eq (g2 := F0 m 92 ls [.int 0]) rfl ?_
          refine lv_if_eq (tgt := 198) hx hb dX9_value_92 (by decide) (fun c_281 => ?_) (fun c_281 => absurd (by decide) c_281)
          have htd : tde f n (tfd f n (tsk f n j)) = i := hde.symm.trans (tde_no (fun h => ho h.2))
          refine lv_aload_n hx hb dX9_value_198 rfl (lv_at hl 2 rfl) ?_
          refine va_get (D := (dC, dI)) (ci := 11) (v := .int (nI i)) (C := RX9) (T := TX9) (N := 60) hx hb hts iRX9 hown hK hP 0 rfl rfl 11 (by decide) (hts (.fieldLink RX9 141 "RecordBenchModel" "at" "I") (by decide +kernel)) (fun _ h9 => h9) ((mo_get g2 (by decide)).trans (congrArg some h11)) dX9_value_199 ?_
          refine lv_iload hx hb dX9_value_202 (lv_at hl 7 rfl) ?_
          refine lv_icmp_ne (tgt := 217) hx hb dX9_value_204 (by decide) (fun c_282 => ?_) (fun c_282 => ?_)
          · refine lv_aload_n hx hb dX9_value_217 rfl (lv_at hl 2 rfl) ?_
            refine lv_aload_n hx hb dX9_value_218 rfl (lv_at hl 2 rfl) ?_
            refine va_get (D := (dC, dI)) (ci := 11) (v := .int (nI i)) (C := RX9) (T := TX9) (N := 60) hx hb hts iRX9 hown hK hP 0 rfl rfl 11 (by decide) (hts (.fieldLink RX9 141 "RecordBenchModel" "at" "I") (by decide +kernel)) (fun _ h9 => h9) ((mo_get g2 (by decide)).trans (congrArg some h11)) dX9_value_219 ?_
            refine va_put (D := (dC, dI)) (ci := 11) (v := .int (nI i)) (ty := .int) (C := RX9) (T := TX9) (N := 60) hx hb hts iRX9 tyX9 tyX9_ok nmX9 hown hK hP hD hS 0 rfl rfl 18 (by decide) (hts (.fieldLink RX9 162 "RecordBenchModel" "ended" "I") (by decide +kernel)) (fun _ h9 => h9) rfl (by decide +kernel) rfl rfl (by rw [mo_len]; decide) dX9_value_222 (fun H locs hP hD hS => ?_)
            obtain ⟨g_283, eg_283⟩ : ∃ y, y = va_up g2 18 (.int (nI i)) := ⟨_, rfl⟩
            have hP : va_P (dC, dI) vwCl [(h0, .inr (11, mo g_283)), (a9, .inl (cT, 400, .inl f)), (a6, .inl (cP, 248, .inr (.inl fP)))] H := by rw [eg_283, ← mo_set g2 (by decide)]; exact hP
            have hD : va_D A [(h0, .inr (11, mo g_283)), (a9, .inl (cT, 400, .inl f)), (a6, .inl (cP, 248, .inr (.inl fP)))] := by rw [eg_283, ← mo_set g2 (by decide)]; exact hD
            have g_283h6 : g_283 6 = .ref a6 := by rw [eg_283, va_up_ne _ _ (by decide)]; exact h6
            have g_283h9 : g_283 9 = .ref a9 := by rw [eg_283, va_up_ne _ _ (by decide)]; exact h9
            have g_283h11 : g_283 11 = .int (nI i) := by rw [eg_283, va_up_ne _ _ (by decide)]; exact h11
            have g_283h12 : g_283 12 = .int (nI n) := by rw [eg_283, va_up_ne _ _ (by decide)]; exact h12
            have g_283h13 : g_283 13 = .int b0 := by rw [eg_283, va_up_ne _ _ (by decide)]; exact h13
            have g_283h18 : g_283 18 = .int (nI i) := by rw [eg_283, va_up_self]
            have ung_283 : ∀ j : Nat, j ≠ 11 → j ≠ 17 → j ≠ 18 → g_283 j = g j := fun j h11 h17 h18 => by rw [eg_283, va_up_ne _ _ h18]; exact hun j h11 h17
            refine lv_iload hx hb dX9_value_225 (lv_at hl 6 rfl) ?_
            refine lv_if_ne (tgt := 242) hx hb dX9_value_227 (by decide) (fun c_284 => ?_) (fun c_284 => absurd c_284 (by decide))
            refine lv_iload hx hb dX9_value_242 (lv_at hl 6 rfl) ?_
            refine lv_if_ne (tgt := 253) hx hb dX9_value_244 (by decide) (fun c_285 => ?_) (fun c_285 => absurd c_285 (by decide))
            refine lv_iload hx hb dX9_value_253 (lv_at hl 1 rfl) ?_
            refine lv_if_ne (tgt := 267) hx hb dX9_value_255 (by decide) (fun c_286 => ?_) (fun c_286 => ?_)
            · refine lv_aload_n hx hb dX9_value_267 rfl (lv_at hl 2 rfl) ?_
              refine lv_iconst (v := 2) hx hb dX9_value_268 (by decide) ?_
              refine lv_iload_n hx hb dX9_value_269 rfl (lv_at hl 5 rfl) ?_
              have hFc := va_free (wc := [(h0, .inr (11, mo g_283))]) hD hS hA [0] rfl
              refine va_callv (va_runV (As := [.int 2, .int (nI (tsk f n j))]) (rest := []) ⟨hx, hb, hml, hown, hts⟩ (c_X9_fail l dC dI h0 g_283 b0 g_283h13 2 (nI (tsk f n j)) (by decide) H.size) (cwV 2 hts gp_X9_value_X9_fail_154 rfl rfl rfl (by decide +kernel) ⟨Nat.le_of_ble_eq_true rfl, Nat.le_of_ble_eq_true rfl⟩) ⟨Pr.blind _, va_recv hK hP (ci := 11) (q0 := 0) rfl rfl, fun U hU hW => ⟨rfl, Pr.at (hP.sub (ws' := [(h0, .inr (11, mo g_283))]) [0] rfl) (hK.sub (tys' := []) [] rfl) (hD.sub (ws' := [(h0, .inr (11, mo g_283))]) [0] (by decide) rfl) hN hZ RO.nil hS hFc hU hW⟩⟩ rfl rfl hl.1 rfl (lv_room (Nat.le_of_ble_eq_true rfl)) dX9_value_270 ⟨Nat.le_of_ble_eq_true rfl, Nat.le_of_ble_eq_true rfl⟩) hS (fun q _ h => hFc q h) hFc (fun u t H1 locs ht hvm hw_288 hB hz1 hk1 hS => ?_)
              obtain ⟨g1_289, b1_290⟩ := u
              obtain ⟨hP, hD, hK⟩ := Bq.join (wr := [(a9, .inl (cT, 400, .inl f)), (a6, .inl (cP, 248, .inr (.inl fP)))]) hB ht hvm hP hD [0] [1, 2] rfl rfl (by decide) (by decide) hk1 hFc hK
              generalize H1 = H at hP hS ⊢
              have hP : va_P (dC, dI) vwCl [(a9, .inl (cT, 400, .inl f)), (a6, .inl (cP, 248, .inr (.inl fP))), (h0, .inr (11, mo g1_289))] H := hP
              have hD : va_D A [(a9, .inl (cT, 400, .inl f)), (a6, .inl (cP, 248, .inr (.inl fP))), (h0, .inr (11, mo g1_289))] := hD
              have hK : va_K (dC, dI) vwCl [(cT, .int), (cP, .long)] s := hK
              try dsimp only at hw_288
              obtain ⟨k_291, k_292, k_293⟩ := hw_288
              have w_294 : g1_289 6 = .ref a6 := (k_293 6 (by decide) (by decide)).trans g_283h6
              have w_295 : g1_289 9 = .ref a9 := (k_293 9 (by decide) (by decide)).trans g_283h9
              have w_296 : g1_289 11 = .int (nI i) := (k_293 11 (by decide) (by decide)).trans g_283h11
              have w_297 : g1_289 12 = .int (nI n) := (k_293 12 (by decide) (by decide)).trans g_283h12
              have w_298 : g1_289 18 = .int (nI i) := (k_293 18 (by decide) (by decide)).trans g_283h18
              have un_299 : ∀ j : Nat, j ≠ 11 → j ≠ 13 → j ≠ 14 → j ≠ 17 → j ≠ 18 → g1_289 j = g j := fun j h11 h13 h14 h17 h18 => (k_293 j h13 h14).trans (ung_283 j h11 h17 h18)
              refine lv_aload_n hx hb dX9_value_273 rfl (lv_at hl 2 rfl) ?_
              refine va_get (D := (dC, dI)) (ci := 11) (v := .ref a6) (C := RX9) (T := TX9) (N := 60) hx hb hts iRX9 hown hK hP 2 rfl rfl 6 (by decide) (hts (.fieldLink RX9 30 "RecordBenchModel" "plain" "[J") (by decide +kernel)) (fun _ h9 => h9) ((mo_get g1_289 (by decide)).trans (congrArg some w_294)) dX9_value_274 ?_
              refine lv_iload_n hx hb dX9_value_277 rfl (lv_at hl 3 rfl) ?_
              refine lv_lload hx hb dX9_value_278 (lv_at hl 0 rfl) ?_
              refine va_last hx hb hK hP hD hS 1 1 rfl rfl hp0 dX9_value_280 (fun H locs hP hD hS => ?_)
              obtain ⟨f_300, ef_300⟩ : ∃ y : Nat → Int64, y = vp_updL fP (p0 : Int32).toNatClampNeg ((tvs f (tfd f n (tsk f n j)) (i - tfd f n (tsk f n j))).1) := ⟨_, rfl⟩
              have hP : va_P (dC, dI) vwCl [(a9, .inl (cT, 400, .inl f)), (a6, .inl (cP, 248, .inr (.inl f_300))), (h0, .inr (11, mo g1_289))] H := by rw [ef_300]; exact hP
              have hD : va_D A [(a9, .inl (cT, 400, .inl f)), (a6, .inl (cP, 248, .inr (.inl f_300))), (h0, .inr (11, mo g1_289))] := by rw [ef_300]; exact hD
              have hP9 := hP.sub (ws' := [(h0, .inr (11, mo g1_289)), (a9, .inl (cT, 400, .inl f)), (a6, .inl (cP, 248, .inr (.inl f_300)))]) [2, 0, 1] rfl
              have hD9 := hD.sub (ws' := [(h0, .inr (11, mo g1_289)), (a9, .inl (cT, 400, .inl f)), (a6, .inl (cP, 248, .inr (.inl f_300)))]) [2, 0, 1] (by decide) rfl
              have hK9 := hK.sub (tys' := []) [] rfl
              exact W.vret hx hb hr (fun t ht hW => ⟨⟨(g1_289, i, b1_290, (nI i), f_300), rfl, ⟨Or.inr ⟨fun h => c_286 (by have := h.2.2.1; rw [htd] at this; exact this), hi3, k_291, fun x hx => by rw [ef_300]; exact pk_uLn hx⟩, w_296, k_292, w_298, (fun j h11 h13 h14 h17 h18 => un_299 j h11 h13 h14 h17 h18)⟩, by rw [ht]; exact hP9, va_K.moved hW.alike hK9, hD9⟩, hS.F ht⟩) hS.2.2 dX9_value_281
            · refine lv_lload hx hb dX9_value_258 (lv_at hl 0 rfl) ?_
              refine lv_iload_n hx hb dX9_value_260 rfl (lv_at hl 4 rfl) ?_
              have hFc := va_free (wc := []) hD hS hA [] rfl
              refine va_calli (va_runS (As := [.long ((tvs f (tfd f n (tsk f n j)) (i - tfd f n (tsk f n j))).1), .int p1]) (rest := []) ⟨hx, hb, hml, hown, hts⟩ (c_X9_isOf l dC dI ((tvs f (tfd f n (tsk f n j)) (i - tfd f n (tsk f n j))).1) p1 H.size) (cwS 2 hts gp_X9_value_X9_isOf_229 rfl rfl rfl (by decide +kernel) ⟨Nat.le_of_ble_eq_true rfl, Nat.le_of_ble_eq_true rfl⟩) ⟨Pr.blind _, fun U hU hW => ⟨rfl, Pr.at (hP.sub (ws' := []) [] rfl) (hK.sub (tys' := []) [] rfl) (hD.sub (ws' := []) [] (by decide) rfl) hN hZ RO.nil hS hFc hU hW⟩⟩ rfl rfl hl.1 rfl (lv_room (Nat.le_of_ble_eq_true rfl)) dX9_value_261 ⟨Nat.le_of_ble_eq_true rfl, Nat.le_of_ble_eq_true rfl⟩) hS (fun q _ h => hFc q h) hFc (fun r_301 u t H1 locs ht hvm hw_302 hB hz1 hk1 hS => ?_)
              obtain ⟨hP, hD, hK⟩ := Bq.join (wr := [(h0, .inr (11, mo g_283)), (a9, .inl (cT, 400, .inl f)), (a6, .inl (cP, 248, .inr (.inl fP)))]) hB ht hvm hP hD [] [0, 1, 2] rfl rfl (by decide) (by decide) hk1 hFc hK
              generalize H1 = H at hP hS ⊢
              have hP : va_P (dC, dI) vwCl [(h0, .inr (11, mo g_283)), (a9, .inl (cT, 400, .inl f)), (a6, .inl (cP, 248, .inr (.inl fP)))] H := hP
              have hD : va_D A [(h0, .inr (11, mo g_283)), (a9, .inl (cT, 400, .inl f)), (a6, .inl (cP, 248, .inr (.inl fP)))] := hD
              have hK : va_K (dC, dI) vwCl [(cT, .int), (cP, .long)] s := hK
              try dsimp only at hw_302
              have k_303 := hw_302
              rcases k_303 with ⟨ho, rfl⟩ | ⟨ho, rfl⟩
              · refine W.eq (g2 := F0 m 264 ls [.int 1]) rfl ?_
                refine lv_if_ne (tgt := 273) hx hb dX9_value_264 (by decide) (fun c_304 => ?_) (fun c_304 => absurd c_304 (by decide))
                refine lv_aload_n hx hb dX9_value_273 rfl (lv_at hl 2 rfl) ?_
                refine va_get (D := (dC, dI)) (ci := 11) (v := .ref a6) (C := RX9) (T := TX9) (N := 60) hx hb hts iRX9 hown hK hP 0 rfl rfl 6 (by decide) (hts (.fieldLink RX9 30 "RecordBenchModel" "plain" "[J") (by decide +kernel)) (fun _ h9 => h9) ((mo_get g_283 (by decide)).trans (congrArg some g_283h6)) dX9_value_274 ?_
                refine lv_iload_n hx hb dX9_value_277 rfl (lv_at hl 3 rfl) ?_
                refine lv_lload hx hb dX9_value_278 (lv_at hl 0 rfl) ?_
                refine va_last hx hb hK hP hD hS 2 1 rfl rfl hp0 dX9_value_280 (fun H locs hP hD hS => ?_)
                obtain ⟨f_305, ef_305⟩ : ∃ y : Nat → Int64, y = vp_updL fP (p0 : Int32).toNatClampNeg ((tvs f (tfd f n (tsk f n j)) (i - tfd f n (tsk f n j))).1) := ⟨_, rfl⟩
                have hP : va_P (dC, dI) vwCl [(h0, .inr (11, mo g_283)), (a9, .inl (cT, 400, .inl f)), (a6, .inl (cP, 248, .inr (.inl f_305)))] H := by rw [ef_305]; exact hP
                have hD : va_D A [(h0, .inr (11, mo g_283)), (a9, .inl (cT, 400, .inl f)), (a6, .inl (cP, 248, .inr (.inl f_305)))] := by rw [ef_305]; exact hD
                have hP9 := hP.sub (ws' := [(h0, .inr (11, mo g_283)), (a9, .inl (cT, 400, .inl f)), (a6, .inl (cP, 248, .inr (.inl f_305)))]) [0, 1, 2] rfl
                have hD9 := hD.sub (ws' := [(h0, .inr (11, mo g_283)), (a9, .inl (cT, 400, .inl f)), (a6, .inl (cP, 248, .inr (.inl f_305)))]) [0, 1, 2] (by decide) rfl
                have hK9 := hK.sub (tys' := []) [] rfl
                exact W.vret hx hb hr (fun t ht hW => ⟨⟨(g_283, i, b0, (nI i), f_305), rfl, ⟨Or.inl ⟨⟨by rw [htd]; exact fun h => c_282 (by rw [h]), by rw [htd]; omega, by rw [htd]; exact ⟨c_286, (fun h => absurd h.1 (by rw [hmi]; decide)), by rw [tvv, hmi, if_neg (by decide)]; exact ho⟩⟩, htd.symm, rfl, by rw [htd], by rw [ef_305, htd, tvv, hmi, if_neg (by decide)]⟩, g_283h11, g_283h13, g_283h18, (fun j h11 h13 h14 h17 h18 => ung_283 j h11 h17 h18)⟩, by rw [ht]; exact hP9, va_K.moved hW.alike hK9, hD9⟩, hS.F ht⟩) hS.2.2 dX9_value_281
              · refine W.eq (g2 := F0 m 264 ls [.int 0]) rfl ?_
                refine lv_if_ne (tgt := 273) hx hb dX9_value_264 (by decide) (fun c_306 => absurd (by decide) c_306) (fun c_306 => ?_)
                refine lv_aload_n hx hb dX9_value_267 rfl (lv_at hl 2 rfl) ?_
                refine lv_iconst (v := 2) hx hb dX9_value_268 (by decide) ?_
                refine lv_iload_n hx hb dX9_value_269 rfl (lv_at hl 5 rfl) ?_
                have hFc := va_free (wc := [(h0, .inr (11, mo g_283))]) hD hS hA [0] rfl
                refine va_callv (va_runV (As := [.int 2, .int (nI (tsk f n j))]) (rest := []) ⟨hx, hb, hml, hown, hts⟩ (c_X9_fail l dC dI h0 g_283 b0 g_283h13 2 (nI (tsk f n j)) (by decide) H.size) (cwV 2 hts gp_X9_value_X9_fail_154 rfl rfl rfl (by decide +kernel) ⟨Nat.le_of_ble_eq_true rfl, Nat.le_of_ble_eq_true rfl⟩) ⟨Pr.blind _, va_recv hK hP (ci := 11) (q0 := 0) rfl rfl, fun U hU hW => ⟨rfl, Pr.at (hP.sub (ws' := [(h0, .inr (11, mo g_283))]) [0] rfl) (hK.sub (tys' := []) [] rfl) (hD.sub (ws' := [(h0, .inr (11, mo g_283))]) [0] (by decide) rfl) hN hZ RO.nil hS hFc hU hW⟩⟩ rfl rfl hl.1 rfl (lv_room (Nat.le_of_ble_eq_true rfl)) dX9_value_270 ⟨Nat.le_of_ble_eq_true rfl, Nat.le_of_ble_eq_true rfl⟩) hS (fun q _ h => hFc q h) hFc (fun u t H1 locs ht hvm hw_308 hB hz1 hk1 hS => ?_)
                obtain ⟨g1_309, b1_310⟩ := u
                obtain ⟨hP, hD, hK⟩ := Bq.join (wr := [(a9, .inl (cT, 400, .inl f)), (a6, .inl (cP, 248, .inr (.inl fP)))]) hB ht hvm hP hD [0] [1, 2] rfl rfl (by decide) (by decide) hk1 hFc hK
                generalize H1 = H at hP hS ⊢
                have hP : va_P (dC, dI) vwCl [(a9, .inl (cT, 400, .inl f)), (a6, .inl (cP, 248, .inr (.inl fP))), (h0, .inr (11, mo g1_309))] H := hP
                have hD : va_D A [(a9, .inl (cT, 400, .inl f)), (a6, .inl (cP, 248, .inr (.inl fP))), (h0, .inr (11, mo g1_309))] := hD
                have hK : va_K (dC, dI) vwCl [(cT, .int), (cP, .long)] s := hK
                try dsimp only at hw_308
                obtain ⟨k_311, k_312, k_313⟩ := hw_308
                have w_314 : g1_309 6 = .ref a6 := (k_313 6 (by decide) (by decide)).trans g_283h6
                have w_315 : g1_309 9 = .ref a9 := (k_313 9 (by decide) (by decide)).trans g_283h9
                have w_316 : g1_309 11 = .int (nI i) := (k_313 11 (by decide) (by decide)).trans g_283h11
                have w_317 : g1_309 12 = .int (nI n) := (k_313 12 (by decide) (by decide)).trans g_283h12
                have w_318 : g1_309 18 = .int (nI i) := (k_313 18 (by decide) (by decide)).trans g_283h18
                have un_319 : ∀ j : Nat, j ≠ 11 → j ≠ 13 → j ≠ 14 → j ≠ 17 → j ≠ 18 → g1_309 j = g j := fun j h11 h13 h14 h17 h18 => (k_313 j h13 h14).trans (ung_283 j h11 h17 h18)
                refine lv_aload_n hx hb dX9_value_273 rfl (lv_at hl 2 rfl) ?_
                refine va_get (D := (dC, dI)) (ci := 11) (v := .ref a6) (C := RX9) (T := TX9) (N := 60) hx hb hts iRX9 hown hK hP 2 rfl rfl 6 (by decide) (hts (.fieldLink RX9 30 "RecordBenchModel" "plain" "[J") (by decide +kernel)) (fun _ h9 => h9) ((mo_get g1_309 (by decide)).trans (congrArg some w_314)) dX9_value_274 ?_
                refine lv_iload_n hx hb dX9_value_277 rfl (lv_at hl 3 rfl) ?_
                refine lv_lload hx hb dX9_value_278 (lv_at hl 0 rfl) ?_
                refine va_last hx hb hK hP hD hS 1 1 rfl rfl hp0 dX9_value_280 (fun H locs hP hD hS => ?_)
                obtain ⟨f_320, ef_320⟩ : ∃ y : Nat → Int64, y = vp_updL fP (p0 : Int32).toNatClampNeg ((tvs f (tfd f n (tsk f n j)) (i - tfd f n (tsk f n j))).1) := ⟨_, rfl⟩
                have hP : va_P (dC, dI) vwCl [(a9, .inl (cT, 400, .inl f)), (a6, .inl (cP, 248, .inr (.inl f_320))), (h0, .inr (11, mo g1_309))] H := by rw [ef_320]; exact hP
                have hD : va_D A [(a9, .inl (cT, 400, .inl f)), (a6, .inl (cP, 248, .inr (.inl f_320))), (h0, .inr (11, mo g1_309))] := by rw [ef_320]; exact hD
                have hP9 := hP.sub (ws' := [(h0, .inr (11, mo g1_309)), (a9, .inl (cT, 400, .inl f)), (a6, .inl (cP, 248, .inr (.inl f_320)))]) [2, 0, 1] rfl
                have hD9 := hD.sub (ws' := [(h0, .inr (11, mo g1_309)), (a9, .inl (cT, 400, .inl f)), (a6, .inl (cP, 248, .inr (.inl f_320)))]) [2, 0, 1] (by decide) rfl
                have hK9 := hK.sub (tys' := []) [] rfl
                exact W.vret hx hb hr (fun t ht hW => ⟨⟨(g1_309, i, b1_310, (nI i), f_320), rfl, ⟨Or.inr ⟨fun h => ho (by have := h.2.2.2.2; rw [htd, tvv, hmi, if_neg (by decide)] at this; exact this), hi3, k_311, fun x hx => by rw [ef_320]; exact pk_uLn hx⟩, w_316, k_312, w_318, (fun j h11 h13 h14 h17 h18 => un_319 j h11 h13 h14 h17 h18)⟩, by rw [ht]; exact hP9, va_K.moved hW.alike hK9, hD9⟩, hS.F ht⟩) hS.2.2 dX9_value_281
          · refine lv_aload_n hx hb dX9_value_207 rfl (lv_at hl 2 rfl) ?_
            refine lv_iconst (v := 1) hx hb dX9_value_208 (by decide) ?_
            refine lv_aload_n hx hb dX9_value_209 rfl (lv_at hl 2 rfl) ?_
            refine va_get (D := (dC, dI)) (ci := 11) (v := .int (nI i)) (C := RX9) (T := TX9) (N := 60) hx hb hts iRX9 hown hK hP 0 rfl rfl 11 (by decide) (hts (.fieldLink RX9 141 "RecordBenchModel" "at" "I") (by decide +kernel)) (fun _ h9 => h9) ((mo_get g2 (by decide)).trans (congrArg some h11)) dX9_value_210 ?_
            have hFc := va_free (wc := [(h0, .inr (11, mo g2))]) hD hS hA [0] rfl
            refine va_callv (va_runV (As := [.int 1, .int (nI i)]) (rest := []) ⟨hx, hb, hml, hown, hts⟩ (c_X9_fail l dC dI h0 g2 b0 h13 1 (nI i) (by decide) H.size) (cwV 2 hts gp_X9_value_X9_fail_154 rfl rfl rfl (by decide +kernel) ⟨Nat.le_of_ble_eq_true rfl, Nat.le_of_ble_eq_true rfl⟩) ⟨Pr.blind _, va_recv hK hP (ci := 11) (q0 := 0) rfl rfl, fun U hU hW => ⟨rfl, Pr.at (hP.sub (ws' := [(h0, .inr (11, mo g2))]) [0] rfl) (hK.sub (tys' := []) [] rfl) (hD.sub (ws' := [(h0, .inr (11, mo g2))]) [0] (by decide) rfl) hN hZ RO.nil hS hFc hU hW⟩⟩ rfl rfl hl.1 rfl (lv_room (Nat.le_of_ble_eq_true rfl)) dX9_value_213 ⟨Nat.le_of_ble_eq_true rfl, Nat.le_of_ble_eq_true rfl⟩) hS (fun q _ h => hFc q h) hFc (fun u t H1 locs ht hvm hw_322 hB hz1 hk1 hS => ?_)
            obtain ⟨g1_323, b1_324⟩ := u
            obtain ⟨hP, hD, hK⟩ := Bq.join (wr := [(a9, .inl (cT, 400, .inl f)), (a6, .inl (cP, 248, .inr (.inl fP)))]) hB ht hvm hP hD [0] [1, 2] rfl rfl (by decide) (by decide) hk1 hFc hK
            generalize H1 = H at hP hS ⊢
            have hP : va_P (dC, dI) vwCl [(a9, .inl (cT, 400, .inl f)), (a6, .inl (cP, 248, .inr (.inl fP))), (h0, .inr (11, mo g1_323))] H := hP
            have hD : va_D A [(a9, .inl (cT, 400, .inl f)), (a6, .inl (cP, 248, .inr (.inl fP))), (h0, .inr (11, mo g1_323))] := hD
            have hK : va_K (dC, dI) vwCl [(cT, .int), (cP, .long)] s := hK
            try dsimp only at hw_322
            obtain ⟨k_325, k_326, k_327⟩ := hw_322
            have w_328 : g1_323 6 = .ref a6 := (k_327 6 (by decide) (by decide)).trans h6
            have w_329 : g1_323 9 = .ref a9 := (k_327 9 (by decide) (by decide)).trans h9
            have w_330 : g1_323 11 = .int (nI i) := (k_327 11 (by decide) (by decide)).trans h11
            have w_331 : g1_323 12 = .int (nI n) := (k_327 12 (by decide) (by decide)).trans h12
            have w_332 : g1_323 18 = .int x18 := (k_327 18 (by decide) (by decide)).trans h18
            have un_333 : ∀ j : Nat, j ≠ 11 → j ≠ 13 → j ≠ 14 → j ≠ 17 → g1_323 j = g j := fun j h11 h13 h14 h17 => (k_327 j h13 h14).trans (hun j h11 h17)
            have hP9 := hP.sub (ws' := [(h0, .inr (11, mo g1_323)), (a9, .inl (cT, 400, .inl f)), (a6, .inl (cP, 248, .inr (.inl fP)))]) [2, 0, 1] rfl
            have hD9 := hD.sub (ws' := [(h0, .inr (11, mo g1_323)), (a9, .inl (cT, 400, .inl f)), (a6, .inl (cP, 248, .inr (.inl fP)))]) [2, 0, 1] (by decide) rfl
            have hK9 := hK.sub (tys' := []) [] rfl
            exact W.vret hx hb hr (fun t ht hW => ⟨⟨(g1_323, i, b1_324, x18, fP), rfl, ⟨Or.inr ⟨fun h => h.1 (by rw [htd]; exact (nI_eq (by omega) (by omega)).mp c_282), hi3, k_325, fun _ _ => rfl⟩, w_330, k_326, w_332, (fun j h11 h13 h14 h17 h18 => un_333 j h11 h13 h14 h17)⟩, by rw [ht]; exact hP9, va_K.moved hW.alike hK9, hD9⟩, hS.F ht⟩) hS.2.2 dX9_value_216
