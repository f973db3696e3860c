theorem dX9_value_0 : decode cX9_value 0 = .ok (.aload_n 0, 1) := by decide +kernel
theorem dX9_value_1 : decode cX9_value 1 = .ok (.invokevirtual 150, 3) := by decide +kernel
theorem dX9_value_10 : decode cX9_value 10 = .ok (.aload_n 0, 1) := by decide +kernel
theorem dX9_value_101 : decode cX9_value 101 = .ok (.isub, 1) := by decide +kernel
theorem dX9_value_102 : decode cX9_value 102 = .ok (.bipush 19, 2) := by decide +kernel
theorem dX9_value_104 : decode cX9_value 104 = .ok (.if_icmp .ne 13, 3) := by decide +kernel
theorem dX9_value_107 : decode cX9_value 107 = .ok (.aload_n 0, 1) := by decide +kernel
theorem dX9_value_108 : decode cX9_value 108 = .ok (.iconst 1, 1) := by decide +kernel
theorem dX9_value_109 : decode cX9_value 109 = .ok (.aload_n 0, 1) := by decide +kernel
theorem dX9_value_11 : decode cX9_value 11 = .ok (.getfield 141, 3) := by decide +kernel
theorem dX9_value_110 : decode cX9_value 110 = .ok (.getfield 141, 3) := by decide +kernel
theorem dX9_value_113 : decode cX9_value 113 = .ok (.invokevirtual 154, 3) := by decide +kernel
theorem dX9_value_116 : decode cX9_value 116 = .ok (.return_, 1) := by decide +kernel
theorem dX9_value_117 : decode cX9_value 117 = .ok (.aload_n 0, 1) := by decide +kernel
theorem dX9_value_118 : decode cX9_value 118 = .ok (.getfield 39, 3) := by decide +kernel
theorem dX9_value_121 : decode cX9_value 121 = .ok (.aload_n 0, 1) := by decide +kernel
theorem dX9_value_122 : decode cX9_value 122 = .ok (.getfield 141, 3) := by decide +kernel
theorem dX9_value_125 : decode cX9_value 125 = .ok (.iaload, 1) := by decide +kernel
theorem dX9_value_126 : decode cX9_value 126 = .ok (.bipush 48, 2) := by decide +kernel
theorem dX9_value_128 : decode cX9_value 128 = .ok (.isub, 1) := by decide +kernel
theorem dX9_value_129 : decode cX9_value 129 = .ok (.istore 9, 2) := by decide +kernel
theorem dX9_value_131 : decode cX9_value 131 = .ok (.iload 8, 2) := by decide +kernel
theorem dX9_value_133 : decode cX9_value 133 = .ok (.ifCond .ne 28, 3) := by decide +kernel
theorem dX9_value_136 : decode cX9_value 136 = .ok (.lload 6, 2) := by decide +kernel
theorem dX9_value_138 : decode cX9_value 138 = .ok (.ldc2_w 223, 3) := by decide +kernel
theorem dX9_value_14 : decode cX9_value 14 = .ok (.aload_n 0, 1) := by decide +kernel
theorem dX9_value_141 : decode cX9_value 141 = .ok (.lcmp, 1) := by decide +kernel
theorem dX9_value_142 : decode cX9_value 142 = .ok (.ifCond .lt 19, 3) := by decide +kernel
theorem dX9_value_145 : decode cX9_value 145 = .ok (.lload 6, 2) := by decide +kernel
theorem dX9_value_147 : decode cX9_value 147 = .ok (.ldc2_w 223, 3) := by decide +kernel
theorem dX9_value_15 : decode cX9_value 15 = .ok (.getfield 144, 3) := by decide +kernel
theorem dX9_value_150 : decode cX9_value 150 = .ok (.lcmp, 1) := by decide +kernel
theorem dX9_value_151 : decode cX9_value 151 = .ok (.ifCond .ne 14, 3) := by decide +kernel
theorem dX9_value_154 : decode cX9_value 154 = .ok (.iload 9, 2) := by decide +kernel
theorem dX9_value_156 : decode cX9_value 156 = .ok (.bipush 8, 2) := by decide +kernel
theorem dX9_value_158 : decode cX9_value 158 = .ok (.if_icmp .le 7, 3) := by decide +kernel
theorem dX9_value_161 : decode cX9_value 161 = .ok (.iconst 1, 1) := by decide +kernel
theorem dX9_value_162 : decode cX9_value 162 = .ok (.goto 4, 3) := by decide +kernel
theorem dX9_value_165 : decode cX9_value 165 = .ok (.iconst 0, 1) := by decide +kernel
theorem dX9_value_166 : decode cX9_value 166 = .ok (.istore 8, 2) := by decide +kernel
theorem dX9_value_168 : decode cX9_value 168 = .ok (.iload 8, 2) := by decide +kernel
theorem dX9_value_170 : decode cX9_value 170 = .ok (.ifCond .ne 15, 3) := by decide +kernel
theorem dX9_value_173 : decode cX9_value 173 = .ok (.ldc2_w 225, 3) := by decide +kernel
theorem dX9_value_176 : decode cX9_value 176 = .ok (.lload 6, 2) := by decide +kernel
theorem dX9_value_178 : decode cX9_value 178 = .ok (.lmul, 1) := by decide +kernel
theorem dX9_value_179 : decode cX9_value 179 = .ok (.iload 9, 2) := by decide +kernel
theorem dX9_value_18 : decode cX9_value 18 = .ok (.if_icmp .ge 21, 3) := by decide +kernel
theorem dX9_value_181 : decode cX9_value 181 = .ok (.i2l, 1) := by decide +kernel
theorem dX9_value_182 : decode cX9_value 182 = .ok (.lsub, 1) := by decide +kernel
theorem dX9_value_183 : decode cX9_value 183 = .ok (.lstore 6, 2) := by decide +kernel
theorem dX9_value_185 : decode cX9_value 185 = .ok (.aload_n 0, 1) := by decide +kernel
theorem dX9_value_186 : decode cX9_value 186 = .ok (.dup, 1) := by decide +kernel
theorem dX9_value_187 : decode cX9_value 187 = .ok (.getfield 141, 3) := by decide +kernel
theorem dX9_value_190 : decode cX9_value 190 = .ok (.iconst 1, 1) := by decide +kernel
theorem dX9_value_191 : decode cX9_value 191 = .ok (.iadd, 1) := by decide +kernel
theorem dX9_value_192 : decode cX9_value 192 = .ok (.putfield 141, 3) := by decide +kernel
theorem dX9_value_195 : decode cX9_value 195 = .ok (.goto (-126), 3) := by decide +kernel
theorem dX9_value_198 : decode cX9_value 198 = .ok (.aload_n 0, 1) := by decide +kernel
theorem dX9_value_199 : decode cX9_value 199 = .ok (.getfield 141, 3) := by decide +kernel
theorem dX9_value_202 : decode cX9_value 202 = .ok (.iload 5, 2) := by decide +kernel
theorem dX9_value_204 : decode cX9_value 204 = .ok (.if_icmp .ne 13, 3) := by decide +kernel
theorem dX9_value_207 : decode cX9_value 207 = .ok (.aload_n 0, 1) := by decide +kernel
theorem dX9_value_208 : decode cX9_value 208 = .ok (.iconst 1, 1) := by decide +kernel
theorem dX9_value_209 : decode cX9_value 209 = .ok (.aload_n 0, 1) := by decide +kernel
theorem dX9_value_21 : decode cX9_value 21 = .ok (.aload_n 0, 1) := by decide +kernel
theorem dX9_value_210 : decode cX9_value 210 = .ok (.getfield 141, 3) := by decide +kernel
theorem dX9_value_213 : decode cX9_value 213 = .ok (.invokevirtual 154, 3) := by decide +kernel
theorem dX9_value_216 : decode cX9_value 216 = .ok (.return_, 1) := by decide +kernel
theorem dX9_value_217 : decode cX9_value 217 = .ok (.aload_n 0, 1) := by decide +kernel
theorem dX9_value_218 : decode cX9_value 218 = .ok (.aload_n 0, 1) := by decide +kernel
theorem dX9_value_219 : decode cX9_value 219 = .ok (.getfield 141, 3) := by decide +kernel
theorem dX9_value_22 : decode cX9_value 22 = .ok (.getfield 39, 3) := by decide +kernel
theorem dX9_value_222 : decode cX9_value 222 = .ok (.putfield 162, 3) := by decide +kernel
theorem dX9_value_225 : decode cX9_value 225 = .ok (.iload 4, 2) := by decide +kernel
theorem dX9_value_227 : decode cX9_value 227 = .ok (.ifCond .ne 15, 3) := by decide +kernel
theorem dX9_value_230 : decode cX9_value 230 = .ok (.lload 6, 2) := by decide +kernel
theorem dX9_value_232 : decode cX9_value 232 = .ok (.ldc2_w 227, 3) := by decide +kernel
theorem dX9_value_235 : decode cX9_value 235 = .ok (.lcmp, 1) := by decide +kernel
theorem dX9_value_236 : decode cX9_value 236 = .ok (.ifCond .ne 6, 3) := by decide +kernel
theorem dX9_value_239 : decode cX9_value 239 = .ok (.iconst 1, 1) := by decide +kernel
theorem dX9_value_240 : decode cX9_value 240 = .ok (.istore 8, 2) := by decide +kernel
theorem dX9_value_242 : decode cX9_value 242 = .ok (.iload 4, 2) := by decide +kernel
theorem dX9_value_244 : decode cX9_value 244 = .ok (.ifCond .ne 9, 3) := by decide +kernel
theorem dX9_value_247 : decode cX9_value 247 = .ok (.lconst 0, 1) := by decide +kernel
theorem dX9_value_248 : decode cX9_value 248 = .ok (.lload 6, 2) := by decide +kernel
theorem dX9_value_25 : decode cX9_value 25 = .ok (.aload_n 0, 1) := by decide +kernel
theorem dX9_value_250 : decode cX9_value 250 = .ok (.lsub, 1) := by decide +kernel
theorem dX9_value_251 : decode cX9_value 251 = .ok (.lstore 6, 2) := by decide +kernel
theorem dX9_value_253 : decode cX9_value 253 = .ok (.iload 8, 2) := by decide +kernel
theorem dX9_value_255 : decode cX9_value 255 = .ok (.ifCond .ne 12, 3) := by decide +kernel
theorem dX9_value_258 : decode cX9_value 258 = .ok (.lload 6, 2) := by decide +kernel
theorem dX9_value_26 : decode cX9_value 26 = .ok (.getfield 141, 3) := by decide +kernel
theorem dX9_value_260 : decode cX9_value 260 = .ok (.iload_n 2, 1) := by decide +kernel
theorem dX9_value_261 : decode cX9_value 261 = .ok (.invokestatic 229, 3) := by decide +kernel
theorem dX9_value_264 : decode cX9_value 264 = .ok (.ifCond .ne 9, 3) := by decide +kernel
theorem dX9_value_267 : decode cX9_value 267 = .ok (.aload_n 0, 1) := by decide +kernel
theorem dX9_value_268 : decode cX9_value 268 = .ok (.iconst 2, 1) := by decide +kernel
theorem dX9_value_269 : decode cX9_value 269 = .ok (.iload_n 3, 1) := by decide +kernel
theorem dX9_value_270 : decode cX9_value 270 = .ok (.invokevirtual 154, 3) := by decide +kernel
theorem dX9_value_273 : decode cX9_value 273 = .ok (.aload_n 0, 1) := by decide +kernel
theorem dX9_value_274 : decode cX9_value 274 = .ok (.getfield 30, 3) := by decide +kernel
theorem dX9_value_277 : decode cX9_value 277 = .ok (.iload_n 1, 1) := by decide +kernel
theorem dX9_value_278 : decode cX9_value 278 = .ok (.lload 6, 2) := by decide +kernel
theorem dX9_value_280 : decode cX9_value 280 = .ok (.lastore, 1) := by decide +kernel
theorem dX9_value_281 : decode cX9_value 281 = .ok (.return_, 1) := by decide +kernel
theorem dX9_value_29 : decode cX9_value 29 = .ok (.iaload, 1) := by decide +kernel
theorem dX9_value_30 : decode cX9_value 30 = .ok (.bipush 45, 2) := by decide +kernel
theorem dX9_value_32 : decode cX9_value 32 = .ok (.if_icmp .ne 7, 3) := by decide +kernel
theorem dX9_value_35 : decode cX9_value 35 = .ok (.iconst 1, 1) := by decide +kernel
theorem dX9_value_36 : decode cX9_value 36 = .ok (.goto 4, 3) := by decide +kernel
theorem dX9_value_39 : decode cX9_value 39 = .ok (.iconst 0, 1) := by decide +kernel
theorem dX9_value_4 : decode cX9_value 4 = .ok (.pop, 1) := by decide +kernel
theorem dX9_value_40 : decode cX9_value 40 = .ok (.istore 4, 2) := by decide +kernel
theorem dX9_value_42 : decode cX9_value 42 = .ok (.iload 4, 2) := by decide +kernel
theorem dX9_value_44 : decode cX9_value 44 = .ok (.ifCond .eq 13, 3) := by decide +kernel
theorem dX9_value_47 : decode cX9_value 47 = .ok (.aload_n 0, 1) := by decide +kernel
theorem dX9_value_48 : decode cX9_value 48 = .ok (.dup, 1) := by decide +kernel
theorem dX9_value_49 : decode cX9_value 49 = .ok (.getfield 141, 3) := by decide +kernel
theorem dX9_value_5 : decode cX9_value 5 = .ok (.aload_n 0, 1) := by decide +kernel
theorem dX9_value_52 : decode cX9_value 52 = .ok (.iconst 1, 1) := by decide +kernel
theorem dX9_value_53 : decode cX9_value 53 = .ok (.iadd, 1) := by decide +kernel
theorem dX9_value_54 : decode cX9_value 54 = .ok (.putfield 141, 3) := by decide +kernel
theorem dX9_value_57 : decode cX9_value 57 = .ok (.aload_n 0, 1) := by decide +kernel
theorem dX9_value_58 : decode cX9_value 58 = .ok (.getfield 141, 3) := by decide +kernel
theorem dX9_value_6 : decode cX9_value 6 = .ok (.getfield 141, 3) := by decide +kernel
theorem dX9_value_61 : decode cX9_value 61 = .ok (.istore 5, 2) := by decide +kernel
theorem dX9_value_63 : decode cX9_value 63 = .ok (.lconst 0, 1) := by decide +kernel
theorem dX9_value_64 : decode cX9_value 64 = .ok (.lstore 6, 2) := by decide +kernel
theorem dX9_value_66 : decode cX9_value 66 = .ok (.iconst 0, 1) := by decide +kernel
theorem dX9_value_67 : decode cX9_value 67 = .ok (.istore 8, 2) := by decide +kernel
theorem dX9_value_69 : decode cX9_value 69 = .ok (.aload_n 0, 1) := by decide +kernel
theorem dX9_value_70 : decode cX9_value 70 = .ok (.getfield 141, 3) := by decide +kernel
theorem dX9_value_73 : decode cX9_value 73 = .ok (.aload_n 0, 1) := by decide +kernel
theorem dX9_value_74 : decode cX9_value 74 = .ok (.getfield 144, 3) := by decide +kernel
theorem dX9_value_77 : decode cX9_value 77 = .ok (.if_icmp .ge 121, 3) := by decide +kernel
theorem dX9_value_80 : decode cX9_value 80 = .ok (.aload_n 0, 1) := by decide +kernel
theorem dX9_value_81 : decode cX9_value 81 = .ok (.getfield 39, 3) := by decide +kernel
theorem dX9_value_84 : decode cX9_value 84 = .ok (.aload_n 0, 1) := by decide +kernel
theorem dX9_value_85 : decode cX9_value 85 = .ok (.getfield 141, 3) := by decide +kernel
theorem dX9_value_88 : decode cX9_value 88 = .ok (.iaload, 1) := by decide +kernel
theorem dX9_value_89 : decode cX9_value 89 = .ok (.invokestatic 158, 3) := by decide +kernel
theorem dX9_value_9 : decode cX9_value 9 = .ok (.istore_n 3, 1) := by decide +kernel
theorem dX9_value_92 : decode cX9_value 92 = .ok (.ifCond .eq 106, 3) := by decide +kernel
theorem dX9_value_95 : decode cX9_value 95 = .ok (.aload_n 0, 1) := by decide +kernel
theorem dX9_value_96 : decode cX9_value 96 = .ok (.getfield 141, 3) := by decide +kernel
theorem dX9_value_99 : decode cX9_value 99 = .ok (.iload 5, 2) := by decide +kernel
def wp_X9_value : List Cond := .code yX9_value cX9_value 10 none :: ([.methodLink RX9 150 yX9_next, .instanceMethod yX9_next, .selects RX9 yX9_next yX9_next, .initialized RX9, .fieldLink RX9 141 "RecordBenchModel" "at" "I", .fieldLink RX9 144 "RecordBenchModel" "size" "I", .fieldLink RX9 162 "RecordBenchModel" "ended" "I", .constantLong RX9 227 (-9223372036854775808), .methodLink RX9 154 yX9_fail, .instanceMethod yX9_fail, .selects RX9 yX9_fail yX9_fail, .fieldLink RX9 30 "RecordBenchModel" "plain" "[J", .methodLink RX9 229 yX9_isOf, .static yX9_isOf, .fieldLink RX9 39 "RecordBenchModel" "tape" "[I", .methodLink RX9 158 yX9_isDigit, .static yX9_isDigit, .constantLong RX9 223 (-922337203685477580), .constantLong RX9 225 (10), .code yX9_next cX9_next 1 (some .int), .fieldLink RX9 147 "RecordBenchModel" "begun" "I", .code yX9_fail cX9_fail 3 none, .fieldLink RX9 135 "RecordBenchModel" "bad" "I", .fieldLink RX9 138 "RecordBenchModel" "badPlace" "I", .code yX9_isOf cX9_isOf 3 (some .boolean), .constantLong RX9 219 (-2147483648), .constantLong RX9 221 (2147483647), .constantLong RX9 215 (-128), .constantLong RX9 217 (127), .code yX9_isDigit cX9_isDigit 1 (some .boolean)] ++ wsX90)
set_option maxRecDepth 20000 in
theorem gp_X9_value_X9_next_150 : GoodIn wp_X9_value (wsV RX9 150 RX9 yX9_next wp_X9_next) := goodIn_p _ [20] rfl (by decide +kernel)
set_option maxRecDepth 20000 in
theorem gp_X9_value_X9_fail_154 : GoodIn wp_X9_value (wsV RX9 154 RX9 yX9_fail wp_X9_fail) := goodIn_p _ [22] rfl (by decide +kernel)
set_option maxRecDepth 20000 in
theorem gp_X9_value_X9_isOf_229 : GoodIn wp_X9_value (wsS RX9 229 yX9_isOf wp_X9_isOf) := goodIn_p _ [25] rfl (by decide +kernel)
set_option maxRecDepth 20000 in
theorem gp_X9_value_X9_isDigit_158 : GoodIn wp_X9_value (wsS RX9 158 yX9_isDigit wp_X9_isDigit) := goodIn_p _ [30] rfl (by decide +kernel)
set_option maxHeartbeats 4000000 in
set_option maxRecDepth 100000 in
theorem c_X9_value (l : Launch) (dC : Nat → ClassId) (dI : Nat → Nat → Nat) (h0 : Nat) (g : Nat → Value) (a9 : Nat) (cT : ClassId) (f : Nat → Int32) (j : Nat) (n : Nat) (b0 : Int32) (v14 : Value) (x18 : Int32) (a6 : Nat) (cP : ClassId) (fP : Nat → Int64) (fh6 : g 6 = .ref a6) (fh9 : g 9 = .ref a9) (fh11 : g 11 = .int (nI j)) (fh12 : g 12 = .int (nI n)) (fh13 : g 13 = .int b0) (fh14 : g 14 = v14) (fh18 : g 18 = .int x18) (hj : j ≤ n) (hn : n ≤ 400) (p0 : Int32) (p1 : Int32) (hp0 : vp_in p0 248) (sz : Nat) : Met l yX9_value wp_X9_value ({ frames := 1, cells := 0, slots := 0, locals := 26 }) (va_Pc [.ref h0, .int p0, .int p1] (Pr (dC, dI) [(cT, .int), (cP, .long)] [] [(h0, .inr (11, mo g)), (a9, .inl (cT, 400, .inl f)), (a6, .inl (cP, 248, .inr (.inl fP)))] sz)) (va_Qv (fun (u : (Nat → Value) × Nat × Int32 × Int32 × (Nat → Int64)) => match u with | (g1, j1, b1, x1, fP1) => (((tde f n (tfd f n (tsk f n j)) ≠ tfd f n (tsk f n j) ∧ tde f n (tfd f n (tsk f n j)) - tfd f n (tsk f n j) ≤ 19 ∧ tvo (tvs f (tfd f n (tsk f n j)) (tde f n (tfd f n (tsk f n j)) - tfd f n (tsk f n j))) (tsg f n (tsk f n j)) p1) ∧ j1 = tde f n (tfd f n (tsk f n j)) ∧ b1 = b0 ∧ x1 = nI (tde f n (tfd f n (tsk f n j))) ∧ fP1 = vp_updL fP p0.toNatClampNeg (tvv (tvs f (tfd f n (tsk f n j)) (tde f n (tfd f n (tsk f n j)) - tfd f n (tsk f n j))) (tsg f n (tsk f n j)))) ∨ (¬ (tde f n (tfd f n (tsk f n j)) ≠ tfd f n (tsk f n j) ∧ tde f n (tfd f n (tsk f n j)) - tfd f n (tsk f n j) ≤ 19 ∧ tvo (tvs f (tfd f n (tsk f n j)) (tde f n (tfd f n (tsk f n j)) - tfd f n (tsk f n j))) (tsg f n (tsk f n j)) p1) ∧ j1 ≤ n ∧ b1 ≠ 0)) ∧ (g1 11 = .int (nI j1)) ∧ (g1 13 = .int b1) ∧ (g1 18 = .int x1) ∧ (∀ j : Nat, j ≠ 11 → j ≠ 13 → j ≠ 14 → j ≠ 17 → j ≠ 18 → g1 j = g j)) (Bq (dC, dI) (fun (u : (Nat → Value) × Nat × Int32 × Int32 × (Nat → Int64)) => match u with | (g1, j1, b1, x1, fP1) => [(h0, .inr (11, mo g1)), (a9, .inl (cT, 400, .inl f)), (a6, .inl (cP, 248, .inr (.inl fP1)))]) (fun (u : (Nat → Value) × Nat × Int32 × Int32 × (Nat → Int64)) => match u with | (g1, j1, b1, x1, fP1) => []) (va_A [(h0, .inr (11, mo g)), (a9, .inl (cT, 400, .inl f)), (a6, .inl (cP, 248, .inr (.inl fP)))] sz)) (va_A [(h0, .inr (11, mo g)), (a9, .inl (cT, 400, .inl f)), (a6, .inl (cP, 248, .inr (.inl fP)))] sz)) 0 0 (va_A [(h0, .inr (11, mo g)), (a9, .inl (cT, 400, .inl f)), (a6, .inl (cP, 248, .inr (.inl fP)))] sz) := by
  refine Met.ofW (cc := cX9_value) (maxL := 10) (ret := none) (by decide) rfl ?_
  intro p e s m args below meth c s₁ B hml hv
  obtain ⟨rfl, hsz, hP, hK, hD0, hN, hZ, hR⟩ := hv
  have hx := B.exec
  have hb := B.bytes
  have hr := B.returns
  have hts := atoms_spec (ws := wp_X9_value) B.pre
  have hown : s.vm.findClass RX9 = some m.cls := findClass_of_methodNamed B.named
  have hlocks := B.notSynchronized
  have iRX9 : ∀ w ∈ u_ws RX9 TX9 60, w ∈ wp_X9_value := by decide +kernel
  subst hsz
  have hD := hD0.self (sz := s.heap.size)
  generalize hAe : va_A [(h0, .inr (11, mo g)), (a9, .inl (cT, 400, .inl f)), (a6, .inl (cP, 248, .inr (.inl fP)))] s.heap.size = A at hD hZ hR ⊢
  have hA : ∀ q : Nat, s.heap.size ≤ q → A q := fun q h => by rw [← hAe]; exact Or.inr h
  have hS : va_S A s.heap s.heap [] := va_S.rf
  have hP : va_P (dC, dI) vwCl [(h0, .inr (11, mo g)), (a9, .inl (cT, 400, .inl f)), (a6, .inl (cP, 248, .inr (.inl fP)))] s.heap := hP
  have hl := lv_entry ([.ref h0, .int p0, .int p1]) (n := 10) (Nat.le_of_ble_eq_true rfl)
  rw [lg_entry_eq]
  generalize (lg_sl ([.ref h0, .int p0, .int p1]) ++ List.replicate (10 - (lg_sl ([.ref h0, .int p0, .int p1])).length) Slot.unset).toArray = ls at hl ⊢
  have hl : lv_has ls 10 [(0, .ref h0), (1, .int p0), (2, .int p1)] := hl
  have hq1 := tsk_ge f n j
  have hq2 := tsk_le (f := f) (n := n) hj
  refine lv_aload_n hx hb dX9_value_0 rfl (lv_at hl 0 rfl) ?_
  have hFc := va_free (wc := [(h0, .inr (11, mo g)), (a9, .inl (cT, 400, .inl f))]) hD hS hA [0, 1] rfl
  refine va_calli (va_runV (As := []) (rest := []) ⟨hx, hb, hml, hown, hts⟩ (c_X9_next l dC dI h0 g a9 cT f j n fh9 fh11 fh12 (by omega) (by omega) s.heap.size) (cwV 0 hts gp_X9_value_X9_next_150 rfl rfl rfl (by decide +kernel) ⟨Nat.le_of_ble_eq_true rfl, Nat.le_of_ble_eq_true rfl⟩) ⟨Pr.blind _, va_recv hK hP (ci := 11) (q0 := 0) rfl rfl, fun U hU hW => ⟨rfl, Pr.at (hP.sub (ws' := [(h0, .inr (11, mo g)), (a9, .inl (cT, 400, .inl f))]) [0, 1] rfl) (hK.sub (tys' := [(cT, .int)]) [0] rfl) (hD.sub (ws' := [(h0, .inr (11, mo g)), (a9, .inl (cT, 400, .inl f))]) [0, 1] (by decide) rfl) hN hZ RO.nil hS hFc hU hW⟩⟩ rfl rfl hl.1 rfl (lv_room (Nat.le_of_ble_eq_true rfl)) dX9_value_1 ⟨Nat.le_of_ble_eq_true rfl, Nat.le_of_ble_eq_true rfl⟩) hS (fun q _ h => hFc q h) hFc (fun r_1 u t H1 locs ht hvm hw_2 hB hz1 hk1 hS => ?_)
  obtain ⟨g1_3, rfl⟩ : ∃ z, z = u := ⟨_, rfl⟩
  obtain ⟨hP, hD, hK⟩ := Bq.join (wr := [(a6, .inl (cP, 248, .inr (.inl fP)))]) hB ht hvm hP hD [0, 1] [2] rfl rfl (by decide) (by decide) hk1 hFc hK
  generalize H1 = H at hP hS ⊢
  have hP : va_P (dC, dI) vwCl [(a6, .inl (cP, 248, .inr (.inl fP))), (h0, .inr (11, mo g1_3)), (a9, .inl (cT, 400, .inl f))] H := hP
  have hD : va_D A [(a6, .inl (cP, 248, .inr (.inl fP))), (h0, .inr (11, mo g1_3)), (a9, .inl (cT, 400, .inl f))] := hD
  have hK : va_K (dC, dI) vwCl [(cT, .int), (cP, .long)] s := hK
  try dsimp only at hw_2
  obtain ⟨k_4, k_5, k_6, k_7⟩ := hw_2
  have w_8 : g1_3 9 = .ref a9 := (k_7 9 (by decide) (by decide)).trans fh9
  have w_9 : g1_3 12 = .int (nI n) := (k_7 12 (by decide) (by decide)).trans fh12
  have w_10 : g1_3 13 = .int b0 := (k_7 13 (by decide) (by decide)).trans fh13
  have w_11 : g1_3 14 = v14 := (k_7 14 (by decide) (by decide)).trans fh14
  have w_12 : g1_3 18 = .int x18 := (k_7 18 (by decide) (by decide)).trans fh18
  have w_13 : g1_3 6 = .ref a6 := (k_7 6 (by decide) (by decide)).trans fh6
  have un_14 : ∀ j : Nat, j ≠ 11 → j ≠ 17 → g1_3 j = g j := fun j h11 h17 => (k_7 j h11 h17)
  refine W_toi (y := tat f n (tsk f n j)) k_4 ?_
  refine lv_pop hx hb dX9_value_4 rfl ?_
  refine lv_aload_n hx hb dX9_value_5 rfl (lv_at hl 0 rfl) ?_
  refine va_get (D := (dC, dI)) (ci := 11) (v := .int (nI (tsk f n j))) (C := RX9) (T := TX9) (N := 60) hx hb hts iRX9 hown hK hP 1 rfl rfl 11 (by decide) (hts (.fieldLink RX9 141 "RecordBenchModel" "at" "I") (by decide +kernel)) (fun _ h9 => h9) ((mo_get g1_3 (by decide)).trans (congrArg some k_5)) dX9_value_6 ?_
  refine lv_istore_n (lv' := [(3, .int (nI (tsk f n j))), (0, .ref h0), (1, .int p0), (2, .int p1)]) hx hb dX9_value_9 rfl hl (by decide) rfl (fun ls hl => ?_)
  refine lv_aload_n hx hb dX9_value_10 rfl (lv_at hl 1 rfl) ?_
  refine va_get (D := (dC, dI)) (ci := 11) (v := .int (nI (tsk f n j))) (C := RX9) (T := TX9) (N := 60) hx hb hts iRX9 hown hK hP 1 rfl rfl 11 (by decide) (hts (.fieldLink RX9 141 "RecordBenchModel" "at" "I") (by decide +kernel)) (fun _ h9 => h9) ((mo_get g1_3 (by decide)).trans (congrArg some k_5)) dX9_value_11 ?_
  refine lv_aload_n hx hb dX9_value_14 rfl (lv_at hl 1 rfl) ?_
  refine va_get (D := (dC, dI)) (ci := 11) (v := .int (nI n)) (C := RX9) (T := TX9) (N := 60) hx hb hts iRX9 hown hK hP 1 rfl rfl 12 (by decide) (hts (.fieldLink RX9 144 "RecordBenchModel" "size" "I") (by decide +kernel)) (fun _ h9 => h9) ((mo_get g1_3 (by decide)).trans (congrArg some w_9)) dX9_value_15 ?_
  refine W_join (at' := 39) (nL := 10) (st := []) (fun _ : { _u : Unit // tat f n (tsk f n j) ≠ 45 } => [(3, .int (nI (tsk f n j))), (0, .ref h0), (1, .int p0), (2, .int p1)]) (fun gj ls hl => ?_) (fun J_16 => ?_)
  · have hm0 := gj.2
    refine lv_iconst (v := 0) hx hb dX9_value_39 (by decide) ?_
    refine lv_istore (lv' := [(4, .int 0), (3, .int (nI (tsk f n j))), (0, .ref h0), (1, .int p0), (2, .int p1)]) hx hb dX9_value_40 hl (by decide) rfl (fun ls hl => ?_)
    refine lv_iload hx hb dX9_value_42 (lv_at hl 0 rfl) ?_
    refine lv_if_eq (tgt := 57) hx hb dX9_value_44 (by decide) (fun c_17 => ?_) (fun c_17 => absurd (by decide) c_17)
    have hpp : tfd f n (tsk f n j) = tsk f n j := if_neg hm0
    have hmi : tsg f n (tsk f n j) = 0 := if_neg hm0
    have hpn : tfd f n (tsk f n j) ≤ n := by rw [hpp]; exact hq2
    refine lv_aload_n hx hb dX9_value_57 rfl (lv_at hl 2 rfl) ?_
    refine va_get (D := (dC, dI)) (ci := 11) (v := .int (nI (tsk f n j))) (C := RX9) (T := TX9) (N := 60) hx hb hts iRX9 hown hK hP 1 rfl rfl 11 (by decide) (hts (.fieldLink RX9 141 "RecordBenchModel" "at" "I") (by decide +kernel)) (fun _ h9 => h9) ((mo_get g1_3 (by decide)).trans (congrArg some k_5)) dX9_value_58 ?_
    refine lv_istore (lv' := [(5, .int (nI (tsk f n j))), (4, .int 0), (3, .int (nI (tsk f n j))), (0, .ref h0), (1, .int p0), (2, .int p1)]) hx hb dX9_value_61 hl (by decide) rfl (fun ls hl => ?_)
    refine lv_lconst (v := 0) hx hb dX9_value_63 (by decide) ?_
    refine lv_lstore (lv' := [(6, .long 0), (5, .int (nI (tsk f n j))), (4, .int 0), (3, .int (nI (tsk f n j))), (0, .ref h0), (1, .int p0), (2, .int p1)]) hx hb dX9_value_64 hl (by decide) rfl (fun ls hl => ?_)
    refine lv_iconst (v := 0) hx hb dX9_value_66 (by decide) ?_
    refine lv_istore (lv' := [(8, .int 0), (6, .long 0), (5, .int (nI (tsk f n j))), (4, .int 0), (3, .int (nI (tsk f n j))), (0, .ref h0), (1, .int p0), (2, .int p1)]) hx hb dX9_value_67 hl (by decide) rfl (fun ls hl => ?_)
    refine W_loop (σ := Nat × (Nat → Value)) (D := (dC, dI)) (A := A) [] (fun (u : Nat × (Nat → Value)) => match u with | (i, g2) => [(6, .long ((tvs f (tfd f n (tsk f n j)) (i - tfd f n (tsk f n j))).1)), (8, .int ((tvs f (tfd f n (tsk f n j)) (i - tfd f n (tsk f n j))).2)), (0, .ref h0), (1, .int p0), (2, .int p1), (3, .int (nI (tsk f n j))), (4, .int 0), (5, .int (nI (tfd f n (tsk f n j))))]) (fun (u : Nat × (Nat → Value)) => match u with | (i, g2) => [(h0, .inr (11, mo g2)), (a9, .inl (cT, 400, .inl f)), (a6, .inl (cP, 248, .inr (.inl fP)))]) (fun (u : Nat × (Nat → Value)) => match u with | (i, g2) => (tfd f n (tsk f n j) ≤ i) ∧ (i ≤ tfd f n (tsk f n j) + 19) ∧ (i ≤ n) ∧ (tde f n i = tde f n (tfd f n (tsk f n j))) ∧ (g2 6 = .ref a6) ∧ (g2 9 = .ref a9) ∧ (g2 11 = .int (nI i)) ∧ (g2 12 = .int (nI n)) ∧ (g2 13 = .int b0) ∧ (g2 14 = v14) ∧ (g2 18 = .int x18) ∧ (∀ k : Nat, k ≠ 11 → k ≠ 17 → g2 k = g k)) (fun (u : Nat × (Nat → Value)) => match u with | (i, g2) => n - i) ?_ ((tfd f n (tsk f n j)), g1_3) ⟨(Nat.le_refl _), (by omega), hpn, rfl, w_13, w_8, (k_5.trans (by rw [hpp])), w_9, w_10, w_11, w_12, (fun k h1 h2 => un_14 k h1 h2)⟩ _ _ _ (hP.sub (ws' := [(h0, .inr (11, mo g1_3)), (a9, .inl (cT, 400, .inl f)), (a6, .inl (cP, 248, .inr (.inl fP)))]) [1, 2, 0] rfl) (hD.sub (ws' := [(h0, .inr (11, mo g1_3)), (a9, .inl (cT, 400, .inl f)), (a6, .inl (cP, 248, .inr (.inl fP)))]) [1, 2, 0] (by decide) rfl) hS (by show lv_has _ _ [(6, .long ((tvs f (tfd f n (tsk f n j)) (tfd f n (tsk f n j) - tfd f n (tsk f n j))).1)), (8, .int ((tvs f (tfd f n (tsk f n j)) (tfd f n (tsk f n j) - tfd f n (tsk f n j))).2)), (0, .ref h0), (1, .int p0), (2, .int p1), (3, .int (nI (tsk f n j))), (4, .int 0), (5, .int (nI (tfd f n (tsk f n j))))]; rw [Nat.sub_self, hpp]; exact lv_sub hl [1, 0, 5, 6, 7, 4, 3, 2] rfl)
    intro u hI H locs ls hP hD hS hl ih
    obtain ⟨i, g2⟩ := u
    try dsimp only at hI
    obtain ⟨hi1, hi2, hi3, hde, h6, h9, h11, h12, h13, h14, h18, hun⟩ := hI
    have hP : va_P (dC, dI) vwCl [(h0, .inr (11, mo g2)), (a9, .inl (cT, 400, .inl f)), (a6, .inl (cP, 248, .inr (.inl fP)))] H := hP
    have hD : va_D A [(h0, .inr (11, mo g2)), (a9, .inl (cT, 400, .inl f)), (a6, .inl (cP, 248, .inr (.inl fP)))] := hD
    have hl : lv_has ls 10 [(6, .long ((tvs f (tfd f n (tsk f n j)) (i - tfd f n (tsk f n j))).1)), (8, .int ((tvs f (tfd f n (tsk f n j)) (i - tfd f n (tsk f n j))).2)), (0, .ref h0), (1, .int p0), (2, .int p1), (3, .int (nI (tsk f n j))), (4, .int 0), (5, .int (nI (tfd f n (tsk f n j))))] := hl
    refine lv_aload_n hx hb dX9_value_69 rfl (lv_at hl 2 rfl) ?_
    refine va_get (D := (dC, dI)) (ci := 11) (v := .int (nI i)) (C := RX9) (T := TX9) (N := 60) hx hb hts iRX9 hown hK hP 0 rfl rfl 11 (by decide) (hts (.fieldLink RX9 141 "RecordBenchModel" "at" "I") (by decide +kernel)) (fun _ h9 => h9) ((mo_get g2 (by decide)).trans (congrArg some h11)) dX9_value_70 ?_
    refine lv_aload_n hx hb dX9_value_73 rfl (lv_at hl 2 rfl) ?_
    refine va_get (D := (dC, dI)) (ci := 11) (v := .int (nI n)) (C := RX9) (T := TX9) (N := 60) hx hb hts iRX9 hown hK hP 0 rfl rfl 12 (by decide) (hts (.fieldLink RX9 144 "RecordBenchModel" "size" "I") (by decide +kernel)) (fun _ h9 => h9) ((mo_get g2 (by decide)).trans (congrArg some h12)) dX9_value_74 ?_
    refine lv_icmp_ge (tgt := 198) hx hb dX9_value_77 (by decide) (fun c_18 => ?_) (fun c_18 => ?_)
    · have htd : tde f n (tfd f n (tsk f n j)) = i := hde.symm.trans (tde_no (fun h => absurd h.1 (by have := nI_leN (by omega) (by omega) c_18; omega)))
      refine lv_aload_n hx hb dX9_value_198 rfl (lv_at hl 2 rfl) ?_
      refine va_get (D := (dC, dI)) (ci := 11) (v := .int (nI i)) (C := RX9) (T := TX9) (N := 60) hx hb hts iRX9 hown hK hP 0 rfl rfl 11 (by decide) (hts (.fieldLink RX9 141 "RecordBenchModel" "at" "I") (by decide +kernel)) (fun _ h9 => h9) ((mo_get g2 (by decide)).trans (congrArg some h11)) dX9_value_199 ?_
      refine lv_iload hx hb dX9_value_202 (lv_at hl 7 rfl) ?_
      refine lv_icmp_ne (tgt := 217) hx hb dX9_value_204 (by decide) (fun c_19 => ?_) (fun c_19 => ?_)
      · refine lv_aload_n hx hb dX9_value_217 rfl (lv_at hl 2 rfl) ?_
        refine lv_aload_n hx hb dX9_value_218 rfl (lv_at hl 2 rfl) ?_
        refine va_get (D := (dC, dI)) (ci := 11) (v := .int (nI i)) (C := RX9) (T := TX9) (N := 60) hx hb hts iRX9 hown hK hP 0 rfl rfl 11 (by decide) (hts (.fieldLink RX9 141 "RecordBenchModel" "at" "I") (by decide +kernel)) (fun _ h9 => h9) ((mo_get g2 (by decide)).trans (congrArg some h11)) dX9_value_219 ?_
        refine va_put (D := (dC, dI)) (ci := 11) (v := .int (nI i)) (ty := .int) (C := RX9) (T := TX9) (N := 60) hx hb hts iRX9 tyX9 tyX9_ok nmX9 hown hK hP hD hS 0 rfl rfl 18 (by decide) (hts (.fieldLink RX9 162 "RecordBenchModel" "ended" "I") (by decide +kernel)) (fun _ h9 => h9) rfl (by decide +kernel) rfl rfl (by rw [mo_len]; decide) dX9_value_222 (fun H locs hP hD hS => ?_)
        obtain ⟨g_20, eg_20⟩ : ∃ y, y = va_up g2 18 (.int (nI i)) := ⟨_, rfl⟩
        have hP : va_P (dC, dI) vwCl [(h0, .inr (11, mo g_20)), (a9, .inl (cT, 400, .inl f)), (a6, .inl (cP, 248, .inr (.inl fP)))] H := by rw [eg_20, ← mo_set g2 (by decide)]; exact hP
        have hD : va_D A [(h0, .inr (11, mo g_20)), (a9, .inl (cT, 400, .inl f)), (a6, .inl (cP, 248, .inr (.inl fP)))] := by rw [eg_20, ← mo_set g2 (by decide)]; exact hD
        have g_20h6 : g_20 6 = .ref a6 := by rw [eg_20, va_up_ne _ _ (by decide)]; exact h6
        have g_20h9 : g_20 9 = .ref a9 := by rw [eg_20, va_up_ne _ _ (by decide)]; exact h9
        have g_20h11 : g_20 11 = .int (nI i) := by rw [eg_20, va_up_ne _ _ (by decide)]; exact h11
        have g_20h12 : g_20 12 = .int (nI n) := by rw [eg_20, va_up_ne _ _ (by decide)]; exact h12
        have g_20h13 : g_20 13 = .int b0 := by rw [eg_20, va_up_ne _ _ (by decide)]; exact h13
        have g_20h14 : g_20 14 = v14 := by rw [eg_20, va_up_ne _ _ (by decide)]; exact h14
        have g_20h18 : g_20 18 = .int (nI i) := by rw [eg_20, va_up_self]
        have ung_20 : ∀ j : Nat, j ≠ 11 → j ≠ 17 → j ≠ 18 → g_20 j = g j := fun j h11 h17 h18 => by rw [eg_20, va_up_ne _ _ h18]; exact hun j h11 h17
        refine lv_iload hx hb dX9_value_225 (lv_at hl 6 rfl) ?_
        refine lv_if_ne (tgt := 242) hx hb dX9_value_227 (by decide) (fun c_21 => absurd (by decide) c_21) (fun c_21 => ?_)
        refine lv_lload hx hb dX9_value_230 (lv_at hl 0 rfl) ?_
        refine lv_ldc2 hx hb hown (hts (.constantLong RX9 227 (-9223372036854775808)) (by decide +kernel)) dX9_value_232 ?_
        refine W.lcmp hx hb dX9_value_235 ?_
        refine lv_if_ne (tgt := 242) hx hb dX9_value_236 (by decide) (fun c_22 => ?_) (fun c_22 => ?_)
        · refine lv_iload hx hb dX9_value_242 (lv_at hl 6 rfl) ?_
          refine lv_if_ne (tgt := 253) hx hb dX9_value_244 (by decide) (fun c_23 => absurd (by decide) c_23) (fun c_23 => ?_)
          refine lv_lconst (v := 0) hx hb dX9_value_247 (by decide) ?_
          refine lv_lload hx hb dX9_value_248 (lv_at hl 0 rfl) ?_
          refine lv_lsub hx hb dX9_value_250 ?_
          refine lv_lstore (lv' := [(6, .long (0 - ((tvs f (tfd f n (tsk f n j)) (i - tfd f n (tsk f n j))).1))), (8, .int ((tvs f (tfd f n (tsk f n j)) (i - tfd f n (tsk f n j))).2)), (0, .ref h0), (1, .int p0), (2, .int p1), (3, .int (nI (tsk f n j))), (4, .int 0), (5, .int (nI (tfd f n (tsk f n j))))]) hx hb dX9_value_251 hl (by decide) rfl (fun ls hl => ?_)
          refine lv_iload hx hb dX9_value_253 (lv_at hl 1 rfl) ?_
          refine lv_if_ne (tgt := 267) hx hb dX9_value_255 (by decide) (fun c_24 => ?_) (fun c_24 => ?_)
          · refine lv_aload_n hx hb dX9_value_267 rfl (lv_at hl 2 rfl) ?_
            refine lv_iconst (v := 2) hx hb dX9_value_268 (by decide) ?_
            refine lv_iload_n hx hb dX9_value_269 rfl (lv_at hl 5 rfl) ?_
            have hFc := va_free (wc := [(h0, .inr (11, mo g_20))]) hD hS hA [0] rfl
            refine va_callv (va_runV (As := [.int 2, .int (nI (tsk f n j))]) (rest := []) ⟨hx, hb, hml, hown, hts⟩ (c_X9_fail l dC dI h0 g_20 b0 (v14) g_20h13 g_20h14 2 (nI (tsk f n j)) (by decide) H.size) (cwV 2 hts gp_X9_value_X9_fail_154 rfl rfl rfl (by decide +kernel) ⟨Nat.le_of_ble_eq_true rfl, Nat.le_of_ble_eq_true rfl⟩) ⟨Pr.blind _, va_recv hK hP (ci := 11) (q0 := 0) rfl rfl, fun U hU hW => ⟨rfl, Pr.at (hP.sub (ws' := [(h0, .inr (11, mo g_20))]) [0] rfl) (hK.sub (tys' := []) [] rfl) (hD.sub (ws' := [(h0, .inr (11, mo g_20))]) [0] (by decide) rfl) hN hZ RO.nil hS hFc hU hW⟩⟩ rfl rfl hl.1 rfl (lv_room (Nat.le_of_ble_eq_true rfl)) dX9_value_270 ⟨Nat.le_of_ble_eq_true rfl, Nat.le_of_ble_eq_true rfl⟩) hS (fun q _ h => hFc q h) hFc (fun u t H1 locs ht hvm hw_26 hB hz1 hk1 hS => ?_)
            obtain ⟨g1_27, b1_28⟩ := u
            obtain ⟨hP, hD, hK⟩ := Bq.join (wr := [(a9, .inl (cT, 400, .inl f)), (a6, .inl (cP, 248, .inr (.inl fP)))]) hB ht hvm hP hD [0] [1, 2] rfl rfl (by decide) (by decide) hk1 hFc hK
            generalize H1 = H at hP hS ⊢
            have hP : va_P (dC, dI) vwCl [(a9, .inl (cT, 400, .inl f)), (a6, .inl (cP, 248, .inr (.inl fP))), (h0, .inr (11, mo g1_27))] H := hP
            have hD : va_D A [(a9, .inl (cT, 400, .inl f)), (a6, .inl (cP, 248, .inr (.inl fP))), (h0, .inr (11, mo g1_27))] := hD
            have hK : va_K (dC, dI) vwCl [(cT, .int), (cP, .long)] s := hK
            try dsimp only at hw_26
            obtain ⟨k_29, k_30, k_31⟩ := hw_26
            have w_32 : g1_27 6 = .ref a6 := (k_31 6 (by decide) (by decide)).trans g_20h6
            have w_33 : g1_27 9 = .ref a9 := (k_31 9 (by decide) (by decide)).trans g_20h9
            have w_34 : g1_27 11 = .int (nI i) := (k_31 11 (by decide) (by decide)).trans g_20h11
            have w_35 : g1_27 12 = .int (nI n) := (k_31 12 (by decide) (by decide)).trans g_20h12
            have w_36 : g1_27 18 = .int (nI i) := (k_31 18 (by decide) (by decide)).trans g_20h18
            have un_37 : ∀ j : Nat, j ≠ 11 → j ≠ 13 → j ≠ 14 → j ≠ 17 → j ≠ 18 → g1_27 j = g j := fun j h11 h13 h14 h17 h18 => (k_31 j h13 h14).trans (ung_20 j h11 h17 h18)
            refine lv_aload_n hx hb dX9_value_273 rfl (lv_at hl 2 rfl) ?_
            refine va_get (D := (dC, dI)) (ci := 11) (v := .ref a6) (C := RX9) (T := TX9) (N := 60) hx hb hts iRX9 hown hK hP 2 rfl rfl 6 (by decide) (hts (.fieldLink RX9 30 "RecordBenchModel" "plain" "[J") (by decide +kernel)) (fun _ h9 => h9) ((mo_get g1_27 (by decide)).trans (congrArg some w_32)) dX9_value_274 ?_
            refine lv_iload_n hx hb dX9_value_277 rfl (lv_at hl 3 rfl) ?_
            refine lv_lload hx hb dX9_value_278 (lv_at hl 0 rfl) ?_
            refine va_last hx hb hK hP hD hS 1 1 rfl rfl hp0 dX9_value_280 (fun H locs hP hD hS => ?_)
            obtain ⟨f_38, ef_38⟩ : ∃ y : Nat → Int64, y = vp_updL fP (p0 : Int32).toNatClampNeg (0 - ((tvs f (tfd f n (tsk f n j)) (i - tfd f n (tsk f n j))).1)) := ⟨_, rfl⟩
            have hP : va_P (dC, dI) vwCl [(a9, .inl (cT, 400, .inl f)), (a6, .inl (cP, 248, .inr (.inl f_38))), (h0, .inr (11, mo g1_27))] H := by rw [ef_38]; exact hP
            have hD : va_D A [(a9, .inl (cT, 400, .inl f)), (a6, .inl (cP, 248, .inr (.inl f_38))), (h0, .inr (11, mo g1_27))] := by rw [ef_38]; exact hD
            have hP9 := hP.sub (ws' := [(h0, .inr (11, mo g1_27)), (a9, .inl (cT, 400, .inl f)), (a6, .inl (cP, 248, .inr (.inl f_38)))]) [2, 0, 1] rfl
            have hD9 := hD.sub (ws' := [(h0, .inr (11, mo g1_27)), (a9, .inl (cT, 400, .inl f)), (a6, .inl (cP, 248, .inr (.inl f_38)))]) [2, 0, 1] (by decide) rfl
            have hK9 := hK.sub (tys' := []) [] rfl
            exact W.vret hx hb hr (fun t ht hW => ⟨⟨(g1_27, i, b1_28, (nI i), f_38), rfl, ⟨Or.inr ⟨fun h => c_24 (by have := h.2.2.1; rw [htd] at this; exact this), hi3, k_29⟩, w_34, k_30, w_36, (fun j h11 h13 h14 h17 h18 => un_37 j h11 h13 h14 h17 h18)⟩, by rw [ht]; exact hP9, va_K.moved hW.alike hK9, hD9⟩, hS.F ht⟩) hS.2.2 dX9_value_281
          · refine lv_lload hx hb dX9_value_258 (lv_at hl 0 rfl) ?_
            refine lv_iload_n hx hb dX9_value_260 rfl (lv_at hl 4 rfl) ?_
            have hFc := va_free (wc := []) hD hS hA [] rfl
            refine va_calli (va_runS (As := [.long (0 - ((tvs f (tfd f n (tsk f n j)) (i - tfd f n (tsk f n j))).1)), .int p1]) (rest := []) ⟨hx, hb, hml, hown, hts⟩ (c_X9_isOf l dC dI (0 - ((tvs f (tfd f n (tsk f n j)) (i - tfd f n (tsk f n j))).1)) p1 H.size) (cwS 2 hts gp_X9_value_X9_isOf_229 rfl rfl rfl (by decide +kernel) ⟨Nat.le_of_ble_eq_true rfl, Nat.le_of_ble_eq_true rfl⟩) ⟨Pr.blind _, fun U hU hW => ⟨rfl, Pr.at (hP.sub (ws' := []) [] rfl) (hK.sub (tys' := []) [] rfl) (hD.sub (ws' := []) [] (by decide) rfl) hN hZ RO.nil hS hFc hU hW⟩⟩ rfl rfl hl.1 rfl (lv_room (Nat.le_of_ble_eq_true rfl)) dX9_value_261 ⟨Nat.le_of_ble_eq_true rfl, Nat.le_of_ble_eq_true rfl⟩) hS (fun q _ h => hFc q h) hFc (fun r_39 u t H1 locs ht hvm hw_40 hB hz1 hk1 hS => ?_)
            obtain ⟨hP, hD, hK⟩ := Bq.join (wr := [(h0, .inr (11, mo g_20)), (a9, .inl (cT, 400, .inl f)), (a6, .inl (cP, 248, .inr (.inl fP)))]) hB ht hvm hP hD [] [0, 1, 2] rfl rfl (by decide) (by decide) hk1 hFc hK
            generalize H1 = H at hP hS ⊢
            have hP : va_P (dC, dI) vwCl [(h0, .inr (11, mo g_20)), (a9, .inl (cT, 400, .inl f)), (a6, .inl (cP, 248, .inr (.inl fP)))] H := hP
            have hD : va_D A [(h0, .inr (11, mo g_20)), (a9, .inl (cT, 400, .inl f)), (a6, .inl (cP, 248, .inr (.inl fP)))] := hD
            have hK : va_K (dC, dI) vwCl [(cT, .int), (cP, .long)] s := hK
            try dsimp only at hw_40
            have k_41 := hw_40
            rcases k_41 with ⟨ho, rfl⟩ | ⟨ho, rfl⟩
            · refine W.eq (g2 := F0 m 264 ls [.int 1]) rfl ?_
              refine lv_if_ne (tgt := 273) hx hb dX9_value_264 (by decide) (fun c_42 => ?_) (fun c_42 => absurd c_42 (by decide))
              refine lv_aload_n hx hb dX9_value_273 rfl (lv_at hl 2 rfl) ?_
              refine va_get (D := (dC, dI)) (ci := 11) (v := .ref a6) (C := RX9) (T := TX9) (N := 60) hx hb hts iRX9 hown hK hP 0 rfl rfl 6 (by decide) (hts (.fieldLink RX9 30 "RecordBenchModel" "plain" "[J") (by decide +kernel)) (fun _ h9 => h9) ((mo_get g_20 (by decide)).trans (congrArg some g_20h6)) dX9_value_274 ?_
              refine lv_iload_n hx hb dX9_value_277 rfl (lv_at hl 3 rfl) ?_
              refine lv_lload hx hb dX9_value_278 (lv_at hl 0 rfl) ?_
              refine va_last hx hb hK hP hD hS 2 1 rfl rfl hp0 dX9_value_280 (fun H locs hP hD hS => ?_)
              obtain ⟨f_43, ef_43⟩ : ∃ y : Nat → Int64, y = vp_updL fP (p0 : Int32).toNatClampNeg (0 - ((tvs f (tfd f n (tsk f n j)) (i - tfd f n (tsk f n j))).1)) := ⟨_, rfl⟩
              have hP : va_P (dC, dI) vwCl [(h0, .inr (11, mo g_20)), (a9, .inl (cT, 400, .inl f)), (a6, .inl (cP, 248, .inr (.inl f_43)))] H := by rw [ef_43]; exact hP
              have hD : va_D A [(h0, .inr (11, mo g_20)), (a9, .inl (cT, 400, .inl f)), (a6, .inl (cP, 248, .inr (.inl f_43)))] := by rw [ef_43]; exact hD
              have hP9 := hP.sub (ws' := [(h0, .inr (11, mo g_20)), (a9, .inl (cT, 400, .inl f)), (a6, .inl (cP, 248, .inr (.inl f_43)))]) [0, 1, 2] rfl
              have hD9 := hD.sub (ws' := [(h0, .inr (11, mo g_20)), (a9, .inl (cT, 400, .inl f)), (a6, .inl (cP, 248, .inr (.inl f_43)))]) [0, 1, 2] (by decide) rfl
              have hK9 := hK.sub (tys' := []) [] rfl
              exact W.vret hx hb hr (fun t ht hW => ⟨⟨(g_20, i, b0, (nI i), f_43), rfl, ⟨Or.inl ⟨⟨by rw [htd]; exact fun h => c_19 (by rw [h]), by rw [htd]; omega, by rw [htd]; exact ⟨c_24, (fun h => c_22 ((lg_cmp_eq _ _).mpr h.2)), by rw [tvv, hmi, if_pos rfl]; exact ho⟩⟩, htd.symm, rfl, by rw [htd], by rw [ef_43, htd, tvv, hmi, if_pos rfl]⟩, g_20h11, g_20h13, g_20h18, (fun j h11 h13 h14 h17 h18 => ung_20 j h11 h17 h18)⟩, by rw [ht]; exact hP9, va_K.moved hW.alike hK9, hD9⟩, hS.F ht⟩) hS.2.2 dX9_value_281
            · refine W.eq (g2 := F0 m 264 ls [.int 0]) rfl ?_
              refine lv_if_ne (tgt := 273) hx hb dX9_value_264 (by decide) (fun c_44 => absurd (by decide) c_44) (fun c_44 => ?_)
              refine lv_aload_n hx hb dX9_value_267 rfl (lv_at hl 2 rfl) ?_
              refine lv_iconst (v := 2) hx hb dX9_value_268 (by decide) ?_
              refine lv_iload_n hx hb dX9_value_269 rfl (lv_at hl 5 rfl) ?_
              have hFc := va_free (wc := [(h0, .inr (11, mo g_20))]) hD hS hA [0] rfl
              refine va_callv (va_runV (As := [.int 2, .int (nI (tsk f n j))]) (rest := []) ⟨hx, hb, hml, hown, hts⟩ (c_X9_fail l dC dI h0 g_20 b0 (v14) g_20h13 g_20h14 2 (nI (tsk f n j)) (by decide) H.size) (cwV 2 hts gp_X9_value_X9_fail_154 rfl rfl rfl (by decide +kernel) ⟨Nat.le_of_ble_eq_true rfl, Nat.le_of_ble_eq_true rfl⟩) ⟨Pr.blind _, va_recv hK hP (ci := 11) (q0 := 0) rfl rfl, fun U hU hW => ⟨rfl, Pr.at (hP.sub (ws' := [(h0, .inr (11, mo g_20))]) [0] rfl) (hK.sub (tys' := []) [] rfl) (hD.sub (ws' := [(h0, .inr (11, mo g_20))]) [0] (by decide) rfl) hN hZ RO.nil hS hFc hU hW⟩⟩ rfl rfl hl.1 rfl (lv_room (Nat.le_of_ble_eq_true rfl)) dX9_value_270 ⟨Nat.le_of_ble_eq_true rfl, Nat.le_of_ble_eq_true rfl⟩) hS (fun q _ h => hFc q h) hFc (fun u t H1 locs ht hvm hw_46 hB hz1 hk1 hS => ?_)
              obtain ⟨g1_47, b1_48⟩ := u
              obtain ⟨hP, hD, hK⟩ := Bq.join (wr := [(a9, .inl (cT, 400, .inl f)), (a6, .inl (cP, 248, .inr (.inl fP)))]) hB ht hvm hP hD [0] [1, 2] rfl rfl (by decide) (by decide) hk1 hFc hK
              generalize H1 = H at hP hS ⊢
              have hP : va_P (dC, dI) vwCl [(a9, .inl (cT, 400, .inl f)), (a6, .inl (cP, 248, .inr (.inl fP))), (h0, .inr (11, mo g1_47))] H := hP
              have hD : va_D A [(a9, .inl (cT, 400, .inl f)), (a6, .inl (cP, 248, .inr (.inl fP))), (h0, .inr (11, mo g1_47))] := hD
              have hK : va_K (dC, dI) vwCl [(cT, .int), (cP, .long)] s := hK
              try dsimp only at hw_46
              obtain ⟨k_49, k_50, k_51⟩ := hw_46
              have w_52 : g1_47 6 = .ref a6 := (k_51 6 (by decide) (by decide)).trans g_20h6
              have w_53 : g1_47 9 = .ref a9 := (k_51 9 (by decide) (by decide)).trans g_20h9
              have w_54 : g1_47 11 = .int (nI i) := (k_51 11 (by decide) (by decide)).trans g_20h11
              have w_55 : g1_47 12 = .int (nI n) := (k_51 12 (by decide) (by decide)).trans g_20h12
              have w_56 : g1_47 18 = .int (nI i) := (k_51 18 (by decide) (by decide)).trans g_20h18
              have un_57 : ∀ j : Nat, j ≠ 11 → j ≠ 13 → j ≠ 14 → j ≠ 17 → j ≠ 18 → g1_47 j = g j := fun j h11 h13 h14 h17 h18 => (k_51 j h13 h14).trans (ung_20 j h11 h17 h18)
              refine lv_aload_n hx hb dX9_value_273 rfl (lv_at hl 2 rfl) ?_
              refine va_get (D := (dC, dI)) (ci := 11) (v := .ref a6) (C := RX9) (T := TX9) (N := 60) hx hb hts iRX9 hown hK hP 2 rfl rfl 6 (by decide) (hts (.fieldLink RX9 30 "RecordBenchModel" "plain" "[J") (by decide +kernel)) (fun _ h9 => h9) ((mo_get g1_47 (by decide)).trans (congrArg some w_52)) dX9_value_274 ?_
              refine lv_iload_n hx hb dX9_value_277 rfl (lv_at hl 3 rfl) ?_
              refine lv_lload hx hb dX9_value_278 (lv_at hl 0 rfl) ?_
              refine va_last hx hb hK hP hD hS 1 1 rfl rfl hp0 dX9_value_280 (fun H locs hP hD hS => ?_)
              obtain ⟨f_58, ef_58⟩ : ∃ y : Nat → Int64, y = vp_updL fP (p0 : Int32).toNatClampNeg (0 - ((tvs f (tfd f n (tsk f n j)) (i - tfd f n (tsk f n j))).1)) := ⟨_, rfl⟩
              have hP : va_P (dC, dI) vwCl [(a9, .inl (cT, 400, .inl f)), (a6, .inl (cP, 248, .inr (.inl f_58))), (h0, .inr (11, mo g1_47))] H := by rw [ef_58]; exact hP
              have hD : va_D A [(a9, .inl (cT, 400, .inl f)), (a6, .inl (cP, 248, .inr (.inl f_58))), (h0, .inr (11, mo g1_47))] := by rw [ef_58]; exact hD
              have hP9 := hP.sub (ws' := [(h0, .inr (11, mo g1_47)), (a9, .inl (cT, 400, .inl f)), (a6, .inl (cP, 248, .inr (.inl f_58)))]) [2, 0, 1] rfl
              have hD9 := hD.sub (ws' := [(h0, .inr (11, mo g1_47)), (a9, .inl (cT, 400, .inl f)), (a6, .inl (cP, 248, .inr (.inl f_58)))]) [2, 0, 1] (by decide) rfl
              have hK9 := hK.sub (tys' := []) [] rfl
              exact W.vret hx hb hr (fun t ht hW => ⟨⟨(g1_47, i, b1_48, (nI i), f_58), rfl, ⟨Or.inr ⟨fun h => ho (by have := h.2.2.2.2; rw [htd, tvv, hmi, if_pos rfl] at this; exact this), hi3, k_49⟩, w_54, k_50, w_56, (fun j h11 h13 h14 h17 h18 => un_57 j h11 h13 h14 h17 h18)⟩, by rw [ht]; exact hP9, va_K.moved hW.alike hK9, hD9⟩, hS.F ht⟩) hS.2.2 dX9_value_281
        · refine lv_iconst (v := 1) hx hb dX9_value_239 (by decide) ?_
          refine lv_istore (lv' := [(8, .int 1), (6, .long ((tvs f (tfd f n (tsk f n j)) (i - tfd f n (tsk f n j))).1)), (0, .ref h0), (1, .int p0), (2, .int p1), (3, .int (nI (tsk f n j))), (4, .int 0), (5, .int (nI (tfd f n (tsk f n j))))]) hx hb dX9_value_240 hl (by decide) rfl (fun ls hl => ?_)
          refine lv_iload hx hb dX9_value_242 (lv_at hl 6 rfl) ?_
          refine lv_if_ne (tgt := 253) hx hb dX9_value_244 (by decide) (fun c_59 => absurd (by decide) c_59) (fun c_59 => ?_)
          refine lv_lconst (v := 0) hx hb dX9_value_247 (by decide) ?_
          refine lv_lload hx hb dX9_value_248 (lv_at hl 1 rfl) ?_
          refine lv_lsub hx hb dX9_value_250 ?_
          refine lv_lstore (lv' := [(6, .long (0 - ((tvs f (tfd f n (tsk f n j)) (i - tfd f n (tsk f n j))).1))), (8, .int 1), (0, .ref h0), (1, .int p0), (2, .int p1), (3, .int (nI (tsk f n j))), (4, .int 0), (5, .int (nI (tfd f n (tsk f n j))))]) hx hb dX9_value_251 hl (by decide) rfl (fun ls hl => ?_)
          refine lv_iload hx hb dX9_value_253 (lv_at hl 1 rfl) ?_
          refine lv_if_ne (tgt := 267) hx hb dX9_value_255 (by decide) (fun c_60 => ?_) (fun c_60 => absurd c_60 (by decide))
          refine lv_aload_n hx hb dX9_value_267 rfl (lv_at hl 2 rfl) ?_
          refine lv_iconst (v := 2) hx hb dX9_value_268 (by decide) ?_
          refine lv_iload_n hx hb dX9_value_269 rfl (lv_at hl 5 rfl) ?_
          have hFc := va_free (wc := [(h0, .inr (11, mo g_20))]) hD hS hA [0] rfl
          refine va_callv (va_runV (As := [.int 2, .int (nI (tsk f n j))]) (rest := []) ⟨hx, hb, hml, hown, hts⟩ (c_X9_fail l dC dI h0 g_20 b0 (v14) g_20h13 g_20h14 2 (nI (tsk f n j)) (by decide) H.size) (cwV 2 hts gp_X9_value_X9_fail_154 rfl rfl rfl (by decide +kernel) ⟨Nat.le_of_ble_eq_true rfl, Nat.le_of_ble_eq_true rfl⟩) ⟨Pr.blind _, va_recv hK hP (ci := 11) (q0 := 0) rfl rfl, fun U hU hW => ⟨rfl, Pr.at (hP.sub (ws' := [(h0, .inr (11, mo g_20))]) [0] rfl) (hK.sub (tys' := []) [] rfl) (hD.sub (ws' := [(h0, .inr (11, mo g_20))]) [0] (by decide) rfl) hN hZ RO.nil hS hFc hU hW⟩⟩ rfl rfl hl.1 rfl (lv_room (Nat.le_of_ble_eq_true rfl)) dX9_value_270 ⟨Nat.le_of_ble_eq_true rfl, Nat.le_of_ble_eq_true rfl⟩) hS (fun q _ h => hFc q h) hFc (fun u t H1 locs ht hvm hw_62 hB hz1 hk1 hS => ?_)
          obtain ⟨g1_63, b1_64⟩ := u
          obtain ⟨hP, hD, hK⟩ := Bq.join (wr := [(a9, .inl (cT, 400, .inl f)), (a6, .inl (cP, 248, .inr (.inl fP)))]) hB ht hvm hP hD [0] [1, 2] rfl rfl (by decide) (by decide) hk1 hFc hK
          generalize H1 = H at hP hS ⊢
          have hP : va_P (dC, dI) vwCl [(a9, .inl (cT, 400, .inl f)), (a6, .inl (cP, 248, .inr (.inl fP))), (h0, .inr (11, mo g1_63))] H := hP
          have hD : va_D A [(a9, .inl (cT, 400, .inl f)), (a6, .inl (cP, 248, .inr (.inl fP))), (h0, .inr (11, mo g1_63))] := hD
          have hK : va_K (dC, dI) vwCl [(cT, .int), (cP, .long)] s := hK
          try dsimp only at hw_62
          obtain ⟨k_65, k_66, k_67⟩ := hw_62
          have w_68 : g1_63 6 = .ref a6 := (k_67 6 (by decide) (by decide)).trans g_20h6
          have w_69 : g1_63 9 = .ref a9 := (k_67 9 (by decide) (by decide)).trans g_20h9
          have w_70 : g1_63 11 = .int (nI i) := (k_67 11 (by decide) (by decide)).trans g_20h11
          have w_71 : g1_63 12 = .int (nI n) := (k_67 12 (by decide) (by decide)).trans g_20h12
          have w_72 : g1_63 18 = .int (nI i) := (k_67 18 (by decide) (by decide)).trans g_20h18
          have un_73 : ∀ j : Nat, j ≠ 11 → j ≠ 13 → j ≠ 14 → j ≠ 17 → j ≠ 18 → g1_63 j = g j := fun j h11 h13 h14 h17 h18 => (k_67 j h13 h14).trans (ung_20 j h11 h17 h18)
          refine lv_aload_n hx hb dX9_value_273 rfl (lv_at hl 2 rfl) ?_
          refine va_get (D := (dC, dI)) (ci := 11) (v := .ref a6) (C := RX9) (T := TX9) (N := 60) hx hb hts iRX9 hown hK hP 2 rfl rfl 6 (by decide) (hts (.fieldLink RX9 30 "RecordBenchModel" "plain" "[J") (by decide +kernel)) (fun _ h9 => h9) ((mo_get g1_63 (by decide)).trans (congrArg some w_68)) dX9_value_274 ?_
          refine lv_iload_n hx hb dX9_value_277 rfl (lv_at hl 3 rfl) ?_
          refine lv_lload hx hb dX9_value_278 (lv_at hl 0 rfl) ?_
          refine va_last hx hb hK hP hD hS 1 1 rfl rfl hp0 dX9_value_280 (fun H locs hP hD hS => ?_)
          obtain ⟨f_74, ef_74⟩ : ∃ y : Nat → Int64, y = vp_updL fP (p0 : Int32).toNatClampNeg (0 - ((tvs f (tfd f n (tsk f n j)) (i - tfd f n (tsk f n j))).1)) := ⟨_, rfl⟩
          have hP : va_P (dC, dI) vwCl [(a9, .inl (cT, 400, .inl f)), (a6, .inl (cP, 248, .inr (.inl f_74))), (h0, .inr (11, mo g1_63))] H := by rw [ef_74]; exact hP
          have hD : va_D A [(a9, .inl (cT, 400, .inl f)), (a6, .inl (cP, 248, .inr (.inl f_74))), (h0, .inr (11, mo g1_63))] := by rw [ef_74]; exact hD
          have hP9 := hP.sub (ws' := [(h0, .inr (11, mo g1_63)), (a9, .inl (cT, 400, .inl f)), (a6, .inl (cP, 248, .inr (.inl f_74)))]) [2, 0, 1] rfl
          have hD9 := hD.sub (ws' := [(h0, .inr (11, mo g1_63)), (a9, .inl (cT, 400, .inl f)), (a6, .inl (cP, 248, .inr (.inl f_74)))]) [2, 0, 1] (by decide) rfl
          have hK9 := hK.sub (tys' := []) [] rfl
          exact W.vret hx hb hr (fun t ht hW => ⟨⟨(g1_63, i, b1_64, (nI i), f_74), rfl, ⟨Or.inr ⟨fun h => h.2.2.2.1 ⟨hmi, by rw [htd]; exact (lg_cmp_eq _ _).mp c_22⟩, hi3, k_65⟩, w_70, k_66, w_72, (fun j h11 h13 h14 h17 h18 => un_73 j h11 h13 h14 h17 h18)⟩, by rw [ht]; exact hP9, va_K.moved hW.alike hK9, hD9⟩, hS.F ht⟩) hS.2.2 dX9_value_281
      · refine lv_aload_n hx hb dX9_value_207 rfl (lv_at hl 2 rfl) ?_
        refine lv_iconst (v := 1) hx hb dX9_value_208 (by decide) ?_
        refine lv_aload_n hx hb dX9_value_209 rfl (lv_at hl 2 rfl) ?_
        refine va_get (D := (dC, dI)) (ci := 11) (v := .int (nI i)) (C := RX9) (T := TX9) (N := 60) hx hb hts iRX9 hown hK hP 0 rfl rfl 11 (by decide) (hts (.fieldLink RX9 141 "RecordBenchModel" "at" "I") (by decide +kernel)) (fun _ h9 => h9) ((mo_get g2 (by decide)).trans (congrArg some h11)) dX9_value_210 ?_
        have hFc := va_free (wc := [(h0, .inr (11, mo g2))]) hD hS hA [0] rfl
        refine va_callv (va_runV (As := [.int 1, .int (nI i)]) (rest := []) ⟨hx, hb, hml, hown, hts⟩ (c_X9_fail l dC dI h0 g2 b0 (v14) h13 h14 1 (nI i) (by decide) H.size) (cwV 2 hts gp_X9_value_X9_fail_154 rfl rfl rfl (by decide +kernel) ⟨Nat.le_of_ble_eq_true rfl, Nat.le_of_ble_eq_true rfl⟩) ⟨Pr.blind _, va_recv hK hP (ci := 11) (q0 := 0) rfl rfl, fun U hU hW => ⟨rfl, Pr.at (hP.sub (ws' := [(h0, .inr (11, mo g2))]) [0] rfl) (hK.sub (tys' := []) [] rfl) (hD.sub (ws' := [(h0, .inr (11, mo g2))]) [0] (by decide) rfl) hN hZ RO.nil hS hFc hU hW⟩⟩ rfl rfl hl.1 rfl (lv_room (Nat.le_of_ble_eq_true rfl)) dX9_value_213 ⟨Nat.le_of_ble_eq_true rfl, Nat.le_of_ble_eq_true rfl⟩) hS (fun q _ h => hFc q h) hFc (fun u t H1 locs ht hvm hw_76 hB hz1 hk1 hS => ?_)
        obtain ⟨g1_77, b1_78⟩ := u
        obtain ⟨hP, hD, hK⟩ := Bq.join (wr := [(a9, .inl (cT, 400, .inl f)), (a6, .inl (cP, 248, .inr (.inl fP)))]) hB ht hvm hP hD [0] [1, 2] rfl rfl (by decide) (by decide) hk1 hFc hK
        generalize H1 = H at hP hS ⊢
        have hP : va_P (dC, dI) vwCl [(a9, .inl (cT, 400, .inl f)), (a6, .inl (cP, 248, .inr (.inl fP))), (h0, .inr (11, mo g1_77))] H := hP
        have hD : va_D A [(a9, .inl (cT, 400, .inl f)), (a6, .inl (cP, 248, .inr (.inl fP))), (h0, .inr (11, mo g1_77))] := hD
        have hK : va_K (dC, dI) vwCl [(cT, .int), (cP, .long)] s := hK
        try dsimp only at hw_76
        obtain ⟨k_79, k_80, k_81⟩ := hw_76
        have w_82 : g1_77 6 = .ref a6 := (k_81 6 (by decide) (by decide)).trans h6
        have w_83 : g1_77 9 = .ref a9 := (k_81 9 (by decide) (by decide)).trans h9
        have w_84 : g1_77 11 = .int (nI i) := (k_81 11 (by decide) (by decide)).trans h11
        have w_85 : g1_77 12 = .int (nI n) := (k_81 12 (by decide) (by decide)).trans h12
        have w_86 : g1_77 18 = .int x18 := (k_81 18 (by decide) (by decide)).trans h18
        have un_87 : ∀ j : Nat, j ≠ 11 → j ≠ 13 → j ≠ 14 → j ≠ 17 → g1_77 j = g j := fun j h11 h13 h14 h17 => (k_81 j h13 h14).trans (hun j h11 h17)
        have hP9 := hP.sub (ws' := [(h0, .inr (11, mo g1_77)), (a9, .inl (cT, 400, .inl f)), (a6, .inl (cP, 248, .inr (.inl fP)))]) [2, 0, 1] rfl
        have hD9 := hD.sub (ws' := [(h0, .inr (11, mo g1_77)), (a9, .inl (cT, 400, .inl f)), (a6, .inl (cP, 248, .inr (.inl fP)))]) [2, 0, 1] (by decide) rfl
        have hK9 := hK.sub (tys' := []) [] rfl
        exact W.vret hx hb hr (fun t ht hW => ⟨⟨(g1_77, i, b1_78, x18, fP), rfl, ⟨Or.inr ⟨fun h => h.1 (by rw [htd]; exact (nI_eq (by omega) (by omega)).mp c_19), hi3, k_79⟩, w_84, k_80, w_86, (fun j h11 h13 h14 h17 h18 => un_87 j h11 h13 h14 h17)⟩, by rw [ht]; exact hP9, va_K.moved hW.alike hK9, hD9⟩, hS.F ht⟩) hS.2.2 dX9_value_216
    · have hlt : i < n := nI_ltN (by omega) (by omega) c_18
      refine lv_aload_n hx hb dX9_value_80 rfl (lv_at hl 2 rfl) ?_
      refine va_get (D := (dC, dI)) (ci := 11) (v := .ref a9) (C := RX9) (T := TX9) (N := 60) hx hb hts iRX9 hown hK hP 0 rfl rfl 9 (by decide) (hts (.fieldLink RX9 39 "RecordBenchModel" "tape" "[I") (by decide +kernel)) (fun _ h9 => h9) ((mo_get g2 (by decide)).trans (congrArg some h9)) dX9_value_81 ?_
      refine lv_aload_n hx hb dX9_value_84 rfl (lv_at hl 2 rfl) ?_
      refine va_get (D := (dC, dI)) (ci := 11) (v := .int (nI i)) (C := RX9) (T := TX9) (N := 60) hx hb hts iRX9 hown hK hP 0 rfl rfl 11 (by decide) (hts (.fieldLink RX9 141 "RecordBenchModel" "at" "I") (by decide +kernel)) (fun _ h9 => h9) ((mo_get g2 (by decide)).trans (congrArg some h11)) dX9_value_85 ?_
      refine va_iald hx hb hK hP 1 0 rfl rfl (vp_in_nI (by omega) (by decide)) dX9_value_88 ?_
      refine W_toi (y := f i) (by rw [nI_clamp (by omega)]) ?_
      have hFc := va_free (wc := []) hD hS hA [] rfl
      refine va_calli (va_runS (As := [.int (f i)]) (rest := []) ⟨hx, hb, hml, hown, hts⟩ (c_X9_isDigit l dC dI (f i) H.size) (cwS 1 hts gp_X9_value_X9_isDigit_158 rfl rfl rfl (by decide +kernel) ⟨Nat.le_of_ble_eq_true rfl, Nat.le_of_ble_eq_true rfl⟩) ⟨Pr.blind _, fun U hU hW => ⟨rfl, Pr.at (hP.sub (ws' := []) [] rfl) (hK.sub (tys' := []) [] rfl) (hD.sub (ws' := []) [] (by decide) rfl) hN hZ RO.nil hS hFc hU hW⟩⟩ rfl rfl hl.1 rfl (lv_room (Nat.le_of_ble_eq_true rfl)) dX9_value_89 ⟨Nat.le_of_ble_eq_true rfl, Nat.le_of_ble_eq_true rfl⟩) hS (fun q _ h => hFc q h) hFc (fun r_88 u t H1 locs ht hvm hw_89 hB hz1 hk1 hS => ?_)
      obtain ⟨hP, hD, hK⟩ := Bq.join (wr := [(h0, .inr (11, mo g2)), (a9, .inl (cT, 400, .inl f)), (a6, .inl (cP, 248, .inr (.inl fP)))]) hB ht hvm hP hD [] [0, 1, 2] rfl rfl (by decide) (by decide) hk1 hFc hK
      generalize H1 = H at hP hS ⊢
      have hP : va_P (dC, dI) vwCl [(h0, .inr (11, mo g2)), (a9, .inl (cT, 400, .inl f)), (a6, .inl (cP, 248, .inr (.inl fP)))] H := hP
      have hD : va_D A [(h0, .inr (11, mo g2)), (a9, .inl (cT, 400, .inl f)), (a6, .inl (cP, 248, .inr (.inl fP)))] := hD
      have hK : va_K (dC, dI) vwCl [(cT, .int), (cP, .long)] s := hK
      try dsimp only at hw_89
      have k_90 := hw_89
      rcases k_90 with ⟨ho, rfl⟩ | ⟨ho, rfl⟩
      · refine W.eq (g2 := F0 m 92 ls [.int 1]) rfl ?_
        refine lv_if_eq (tgt := 198) hx hb dX9_value_92 (by decide) (fun c_91 => absurd c_91 (by decide)) (fun c_91 => ?_)
        refine lv_aload_n hx hb dX9_value_95 rfl (lv_at hl 2 rfl) ?_
        refine va_get (D := (dC, dI)) (ci := 11) (v := .int (nI i)) (C := RX9) (T := TX9) (N := 60) hx hb hts iRX9 hown hK hP 0 rfl rfl 11 (by decide) (hts (.fieldLink RX9 141 "RecordBenchModel" "at" "I") (by decide +kernel)) (fun _ h9 => h9) ((mo_get g2 (by decide)).trans (congrArg some h11)) dX9_value_96 ?_
        refine lv_iload hx hb dX9_value_99 (lv_at hl 7 rfl) ?_
        refine lv_isub hx hb dX9_value_101 ?_
        refine W_toi (y := nI (i - tfd f n (tsk f n j))) (pk_sub hi1) ?_
        refine lv_bipush (v := 19) hx hb dX9_value_102 (by decide) ?_
        refine lv_icmp_ne (tgt := 117) hx hb dX9_value_104 (by decide) (fun c_92 => ?_) (fun c_92 => ?_)
        · have hne : i - tfd f n (tsk f n j) ≠ 19 := fun h => c_92 (by rw [h]; rfl)
          refine lv_aload_n hx hb dX9_value_117 rfl (lv_at hl 2 rfl) ?_
          refine va_get (D := (dC, dI)) (ci := 11) (v := .ref a9) (C := RX9) (T := TX9) (N := 60) hx hb hts iRX9 hown hK hP 0 rfl rfl 9 (by decide) (hts (.fieldLink RX9 39 "RecordBenchModel" "tape" "[I") (by decide +kernel)) (fun _ h9 => h9) ((mo_get g2 (by decide)).trans (congrArg some h9)) dX9_value_118 ?_
          refine lv_aload_n hx hb dX9_value_121 rfl (lv_at hl 2 rfl) ?_
          refine va_get (D := (dC, dI)) (ci := 11) (v := .int (nI i)) (C := RX9) (T := TX9) (N := 60) hx hb hts iRX9 hown hK hP 0 rfl rfl 11 (by decide) (hts (.fieldLink RX9 141 "RecordBenchModel" "at" "I") (by decide +kernel)) (fun _ h9 => h9) ((mo_get g2 (by decide)).trans (congrArg some h11)) dX9_value_122 ?_
          refine va_iald hx hb hK hP 1 0 rfl rfl (vp_in_nI (by omega) (by decide)) dX9_value_125 ?_
          refine W_toi (y := f i) (by rw [nI_clamp (by omega)]) ?_
          refine lv_bipush (v := 48) hx hb dX9_value_126 (by decide) ?_
          refine lv_isub hx hb dX9_value_128 ?_
          refine lv_istore (lv' := [(9, .int ((f i) - 48)), (6, .long ((tvs f (tfd f n (tsk f n j)) (i - tfd f n (tsk f n j))).1)), (8, .int ((tvs f (tfd f n (tsk f n j)) (i - tfd f n (tsk f n j))).2)), (0, .ref h0), (1, .int p0), (2, .int p1), (3, .int (nI (tsk f n j))), (4, .int 0), (5, .int (nI (tfd f n (tsk f n j))))]) hx hb dX9_value_129 hl (by decide) rfl (fun ls hl => ?_)
          refine lv_iload hx hb dX9_value_131 (lv_at hl 2 rfl) ?_
          refine lv_if_ne (tgt := 161) hx hb dX9_value_133 (by decide) (fun c_93 => ?_) (fun c_93 => ?_)
          · refine lv_iconst (v := 1) hx hb dX9_value_161 (by decide) ?_
            refine lv_goto (tgt := 166) hx hb dX9_value_162 (by decide) ?_
            refine lv_istore (lv' := [(8, .int 1), (9, .int ((f i) - 48)), (6, .long ((tvs f (tfd f n (tsk f n j)) (i - tfd f n (tsk f n j))).1)), (0, .ref h0), (1, .int p0), (2, .int p1), (3, .int (nI (tsk f n j))), (4, .int 0), (5, .int (nI (tfd f n (tsk f n j))))]) hx hb dX9_value_166 hl (by decide) rfl (fun ls hl => ?_)
            refine lv_iload hx hb dX9_value_168 (lv_at hl 0 rfl) ?_
            refine lv_if_ne (tgt := 185) hx hb dX9_value_170 (by decide) (fun c_94 => ?_) (fun c_94 => absurd c_94 (by decide))
            refine lv_aload_n hx hb dX9_value_185 rfl (lv_at hl 3 rfl) ?_
            refine lv_dup hx hb dX9_value_186 rfl ?_
            refine va_get (D := (dC, dI)) (ci := 11) (v := .int (nI i)) (C := RX9) (T := TX9) (N := 60) hx hb hts iRX9 hown hK hP 0 rfl rfl 11 (by decide) (hts (.fieldLink RX9 141 "RecordBenchModel" "at" "I") (by decide +kernel)) (fun _ h9 => h9) ((mo_get g2 (by decide)).trans (congrArg some h11)) dX9_value_187 ?_
            refine lv_iconst (v := 1) hx hb dX9_value_190 (by decide) ?_
            refine lv_iadd hx hb dX9_value_191 ?_
            refine W_toi (y := nI (i + 1)) (nI_1 i) ?_
            refine va_put (D := (dC, dI)) (ci := 11) (v := .int (nI (i + 1))) (ty := .int) (C := RX9) (T := TX9) (N := 60) hx hb hts iRX9 tyX9 tyX9_ok nmX9 hown hK hP hD hS 0 rfl rfl 11 (by decide) (hts (.fieldLink RX9 141 "RecordBenchModel" "at" "I") (by decide +kernel)) (fun _ h9 => h9) rfl (by decide +kernel) rfl rfl (by rw [mo_len]; decide) dX9_value_192 (fun H locs hP hD hS => ?_)
            obtain ⟨g_95, eg_95⟩ : ∃ y, y = va_up g2 11 (.int (nI (i + 1))) := ⟨_, rfl⟩
            have hP : va_P (dC, dI) vwCl [(h0, .inr (11, mo g_95)), (a9, .inl (cT, 400, .inl f)), (a6, .inl (cP, 248, .inr (.inl fP)))] H := by rw [eg_95, ← mo_set g2 (by decide)]; exact hP
            have hD : va_D A [(h0, .inr (11, mo g_95)), (a9, .inl (cT, 400, .inl f)), (a6, .inl (cP, 248, .inr (.inl fP)))] := by rw [eg_95, ← mo_set g2 (by decide)]; exact hD
            have g_95h6 : g_95 6 = .ref a6 := by rw [eg_95, va_up_ne _ _ (by decide)]; exact h6
            have g_95h9 : g_95 9 = .ref a9 := by rw [eg_95, va_up_ne _ _ (by decide)]; exact h9
            have g_95h12 : g_95 12 = .int (nI n) := by rw [eg_95, va_up_ne _ _ (by decide)]; exact h12
            have g_95h13 : g_95 13 = .int b0 := by rw [eg_95, va_up_ne _ _ (by decide)]; exact h13
            have g_95h14 : g_95 14 = v14 := by rw [eg_95, va_up_ne _ _ (by decide)]; exact h14
            have g_95h18 : g_95 18 = .int x18 := by rw [eg_95, va_up_ne _ _ (by decide)]; exact h18
            have g_95h11 : g_95 11 = .int (nI (i + 1)) := by rw [eg_95, va_up_self]
            have ung_95 : ∀ j : Nat, j ≠ 11 → j ≠ 17 → g_95 j = g j := fun j h11 h17 => by rw [eg_95, va_up_ne _ _ h11]; exact hun j h11 h17
            refine lv_goto (tgt := 69) hx hb dX9_value_195 (by decide) ?_
            exact ih ((i + 1), g_95) (by show n - (i + 1) < n - i; omega) ⟨(by omega), (by omega), (by omega), ((tde_go hlt ho).symm.trans hde), g_95h6, g_95h9, g_95h11, g_95h12, g_95h13, g_95h14, g_95h18, (fun k h1 h2 => ung_95 k h1 h2)⟩ _ _ _ (hP.sub (ws' := [(h0, .inr (11, mo g_95)), (a9, .inl (cT, 400, .inl f)), (a6, .inl (cP, 248, .inr (.inl fP)))]) [0, 1, 2] rfl) (hD.sub (ws' := [(h0, .inr (11, mo g_95)), (a9, .inl (cT, 400, .inl f)), (a6, .inl (cP, 248, .inr (.inl fP)))]) [0, 1, 2] (by decide) rfl) hS (by show lv_has _ _ [(6, .long ((tvs f (tfd f n (tsk f n j)) (i + 1 - tfd f n (tsk f n j))).1)), (8, .int ((tvs f (tfd f n (tsk f n j)) (i + 1 - tfd f n (tsk f n j))).2)), (0, .ref h0), (1, .int p0), (2, .int p1), (3, .int (nI (tsk f n j))), (4, .int 0), (5, .int (nI (tfd f n (tsk f n j))))]; rw [tvs_step hi1, stp, if_pos (Or.inl c_93)]; exact lv_sub hl [2, 0, 3, 4, 5, 6, 7, 8] rfl)
          · refine lv_lload hx hb dX9_value_136 (lv_at hl 1 rfl) ?_
            refine lv_ldc2 hx hb hown (hts (.constantLong RX9 223 (-922337203685477580)) (by decide +kernel)) dX9_value_138 ?_
            refine W.lcmp hx hb dX9_value_141 ?_
            refine lv_if_lt (tgt := 161) hx hb dX9_value_142 (by decide) (fun c_96 => ?_) (fun c_96 => ?_)
            · refine lv_iconst (v := 1) hx hb dX9_value_161 (by decide) ?_
              refine lv_goto (tgt := 166) hx hb dX9_value_162 (by decide) ?_
              refine lv_istore (lv' := [(8, .int 1), (9, .int ((f i) - 48)), (6, .long ((tvs f (tfd f n (tsk f n j)) (i - tfd f n (tsk f n j))).1)), (0, .ref h0), (1, .int p0), (2, .int p1), (3, .int (nI (tsk f n j))), (4, .int 0), (5, .int (nI (tfd f n (tsk f n j))))]) hx hb dX9_value_166 hl (by decide) rfl (fun ls hl => ?_)
              refine lv_iload hx hb dX9_value_168 (lv_at hl 0 rfl) ?_
              refine lv_if_ne (tgt := 185) hx hb dX9_value_170 (by decide) (fun c_97 => ?_) (fun c_97 => absurd c_97 (by decide))
              refine lv_aload_n hx hb dX9_value_185 rfl (lv_at hl 3 rfl) ?_
              refine lv_dup hx hb dX9_value_186 rfl ?_
              refine va_get (D := (dC, dI)) (ci := 11) (v := .int (nI i)) (C := RX9) (T := TX9) (N := 60) hx hb hts iRX9 hown hK hP 0 rfl rfl 11 (by decide) (hts (.fieldLink RX9 141 "RecordBenchModel" "at" "I") (by decide +kernel)) (fun _ h9 => h9) ((mo_get g2 (by decide)).trans (congrArg some h11)) dX9_value_187 ?_
              refine lv_iconst (v := 1) hx hb dX9_value_190 (by decide) ?_
              refine lv_iadd hx hb dX9_value_191 ?_
              refine W_toi (y := nI (i + 1)) (nI_1 i) ?_
              refine va_put (D := (dC, dI)) (ci := 11) (v := .int (nI (i + 1))) (ty := .int) (C := RX9) (T := TX9) (N := 60) hx hb hts iRX9 tyX9 tyX9_ok nmX9 hown hK hP hD hS 0 rfl rfl 11 (by decide) (hts (.fieldLink RX9 141 "RecordBenchModel" "at" "I") (by decide +kernel)) (fun _ h9 => h9) rfl (by decide +kernel) rfl rfl (by rw [mo_len]; decide) dX9_value_192 (fun H locs hP hD hS => ?_)
              obtain ⟨g_98, eg_98⟩ : ∃ y, y = va_up g2 11 (.int (nI (i + 1))) := ⟨_, rfl⟩
              have hP : va_P (dC, dI) vwCl [(h0, .inr (11, mo g_98)), (a9, .inl (cT, 400, .inl f)), (a6, .inl (cP, 248, .inr (.inl fP)))] H := by rw [eg_98, ← mo_set g2 (by decide)]; exact hP
              have hD : va_D A [(h0, .inr (11, mo g_98)), (a9, .inl (cT, 400, .inl f)), (a6, .inl (cP, 248, .inr (.inl fP)))] := by rw [eg_98, ← mo_set g2 (by decide)]; exact hD
              have g_98h6 : g_98 6 = .ref a6 := by rw [eg_98, va_up_ne _ _ (by decide)]; exact h6
              have g_98h9 : g_98 9 = .ref a9 := by rw [eg_98, va_up_ne _ _ (by decide)]; exact h9
              have g_98h12 : g_98 12 = .int (nI n) := by rw [eg_98, va_up_ne _ _ (by decide)]; exact h12
              have g_98h13 : g_98 13 = .int b0 := by rw [eg_98, va_up_ne _ _ (by decide)]; exact h13
              have g_98h14 : g_98 14 = v14 := by rw [eg_98, va_up_ne _ _ (by decide)]; exact h14
              have g_98h18 : g_98 18 = .int x18 := by rw [eg_98, va_up_ne _ _ (by decide)]; exact h18
              have g_98h11 : g_98 11 = .int (nI (i + 1)) := by rw [eg_98, va_up_self]
              have ung_98 : ∀ j : Nat, j ≠ 11 → j ≠ 17 → g_98 j = g j := fun j h11 h17 => by rw [eg_98, va_up_ne _ _ h11]; exact hun j h11 h17
              refine lv_goto (tgt := 69) hx hb dX9_value_195 (by decide) ?_
              exact ih ((i + 1), g_98) (by show n - (i + 1) < n - i; omega) ⟨(by omega), (by omega), (by omega), ((tde_go hlt ho).symm.trans hde), g_98h6, g_98h9, g_98h11, g_98h12, g_98h13, g_98h14, g_98h18, (fun k h1 h2 => ung_98 k h1 h2)⟩ _ _ _ (hP.sub (ws' := [(h0, .inr (11, mo g_98)), (a9, .inl (cT, 400, .inl f)), (a6, .inl (cP, 248, .inr (.inl fP)))]) [0, 1, 2] rfl) (hD.sub (ws' := [(h0, .inr (11, mo g_98)), (a9, .inl (cT, 400, .inl f)), (a6, .inl (cP, 248, .inr (.inl fP)))]) [0, 1, 2] (by decide) rfl) hS (by show lv_has _ _ [(6, .long ((tvs f (tfd f n (tsk f n j)) (i + 1 - tfd f n (tsk f n j))).1)), (8, .int ((tvs f (tfd f n (tsk f n j)) (i + 1 - tfd f n (tsk f n j))).2)), (0, .ref h0), (1, .int p0), (2, .int p1), (3, .int (nI (tsk f n j))), (4, .int 0), (5, .int (nI (tfd f n (tsk f n j))))]; rw [tvs_step hi1, stp, if_pos (Or.inr (Or.inl ((lg_cmp_lt _ _).mp c_96)))]; exact lv_sub hl [2, 0, 3, 4, 5, 6, 7, 8] rfl)
            · refine lv_lload hx hb dX9_value_145 (lv_at hl 1 rfl) ?_
              refine lv_ldc2 hx hb hown (hts (.constantLong RX9 223 (-922337203685477580)) (by decide +kernel)) dX9_value_147 ?_
              refine W.lcmp hx hb dX9_value_150 ?_
              refine lv_if_ne (tgt := 165) hx hb dX9_value_151 (by decide) (fun c_99 => ?_) (fun c_99 => ?_)
              · refine lv_iconst (v := 0) hx hb dX9_value_165 (by decide) ?_
                refine lv_istore (lv' := [(8, .int 0), (9, .int ((f i) - 48)), (6, .long ((tvs f (tfd f n (tsk f n j)) (i - tfd f n (tsk f n j))).1)), (0, .ref h0), (1, .int p0), (2, .int p1), (3, .int (nI (tsk f n j))), (4, .int 0), (5, .int (nI (tfd f n (tsk f n j))))]) hx hb dX9_value_166 hl (by decide) rfl (fun ls hl => ?_)
                refine lv_iload hx hb dX9_value_168 (lv_at hl 0 rfl) ?_
                refine lv_if_ne (tgt := 185) hx hb dX9_value_170 (by decide) (fun c_100 => absurd (by decide) c_100) (fun c_100 => ?_)
                refine lv_ldc2 hx hb hown (hts (.constantLong RX9 225 (10)) (by decide +kernel)) dX9_value_173 ?_
                refine lv_lload hx hb dX9_value_176 (lv_at hl 2 rfl) ?_
                refine lv_lmul hx hb dX9_value_178 ?_
                refine lv_iload hx hb dX9_value_179 (lv_at hl 1 rfl) ?_
                refine lv_i2l (v := ((f i) - 48).toInt64) hx hb dX9_value_181 rfl ?_
                refine lv_lsub hx hb dX9_value_182 ?_
                refine lv_lstore (lv' := [(6, .long ((10 * ((tvs f (tfd f n (tsk f n j)) (i - tfd f n (tsk f n j))).1)) - (((f i) - 48).toInt64))), (8, .int 0), (9, .int ((f i) - 48)), (0, .ref h0), (1, .int p0), (2, .int p1), (3, .int (nI (tsk f n j))), (4, .int 0), (5, .int (nI (tfd f n (tsk f n j))))]) hx hb dX9_value_183 hl (by decide) rfl (fun ls hl => ?_)
                refine lv_aload_n hx hb dX9_value_185 rfl (lv_at hl 3 rfl) ?_
                refine lv_dup hx hb dX9_value_186 rfl ?_
                refine va_get (D := (dC, dI)) (ci := 11) (v := .int (nI i)) (C := RX9) (T := TX9) (N := 60) hx hb hts iRX9 hown hK hP 0 rfl rfl 11 (by decide) (hts (.fieldLink RX9 141 "RecordBenchModel" "at" "I") (by decide +kernel)) (fun _ h9 => h9) ((mo_get g2 (by decide)).trans (congrArg some h11)) dX9_value_187 ?_
                refine lv_iconst (v := 1) hx hb dX9_value_190 (by decide) ?_
                refine lv_iadd hx hb dX9_value_191 ?_
                refine W_toi (y := nI (i + 1)) (nI_1 i) ?_
                refine va_put (D := (dC, dI)) (ci := 11) (v := .int (nI (i + 1))) (ty := .int) (C := RX9) (T := TX9) (N := 60) hx hb hts iRX9 tyX9 tyX9_ok nmX9 hown hK hP hD hS 0 rfl rfl 11 (by decide) (hts (.fieldLink RX9 141 "RecordBenchModel" "at" "I") (by decide +kernel)) (fun _ h9 => h9) rfl (by decide +kernel) rfl rfl (by rw [mo_len]; decide) dX9_value_192 (fun H locs hP hD hS => ?_)
                obtain ⟨g_102, eg_102⟩ : ∃ y, y = va_up g2 11 (.int (nI (i + 1))) := ⟨_, rfl⟩
                have hP : va_P (dC, dI) vwCl [(h0, .inr (11, mo g_102)), (a9, .inl (cT, 400, .inl f)), (a6, .inl (cP, 248, .inr (.inl fP)))] H := by rw [eg_102, ← mo_set g2 (by decide)]; exact hP
                have hD : va_D A [(h0, .inr (11, mo g_102)), (a9, .inl (cT, 400, .inl f)), (a6, .inl (cP, 248, .inr (.inl fP)))] := by rw [eg_102, ← mo_set g2 (by decide)]; exact hD
                have g_102h6 : g_102 6 = .ref a6 := by rw [eg_102, va_up_ne _ _ (by decide)]; exact h6
                have g_102h9 : g_102 9 = .ref a9 := by rw [eg_102, va_up_ne _ _ (by decide)]; exact h9
                have g_102h12 : g_102 12 = .int (nI n) := by rw [eg_102, va_up_ne _ _ (by decide)]; exact h12
                have g_102h13 : g_102 13 = .int b0 := by rw [eg_102, va_up_ne _ _ (by decide)]; exact h13
                have g_102h14 : g_102 14 = v14 := by rw [eg_102, va_up_ne _ _ (by decide)]; exact h14
                have g_102h18 : g_102 18 = .int x18 := by rw [eg_102, va_up_ne _ _ (by decide)]; exact h18
                have g_102h11 : g_102 11 = .int (nI (i + 1)) := by rw [eg_102, va_up_self]
                have ung_102 : ∀ j : Nat, j ≠ 11 → j ≠ 17 → g_102 j = g j := fun j h11 h17 => by rw [eg_102, va_up_ne _ _ h11]; exact hun j h11 h17
                refine lv_goto (tgt := 69) hx hb dX9_value_195 (by decide) ?_
                exact ih ((i + 1), g_102) (by show n - (i + 1) < n - i; omega) ⟨(by omega), (by omega), (by omega), ((tde_go hlt ho).symm.trans hde), g_102h6, g_102h9, g_102h11, g_102h12, g_102h13, g_102h14, g_102h18, (fun k h1 h2 => ung_102 k h1 h2)⟩ _ _ _ (hP.sub (ws' := [(h0, .inr (11, mo g_102)), (a9, .inl (cT, 400, .inl f)), (a6, .inl (cP, 248, .inr (.inl fP)))]) [0, 1, 2] rfl) (hD.sub (ws' := [(h0, .inr (11, mo g_102)), (a9, .inl (cT, 400, .inl f)), (a6, .inl (cP, 248, .inr (.inl fP)))]) [0, 1, 2] (by decide) rfl) hS (by show lv_has _ _ [(6, .long ((tvs f (tfd f n (tsk f n j)) (i + 1 - tfd f n (tsk f n j))).1)), (8, .int ((tvs f (tfd f n (tsk f n j)) (i + 1 - tfd f n (tsk f n j))).2)), (0, .ref h0), (1, .int p0), (2, .int p1), (3, .int (nI (tsk f n j))), (4, .int 0), (5, .int (nI (tfd f n (tsk f n j))))]; rw [tvs_step hi1, stp, if_neg (fun h => h.elim (fun h0 => h0 c_93) (fun h1 => h1.elim (fun h2 => c_96 ((lg_cmp_lt _ _).mpr h2)) (fun h => c_99 ((lg_cmp_eq _ _).mpr h.1))))]; exact lv_sub hl [0, 1, 3, 4, 5, 6, 7, 8] rfl)
              · refine lv_iload hx hb dX9_value_154 (lv_at hl 0 rfl) ?_
                refine lv_bipush (v := 8) hx hb dX9_value_156 (by decide) ?_
                refine lv_icmp_le (tgt := 165) hx hb dX9_value_158 (by decide) (fun c_103 => ?_) (fun c_103 => ?_)
                · refine lv_iconst (v := 0) hx hb dX9_value_165 (by decide) ?_
                  refine lv_istore (lv' := [(8, .int 0), (9, .int ((f i) - 48)), (6, .long ((tvs f (tfd f n (tsk f n j)) (i - tfd f n (tsk f n j))).1)), (0, .ref h0), (1, .int p0), (2, .int p1), (3, .int (nI (tsk f n j))), (4, .int 0), (5, .int (nI (tfd f n (tsk f n j))))]) hx hb dX9_value_166 hl (by decide) rfl (fun ls hl => ?_)
                  refine lv_iload hx hb dX9_value_168 (lv_at hl 0 rfl) ?_
                  refine lv_if_ne (tgt := 185) hx hb dX9_value_170 (by decide) (fun c_104 => absurd (by decide) c_104) (fun c_104 => ?_)
                  refine lv_ldc2 hx hb hown (hts (.constantLong RX9 225 (10)) (by decide +kernel)) dX9_value_173 ?_
                  refine lv_lload hx hb dX9_value_176 (lv_at hl 2 rfl) ?_
                  refine lv_lmul hx hb dX9_value_178 ?_
                  refine lv_iload hx hb dX9_value_179 (lv_at hl 1 rfl) ?_
                  refine lv_i2l (v := ((f i) - 48).toInt64) hx hb dX9_value_181 rfl ?_
                  refine lv_lsub hx hb dX9_value_182 ?_
                  refine lv_lstore (lv' := [(6, .long ((10 * ((tvs f (tfd f n (tsk f n j)) (i - tfd f n (tsk f n j))).1)) - (((f i) - 48).toInt64))), (8, .int 0), (9, .int ((f i) - 48)), (0, .ref h0), (1, .int p0), (2, .int p1), (3, .int (nI (tsk f n j))), (4, .int 0), (5, .int (nI (tfd f n (tsk f n j))))]) hx hb dX9_value_183 hl (by decide) rfl (fun ls hl => ?_)
                  refine lv_aload_n hx hb dX9_value_185 rfl (lv_at hl 3 rfl) ?_
                  refine lv_dup hx hb dX9_value_186 rfl ?_
                  refine va_get (D := (dC, dI)) (ci := 11) (v := .int (nI i)) (C := RX9) (T := TX9) (N := 60) hx hb hts iRX9 hown hK hP 0 rfl rfl 11 (by decide) (hts (.fieldLink RX9 141 "RecordBenchModel" "at" "I") (by decide +kernel)) (fun _ h9 => h9) ((mo_get g2 (by decide)).trans (congrArg some h11)) dX9_value_187 ?_
                  refine lv_iconst (v := 1) hx hb dX9_value_190 (by decide) ?_
                  refine lv_iadd hx hb dX9_value_191 ?_
                  refine W_toi (y := nI (i + 1)) (nI_1 i) ?_
                  refine va_put (D := (dC, dI)) (ci := 11) (v := .int (nI (i + 1))) (ty := .int) (C := RX9) (T := TX9) (N := 60) hx hb hts iRX9 tyX9 tyX9_ok nmX9 hown hK hP hD hS 0 rfl rfl 11 (by decide) (hts (.fieldLink RX9 141 "RecordBenchModel" "at" "I") (by decide +kernel)) (fun _ h9 => h9) rfl (by decide +kernel) rfl rfl (by rw [mo_len]; decide) dX9_value_192 (fun H locs hP hD hS => ?_)
                  obtain ⟨g_106, eg_106⟩ : ∃ y, y = va_up g2 11 (.int (nI (i + 1))) := ⟨_, rfl⟩
                  have hP : va_P (dC, dI) vwCl [(h0, .inr (11, mo g_106)), (a9, .inl (cT, 400, .inl f)), (a6, .inl (cP, 248, .inr (.inl fP)))] H := by rw [eg_106, ← mo_set g2 (by decide)]; exact hP
                  have hD : va_D A [(h0, .inr (11, mo g_106)), (a9, .inl (cT, 400, .inl f)), (a6, .inl (cP, 248, .inr (.inl fP)))] := by rw [eg_106, ← mo_set g2 (by decide)]; exact hD
                  have g_106h6 : g_106 6 = .ref a6 := by rw [eg_106, va_up_ne _ _ (by decide)]; exact h6
                  have g_106h9 : g_106 9 = .ref a9 := by rw [eg_106, va_up_ne _ _ (by decide)]; exact h9
                  have g_106h12 : g_106 12 = .int (nI n) := by rw [eg_106, va_up_ne _ _ (by decide)]; exact h12
                  have g_106h13 : g_106 13 = .int b0 := by rw [eg_106, va_up_ne _ _ (by decide)]; exact h13
                  have g_106h14 : g_106 14 = v14 := by rw [eg_106, va_up_ne _ _ (by decide)]; exact h14
                  have g_106h18 : g_106 18 = .int x18 := by rw [eg_106, va_up_ne _ _ (by decide)]; exact h18
                  have g_106h11 : g_106 11 = .int (nI (i + 1)) := by rw [eg_106, va_up_self]
                  have ung_106 : ∀ j : Nat, j ≠ 11 → j ≠ 17 → g_106 j = g j := fun j h11 h17 => by rw [eg_106, va_up_ne _ _ h11]; exact hun j h11 h17
                  refine lv_goto (tgt := 69) hx hb dX9_value_195 (by decide) ?_
                  exact ih ((i + 1), g_106) (by show n - (i + 1) < n - i; omega) ⟨(by omega), (by omega), (by omega), ((tde_go hlt ho).symm.trans hde), g_106h6, g_106h9, g_106h11, g_106h12, g_106h13, g_106h14, g_106h18, (fun k h1 h2 => ung_106 k h1 h2)⟩ _ _ _ (hP.sub (ws' := [(h0, .inr (11, mo g_106)), (a9, .inl (cT, 400, .inl f)), (a6, .inl (cP, 248, .inr (.inl fP)))]) [0, 1, 2] rfl) (hD.sub (ws' := [(h0, .inr (11, mo g_106)), (a9, .inl (cT, 400, .inl f)), (a6, .inl (cP, 248, .inr (.inl fP)))]) [0, 1, 2] (by decide) rfl) hS (by show lv_has _ _ [(6, .long ((tvs f (tfd f n (tsk f n j)) (i + 1 - tfd f n (tsk f n j))).1)), (8, .int ((tvs f (tfd f n (tsk f n j)) (i + 1 - tfd f n (tsk f n j))).2)), (0, .ref h0), (1, .int p0), (2, .int p1), (3, .int (nI (tsk f n j))), (4, .int 0), (5, .int (nI (tfd f n (tsk f n j))))]; rw [tvs_step hi1, stp, if_neg (fun h => h.elim (fun h0 => h0 c_93) (fun h1 => h1.elim (fun h2 => c_96 ((lg_cmp_lt _ _).mpr h2)) (fun h => absurd h.2 (Int32.not_lt.mpr c_103))))]; exact lv_sub hl [0, 1, 3, 4, 5, 6, 7, 8] rfl)
                · refine lv_iconst (v := 1) hx hb dX9_value_161 (by decide) ?_
                  refine lv_goto (tgt := 166) hx hb dX9_value_162 (by decide) ?_
                  refine lv_istore (lv' := [(8, .int 1), (9, .int ((f i) - 48)), (6, .long ((tvs f (tfd f n (tsk f n j)) (i - tfd f n (tsk f n j))).1)), (0, .ref h0), (1, .int p0), (2, .int p1), (3, .int (nI (tsk f n j))), (4, .int 0), (5, .int (nI (tfd f n (tsk f n j))))]) hx hb dX9_value_166 hl (by decide) rfl (fun ls hl => ?_)
                  refine lv_iload hx hb dX9_value_168 (lv_at hl 0 rfl) ?_
                  refine lv_if_ne (tgt := 185) hx hb dX9_value_170 (by decide) (fun c_107 => ?_) (fun c_107 => absurd c_107 (by decide))
                  refine lv_aload_n hx hb dX9_value_185 rfl (lv_at hl 3 rfl) ?_
                  refine lv_dup hx hb dX9_value_186 rfl ?_
                  refine va_get (D := (dC, dI)) (ci := 11) (v := .int (nI i)) (C := RX9) (T := TX9) (N := 60) hx hb hts iRX9 hown hK hP 0 rfl rfl 11 (by decide) (hts (.fieldLink RX9 141 "RecordBenchModel" "at" "I") (by decide +kernel)) (fun _ h9 => h9) ((mo_get g2 (by decide)).trans (congrArg some h11)) dX9_value_187 ?_
                  refine lv_iconst (v := 1) hx hb dX9_value_190 (by decide) ?_
                  refine lv_iadd hx hb dX9_value_191 ?_
                  refine W_toi (y := nI (i + 1)) (nI_1 i) ?_
                  refine va_put (D := (dC, dI)) (ci := 11) (v := .int (nI (i + 1))) (ty := .int) (C := RX9) (T := TX9) (N := 60) hx hb hts iRX9 tyX9 tyX9_ok nmX9 hown hK hP hD hS 0 rfl rfl 11 (by decide) (hts (.fieldLink RX9 141 "RecordBenchModel" "at" "I") (by decide +kernel)) (fun _ h9 => h9) rfl (by decide +kernel) rfl rfl (by rw [mo_len]; decide) dX9_value_192 (fun H locs hP hD hS => ?_)
                  obtain ⟨g_108, eg_108⟩ : ∃ y, y = va_up g2 11 (.int (nI (i + 1))) := ⟨_, rfl⟩
                  have hP : va_P (dC, dI) vwCl [(h0, .inr (11, mo g_108)), (a9, .inl (cT, 400, .inl f)), (a6, .inl (cP, 248, .inr (.inl fP)))] H := by rw [eg_108, ← mo_set g2 (by decide)]; exact hP
                  have hD : va_D A [(h0, .inr (11, mo g_108)), (a9, .inl (cT, 400, .inl f)), (a6, .inl (cP, 248, .inr (.inl fP)))] := by rw [eg_108, ← mo_set g2 (by decide)]; exact hD
                  have g_108h6 : g_108 6 = .ref a6 := by rw [eg_108, va_up_ne _ _ (by decide)]; exact h6
                  have g_108h9 : g_108 9 = .ref a9 := by rw [eg_108, va_up_ne _ _ (by decide)]; exact h9
                  have g_108h12 : g_108 12 = .int (nI n) := by rw [eg_108, va_up_ne _ _ (by decide)]; exact h12
                  have g_108h13 : g_108 13 = .int b0 := by rw [eg_108, va_up_ne _ _ (by decide)]; exact h13
                  have g_108h14 : g_108 14 = v14 := by rw [eg_108, va_up_ne _ _ (by decide)]; exact h14
                  have g_108h18 : g_108 18 = .int x18 := by rw [eg_108, va_up_ne _ _ (by decide)]; exact h18
                  have g_108h11 : g_108 11 = .int (nI (i + 1)) := by rw [eg_108, va_up_self]
                  have ung_108 : ∀ j : Nat, j ≠ 11 → j ≠ 17 → g_108 j = g j := fun j h11 h17 => by rw [eg_108, va_up_ne _ _ h11]; exact hun j h11 h17
                  refine lv_goto (tgt := 69) hx hb dX9_value_195 (by decide) ?_
                  exact ih ((i + 1), g_108) (by show n - (i + 1) < n - i; omega) ⟨(by omega), (by omega), (by omega), ((tde_go hlt ho).symm.trans hde), g_108h6, g_108h9, g_108h11, g_108h12, g_108h13, g_108h14, g_108h18, (fun k h1 h2 => ung_108 k h1 h2)⟩ _ _ _ (hP.sub (ws' := [(h0, .inr (11, mo g_108)), (a9, .inl (cT, 400, .inl f)), (a6, .inl (cP, 248, .inr (.inl fP)))]) [0, 1, 2] rfl) (hD.sub (ws' := [(h0, .inr (11, mo g_108)), (a9, .inl (cT, 400, .inl f)), (a6, .inl (cP, 248, .inr (.inl fP)))]) [0, 1, 2] (by decide) rfl) hS (by show lv_has _ _ [(6, .long ((tvs f (tfd f n (tsk f n j)) (i + 1 - tfd f n (tsk f n j))).1)), (8, .int ((tvs f (tfd f n (tsk f n j)) (i + 1 - tfd f n (tsk f n j))).2)), (0, .ref h0), (1, .int p0), (2, .int p1), (3, .int (nI (tsk f n j))), (4, .int 0), (5, .int (nI (tfd f n (tsk f n j))))]; rw [tvs_step hi1, stp, if_pos (Or.inr (Or.inr ⟨(lg_cmp_eq _ _).mp c_99, Int32.not_le.mp c_103⟩))]; exact lv_sub hl [2, 0, 3, 4, 5, 6, 7, 8] rfl)
        · refine lv_aload_n hx hb dX9_value_107 rfl (lv_at hl 2 rfl) ?_
          refine lv_iconst (v := 1) hx hb dX9_value_108 (by decide) ?_
          refine lv_aload_n hx hb dX9_value_109 rfl (lv_at hl 2 rfl) ?_
          refine va_get (D := (dC, dI)) (ci := 11) (v := .int (nI i)) (C := RX9) (T := TX9) (N := 60) hx hb hts iRX9 hown hK hP 0 rfl rfl 11 (by decide) (hts (.fieldLink RX9 141 "RecordBenchModel" "at" "I") (by decide +kernel)) (fun _ h9 => h9) ((mo_get g2 (by decide)).trans (congrArg some h11)) dX9_value_110 ?_
          have hFc := va_free (wc := [(h0, .inr (11, mo g2))]) hD hS hA [0] rfl
          refine va_callv (va_runV (As := [.int 1, .int (nI i)]) (rest := []) ⟨hx, hb, hml, hown, hts⟩ (c_X9_fail l dC dI h0 g2 b0 (v14) h13 h14 1 (nI i) (by decide) H.size) (cwV 2 hts gp_X9_value_X9_fail_154 rfl rfl rfl (by decide +kernel) ⟨Nat.le_of_ble_eq_true rfl, Nat.le_of_ble_eq_true rfl⟩) ⟨Pr.blind _, va_recv hK hP (ci := 11) (q0 := 0) rfl rfl, fun U hU hW => ⟨rfl, Pr.at (hP.sub (ws' := [(h0, .inr (11, mo g2))]) [0] rfl) (hK.sub (tys' := []) [] rfl) (hD.sub (ws' := [(h0, .inr (11, mo g2))]) [0] (by decide) rfl) hN hZ RO.nil hS hFc hU hW⟩⟩ rfl rfl hl.1 rfl (lv_room (Nat.le_of_ble_eq_true rfl)) dX9_value_113 ⟨Nat.le_of_ble_eq_true rfl, Nat.le_of_ble_eq_true rfl⟩) hS (fun q _ h => hFc q h) hFc (fun u t H1 locs ht hvm hw_110 hB hz1 hk1 hS => ?_)
          obtain ⟨g1_111, b1_112⟩ := u
          obtain ⟨hP, hD, hK⟩ := Bq.join (wr := [(a9, .inl (cT, 400, .inl f)), (a6, .inl (cP, 248, .inr (.inl fP)))]) hB ht hvm hP hD [0] [1, 2] rfl rfl (by decide) (by decide) hk1 hFc hK
          generalize H1 = H at hP hS ⊢
          have hP : va_P (dC, dI) vwCl [(a9, .inl (cT, 400, .inl f)), (a6, .inl (cP, 248, .inr (.inl fP))), (h0, .inr (11, mo g1_111))] H := hP
          have hD : va_D A [(a9, .inl (cT, 400, .inl f)), (a6, .inl (cP, 248, .inr (.inl fP))), (h0, .inr (11, mo g1_111))] := hD
          have hK : va_K (dC, dI) vwCl [(cT, .int), (cP, .long)] s := hK
          try dsimp only at hw_110
          obtain ⟨k_113, k_114, k_115⟩ := hw_110
          have w_116 : g1_111 6 = .ref a6 := (k_115 6 (by decide) (by decide)).trans h6
          have w_117 : g1_111 9 = .ref a9 := (k_115 9 (by decide) (by decide)).trans h9
          have w_118 : g1_111 11 = .int (nI i) := (k_115 11 (by decide) (by decide)).trans h11
          have w_119 : g1_111 12 = .int (nI n) := (k_115 12 (by decide) (by decide)).trans h12
          have w_120 : g1_111 18 = .int x18 := (k_115 18 (by decide) (by decide)).trans h18
          have un_121 : ∀ j : Nat, j ≠ 11 → j ≠ 13 → j ≠ 14 → j ≠ 17 → g1_111 j = g j := fun j h11 h13 h14 h17 => (k_115 j h13 h14).trans (hun j h11 h17)
          have hP9 := hP.sub (ws' := [(h0, .inr (11, mo g1_111)), (a9, .inl (cT, 400, .inl f)), (a6, .inl (cP, 248, .inr (.inl fP)))]) [2, 0, 1] rfl
          have hD9 := hD.sub (ws' := [(h0, .inr (11, mo g1_111)), (a9, .inl (cT, 400, .inl f)), (a6, .inl (cP, 248, .inr (.inl fP)))]) [2, 0, 1] (by decide) rfl
          have hK9 := hK.sub (tys' := []) [] rfl
          exact W.vret hx hb hr (fun t ht hW => ⟨⟨(g1_111, i, b1_112, x18, fP), rfl, ⟨Or.inr ⟨fun h => absurd h.2.1 (by have e2 : i - tfd f n (tsk f n j) = 19 := (nI_eq (b := 19) (by omega) (by decide)).mp c_92; rw [← hde, tde_go hlt ho]; have := tde_ge f n (i + 1); omega), hi3, k_113⟩, w_118, k_114, w_120, (fun j h11 h13 h14 h17 h18 => un_121 j h11 h13 h14 h17)⟩, by rw [ht]; exact hP9, va_K.moved hW.alike hK9, hD9⟩, hS.F ht⟩) hS.2.2 dX9_value_116
      · refine W.eq (g2 := F0 m 92 ls [.int 0]) rfl ?_
        refine lv_if_eq (tgt := 198) hx hb dX9_value_92 (by decide) (fun c_122 => ?_) (fun c_122 => absurd (by decide) c_122)
        have htd : tde f n (tfd f n (tsk f n j)) = i := hde.symm.trans (tde_no (fun h => ho h.2))
        refine lv_aload_n hx hb dX9_value_198 rfl (lv_at hl 2 rfl) ?_
        refine va_get (D := (dC, dI)) (ci := 11) (v := .int (nI i)) (C := RX9) (T := TX9) (N := 60) hx hb hts iRX9 hown hK hP 0 rfl rfl 11 (by decide) (hts (.fieldLink RX9 141 "RecordBenchModel" "at" "I") (by decide +kernel)) (fun _ h9 => h9) ((mo_get g2 (by decide)).trans (congrArg some h11)) dX9_value_199 ?_
        refine lv_iload hx hb dX9_value_202 (lv_at hl 7 rfl) ?_
        refine lv_icmp_ne (tgt := 217) hx hb dX9_value_204 (by decide) (fun c_123 => ?_) (fun c_123 => ?_)
        · refine lv_aload_n hx hb dX9_value_217 rfl (lv_at hl 2 rfl) ?_
          refine lv_aload_n hx hb dX9_value_218 rfl (lv_at hl 2 rfl) ?_
          refine va_get (D := (dC, dI)) (ci := 11) (v := .int (nI i)) (C := RX9) (T := TX9) (N := 60) hx hb hts iRX9 hown hK hP 0 rfl rfl 11 (by decide) (hts (.fieldLink RX9 141 "RecordBenchModel" "at" "I") (by decide +kernel)) (fun _ h9 => h9) ((mo_get g2 (by decide)).trans (congrArg some h11)) dX9_value_219 ?_
          refine va_put (D := (dC, dI)) (ci := 11) (v := .int (nI i)) (ty := .int) (C := RX9) (T := TX9) (N := 60) hx hb hts iRX9 tyX9 tyX9_ok nmX9 hown hK hP hD hS 0 rfl rfl 18 (by decide) (hts (.fieldLink RX9 162 "RecordBenchModel" "ended" "I") (by decide +kernel)) (fun _ h9 => h9) rfl (by decide +kernel) rfl rfl (by rw [mo_len]; decide) dX9_value_222 (fun H locs hP hD hS => ?_)
          obtain ⟨g_124, eg_124⟩ : ∃ y, y = va_up g2 18 (.int (nI i)) := ⟨_, rfl⟩
          have hP : va_P (dC, dI) vwCl [(h0, .inr (11, mo g_124)), (a9, .inl (cT, 400, .inl f)), (a6, .inl (cP, 248, .inr (.inl fP)))] H := by rw [eg_124, ← mo_set g2 (by decide)]; exact hP
          have hD : va_D A [(h0, .inr (11, mo g_124)), (a9, .inl (cT, 400, .inl f)), (a6, .inl (cP, 248, .inr (.inl fP)))] := by rw [eg_124, ← mo_set g2 (by decide)]; exact hD
          have g_124h6 : g_124 6 = .ref a6 := by rw [eg_124, va_up_ne _ _ (by decide)]; exact h6
          have g_124h9 : g_124 9 = .ref a9 := by rw [eg_124, va_up_ne _ _ (by decide)]; exact h9
          have g_124h11 : g_124 11 = .int (nI i) := by rw [eg_124, va_up_ne _ _ (by decide)]; exact h11
          have g_124h12 : g_124 12 = .int (nI n) := by rw [eg_124, va_up_ne _ _ (by decide)]; exact h12
          have g_124h13 : g_124 13 = .int b0 := by rw [eg_124, va_up_ne _ _ (by decide)]; exact h13
          have g_124h14 : g_124 14 = v14 := by rw [eg_124, va_up_ne _ _ (by decide)]; exact h14
          have g_124h18 : g_124 18 = .int (nI i) := by rw [eg_124, va_up_self]
          have ung_124 : ∀ j : Nat, j ≠ 11 → j ≠ 17 → j ≠ 18 → g_124 j = g j := fun j h11 h17 h18 => by rw [eg_124, va_up_ne _ _ h18]; exact hun j h11 h17
          refine lv_iload hx hb dX9_value_225 (lv_at hl 6 rfl) ?_
          refine lv_if_ne (tgt := 242) hx hb dX9_value_227 (by decide) (fun c_125 => absurd (by decide) c_125) (fun c_125 => ?_)
          refine lv_lload hx hb dX9_value_230 (lv_at hl 0 rfl) ?_
          refine lv_ldc2 hx hb hown (hts (.constantLong RX9 227 (-9223372036854775808)) (by decide +kernel)) dX9_value_232 ?_
          refine W.lcmp hx hb dX9_value_235 ?_
          refine lv_if_ne (tgt := 242) hx hb dX9_value_236 (by decide) (fun c_126 => ?_) (fun c_126 => ?_)
          · refine lv_iload hx hb dX9_value_242 (lv_at hl 6 rfl) ?_
            refine lv_if_ne (tgt := 253) hx hb dX9_value_244 (by decide) (fun c_127 => absurd (by decide) c_127) (fun c_127 => ?_)
            refine lv_lconst (v := 0) hx hb dX9_value_247 (by decide) ?_
            refine lv_lload hx hb dX9_value_248 (lv_at hl 0 rfl) ?_
            refine lv_lsub hx hb dX9_value_250 ?_
            refine lv_lstore (lv' := [(6, .long (0 - ((tvs f (tfd f n (tsk f n j)) (i - tfd f n (tsk f n j))).1))), (8, .int ((tvs f (tfd f n (tsk f n j)) (i - tfd f n (tsk f n j))).2)), (0, .ref h0), (1, .int p0), (2, .int p1), (3, .int (nI (tsk f n j))), (4, .int 0), (5, .int (nI (tfd f n (tsk f n j))))]) hx hb dX9_value_251 hl (by decide) rfl (fun ls hl => ?_)
            refine lv_iload hx hb dX9_value_253 (lv_at hl 1 rfl) ?_
            refine lv_if_ne (tgt := 267) hx hb dX9_value_255 (by decide) (fun c_128 => ?_) (fun c_128 => ?_)
            · refine lv_aload_n hx hb dX9_value_267 rfl (lv_at hl 2 rfl) ?_
              refine lv_iconst (v := 2) hx hb dX9_value_268 (by decide) ?_
              refine lv_iload_n hx hb dX9_value_269 rfl (lv_at hl 5 rfl) ?_
              have hFc := va_free (wc := [(h0, .inr (11, mo g_124))]) hD hS hA [0] rfl
              refine va_callv (va_runV (As := [.int 2, .int (nI (tsk f n j))]) (rest := []) ⟨hx, hb, hml, hown, hts⟩ (c_X9_fail l dC dI h0 g_124 b0 (v14) g_124h13 g_124h14 2 (nI (tsk f n j)) (by decide) H.size) (cwV 2 hts gp_X9_value_X9_fail_154 rfl rfl rfl (by decide +kernel) ⟨Nat.le_of_ble_eq_true rfl, Nat.le_of_ble_eq_true rfl⟩) ⟨Pr.blind _, va_recv hK hP (ci := 11) (q0 := 0) rfl rfl, fun U hU hW => ⟨rfl, Pr.at (hP.sub (ws' := [(h0, .inr (11, mo g_124))]) [0] rfl) (hK.sub (tys' := []) [] rfl) (hD.sub (ws' := [(h0, .inr (11, mo g_124))]) [0] (by decide) rfl) hN hZ RO.nil hS hFc hU hW⟩⟩ rfl rfl hl.1 rfl (lv_room (Nat.le_of_ble_eq_true rfl)) dX9_value_270 ⟨Nat.le_of_ble_eq_true rfl, Nat.le_of_ble_eq_true rfl⟩) hS (fun q _ h => hFc q h) hFc (fun u t H1 locs ht hvm hw_130 hB hz1 hk1 hS => ?_)
              obtain ⟨g1_131, b1_132⟩ := u
              obtain ⟨hP, hD, hK⟩ := Bq.join (wr := [(a9, .inl (cT, 400, .inl f)), (a6, .inl (cP, 248, .inr (.inl fP)))]) hB ht hvm hP hD [0] [1, 2] rfl rfl (by decide) (by decide) hk1 hFc hK
              generalize H1 = H at hP hS ⊢
              have hP : va_P (dC, dI) vwCl [(a9, .inl (cT, 400, .inl f)), (a6, .inl (cP, 248, .inr (.inl fP))), (h0, .inr (11, mo g1_131))] H := hP
              have hD : va_D A [(a9, .inl (cT, 400, .inl f)), (a6, .inl (cP, 248, .inr (.inl fP))), (h0, .inr (11, mo g1_131))] := hD
              have hK : va_K (dC, dI) vwCl [(cT, .int), (cP, .long)] s := hK
              try dsimp only at hw_130
              obtain ⟨k_133, k_134, k_135⟩ := hw_130
              have w_136 : g1_131 6 = .ref a6 := (k_135 6 (by decide) (by decide)).trans g_124h6
              have w_137 : g1_131 9 = .ref a9 := (k_135 9 (by decide) (by decide)).trans g_124h9
              have w_138 : g1_131 11 = .int (nI i) := (k_135 11 (by decide) (by decide)).trans g_124h11
              have w_139 : g1_131 12 = .int (nI n) := (k_135 12 (by decide) (by decide)).trans g_124h12
              have w_140 : g1_131 18 = .int (nI i) := (k_135 18 (by decide) (by decide)).trans g_124h18
              have un_141 : ∀ j : Nat, j ≠ 11 → j ≠ 13 → j ≠ 14 → j ≠ 17 → j ≠ 18 → g1_131 j = g j := fun j h11 h13 h14 h17 h18 => (k_135 j h13 h14).trans (ung_124 j h11 h17 h18)
              refine lv_aload_n hx hb dX9_value_273 rfl (lv_at hl 2 rfl) ?_
              refine va_get (D := (dC, dI)) (ci := 11) (v := .ref a6) (C := RX9) (T := TX9) (N := 60) hx hb hts iRX9 hown hK hP 2 rfl rfl 6 (by decide) (hts (.fieldLink RX9 30 "RecordBenchModel" "plain" "[J") (by decide +kernel)) (fun _ h9 => h9) ((mo_get g1_131 (by decide)).trans (congrArg some w_136)) dX9_value_274 ?_
              refine lv_iload_n hx hb dX9_value_277 rfl (lv_at hl 3 rfl) ?_
              refine lv_lload hx hb dX9_value_278 (lv_at hl 0 rfl) ?_
              refine va_last hx hb hK hP hD hS 1 1 rfl rfl hp0 dX9_value_280 (fun H locs hP hD hS => ?_)
              obtain ⟨f_142, ef_142⟩ : ∃ y : Nat → Int64, y = vp_updL fP (p0 : Int32).toNatClampNeg (0 - ((tvs f (tfd f n (tsk f n j)) (i - tfd f n (tsk f n j))).1)) := ⟨_, rfl⟩
              have hP : va_P (dC, dI) vwCl [(a9, .inl (cT, 400, .inl f)), (a6, .inl (cP, 248, .inr (.inl f_142))), (h0, .inr (11, mo g1_131))] H := by rw [ef_142]; exact hP
              have hD : va_D A [(a9, .inl (cT, 400, .inl f)), (a6, .inl (cP, 248, .inr (.inl f_142))), (h0, .inr (11, mo g1_131))] := by rw [ef_142]; exact hD
              have hP9 := hP.sub (ws' := [(h0, .inr (11, mo g1_131)), (a9, .inl (cT, 400, .inl f)), (a6, .inl (cP, 248, .inr (.inl f_142)))]) [2, 0, 1] rfl
              have hD9 := hD.sub (ws' := [(h0, .inr (11, mo g1_131)), (a9, .inl (cT, 400, .inl f)), (a6, .inl (cP, 248, .inr (.inl f_142)))]) [2, 0, 1] (by decide) rfl
              have hK9 := hK.sub (tys' := []) [] rfl
              exact W.vret hx hb hr (fun t ht hW => ⟨⟨(g1_131, i, b1_132, (nI i), f_142), rfl, ⟨Or.inr ⟨fun h => c_128 (by have := h.2.2.1; rw [htd] at this; exact this), hi3, k_133⟩, w_138, k_134, w_140, (fun j h11 h13 h14 h17 h18 => un_141 j h11 h13 h14 h17 h18)⟩, by rw [ht]; exact hP9, va_K.moved hW.alike hK9, hD9⟩, hS.F ht⟩) hS.2.2 dX9_value_281
            · refine lv_lload hx hb dX9_value_258 (lv_at hl 0 rfl) ?_
              refine lv_iload_n hx hb dX9_value_260 rfl (lv_at hl 4 rfl) ?_
              have hFc := va_free (wc := []) hD hS hA [] rfl
              refine va_calli (va_runS (As := [.long (0 - ((tvs f (tfd f n (tsk f n j)) (i - tfd f n (tsk f n j))).1)), .int p1]) (rest := []) ⟨hx, hb, hml, hown, hts⟩ (c_X9_isOf l dC dI (0 - ((tvs f (tfd f n (tsk f n j)) (i - tfd f n (tsk f n j))).1)) p1 H.size) (cwS 2 hts gp_X9_value_X9_isOf_229 rfl rfl rfl (by decide +kernel) ⟨Nat.le_of_ble_eq_true rfl, Nat.le_of_ble_eq_true rfl⟩) ⟨Pr.blind _, fun U hU hW => ⟨rfl, Pr.at (hP.sub (ws' := []) [] rfl) (hK.sub (tys' := []) [] rfl) (hD.sub (ws' := []) [] (by decide) rfl) hN hZ RO.nil hS hFc hU hW⟩⟩ rfl rfl hl.1 rfl (lv_room (Nat.le_of_ble_eq_true rfl)) dX9_value_261 ⟨Nat.le_of_ble_eq_true rfl, Nat.le_of_ble_eq_true rfl⟩) hS (fun q _ h => hFc q h) hFc (fun r_143 u t H1 locs ht hvm hw_144 hB hz1 hk1 hS => ?_)
              obtain ⟨hP, hD, hK⟩ := Bq.join (wr := [(h0, .inr (11, mo g_124)), (a9, .inl (cT, 400, .inl f)), (a6, .inl (cP, 248, .inr (.inl fP)))]) hB ht hvm hP hD [] [0, 1, 2] rfl rfl (by decide) (by decide) hk1 hFc hK
              generalize H1 = H at hP hS ⊢
              have hP : va_P (dC, dI) vwCl [(h0, .inr (11, mo g_124)), (a9, .inl (cT, 400, .inl f)), (a6, .inl (cP, 248, .inr (.inl fP)))] H := hP
              have hD : va_D A [(h0, .inr (11, mo g_124)), (a9, .inl (cT, 400, .inl f)), (a6, .inl (cP, 248, .inr (.inl fP)))] := hD
              have hK : va_K (dC, dI) vwCl [(cT, .int), (cP, .long)] s := hK
              try dsimp only at hw_144
              have k_145 := hw_144
              rcases k_145 with ⟨ho, rfl⟩ | ⟨ho, rfl⟩
              · refine W.eq (g2 := F0 m 264 ls [.int 1]) rfl ?_
                refine lv_if_ne (tgt := 273) hx hb dX9_value_264 (by decide) (fun c_146 => ?_) (fun c_146 => absurd c_146 (by decide))
                refine lv_aload_n hx hb dX9_value_273 rfl (lv_at hl 2 rfl) ?_
                refine va_get (D := (dC, dI)) (ci := 11) (v := .ref a6) (C := RX9) (T := TX9) (N := 60) hx hb hts iRX9 hown hK hP 0 rfl rfl 6 (by decide) (hts (.fieldLink RX9 30 "RecordBenchModel" "plain" "[J") (by decide +kernel)) (fun _ h9 => h9) ((mo_get g_124 (by decide)).trans (congrArg some g_124h6)) dX9_value_274 ?_
                refine lv_iload_n hx hb dX9_value_277 rfl (lv_at hl 3 rfl) ?_
                refine lv_lload hx hb dX9_value_278 (lv_at hl 0 rfl) ?_
                refine va_last hx hb hK hP hD hS 2 1 rfl rfl hp0 dX9_value_280 (fun H locs hP hD hS => ?_)
                obtain ⟨f_147, ef_147⟩ : ∃ y : Nat → Int64, y = vp_updL fP (p0 : Int32).toNatClampNeg (0 - ((tvs f (tfd f n (tsk f n j)) (i - tfd f n (tsk f n j))).1)) := ⟨_, rfl⟩
                have hP : va_P (dC, dI) vwCl [(h0, .inr (11, mo g_124)), (a9, .inl (cT, 400, .inl f)), (a6, .inl (cP, 248, .inr (.inl f_147)))] H := by rw [ef_147]; exact hP
                have hD : va_D A [(h0, .inr (11, mo g_124)), (a9, .inl (cT, 400, .inl f)), (a6, .inl (cP, 248, .inr (.inl f_147)))] := by rw [ef_147]; exact hD
                have hP9 := hP.sub (ws' := [(h0, .inr (11, mo g_124)), (a9, .inl (cT, 400, .inl f)), (a6, .inl (cP, 248, .inr (.inl f_147)))]) [0, 1, 2] rfl
                have hD9 := hD.sub (ws' := [(h0, .inr (11, mo g_124)), (a9, .inl (cT, 400, .inl f)), (a6, .inl (cP, 248, .inr (.inl f_147)))]) [0, 1, 2] (by decide) rfl
                have hK9 := hK.sub (tys' := []) [] rfl
                exact W.vret hx hb hr (fun t ht hW => ⟨⟨(g_124, i, b0, (nI i), f_147), rfl, ⟨Or.inl ⟨⟨by rw [htd]; exact fun h => c_123 (by rw [h]), by rw [htd]; omega, by rw [htd]; exact ⟨c_128, (fun h => c_126 ((lg_cmp_eq _ _).mpr h.2)), by rw [tvv, hmi, if_pos rfl]; exact ho⟩⟩, htd.symm, rfl, by rw [htd], by rw [ef_147, htd, tvv, hmi, if_pos rfl]⟩, g_124h11, g_124h13, g_124h18, (fun j h11 h13 h14 h17 h18 => ung_124 j h11 h17 h18)⟩, by rw [ht]; exact hP9, va_K.moved hW.alike hK9, hD9⟩, hS.F ht⟩) hS.2.2 dX9_value_281
              · refine W.eq (g2 := F0 m 264 ls [.int 0]) rfl ?_
                refine lv_if_ne (tgt := 273) hx hb dX9_value_264 (by decide) (fun c_148 => absurd (by decide) c_148) (fun c_148 => ?_)
                refine lv_aload_n hx hb dX9_value_267 rfl (lv_at hl 2 rfl) ?_
                refine lv_iconst (v := 2) hx hb dX9_value_268 (by decide) ?_
                refine lv_iload_n hx hb dX9_value_269 rfl (lv_at hl 5 rfl) ?_
                have hFc := va_free (wc := [(h0, .inr (11, mo g_124))]) hD hS hA [0] rfl
                refine va_callv (va_runV (As := [.int 2, .int (nI (tsk f n j))]) (rest := []) ⟨hx, hb, hml, hown, hts⟩ (c_X9_fail l dC dI h0 g_124 b0 (v14) g_124h13 g_124h14 2 (nI (tsk f n j)) (by decide) H.size) (cwV 2 hts gp_X9_value_X9_fail_154 rfl rfl rfl (by decide +kernel) ⟨Nat.le_of_ble_eq_true rfl, Nat.le_of_ble_eq_true rfl⟩) ⟨Pr.blind _, va_recv hK hP (ci := 11) (q0 := 0) rfl rfl, fun U hU hW => ⟨rfl, Pr.at (hP.sub (ws' := [(h0, .inr (11, mo g_124))]) [0] rfl) (hK.sub (tys' := []) [] rfl) (hD.sub (ws' := [(h0, .inr (11, mo g_124))]) [0] (by decide) rfl) hN hZ RO.nil hS hFc hU hW⟩⟩ rfl rfl hl.1 rfl (lv_room (Nat.le_of_ble_eq_true rfl)) dX9_value_270 ⟨Nat.le_of_ble_eq_true rfl, Nat.le_of_ble_eq_true rfl⟩) hS (fun q _ h => hFc q h) hFc (fun u t H1 locs ht hvm hw_150 hB hz1 hk1 hS => ?_)
                obtain ⟨g1_151, b1_152⟩ := u
                obtain ⟨hP, hD, hK⟩ := Bq.join (wr := [(a9, .inl (cT, 400, .inl f)), (a6, .inl (cP, 248, .inr (.inl fP)))]) hB ht hvm hP hD [0] [1, 2] rfl rfl (by decide) (by decide) hk1 hFc hK
                generalize H1 = H at hP hS ⊢
                have hP : va_P (dC, dI) vwCl [(a9, .inl (cT, 400, .inl f)), (a6, .inl (cP, 248, .inr (.inl fP))), (h0, .inr (11, mo g1_151))] H := hP
                have hD : va_D A [(a9, .inl (cT, 400, .inl f)), (a6, .inl (cP, 248, .inr (.inl fP))), (h0, .inr (11, mo g1_151))] := hD
                have hK : va_K (dC, dI) vwCl [(cT, .int), (cP, .long)] s := hK
                try dsimp only at hw_150
                obtain ⟨k_153, k_154, k_155⟩ := hw_150
                have w_156 : g1_151 6 = .ref a6 := (k_155 6 (by decide) (by decide)).trans g_124h6
                have w_157 : g1_151 9 = .ref a9 := (k_155 9 (by decide) (by decide)).trans g_124h9
                have w_158 : g1_151 11 = .int (nI i) := (k_155 11 (by decide) (by decide)).trans g_124h11
                have w_159 : g1_151 12 = .int (nI n) := (k_155 12 (by decide) (by decide)).trans g_124h12
                have w_160 : g1_151 18 = .int (nI i) := (k_155 18 (by decide) (by decide)).trans g_124h18
                have un_161 : ∀ j : Nat, j ≠ 11 → j ≠ 13 → j ≠ 14 → j ≠ 17 → j ≠ 18 → g1_151 j = g j := fun j h11 h13 h14 h17 h18 => (k_155 j h13 h14).trans (ung_124 j h11 h17 h18)
                refine lv_aload_n hx hb dX9_value_273 rfl (lv_at hl 2 rfl) ?_
                refine va_get (D := (dC, dI)) (ci := 11) (v := .ref a6) (C := RX9) (T := TX9) (N := 60) hx hb hts iRX9 hown hK hP 2 rfl rfl 6 (by decide) (hts (.fieldLink RX9 30 "RecordBenchModel" "plain" "[J") (by decide +kernel)) (fun _ h9 => h9) ((mo_get g1_151 (by decide)).trans (congrArg some w_156)) dX9_value_274 ?_
                refine lv_iload_n hx hb dX9_value_277 rfl (lv_at hl 3 rfl) ?_
                refine lv_lload hx hb dX9_value_278 (lv_at hl 0 rfl) ?_
                refine va_last hx hb hK hP hD hS 1 1 rfl rfl hp0 dX9_value_280 (fun H locs hP hD hS => ?_)
                obtain ⟨f_162, ef_162⟩ : ∃ y : Nat → Int64, y = vp_updL fP (p0 : Int32).toNatClampNeg (0 - ((tvs f (tfd f n (tsk f n j)) (i - tfd f n (tsk f n j))).1)) := ⟨_, rfl⟩
                have hP : va_P (dC, dI) vwCl [(a9, .inl (cT, 400, .inl f)), (a6, .inl (cP, 248, .inr (.inl f_162))), (h0, .inr (11, mo g1_151))] H := by rw [ef_162]; exact hP
                have hD : va_D A [(a9, .inl (cT, 400, .inl f)), (a6, .inl (cP, 248, .inr (.inl f_162))), (h0, .inr (11, mo g1_151))] := by rw [ef_162]; exact hD
                have hP9 := hP.sub (ws' := [(h0, .inr (11, mo g1_151)), (a9, .inl (cT, 400, .inl f)), (a6, .inl (cP, 248, .inr (.inl f_162)))]) [2, 0, 1] rfl
                have hD9 := hD.sub (ws' := [(h0, .inr (11, mo g1_151)), (a9, .inl (cT, 400, .inl f)), (a6, .inl (cP, 248, .inr (.inl f_162)))]) [2, 0, 1] (by decide) rfl
                have hK9 := hK.sub (tys' := []) [] rfl
                exact W.vret hx hb hr (fun t ht hW => ⟨⟨(g1_151, i, b1_152, (nI i), f_162), rfl, ⟨Or.inr ⟨fun h => ho (by have := h.2.2.2.2; rw [htd, tvv, hmi, if_pos rfl] at this; exact this), hi3, k_153⟩, w_158, k_154, w_160, (fun j h11 h13 h14 h17 h18 => un_161 j h11 h13 h14 h17 h18)⟩, by rw [ht]; exact hP9, va_K.moved hW.alike hK9, hD9⟩, hS.F ht⟩) hS.2.2 dX9_value_281
          · refine lv_iconst (v := 1) hx hb dX9_value_239 (by decide) ?_
            refine lv_istore (lv' := [(8, .int 1), (6, .long ((tvs f (tfd f n (tsk f n j)) (i - tfd f n (tsk f n j))).1)), (0, .ref h0), (1, .int p0), (2, .int p1), (3, .int (nI (tsk f n j))), (4, .int 0), (5, .int (nI (tfd f n (tsk f n j))))]) hx hb dX9_value_240 hl (by decide) rfl (fun ls hl => ?_)
            refine lv_iload hx hb dX9_value_242 (lv_at hl 6 rfl) ?_
            refine lv_if_ne (tgt := 253) hx hb dX9_value_244 (by decide) (fun c_163 => absurd (by decide) c_163) (fun c_163 => ?_)
            refine lv_lconst (v := 0) hx hb dX9_value_247 (by decide) ?_
            refine lv_lload hx hb dX9_value_248 (lv_at hl 1 rfl) ?_
            refine lv_lsub hx hb dX9_value_250 ?_
            refine lv_lstore (lv' := [(6, .long (0 - ((tvs f (tfd f n (tsk f n j)) (i - tfd f n (tsk f n j))).1))), (8, .int 1), (0, .ref h0), (1, .int p0), (2, .int p1), (3, .int (nI (tsk f n j))), (4, .int 0), (5, .int (nI (tfd f n (tsk f n j))))]) hx hb dX9_value_251 hl (by decide) rfl (fun ls hl => ?_)
            refine lv_iload hx hb dX9_value_253 (lv_at hl 1 rfl) ?_
            refine lv_if_ne (tgt := 267) hx hb dX9_value_255 (by decide) (fun c_164 => ?_) (fun c_164 => absurd c_164 (by decide))
            refine lv_aload_n hx hb dX9_value_267 rfl (lv_at hl 2 rfl) ?_
            refine lv_iconst (v := 2) hx hb dX9_value_268 (by decide) ?_
            refine lv_iload_n hx hb dX9_value_269 rfl (lv_at hl 5 rfl) ?_
            have hFc := va_free (wc := [(h0, .inr (11, mo g_124))]) hD hS hA [0] rfl
            refine va_callv (va_runV (As := [.int 2, .int (nI (tsk f n j))]) (rest := []) ⟨hx, hb, hml, hown, hts⟩ (c_X9_fail l dC dI h0 g_124 b0 (v14) g_124h13 g_124h14 2 (nI (tsk f n j)) (by decide) H.size) (cwV 2 hts gp_X9_value_X9_fail_154 rfl rfl rfl (by decide +kernel) ⟨Nat.le_of_ble_eq_true rfl, Nat.le_of_ble_eq_true rfl⟩) ⟨Pr.blind _, va_recv hK hP (ci := 11) (q0 := 0) rfl rfl, fun U hU hW => ⟨rfl, Pr.at (hP.sub (ws' := [(h0, .inr (11, mo g_124))]) [0] rfl) (hK.sub (tys' := []) [] rfl) (hD.sub (ws' := [(h0, .inr (11, mo g_124))]) [0] (by decide) rfl) hN hZ RO.nil hS hFc hU hW⟩⟩ rfl rfl hl.1 rfl (lv_room (Nat.le_of_ble_eq_true rfl)) dX9_value_270 ⟨Nat.le_of_ble_eq_true rfl, Nat.le_of_ble_eq_true rfl⟩) hS (fun q _ h => hFc q h) hFc (fun u t H1 locs ht hvm hw_166 hB hz1 hk1 hS => ?_)
            obtain ⟨g1_167, b1_168⟩ := u
            obtain ⟨hP, hD, hK⟩ := Bq.join (wr := [(a9, .inl (cT, 400, .inl f)), (a6, .inl (cP, 248, .inr (.inl fP)))]) hB ht hvm hP hD [0] [1, 2] rfl rfl (by decide) (by decide) hk1 hFc hK
            generalize H1 = H at hP hS ⊢
            have hP : va_P (dC, dI) vwCl [(a9, .inl (cT, 400, .inl f)), (a6, .inl (cP, 248, .inr (.inl fP))), (h0, .inr (11, mo g1_167))] H := hP
            have hD : va_D A [(a9, .inl (cT, 400, .inl f)), (a6, .inl (cP, 248, .inr (.inl fP))), (h0, .inr (11, mo g1_167))] := hD
            have hK : va_K (dC, dI) vwCl [(cT, .int), (cP, .long)] s := hK
            try dsimp only at hw_166
            obtain ⟨k_169, k_170, k_171⟩ := hw_166
            have w_172 : g1_167 6 = .ref a6 := (k_171 6 (by decide) (by decide)).trans g_124h6
            have w_173 : g1_167 9 = .ref a9 := (k_171 9 (by decide) (by decide)).trans g_124h9
            have w_174 : g1_167 11 = .int (nI i) := (k_171 11 (by decide) (by decide)).trans g_124h11
            have w_175 : g1_167 12 = .int (nI n) := (k_171 12 (by decide) (by decide)).trans g_124h12
            have w_176 : g1_167 18 = .int (nI i) := (k_171 18 (by decide) (by decide)).trans g_124h18
            have un_177 : ∀ j : Nat, j ≠ 11 → j ≠ 13 → j ≠ 14 → j ≠ 17 → j ≠ 18 → g1_167 j = g j := fun j h11 h13 h14 h17 h18 => (k_171 j h13 h14).trans (ung_124 j h11 h17 h18)
            refine lv_aload_n hx hb dX9_value_273 rfl (lv_at hl 2 rfl) ?_
            refine va_get (D := (dC, dI)) (ci := 11) (v := .ref a6) (C := RX9) (T := TX9) (N := 60) hx hb hts iRX9 hown hK hP 2 rfl rfl 6 (by decide) (hts (.fieldLink RX9 30 "RecordBenchModel" "plain" "[J") (by decide +kernel)) (fun _ h9 => h9) ((mo_get g1_167 (by decide)).trans (congrArg some w_172)) dX9_value_274 ?_
            refine lv_iload_n hx hb dX9_value_277 rfl (lv_at hl 3 rfl) ?_
            refine lv_lload hx hb dX9_value_278 (lv_at hl 0 rfl) ?_
            refine va_last hx hb hK hP hD hS 1 1 rfl rfl hp0 dX9_value_280 (fun H locs hP hD hS => ?_)
            obtain ⟨f_178, ef_178⟩ : ∃ y : Nat → Int64, y = vp_updL fP (p0 : Int32).toNatClampNeg (0 - ((tvs f (tfd f n (tsk f n j)) (i - tfd f n (tsk f n j))).1)) := ⟨_, rfl⟩
            have hP : va_P (dC, dI) vwCl [(a9, .inl (cT, 400, .inl f)), (a6, .inl (cP, 248, .inr (.inl f_178))), (h0, .inr (11, mo g1_167))] H := by rw [ef_178]; exact hP
            have hD : va_D A [(a9, .inl (cT, 400, .inl f)), (a6, .inl (cP, 248, .inr (.inl f_178))), (h0, .inr (11, mo g1_167))] := by rw [ef_178]; exact hD
            have hP9 := hP.sub (ws' := [(h0, .inr (11, mo g1_167)), (a9, .inl (cT, 400, .inl f)), (a6, .inl (cP, 248, .inr (.inl f_178)))]) [2, 0, 1] rfl
            have hD9 := hD.sub (ws' := [(h0, .inr (11, mo g1_167)), (a9, .inl (cT, 400, .inl f)), (a6, .inl (cP, 248, .inr (.inl f_178)))]) [2, 0, 1] (by decide) rfl
            have hK9 := hK.sub (tys' := []) [] rfl
            exact W.vret hx hb hr (fun t ht hW => ⟨⟨(g1_167, i, b1_168, (nI i), f_178), rfl, ⟨Or.inr ⟨fun h => h.2.2.2.1 ⟨hmi, by rw [htd]; exact (lg_cmp_eq _ _).mp c_126⟩, hi3, k_169⟩, w_174, k_170, w_176, (fun j h11 h13 h14 h17 h18 => un_177 j h11 h13 h14 h17 h18)⟩, by rw [ht]; exact hP9, va_K.moved hW.alike hK9, hD9⟩, hS.F ht⟩) hS.2.2 dX9_value_281
        · refine lv_aload_n hx hb dX9_value_207 rfl (lv_at hl 2 rfl) ?_
          refine lv_iconst (v := 1) hx hb dX9_value_208 (by decide) ?_
          refine lv_aload_n hx hb dX9_value_209 rfl (lv_at hl 2 rfl) ?_
          refine va_get (D := (dC, dI)) (ci := 11) (v := .int (nI i)) (C := RX9) (T := TX9) (N := 60) hx hb hts iRX9 hown hK hP 0 rfl rfl 11 (by decide) (hts (.fieldLink RX9 141 "RecordBenchModel" "at" "I") (by decide +kernel)) (fun _ h9 => h9) ((mo_get g2 (by decide)).trans (congrArg some h11)) dX9_value_210 ?_
          have hFc := va_free (wc := [(h0, .inr (11, mo g2))]) hD hS hA [0] rfl
          refine va_callv (va_runV (As := [.int 1, .int (nI i)]) (rest := []) ⟨hx, hb, hml, hown, hts⟩ (c_X9_fail l dC dI h0 g2 b0 (v14) h13 h14 1 (nI i) (by decide) H.size) (cwV 2 hts gp_X9_value_X9_fail_154 rfl rfl rfl (by decide +kernel) ⟨Nat.le_of_ble_eq_true rfl, Nat.le_of_ble_eq_true rfl⟩) ⟨Pr.blind _, va_recv hK hP (ci := 11) (q0 := 0) rfl rfl, fun U hU hW => ⟨rfl, Pr.at (hP.sub (ws' := [(h0, .inr (11, mo g2))]) [0] rfl) (hK.sub (tys' := []) [] rfl) (hD.sub (ws' := [(h0, .inr (11, mo g2))]) [0] (by decide) rfl) hN hZ RO.nil hS hFc hU hW⟩⟩ rfl rfl hl.1 rfl (lv_room (Nat.le_of_ble_eq_true rfl)) dX9_value_213 ⟨Nat.le_of_ble_eq_true rfl, Nat.le_of_ble_eq_true rfl⟩) hS (fun q _ h => hFc q h) hFc (fun u t H1 locs ht hvm hw_180 hB hz1 hk1 hS => ?_)
          obtain ⟨g1_181, b1_182⟩ := u
          obtain ⟨hP, hD, hK⟩ := Bq.join (wr := [(a9, .inl (cT, 400, .inl f)), (a6, .inl (cP, 248, .inr (.inl fP)))]) hB ht hvm hP hD [0] [1, 2] rfl rfl (by decide) (by decide) hk1 hFc hK
          generalize H1 = H at hP hS ⊢
          have hP : va_P (dC, dI) vwCl [(a9, .inl (cT, 400, .inl f)), (a6, .inl (cP, 248, .inr (.inl fP))), (h0, .inr (11, mo g1_181))] H := hP
          have hD : va_D A [(a9, .inl (cT, 400, .inl f)), (a6, .inl (cP, 248, .inr (.inl fP))), (h0, .inr (11, mo g1_181))] := hD
          have hK : va_K (dC, dI) vwCl [(cT, .int), (cP, .long)] s := hK
          try dsimp only at hw_180
          obtain ⟨k_183, k_184, k_185⟩ := hw_180
          have w_186 : g1_181 6 = .ref a6 := (k_185 6 (by decide) (by decide)).trans h6
          have w_187 : g1_181 9 = .ref a9 := (k_185 9 (by decide) (by decide)).trans h9
          have w_188 : g1_181 11 = .int (nI i) := (k_185 11 (by decide) (by decide)).trans h11
          have w_189 : g1_181 12 = .int (nI n) := (k_185 12 (by decide) (by decide)).trans h12
          have w_190 : g1_181 18 = .int x18 := (k_185 18 (by decide) (by decide)).trans h18
          have un_191 : ∀ j : Nat, j ≠ 11 → j ≠ 13 → j ≠ 14 → j ≠ 17 → g1_181 j = g j := fun j h11 h13 h14 h17 => (k_185 j h13 h14).trans (hun j h11 h17)
          have hP9 := hP.sub (ws' := [(h0, .inr (11, mo g1_181)), (a9, .inl (cT, 400, .inl f)), (a6, .inl (cP, 248, .inr (.inl fP)))]) [2, 0, 1] rfl
          have hD9 := hD.sub (ws' := [(h0, .inr (11, mo g1_181)), (a9, .inl (cT, 400, .inl f)), (a6, .inl (cP, 248, .inr (.inl fP)))]) [2, 0, 1] (by decide) rfl
          have hK9 := hK.sub (tys' := []) [] rfl
          exact W.vret hx hb hr (fun t ht hW => ⟨⟨(g1_181, i, b1_182, x18, fP), rfl, ⟨Or.inr ⟨fun h => h.1 (by rw [htd]; exact (nI_eq (by omega) (by omega)).mp c_123), hi3, k_183⟩, w_188, k_184, w_190, (fun j h11 h13 h14 h17 h18 => un_191 j h11 h13 h14 h17)⟩, by rw [ht]; exact hP9, va_K.moved hW.alike hK9, hD9⟩, hS.F ht⟩) hS.2.2 dX9_value_216
  refine lv_icmp_ge (tgt := 39) hx hb dX9_value_18 (by decide) (fun c_15 => ?_) (fun c_15 => ?_)
  · exact J_16 ⟨(), (fun h => absurd (tat_in h (by decide)) (by have := nI_leN (by omega) (by omega) c_15; omega))⟩ ls (lv_sub hl [0, 1, 2, 3] rfl)
  · have hlt0 : tsk f n j < n := nI_ltN (by omega) (by omega) c_15
    refine lv_aload_n hx hb dX9_value_21 rfl (lv_at hl 1 rfl) ?_
    refine va_get (D := (dC, dI)) (ci := 11) (v := .ref a9) (C := RX9) (T := TX9) (N := 60) hx hb hts iRX9 hown hK hP 1 rfl rfl 9 (by decide) (hts (.fieldLink RX9 39 "RecordBenchModel" "tape" "[I") (by decide +kernel)) (fun _ h9 => h9) ((mo_get g1_3 (by decide)).trans (congrArg some w_8)) dX9_value_22 ?_
    refine lv_aload_n hx hb dX9_value_25 rfl (lv_at hl 1 rfl) ?_
    refine va_get (D := (dC, dI)) (ci := 11) (v := .int (nI (tsk f n j))) (C := RX9) (T := TX9) (N := 60) hx hb hts iRX9 hown hK hP 1 rfl rfl 11 (by decide) (hts (.fieldLink RX9 141 "RecordBenchModel" "at" "I") (by decide +kernel)) (fun _ h9 => h9) ((mo_get g1_3 (by decide)).trans (congrArg some k_5)) dX9_value_26 ?_
    refine va_iald hx hb hK hP 2 0 rfl rfl (vp_in_nI (by omega) (by decide)) dX9_value_29 ?_
    refine W_toi (y := f (tsk f n j)) (by rw [nI_clamp (by omega)]) ?_
    refine lv_bipush (v := 45) hx hb dX9_value_30 (by decide) ?_
    refine lv_icmp_ne (tgt := 39) hx hb dX9_value_32 (by decide) (fun c_192 => ?_) (fun c_192 => ?_)
    · exact J_16 ⟨(), (by rw [tat_at hlt0]; exact c_192)⟩ ls (lv_sub hl [0, 1, 2, 3] rfl)
    · refine lv_iconst (v := 1) hx hb dX9_value_35 (by decide) ?_
      refine lv_goto (tgt := 40) hx hb dX9_value_36 (by decide) ?_
      refine lv_istore (lv' := [(4, .int 1), (3, .int (nI (tsk f n j))), (0, .ref h0), (1, .int p0), (2, .int p1)]) hx hb dX9_value_40 hl (by decide) rfl (fun ls hl => ?_)
      refine lv_iload hx hb dX9_value_42 (lv_at hl 0 rfl) ?_
      refine lv_if_eq (tgt := 57) hx hb dX9_value_44 (by decide) (fun c_193 => absurd c_193 (by decide)) (fun c_193 => ?_)
      refine lv_aload_n hx hb dX9_value_47 rfl (lv_at hl 2 rfl) ?_
      refine lv_dup hx hb dX9_value_48 rfl ?_
      refine va_get (D := (dC, dI)) (ci := 11) (v := .int (nI (tsk f n j))) (C := RX9) (T := TX9) (N := 60) hx hb hts iRX9 hown hK hP 1 rfl rfl 11 (by decide) (hts (.fieldLink RX9 141 "RecordBenchModel" "at" "I") (by decide +kernel)) (fun _ h9 => h9) ((mo_get g1_3 (by decide)).trans (congrArg some k_5)) dX9_value_49 ?_
      refine lv_iconst (v := 1) hx hb dX9_value_52 (by decide) ?_
      refine lv_iadd hx hb dX9_value_53 ?_
      refine W_toi (y := nI (tsk f n j + 1)) (nI_1 _) ?_
      refine va_put (D := (dC, dI)) (ci := 11) (v := .int (nI (tsk f n j + 1))) (ty := .int) (C := RX9) (T := TX9) (N := 60) hx hb hts iRX9 tyX9 tyX9_ok nmX9 hown hK hP hD hS 1 rfl rfl 11 (by decide) (hts (.fieldLink RX9 141 "RecordBenchModel" "at" "I") (by decide +kernel)) (fun _ h9 => h9) rfl (by decide +kernel) rfl rfl (by rw [mo_len]; decide) dX9_value_54 (fun H locs hP hD hS => ?_)
      obtain ⟨g_194, eg_194⟩ : ∃ y, y = va_up g1_3 11 (.int (nI (tsk f n j + 1))) := ⟨_, rfl⟩
      have hP : va_P (dC, dI) vwCl [(a6, .inl (cP, 248, .inr (.inl fP))), (h0, .inr (11, mo g_194)), (a9, .inl (cT, 400, .inl f))] H := by rw [eg_194, ← mo_set g1_3 (by decide)]; exact hP
      have hD : va_D A [(a6, .inl (cP, 248, .inr (.inl fP))), (h0, .inr (11, mo g_194)), (a9, .inl (cT, 400, .inl f))] := by rw [eg_194, ← mo_set g1_3 (by decide)]; exact hD
      have g_194h17 : g_194 17 = .int (nI (tsk f n j)) := by rw [eg_194, va_up_ne _ _ (by decide)]; exact k_6
      have g_194h9 : g_194 9 = .ref a9 := by rw [eg_194, va_up_ne _ _ (by decide)]; exact w_8
      have g_194h12 : g_194 12 = .int (nI n) := by rw [eg_194, va_up_ne _ _ (by decide)]; exact w_9
      have g_194h13 : g_194 13 = .int b0 := by rw [eg_194, va_up_ne _ _ (by decide)]; exact w_10
      have g_194h14 : g_194 14 = v14 := by rw [eg_194, va_up_ne _ _ (by decide)]; exact w_11
      have g_194h18 : g_194 18 = .int x18 := by rw [eg_194, va_up_ne _ _ (by decide)]; exact w_12
      have g_194h6 : g_194 6 = .ref a6 := by rw [eg_194, va_up_ne _ _ (by decide)]; exact w_13
      have g_194h11 : g_194 11 = .int (nI (tsk f n j + 1)) := by rw [eg_194, va_up_self]
      have ung_194 : ∀ j : Nat, j ≠ 11 → j ≠ 17 → g_194 j = g j := fun j h11 h17 => by rw [eg_194, va_up_ne _ _ h11]; exact un_14 j h11 h17
      have hm1 : tat f n (tsk f n j) = 45 := by rw [tat_at hlt0]; exact c_192
      have hpp : tfd f n (tsk f n j) = tsk f n j + 1 := if_pos hm1
      have hmi : tsg f n (tsk f n j) = 1 := if_pos hm1
      have hpn : tfd f n (tsk f n j) ≤ n := by rw [hpp]; exact hlt0
      refine lv_aload_n hx hb dX9_value_57 rfl (lv_at hl 2 rfl) ?_
      refine va_get (D := (dC, dI)) (ci := 11) (v := .int (nI (tsk f n j + 1))) (C := RX9) (T := TX9) (N := 60) hx hb hts iRX9 hown hK hP 1 rfl rfl 11 (by decide) (hts (.fieldLink RX9 141 "RecordBenchModel" "at" "I") (by decide +kernel)) (fun _ h9 => h9) ((mo_get g_194 (by decide)).trans (congrArg some g_194h11)) dX9_value_58 ?_
      refine lv_istore (lv' := [(5, .int (nI (tsk f n j + 1))), (4, .int 1), (3, .int (nI (tsk f n j))), (0, .ref h0), (1, .int p0), (2, .int p1)]) hx hb dX9_value_61 hl (by decide) rfl (fun ls hl => ?_)
      refine lv_lconst (v := 0) hx hb dX9_value_63 (by decide) ?_
      refine lv_lstore (lv' := [(6, .long 0), (5, .int (nI (tsk f n j + 1))), (4, .int 1), (3, .int (nI (tsk f n j))), (0, .ref h0), (1, .int p0), (2, .int p1)]) hx hb dX9_value_64 hl (by decide) rfl (fun ls hl => ?_)
      refine lv_iconst (v := 0) hx hb dX9_value_66 (by decide) ?_
      refine lv_istore (lv' := [(8, .int 0), (6, .long 0), (5, .int (nI (tsk f n j + 1))), (4, .int 1), (3, .int (nI (tsk f n j))), (0, .ref h0), (1, .int p0), (2, .int p1)]) hx hb dX9_value_67 hl (by decide) rfl (fun ls hl => ?_)
      refine W_loop (σ := Nat × (Nat → Value)) (D := (dC, dI)) (A := A) [] (fun (u : Nat × (Nat → Value)) => match u with | (i, g2) => [(6, .long ((tvs f (tfd f n (tsk f n j)) (i - tfd f n (tsk f n j))).1)), (8, .int ((tvs f (tfd f n (tsk f n j)) (i - tfd f n (tsk f n j))).2)), (0, .ref h0), (1, .int p0), (2, .int p1), (3, .int (nI (tsk f n j))), (4, .int 1), (5, .int (nI (tfd f n (tsk f n j))))]) (fun (u : Nat × (Nat → Value)) => match u with | (i, g2) => [(h0, .inr (11, mo g2)), (a9, .inl (cT, 400, .inl f)), (a6, .inl (cP, 248, .inr (.inl fP)))]) (fun (u : Nat × (Nat → Value)) => match u with | (i, g2) => (tfd f n (tsk f n j) ≤ i) ∧ (i ≤ tfd f n (tsk f n j) + 19) ∧ (i ≤ n) ∧ (tde f n i = tde f n (tfd f n (tsk f n j))) ∧ (g2 6 = .ref a6) ∧ (g2 9 = .ref a9) ∧ (g2 11 = .int (nI i)) ∧ (g2 12 = .int (nI n)) ∧ (g2 13 = .int b0) ∧ (g2 14 = v14) ∧ (g2 18 = .int x18) ∧ (∀ k : Nat, k ≠ 11 → k ≠ 17 → g2 k = g k)) (fun (u : Nat × (Nat → Value)) => match u with | (i, g2) => n - i) ?_ ((tfd f n (tsk f n j)), g_194) ⟨(Nat.le_refl _), (by omega), hpn, rfl, g_194h6, g_194h9, (g_194h11.trans (by rw [hpp])), g_194h12, g_194h13, g_194h14, g_194h18, (fun k h1 h2 => ung_194 k h1 h2)⟩ _ _ _ (hP.sub (ws' := [(h0, .inr (11, mo g_194)), (a9, .inl (cT, 400, .inl f)), (a6, .inl (cP, 248, .inr (.inl fP)))]) [1, 2, 0] rfl) (hD.sub (ws' := [(h0, .inr (11, mo g_194)), (a9, .inl (cT, 400, .inl f)), (a6, .inl (cP, 248, .inr (.inl fP)))]) [1, 2, 0] (by decide) rfl) hS (by show lv_has _ _ [(6, .long ((tvs f (tfd f n (tsk f n j)) (tfd f n (tsk f n j) - tfd f n (tsk f n j))).1)), (8, .int ((tvs f (tfd f n (tsk f n j)) (tfd f n (tsk f n j) - tfd f n (tsk f n j))).2)), (0, .ref h0), (1, .int p0), (2, .int p1), (3, .int (nI (tsk f n j))), (4, .int 1), (5, .int (nI (tfd f n (tsk f n j))))]; rw [Nat.sub_self, hpp]; exact lv_sub hl [1, 0, 5, 6, 7, 4, 3, 2] rfl)
      intro u hI H locs ls hP hD hS hl ih
      obtain ⟨i, g2⟩ := u
      try dsimp only at hI
      obtain ⟨hi1, hi2, hi3, hde, h6, h9, h11, h12, h13, h14, h18, hun⟩ := hI
      have hP : va_P (dC, dI) vwCl [(h0, .inr (11, mo g2)), (a9, .inl (cT, 400, .inl f)), (a6, .inl (cP, 248, .inr (.inl fP)))] H := hP
      have hD : va_D A [(h0, .inr (11, mo g2)), (a9, .inl (cT, 400, .inl f)), (a6, .inl (cP, 248, .inr (.inl fP)))] := hD
      have hl : lv_has ls 10 [(6, .long ((tvs f (tfd f n (tsk f n j)) (i - tfd f n (tsk f n j))).1)), (8, .int ((tvs f (tfd f n (tsk f n j)) (i - tfd f n (tsk f n j))).2)), (0, .ref h0), (1, .int p0), (2, .int p1), (3, .int (nI (tsk f n j))), (4, .int 1), (5, .int (nI (tfd f n (tsk f n j))))] := hl
      refine lv_aload_n hx hb dX9_value_69 rfl (lv_at hl 2 rfl) ?_
      refine va_get (D := (dC, dI)) (ci := 11) (v := .int (nI i)) (C := RX9) (T := TX9) (N := 60) hx hb hts iRX9 hown hK hP 0 rfl rfl 11 (by decide) (hts (.fieldLink RX9 141 "RecordBenchModel" "at" "I") (by decide +kernel)) (fun _ h9 => h9) ((mo_get g2 (by decide)).trans (congrArg some h11)) dX9_value_70 ?_
      refine lv_aload_n hx hb dX9_value_73 rfl (lv_at hl 2 rfl) ?_
      refine va_get (D := (dC, dI)) (ci := 11) (v := .int (nI n)) (C := RX9) (T := TX9) (N := 60) hx hb hts iRX9 hown hK hP 0 rfl rfl 12 (by decide) (hts (.fieldLink RX9 144 "RecordBenchModel" "size" "I") (by decide +kernel)) (fun _ h9 => h9) ((mo_get g2 (by decide)).trans (congrArg some h12)) dX9_value_74 ?_
      refine lv_icmp_ge (tgt := 198) hx hb dX9_value_77 (by decide) (fun c_195 => ?_) (fun c_195 => ?_)
      · have htd : tde f n (tfd f n (tsk f n j)) = i := hde.symm.trans (tde_no (fun h => absurd h.1 (by have := nI_leN (by omega) (by omega) c_195; omega)))
        refine lv_aload_n hx hb dX9_value_198 rfl (lv_at hl 2 rfl) ?_
        refine va_get (D := (dC, dI)) (ci := 11) (v := .int (nI i)) (C := RX9) (T := TX9) (N := 60) hx hb hts iRX9 hown hK hP 0 rfl rfl 11 (by decide) (hts (.fieldLink RX9 141 "RecordBenchModel" "at" "I") (by decide +kernel)) (fun _ h9 => h9) ((mo_get g2 (by decide)).trans (congrArg some h11)) dX9_value_199 ?_
        refine lv_iload hx hb dX9_value_202 (lv_at hl 7 rfl) ?_
        refine lv_icmp_ne (tgt := 217) hx hb dX9_value_204 (by decide) (fun c_196 => ?_) (fun c_196 => ?_)
        · refine lv_aload_n hx hb dX9_value_217 rfl (lv_at hl 2 rfl) ?_
          refine lv_aload_n hx hb dX9_value_218 rfl (lv_at hl 2 rfl) ?_
          refine va_get (D := (dC, dI)) (ci := 11) (v := .int (nI i)) (C := RX9) (T := TX9) (N := 60) hx hb hts iRX9 hown hK hP 0 rfl rfl 11 (by decide) (hts (.fieldLink RX9 141 "RecordBenchModel" "at" "I") (by decide +kernel)) (fun _ h9 => h9) ((mo_get g2 (by decide)).trans (congrArg some h11)) dX9_value_219 ?_
          refine va_put (D := (dC, dI)) (ci := 11) (v := .int (nI i)) (ty := .int) (C := RX9) (T := TX9) (N := 60) hx hb hts iRX9 tyX9 tyX9_ok nmX9 hown hK hP hD hS 0 rfl rfl 18 (by decide) (hts (.fieldLink RX9 162 "RecordBenchModel" "ended" "I") (by decide +kernel)) (fun _ h9 => h9) rfl (by decide +kernel) rfl rfl (by rw [mo_len]; decide) dX9_value_222 (fun H locs hP hD hS => ?_)
          obtain ⟨g_197, eg_197⟩ : ∃ y, y = va_up g2 18 (.int (nI i)) := ⟨_, rfl⟩
          have hP : va_P (dC, dI) vwCl [(h0, .inr (11, mo g_197)), (a9, .inl (cT, 400, .inl f)), (a6, .inl (cP, 248, .inr (.inl fP)))] H := by rw [eg_197, ← mo_set g2 (by decide)]; exact hP
          have hD : va_D A [(h0, .inr (11, mo g_197)), (a9, .inl (cT, 400, .inl f)), (a6, .inl (cP, 248, .inr (.inl fP)))] := by rw [eg_197, ← mo_set g2 (by decide)]; exact hD
          have g_197h6 : g_197 6 = .ref a6 := by rw [eg_197, va_up_ne _ _ (by decide)]; exact h6
          have g_197h9 : g_197 9 = .ref a9 := by rw [eg_197, va_up_ne _ _ (by decide)]; exact h9
          have g_197h11 : g_197 11 = .int (nI i) := by rw [eg_197, va_up_ne _ _ (by decide)]; exact h11
          have g_197h12 : g_197 12 = .int (nI n) := by rw [eg_197, va_up_ne _ _ (by decide)]; exact h12
          have g_197h13 : g_197 13 = .int b0 := by rw [eg_197, va_up_ne _ _ (by decide)]; exact h13
          have g_197h14 : g_197 14 = v14 := by rw [eg_197, va_up_ne _ _ (by decide)]; exact h14
          have g_197h18 : g_197 18 = .int (nI i) := by rw [eg_197, va_up_self]
          have ung_197 : ∀ j : Nat, j ≠ 11 → j ≠ 17 → j ≠ 18 → g_197 j = g j := fun j h11 h17 h18 => by rw [eg_197, va_up_ne _ _ h18]; exact hun j h11 h17
          refine lv_iload hx hb dX9_value_225 (lv_at hl 6 rfl) ?_
          refine lv_if_ne (tgt := 242) hx hb dX9_value_227 (by decide) (fun c_198 => ?_) (fun c_198 => absurd c_198 (by decide))
          refine lv_iload hx hb dX9_value_242 (lv_at hl 6 rfl) ?_
          refine lv_if_ne (tgt := 253) hx hb dX9_value_244 (by decide) (fun c_199 => ?_) (fun c_199 => absurd c_199 (by decide))
          refine lv_iload hx hb dX9_value_253 (lv_at hl 1 rfl) ?_
          refine lv_if_ne (tgt := 267) hx hb dX9_value_255 (by decide) (fun c_200 => ?_) (fun c_200 => ?_)
          · refine lv_aload_n hx hb dX9_value_267 rfl (lv_at hl 2 rfl) ?_
            refine lv_iconst (v := 2) hx hb dX9_value_268 (by decide) ?_
            refine lv_iload_n hx hb dX9_value_269 rfl (lv_at hl 5 rfl) ?_
            have hFc := va_free (wc := [(h0, .inr (11, mo g_197))]) hD hS hA [0] rfl
            refine va_callv (va_runV (As := [.int 2, .int (nI (tsk f n j))]) (rest := []) ⟨hx, hb, hml, hown, hts⟩ (c_X9_fail l dC dI h0 g_197 b0 (v14) g_197h13 g_197h14 2 (nI (tsk f n j)) (by decide) H.size) (cwV 2 hts gp_X9_value_X9_fail_154 rfl rfl rfl (by decide +kernel) ⟨Nat.le_of_ble_eq_true rfl, Nat.le_of_ble_eq_true rfl⟩) ⟨Pr.blind _, va_recv hK hP (ci := 11) (q0 := 0) rfl rfl, fun U hU hW => ⟨rfl, Pr.at (hP.sub (ws' := [(h0, .inr (11, mo g_197))]) [0] rfl) (hK.sub (tys' := []) [] rfl) (hD.sub (ws' := [(h0, .inr (11, mo g_197))]) [0] (by decide) rfl) hN hZ RO.nil hS hFc hU hW⟩⟩ rfl rfl hl.1 rfl (lv_room (Nat.le_of_ble_eq_true rfl)) dX9_value_270 ⟨Nat.le_of_ble_eq_true rfl, Nat.le_of_ble_eq_true rfl⟩) hS (fun q _ h => hFc q h) hFc (fun u t H1 locs ht hvm hw_202 hB hz1 hk1 hS => ?_)
            obtain ⟨g1_203, b1_204⟩ := u
            obtain ⟨hP, hD, hK⟩ := Bq.join (wr := [(a9, .inl (cT, 400, .inl f)), (a6, .inl (cP, 248, .inr (.inl fP)))]) hB ht hvm hP hD [0] [1, 2] rfl rfl (by decide) (by decide) hk1 hFc hK
            generalize H1 = H at hP hS ⊢
            have hP : va_P (dC, dI) vwCl [(a9, .inl (cT, 400, .inl f)), (a6, .inl (cP, 248, .inr (.inl fP))), (h0, .inr (11, mo g1_203))] H := hP
            have hD : va_D A [(a9, .inl (cT, 400, .inl f)), (a6, .inl (cP, 248, .inr (.inl fP))), (h0, .inr (11, mo g1_203))] := hD
            have hK : va_K (dC, dI) vwCl [(cT, .int), (cP, .long)] s := hK
            try dsimp only at hw_202
            obtain ⟨k_205, k_206, k_207⟩ := hw_202
            have w_208 : g1_203 6 = .ref a6 := (k_207 6 (by decide) (by decide)).trans g_197h6
            have w_209 : g1_203 9 = .ref a9 := (k_207 9 (by decide) (by decide)).trans g_197h9
            have w_210 : g1_203 11 = .int (nI i) := (k_207 11 (by decide) (by decide)).trans g_197h11
            have w_211 : g1_203 12 = .int (nI n) := (k_207 12 (by decide) (by decide)).trans g_197h12
            have w_212 : g1_203 18 = .int (nI i) := (k_207 18 (by decide) (by decide)).trans g_197h18
            have un_213 : ∀ j : Nat, j ≠ 11 → j ≠ 13 → j ≠ 14 → j ≠ 17 → j ≠ 18 → g1_203 j = g j := fun j h11 h13 h14 h17 h18 => (k_207 j h13 h14).trans (ung_197 j h11 h17 h18)
            refine lv_aload_n hx hb dX9_value_273 rfl (lv_at hl 2 rfl) ?_
            refine va_get (D := (dC, dI)) (ci := 11) (v := .ref a6) (C := RX9) (T := TX9) (N := 60) hx hb hts iRX9 hown hK hP 2 rfl rfl 6 (by decide) (hts (.fieldLink RX9 30 "RecordBenchModel" "plain" "[J") (by decide +kernel)) (fun _ h9 => h9) ((mo_get g1_203 (by decide)).trans (congrArg some w_208)) dX9_value_274 ?_
            refine lv_iload_n hx hb dX9_value_277 rfl (lv_at hl 3 rfl) ?_
            refine lv_lload hx hb dX9_value_278 (lv_at hl 0 rfl) ?_
            refine va_last hx hb hK hP hD hS 1 1 rfl rfl hp0 dX9_value_280 (fun H locs hP hD hS => ?_)
            obtain ⟨f_214, ef_214⟩ : ∃ y : Nat → Int64, y = vp_updL fP (p0 : Int32).toNatClampNeg ((tvs f (tfd f n (tsk f n j)) (i - tfd f n (tsk f n j))).1) := ⟨_, rfl⟩
            have hP : va_P (dC, dI) vwCl [(a9, .inl (cT, 400, .inl f)), (a6, .inl (cP, 248, .inr (.inl f_214))), (h0, .inr (11, mo g1_203))] H := by rw [ef_214]; exact hP
            have hD : va_D A [(a9, .inl (cT, 400, .inl f)), (a6, .inl (cP, 248, .inr (.inl f_214))), (h0, .inr (11, mo g1_203))] := by rw [ef_214]; exact hD
            have hP9 := hP.sub (ws' := [(h0, .inr (11, mo g1_203)), (a9, .inl (cT, 400, .inl f)), (a6, .inl (cP, 248, .inr (.inl f_214)))]) [2, 0, 1] rfl
            have hD9 := hD.sub (ws' := [(h0, .inr (11, mo g1_203)), (a9, .inl (cT, 400, .inl f)), (a6, .inl (cP, 248, .inr (.inl f_214)))]) [2, 0, 1] (by decide) rfl
            have hK9 := hK.sub (tys' := []) [] rfl
            exact W.vret hx hb hr (fun t ht hW => ⟨⟨(g1_203, i, b1_204, (nI i), f_214), rfl, ⟨Or.inr ⟨fun h => c_200 (by have := h.2.2.1; rw [htd] at this; exact this), hi3, k_205⟩, w_210, k_206, w_212, (fun j h11 h13 h14 h17 h18 => un_213 j h11 h13 h14 h17 h18)⟩, by rw [ht]; exact hP9, va_K.moved hW.alike hK9, hD9⟩, hS.F ht⟩) hS.2.2 dX9_value_281
          · refine lv_lload hx hb dX9_value_258 (lv_at hl 0 rfl) ?_
            refine lv_iload_n hx hb dX9_value_260 rfl (lv_at hl 4 rfl) ?_
            have hFc := va_free (wc := []) hD hS hA [] rfl
            refine va_calli (va_runS (As := [.long ((tvs f (tfd f n (tsk f n j)) (i - tfd f n (tsk f n j))).1), .int p1]) (rest := []) ⟨hx, hb, hml, hown, hts⟩ (c_X9_isOf l dC dI ((tvs f (tfd f n (tsk f n j)) (i - tfd f n (tsk f n j))).1) p1 H.size) (cwS 2 hts gp_X9_value_X9_isOf_229 rfl rfl rfl (by decide +kernel) ⟨Nat.le_of_ble_eq_true rfl, Nat.le_of_ble_eq_true rfl⟩) ⟨Pr.blind _, fun U hU hW => ⟨rfl, Pr.at (hP.sub (ws' := []) [] rfl) (hK.sub (tys' := []) [] rfl) (hD.sub (ws' := []) [] (by decide) rfl) hN hZ RO.nil hS hFc hU hW⟩⟩ rfl rfl hl.1 rfl (lv_room (Nat.le_of_ble_eq_true rfl)) dX9_value_261 ⟨Nat.le_of_ble_eq_true rfl, Nat.le_of_ble_eq_true rfl⟩) hS (fun q _ h => hFc q h) hFc (fun r_215 u t H1 locs ht hvm hw_216 hB hz1 hk1 hS => ?_)
            obtain ⟨hP, hD, hK⟩ := Bq.join (wr := [(h0, .inr (11, mo g_197)), (a9, .inl (cT, 400, .inl f)), (a6, .inl (cP, 248, .inr (.inl fP)))]) hB ht hvm hP hD [] [0, 1, 2] rfl rfl (by decide) (by decide) hk1 hFc hK
            generalize H1 = H at hP hS ⊢
            have hP : va_P (dC, dI) vwCl [(h0, .inr (11, mo g_197)), (a9, .inl (cT, 400, .inl f)), (a6, .inl (cP, 248, .inr (.inl fP)))] H := hP
            have hD : va_D A [(h0, .inr (11, mo g_197)), (a9, .inl (cT, 400, .inl f)), (a6, .inl (cP, 248, .inr (.inl fP)))] := hD
            have hK : va_K (dC, dI) vwCl [(cT, .int), (cP, .long)] s := hK
            try dsimp only at hw_216
            have k_217 := hw_216
            rcases k_217 with ⟨ho, rfl⟩ | ⟨ho, rfl⟩
            · refine W.eq (g2 := F0 m 264 ls [.int 1]) rfl ?_
              refine lv_if_ne (tgt := 273) hx hb dX9_value_264 (by decide) (fun c_218 => ?_) (fun c_218 => absurd c_218 (by decide))
              refine lv_aload_n hx hb dX9_value_273 rfl (lv_at hl 2 rfl) ?_
              refine va_get (D := (dC, dI)) (ci := 11) (v := .ref a6) (C := RX9) (T := TX9) (N := 60) hx hb hts iRX9 hown hK hP 0 rfl rfl 6 (by decide) (hts (.fieldLink RX9 30 "RecordBenchModel" "plain" "[J") (by decide +kernel)) (fun _ h9 => h9) ((mo_get g_197 (by decide)).trans (congrArg some g_197h6)) dX9_value_274 ?_
              refine lv_iload_n hx hb dX9_value_277 rfl (lv_at hl 3 rfl) ?_
              refine lv_lload hx hb dX9_value_278 (lv_at hl 0 rfl) ?_
              refine va_last hx hb hK hP hD hS 2 1 rfl rfl hp0 dX9_value_280 (fun H locs hP hD hS => ?_)
              obtain ⟨f_219, ef_219⟩ : ∃ y : Nat → Int64, y = vp_updL fP (p0 : Int32).toNatClampNeg ((tvs f (tfd f n (tsk f n j)) (i - tfd f n (tsk f n j))).1) := ⟨_, rfl⟩
              have hP : va_P (dC, dI) vwCl [(h0, .inr (11, mo g_197)), (a9, .inl (cT, 400, .inl f)), (a6, .inl (cP, 248, .inr (.inl f_219)))] H := by rw [ef_219]; exact hP
              have hD : va_D A [(h0, .inr (11, mo g_197)), (a9, .inl (cT, 400, .inl f)), (a6, .inl (cP, 248, .inr (.inl f_219)))] := by rw [ef_219]; exact hD
              have hP9 := hP.sub (ws' := [(h0, .inr (11, mo g_197)), (a9, .inl (cT, 400, .inl f)), (a6, .inl (cP, 248, .inr (.inl f_219)))]) [0, 1, 2] rfl
              have hD9 := hD.sub (ws' := [(h0, .inr (11, mo g_197)), (a9, .inl (cT, 400, .inl f)), (a6, .inl (cP, 248, .inr (.inl f_219)))]) [0, 1, 2] (by decide) rfl
              have hK9 := hK.sub (tys' := []) [] rfl
              exact W.vret hx hb hr (fun t ht hW => ⟨⟨(g_197, i, b0, (nI i), f_219), rfl, ⟨Or.inl ⟨⟨by rw [htd]; exact fun h => c_196 (by rw [h]), by rw [htd]; omega, by rw [htd]; exact ⟨c_200, (fun h => absurd h.1 (by rw [hmi]; decide)), by rw [tvv, hmi, if_neg (by decide)]; exact ho⟩⟩, htd.symm, rfl, by rw [htd], by rw [ef_219, htd, tvv, hmi, if_neg (by decide)]⟩, g_197h11, g_197h13, g_197h18, (fun j h11 h13 h14 h17 h18 => ung_197 j h11 h17 h18)⟩, by rw [ht]; exact hP9, va_K.moved hW.alike hK9, hD9⟩, hS.F ht⟩) hS.2.2 dX9_value_281
            · refine W.eq (g2 := F0 m 264 ls [.int 0]) rfl ?_
              refine lv_if_ne (tgt := 273) hx hb dX9_value_264 (by decide) (fun c_220 => absurd (by decide) c_220) (fun c_220 => ?_)
              refine lv_aload_n hx hb dX9_value_267 rfl (lv_at hl 2 rfl) ?_
              refine lv_iconst (v := 2) hx hb dX9_value_268 (by decide) ?_
              refine lv_iload_n hx hb dX9_value_269 rfl (lv_at hl 5 rfl) ?_
              have hFc := va_free (wc := [(h0, .inr (11, mo g_197))]) hD hS hA [0] rfl
              refine va_callv (va_runV (As := [.int 2, .int (nI (tsk f n j))]) (rest := []) ⟨hx, hb, hml, hown, hts⟩ (c_X9_fail l dC dI h0 g_197 b0 (v14) g_197h13 g_197h14 2 (nI (tsk f n j)) (by decide) H.size) (cwV 2 hts gp_X9_value_X9_fail_154 rfl rfl rfl (by decide +kernel) ⟨Nat.le_of_ble_eq_true rfl, Nat.le_of_ble_eq_true rfl⟩) ⟨Pr.blind _, va_recv hK hP (ci := 11) (q0 := 0) rfl rfl, fun U hU hW => ⟨rfl, Pr.at (hP.sub (ws' := [(h0, .inr (11, mo g_197))]) [0] rfl) (hK.sub (tys' := []) [] rfl) (hD.sub (ws' := [(h0, .inr (11, mo g_197))]) [0] (by decide) rfl) hN hZ RO.nil hS hFc hU hW⟩⟩ rfl rfl hl.1 rfl (lv_room (Nat.le_of_ble_eq_true rfl)) dX9_value_270 ⟨Nat.le_of_ble_eq_true rfl, Nat.le_of_ble_eq_true rfl⟩) hS (fun q _ h => hFc q h) hFc (fun u t H1 locs ht hvm hw_222 hB hz1 hk1 hS => ?_)
              obtain ⟨g1_223, b1_224⟩ := u
              obtain ⟨hP, hD, hK⟩ := Bq.join (wr := [(a9, .inl (cT, 400, .inl f)), (a6, .inl (cP, 248, .inr (.inl fP)))]) hB ht hvm hP hD [0] [1, 2] rfl rfl (by decide) (by decide) hk1 hFc hK
              generalize H1 = H at hP hS ⊢
              have hP : va_P (dC, dI) vwCl [(a9, .inl (cT, 400, .inl f)), (a6, .inl (cP, 248, .inr (.inl fP))), (h0, .inr (11, mo g1_223))] H := hP
              have hD : va_D A [(a9, .inl (cT, 400, .inl f)), (a6, .inl (cP, 248, .inr (.inl fP))), (h0, .inr (11, mo g1_223))] := hD
              have hK : va_K (dC, dI) vwCl [(cT, .int), (cP, .long)] s := hK
              try dsimp only at hw_222
              obtain ⟨k_225, k_226, k_227⟩ := hw_222
              have w_228 : g1_223 6 = .ref a6 := (k_227 6 (by decide) (by decide)).trans g_197h6
              have w_229 : g1_223 9 = .ref a9 := (k_227 9 (by decide) (by decide)).trans g_197h9
              have w_230 : g1_223 11 = .int (nI i) := (k_227 11 (by decide) (by decide)).trans g_197h11
              have w_231 : g1_223 12 = .int (nI n) := (k_227 12 (by decide) (by decide)).trans g_197h12
              have w_232 : g1_223 18 = .int (nI i) := (k_227 18 (by decide) (by decide)).trans g_197h18
              have un_233 : ∀ j : Nat, j ≠ 11 → j ≠ 13 → j ≠ 14 → j ≠ 17 → j ≠ 18 → g1_223 j = g j := fun j h11 h13 h14 h17 h18 => (k_227 j h13 h14).trans (ung_197 j h11 h17 h18)
              refine lv_aload_n hx hb dX9_value_273 rfl (lv_at hl 2 rfl) ?_
              refine va_get (D := (dC, dI)) (ci := 11) (v := .ref a6) (C := RX9) (T := TX9) (N := 60) hx hb hts iRX9 hown hK hP 2 rfl rfl 6 (by decide) (hts (.fieldLink RX9 30 "RecordBenchModel" "plain" "[J") (by decide +kernel)) (fun _ h9 => h9) ((mo_get g1_223 (by decide)).trans (congrArg some w_228)) dX9_value_274 ?_
              refine lv_iload_n hx hb dX9_value_277 rfl (lv_at hl 3 rfl) ?_
              refine lv_lload hx hb dX9_value_278 (lv_at hl 0 rfl) ?_
              refine va_last hx hb hK hP hD hS 1 1 rfl rfl hp0 dX9_value_280 (fun H locs hP hD hS => ?_)
              obtain ⟨f_234, ef_234⟩ : ∃ y : Nat → Int64, y = vp_updL fP (p0 : Int32).toNatClampNeg ((tvs f (tfd f n (tsk f n j)) (i - tfd f n (tsk f n j))).1) := ⟨_, rfl⟩
              have hP : va_P (dC, dI) vwCl [(a9, .inl (cT, 400, .inl f)), (a6, .inl (cP, 248, .inr (.inl f_234))), (h0, .inr (11, mo g1_223))] H := by rw [ef_234]; exact hP
              have hD : va_D A [(a9, .inl (cT, 400, .inl f)), (a6, .inl (cP, 248, .inr (.inl f_234))), (h0, .inr (11, mo g1_223))] := by rw [ef_234]; exact hD
              have hP9 := hP.sub (ws' := [(h0, .inr (11, mo g1_223)), (a9, .inl (cT, 400, .inl f)), (a6, .inl (cP, 248, .inr (.inl f_234)))]) [2, 0, 1] rfl
              have hD9 := hD.sub (ws' := [(h0, .inr (11, mo g1_223)), (a9, .inl (cT, 400, .inl f)), (a6, .inl (cP, 248, .inr (.inl f_234)))]) [2, 0, 1] (by decide) rfl
              have hK9 := hK.sub (tys' := []) [] rfl
              exact W.vret hx hb hr (fun t ht hW => ⟨⟨(g1_223, i, b1_224, (nI i), f_234), rfl, ⟨Or.inr ⟨fun h => ho (by have := h.2.2.2.2; rw [htd, tvv, hmi, if_neg (by decide)] at this; exact this), hi3, k_225⟩, w_230, k_226, w_232, (fun j h11 h13 h14 h17 h18 => un_233 j h11 h13 h14 h17 h18)⟩, by rw [ht]; exact hP9, va_K.moved hW.alike hK9, hD9⟩, hS.F ht⟩) hS.2.2 dX9_value_281
        · refine lv_aload_n hx hb dX9_value_207 rfl (lv_at hl 2 rfl) ?_
          refine lv_iconst (v := 1) hx hb dX9_value_208 (by decide) ?_
          refine lv_aload_n hx hb dX9_value_209 rfl (lv_at hl 2 rfl) ?_
          refine va_get (D := (dC, dI)) (ci := 11) (v := .int (nI i)) (C := RX9) (T := TX9) (N := 60) hx hb hts iRX9 hown hK hP 0 rfl rfl 11 (by decide) (hts (.fieldLink RX9 141 "RecordBenchModel" "at" "I") (by decide +kernel)) (fun _ h9 => h9) ((mo_get g2 (by decide)).trans (congrArg some h11)) dX9_value_210 ?_
          have hFc := va_free (wc := [(h0, .inr (11, mo g2))]) hD hS hA [0] rfl
          refine va_callv (va_runV (As := [.int 1, .int (nI i)]) (rest := []) ⟨hx, hb, hml, hown, hts⟩ (c_X9_fail l dC dI h0 g2 b0 (v14) h13 h14 1 (nI i) (by decide) H.size) (cwV 2 hts gp_X9_value_X9_fail_154 rfl rfl rfl (by decide +kernel) ⟨Nat.le_of_ble_eq_true rfl, Nat.le_of_ble_eq_true rfl⟩) ⟨Pr.blind _, va_recv hK hP (ci := 11) (q0 := 0) rfl rfl, fun U hU hW => ⟨rfl, Pr.at (hP.sub (ws' := [(h0, .inr (11, mo g2))]) [0] rfl) (hK.sub (tys' := []) [] rfl) (hD.sub (ws' := [(h0, .inr (11, mo g2))]) [0] (by decide) rfl) hN hZ RO.nil hS hFc hU hW⟩⟩ rfl rfl hl.1 rfl (lv_room (Nat.le_of_ble_eq_true rfl)) dX9_value_213 ⟨Nat.le_of_ble_eq_true rfl, Nat.le_of_ble_eq_true rfl⟩) hS (fun q _ h => hFc q h) hFc (fun u t H1 locs ht hvm hw_236 hB hz1 hk1 hS => ?_)
          obtain ⟨g1_237, b1_238⟩ := u
          obtain ⟨hP, hD, hK⟩ := Bq.join (wr := [(a9, .inl (cT, 400, .inl f)), (a6, .inl (cP, 248, .inr (.inl fP)))]) hB ht hvm hP hD [0] [1, 2] rfl rfl (by decide) (by decide) hk1 hFc hK
          generalize H1 = H at hP hS ⊢
          have hP : va_P (dC, dI) vwCl [(a9, .inl (cT, 400, .inl f)), (a6, .inl (cP, 248, .inr (.inl fP))), (h0, .inr (11, mo g1_237))] H := hP
          have hD : va_D A [(a9, .inl (cT, 400, .inl f)), (a6, .inl (cP, 248, .inr (.inl fP))), (h0, .inr (11, mo g1_237))] := hD
          have hK : va_K (dC, dI) vwCl [(cT, .int), (cP, .long)] s := hK
          try dsimp only at hw_236
          obtain ⟨k_239, k_240, k_241⟩ := hw_236
          have w_242 : g1_237 6 = .ref a6 := (k_241 6 (by decide) (by decide)).trans h6
          have w_243 : g1_237 9 = .ref a9 := (k_241 9 (by decide) (by decide)).trans h9
          have w_244 : g1_237 11 = .int (nI i) := (k_241 11 (by decide) (by decide)).trans h11
          have w_245 : g1_237 12 = .int (nI n) := (k_241 12 (by decide) (by decide)).trans h12
          have w_246 : g1_237 18 = .int x18 := (k_241 18 (by decide) (by decide)).trans h18
          have un_247 : ∀ j : Nat, j ≠ 11 → j ≠ 13 → j ≠ 14 → j ≠ 17 → g1_237 j = g j := fun j h11 h13 h14 h17 => (k_241 j h13 h14).trans (hun j h11 h17)
          have hP9 := hP.sub (ws' := [(h0, .inr (11, mo g1_237)), (a9, .inl (cT, 400, .inl f)), (a6, .inl (cP, 248, .inr (.inl fP)))]) [2, 0, 1] rfl
          have hD9 := hD.sub (ws' := [(h0, .inr (11, mo g1_237)), (a9, .inl (cT, 400, .inl f)), (a6, .inl (cP, 248, .inr (.inl fP)))]) [2, 0, 1] (by decide) rfl
          have hK9 := hK.sub (tys' := []) [] rfl
          exact W.vret hx hb hr (fun t ht hW => ⟨⟨(g1_237, i, b1_238, x18, fP), rfl, ⟨Or.inr ⟨fun h => h.1 (by rw [htd]; exact (nI_eq (by omega) (by omega)).mp c_196), hi3, k_239⟩, w_244, k_240, w_246, (fun j h11 h13 h14 h17 h18 => un_247 j h11 h13 h14 h17)⟩, by rw [ht]; exact hP9, va_K.moved hW.alike hK9, hD9⟩, hS.F ht⟩) hS.2.2 dX9_value_216
      · have hlt : i < n := nI_ltN (by omega) (by omega) c_195
        refine lv_aload_n hx hb dX9_value_80 rfl (lv_at hl 2 rfl) ?_
        refine va_get (D := (dC, dI)) (ci := 11) (v := .ref a9) (C := RX9) (T := TX9) (N := 60) hx hb hts iRX9 hown hK hP 0 rfl rfl 9 (by decide) (hts (.fieldLink RX9 39 "RecordBenchModel" "tape" "[I") (by decide +kernel)) (fun _ h9 => h9) ((mo_get g2 (by decide)).trans (congrArg some h9)) dX9_value_81 ?_
        refine lv_aload_n hx hb dX9_value_84 rfl (lv_at hl 2 rfl) ?_
        refine va_get (D := (dC, dI)) (ci := 11) (v := .int (nI i)) (C := RX9) (T := TX9) (N := 60) hx hb hts iRX9 hown hK hP 0 rfl rfl 11 (by decide) (hts (.fieldLink RX9 141 "RecordBenchModel" "at" "I") (by decide +kernel)) (fun _ h9 => h9) ((mo_get g2 (by decide)).trans (congrArg some h11)) dX9_value_85 ?_
        refine va_iald hx hb hK hP 1 0 rfl rfl (vp_in_nI (by omega) (by decide)) dX9_value_88 ?_
        refine W_toi (y := f i) (by rw [nI_clamp (by omega)]) ?_
        have hFc := va_free (wc := []) hD hS hA [] rfl
        refine va_calli (va_runS (As := [.int (f i)]) (rest := []) ⟨hx, hb, hml, hown, hts⟩ (c_X9_isDigit l dC dI (f i) H.size) (cwS 1 hts gp_X9_value_X9_isDigit_158 rfl rfl rfl (by decide +kernel) ⟨Nat.le_of_ble_eq_true rfl, Nat.le_of_ble_eq_true rfl⟩) ⟨Pr.blind _, fun U hU hW => ⟨rfl, Pr.at (hP.sub (ws' := []) [] rfl) (hK.sub (tys' := []) [] rfl) (hD.sub (ws' := []) [] (by decide) rfl) hN hZ RO.nil hS hFc hU hW⟩⟩ rfl rfl hl.1 rfl (lv_room (Nat.le_of_ble_eq_true rfl)) dX9_value_89 ⟨Nat.le_of_ble_eq_true rfl, Nat.le_of_ble_eq_true rfl⟩) hS (fun q _ h => hFc q h) hFc (fun r_248 u t H1 locs ht hvm hw_249 hB hz1 hk1 hS => ?_)
        obtain ⟨hP, hD, hK⟩ := Bq.join (wr := [(h0, .inr (11, mo g2)), (a9, .inl (cT, 400, .inl f)), (a6, .inl (cP, 248, .inr (.inl fP)))]) hB ht hvm hP hD [] [0, 1, 2] rfl rfl (by decide) (by decide) hk1 hFc hK
        generalize H1 = H at hP hS ⊢
        have hP : va_P (dC, dI) vwCl [(h0, .inr (11, mo g2)), (a9, .inl (cT, 400, .inl f)), (a6, .inl (cP, 248, .inr (.inl fP)))] H := hP
        have hD : va_D A [(h0, .inr (11, mo g2)), (a9, .inl (cT, 400, .inl f)), (a6, .inl (cP, 248, .inr (.inl fP)))] := hD
        have hK : va_K (dC, dI) vwCl [(cT, .int), (cP, .long)] s := hK
        try dsimp only at hw_249
        have k_250 := hw_249
        rcases k_250 with ⟨ho, rfl⟩ | ⟨ho, rfl⟩
        · refine W.eq (g2 := F0 m 92 ls [.int 1]) rfl ?_
          refine lv_if_eq (tgt := 198) hx hb dX9_value_92 (by decide) (fun c_251 => absurd c_251 (by decide)) (fun c_251 => ?_)
          refine lv_aload_n hx hb dX9_value_95 rfl (lv_at hl 2 rfl) ?_
          refine va_get (D := (dC, dI)) (ci := 11) (v := .int (nI i)) (C := RX9) (T := TX9) (N := 60) hx hb hts iRX9 hown hK hP 0 rfl rfl 11 (by decide) (hts (.fieldLink RX9 141 "RecordBenchModel" "at" "I") (by decide +kernel)) (fun _ h9 => h9) ((mo_get g2 (by decide)).trans (congrArg some h11)) dX9_value_96 ?_
          refine lv_iload hx hb dX9_value_99 (lv_at hl 7 rfl) ?_
          refine lv_isub hx hb dX9_value_101 ?_
          refine W_toi (y := nI (i - tfd f n (tsk f n j))) (pk_sub hi1) ?_
          refine lv_bipush (v := 19) hx hb dX9_value_102 (by decide) ?_
          refine lv_icmp_ne (tgt := 117) hx hb dX9_value_104 (by decide) (fun c_252 => ?_) (fun c_252 => ?_)
          · have hne : i - tfd f n (tsk f n j) ≠ 19 := fun h => c_252 (by rw [h]; rfl)
            refine lv_aload_n hx hb dX9_value_117 rfl (lv_at hl 2 rfl) ?_
            refine va_get (D := (dC, dI)) (ci := 11) (v := .ref a9) (C := RX9) (T := TX9) (N := 60) hx hb hts iRX9 hown hK hP 0 rfl rfl 9 (by decide) (hts (.fieldLink RX9 39 "RecordBenchModel" "tape" "[I") (by decide +kernel)) (fun _ h9 => h9) ((mo_get g2 (by decide)).trans (congrArg some h9)) dX9_value_118 ?_
            refine lv_aload_n hx hb dX9_value_121 rfl (lv_at hl 2 rfl) ?_
            refine va_get (D := (dC, dI)) (ci := 11) (v := .int (nI i)) (C := RX9) (T := TX9) (N := 60) hx hb hts iRX9 hown hK hP 0 rfl rfl 11 (by decide) (hts (.fieldLink RX9 141 "RecordBenchModel" "at" "I") (by decide +kernel)) (fun _ h9 => h9) ((mo_get g2 (by decide)).trans (congrArg some h11)) dX9_value_122 ?_
            refine va_iald hx hb hK hP 1 0 rfl rfl (vp_in_nI (by omega) (by decide)) dX9_value_125 ?_
            refine W_toi (y := f i) (by rw [nI_clamp (by omega)]) ?_
            refine lv_bipush (v := 48) hx hb dX9_value_126 (by decide) ?_
            refine lv_isub hx hb dX9_value_128 ?_
            refine lv_istore (lv' := [(9, .int ((f i) - 48)), (6, .long ((tvs f (tfd f n (tsk f n j)) (i - tfd f n (tsk f n j))).1)), (8, .int ((tvs f (tfd f n (tsk f n j)) (i - tfd f n (tsk f n j))).2)), (0, .ref h0), (1, .int p0), (2, .int p1), (3, .int (nI (tsk f n j))), (4, .int 1), (5, .int (nI (tfd f n (tsk f n j))))]) hx hb dX9_value_129 hl (by decide) rfl (fun ls hl => ?_)
            refine lv_iload hx hb dX9_value_131 (lv_at hl 2 rfl) ?_
            refine lv_if_ne (tgt := 161) hx hb dX9_value_133 (by decide) (fun c_253 => ?_) (fun c_253 => ?_)
            · refine lv_iconst (v := 1) hx hb dX9_value_161 (by decide) ?_
              refine lv_goto (tgt := 166) hx hb dX9_value_162 (by decide) ?_
              refine lv_istore (lv' := [(8, .int 1), (9, .int ((f i) - 48)), (6, .long ((tvs f (tfd f n (tsk f n j)) (i - tfd f n (tsk f n j))).1)), (0, .ref h0), (1, .int p0), (2, .int p1), (3, .int (nI (tsk f n j))), (4, .int 1), (5, .int (nI (tfd f n (tsk f n j))))]) hx hb dX9_value_166 hl (by decide) rfl (fun ls hl => ?_)
              refine lv_iload hx hb dX9_value_168 (lv_at hl 0 rfl) ?_
              refine lv_if_ne (tgt := 185) hx hb dX9_value_170 (by decide) (fun c_254 => ?_) (fun c_254 => absurd c_254 (by decide))
              refine lv_aload_n hx hb dX9_value_185 rfl (lv_at hl 3 rfl) ?_
              refine lv_dup hx hb dX9_value_186 rfl ?_
              refine va_get (D := (dC, dI)) (ci := 11) (v := .int (nI i)) (C := RX9) (T := TX9) (N := 60) hx hb hts iRX9 hown hK hP 0 rfl rfl 11 (by decide) (hts (.fieldLink RX9 141 "RecordBenchModel" "at" "I") (by decide +kernel)) (fun _ h9 => h9) ((mo_get g2 (by decide)).trans (congrArg some h11)) dX9_value_187 ?_
              refine lv_iconst (v := 1) hx hb dX9_value_190 (by decide) ?_
              refine lv_iadd hx hb dX9_value_191 ?_
              refine W_toi (y := nI (i + 1)) (nI_1 i) ?_
              refine va_put (D := (dC, dI)) (ci := 11) (v := .int (nI (i + 1))) (ty := .int) (C := RX9) (T := TX9) (N := 60) hx hb hts iRX9 tyX9 tyX9_ok nmX9 hown hK hP hD hS 0 rfl rfl 11 (by decide) (hts (.fieldLink RX9 141 "RecordBenchModel" "at" "I") (by decide +kernel)) (fun _ h9 => h9) rfl (by decide +kernel) rfl rfl (by rw [mo_len]; decide) dX9_value_192 (fun H locs hP hD hS => ?_)
              obtain ⟨g_255, eg_255⟩ : ∃ y, y = va_up g2 11 (.int (nI (i + 1))) := ⟨_, rfl⟩
              have hP : va_P (dC, dI) vwCl [(h0, .inr (11, mo g_255)), (a9, .inl (cT, 400, .inl f)), (a6, .inl (cP, 248, .inr (.inl fP)))] H := by rw [eg_255, ← mo_set g2 (by decide)]; exact hP
              have hD : va_D A [(h0, .inr (11, mo g_255)), (a9, .inl (cT, 400, .inl f)), (a6, .inl (cP, 248, .inr (.inl fP)))] := by rw [eg_255, ← mo_set g2 (by decide)]; exact hD
              have g_255h6 : g_255 6 = .ref a6 := by rw [eg_255, va_up_ne _ _ (by decide)]; exact h6
              have g_255h9 : g_255 9 = .ref a9 := by rw [eg_255, va_up_ne _ _ (by decide)]; exact h9
              have g_255h12 : g_255 12 = .int (nI n) := by rw [eg_255, va_up_ne _ _ (by decide)]; exact h12
              have g_255h13 : g_255 13 = .int b0 := by rw [eg_255, va_up_ne _ _ (by decide)]; exact h13
              have g_255h14 : g_255 14 = v14 := by rw [eg_255, va_up_ne _ _ (by decide)]; exact h14
              have g_255h18 : g_255 18 = .int x18 := by rw [eg_255, va_up_ne _ _ (by decide)]; exact h18
              have g_255h11 : g_255 11 = .int (nI (i + 1)) := by rw [eg_255, va_up_self]
              have ung_255 : ∀ j : Nat, j ≠ 11 → j ≠ 17 → g_255 j = g j := fun j h11 h17 => by rw [eg_255, va_up_ne _ _ h11]; exact hun j h11 h17
              refine lv_goto (tgt := 69) hx hb dX9_value_195 (by decide) ?_
              exact ih ((i + 1), g_255) (by show n - (i + 1) < n - i; omega) ⟨(by omega), (by omega), (by omega), ((tde_go hlt ho).symm.trans hde), g_255h6, g_255h9, g_255h11, g_255h12, g_255h13, g_255h14, g_255h18, (fun k h1 h2 => ung_255 k h1 h2)⟩ _ _ _ (hP.sub (ws' := [(h0, .inr (11, mo g_255)), (a9, .inl (cT, 400, .inl f)), (a6, .inl (cP, 248, .inr (.inl fP)))]) [0, 1, 2] rfl) (hD.sub (ws' := [(h0, .inr (11, mo g_255)), (a9, .inl (cT, 400, .inl f)), (a6, .inl (cP, 248, .inr (.inl fP)))]) [0, 1, 2] (by decide) rfl) hS (by show lv_has _ _ [(6, .long ((tvs f (tfd f n (tsk f n j)) (i + 1 - tfd f n (tsk f n j))).1)), (8, .int ((tvs f (tfd f n (tsk f n j)) (i + 1 - tfd f n (tsk f n j))).2)), (0, .ref h0), (1, .int p0), (2, .int p1), (3, .int (nI (tsk f n j))), (4, .int 1), (5, .int (nI (tfd f n (tsk f n j))))]; rw [tvs_step hi1, stp, if_pos (Or.inl c_253)]; exact lv_sub hl [2, 0, 3, 4, 5, 6, 7, 8] rfl)
            · refine lv_lload hx hb dX9_value_136 (lv_at hl 1 rfl) ?_
              refine lv_ldc2 hx hb hown (hts (.constantLong RX9 223 (-922337203685477580)) (by decide +kernel)) dX9_value_138 ?_
              refine W.lcmp hx hb dX9_value_141 ?_
              refine lv_if_lt (tgt := 161) hx hb dX9_value_142 (by decide) (fun c_256 => ?_) (fun c_256 => ?_)
              · refine lv_iconst (v := 1) hx hb dX9_value_161 (by decide) ?_
                refine lv_goto (tgt := 166) hx hb dX9_value_162 (by decide) ?_
                refine lv_istore (lv' := [(8, .int 1), (9, .int ((f i) - 48)), (6, .long ((tvs f (tfd f n (tsk f n j)) (i - tfd f n (tsk f n j))).1)), (0, .ref h0), (1, .int p0), (2, .int p1), (3, .int (nI (tsk f n j))), (4, .int 1), (5, .int (nI (tfd f n (tsk f n j))))]) hx hb dX9_value_166 hl (by decide) rfl (fun ls hl => ?_)
                refine lv_iload hx hb dX9_value_168 (lv_at hl 0 rfl) ?_
                refine lv_if_ne (tgt := 185) hx hb dX9_value_170 (by decide) (fun c_257 => ?_) (fun c_257 => absurd c_257 (by decide))
                refine lv_aload_n hx hb dX9_value_185 rfl (lv_at hl 3 rfl) ?_
                refine lv_dup hx hb dX9_value_186 rfl ?_
                refine va_get (D := (dC, dI)) (ci := 11) (v := .int (nI i)) (C := RX9) (T := TX9) (N := 60) hx hb hts iRX9 hown hK hP 0 rfl rfl 11 (by decide) (hts (.fieldLink RX9 141 "RecordBenchModel" "at" "I") (by decide +kernel)) (fun _ h9 => h9) ((mo_get g2 (by decide)).trans (congrArg some h11)) dX9_value_187 ?_
                refine lv_iconst (v := 1) hx hb dX9_value_190 (by decide) ?_
                refine lv_iadd hx hb dX9_value_191 ?_
                refine W_toi (y := nI (i + 1)) (nI_1 i) ?_
                refine va_put (D := (dC, dI)) (ci := 11) (v := .int (nI (i + 1))) (ty := .int) (C := RX9) (T := TX9) (N := 60) hx hb hts iRX9 tyX9 tyX9_ok nmX9 hown hK hP hD hS 0 rfl rfl 11 (by decide) (hts (.fieldLink RX9 141 "RecordBenchModel" "at" "I") (by decide +kernel)) (fun _ h9 => h9) rfl (by decide +kernel) rfl rfl (by rw [mo_len]; decide) dX9_value_192 (fun H locs hP hD hS => ?_)
                obtain ⟨g_258, eg_258⟩ : ∃ y, y = va_up g2 11 (.int (nI (i + 1))) := ⟨_, rfl⟩
                have hP : va_P (dC, dI) vwCl [(h0, .inr (11, mo g_258)), (a9, .inl (cT, 400, .inl f)), (a6, .inl (cP, 248, .inr (.inl fP)))] H := by rw [eg_258, ← mo_set g2 (by decide)]; exact hP
                have hD : va_D A [(h0, .inr (11, mo g_258)), (a9, .inl (cT, 400, .inl f)), (a6, .inl (cP, 248, .inr (.inl fP)))] := by rw [eg_258, ← mo_set g2 (by decide)]; exact hD
                have g_258h6 : g_258 6 = .ref a6 := by rw [eg_258, va_up_ne _ _ (by decide)]; exact h6
                have g_258h9 : g_258 9 = .ref a9 := by rw [eg_258, va_up_ne _ _ (by decide)]; exact h9
                have g_258h12 : g_258 12 = .int (nI n) := by rw [eg_258, va_up_ne _ _ (by decide)]; exact h12
                have g_258h13 : g_258 13 = .int b0 := by rw [eg_258, va_up_ne _ _ (by decide)]; exact h13
                have g_258h14 : g_258 14 = v14 := by rw [eg_258, va_up_ne _ _ (by decide)]; exact h14
                have g_258h18 : g_258 18 = .int x18 := by rw [eg_258, va_up_ne _ _ (by decide)]; exact h18
                have g_258h11 : g_258 11 = .int (nI (i + 1)) := by rw [eg_258, va_up_self]
                have ung_258 : ∀ j : Nat, j ≠ 11 → j ≠ 17 → g_258 j = g j := fun j h11 h17 => by rw [eg_258, va_up_ne _ _ h11]; exact hun j h11 h17
                refine lv_goto (tgt := 69) hx hb dX9_value_195 (by decide) ?_
                exact ih ((i + 1), g_258) (by show n - (i + 1) < n - i; omega) ⟨(by omega), (by omega), (by omega), ((tde_go hlt ho).symm.trans hde), g_258h6, g_258h9, g_258h11, g_258h12, g_258h13, g_258h14, g_258h18, (fun k h1 h2 => ung_258 k h1 h2)⟩ _ _ _ (hP.sub (ws' := [(h0, .inr (11, mo g_258)), (a9, .inl (cT, 400, .inl f)), (a6, .inl (cP, 248, .inr (.inl fP)))]) [0, 1, 2] rfl) (hD.sub (ws' := [(h0, .inr (11, mo g_258)), (a9, .inl (cT, 400, .inl f)), (a6, .inl (cP, 248, .inr (.inl fP)))]) [0, 1, 2] (by decide) rfl) hS (by show lv_has _ _ [(6, .long ((tvs f (tfd f n (tsk f n j)) (i + 1 - tfd f n (tsk f n j))).1)), (8, .int ((tvs f (tfd f n (tsk f n j)) (i + 1 - tfd f n (tsk f n j))).2)), (0, .ref h0), (1, .int p0), (2, .int p1), (3, .int (nI (tsk f n j))), (4, .int 1), (5, .int (nI (tfd f n (tsk f n j))))]; rw [tvs_step hi1, stp, if_pos (Or.inr (Or.inl ((lg_cmp_lt _ _).mp c_256)))]; exact lv_sub hl [2, 0, 3, 4, 5, 6, 7, 8] rfl)
              · refine lv_lload hx hb dX9_value_145 (lv_at hl 1 rfl) ?_
                refine lv_ldc2 hx hb hown (hts (.constantLong RX9 223 (-922337203685477580)) (by decide +kernel)) dX9_value_147 ?_
                refine W.lcmp hx hb dX9_value_150 ?_
                refine lv_if_ne (tgt := 165) hx hb dX9_value_151 (by decide) (fun c_259 => ?_) (fun c_259 => ?_)
                · refine lv_iconst (v := 0) hx hb dX9_value_165 (by decide) ?_
                  refine lv_istore (lv' := [(8, .int 0), (9, .int ((f i) - 48)), (6, .long ((tvs f (tfd f n (tsk f n j)) (i - tfd f n (tsk f n j))).1)), (0, .ref h0), (1, .int p0), (2, .int p1), (3, .int (nI (tsk f n j))), (4, .int 1), (5, .int (nI (tfd f n (tsk f n j))))]) hx hb dX9_value_166 hl (by decide) rfl (fun ls hl => ?_)
                  refine lv_iload hx hb dX9_value_168 (lv_at hl 0 rfl) ?_
                  refine lv_if_ne (tgt := 185) hx hb dX9_value_170 (by decide) (fun c_260 => absurd (by decide) c_260) (fun c_260 => ?_)
                  refine lv_ldc2 hx hb hown (hts (.constantLong RX9 225 (10)) (by decide +kernel)) dX9_value_173 ?_
                  refine lv_lload hx hb dX9_value_176 (lv_at hl 2 rfl) ?_
                  refine lv_lmul hx hb dX9_value_178 ?_
                  refine lv_iload hx hb dX9_value_179 (lv_at hl 1 rfl) ?_
                  refine lv_i2l (v := ((f i) - 48).toInt64) hx hb dX9_value_181 rfl ?_
                  refine lv_lsub hx hb dX9_value_182 ?_
                  refine lv_lstore (lv' := [(6, .long ((10 * ((tvs f (tfd f n (tsk f n j)) (i - tfd f n (tsk f n j))).1)) - (((f i) - 48).toInt64))), (8, .int 0), (9, .int ((f i) - 48)), (0, .ref h0), (1, .int p0), (2, .int p1), (3, .int (nI (tsk f n j))), (4, .int 1), (5, .int (nI (tfd f n (tsk f n j))))]) hx hb dX9_value_183 hl (by decide) rfl (fun ls hl => ?_)
                  refine lv_aload_n hx hb dX9_value_185 rfl (lv_at hl 3 rfl) ?_
                  refine lv_dup hx hb dX9_value_186 rfl ?_
                  refine va_get (D := (dC, dI)) (ci := 11) (v := .int (nI i)) (C := RX9) (T := TX9) (N := 60) hx hb hts iRX9 hown hK hP 0 rfl rfl 11 (by decide) (hts (.fieldLink RX9 141 "RecordBenchModel" "at" "I") (by decide +kernel)) (fun _ h9 => h9) ((mo_get g2 (by decide)).trans (congrArg some h11)) dX9_value_187 ?_
                  refine lv_iconst (v := 1) hx hb dX9_value_190 (by decide) ?_
                  refine lv_iadd hx hb dX9_value_191 ?_
                  refine W_toi (y := nI (i + 1)) (nI_1 i) ?_
                  refine va_put (D := (dC, dI)) (ci := 11) (v := .int (nI (i + 1))) (ty := .int) (C := RX9) (T := TX9) (N := 60) hx hb hts iRX9 tyX9 tyX9_ok nmX9 hown hK hP hD hS 0 rfl rfl 11 (by decide) (hts (.fieldLink RX9 141 "RecordBenchModel" "at" "I") (by decide +kernel)) (fun _ h9 => h9) rfl (by decide +kernel) rfl rfl (by rw [mo_len]; decide) dX9_value_192 (fun H locs hP hD hS => ?_)
                  obtain ⟨g_262, eg_262⟩ : ∃ y, y = va_up g2 11 (.int (nI (i + 1))) := ⟨_, rfl⟩
                  have hP : va_P (dC, dI) vwCl [(h0, .inr (11, mo g_262)), (a9, .inl (cT, 400, .inl f)), (a6, .inl (cP, 248, .inr (.inl fP)))] H := by rw [eg_262, ← mo_set g2 (by decide)]; exact hP
                  have hD : va_D A [(h0, .inr (11, mo g_262)), (a9, .inl (cT, 400, .inl f)), (a6, .inl (cP, 248, .inr (.inl fP)))] := by rw [eg_262, ← mo_set g2 (by decide)]; exact hD
                  have g_262h6 : g_262 6 = .ref a6 := by rw [eg_262, va_up_ne _ _ (by decide)]; exact h6
                  have g_262h9 : g_262 9 = .ref a9 := by rw [eg_262, va_up_ne _ _ (by decide)]; exact h9
                  have g_262h12 : g_262 12 = .int (nI n) := by rw [eg_262, va_up_ne _ _ (by decide)]; exact h12
                  have g_262h13 : g_262 13 = .int b0 := by rw [eg_262, va_up_ne _ _ (by decide)]; exact h13
                  have g_262h14 : g_262 14 = v14 := by rw [eg_262, va_up_ne _ _ (by decide)]; exact h14
                  have g_262h18 : g_262 18 = .int x18 := by rw [eg_262, va_up_ne _ _ (by decide)]; exact h18
                  have g_262h11 : g_262 11 = .int (nI (i + 1)) := by rw [eg_262, va_up_self]
                  have ung_262 : ∀ j : Nat, j ≠ 11 → j ≠ 17 → g_262 j = g j := fun j h11 h17 => by rw [eg_262, va_up_ne _ _ h11]; exact hun j h11 h17
                  refine lv_goto (tgt := 69) hx hb dX9_value_195 (by decide) ?_
                  exact ih ((i + 1), g_262) (by show n - (i + 1) < n - i; omega) ⟨(by omega), (by omega), (by omega), ((tde_go hlt ho).symm.trans hde), g_262h6, g_262h9, g_262h11, g_262h12, g_262h13, g_262h14, g_262h18, (fun k h1 h2 => ung_262 k h1 h2)⟩ _ _ _ (hP.sub (ws' := [(h0, .inr (11, mo g_262)), (a9, .inl (cT, 400, .inl f)), (a6, .inl (cP, 248, .inr (.inl fP)))]) [0, 1, 2] rfl) (hD.sub (ws' := [(h0, .inr (11, mo g_262)), (a9, .inl (cT, 400, .inl f)), (a6, .inl (cP, 248, .inr (.inl fP)))]) [0, 1, 2] (by decide) rfl) hS (by show lv_has _ _ [(6, .long ((tvs f (tfd f n (tsk f n j)) (i + 1 - tfd f n (tsk f n j))).1)), (8, .int ((tvs f (tfd f n (tsk f n j)) (i + 1 - tfd f n (tsk f n j))).2)), (0, .ref h0), (1, .int p0), (2, .int p1), (3, .int (nI (tsk f n j))), (4, .int 1), (5, .int (nI (tfd f n (tsk f n j))))]; rw [tvs_step hi1, stp, if_neg (fun h => h.elim (fun h0 => h0 c_253) (fun h1 => h1.elim (fun h2 => c_256 ((lg_cmp_lt _ _).mpr h2)) (fun h => c_259 ((lg_cmp_eq _ _).mpr h.1))))]; exact lv_sub hl [0, 1, 3, 4, 5, 6, 7, 8] rfl)
                · refine lv_iload hx hb dX9_value_154 (lv_at hl 0 rfl) ?_
                  refine lv_bipush (v := 8) hx hb dX9_value_156 (by decide) ?_
                  refine lv_icmp_le (tgt := 165) hx hb dX9_value_158 (by decide) (fun c_263 => ?_) (fun c_263 => ?_)
                  · refine lv_iconst (v := 0) hx hb dX9_value_165 (by decide) ?_
                    refine lv_istore (lv' := [(8, .int 0), (9, .int ((f i) - 48)), (6, .long ((tvs f (tfd f n (tsk f n j)) (i - tfd f n (tsk f n j))).1)), (0, .ref h0), (1, .int p0), (2, .int p1), (3, .int (nI (tsk f n j))), (4, .int 1), (5, .int (nI (tfd f n (tsk f n j))))]) hx hb dX9_value_166 hl (by decide) rfl (fun ls hl => ?_)
                    refine lv_iload hx hb dX9_value_168 (lv_at hl 0 rfl) ?_
                    refine lv_if_ne (tgt := 185) hx hb dX9_value_170 (by decide) (fun c_264 => absurd (by decide) c_264) (fun c_264 => ?_)
                    refine lv_ldc2 hx hb hown (hts (.constantLong RX9 225 (10)) (by decide +kernel)) dX9_value_173 ?_
                    refine lv_lload hx hb dX9_value_176 (lv_at hl 2 rfl) ?_
                    refine lv_lmul hx hb dX9_value_178 ?_
                    refine lv_iload hx hb dX9_value_179 (lv_at hl 1 rfl) ?_
                    refine lv_i2l (v := ((f i) - 48).toInt64) hx hb dX9_value_181 rfl ?_
                    refine lv_lsub hx hb dX9_value_182 ?_
                    refine lv_lstore (lv' := [(6, .long ((10 * ((tvs f (tfd f n (tsk f n j)) (i - tfd f n (tsk f n j))).1)) - (((f i) - 48).toInt64))), (8, .int 0), (9, .int ((f i) - 48)), (0, .ref h0), (1, .int p0), (2, .int p1), (3, .int (nI (tsk f n j))), (4, .int 1), (5, .int (nI (tfd f n (tsk f n j))))]) hx hb dX9_value_183 hl (by decide) rfl (fun ls hl => ?_)
                    refine lv_aload_n hx hb dX9_value_185 rfl (lv_at hl 3 rfl) ?_
                    refine lv_dup hx hb dX9_value_186 rfl ?_
                    refine va_get (D := (dC, dI)) (ci := 11) (v := .int (nI i)) (C := RX9) (T := TX9) (N := 60) hx hb hts iRX9 hown hK hP 0 rfl rfl 11 (by decide) (hts (.fieldLink RX9 141 "RecordBenchModel" "at" "I") (by decide +kernel)) (fun _ h9 => h9) ((mo_get g2 (by decide)).trans (congrArg some h11)) dX9_value_187 ?_
                    refine lv_iconst (v := 1) hx hb dX9_value_190 (by decide) ?_
                    refine lv_iadd hx hb dX9_value_191 ?_
                    refine W_toi (y := nI (i + 1)) (nI_1 i) ?_
                    refine va_put (D := (dC, dI)) (ci := 11) (v := .int (nI (i + 1))) (ty := .int) (C := RX9) (T := TX9) (N := 60) hx hb hts iRX9 tyX9 tyX9_ok nmX9 hown hK hP hD hS 0 rfl rfl 11 (by decide) (hts (.fieldLink RX9 141 "RecordBenchModel" "at" "I") (by decide +kernel)) (fun _ h9 => h9) rfl (by decide +kernel) rfl rfl (by rw [mo_len]; decide) dX9_value_192 (fun H locs hP hD hS => ?_)
                    obtain ⟨g_266, eg_266⟩ : ∃ y, y = va_up g2 11 (.int (nI (i + 1))) := ⟨_, rfl⟩
                    have hP : va_P (dC, dI) vwCl [(h0, .inr (11, mo g_266)), (a9, .inl (cT, 400, .inl f)), (a6, .inl (cP, 248, .inr (.inl fP)))] H := by rw [eg_266, ← mo_set g2 (by decide)]; exact hP
                    have hD : va_D A [(h0, .inr (11, mo g_266)), (a9, .inl (cT, 400, .inl f)), (a6, .inl (cP, 248, .inr (.inl fP)))] := by rw [eg_266, ← mo_set g2 (by decide)]; exact hD
                    have g_266h6 : g_266 6 = .ref a6 := by rw [eg_266, va_up_ne _ _ (by decide)]; exact h6
                    have g_266h9 : g_266 9 = .ref a9 := by rw [eg_266, va_up_ne _ _ (by decide)]; exact h9
                    have g_266h12 : g_266 12 = .int (nI n) := by rw [eg_266, va_up_ne _ _ (by decide)]; exact h12
                    have g_266h13 : g_266 13 = .int b0 := by rw [eg_266, va_up_ne _ _ (by decide)]; exact h13
                    have g_266h14 : g_266 14 = v14 := by rw [eg_266, va_up_ne _ _ (by decide)]; exact h14
                    have g_266h18 : g_266 18 = .int x18 := by rw [eg_266, va_up_ne _ _ (by decide)]; exact h18
                    have g_266h11 : g_266 11 = .int (nI (i + 1)) := by rw [eg_266, va_up_self]
                    have ung_266 : ∀ j : Nat, j ≠ 11 → j ≠ 17 → g_266 j = g j := fun j h11 h17 => by rw [eg_266, va_up_ne _ _ h11]; exact hun j h11 h17
                    refine lv_goto (tgt := 69) hx hb dX9_value_195 (by decide) ?_
                    exact ih ((i + 1), g_266) (by show n - (i + 1) < n - i; omega) ⟨(by omega), (by omega), (by omega), ((tde_go hlt ho).symm.trans hde), g_266h6, g_266h9, g_266h11, g_266h12, g_266h13, g_266h14, g_266h18, (fun k h1 h2 => ung_266 k h1 h2)⟩ _ _ _ (hP.sub (ws' := [(h0, .inr (11, mo g_266)), (a9, .inl (cT, 400, .inl f)), (a6, .inl (cP, 248, .inr (.inl fP)))]) [0, 1, 2] rfl) (hD.sub (ws' := [(h0, .inr (11, mo g_266)), (a9, .inl (cT, 400, .inl f)), (a6, .inl (cP, 248, .inr (.inl fP)))]) [0, 1, 2] (by decide) rfl) hS (by show lv_has _ _ [(6, .long ((tvs f (tfd f n (tsk f n j)) (i + 1 - tfd f n (tsk f n j))).1)), (8, .int ((tvs f (tfd f n (tsk f n j)) (i + 1 - tfd f n (tsk f n j))).2)), (0, .ref h0), (1, .int p0), (2, .int p1), (3, .int (nI (tsk f n j))), (4, .int 1), (5, .int (nI (tfd f n (tsk f n j))))]; rw [tvs_step hi1, stp, if_neg (fun h => h.elim (fun h0 => h0 c_253) (fun h1 => h1.elim (fun h2 => c_256 ((lg_cmp_lt _ _).mpr h2)) (fun h => absurd h.2 (Int32.not_lt.mpr c_263))))]; exact lv_sub hl [0, 1, 3, 4, 5, 6, 7, 8] rfl)
                  · refine lv_iconst (v := 1) hx hb dX9_value_161 (by decide) ?_
                    refine lv_goto (tgt := 166) hx hb dX9_value_162 (by decide) ?_
                    refine lv_istore (lv' := [(8, .int 1), (9, .int ((f i) - 48)), (6, .long ((tvs f (tfd f n (tsk f n j)) (i - tfd f n (tsk f n j))).1)), (0, .ref h0), (1, .int p0), (2, .int p1), (3, .int (nI (tsk f n j))), (4, .int 1), (5, .int (nI (tfd f n (tsk f n j))))]) hx hb dX9_value_166 hl (by decide) rfl (fun ls hl => ?_)
                    refine lv_iload hx hb dX9_value_168 (lv_at hl 0 rfl) ?_
                    refine lv_if_ne (tgt := 185) hx hb dX9_value_170 (by decide) (fun c_267 => ?_) (fun c_267 => absurd c_267 (by decide))
                    refine lv_aload_n hx hb dX9_value_185 rfl (lv_at hl 3 rfl) ?_
                    refine lv_dup hx hb dX9_value_186 rfl ?_
                    refine va_get (D := (dC, dI)) (ci := 11) (v := .int (nI i)) (C := RX9) (T := TX9) (N := 60) hx hb hts iRX9 hown hK hP 0 rfl rfl 11 (by decide) (hts (.fieldLink RX9 141 "RecordBenchModel" "at" "I") (by decide +kernel)) (fun _ h9 => h9) ((mo_get g2 (by decide)).trans (congrArg some h11)) dX9_value_187 ?_
                    refine lv_iconst (v := 1) hx hb dX9_value_190 (by decide) ?_
                    refine lv_iadd hx hb dX9_value_191 ?_
                    refine W_toi (y := nI (i + 1)) (nI_1 i) ?_
                    refine va_put (D := (dC, dI)) (ci := 11) (v := .int (nI (i + 1))) (ty := .int) (C := RX9) (T := TX9) (N := 60) hx hb hts iRX9 tyX9 tyX9_ok nmX9 hown hK hP hD hS 0 rfl rfl 11 (by decide) (hts (.fieldLink RX9 141 "RecordBenchModel" "at" "I") (by decide +kernel)) (fun _ h9 => h9) rfl (by decide +kernel) rfl rfl (by rw [mo_len]; decide) dX9_value_192 (fun H locs hP hD hS => ?_)
                    obtain ⟨g_268, eg_268⟩ : ∃ y, y = va_up g2 11 (.int (nI (i + 1))) := ⟨_, rfl⟩
                    have hP : va_P (dC, dI) vwCl [(h0, .inr (11, mo g_268)), (a9, .inl (cT, 400, .inl f)), (a6, .inl (cP, 248, .inr (.inl fP)))] H := by rw [eg_268, ← mo_set g2 (by decide)]; exact hP
                    have hD : va_D A [(h0, .inr (11, mo g_268)), (a9, .inl (cT, 400, .inl f)), (a6, .inl (cP, 248, .inr (.inl fP)))] := by rw [eg_268, ← mo_set g2 (by decide)]; exact hD
                    have g_268h6 : g_268 6 = .ref a6 := by rw [eg_268, va_up_ne _ _ (by decide)]; exact h6
                    have g_268h9 : g_268 9 = .ref a9 := by rw [eg_268, va_up_ne _ _ (by decide)]; exact h9
                    have g_268h12 : g_268 12 = .int (nI n) := by rw [eg_268, va_up_ne _ _ (by decide)]; exact h12
                    have g_268h13 : g_268 13 = .int b0 := by rw [eg_268, va_up_ne _ _ (by decide)]; exact h13
                    have g_268h14 : g_268 14 = v14 := by rw [eg_268, va_up_ne _ _ (by decide)]; exact h14
                    have g_268h18 : g_268 18 = .int x18 := by rw [eg_268, va_up_ne _ _ (by decide)]; exact h18
                    have g_268h11 : g_268 11 = .int (nI (i + 1)) := by rw [eg_268, va_up_self]
                    have ung_268 : ∀ j : Nat, j ≠ 11 → j ≠ 17 → g_268 j = g j := fun j h11 h17 => by rw [eg_268, va_up_ne _ _ h11]; exact hun j h11 h17
                    refine lv_goto (tgt := 69) hx hb dX9_value_195 (by decide) ?_
                    exact ih ((i + 1), g_268) (by show n - (i + 1) < n - i; omega) ⟨(by omega), (by omega), (by omega), ((tde_go hlt ho).symm.trans hde), g_268h6, g_268h9, g_268h11, g_268h12, g_268h13, g_268h14, g_268h18, (fun k h1 h2 => ung_268 k h1 h2)⟩ _ _ _ (hP.sub (ws' := [(h0, .inr (11, mo g_268)), (a9, .inl (cT, 400, .inl f)), (a6, .inl (cP, 248, .inr (.inl fP)))]) [0, 1, 2] rfl) (hD.sub (ws' := [(h0, .inr (11, mo g_268)), (a9, .inl (cT, 400, .inl f)), (a6, .inl (cP, 248, .inr (.inl fP)))]) [0, 1, 2] (by decide) rfl) hS (by show lv_has _ _ [(6, .long ((tvs f (tfd f n (tsk f n j)) (i + 1 - tfd f n (tsk f n j))).1)), (8, .int ((tvs f (tfd f n (tsk f n j)) (i + 1 - tfd f n (tsk f n j))).2)), (0, .ref h0), (1, .int p0), (2, .int p1), (3, .int (nI (tsk f n j))), (4, .int 1), (5, .int (nI (tfd f n (tsk f n j))))]; rw [tvs_step hi1, stp, if_pos (Or.inr (Or.inr ⟨(lg_cmp_eq _ _).mp c_259, Int32.not_le.mp c_263⟩))]; exact lv_sub hl [2, 0, 3, 4, 5, 6, 7, 8] rfl)
          · refine lv_aload_n hx hb dX9_value_107 rfl (lv_at hl 2 rfl) ?_
            refine lv_iconst (v := 1) hx hb dX9_value_108 (by decide) ?_
            refine lv_aload_n hx hb dX9_value_109 rfl (lv_at hl 2 rfl) ?_
            refine va_get (D := (dC, dI)) (ci := 11) (v := .int (nI i)) (C := RX9) (T := TX9) (N := 60) hx hb hts iRX9 hown hK hP 0 rfl rfl 11 (by decide) (hts (.fieldLink RX9 141 "RecordBenchModel" "at" "I") (by decide +kernel)) (fun _ h9 => h9) ((mo_get g2 (by decide)).trans (congrArg some h11)) dX9_value_110 ?_
            have hFc := va_free (wc := [(h0, .inr (11, mo g2))]) hD hS hA [0] rfl
            refine va_callv (va_runV (As := [.int 1, .int (nI i)]) (rest := []) ⟨hx, hb, hml, hown, hts⟩ (c_X9_fail l dC dI h0 g2 b0 (v14) h13 h14 1 (nI i) (by decide) H.size) (cwV 2 hts gp_X9_value_X9_fail_154 rfl rfl rfl (by decide +kernel) ⟨Nat.le_of_ble_eq_true rfl, Nat.le_of_ble_eq_true rfl⟩) ⟨Pr.blind _, va_recv hK hP (ci := 11) (q0 := 0) rfl rfl, fun U hU hW => ⟨rfl, Pr.at (hP.sub (ws' := [(h0, .inr (11, mo g2))]) [0] rfl) (hK.sub (tys' := []) [] rfl) (hD.sub (ws' := [(h0, .inr (11, mo g2))]) [0] (by decide) rfl) hN hZ RO.nil hS hFc hU hW⟩⟩ rfl rfl hl.1 rfl (lv_room (Nat.le_of_ble_eq_true rfl)) dX9_value_113 ⟨Nat.le_of_ble_eq_true rfl, Nat.le_of_ble_eq_true rfl⟩) hS (fun q _ h => hFc q h) hFc (fun u t H1 locs ht hvm hw_270 hB hz1 hk1 hS => ?_)
            obtain ⟨g1_271, b1_272⟩ := u
            obtain ⟨hP, hD, hK⟩ := Bq.join (wr := [(a9, .inl (cT, 400, .inl f)), (a6, .inl (cP, 248, .inr (.inl fP)))]) hB ht hvm hP hD [0] [1, 2] rfl rfl (by decide) (by decide) hk1 hFc hK
            generalize H1 = H at hP hS ⊢
            have hP : va_P (dC, dI) vwCl [(a9, .inl (cT, 400, .inl f)), (a6, .inl (cP, 248, .inr (.inl fP))), (h0, .inr (11, mo g1_271))] H := hP
            have hD : va_D A [(a9, .inl (cT, 400, .inl f)), (a6, .inl (cP, 248, .inr (.inl fP))), (h0, .inr (11, mo g1_271))] := hD
            have hK : va_K (dC, dI) vwCl [(cT, .int), (cP, .long)] s := hK
            try dsimp only at hw_270
            obtain ⟨k_273, k_274, k_275⟩ := hw_270
            have w_276 : g1_271 6 = .ref a6 := (k_275 6 (by decide) (by decide)).trans h6
            have w_277 : g1_271 9 = .ref a9 := (k_275 9 (by decide) (by decide)).trans h9
            have w_278 : g1_271 11 = .int (nI i) := (k_275 11 (by decide) (by decide)).trans h11
            have w_279 : g1_271 12 = .int (nI n) := (k_275 12 (by decide) (by decide)).trans h12
            have w_280 : g1_271 18 = .int x18 := (k_275 18 (by decide) (by decide)).trans h18
            have un_281 : ∀ j : Nat, j ≠ 11 → j ≠ 13 → j ≠ 14 → j ≠ 17 → g1_271 j = g j := fun j h11 h13 h14 h17 => (k_275 j h13 h14).trans (hun j h11 h17)
            have hP9 := hP.sub (ws' := [(h0, .inr (11, mo g1_271)), (a9, .inl (cT, 400, .inl f)), (a6, .inl (cP, 248, .inr (.inl fP)))]) [2, 0, 1] rfl
            have hD9 := hD.sub (ws' := [(h0, .inr (11, mo g1_271)), (a9, .inl (cT, 400, .inl f)), (a6, .inl (cP, 248, .inr (.inl fP)))]) [2, 0, 1] (by decide) rfl
            have hK9 := hK.sub (tys' := []) [] rfl
            exact W.vret hx hb hr (fun t ht hW => ⟨⟨(g1_271, i, b1_272, x18, fP), rfl, ⟨Or.inr ⟨fun h => absurd h.2.1 (by have e2 : i - tfd f n (tsk f n j) = 19 := (nI_eq (b := 19) (by omega) (by decide)).mp c_252; rw [← hde, tde_go hlt ho]; have := tde_ge f n (i + 1); omega), hi3, k_273⟩, w_278, k_274, w_280, (fun j h11 h13 h14 h17 h18 => un_281 j h11 h13 h14 h17)⟩, by rw [ht]; exact hP9, va_K.moved hW.alike hK9, hD9⟩, hS.F ht⟩) hS.2.2 dX9_value_116
        · refine W.eq (g2 := F0 m 92 ls [.int 0]) rfl ?_
          refine lv_if_eq (tgt := 198) hx hb dX9_value_92 (by decide) (fun c_282 => ?_) (fun c_282 => absurd (by decide) c_282)
          have htd : tde f n (tfd f n (tsk f n j)) = i := hde.symm.trans (tde_no (fun h => ho h.2))
          refine lv_aload_n hx hb dX9_value_198 rfl (lv_at hl 2 rfl) ?_
          refine va_get (D := (dC, dI)) (ci := 11) (v := .int (nI i)) (C := RX9) (T := TX9) (N := 60) hx hb hts iRX9 hown hK hP 0 rfl rfl 11 (by decide) (hts (.fieldLink RX9 141 "RecordBenchModel" "at" "I") (by decide +kernel)) (fun _ h9 => h9) ((mo_get g2 (by decide)).trans (congrArg some h11)) dX9_value_199 ?_
          refine lv_iload hx hb dX9_value_202 (lv_at hl 7 rfl) ?_
          refine lv_icmp_ne (tgt := 217) hx hb dX9_value_204 (by decide) (fun c_283 => ?_) (fun c_283 => ?_)
          · refine lv_aload_n hx hb dX9_value_217 rfl (lv_at hl 2 rfl) ?_
            refine lv_aload_n hx hb dX9_value_218 rfl (lv_at hl 2 rfl) ?_
            refine va_get (D := (dC, dI)) (ci := 11) (v := .int (nI i)) (C := RX9) (T := TX9) (N := 60) hx hb hts iRX9 hown hK hP 0 rfl rfl 11 (by decide) (hts (.fieldLink RX9 141 "RecordBenchModel" "at" "I") (by decide +kernel)) (fun _ h9 => h9) ((mo_get g2 (by decide)).trans (congrArg some h11)) dX9_value_219 ?_
            refine va_put (D := (dC, dI)) (ci := 11) (v := .int (nI i)) (ty := .int) (C := RX9) (T := TX9) (N := 60) hx hb hts iRX9 tyX9 tyX9_ok nmX9 hown hK hP hD hS 0 rfl rfl 18 (by decide) (hts (.fieldLink RX9 162 "RecordBenchModel" "ended" "I") (by decide +kernel)) (fun _ h9 => h9) rfl (by decide +kernel) rfl rfl (by rw [mo_len]; decide) dX9_value_222 (fun H locs hP hD hS => ?_)
            obtain ⟨g_284, eg_284⟩ : ∃ y, y = va_up g2 18 (.int (nI i)) := ⟨_, rfl⟩
            have hP : va_P (dC, dI) vwCl [(h0, .inr (11, mo g_284)), (a9, .inl (cT, 400, .inl f)), (a6, .inl (cP, 248, .inr (.inl fP)))] H := by rw [eg_284, ← mo_set g2 (by decide)]; exact hP
            have hD : va_D A [(h0, .inr (11, mo g_284)), (a9, .inl (cT, 400, .inl f)), (a6, .inl (cP, 248, .inr (.inl fP)))] := by rw [eg_284, ← mo_set g2 (by decide)]; exact hD
            have g_284h6 : g_284 6 = .ref a6 := by rw [eg_284, va_up_ne _ _ (by decide)]; exact h6
            have g_284h9 : g_284 9 = .ref a9 := by rw [eg_284, va_up_ne _ _ (by decide)]; exact h9
            have g_284h11 : g_284 11 = .int (nI i) := by rw [eg_284, va_up_ne _ _ (by decide)]; exact h11
            have g_284h12 : g_284 12 = .int (nI n) := by rw [eg_284, va_up_ne _ _ (by decide)]; exact h12
            have g_284h13 : g_284 13 = .int b0 := by rw [eg_284, va_up_ne _ _ (by decide)]; exact h13
            have g_284h14 : g_284 14 = v14 := by rw [eg_284, va_up_ne _ _ (by decide)]; exact h14
            have g_284h18 : g_284 18 = .int (nI i) := by rw [eg_284, va_up_self]
            have ung_284 : ∀ j : Nat, j ≠ 11 → j ≠ 17 → j ≠ 18 → g_284 j = g j := fun j h11 h17 h18 => by rw [eg_284, va_up_ne _ _ h18]; exact hun j h11 h17
            refine lv_iload hx hb dX9_value_225 (lv_at hl 6 rfl) ?_
            refine lv_if_ne (tgt := 242) hx hb dX9_value_227 (by decide) (fun c_285 => ?_) (fun c_285 => absurd c_285 (by decide))
            refine lv_iload hx hb dX9_value_242 (lv_at hl 6 rfl) ?_
            refine lv_if_ne (tgt := 253) hx hb dX9_value_244 (by decide) (fun c_286 => ?_) (fun c_286 => absurd c_286 (by decide))
            refine lv_iload hx hb dX9_value_253 (lv_at hl 1 rfl) ?_
            refine lv_if_ne (tgt := 267) hx hb dX9_value_255 (by decide) (fun c_287 => ?_) (fun c_287 => ?_)
            · refine lv_aload_n hx hb dX9_value_267 rfl (lv_at hl 2 rfl) ?_
              refine lv_iconst (v := 2) hx hb dX9_value_268 (by decide) ?_
              refine lv_iload_n hx hb dX9_value_269 rfl (lv_at hl 5 rfl) ?_
              have hFc := va_free (wc := [(h0, .inr (11, mo g_284))]) hD hS hA [0] rfl
              refine va_callv (va_runV (As := [.int 2, .int (nI (tsk f n j))]) (rest := []) ⟨hx, hb, hml, hown, hts⟩ (c_X9_fail l dC dI h0 g_284 b0 (v14) g_284h13 g_284h14 2 (nI (tsk f n j)) (by decide) H.size) (cwV 2 hts gp_X9_value_X9_fail_154 rfl rfl rfl (by decide +kernel) ⟨Nat.le_of_ble_eq_true rfl, Nat.le_of_ble_eq_true rfl⟩) ⟨Pr.blind _, va_recv hK hP (ci := 11) (q0 := 0) rfl rfl, fun U hU hW => ⟨rfl, Pr.at (hP.sub (ws' := [(h0, .inr (11, mo g_284))]) [0] rfl) (hK.sub (tys' := []) [] rfl) (hD.sub (ws' := [(h0, .inr (11, mo g_284))]) [0] (by decide) rfl) hN hZ RO.nil hS hFc hU hW⟩⟩ rfl rfl hl.1 rfl (lv_room (Nat.le_of_ble_eq_true rfl)) dX9_value_270 ⟨Nat.le_of_ble_eq_true rfl, Nat.le_of_ble_eq_true rfl⟩) hS (fun q _ h => hFc q h) hFc (fun u t H1 locs ht hvm hw_289 hB hz1 hk1 hS => ?_)
              obtain ⟨g1_290, b1_291⟩ := u
              obtain ⟨hP, hD, hK⟩ := Bq.join (wr := [(a9, .inl (cT, 400, .inl f)), (a6, .inl (cP, 248, .inr (.inl fP)))]) hB ht hvm hP hD [0] [1, 2] rfl rfl (by decide) (by decide) hk1 hFc hK
              generalize H1 = H at hP hS ⊢
              have hP : va_P (dC, dI) vwCl [(a9, .inl (cT, 400, .inl f)), (a6, .inl (cP, 248, .inr (.inl fP))), (h0, .inr (11, mo g1_290))] H := hP
              have hD : va_D A [(a9, .inl (cT, 400, .inl f)), (a6, .inl (cP, 248, .inr (.inl fP))), (h0, .inr (11, mo g1_290))] := hD
              have hK : va_K (dC, dI) vwCl [(cT, .int), (cP, .long)] s := hK
              try dsimp only at hw_289
              obtain ⟨k_292, k_293, k_294⟩ := hw_289
              have w_295 : g1_290 6 = .ref a6 := (k_294 6 (by decide) (by decide)).trans g_284h6
              have w_296 : g1_290 9 = .ref a9 := (k_294 9 (by decide) (by decide)).trans g_284h9
              have w_297 : g1_290 11 = .int (nI i) := (k_294 11 (by decide) (by decide)).trans g_284h11
              have w_298 : g1_290 12 = .int (nI n) := (k_294 12 (by decide) (by decide)).trans g_284h12
              have w_299 : g1_290 18 = .int (nI i) := (k_294 18 (by decide) (by decide)).trans g_284h18
              have un_300 : ∀ j : Nat, j ≠ 11 → j ≠ 13 → j ≠ 14 → j ≠ 17 → j ≠ 18 → g1_290 j = g j := fun j h11 h13 h14 h17 h18 => (k_294 j h13 h14).trans (ung_284 j h11 h17 h18)
              refine lv_aload_n hx hb dX9_value_273 rfl (lv_at hl 2 rfl) ?_
              refine va_get (D := (dC, dI)) (ci := 11) (v := .ref a6) (C := RX9) (T := TX9) (N := 60) hx hb hts iRX9 hown hK hP 2 rfl rfl 6 (by decide) (hts (.fieldLink RX9 30 "RecordBenchModel" "plain" "[J") (by decide +kernel)) (fun _ h9 => h9) ((mo_get g1_290 (by decide)).trans (congrArg some w_295)) dX9_value_274 ?_
              refine lv_iload_n hx hb dX9_value_277 rfl (lv_at hl 3 rfl) ?_
              refine lv_lload hx hb dX9_value_278 (lv_at hl 0 rfl) ?_
              refine va_last hx hb hK hP hD hS 1 1 rfl rfl hp0 dX9_value_280 (fun H locs hP hD hS => ?_)
              obtain ⟨f_301, ef_301⟩ : ∃ y : Nat → Int64, y = vp_updL fP (p0 : Int32).toNatClampNeg ((tvs f (tfd f n (tsk f n j)) (i - tfd f n (tsk f n j))).1) := ⟨_, rfl⟩
              have hP : va_P (dC, dI) vwCl [(a9, .inl (cT, 400, .inl f)), (a6, .inl (cP, 248, .inr (.inl f_301))), (h0, .inr (11, mo g1_290))] H := by rw [ef_301]; exact hP
              have hD : va_D A [(a9, .inl (cT, 400, .inl f)), (a6, .inl (cP, 248, .inr (.inl f_301))), (h0, .inr (11, mo g1_290))] := by rw [ef_301]; exact hD
              have hP9 := hP.sub (ws' := [(h0, .inr (11, mo g1_290)), (a9, .inl (cT, 400, .inl f)), (a6, .inl (cP, 248, .inr (.inl f_301)))]) [2, 0, 1] rfl
              have hD9 := hD.sub (ws' := [(h0, .inr (11, mo g1_290)), (a9, .inl (cT, 400, .inl f)), (a6, .inl (cP, 248, .inr (.inl f_301)))]) [2, 0, 1] (by decide) rfl
              have hK9 := hK.sub (tys' := []) [] rfl
              exact W.vret hx hb hr (fun t ht hW => ⟨⟨(g1_290, i, b1_291, (nI i), f_301), rfl, ⟨Or.inr ⟨fun h => c_287 (by have := h.2.2.1; rw [htd] at this; exact this), hi3, k_292⟩, w_297, k_293, w_299, (fun j h11 h13 h14 h17 h18 => un_300 j h11 h13 h14 h17 h18)⟩, by rw [ht]; exact hP9, va_K.moved hW.alike hK9, hD9⟩, hS.F ht⟩) hS.2.2 dX9_value_281
            · refine lv_lload hx hb dX9_value_258 (lv_at hl 0 rfl) ?_
              refine lv_iload_n hx hb dX9_value_260 rfl (lv_at hl 4 rfl) ?_
              have hFc := va_free (wc := []) hD hS hA [] rfl
              refine va_calli (va_runS (As := [.long ((tvs f (tfd f n (tsk f n j)) (i - tfd f n (tsk f n j))).1), .int p1]) (rest := []) ⟨hx, hb, hml, hown, hts⟩ (c_X9_isOf l dC dI ((tvs f (tfd f n (tsk f n j)) (i - tfd f n (tsk f n j))).1) p1 H.size) (cwS 2 hts gp_X9_value_X9_isOf_229 rfl rfl rfl (by decide +kernel) ⟨Nat.le_of_ble_eq_true rfl, Nat.le_of_ble_eq_true rfl⟩) ⟨Pr.blind _, fun U hU hW => ⟨rfl, Pr.at (hP.sub (ws' := []) [] rfl) (hK.sub (tys' := []) [] rfl) (hD.sub (ws' := []) [] (by decide) rfl) hN hZ RO.nil hS hFc hU hW⟩⟩ rfl rfl hl.1 rfl (lv_room (Nat.le_of_ble_eq_true rfl)) dX9_value_261 ⟨Nat.le_of_ble_eq_true rfl, Nat.le_of_ble_eq_true rfl⟩) hS (fun q _ h => hFc q h) hFc (fun r_302 u t H1 locs ht hvm hw_303 hB hz1 hk1 hS => ?_)
              obtain ⟨hP, hD, hK⟩ := Bq.join (wr := [(h0, .inr (11, mo g_284)), (a9, .inl (cT, 400, .inl f)), (a6, .inl (cP, 248, .inr (.inl fP)))]) hB ht hvm hP hD [] [0, 1, 2] rfl rfl (by decide) (by decide) hk1 hFc hK
              generalize H1 = H at hP hS ⊢
              have hP : va_P (dC, dI) vwCl [(h0, .inr (11, mo g_284)), (a9, .inl (cT, 400, .inl f)), (a6, .inl (cP, 248, .inr (.inl fP)))] H := hP
              have hD : va_D A [(h0, .inr (11, mo g_284)), (a9, .inl (cT, 400, .inl f)), (a6, .inl (cP, 248, .inr (.inl fP)))] := hD
              have hK : va_K (dC, dI) vwCl [(cT, .int), (cP, .long)] s := hK
              try dsimp only at hw_303
              have k_304 := hw_303
              rcases k_304 with ⟨ho, rfl⟩ | ⟨ho, rfl⟩
              · refine W.eq (g2 := F0 m 264 ls [.int 1]) rfl ?_
                refine lv_if_ne (tgt := 273) hx hb dX9_value_264 (by decide) (fun c_305 => ?_) (fun c_305 => absurd c_305 (by decide))
                refine lv_aload_n hx hb dX9_value_273 rfl (lv_at hl 2 rfl) ?_
                refine va_get (D := (dC, dI)) (ci := 11) (v := .ref a6) (C := RX9) (T := TX9) (N := 60) hx hb hts iRX9 hown hK hP 0 rfl rfl 6 (by decide) (hts (.fieldLink RX9 30 "RecordBenchModel" "plain" "[J") (by decide +kernel)) (fun _ h9 => h9) ((mo_get g_284 (by decide)).trans (congrArg some g_284h6)) dX9_value_274 ?_
                refine lv_iload_n hx hb dX9_value_277 rfl (lv_at hl 3 rfl) ?_
                refine lv_lload hx hb dX9_value_278 (lv_at hl 0 rfl) ?_
                refine va_last hx hb hK hP hD hS 2 1 rfl rfl hp0 dX9_value_280 (fun H locs hP hD hS => ?_)
                obtain ⟨f_306, ef_306⟩ : ∃ y : Nat → Int64, y = vp_updL fP (p0 : Int32).toNatClampNeg ((tvs f (tfd f n (tsk f n j)) (i - tfd f n (tsk f n j))).1) := ⟨_, rfl⟩
                have hP : va_P (dC, dI) vwCl [(h0, .inr (11, mo g_284)), (a9, .inl (cT, 400, .inl f)), (a6, .inl (cP, 248, .inr (.inl f_306)))] H := by rw [ef_306]; exact hP
                have hD : va_D A [(h0, .inr (11, mo g_284)), (a9, .inl (cT, 400, .inl f)), (a6, .inl (cP, 248, .inr (.inl f_306)))] := by rw [ef_306]; exact hD
                have hP9 := hP.sub (ws' := [(h0, .inr (11, mo g_284)), (a9, .inl (cT, 400, .inl f)), (a6, .inl (cP, 248, .inr (.inl f_306)))]) [0, 1, 2] rfl
                have hD9 := hD.sub (ws' := [(h0, .inr (11, mo g_284)), (a9, .inl (cT, 400, .inl f)), (a6, .inl (cP, 248, .inr (.inl f_306)))]) [0, 1, 2] (by decide) rfl
                have hK9 := hK.sub (tys' := []) [] rfl
                exact W.vret hx hb hr (fun t ht hW => ⟨⟨(g_284, i, b0, (nI i), f_306), rfl, ⟨Or.inl ⟨⟨by rw [htd]; exact fun h => c_283 (by rw [h]), by rw [htd]; omega, by rw [htd]; exact ⟨c_287, (fun h => absurd h.1 (by rw [hmi]; decide)), by rw [tvv, hmi, if_neg (by decide)]; exact ho⟩⟩, htd.symm, rfl, by rw [htd], by rw [ef_306, htd, tvv, hmi, if_neg (by decide)]⟩, g_284h11, g_284h13, g_284h18, (fun j h11 h13 h14 h17 h18 => ung_284 j h11 h17 h18)⟩, by rw [ht]; exact hP9, va_K.moved hW.alike hK9, hD9⟩, hS.F ht⟩) hS.2.2 dX9_value_281
              · refine W.eq (g2 := F0 m 264 ls [.int 0]) rfl ?_
                refine lv_if_ne (tgt := 273) hx hb dX9_value_264 (by decide) (fun c_307 => absurd (by decide) c_307) (fun c_307 => ?_)
                refine lv_aload_n hx hb dX9_value_267 rfl (lv_at hl 2 rfl) ?_
                refine lv_iconst (v := 2) hx hb dX9_value_268 (by decide) ?_
                refine lv_iload_n hx hb dX9_value_269 rfl (lv_at hl 5 rfl) ?_
                have hFc := va_free (wc := [(h0, .inr (11, mo g_284))]) hD hS hA [0] rfl
                refine va_callv (va_runV (As := [.int 2, .int (nI (tsk f n j))]) (rest := []) ⟨hx, hb, hml, hown, hts⟩ (c_X9_fail l dC dI h0 g_284 b0 (v14) g_284h13 g_284h14 2 (nI (tsk f n j)) (by decide) H.size) (cwV 2 hts gp_X9_value_X9_fail_154 rfl rfl rfl (by decide +kernel) ⟨Nat.le_of_ble_eq_true rfl, Nat.le_of_ble_eq_true rfl⟩) ⟨Pr.blind _, va_recv hK hP (ci := 11) (q0 := 0) rfl rfl, fun U hU hW => ⟨rfl, Pr.at (hP.sub (ws' := [(h0, .inr (11, mo g_284))]) [0] rfl) (hK.sub (tys' := []) [] rfl) (hD.sub (ws' := [(h0, .inr (11, mo g_284))]) [0] (by decide) rfl) hN hZ RO.nil hS hFc hU hW⟩⟩ rfl rfl hl.1 rfl (lv_room (Nat.le_of_ble_eq_true rfl)) dX9_value_270 ⟨Nat.le_of_ble_eq_true rfl, Nat.le_of_ble_eq_true rfl⟩) hS (fun q _ h => hFc q h) hFc (fun u t H1 locs ht hvm hw_309 hB hz1 hk1 hS => ?_)
                obtain ⟨g1_310, b1_311⟩ := u
                obtain ⟨hP, hD, hK⟩ := Bq.join (wr := [(a9, .inl (cT, 400, .inl f)), (a6, .inl (cP, 248, .inr (.inl fP)))]) hB ht hvm hP hD [0] [1, 2] rfl rfl (by decide) (by decide) hk1 hFc hK
                generalize H1 = H at hP hS ⊢
                have hP : va_P (dC, dI) vwCl [(a9, .inl (cT, 400, .inl f)), (a6, .inl (cP, 248, .inr (.inl fP))), (h0, .inr (11, mo g1_310))] H := hP
                have hD : va_D A [(a9, .inl (cT, 400, .inl f)), (a6, .inl (cP, 248, .inr (.inl fP))), (h0, .inr (11, mo g1_310))] := hD
                have hK : va_K (dC, dI) vwCl [(cT, .int), (cP, .long)] s := hK
                try dsimp only at hw_309
                obtain ⟨k_312, k_313, k_314⟩ := hw_309
                have w_315 : g1_310 6 = .ref a6 := (k_314 6 (by decide) (by decide)).trans g_284h6
                have w_316 : g1_310 9 = .ref a9 := (k_314 9 (by decide) (by decide)).trans g_284h9
                have w_317 : g1_310 11 = .int (nI i) := (k_314 11 (by decide) (by decide)).trans g_284h11
                have w_318 : g1_310 12 = .int (nI n) := (k_314 12 (by decide) (by decide)).trans g_284h12
                have w_319 : g1_310 18 = .int (nI i) := (k_314 18 (by decide) (by decide)).trans g_284h18
                have un_320 : ∀ j : Nat, j ≠ 11 → j ≠ 13 → j ≠ 14 → j ≠ 17 → j ≠ 18 → g1_310 j = g j := fun j h11 h13 h14 h17 h18 => (k_314 j h13 h14).trans (ung_284 j h11 h17 h18)
                refine lv_aload_n hx hb dX9_value_273 rfl (lv_at hl 2 rfl) ?_
                refine va_get (D := (dC, dI)) (ci := 11) (v := .ref a6) (C := RX9) (T := TX9) (N := 60) hx hb hts iRX9 hown hK hP 2 rfl rfl 6 (by decide) (hts (.fieldLink RX9 30 "RecordBenchModel" "plain" "[J") (by decide +kernel)) (fun _ h9 => h9) ((mo_get g1_310 (by decide)).trans (congrArg some w_315)) dX9_value_274 ?_
                refine lv_iload_n hx hb dX9_value_277 rfl (lv_at hl 3 rfl) ?_
                refine lv_lload hx hb dX9_value_278 (lv_at hl 0 rfl) ?_
                refine va_last hx hb hK hP hD hS 1 1 rfl rfl hp0 dX9_value_280 (fun H locs hP hD hS => ?_)
                obtain ⟨f_321, ef_321⟩ : ∃ y : Nat → Int64, y = vp_updL fP (p0 : Int32).toNatClampNeg ((tvs f (tfd f n (tsk f n j)) (i - tfd f n (tsk f n j))).1) := ⟨_, rfl⟩
                have hP : va_P (dC, dI) vwCl [(a9, .inl (cT, 400, .inl f)), (a6, .inl (cP, 248, .inr (.inl f_321))), (h0, .inr (11, mo g1_310))] H := by rw [ef_321]; exact hP
                have hD : va_D A [(a9, .inl (cT, 400, .inl f)), (a6, .inl (cP, 248, .inr (.inl f_321))), (h0, .inr (11, mo g1_310))] := by rw [ef_321]; exact hD
                have hP9 := hP.sub (ws' := [(h0, .inr (11, mo g1_310)), (a9, .inl (cT, 400, .inl f)), (a6, .inl (cP, 248, .inr (.inl f_321)))]) [2, 0, 1] rfl
                have hD9 := hD.sub (ws' := [(h0, .inr (11, mo g1_310)), (a9, .inl (cT, 400, .inl f)), (a6, .inl (cP, 248, .inr (.inl f_321)))]) [2, 0, 1] (by decide) rfl
                have hK9 := hK.sub (tys' := []) [] rfl
                exact W.vret hx hb hr (fun t ht hW => ⟨⟨(g1_310, i, b1_311, (nI i), f_321), rfl, ⟨Or.inr ⟨fun h => ho (by have := h.2.2.2.2; rw [htd, tvv, hmi, if_neg (by decide)] at this; exact this), hi3, k_312⟩, w_317, k_313, w_319, (fun j h11 h13 h14 h17 h18 => un_320 j h11 h13 h14 h17 h18)⟩, by rw [ht]; exact hP9, va_K.moved hW.alike hK9, hD9⟩, hS.F ht⟩) hS.2.2 dX9_value_281
          · refine lv_aload_n hx hb dX9_value_207 rfl (lv_at hl 2 rfl) ?_
            refine lv_iconst (v := 1) hx hb dX9_value_208 (by decide) ?_
            refine lv_aload_n hx hb dX9_value_209 rfl (lv_at hl 2 rfl) ?_
            refine va_get (D := (dC, dI)) (ci := 11) (v := .int (nI i)) (C := RX9) (T := TX9) (N := 60) hx hb hts iRX9 hown hK hP 0 rfl rfl 11 (by decide) (hts (.fieldLink RX9 141 "RecordBenchModel" "at" "I") (by decide +kernel)) (fun _ h9 => h9) ((mo_get g2 (by decide)).trans (congrArg some h11)) dX9_value_210 ?_
            have hFc := va_free (wc := [(h0, .inr (11, mo g2))]) hD hS hA [0] rfl
            refine va_callv (va_runV (As := [.int 1, .int (nI i)]) (rest := []) ⟨hx, hb, hml, hown, hts⟩ (c_X9_fail l dC dI h0 g2 b0 (v14) h13 h14 1 (nI i) (by decide) H.size) (cwV 2 hts gp_X9_value_X9_fail_154 rfl rfl rfl (by decide +kernel) ⟨Nat.le_of_ble_eq_true rfl, Nat.le_of_ble_eq_true rfl⟩) ⟨Pr.blind _, va_recv hK hP (ci := 11) (q0 := 0) rfl rfl, fun U hU hW => ⟨rfl, Pr.at (hP.sub (ws' := [(h0, .inr (11, mo g2))]) [0] rfl) (hK.sub (tys' := []) [] rfl) (hD.sub (ws' := [(h0, .inr (11, mo g2))]) [0] (by decide) rfl) hN hZ RO.nil hS hFc hU hW⟩⟩ rfl rfl hl.1 rfl (lv_room (Nat.le_of_ble_eq_true rfl)) dX9_value_213 ⟨Nat.le_of_ble_eq_true rfl, Nat.le_of_ble_eq_true rfl⟩) hS (fun q _ h => hFc q h) hFc (fun u t H1 locs ht hvm hw_323 hB hz1 hk1 hS => ?_)
            obtain ⟨g1_324, b1_325⟩ := u
            obtain ⟨hP, hD, hK⟩ := Bq.join (wr := [(a9, .inl (cT, 400, .inl f)), (a6, .inl (cP, 248, .inr (.inl fP)))]) hB ht hvm hP hD [0] [1, 2] rfl rfl (by decide) (by decide) hk1 hFc hK
            generalize H1 = H at hP hS ⊢
            have hP : va_P (dC, dI) vwCl [(a9, .inl (cT, 400, .inl f)), (a6, .inl (cP, 248, .inr (.inl fP))), (h0, .inr (11, mo g1_324))] H := hP
            have hD : va_D A [(a9, .inl (cT, 400, .inl f)), (a6, .inl (cP, 248, .inr (.inl fP))), (h0, .inr (11, mo g1_324))] := hD
            have hK : va_K (dC, dI) vwCl [(cT, .int), (cP, .long)] s := hK
            try dsimp only at hw_323
            obtain ⟨k_326, k_327, k_328⟩ := hw_323
            have w_329 : g1_324 6 = .ref a6 := (k_328 6 (by decide) (by decide)).trans h6
            have w_330 : g1_324 9 = .ref a9 := (k_328 9 (by decide) (by decide)).trans h9
            have w_331 : g1_324 11 = .int (nI i) := (k_328 11 (by decide) (by decide)).trans h11
            have w_332 : g1_324 12 = .int (nI n) := (k_328 12 (by decide) (by decide)).trans h12
            have w_333 : g1_324 18 = .int x18 := (k_328 18 (by decide) (by decide)).trans h18
            have un_334 : ∀ j : Nat, j ≠ 11 → j ≠ 13 → j ≠ 14 → j ≠ 17 → g1_324 j = g j := fun j h11 h13 h14 h17 => (k_328 j h13 h14).trans (hun j h11 h17)
            have hP9 := hP.sub (ws' := [(h0, .inr (11, mo g1_324)), (a9, .inl (cT, 400, .inl f)), (a6, .inl (cP, 248, .inr (.inl fP)))]) [2, 0, 1] rfl
            have hD9 := hD.sub (ws' := [(h0, .inr (11, mo g1_324)), (a9, .inl (cT, 400, .inl f)), (a6, .inl (cP, 248, .inr (.inl fP)))]) [2, 0, 1] (by decide) rfl
            have hK9 := hK.sub (tys' := []) [] rfl
            exact W.vret hx hb hr (fun t ht hW => ⟨⟨(g1_324, i, b1_325, x18, fP), rfl, ⟨Or.inr ⟨fun h => h.1 (by rw [htd]; exact (nI_eq (by omega) (by omega)).mp c_283), hi3, k_326⟩, w_331, k_327, w_333, (fun j h11 h13 h14 h17 h18 => un_334 j h11 h13 h14 h17)⟩, by rw [ht]; exact hP9, va_K.moved hW.alike hK9, hD9⟩, hS.F ht⟩) hS.2.2 dX9_value_216
