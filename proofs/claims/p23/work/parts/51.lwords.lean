-- ===== end of PART A; then your names; then what follows =====
/-! THE CLAIM OUT OF ONE WALK OF THE LAW'S BODY. Your part is whole_start (and what it stands on); all else here is the same for every law, but numbers. -/
def R_law : String := "RecordBenchLaw"
def lw_P (b : Addr) (xs : List Int32) (args : Array Value) (s : State) : Prop := args = #[.ref b] ∧ s.IntsAt b xs ∧ xs.length ≤ 3072 ∧ (Jvm.Cond.and given_1 narrow_1).before args s = true
def lw_Q (_ : Array Value) (s : State) (o : Outcome) (t : State) : Prop := o = .returned (some (.int 1)) ∧ Framed s o t [] 600000 7302250
def lw_Z (below : List Frame) (a : Array Value) (s : State) : State → Prop := fun t => ∃ o, t.status = .running ∧ Ended t below o ∧ lw_Q a s o t
/-- the law's own end, with 1 on the stack, nothing written that was there before, its room as the claim has it -/
theorem lw_ret {p : Program} {l : Launch} {e : Env} {s : State} {m : MethodId} {below : List Frame} {meth : Method} {c : Code} {b : Nat} (hx : p.tables.exec = Jvm.exec) (hb : c.code = code) (hr : meth.sig.returnType = ret) (hlocks : meth.locks = false) {pc : Nat} {H : Heap} {ls : Array Slot} (hdg : decode code pc = .ok (.ireturn, 1)) : W p l e room_1 s m #[Value.ref b] below meth c H [] 600000 7302250 (lw_Z below #[Value.ref b] s) (F0 m pc ls [.int 1]) := by
  intro T hT X
  obtain ⟨fs, hret, hrun, hended, hW, hframe⟩ := X.leave (v := some (.int 1)) (hlocks := hlocks) (fun h => by rw [hr] at h; cases h)
  have hmeth' : T.vm.method? m = some meth := X.method'
  refine ⟨T.setFrames fs, ?_, .returned (some (.int 1)), hrun, hended, rfl, ⟨_, rfl⟩, hW, hframe⟩
  jvm_step X.here [X.here.top, hx, hb, hdg, hmeth', hr, ret, narrow_b1]
  (try refine ⟨rfl, ?_⟩); (try refine ⟨rfl, ?_⟩)
  first | (intro acts; rw [hret _ acts rfl rfl rfl]) | rw [hret _ _ rfl rfl rfl]
  exact Steps.refl _
/-- what holds at the law's entry: the machine, the code, the tables' words (any of lw_tbl by 'hts w (by decide +kernel)'), the script of L ints xs at the cell b, what the Statement gives of the start (any of its parts by flat_of_before) -/
def lw_At (p : Program) (s : State) (m : MethodId) (meth : Method) (c : Code) (b L : Nat) (xs : Nat → Int32) : Prop :=
  p.tables.exec = Jvm.exec ∧ c.code = code ∧ meth.sig.returnType = ret ∧ c.maxLocals = 4 ∧ s.vm.findClass R_law = some m.cls ∧ (∀ w ∈ lw_tbl, w.before #[Value.ref b] s = true) ∧ va_X b L xs s s.heap ∧ b < s.heap.size ∧ meth.locks = false ∧ (Jvm.Cond.and given_1 narrow_1).before #[Value.ref b] s = true

/-- 'selects' of a private method of a class above -/
theorem sel_priv {C : String} {x0 y0 y : MethodName} {s : State} {args : Array Value} {n : Nat} (hy : y.cls ≠ "java/lang/invoke/MethodHandle" ∧ y.cls ≠ "java/lang/invoke/VarHandle") (hins : (Cond.instantiable C n).before args s = true) (hpriv : (Cond.privateMethod y).before args s = true) (hinst : (Cond.instanceMethod y).before args s = true) (hsel0 : (Cond.selects C x0 y0).before args s = true) (h0 : y0.cls = y.cls) : (Cond.selects C y y).before args s = true := by
  obtain ⟨c, k, hc, hk, -, hniab, -, -⟩ := Cond.instantiable_spec hins
  obtain ⟨mk, methM, hnamed, hmethM, -, -⟩ := Cond.instanceMethod_spec hinst
  obtain ⟨c2, r2, m2, -, -, q3, -, kP, hkP, hkPi⟩ := Cond.selects_spec hsel0
  have hcls : m2.cls = mk.cls := by
    have e1 := findClass_of_methodNamed q3
    rw [h0] at e1
    exact Option.some.inj (e1.symm.trans (findClass_of_methodNamed hnamed))
  rw [hcls] at hkP
  have hfound : s.methodFound? y.cls y.name y.desc = some mk := State.methodFound?_of_named hnamed hy
  have hsel : selectMethod {} s.vm c mk = .method mk := selectMethod_private hmethM (Cond.privateMethod_at hpriv mk methM hnamed hmethM)
  simp only [Cond.before, Cond.holds, Cond.value, hc, hfound, hnamed, hsel, hkP]
  simp
  exact hkPi
def lwX : List Cond := [.selects RJ4 ⟨"java/lang/AbstractStringBuilder", "ensureCapacityInternal", "(I)V"⟩ yJ5_ensureCapacityInternal_d00df, .selects RJ4 ⟨"java/lang/AbstractStringBuilder", "newCapacity", "(I)I"⟩ yJ5_newCapacity_0f7a4]
def lwT : List Cond := lwX ++ lw_tbl
theorem lwT_ok {args : Array Value} {s : State} (hts : ∀ w ∈ lw_tbl, w.before args s = true) : ∀ w ∈ lwT, w.before args s = true := by
  intro w hw
  rcases List.mem_append.mp hw with hw | hw
  · have h0 := hts (.selects RJ4 ⟨"java/lang/AbstractStringBuilder", "isLatin1", "()Z"⟩ yJ5_isLatin1_aae02) (by decide +kernel)
    have h1 := hts (.instantiable RJ4 4) (by decide +kernel)
    rcases List.mem_cons.mp hw with rfl | hw
    · exact sel_priv (y := yJ5_ensureCapacityInternal_d00df) ⟨by decide, by decide⟩ h1 (hts (.privateMethod yJ5_ensureCapacityInternal_d00df) (by decide +kernel)) (hts (.instanceMethod yJ5_ensureCapacityInternal_d00df) (by decide +kernel)) h0 rfl
    · rcases List.mem_cons.mp hw with rfl | hw
      · exact sel_priv (y := yJ5_newCapacity_0f7a4) ⟨by decide, by decide⟩ h1 (hts (.privateMethod yJ5_newCapacity_0f7a4) (by decide +kernel)) (hts (.instanceMethod yJ5_newCapacity_0f7a4) (by decide +kernel)) h0 rfl
      · cases hw
  · exact hts w hw

set_option maxRecDepth 20000 in
theorem gcl_J0 : GoodIn lwT (u_ws RJ0 TJ0 4) := goodIn_r _ [623, 625, 627, 629] (by decide +kernel) (by decide +kernel)
theorem iL_J0 : ∀ w ∈ u_ws RJ0 TJ0 4, w ∈ lwT := fun w h => (gcl_J0 w h).1
set_option maxRecDepth 20000 in
theorem gcl_J4 : GoodIn lwT (u_ws RJ4 TJ4 4) := goodIn_r _ [148, 150, 152, 154] (by decide +kernel) (by decide +kernel)
theorem iL_J4 : ∀ w ∈ u_ws RJ4 TJ4 4, w ∈ lwT := fun w h => (gcl_J4 w h).1
set_option maxRecDepth 20000 in
theorem gcl_X0 : GoodIn lwT (u_ws RX0 TX0 7) := goodIn_r _ [415, 417, 419, 421, 423, 425, 427] (by decide +kernel) (by decide +kernel)
theorem iL_X0 : ∀ w ∈ u_ws RX0 TX0 7, w ∈ lwT := fun w h => (gcl_X0 w h).1
set_option maxRecDepth 20000 in
theorem gcl_X1 : GoodIn lwT (u_ws RX1 TX1 2) := goodIn_r _ [351, 353] (by decide +kernel) (by decide +kernel)
theorem iL_X1 : ∀ w ∈ u_ws RX1 TX1 2, w ∈ lwT := fun w h => (gcl_X1 w h).1
set_option maxRecDepth 20000 in
theorem gcl_X2 : GoodIn lwT (u_ws RX2 TX2 8) := goodIn_r _ [209, 211, 213, 215, 217, 219, 221, 223] (by decide +kernel) (by decide +kernel)
theorem iL_X2 : ∀ w ∈ u_ws RX2 TX2 8, w ∈ lwT := fun w h => (gcl_X2 w h).1
set_option maxRecDepth 20000 in
theorem gcl_X3 : GoodIn lwT (u_ws RX3 TX3 4) := goodIn_r _ [230, 232, 234, 236] (by decide +kernel) (by decide +kernel)
theorem iL_X3 : ∀ w ∈ u_ws RX3 TX3 4, w ∈ lwT := fun w h => (gcl_X3 w h).1
set_option maxRecDepth 20000 in
theorem gcl_X4 : GoodIn lwT (u_ws RX4 TX4 3) := goodIn_r _ [252, 254, 256] (by decide +kernel) (by decide +kernel)
theorem iL_X4 : ∀ w ∈ u_ws RX4 TX4 3, w ∈ lwT := fun w h => (gcl_X4 w h).1
set_option maxRecDepth 20000 in
theorem gcl_X5 : GoodIn lwT (u_ws RX5 TX5 2) := goodIn_r _ [110, 112] (by decide +kernel) (by decide +kernel)
theorem iL_X5 : ∀ w ∈ u_ws RX5 TX5 2, w ∈ lwT := fun w h => (gcl_X5 w h).1
set_option maxRecDepth 20000 in
theorem gcl_X6 : GoodIn lwT (u_ws RX6 TX6 6) := goodIn_r _ [164, 166, 168, 170, 172, 174] (by decide +kernel) (by decide +kernel)
theorem iL_X6 : ∀ w ∈ u_ws RX6 TX6 6, w ∈ lwT := fun w h => (gcl_X6 w h).1
set_option maxRecDepth 20000 in
theorem gcl_X7 : GoodIn lwT (u_ws RX7 TX7 2) := goodIn_r _ [267, 269] (by decide +kernel) (by decide +kernel)
theorem iL_X7 : ∀ w ∈ u_ws RX7 TX7 2, w ∈ lwT := fun w h => (gcl_X7 w h).1
set_option maxRecDepth 20000 in
theorem gcl_X8 : GoodIn lwT (u_ws RX8 TX8 12) := goodIn_r _ [284, 286, 288, 290, 292, 294, 296, 298, 300, 302, 304, 306] (by decide +kernel) (by decide +kernel)
theorem iL_X8 : ∀ w ∈ u_ws RX8 TX8 12, w ∈ lwT := fun w h => (gcl_X8 w h).1
set_option maxRecDepth 20000 in
theorem gcl_X9 : GoodIn lwT (u_ws RX9 TX9 60) := goodIn_r _ [1099, 1101, 1103, 1105, 1107, 1109, 1111, 1113, 1115, 1117, 1119, 1121, 1123, 1125, 1127, 1129, 1131, 1133, 1135, 1137, 1139, 1141, 1143, 1145, 1147, 1149, 1151, 1153, 1155, 1157, 1159, 1161, 1163, 1165, 1167, 1169, 1171, 1173, 1175, 1177, 1179, 1181, 1183, 1185, 1187, 1189, 1191, 1193, 1195, 1197, 1199, 1201, 1203, 1205, 1207, 1209, 1211, 1213, 1215, 1217] (by decide +kernel) (by decide +kernel)
theorem iL_X9 : ∀ w ∈ u_ws RX9 TX9 60, w ∈ lwT := fun w h => (gcl_X9 w h).1
