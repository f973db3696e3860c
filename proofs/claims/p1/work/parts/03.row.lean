theorem dX5_become_0 : decode cX5_become 0 = .ok (.iconst 0, 1) := by decide +kernel
theorem dX5_become_1 : decode cX5_become 1 = .ok (.istore 4, 2) := by decide +kernel
theorem dX5_become_3 : decode cX5_become 3 = .ok (.iload_n 2, 1) := by decide +kernel
theorem dX5_become_4 : decode cX5_become 4 = .ok (.istore 5, 2) := by decide +kernel
theorem dX5_become_48 : decode cX5_become 48 = .ok (.aload_n 0, 1) := by decide +kernel
theorem dX5_become_49 : decode cX5_become 49 = .ok (.iload 4, 2) := by decide +kernel
theorem dX5_become_51 : decode cX5_become 51 = .ok (.putfield 21, 3) := by decide +kernel
theorem dX5_become_54 : decode cX5_become 54 = .ok (.return_, 1) := by decide +kernel
theorem dX5_become_6 : decode cX5_become 6 = .ok (.iload 5, 2) := by decide +kernel
theorem dX5_become_8 : decode cX5_become 8 = .ok (.iload_n 3, 1) := by decide +kernel
theorem dX5_become_9 : decode cX5_become 9 = .ok (.if_icmp .ge 39, 3) := by decide +kernel
theorem dX5_byteAt_0 : decode cX5_byteAt 0 = .ok (.iload_n 1, 1) := by decide +kernel
theorem dX5_byteAt_1 : decode cX5_byteAt 1 = .ok (.ifCond .lt 20, 3) := by decide +kernel
theorem dX5_byteAt_21 : decode cX5_byteAt 21 = .ok (.iconst (-1), 1) := by decide +kernel
theorem dX5_byteAt_22 : decode cX5_byteAt 22 = .ok (.ireturn, 1) := by decide +kernel
theorem dX5_byteAt_4 : decode cX5_byteAt 4 = .ok (.iload_n 1, 1) := by decide +kernel
theorem dX5_byteAt_5 : decode cX5_byteAt 5 = .ok (.aload_n 0, 1) := by decide +kernel
theorem dX5_byteAt_6 : decode cX5_byteAt 6 = .ok (.getfield 21, 3) := by decide +kernel
theorem dX5_byteAt_9 : decode cX5_byteAt 9 = .ok (.if_icmp .ge 12, 3) := by decide +kernel
theorem dX5_cut_0 : decode cX5_cut 0 = .ok (.iload_n 1, 1) := by decide +kernel
theorem dX5_cut_1 : decode cX5_cut 1 = .ok (.ifCond .lt 11, 3) := by decide +kernel
theorem dX5_cut_12 : decode cX5_cut 12 = .ok (.iconst 0, 1) := by decide +kernel
theorem dX5_cut_13 : decode cX5_cut 13 = .ok (.ireturn, 1) := by decide +kernel
theorem dX5_cut_14 : decode cX5_cut 14 = .ok (.aload_n 0, 1) := by decide +kernel
theorem dX5_cut_15 : decode cX5_cut 15 = .ok (.iload_n 1, 1) := by decide +kernel
theorem dX5_cut_16 : decode cX5_cut 16 = .ok (.putfield 21, 3) := by decide +kernel
theorem dX5_cut_19 : decode cX5_cut 19 = .ok (.iconst 1, 1) := by decide +kernel
theorem dX5_cut_20 : decode cX5_cut 20 = .ok (.ireturn, 1) := by decide +kernel
theorem dX5_cut_4 : decode cX5_cut 4 = .ok (.iload_n 1, 1) := by decide +kernel
theorem dX5_cut_5 : decode cX5_cut 5 = .ok (.aload_n 0, 1) := by decide +kernel
theorem dX5_cut_6 : decode cX5_cut 6 = .ok (.getfield 21, 3) := by decide +kernel
theorem dX5_cut_9 : decode cX5_cut 9 = .ok (.if_icmp .le 5, 3) := by decide +kernel
theorem dX5_init_0 : decode cX5_init 0 = .ok (.aload_n 0, 1) := by decide +kernel
theorem dX5_init_1 : decode cX5_init 1 = .ok (.invokespecial 3, 3) := by decide +kernel
theorem dX5_init_10 : decode cX5_init 10 = .ok (.newarray .int, 2) := by decide +kernel
theorem dX5_init_12 : decode cX5_init 12 = .ok (.putfield 15, 3) := by decide +kernel
theorem dX5_init_15 : decode cX5_init 15 = .ok (.aload_n 0, 1) := by decide +kernel
theorem dX5_init_16 : decode cX5_init 16 = .ok (.iconst 0, 1) := by decide +kernel
theorem dX5_init_17 : decode cX5_init 17 = .ok (.putfield 21, 3) := by decide +kernel
theorem dX5_init_20 : decode cX5_init 20 = .ok (.return_, 1) := by decide +kernel
theorem dX5_init_4 : decode cX5_init 4 = .ok (.aload_n 0, 1) := by decide +kernel
theorem dX5_init_5 : decode cX5_init 5 = .ok (.iload_n 1, 1) := by decide +kernel
theorem dX5_init_6 : decode cX5_init 6 = .ok (.iconst 0, 1) := by decide +kernel
theorem dX5_init_7 : decode cX5_init 7 = .ok (.invokestatic 9, 3) := by decide +kernel
theorem dX5_pushWord_0 : decode cX5_pushWord 0 = .ok (.aload_n 0, 1) := by decide +kernel
theorem dX5_pushWord_1 : decode cX5_pushWord 1 = .ok (.iload_n 1, 1) := by decide +kernel
theorem dX5_pushWord_10 : decode cX5_pushWord 10 = .ok (.bipush 16, 2) := by decide +kernel
theorem dX5_pushWord_12 : decode cX5_pushWord 12 = .ok (.iushr, 1) := by decide +kernel
theorem dX5_pushWord_13 : decode cX5_pushWord 13 = .ok (.invokevirtual 25, 3) := by decide +kernel
theorem dX5_pushWord_16 : decode cX5_pushWord 16 = .ok (.aload_n 0, 1) := by decide +kernel
theorem dX5_pushWord_17 : decode cX5_pushWord 17 = .ok (.iload_n 1, 1) := by decide +kernel
theorem dX5_pushWord_18 : decode cX5_pushWord 18 = .ok (.bipush 8, 2) := by decide +kernel
theorem dX5_pushWord_2 : decode cX5_pushWord 2 = .ok (.bipush 24, 2) := by decide +kernel
theorem dX5_pushWord_20 : decode cX5_pushWord 20 = .ok (.iushr, 1) := by decide +kernel
theorem dX5_pushWord_21 : decode cX5_pushWord 21 = .ok (.invokevirtual 25, 3) := by decide +kernel
theorem dX5_pushWord_24 : decode cX5_pushWord 24 = .ok (.aload_n 0, 1) := by decide +kernel
theorem dX5_pushWord_25 : decode cX5_pushWord 25 = .ok (.iload_n 1, 1) := by decide +kernel
theorem dX5_pushWord_26 : decode cX5_pushWord 26 = .ok (.invokevirtual 25, 3) := by decide +kernel
theorem dX5_pushWord_29 : decode cX5_pushWord 29 = .ok (.return_, 1) := by decide +kernel
theorem dX5_pushWord_4 : decode cX5_pushWord 4 = .ok (.iushr, 1) := by decide +kernel
theorem dX5_pushWord_5 : decode cX5_pushWord 5 = .ok (.invokevirtual 25, 3) := by decide +kernel
theorem dX5_pushWord_8 : decode cX5_pushWord 8 = .ok (.aload_n 0, 1) := by decide +kernel
theorem dX5_pushWord_9 : decode cX5_pushWord 9 = .ok (.iload_n 1, 1) := by decide +kernel
theorem dX5_push_0 : decode cX5_push 0 = .ok (.aload_n 0, 1) := by decide +kernel
theorem dX5_push_1 : decode cX5_push 1 = .ok (.getfield 21, 3) := by decide +kernel
theorem dX5_push_12 : decode cX5_push 12 = .ok (.aload_n 0, 1) := by decide +kernel
theorem dX5_push_13 : decode cX5_push 13 = .ok (.getfield 15, 3) := by decide +kernel
theorem dX5_push_16 : decode cX5_push 16 = .ok (.aload_n 0, 1) := by decide +kernel
theorem dX5_push_17 : decode cX5_push 17 = .ok (.getfield 21, 3) := by decide +kernel
theorem dX5_push_20 : decode cX5_push 20 = .ok (.iload_n 1, 1) := by decide +kernel
theorem dX5_push_21 : decode cX5_push 21 = .ok (.sipush 255, 3) := by decide +kernel
theorem dX5_push_24 : decode cX5_push 24 = .ok (.iand, 1) := by decide +kernel
theorem dX5_push_25 : decode cX5_push 25 = .ok (.iastore, 1) := by decide +kernel
theorem dX5_push_26 : decode cX5_push 26 = .ok (.aload_n 0, 1) := by decide +kernel
theorem dX5_push_27 : decode cX5_push 27 = .ok (.dup, 1) := by decide +kernel
theorem dX5_push_28 : decode cX5_push 28 = .ok (.getfield 21, 3) := by decide +kernel
theorem dX5_push_31 : decode cX5_push 31 = .ok (.iconst 1, 1) := by decide +kernel
theorem dX5_push_32 : decode cX5_push 32 = .ok (.iadd, 1) := by decide +kernel
theorem dX5_push_33 : decode cX5_push 33 = .ok (.putfield 21, 3) := by decide +kernel
theorem dX5_push_36 : decode cX5_push 36 = .ok (.return_, 1) := by decide +kernel
theorem dX5_push_4 : decode cX5_push 4 = .ok (.aload_n 0, 1) := by decide +kernel
theorem dX5_push_5 : decode cX5_push 5 = .ok (.getfield 15, 3) := by decide +kernel
theorem dX5_push_8 : decode cX5_push 8 = .ok (.arraylength, 1) := by decide +kernel
theorem dX5_push_9 : decode cX5_push 9 = .ok (.if_icmp .ge 27, 3) := by decide +kernel
theorem dX5_size_0 : decode cX5_size 0 = .ok (.aload_n 0, 1) := by decide +kernel
theorem dX5_size_1 : decode cX5_size 1 = .ok (.getfield 21, 3) := by decide +kernel
theorem dX5_size_4 : decode cX5_size 4 = .ok (.ireturn, 1) := by decide +kernel
def wp_X5_init : List Cond := .code yX5_init cX5_init 2 none :: ([.methodLink RX5 3 objectInit, .instanceMethod objectInit, .code objectInit ⟨#[0xb1]⟩ 1 none, .methodLink RX5 9 Lib.Math.max.name, .static Lib.Math.max.name, .initialized "java/lang/Math", .code Lib.Math.max.name Lib.Math.max.code 2 (some .int), .arrayClass .int, .fieldLink RX5 15 "RecordBench$Row" "bytes" "[I", .fieldLink RX5 21 "RecordBench$Row" "size" "I"] ++ wsX50)
set_option maxHeartbeats 4000000 in
set_option maxRecDepth 100000 in
theorem c_X5_init (l : Launch) (dC : Nat → ClassId) (dI : Nat → Nat → Nat) (h0 : Nat) (p0 : Int32) (k : Nat) (hp : ¬ p0 < 0) (hk : p0.toNatClampNeg = k) (hk4 : k ≤ 400) (sz : Nat) : Met l yX5_init wp_X5_init ({ frames := 1, cells := 1, slots := k, locals := 18 }) (va_Pc [.ref h0, .int p0] (Pr (dC, dI) [] [(h0, .inr (7, [.null, .int 0]))] sz)) (va_Qv (fun (u : Nat × ClassId) => match u with | (q, cA) => True) (Bq (dC, dI) (fun (u : Nat × ClassId) => match u with | (q, cA) => [(h0, .inr (7, [.ref q, .int 0])), (q, .inl (cA, k, .inl (fun _ => 0)))]) (fun (u : Nat × ClassId) => match u with | (q, cA) => [(cA, .int)]) (va_A [(h0, .inr (7, [.null, .int 0]))] sz)) (va_A [(h0, .inr (7, [.null, .int 0]))] sz)) 1 k (va_A [(h0, .inr (7, [.null, .int 0]))] sz) := by
  refine Met.ofW (cc := cX5_init) (maxL := 2) (ret := none) (by decide) rfl ?_
  intro p e s m args below meth c s₁ B hml hv
  obtain ⟨rfl, hsz, hP, hK, hD0, hN, hZ⟩ := hv
  have hx := B.exec
  have hb := B.bytes
  have hr := B.returns
  have hts := atoms_spec (ws := wp_X5_init) B.pre
  have hown : s.vm.findClass RX5 = some m.cls := findClass_of_methodNamed B.named
  have hlocks := B.notSynchronized
  have hin : meth.name = "<init>" := (name_of_methodNamed B.named B.method).1
  have iRX5 : ∀ w ∈ u_ws RX5 TX5 2, w ∈ wp_X5_init := by decide +kernel
  subst hsz
  have hD := hD0.self (sz := s.heap.size)
  generalize hAe : va_A [(h0, .inr (7, [.null, .int 0]))] s.heap.size = A at hD hZ ⊢
  have hA : ∀ q : Nat, s.heap.size ≤ q → A q := fun q h => by rw [← hAe]; exact Or.inr h
  have hS : va_S A s.heap s.heap [] := va_S.rf
  have hP : va_P (dC, dI) vwCl [(h0, .inr (7, [.null, .int 0]))] s.heap := hP
  have hl := lv_entry ([.ref h0, .int p0]) (n := 2) (Nat.le_of_ble_eq_true rfl)
  rw [lg_entry_eq]
  generalize (lg_sl ([.ref h0, .int p0]) ++ List.replicate (2 - (lg_sl ([.ref h0, .int p0])).length) Slot.unset).toArray = ls at hl ⊢
  have hl : lv_has ls 2 [(0, .ref h0), (1, .int p0)] := hl
  refine lv_aload_n hx hb dX5_init_0 rfl (lv_at hl 0 rfl) ?_
  refine W.objInit hx hb hown (hts (.methodLink RX5 3 objectInit) (by decide +kernel)) (hts (.instanceMethod objectInit) (by decide +kernel)) (hts (.code objectInit ⟨#[0xb1]⟩ 1 none) (by decide +kernel)) rfl (by rw [hml]; exact hl.1) rfl dX5_init_1 (Nat.le_of_ble_eq_true rfl) (Nat.le_of_ble_eq_true rfl) ?_
  refine W.eq (g2 := F0 m 4 ls []) rfl ?_
  refine lv_aload_n hx hb dX5_init_4 rfl (lv_at hl 0 rfl) ?_
  refine lv_iload_n hx hb dX5_init_5 rfl (lv_at hl 1 rfl) ?_
  refine lv_iconst (v := 0) hx hb dX5_init_6 (by decide) ?_
  refine va_mmax hx hb (by rw [hml]; exact hl.1.symm) hown (hts (.methodLink RX5 9 Lib.Math.max.name) (by decide +kernel)) (hts (.static Lib.Math.max.name) (by decide +kernel)) (hts (.initialized "java/lang/Math") (by decide +kernel)) (hts (.code Lib.Math.max.name Lib.Math.max.code 2 (some .int)) (by decide +kernel)) (Nat.le_of_ble_eq_true rfl) (Nat.le_of_ble_eq_true rfl) (Nat.zero_le _) (Nat.zero_le _) dX5_init_7 ?_
  refine W_toi (y := p0) (by rw [if_neg hp]) ?_
  refine va_newa (atype := .int) (ty := .int) (a0 := (k, .inl (fun _ => 0))) hx hb (hts (.arrayClass .int) (by decide +kernel)) rfl hK hP hD hS hA (fun _ => rfl) hp hk (nb4 hk4) (Nat.le_of_ble_eq_true rfl) (by show 0 + k ≤ k; omega) dX5_init_10 (fun q_1 cA_2 H hK hP hD hS => ?_)
  have hP : va_P (dC, dI) vwCl [(h0, .inr (7, [.null, .int 0])), (q_1, .inl (cA_2, k, .inl (fun _ => 0)))] H := hP
  have hD : va_D A [(h0, .inr (7, [.null, .int 0])), (q_1, .inl (cA_2, k, .inl (fun _ => 0)))] := hD
  have hK : va_K (dC, dI) vwCl [(cA_2, .int)] s := hK
  refine W.widen (k := 1) (n := k) (by omega) (by omega) ?_
  refine va_putF (D := (dC, dI)) (ci := 7) (v := .ref q_1) (ty := (.array .int)) (C := RX5) (T := TX5) (N := 2) hx hb hts iRX5 tyX5 tyX5_ok nmX5 hown hK hP hD hS 0 rfl rfl 0 (by decide) (hts (.fieldLink RX5 15 "RecordBench$Row" "bytes" "[I") (by decide +kernel)) (fun _ h9 => h9) rfl hin rfl (by decide +kernel) rfl rfl (Nat.le_of_ble_eq_true rfl) dX5_init_12 (fun H locs hP hD hS => ?_)
  have hP : va_P (dC, dI) vwCl [(h0, .inr (7, [.ref q_1, .int 0])), (q_1, .inl (cA_2, k, .inl (fun _ => 0)))] H := hP
  have hD : va_D A [(h0, .inr (7, [.ref q_1, .int 0])), (q_1, .inl (cA_2, k, .inl (fun _ => 0)))] := hD
  refine lv_aload_n hx hb dX5_init_15 rfl (lv_at hl 0 rfl) ?_
  refine lv_iconst (v := 0) hx hb dX5_init_16 (by decide) ?_
  refine va_put (D := (dC, dI)) (ci := 7) (v := .int 0) (ty := .int) (C := RX5) (T := TX5) (N := 2) hx hb hts iRX5 tyX5 tyX5_ok nmX5 hown hK hP hD hS 0 rfl rfl 1 (by decide) (hts (.fieldLink RX5 21 "RecordBench$Row" "size" "I") (by decide +kernel)) (fun _ h9 => h9) rfl (by decide +kernel) rfl rfl (Nat.le_of_ble_eq_true rfl) dX5_init_17 (fun H locs hP hD hS => ?_)
  have hP : va_P (dC, dI) vwCl [(h0, .inr (7, [.ref q_1, .int 0])), (q_1, .inl (cA_2, k, .inl (fun _ => 0)))] H := hP
  have hD : va_D A [(h0, .inr (7, [.ref q_1, .int 0])), (q_1, .inl (cA_2, k, .inl (fun _ => 0)))] := hD
  have hP9 := hP.sub (ws' := [(h0, .inr (7, [.ref q_1, .int 0])), (q_1, .inl (cA_2, k, .inl (fun _ => 0)))]) [0, 1] rfl
  have hD9 := hD.sub (ws' := [(h0, .inr (7, [.ref q_1, .int 0])), (q_1, .inl (cA_2, k, .inl (fun _ => 0)))]) [0, 1] (by decide) rfl
  have hK9 := hK.sub (tys' := [(cA_2, .int)]) [0] rfl
  exact W.vret hx hb hr (fun t ht hW => ⟨⟨(q_1, cA_2), rfl, trivial, by rw [ht]; exact hP9, va_K.moved hW.alike hK9, hD9⟩, hS.F ht⟩) hS.2.2 dX5_init_20
def wp_X5_size : List Cond := .code yX5_size cX5_size 1 (some .int) :: ([.fieldLink RX5 21 "RecordBench$Row" "size" "I"] ++ wsX50)
set_option maxHeartbeats 4000000 in
set_option maxRecDepth 100000 in
theorem c_X5_size (l : Launch) (dC : Nat → ClassId) (dI : Nat → Nat → Nat) (h0 : Nat) (b0 : Nat) (n0 : Int32) (sz : Nat) : Met l yX5_size wp_X5_size ({ frames := 0, cells := 0, slots := 0, locals := 0 }) (va_Pc [.ref h0] (Pr (dC, dI) [] [(h0, .inr (7, [.ref b0, .int n0]))] sz)) (va_Qi (fun r : Int32 => (fun _ : Unit => r = n0)) (Bq (dC, dI) (fun _ : Unit => [(h0, .inr (7, [.ref b0, .int n0]))]) (fun _ : Unit => []) (va_A [(h0, .inr (7, [.ref b0, .int n0]))] sz)) (va_A [(h0, .inr (7, [.ref b0, .int n0]))] sz)) 0 0 (va_A [(h0, .inr (7, [.ref b0, .int n0]))] sz) := by
  refine Met.ofW (cc := cX5_size) (maxL := 1) (ret := (some .int)) (by decide) rfl ?_
  intro p e s m args below meth c s₁ B hml hv
  obtain ⟨rfl, hsz, hP, hK, hD0, hN, hZ⟩ := hv
  have hx := B.exec
  have hb := B.bytes
  have hr := B.returns
  have hts := atoms_spec (ws := wp_X5_size) B.pre
  have hown : s.vm.findClass RX5 = some m.cls := findClass_of_methodNamed B.named
  have hlocks := B.notSynchronized
  have iRX5 : ∀ w ∈ u_ws RX5 TX5 2, w ∈ wp_X5_size := by decide +kernel
  subst hsz
  have hD := hD0.self (sz := s.heap.size)
  generalize hAe : va_A [(h0, .inr (7, [.ref b0, .int n0]))] s.heap.size = A at hD hZ ⊢
  have hA : ∀ q : Nat, s.heap.size ≤ q → A q := fun q h => by rw [← hAe]; exact Or.inr h
  have hS : va_S A s.heap s.heap [] := va_S.rf
  have hP : va_P (dC, dI) vwCl [(h0, .inr (7, [.ref b0, .int n0]))] s.heap := hP
  have hl := lv_entry ([.ref h0]) (n := 1) (Nat.le_of_ble_eq_true rfl)
  rw [lg_entry_eq]
  generalize (lg_sl ([.ref h0]) ++ List.replicate (1 - (lg_sl ([.ref h0])).length) Slot.unset).toArray = ls at hl ⊢
  have hl : lv_has ls 1 [(0, .ref h0)] := hl
  refine lv_aload_n hx hb dX5_size_0 rfl (lv_at hl 0 rfl) ?_
  refine va_get (D := (dC, dI)) (ci := 7) (v := .int n0) (C := RX5) (T := TX5) (N := 2) hx hb hts iRX5 hown hK hP 0 rfl rfl 1 (by decide) (hts (.fieldLink RX5 21 "RecordBench$Row" "size" "I") (by decide +kernel)) (fun _ h9 => h9) rfl dX5_size_1 ?_
  have hP9 := hP.sub (ws' := [(h0, .inr (7, [.ref b0, .int n0]))]) [0] rfl
  have hD9 := hD.sub (ws' := [(h0, .inr (7, [.ref b0, .int n0]))]) [0] (by decide) rfl
  have hK9 := hK.sub (tys' := []) [] rfl
  exact W.iret (v := n0) hx hb hr (fun t ht hW => ⟨⟨n0, (), rfl, rfl, by rw [ht]; exact hP9, va_K.moved hW.alike hK9, hD9⟩, hS.F ht⟩) hS.2.2 dX5_size_4
def wp_X5_cut0 : List Cond := .code yX5_cut cX5_cut 2 (some .boolean) :: ([.fieldLink RX5 21 "RecordBench$Row" "size" "I"] ++ wsX50)
set_option maxHeartbeats 4000000 in
set_option maxRecDepth 100000 in
theorem c_X5_cut0 (l : Launch) (dC : Nat → ClassId) (dI : Nat → Nat → Nat) (h0 : Nat) (b0 : Nat) (sz : Nat) : Met l yX5_cut wp_X5_cut0 ({ frames := 0, cells := 0, slots := 0, locals := 0 }) (va_Pc [.ref h0, .int 0] (Pr (dC, dI) [] [(h0, .inr (7, [.ref b0, .int 0]))] sz)) (va_Qi (fun r : Int32 => (fun _ : Unit => r = 1)) (Bq (dC, dI) (fun _ : Unit => [(h0, .inr (7, [.ref b0, .int 0]))]) (fun _ : Unit => []) (va_A [(h0, .inr (7, [.ref b0, .int 0]))] sz)) (va_A [(h0, .inr (7, [.ref b0, .int 0]))] sz)) 0 0 (va_A [(h0, .inr (7, [.ref b0, .int 0]))] sz) := by
  refine Met.ofW (cc := cX5_cut) (maxL := 2) (ret := (some .boolean)) (by decide) rfl ?_
  intro p e s m args below meth c s₁ B hml hv
  obtain ⟨rfl, hsz, hP, hK, hD0, hN, hZ⟩ := hv
  have hx := B.exec
  have hb := B.bytes
  have hr := B.returns
  have hts := atoms_spec (ws := wp_X5_cut0) B.pre
  have hown : s.vm.findClass RX5 = some m.cls := findClass_of_methodNamed B.named
  have hlocks := B.notSynchronized
  have iRX5 : ∀ w ∈ u_ws RX5 TX5 2, w ∈ wp_X5_cut0 := by decide +kernel
  subst hsz
  have hD := hD0.self (sz := s.heap.size)
  generalize hAe : va_A [(h0, .inr (7, [.ref b0, .int 0]))] s.heap.size = A at hD hZ ⊢
  have hA : ∀ q : Nat, s.heap.size ≤ q → A q := fun q h => by rw [← hAe]; exact Or.inr h
  have hS : va_S A s.heap s.heap [] := va_S.rf
  have hP : va_P (dC, dI) vwCl [(h0, .inr (7, [.ref b0, .int 0]))] s.heap := hP
  have hl := lv_entry ([.ref h0, .int 0]) (n := 2) (Nat.le_of_ble_eq_true rfl)
  rw [lg_entry_eq]
  generalize (lg_sl ([.ref h0, .int 0]) ++ List.replicate (2 - (lg_sl ([.ref h0, .int 0])).length) Slot.unset).toArray = ls at hl ⊢
  have hl : lv_has ls 2 [(0, .ref h0), (1, .int 0)] := hl
  refine lv_iload_n hx hb dX5_cut_0 rfl (lv_at hl 1 rfl) ?_
  refine lv_if_lt (tgt := 12) hx hb dX5_cut_1 (by decide) (fun c_1 => absurd c_1 (by decide)) (fun c_1 => ?_)
  refine lv_iload_n hx hb dX5_cut_4 rfl (lv_at hl 1 rfl) ?_
  refine lv_aload_n hx hb dX5_cut_5 rfl (lv_at hl 0 rfl) ?_
  refine va_get (D := (dC, dI)) (ci := 7) (v := .int 0) (C := RX5) (T := TX5) (N := 2) hx hb hts iRX5 hown hK hP 0 rfl rfl 1 (by decide) (hts (.fieldLink RX5 21 "RecordBench$Row" "size" "I") (by decide +kernel)) (fun _ h9 => h9) rfl dX5_cut_6 ?_
  refine lv_icmp_le (tgt := 14) hx hb dX5_cut_9 (by decide) (fun c_2 => ?_) (fun c_2 => absurd (by decide) c_2)
  refine lv_aload_n hx hb dX5_cut_14 rfl (lv_at hl 0 rfl) ?_
  refine lv_iload_n hx hb dX5_cut_15 rfl (lv_at hl 1 rfl) ?_
  refine va_put (D := (dC, dI)) (ci := 7) (v := .int 0) (ty := .int) (C := RX5) (T := TX5) (N := 2) hx hb hts iRX5 tyX5 tyX5_ok nmX5 hown hK hP hD hS 0 rfl rfl 1 (by decide) (hts (.fieldLink RX5 21 "RecordBench$Row" "size" "I") (by decide +kernel)) (fun _ h9 => h9) rfl (by decide +kernel) rfl rfl (Nat.le_of_ble_eq_true rfl) dX5_cut_16 (fun H locs hP hD hS => ?_)
  have hP : va_P (dC, dI) vwCl [(h0, .inr (7, [.ref b0, .int 0]))] H := hP
  have hD : va_D A [(h0, .inr (7, [.ref b0, .int 0]))] := hD
  refine lv_iconst (v := 1) hx hb dX5_cut_19 (by decide) ?_
  have hP9 := hP.sub (ws' := [(h0, .inr (7, [.ref b0, .int 0]))]) [0] rfl
  have hD9 := hD.sub (ws' := [(h0, .inr (7, [.ref b0, .int 0]))]) [0] (by decide) rfl
  have hK9 := hK.sub (tys' := []) [] rfl
  exact W.zret (v := 1) hx hb hr rfl (fun t ht hW => ⟨⟨1, (), rfl, rfl, by rw [ht]; exact hP9, va_K.moved hW.alike hK9, hD9⟩, hS.F ht⟩) hS.2.2 dX5_cut_20
def wp_X5_cutA : List Cond := .code yX5_cut cX5_cut 2 (some .boolean) :: ([.fieldLink RX5 21 "RecordBench$Row" "size" "I"] ++ wsX50)
set_option maxHeartbeats 4000000 in
set_option maxRecDepth 100000 in
theorem c_X5_cutA (l : Launch) (dC : Nat → ClassId) (dI : Nat → Nat → Nat) (h0 : Nat) (b0 : Nat) (p0 : Int32) (sz : Nat) : Met l yX5_cut wp_X5_cutA ({ frames := 0, cells := 0, slots := 0, locals := 0 }) (va_Pc [.ref h0, .int p0] (Pr (dC, dI) [] [(h0, .inr (7, [.ref b0, .int 0]))] sz)) (va_Qi (fun r : Int32 => (fun _ : Unit => r = if p0 < 0 ∨ ¬ p0 ≤ 0 then 0 else 1)) (Bq (dC, dI) (fun _ : Unit => []) (fun _ : Unit => []) (va_A [(h0, .inr (7, [.ref b0, .int 0]))] sz)) (va_A [(h0, .inr (7, [.ref b0, .int 0]))] sz)) 0 0 (va_A [(h0, .inr (7, [.ref b0, .int 0]))] sz) := by
  refine Met.ofW (cc := cX5_cut) (maxL := 2) (ret := (some .boolean)) (by decide) rfl ?_
  intro p e s m args below meth c s₁ B hml hv
  obtain ⟨rfl, hsz, hP, hK, hD0, hN, hZ⟩ := hv
  have hx := B.exec
  have hb := B.bytes
  have hr := B.returns
  have hts := atoms_spec (ws := wp_X5_cutA) B.pre
  have hown : s.vm.findClass RX5 = some m.cls := findClass_of_methodNamed B.named
  have hlocks := B.notSynchronized
  have iRX5 : ∀ w ∈ u_ws RX5 TX5 2, w ∈ wp_X5_cutA := by decide +kernel
  subst hsz
  have hD := hD0.self (sz := s.heap.size)
  generalize hAe : va_A [(h0, .inr (7, [.ref b0, .int 0]))] s.heap.size = A at hD hZ ⊢
  have hA : ∀ q : Nat, s.heap.size ≤ q → A q := fun q h => by rw [← hAe]; exact Or.inr h
  have hS : va_S A s.heap s.heap [] := va_S.rf
  have hP : va_P (dC, dI) vwCl [(h0, .inr (7, [.ref b0, .int 0]))] s.heap := hP
  have hl := lv_entry ([.ref h0, .int p0]) (n := 2) (Nat.le_of_ble_eq_true rfl)
  rw [lg_entry_eq]
  generalize (lg_sl ([.ref h0, .int p0]) ++ List.replicate (2 - (lg_sl ([.ref h0, .int p0])).length) Slot.unset).toArray = ls at hl ⊢
  have hl : lv_has ls 2 [(0, .ref h0), (1, .int p0)] := hl
  refine lv_iload_n hx hb dX5_cut_0 rfl (lv_at hl 1 rfl) ?_
  refine lv_if_lt (tgt := 12) hx hb dX5_cut_1 (by decide) (fun c_1 => ?_) (fun c_1 => ?_)
  · refine lv_iconst (v := 0) hx hb dX5_cut_12 (by decide) ?_
    have hP9 := hP.sub (ws' := []) [] rfl
    have hD9 := hD.sub (ws' := []) [] (by decide) rfl
    have hK9 := hK.sub (tys' := []) [] rfl
    exact W.zret (v := 0) hx hb hr rfl (fun t ht hW => ⟨⟨0, (), rfl, (if_pos (Or.inl c_1)).symm, by rw [ht]; exact hP9, va_K.moved hW.alike hK9, hD9⟩, hS.F ht⟩) hS.2.2 dX5_cut_13
  · refine lv_iload_n hx hb dX5_cut_4 rfl (lv_at hl 1 rfl) ?_
    refine lv_aload_n hx hb dX5_cut_5 rfl (lv_at hl 0 rfl) ?_
    refine va_get (D := (dC, dI)) (ci := 7) (v := .int 0) (C := RX5) (T := TX5) (N := 2) hx hb hts iRX5 hown hK hP 0 rfl rfl 1 (by decide) (hts (.fieldLink RX5 21 "RecordBench$Row" "size" "I") (by decide +kernel)) (fun _ h9 => h9) rfl dX5_cut_6 ?_
    refine lv_icmp_le (tgt := 14) hx hb dX5_cut_9 (by decide) (fun c_2 => ?_) (fun c_2 => ?_)
    · refine lv_aload_n hx hb dX5_cut_14 rfl (lv_at hl 0 rfl) ?_
      refine lv_iload_n hx hb dX5_cut_15 rfl (lv_at hl 1 rfl) ?_
      refine va_put (D := (dC, dI)) (ci := 7) (v := .int p0) (ty := .int) (C := RX5) (T := TX5) (N := 2) hx hb hts iRX5 tyX5 tyX5_ok nmX5 hown hK hP hD hS 0 rfl rfl 1 (by decide) (hts (.fieldLink RX5 21 "RecordBench$Row" "size" "I") (by decide +kernel)) (fun _ h9 => h9) rfl (by decide +kernel) rfl rfl (Nat.le_of_ble_eq_true rfl) dX5_cut_16 (fun H locs hP hD hS => ?_)
      have hP : va_P (dC, dI) vwCl [(h0, .inr (7, [.ref b0, .int p0]))] H := hP
      have hD : va_D A [(h0, .inr (7, [.ref b0, .int p0]))] := hD
      refine lv_iconst (v := 1) hx hb dX5_cut_19 (by decide) ?_
      have hP9 := hP.sub (ws' := []) [] rfl
      have hD9 := hD.sub (ws' := []) [] (by decide) rfl
      have hK9 := hK.sub (tys' := []) [] rfl
      exact W.zret (v := 1) hx hb hr rfl (fun t ht hW => ⟨⟨1, (), rfl, (if_neg (fun h => h.elim c_1 (fun h2 => h2 c_2))).symm, by rw [ht]; exact hP9, va_K.moved hW.alike hK9, hD9⟩, hS.F ht⟩) hS.2.2 dX5_cut_20
    · refine lv_iconst (v := 0) hx hb dX5_cut_12 (by decide) ?_
      have hP9 := hP.sub (ws' := []) [] rfl
      have hD9 := hD.sub (ws' := []) [] (by decide) rfl
      have hK9 := hK.sub (tys' := []) [] rfl
      exact W.zret (v := 0) hx hb hr rfl (fun t ht hW => ⟨⟨0, (), rfl, (if_pos (Or.inr c_2)).symm, by rw [ht]; exact hP9, va_K.moved hW.alike hK9, hD9⟩, hS.F ht⟩) hS.2.2 dX5_cut_13
def wp_X5_push : List Cond := .code yX5_push cX5_push 2 none :: ([.fieldLink RX5 21 "RecordBench$Row" "size" "I", .fieldLink RX5 15 "RecordBench$Row" "bytes" "[I"] ++ wsX50)
set_option maxHeartbeats 4000000 in
set_option maxRecDepth 100000 in
theorem c_X5_push (l : Launch) (dC : Nat → ClassId) (dI : Nat → Nat → Nat) (h0 : Nat) (b0 : Nat) (j : Nat) (cA : ClassId) (f0 : Nat → Int32) (p0 : Int32) (hj : j < 400) (sz : Nat) : Met l yX5_push wp_X5_push ({ frames := 0, cells := 0, slots := 0, locals := 0 }) (va_Pc [.ref h0, .int p0] (Pr (dC, dI) [(cA, .int)] [(h0, .inr (7, [.ref b0, .int (nI j)])), (b0, .inl (cA, 400, .inl f0))] sz)) (va_Qv (fun (f1 : Nat → Int32) => True) (Bq (dC, dI) (fun (f1 : Nat → Int32) => [(h0, .inr (7, [.ref b0, .int (nI (j + 1))])), (b0, .inl (cA, 400, .inl f1))]) (fun (f1 : Nat → Int32) => []) (va_A [(h0, .inr (7, [.ref b0, .int (nI j)])), (b0, .inl (cA, 400, .inl f0))] sz)) (va_A [(h0, .inr (7, [.ref b0, .int (nI j)])), (b0, .inl (cA, 400, .inl f0))] sz)) 0 0 (va_A [(h0, .inr (7, [.ref b0, .int (nI j)])), (b0, .inl (cA, 400, .inl f0))] sz) := by
  refine Met.ofW (cc := cX5_push) (maxL := 2) (ret := none) (by decide) rfl ?_
  intro p e s m args below meth c s₁ B hml hv
  obtain ⟨rfl, hsz, hP, hK, hD0, hN, hZ⟩ := hv
  have hx := B.exec
  have hb := B.bytes
  have hr := B.returns
  have hts := atoms_spec (ws := wp_X5_push) B.pre
  have hown : s.vm.findClass RX5 = some m.cls := findClass_of_methodNamed B.named
  have hlocks := B.notSynchronized
  have iRX5 : ∀ w ∈ u_ws RX5 TX5 2, w ∈ wp_X5_push := by decide +kernel
  subst hsz
  have hD := hD0.self (sz := s.heap.size)
  generalize hAe : va_A [(h0, .inr (7, [.ref b0, .int (nI j)])), (b0, .inl (cA, 400, .inl f0))] s.heap.size = A at hD hZ ⊢
  have hA : ∀ q : Nat, s.heap.size ≤ q → A q := fun q h => by rw [← hAe]; exact Or.inr h
  have hS : va_S A s.heap s.heap [] := va_S.rf
  have hP : va_P (dC, dI) vwCl [(h0, .inr (7, [.ref b0, .int (nI j)])), (b0, .inl (cA, 400, .inl f0))] s.heap := hP
  have hl := lv_entry ([.ref h0, .int p0]) (n := 2) (Nat.le_of_ble_eq_true rfl)
  rw [lg_entry_eq]
  generalize (lg_sl ([.ref h0, .int p0]) ++ List.replicate (2 - (lg_sl ([.ref h0, .int p0])).length) Slot.unset).toArray = ls at hl ⊢
  have hl : lv_has ls 2 [(0, .ref h0), (1, .int p0)] := hl
  refine lv_aload_n hx hb dX5_push_0 rfl (lv_at hl 0 rfl) ?_
  refine va_get (D := (dC, dI)) (ci := 7) (v := .int (nI j)) (C := RX5) (T := TX5) (N := 2) hx hb hts iRX5 hown hK hP 0 rfl rfl 1 (by decide) (hts (.fieldLink RX5 21 "RecordBench$Row" "size" "I") (by decide +kernel)) (fun _ h9 => h9) rfl dX5_push_1 ?_
  refine lv_aload_n hx hb dX5_push_4 rfl (lv_at hl 0 rfl) ?_
  refine va_get (D := (dC, dI)) (ci := 7) (v := .ref b0) (C := RX5) (T := TX5) (N := 2) hx hb hts iRX5 hown hK hP 0 rfl rfl 0 (by decide) (hts (.fieldLink RX5 15 "RecordBench$Row" "bytes" "[I") (by decide +kernel)) (fun _ h9 => h9) rfl dX5_push_5 ?_
  refine va_alen (v := 400) hx hb hK hP 1 0 rfl rfl rfl dX5_push_8 ?_
  refine lv_icmp_ge (tgt := 36) hx hb dX5_push_9 (by decide) (fun c_1 => absurd c_1 (nI_ge (show j < 400 from hj) (by decide))) (fun c_1 => ?_)
  refine lv_aload_n hx hb dX5_push_12 rfl (lv_at hl 0 rfl) ?_
  refine va_get (D := (dC, dI)) (ci := 7) (v := .ref b0) (C := RX5) (T := TX5) (N := 2) hx hb hts iRX5 hown hK hP 0 rfl rfl 0 (by decide) (hts (.fieldLink RX5 15 "RecordBench$Row" "bytes" "[I") (by decide +kernel)) (fun _ h9 => h9) rfl dX5_push_13 ?_
  refine lv_aload_n hx hb dX5_push_16 rfl (lv_at hl 0 rfl) ?_
  refine va_get (D := (dC, dI)) (ci := 7) (v := .int (nI j)) (C := RX5) (T := TX5) (N := 2) hx hb hts iRX5 hown hK hP 0 rfl rfl 1 (by decide) (hts (.fieldLink RX5 21 "RecordBench$Row" "size" "I") (by decide +kernel)) (fun _ h9 => h9) rfl dX5_push_17 ?_
  refine lv_iload_n hx hb dX5_push_20 rfl (lv_at hl 1 rfl) ?_
  refine lv_sipush (v := 255) hx hb dX5_push_21 (by decide) ?_
  refine lv_iand hx hb dX5_push_24 ?_
  refine lv_topi (fun z_2 ez_2 => ?_)
  refine va_iast hx hb hK hP hD hS 1 0 rfl rfl (vp_in_nI hj (by decide)) dX5_push_25 (fun H locs hP hD hS => ?_)
  obtain ⟨f_3, ef_3⟩ : ∃ y : Nat → Int32, y = upd f0 (nI j : Int32).toNatClampNeg z_2 := ⟨_, rfl⟩
  have hP : va_P (dC, dI) vwCl [(h0, .inr (7, [.ref b0, .int (nI j)])), (b0, .inl (cA, 400, .inl f_3))] H := by rw [ef_3]; exact hP
  have hD : va_D A [(h0, .inr (7, [.ref b0, .int (nI j)])), (b0, .inl (cA, 400, .inl f_3))] := by rw [ef_3]; exact hD
  refine lv_aload_n hx hb dX5_push_26 rfl (lv_at hl 0 rfl) ?_
  refine lv_dup hx hb dX5_push_27 rfl ?_
  refine va_get (D := (dC, dI)) (ci := 7) (v := .int (nI j)) (C := RX5) (T := TX5) (N := 2) hx hb hts iRX5 hown hK hP 0 rfl rfl 1 (by decide) (hts (.fieldLink RX5 21 "RecordBench$Row" "size" "I") (by decide +kernel)) (fun _ h9 => h9) rfl dX5_push_28 ?_
  refine lv_iconst (v := 1) hx hb dX5_push_31 (by decide) ?_
  refine lv_iadd hx hb dX5_push_32 ?_
  refine W_toi (y := nI (j + 1)) (nI_1 j) ?_
  refine va_put (D := (dC, dI)) (ci := 7) (v := .int (nI (j + 1))) (ty := .int) (C := RX5) (T := TX5) (N := 2) hx hb hts iRX5 tyX5 tyX5_ok nmX5 hown hK hP hD hS 0 rfl rfl 1 (by decide) (hts (.fieldLink RX5 21 "RecordBench$Row" "size" "I") (by decide +kernel)) (fun _ h9 => h9) rfl (by decide +kernel) rfl rfl (Nat.le_of_ble_eq_true rfl) dX5_push_33 (fun H locs hP hD hS => ?_)
  have hP : va_P (dC, dI) vwCl [(h0, .inr (7, [.ref b0, .int (nI (j + 1))])), (b0, .inl (cA, 400, .inl f_3))] H := hP
  have hD : va_D A [(h0, .inr (7, [.ref b0, .int (nI (j + 1))])), (b0, .inl (cA, 400, .inl f_3))] := hD
  have hP9 := hP.sub (ws' := [(h0, .inr (7, [.ref b0, .int (nI (j + 1))])), (b0, .inl (cA, 400, .inl f_3))]) [0, 1] rfl
  have hD9 := hD.sub (ws' := [(h0, .inr (7, [.ref b0, .int (nI (j + 1))])), (b0, .inl (cA, 400, .inl f_3))]) [0, 1] (by decide) rfl
  have hK9 := hK.sub (tys' := []) [] rfl
  exact W.vret hx hb hr (fun t ht hW => ⟨⟨f_3, rfl, trivial, by rw [ht]; exact hP9, va_K.moved hW.alike hK9, hD9⟩, hS.F ht⟩) hS.2.2 dX5_push_36
def wp_X5_pushWord : List Cond := .code yX5_pushWord cX5_pushWord 2 none :: ([.methodLink RX5 25 yX5_push, .instanceMethod yX5_push, .selects RX5 yX5_push yX5_push, .initialized RX5, .code yX5_push cX5_push 2 none, .fieldLink RX5 21 "RecordBench$Row" "size" "I", .fieldLink RX5 15 "RecordBench$Row" "bytes" "[I"] ++ wsX50)
set_option maxRecDepth 20000 in
theorem gp_X5_pushWord_X5_push_25 : GoodIn wp_X5_pushWord (wsV RX5 25 RX5 yX5_push wp_X5_push) := goodIn_p _ [5] rfl (by decide +kernel)
set_option maxHeartbeats 4000000 in
set_option maxRecDepth 100000 in
theorem c_X5_pushWord (l : Launch) (dC : Nat → ClassId) (dI : Nat → Nat → Nat) (h0 : Nat) (b0 : Nat) (j : Nat) (cA : ClassId) (f0 : Nat → Int32) (p0 : Int32) (hj : j + 4 ≤ 400) (sz : Nat) : Met l yX5_pushWord wp_X5_pushWord ({ frames := 1, cells := 0, slots := 0, locals := 25 }) (va_Pc [.ref h0, .int p0] (Pr (dC, dI) [(cA, .int)] [(h0, .inr (7, [.ref b0, .int (nI j)])), (b0, .inl (cA, 400, .inl f0))] sz)) (va_Qv (fun (f1 : Nat → Int32) => True) (Bq (dC, dI) (fun (f1 : Nat → Int32) => [(h0, .inr (7, [.ref b0, .int (nI (j + 4))])), (b0, .inl (cA, 400, .inl f1))]) (fun (f1 : Nat → Int32) => []) (va_A [(h0, .inr (7, [.ref b0, .int (nI j)])), (b0, .inl (cA, 400, .inl f0))] sz)) (va_A [(h0, .inr (7, [.ref b0, .int (nI j)])), (b0, .inl (cA, 400, .inl f0))] sz)) 0 0 (va_A [(h0, .inr (7, [.ref b0, .int (nI j)])), (b0, .inl (cA, 400, .inl f0))] sz) := by
  refine Met.ofW (cc := cX5_pushWord) (maxL := 2) (ret := none) (by decide) rfl ?_
  intro p e s m args below meth c s₁ B hml hv
  obtain ⟨rfl, hsz, hP, hK, hD0, hN, hZ⟩ := hv
  have hx := B.exec
  have hb := B.bytes
  have hr := B.returns
  have hts := atoms_spec (ws := wp_X5_pushWord) B.pre
  have hown : s.vm.findClass RX5 = some m.cls := findClass_of_methodNamed B.named
  have hlocks := B.notSynchronized
  subst hsz
  have hD := hD0.self (sz := s.heap.size)
  generalize hAe : va_A [(h0, .inr (7, [.ref b0, .int (nI j)])), (b0, .inl (cA, 400, .inl f0))] s.heap.size = A at hD hZ ⊢
  have hA : ∀ q : Nat, s.heap.size ≤ q → A q := fun q h => by rw [← hAe]; exact Or.inr h
  have hS : va_S A s.heap s.heap [] := va_S.rf
  have hP : va_P (dC, dI) vwCl [(h0, .inr (7, [.ref b0, .int (nI j)])), (b0, .inl (cA, 400, .inl f0))] s.heap := hP
  have hl := lv_entry ([.ref h0, .int p0]) (n := 2) (Nat.le_of_ble_eq_true rfl)
  rw [lg_entry_eq]
  generalize (lg_sl ([.ref h0, .int p0]) ++ List.replicate (2 - (lg_sl ([.ref h0, .int p0])).length) Slot.unset).toArray = ls at hl ⊢
  have hl : lv_has ls 2 [(0, .ref h0), (1, .int p0)] := hl
  refine lv_aload_n hx hb dX5_pushWord_0 rfl (lv_at hl 0 rfl) ?_
  refine lv_iload_n hx hb dX5_pushWord_1 rfl (lv_at hl 1 rfl) ?_
  refine lv_bipush (v := 24) hx hb dX5_pushWord_2 (by decide) ?_
  obtain ⟨z_1, ez_1⟩ : ∃ y : Int32, y = ((p0 : Int32).toUInt32 >>> ((24 : Int32).toUInt32 &&& Int32.toUInt32 31)).toInt32 := ⟨_, rfl⟩
  refine lv_iushr (v := z_1) hx hb dX5_pushWord_4 ez_1.symm ?_
  have hFc := va_free (wc := [(h0, .inr (7, [.ref b0, .int (nI j)])), (b0, .inl (cA, 400, .inl f0))]) hD hS hA [0, 1] rfl
  refine va_callv (va_runV (As := [.int z_1]) (rest := []) ⟨hx, hb, hml, hown, hts⟩ (c_X5_push l dC dI h0 b0 j cA f0 z_1 (by omega) s.heap.size) (cwV 1 hts gp_X5_pushWord_X5_push_25 rfl rfl rfl (by decide +kernel) ⟨Nat.le_of_ble_eq_true rfl, Nat.le_of_ble_eq_true rfl⟩) ⟨Pr.blind _, va_recv hK hP (ci := 7) (q0 := 0) rfl rfl, fun U hU hW => ⟨rfl, Pr.at (hP.sub (ws' := [(h0, .inr (7, [.ref b0, .int (nI j)])), (b0, .inl (cA, 400, .inl f0))]) [0, 1] rfl) (hK.sub (tys' := [(cA, .int)]) [0] rfl) (hD.sub (ws' := [(h0, .inr (7, [.ref b0, .int (nI j)])), (b0, .inl (cA, 400, .inl f0))]) [0, 1] (by decide) rfl) hN hZ hS hFc hU hW⟩⟩ rfl rfl hl.1 rfl (lv_room (Nat.le_of_ble_eq_true rfl)) dX5_pushWord_5 ⟨Nat.le_of_ble_eq_true rfl, Nat.le_of_ble_eq_true rfl⟩) hS (fun q _ h => hFc q h) hFc (fun u t H1 locs ht hvm hw_3 hB hz1 hk1 hS => ?_)
  obtain ⟨f1_4, rfl⟩ : ∃ z, z = u := ⟨_, rfl⟩
  obtain ⟨hP, hD, hK⟩ := Bq.join (wr := []) hB ht hvm hP hD [0, 1] [] rfl rfl (by decide) (by decide) hk1 hFc hK
  generalize H1 = H at hP hS ⊢
  have hP : va_P (dC, dI) vwCl [(h0, .inr (7, [.ref b0, .int (nI (j + 1))])), (b0, .inl (cA, 400, .inl f1_4))] H := hP
  have hD : va_D A [(h0, .inr (7, [.ref b0, .int (nI (j + 1))])), (b0, .inl (cA, 400, .inl f1_4))] := hD
  have hK : va_K (dC, dI) vwCl [(cA, .int)] s := hK
  refine lv_aload_n hx hb dX5_pushWord_8 rfl (lv_at hl 0 rfl) ?_
  refine lv_iload_n hx hb dX5_pushWord_9 rfl (lv_at hl 1 rfl) ?_
  refine lv_bipush (v := 16) hx hb dX5_pushWord_10 (by decide) ?_
  obtain ⟨z_5, ez_5⟩ : ∃ y : Int32, y = ((p0 : Int32).toUInt32 >>> ((16 : Int32).toUInt32 &&& Int32.toUInt32 31)).toInt32 := ⟨_, rfl⟩
  refine lv_iushr (v := z_5) hx hb dX5_pushWord_12 ez_5.symm ?_
  have hFc := va_free (wc := [(h0, .inr (7, [.ref b0, .int (nI (j + 1))])), (b0, .inl (cA, 400, .inl f1_4))]) hD hS hA [0, 1] rfl
  refine va_callv (va_runV (As := [.int z_5]) (rest := []) ⟨hx, hb, hml, hown, hts⟩ (c_X5_push l dC dI h0 b0 (j + 1) cA f1_4 z_5 (by omega) H.size) (cwV 1 hts gp_X5_pushWord_X5_push_25 rfl rfl rfl (by decide +kernel) ⟨Nat.le_of_ble_eq_true rfl, Nat.le_of_ble_eq_true rfl⟩) ⟨Pr.blind _, va_recv hK hP (ci := 7) (q0 := 0) rfl rfl, fun U hU hW => ⟨rfl, Pr.at (hP.sub (ws' := [(h0, .inr (7, [.ref b0, .int (nI (j + 1))])), (b0, .inl (cA, 400, .inl f1_4))]) [0, 1] rfl) (hK.sub (tys' := [(cA, .int)]) [0] rfl) (hD.sub (ws' := [(h0, .inr (7, [.ref b0, .int (nI (j + 1))])), (b0, .inl (cA, 400, .inl f1_4))]) [0, 1] (by decide) rfl) hN hZ hS hFc hU hW⟩⟩ rfl rfl hl.1 rfl (lv_room (Nat.le_of_ble_eq_true rfl)) dX5_pushWord_13 ⟨Nat.le_of_ble_eq_true rfl, Nat.le_of_ble_eq_true rfl⟩) hS (fun q _ h => hFc q h) hFc (fun u t H1 locs ht hvm hw_7 hB hz1 hk1 hS => ?_)
  obtain ⟨f1_8, rfl⟩ : ∃ z, z = u := ⟨_, rfl⟩
  obtain ⟨hP, hD, hK⟩ := Bq.join (wr := []) hB ht hvm hP hD [0, 1] [] rfl rfl (by decide) (by decide) hk1 hFc hK
  generalize H1 = H at hP hS ⊢
  have hP : va_P (dC, dI) vwCl [(h0, .inr (7, [.ref b0, .int (nI ((j + 1) + 1))])), (b0, .inl (cA, 400, .inl f1_8))] H := hP
  have hD : va_D A [(h0, .inr (7, [.ref b0, .int (nI ((j + 1) + 1))])), (b0, .inl (cA, 400, .inl f1_8))] := hD
  have hK : va_K (dC, dI) vwCl [(cA, .int)] s := hK
  refine lv_aload_n hx hb dX5_pushWord_16 rfl (lv_at hl 0 rfl) ?_
  refine lv_iload_n hx hb dX5_pushWord_17 rfl (lv_at hl 1 rfl) ?_
  refine lv_bipush (v := 8) hx hb dX5_pushWord_18 (by decide) ?_
  obtain ⟨z_9, ez_9⟩ : ∃ y : Int32, y = ((p0 : Int32).toUInt32 >>> ((8 : Int32).toUInt32 &&& Int32.toUInt32 31)).toInt32 := ⟨_, rfl⟩
  refine lv_iushr (v := z_9) hx hb dX5_pushWord_20 ez_9.symm ?_
  have hFc := va_free (wc := [(h0, .inr (7, [.ref b0, .int (nI ((j + 1) + 1))])), (b0, .inl (cA, 400, .inl f1_8))]) hD hS hA [0, 1] rfl
  refine va_callv (va_runV (As := [.int z_9]) (rest := []) ⟨hx, hb, hml, hown, hts⟩ (c_X5_push l dC dI h0 b0 ((j + 1) + 1) cA f1_8 z_9 (by omega) H.size) (cwV 1 hts gp_X5_pushWord_X5_push_25 rfl rfl rfl (by decide +kernel) ⟨Nat.le_of_ble_eq_true rfl, Nat.le_of_ble_eq_true rfl⟩) ⟨Pr.blind _, va_recv hK hP (ci := 7) (q0 := 0) rfl rfl, fun U hU hW => ⟨rfl, Pr.at (hP.sub (ws' := [(h0, .inr (7, [.ref b0, .int (nI ((j + 1) + 1))])), (b0, .inl (cA, 400, .inl f1_8))]) [0, 1] rfl) (hK.sub (tys' := [(cA, .int)]) [0] rfl) (hD.sub (ws' := [(h0, .inr (7, [.ref b0, .int (nI ((j + 1) + 1))])), (b0, .inl (cA, 400, .inl f1_8))]) [0, 1] (by decide) rfl) hN hZ hS hFc hU hW⟩⟩ rfl rfl hl.1 rfl (lv_room (Nat.le_of_ble_eq_true rfl)) dX5_pushWord_21 ⟨Nat.le_of_ble_eq_true rfl, Nat.le_of_ble_eq_true rfl⟩) hS (fun q _ h => hFc q h) hFc (fun u t H1 locs ht hvm hw_11 hB hz1 hk1 hS => ?_)
  obtain ⟨f1_12, rfl⟩ : ∃ z, z = u := ⟨_, rfl⟩
  obtain ⟨hP, hD, hK⟩ := Bq.join (wr := []) hB ht hvm hP hD [0, 1] [] rfl rfl (by decide) (by decide) hk1 hFc hK
  generalize H1 = H at hP hS ⊢
  have hP : va_P (dC, dI) vwCl [(h0, .inr (7, [.ref b0, .int (nI (((j + 1) + 1) + 1))])), (b0, .inl (cA, 400, .inl f1_12))] H := hP
  have hD : va_D A [(h0, .inr (7, [.ref b0, .int (nI (((j + 1) + 1) + 1))])), (b0, .inl (cA, 400, .inl f1_12))] := hD
  have hK : va_K (dC, dI) vwCl [(cA, .int)] s := hK
  refine lv_aload_n hx hb dX5_pushWord_24 rfl (lv_at hl 0 rfl) ?_
  refine lv_iload_n hx hb dX5_pushWord_25 rfl (lv_at hl 1 rfl) ?_
  have hFc := va_free (wc := [(h0, .inr (7, [.ref b0, .int (nI (((j + 1) + 1) + 1))])), (b0, .inl (cA, 400, .inl f1_12))]) hD hS hA [0, 1] rfl
  refine va_callv (va_runV (As := [.int p0]) (rest := []) ⟨hx, hb, hml, hown, hts⟩ (c_X5_push l dC dI h0 b0 (((j + 1) + 1) + 1) cA f1_12 p0 (by omega) H.size) (cwV 1 hts gp_X5_pushWord_X5_push_25 rfl rfl rfl (by decide +kernel) ⟨Nat.le_of_ble_eq_true rfl, Nat.le_of_ble_eq_true rfl⟩) ⟨Pr.blind _, va_recv hK hP (ci := 7) (q0 := 0) rfl rfl, fun U hU hW => ⟨rfl, Pr.at (hP.sub (ws' := [(h0, .inr (7, [.ref b0, .int (nI (((j + 1) + 1) + 1))])), (b0, .inl (cA, 400, .inl f1_12))]) [0, 1] rfl) (hK.sub (tys' := [(cA, .int)]) [0] rfl) (hD.sub (ws' := [(h0, .inr (7, [.ref b0, .int (nI (((j + 1) + 1) + 1))])), (b0, .inl (cA, 400, .inl f1_12))]) [0, 1] (by decide) rfl) hN hZ hS hFc hU hW⟩⟩ rfl rfl hl.1 rfl (lv_room (Nat.le_of_ble_eq_true rfl)) dX5_pushWord_26 ⟨Nat.le_of_ble_eq_true rfl, Nat.le_of_ble_eq_true rfl⟩) hS (fun q _ h => hFc q h) hFc (fun u t H1 locs ht hvm hw_14 hB hz1 hk1 hS => ?_)
  obtain ⟨f1_15, rfl⟩ : ∃ z, z = u := ⟨_, rfl⟩
  obtain ⟨hP, hD, hK⟩ := Bq.join (wr := []) hB ht hvm hP hD [0, 1] [] rfl rfl (by decide) (by decide) hk1 hFc hK
  generalize H1 = H at hP hS ⊢
  have hP : va_P (dC, dI) vwCl [(h0, .inr (7, [.ref b0, .int (nI ((((j + 1) + 1) + 1) + 1))])), (b0, .inl (cA, 400, .inl f1_15))] H := hP
  have hD : va_D A [(h0, .inr (7, [.ref b0, .int (nI ((((j + 1) + 1) + 1) + 1))])), (b0, .inl (cA, 400, .inl f1_15))] := hD
  have hK : va_K (dC, dI) vwCl [(cA, .int)] s := hK
  have hP9 := hP.sub (ws' := [(h0, .inr (7, [.ref b0, .int (nI ((((j + 1) + 1) + 1) + 1))])), (b0, .inl (cA, 400, .inl f1_15))]) [0, 1] rfl
  have hD9 := hD.sub (ws' := [(h0, .inr (7, [.ref b0, .int (nI ((((j + 1) + 1) + 1) + 1))])), (b0, .inl (cA, 400, .inl f1_15))]) [0, 1] (by decide) rfl
  have hK9 := hK.sub (tys' := []) [] rfl
  exact W.vret hx hb hr (fun t ht hW => ⟨⟨f1_15, rfl, trivial, by rw [ht]; exact hP9, va_K.moved hW.alike hK9, hD9⟩, hS.F ht⟩) hS.2.2 dX5_pushWord_29
def wp_X5_byteAt0 : List Cond := .code yX5_byteAt cX5_byteAt 2 (some .int) :: ([.fieldLink RX5 21 "RecordBench$Row" "size" "I"] ++ wsX50)
set_option maxHeartbeats 4000000 in
set_option maxRecDepth 100000 in
theorem c_X5_byteAt0 (l : Launch) (dC : Nat → ClassId) (dI : Nat → Nat → Nat) (h0 : Nat) (b0 : Nat) (p0 : Int32) (sz : Nat) : Met l yX5_byteAt wp_X5_byteAt0 ({ frames := 0, cells := 0, slots := 0, locals := 0 }) (va_Pc [.ref h0, .int p0] (Pr (dC, dI) [] [(h0, .inr (7, [.ref b0, .int 0]))] sz)) (va_Qi (fun r : Int32 => (fun _ : Unit => r = -1)) (Bq (dC, dI) (fun _ : Unit => []) (fun _ : Unit => []) (va_A [(h0, .inr (7, [.ref b0, .int 0]))] sz)) (va_A [(h0, .inr (7, [.ref b0, .int 0]))] sz)) 0 0 (va_A [(h0, .inr (7, [.ref b0, .int 0]))] sz) := by
  refine Met.ofW (cc := cX5_byteAt) (maxL := 2) (ret := (some .int)) (by decide) rfl ?_
  intro p e s m args below meth c s₁ B hml hv
  obtain ⟨rfl, hsz, hP, hK, hD0, hN, hZ⟩ := hv
  have hx := B.exec
  have hb := B.bytes
  have hr := B.returns
  have hts := atoms_spec (ws := wp_X5_byteAt0) B.pre
  have hown : s.vm.findClass RX5 = some m.cls := findClass_of_methodNamed B.named
  have hlocks := B.notSynchronized
  have iRX5 : ∀ w ∈ u_ws RX5 TX5 2, w ∈ wp_X5_byteAt0 := by decide +kernel
  subst hsz
  have hD := hD0.self (sz := s.heap.size)
  generalize hAe : va_A [(h0, .inr (7, [.ref b0, .int 0]))] s.heap.size = A at hD hZ ⊢
  have hA : ∀ q : Nat, s.heap.size ≤ q → A q := fun q h => by rw [← hAe]; exact Or.inr h
  have hS : va_S A s.heap s.heap [] := va_S.rf
  have hP : va_P (dC, dI) vwCl [(h0, .inr (7, [.ref b0, .int 0]))] s.heap := hP
  have hl := lv_entry ([.ref h0, .int p0]) (n := 2) (Nat.le_of_ble_eq_true rfl)
  rw [lg_entry_eq]
  generalize (lg_sl ([.ref h0, .int p0]) ++ List.replicate (2 - (lg_sl ([.ref h0, .int p0])).length) Slot.unset).toArray = ls at hl ⊢
  have hl : lv_has ls 2 [(0, .ref h0), (1, .int p0)] := hl
  refine lv_iload_n hx hb dX5_byteAt_0 rfl (lv_at hl 1 rfl) ?_
  refine lv_if_lt (tgt := 21) hx hb dX5_byteAt_1 (by decide) (fun c_1 => ?_) (fun c_1 => ?_)
  · refine lv_iconst (v := (-1)) hx hb dX5_byteAt_21 (by decide) ?_
    have hP9 := hP.sub (ws' := []) [] rfl
    have hD9 := hD.sub (ws' := []) [] (by decide) rfl
    have hK9 := hK.sub (tys' := []) [] rfl
    exact W.iret (v := (-1)) hx hb hr (fun t ht hW => ⟨⟨(-1), (), rfl, rfl, by rw [ht]; exact hP9, va_K.moved hW.alike hK9, hD9⟩, hS.F ht⟩) hS.2.2 dX5_byteAt_22
  · refine lv_iload_n hx hb dX5_byteAt_4 rfl (lv_at hl 1 rfl) ?_
    refine lv_aload_n hx hb dX5_byteAt_5 rfl (lv_at hl 0 rfl) ?_
    refine va_get (D := (dC, dI)) (ci := 7) (v := .int 0) (C := RX5) (T := TX5) (N := 2) hx hb hts iRX5 hown hK hP 0 rfl rfl 1 (by decide) (hts (.fieldLink RX5 21 "RecordBench$Row" "size" "I") (by decide +kernel)) (fun _ h9 => h9) rfl dX5_byteAt_6 ?_
    refine lv_icmp_ge (tgt := 21) hx hb dX5_byteAt_9 (by decide) (fun c_2 => ?_) (fun c_2 => absurd (nlt0 c_1) c_2)
    refine lv_iconst (v := (-1)) hx hb dX5_byteAt_21 (by decide) ?_
    have hP9 := hP.sub (ws' := []) [] rfl
    have hD9 := hD.sub (ws' := []) [] (by decide) rfl
    have hK9 := hK.sub (tys' := []) [] rfl
    exact W.iret (v := (-1)) hx hb hr (fun t ht hW => ⟨⟨(-1), (), rfl, rfl, by rw [ht]; exact hP9, va_K.moved hW.alike hK9, hD9⟩, hS.F ht⟩) hS.2.2 dX5_byteAt_22
def wp_X5_become0 : List Cond := .code yX5_become cX5_become 6 none :: ([.fieldLink RX5 21 "RecordBench$Row" "size" "I"] ++ wsX50)
set_option maxHeartbeats 4000000 in
set_option maxRecDepth 100000 in
theorem c_X5_become0 (l : Launch) (dC : Nat → ClassId) (dI : Nat → Nat → Nat) (h0 : Nat) (b0 : Nat) (n0 : Int32) (h1 : Nat) (b1 : Nat) (n1 : Int32) (sz : Nat) : Met l yX5_become wp_X5_become0 ({ frames := 0, cells := 0, slots := 0, locals := 0 }) (va_Pc [.ref h0, .ref h1, .int 0, .int 0] (Pr (dC, dI) [] [(h0, .inr (7, [.ref b0, .int n0])), (h1, .inr (7, [.ref b1, .int n1]))] sz)) (va_Qv (fun _ : Unit => True) (Bq (dC, dI) (fun _ : Unit => [(h0, .inr (7, [.ref b0, .int 0])), (h1, .inr (7, [.ref b1, .int n1]))]) (fun _ : Unit => []) (va_A [(h0, .inr (7, [.ref b0, .int n0])), (h1, .inr (7, [.ref b1, .int n1]))] sz)) (va_A [(h0, .inr (7, [.ref b0, .int n0])), (h1, .inr (7, [.ref b1, .int n1]))] sz)) 0 0 (va_A [(h0, .inr (7, [.ref b0, .int n0])), (h1, .inr (7, [.ref b1, .int n1]))] sz) := by
  refine Met.ofW (cc := cX5_become) (maxL := 6) (ret := none) (by decide) rfl ?_
  intro p e s m args below meth c s₁ B hml hv
  obtain ⟨rfl, hsz, hP, hK, hD0, hN, hZ⟩ := hv
  have hx := B.exec
  have hb := B.bytes
  have hr := B.returns
  have hts := atoms_spec (ws := wp_X5_become0) B.pre
  have hown : s.vm.findClass RX5 = some m.cls := findClass_of_methodNamed B.named
  have hlocks := B.notSynchronized
  have iRX5 : ∀ w ∈ u_ws RX5 TX5 2, w ∈ wp_X5_become0 := by decide +kernel
  subst hsz
  have hD := hD0.self (sz := s.heap.size)
  generalize hAe : va_A [(h0, .inr (7, [.ref b0, .int n0])), (h1, .inr (7, [.ref b1, .int n1]))] s.heap.size = A at hD hZ ⊢
  have hA : ∀ q : Nat, s.heap.size ≤ q → A q := fun q h => by rw [← hAe]; exact Or.inr h
  have hS : va_S A s.heap s.heap [] := va_S.rf
  have hP : va_P (dC, dI) vwCl [(h0, .inr (7, [.ref b0, .int n0])), (h1, .inr (7, [.ref b1, .int n1]))] s.heap := hP
  have hl := lv_entry ([.ref h0, .ref h1, .int 0, .int 0]) (n := 6) (Nat.le_of_ble_eq_true rfl)
  rw [lg_entry_eq]
  generalize (lg_sl ([.ref h0, .ref h1, .int 0, .int 0]) ++ List.replicate (6 - (lg_sl ([.ref h0, .ref h1, .int 0, .int 0])).length) Slot.unset).toArray = ls at hl ⊢
  have hl : lv_has ls 6 [(0, .ref h0), (1, .ref h1), (2, .int 0), (3, .int 0)] := hl
  refine lv_iconst (v := 0) hx hb dX5_become_0 (by decide) ?_
  refine lv_istore (lv' := [(4, .int 0), (0, .ref h0), (1, .ref h1), (2, .int 0), (3, .int 0)]) hx hb dX5_become_1 hl (by decide) rfl (fun ls hl => ?_)
  refine lv_iload_n hx hb dX5_become_3 rfl (lv_at hl 3 rfl) ?_
  refine lv_istore (lv' := [(5, .int 0), (4, .int 0), (0, .ref h0), (1, .ref h1), (2, .int 0), (3, .int 0)]) hx hb dX5_become_4 hl (by decide) rfl (fun ls hl => ?_)
  refine lv_iload hx hb dX5_become_6 (lv_at hl 0 rfl) ?_
  refine lv_iload_n hx hb dX5_become_8 rfl (lv_at hl 5 rfl) ?_
  refine lv_icmp_ge (tgt := 48) hx hb dX5_become_9 (by decide) (fun c_1 => ?_) (fun c_1 => absurd (by decide) c_1)
  refine lv_aload_n hx hb dX5_become_48 rfl (lv_at hl 2 rfl) ?_
  refine lv_iload hx hb dX5_become_49 (lv_at hl 1 rfl) ?_
  refine va_put (D := (dC, dI)) (ci := 7) (v := .int 0) (ty := .int) (C := RX5) (T := TX5) (N := 2) hx hb hts iRX5 tyX5 tyX5_ok nmX5 hown hK hP hD hS 0 rfl rfl 1 (by decide) (hts (.fieldLink RX5 21 "RecordBench$Row" "size" "I") (by decide +kernel)) (fun _ h9 => h9) rfl (by decide +kernel) rfl rfl (Nat.le_of_ble_eq_true rfl) dX5_become_51 (fun H locs hP hD hS => ?_)
  have hP : va_P (dC, dI) vwCl [(h0, .inr (7, [.ref b0, .int 0])), (h1, .inr (7, [.ref b1, .int n1]))] H := hP
  have hD : va_D A [(h0, .inr (7, [.ref b0, .int 0])), (h1, .inr (7, [.ref b1, .int n1]))] := hD
  have hP9 := hP.sub (ws' := [(h0, .inr (7, [.ref b0, .int 0])), (h1, .inr (7, [.ref b1, .int n1]))]) [0, 1] rfl
  have hD9 := hD.sub (ws' := [(h0, .inr (7, [.ref b0, .int 0])), (h1, .inr (7, [.ref b1, .int n1]))]) [0, 1] (by decide) rfl
  have hK9 := hK.sub (tys' := []) [] rfl
  exact W.vret hx hb hr (fun t ht hW => ⟨⟨(), rfl, trivial, by rw [ht]; exact hP9, va_K.moved hW.alike hK9, hD9⟩, hS.F ht⟩) hS.2.2 dX5_become_54
