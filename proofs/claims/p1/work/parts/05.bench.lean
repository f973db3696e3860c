theorem dX8_fieldOf_0 : decode cX8_fieldOf 0 = .ok (.aload_n 0, 1) := by decide +kernel
theorem dX8_fieldOf_1 : decode cX8_fieldOf 1 = .ok (.getfield 24, 3) := by decide +kernel
theorem dX8_fieldOf_10 : decode cX8_fieldOf 10 = .ok (.ifnonnull 7, 3) := by decide +kernel
theorem dX8_fieldOf_13 : decode cX8_fieldOf 13 = .ok (.aconst_null, 1) := by decide +kernel
theorem dX8_fieldOf_14 : decode cX8_fieldOf 14 = .ok (.goto 8, 3) := by decide +kernel
theorem dX8_fieldOf_22 : decode cX8_fieldOf 22 = .ok (.areturn, 1) := by decide +kernel
theorem dX8_fieldOf_4 : decode cX8_fieldOf 4 = .ok (.iload_n 1, 1) := by decide +kernel
theorem dX8_fieldOf_5 : decode cX8_fieldOf 5 = .ok (.invokestatic 136, 3) := by decide +kernel
theorem dX8_fieldOf_8 : decode cX8_fieldOf 8 = .ok (.astore_n 3, 1) := by decide +kernel
theorem dX8_fieldOf_9 : decode cX8_fieldOf 9 = .ok (.aload_n 3, 1) := by decide +kernel
theorem dX8_makeOf_0 : decode cX8_makeOf 0 = .ok (.iload_n 1, 1) := by decide +kernel
theorem dX8_makeOf_1 : decode cX8_makeOf 1 = .ok (.ifCond .lt 15, 3) := by decide +kernel
theorem dX8_makeOf_10 : decode cX8_makeOf 10 = .ok (.aload_n 0, 1) := by decide +kernel
theorem dX8_makeOf_11 : decode cX8_makeOf 11 = .ok (.iload_n 1, 1) := by decide +kernel
theorem dX8_makeOf_12 : decode cX8_makeOf 12 = .ok (.aaload, 1) := by decide +kernel
theorem dX8_makeOf_13 : decode cX8_makeOf 13 = .ok (.goto 4, 3) := by decide +kernel
theorem dX8_makeOf_16 : decode cX8_makeOf 16 = .ok (.aconst_null, 1) := by decide +kernel
theorem dX8_makeOf_17 : decode cX8_makeOf 17 = .ok (.areturn, 1) := by decide +kernel
theorem dX8_makeOf_4 : decode cX8_makeOf 4 = .ok (.iload_n 1, 1) := by decide +kernel
theorem dX8_makeOf_5 : decode cX8_makeOf 5 = .ok (.aload_n 0, 1) := by decide +kernel
theorem dX8_makeOf_6 : decode cX8_makeOf 6 = .ok (.arraylength, 1) := by decide +kernel
theorem dX8_makeOf_7 : decode cX8_makeOf 7 = .ok (.if_icmp .ge 9, 3) := by decide +kernel
theorem dX8_recordOf_0 : decode cX8_recordOf 0 = .ok (.iload_n 1, 1) := by decide +kernel
theorem dX8_recordOf_1 : decode cX8_recordOf 1 = .ok (.ifCond .lt 17, 3) := by decide +kernel
theorem dX8_recordOf_10 : decode cX8_recordOf 10 = .ok (.getfield 18, 3) := by decide +kernel
theorem dX8_recordOf_13 : decode cX8_recordOf 13 = .ok (.iload_n 1, 1) := by decide +kernel
theorem dX8_recordOf_14 : decode cX8_recordOf 14 = .ok (.aaload, 1) := by decide +kernel
theorem dX8_recordOf_15 : decode cX8_recordOf 15 = .ok (.goto 4, 3) := by decide +kernel
theorem dX8_recordOf_18 : decode cX8_recordOf 18 = .ok (.aconst_null, 1) := by decide +kernel
theorem dX8_recordOf_19 : decode cX8_recordOf 19 = .ok (.areturn, 1) := by decide +kernel
theorem dX8_recordOf_4 : decode cX8_recordOf 4 = .ok (.iload_n 1, 1) := by decide +kernel
theorem dX8_recordOf_5 : decode cX8_recordOf 5 = .ok (.iconst 4, 1) := by decide +kernel
theorem dX8_recordOf_6 : decode cX8_recordOf 6 = .ok (.if_icmp .ge 12, 3) := by decide +kernel
theorem dX8_recordOf_9 : decode cX8_recordOf 9 = .ok (.aload_n 0, 1) := by decide +kernel
def wp_X8_makeOf : List Cond := .code yX8_makeOf cX8_makeOf 2 (some (.object "RecordBench$Make")) :: ([])
set_option maxHeartbeats 4000000 in
set_option maxRecDepth 100000 in
theorem c_X8_makeOf (l : Launch) (dC : Nat → ClassId) (dI : Nat → Nat → Nat) (m0 : Nat) (p0 : Int32) (cM : ClassId) (sz : Nat) : Met l yX8_makeOf wp_X8_makeOf ({ frames := 0, cells := 0, slots := 0, locals := 0 }) (va_Pc [.ref m0, .int p0] (Pr (dC, dI) [(cM, .object RX1)] [(m0, .inl (cM, 8, .inr (.inr (.inr (.inr (fun _ => none))))))] sz)) (va_Qq (fun r : Option Nat => (fun _ : Unit => r = none)) (Bq (dC, dI) (fun _ : Unit => [(m0, .inl (cM, 8, .inr (.inr (.inr (.inr (fun _ => none))))))]) (fun _ : Unit => []) (va_A [(m0, .inl (cM, 8, .inr (.inr (.inr (.inr (fun _ => none))))))] sz)) (va_A [(m0, .inl (cM, 8, .inr (.inr (.inr (.inr (fun _ => none))))))] sz)) 0 0 (va_A [(m0, .inl (cM, 8, .inr (.inr (.inr (.inr (fun _ => none))))))] sz) := by
  refine Met.ofW (cc := cX8_makeOf) (maxL := 2) (ret := (some (.object "RecordBench$Make"))) (by decide) rfl ?_
  intro p e s m args below meth c s₁ B hml hv
  obtain ⟨rfl, hsz, hP, hK, hD0, hN, hZ⟩ := hv
  have hx := B.exec
  have hb := B.bytes
  have hr := B.returns
  have hts := atoms_spec (ws := wp_X8_makeOf) B.pre
  have hown : s.vm.findClass RX8 = some m.cls := findClass_of_methodNamed B.named
  have hlocks := B.notSynchronized
  subst hsz
  have hD := hD0.self (sz := s.heap.size)
  generalize hAe : va_A [(m0, .inl (cM, 8, .inr (.inr (.inr (.inr (fun _ => none))))))] s.heap.size = A at hD hZ ⊢
  have hA : ∀ q : Nat, s.heap.size ≤ q → A q := fun q h => by rw [← hAe]; exact Or.inr h
  have hS : va_S A s.heap s.heap [] := va_S.rf
  have hP : va_P (dC, dI) vwCl [(m0, .inl (cM, 8, .inr (.inr (.inr (.inr (fun _ => none))))))] s.heap := hP
  have hl := lv_entry ([.ref m0, .int p0]) (n := 2) (Nat.le_of_ble_eq_true rfl)
  rw [lg_entry_eq]
  generalize (lg_sl ([.ref m0, .int p0]) ++ List.replicate (2 - (lg_sl ([.ref m0, .int p0])).length) Slot.unset).toArray = ls at hl ⊢
  have hl : lv_has ls 2 [(0, .ref m0), (1, .int p0)] := hl
  refine lv_iload_n hx hb dX8_makeOf_0 rfl (lv_at hl 1 rfl) ?_
  refine lv_if_lt (tgt := 16) hx hb dX8_makeOf_1 (by decide) (fun c_1 => ?_) (fun c_1 => ?_)
  · refine lv_null hx hb dX8_makeOf_16 ?_
    have hP9 := hP.sub (ws' := [(m0, .inl (cM, 8, .inr (.inr (.inr (.inr (fun _ => none))))))]) [0] rfl
    have hD9 := hD.sub (ws' := [(m0, .inl (cM, 8, .inr (.inr (.inr (.inr (fun _ => none))))))]) [0] (by decide) rfl
    have hK9 := hK.sub (tys' := []) [] rfl
    exact W.aret (v := .null) hx hb hr (Or.inl ⟨_, rfl⟩) (Or.inl rfl) (fun t ht hW => ⟨⟨none, (), rfl, rfl, by rw [ht]; exact hP9, va_K.moved hW.alike hK9, hD9⟩, hS.F ht⟩) hS.2.2 dX8_makeOf_17
  · refine lv_iload_n hx hb dX8_makeOf_4 rfl (lv_at hl 1 rfl) ?_
    refine lv_aload_n hx hb dX8_makeOf_5 rfl (lv_at hl 0 rfl) ?_
    refine va_alen (v := 8) hx hb hK hP 0 0 rfl rfl rfl dX8_makeOf_6 ?_
    refine lv_icmp_ge (tgt := 16) hx hb dX8_makeOf_7 (by decide) (fun c_2 => ?_) (fun c_2 => ?_)
    · refine lv_null hx hb dX8_makeOf_16 ?_
      have hP9 := hP.sub (ws' := [(m0, .inl (cM, 8, .inr (.inr (.inr (.inr (fun _ => none))))))]) [0] rfl
      have hD9 := hD.sub (ws' := [(m0, .inl (cM, 8, .inr (.inr (.inr (.inr (fun _ => none))))))]) [0] (by decide) rfl
      have hK9 := hK.sub (tys' := []) [] rfl
      exact W.aret (v := .null) hx hb hr (Or.inl ⟨_, rfl⟩) (Or.inl rfl) (fun t ht hW => ⟨⟨none, (), rfl, rfl, by rw [ht]; exact hP9, va_K.moved hW.alike hK9, hD9⟩, hS.F ht⟩) hS.2.2 dX8_makeOf_17
    · refine lv_aload_n hx hb dX8_makeOf_10 rfl (lv_at hl 0 rfl) ?_
      refine lv_iload_n hx hb dX8_makeOf_11 rfl (lv_at hl 1 rfl) ?_
      refine va_aldq hx hb hK hP 0 0 rfl rfl (in_of 8 rfl (by decide) c_1 c_2) dX8_makeOf_12 ?_
      refine W.eq (g2 := F0 m 13 ls [.null]) rfl ?_
      refine lv_goto (tgt := 17) hx hb dX8_makeOf_13 (by decide) ?_
      have hP9 := hP.sub (ws' := [(m0, .inl (cM, 8, .inr (.inr (.inr (.inr (fun _ => none))))))]) [0] rfl
      have hD9 := hD.sub (ws' := [(m0, .inl (cM, 8, .inr (.inr (.inr (.inr (fun _ => none))))))]) [0] (by decide) rfl
      have hK9 := hK.sub (tys' := []) [] rfl
      exact W.aret (v := .null) hx hb hr (Or.inl ⟨_, rfl⟩) (Or.inl rfl) (fun t ht hW => ⟨⟨none, (), rfl, rfl, by rw [ht]; exact hP9, va_K.moved hW.alike hK9, hD9⟩, hS.F ht⟩) hS.2.2 dX8_makeOf_17
def wp_X8_recordAny : List Cond := .code yX8_recordOf cX8_recordOf 2 (some (.object "RecordBench$Row")) :: ([.fieldLink RX8 18 "RecordBench" "records" "[LRecordBench$Row;"] ++ wsX80)
set_option maxHeartbeats 4000000 in
set_option maxRecDepth 100000 in
theorem c_X8_recordAny (l : Launch) (dC : Nat → ClassId) (dI : Nat → Nat → Nat) (h0 : Nat) (t0 : Nat) (r0 : Nat) (m0 : Nat) (x0 : Nat) (v4 : Value) (v5 : Value) (v6 : Value) (v7 : Value) (v8 : Value) (cR : ClassId) (fR : Nat → Option Nat) (p0 : Int32) (sz : Nat) : Met l yX8_recordOf wp_X8_recordAny ({ frames := 0, cells := 0, slots := 0, locals := 0 }) (va_Pc [.ref h0, .int p0] (Pr (dC, dI) [(cR, .object RX5)] [(h0, .inr (10, [.ref t0, .ref r0, .ref m0, .ref x0, v4, v5, v6, v7, v8, .int 0, .int ((-1)), .int 0])), (r0, .inl (cR, 4, .inr (.inr (.inr (.inr fR)))))] sz)) (va_Qq (fun r : Option Nat => (fun _ : Unit => True)) (Bq (dC, dI) (fun _ : Unit => [(h0, .inr (10, [.ref t0, .ref r0, .ref m0, .ref x0, v4, v5, v6, v7, v8, .int 0, .int ((-1)), .int 0])), (r0, .inl (cR, 4, .inr (.inr (.inr (.inr fR)))))]) (fun _ : Unit => []) (va_A [(h0, .inr (10, [.ref t0, .ref r0, .ref m0, .ref x0, v4, v5, v6, v7, v8, .int 0, .int ((-1)), .int 0])), (r0, .inl (cR, 4, .inr (.inr (.inr (.inr fR)))))] sz)) (va_A [(h0, .inr (10, [.ref t0, .ref r0, .ref m0, .ref x0, v4, v5, v6, v7, v8, .int 0, .int ((-1)), .int 0])), (r0, .inl (cR, 4, .inr (.inr (.inr (.inr fR)))))] sz)) 0 0 (va_A [(h0, .inr (10, [.ref t0, .ref r0, .ref m0, .ref x0, v4, v5, v6, v7, v8, .int 0, .int ((-1)), .int 0])), (r0, .inl (cR, 4, .inr (.inr (.inr (.inr fR)))))] sz) := by
  refine Met.ofW (cc := cX8_recordOf) (maxL := 2) (ret := (some (.object "RecordBench$Row"))) (by decide) rfl ?_
  intro p e s m args below meth c s₁ B hml hv
  obtain ⟨rfl, hsz, hP, hK, hD0, hN, hZ⟩ := hv
  have hx := B.exec
  have hb := B.bytes
  have hr := B.returns
  have hts := atoms_spec (ws := wp_X8_recordAny) B.pre
  have hown : s.vm.findClass RX8 = some m.cls := findClass_of_methodNamed B.named
  have hlocks := B.notSynchronized
  have iRX8 : ∀ w ∈ u_ws RX8 TX8 12, w ∈ wp_X8_recordAny := by decide +kernel
  subst hsz
  have hD := hD0.self (sz := s.heap.size)
  generalize hAe : va_A [(h0, .inr (10, [.ref t0, .ref r0, .ref m0, .ref x0, v4, v5, v6, v7, v8, .int 0, .int ((-1)), .int 0])), (r0, .inl (cR, 4, .inr (.inr (.inr (.inr fR)))))] s.heap.size = A at hD hZ ⊢
  have hA : ∀ q : Nat, s.heap.size ≤ q → A q := fun q h => by rw [← hAe]; exact Or.inr h
  have hS : va_S A s.heap s.heap [] := va_S.rf
  have hP : va_P (dC, dI) vwCl [(h0, .inr (10, [.ref t0, .ref r0, .ref m0, .ref x0, v4, v5, v6, v7, v8, .int 0, .int ((-1)), .int 0])), (r0, .inl (cR, 4, .inr (.inr (.inr (.inr fR)))))] s.heap := hP
  have hl := lv_entry ([.ref h0, .int p0]) (n := 2) (Nat.le_of_ble_eq_true rfl)
  rw [lg_entry_eq]
  generalize (lg_sl ([.ref h0, .int p0]) ++ List.replicate (2 - (lg_sl ([.ref h0, .int p0])).length) Slot.unset).toArray = ls at hl ⊢
  have hl : lv_has ls 2 [(0, .ref h0), (1, .int p0)] := hl
  refine lv_iload_n hx hb dX8_recordOf_0 rfl (lv_at hl 1 rfl) ?_
  refine lv_if_lt (tgt := 18) hx hb dX8_recordOf_1 (by decide) (fun c_1 => ?_) (fun c_1 => ?_)
  · refine lv_null hx hb dX8_recordOf_18 ?_
    have hP9 := hP.sub (ws' := [(h0, .inr (10, [.ref t0, .ref r0, .ref m0, .ref x0, v4, v5, v6, v7, v8, .int 0, .int ((-1)), .int 0])), (r0, .inl (cR, 4, .inr (.inr (.inr (.inr fR)))))]) [0, 1] rfl
    have hD9 := hD.sub (ws' := [(h0, .inr (10, [.ref t0, .ref r0, .ref m0, .ref x0, v4, v5, v6, v7, v8, .int 0, .int ((-1)), .int 0])), (r0, .inl (cR, 4, .inr (.inr (.inr (.inr fR)))))]) [0, 1] (by decide) rfl
    have hK9 := hK.sub (tys' := []) [] rfl
    exact W.aret (v := .null) hx hb hr (Or.inl ⟨_, rfl⟩) (Or.inl rfl) (fun t ht hW => ⟨⟨none, (), rfl, trivial, by rw [ht]; exact hP9, va_K.moved hW.alike hK9, hD9⟩, hS.F ht⟩) hS.2.2 dX8_recordOf_19
  · refine lv_iload_n hx hb dX8_recordOf_4 rfl (lv_at hl 1 rfl) ?_
    refine lv_iconst (v := 4) hx hb dX8_recordOf_5 (by decide) ?_
    refine lv_icmp_ge (tgt := 18) hx hb dX8_recordOf_6 (by decide) (fun c_2 => ?_) (fun c_2 => ?_)
    · refine lv_null hx hb dX8_recordOf_18 ?_
      have hP9 := hP.sub (ws' := [(h0, .inr (10, [.ref t0, .ref r0, .ref m0, .ref x0, v4, v5, v6, v7, v8, .int 0, .int ((-1)), .int 0])), (r0, .inl (cR, 4, .inr (.inr (.inr (.inr fR)))))]) [0, 1] rfl
      have hD9 := hD.sub (ws' := [(h0, .inr (10, [.ref t0, .ref r0, .ref m0, .ref x0, v4, v5, v6, v7, v8, .int 0, .int ((-1)), .int 0])), (r0, .inl (cR, 4, .inr (.inr (.inr (.inr fR)))))]) [0, 1] (by decide) rfl
      have hK9 := hK.sub (tys' := []) [] rfl
      exact W.aret (v := .null) hx hb hr (Or.inl ⟨_, rfl⟩) (Or.inl rfl) (fun t ht hW => ⟨⟨none, (), rfl, trivial, by rw [ht]; exact hP9, va_K.moved hW.alike hK9, hD9⟩, hS.F ht⟩) hS.2.2 dX8_recordOf_19
    · refine lv_aload_n hx hb dX8_recordOf_9 rfl (lv_at hl 0 rfl) ?_
      refine va_get (D := (dC, dI)) (ci := 10) (v := .ref r0) (C := RX8) (T := TX8) (N := 12) hx hb hts iRX8 hown hK hP 0 rfl rfl 1 (by decide) (hts (.fieldLink RX8 18 "RecordBench" "records" "[LRecordBench$Row;") (by decide +kernel)) (fun _ h9 => h9) rfl dX8_recordOf_10 ?_
      refine lv_iload_n hx hb dX8_recordOf_13 rfl (lv_at hl 1 rfl) ?_
      refine va_aldq hx hb hK hP 1 0 rfl rfl (in_of 4 rfl (by decide) c_1 c_2) dX8_recordOf_14 ?_
      refine W.eq (g2 := F0 m 15 ls [va_rf (fR p0.toNatClampNeg)]) rfl ?_
      refine lv_goto (tgt := 19) hx hb dX8_recordOf_15 (by decide) ?_
      have hP9 := hP.sub (ws' := [(h0, .inr (10, [.ref t0, .ref r0, .ref m0, .ref x0, v4, v5, v6, v7, v8, .int 0, .int ((-1)), .int 0])), (r0, .inl (cR, 4, .inr (.inr (.inr (.inr fR)))))]) [0, 1] rfl
      have hD9 := hD.sub (ws' := [(h0, .inr (10, [.ref t0, .ref r0, .ref m0, .ref x0, v4, v5, v6, v7, v8, .int 0, .int ((-1)), .int 0])), (r0, .inl (cR, 4, .inr (.inr (.inr (.inr fR)))))]) [0, 1] (by decide) rfl
      have hK9 := hK.sub (tys' := []) [] rfl
      exact W.aret (v := va_rf (fR p0.toNatClampNeg)) hx hb hr (Or.inl ⟨_, rfl⟩) (rf_or _) (fun t ht hW => ⟨⟨(fR p0.toNatClampNeg), (), rfl, trivial, by rw [ht]; exact hP9, va_K.moved hW.alike hK9, hD9⟩, hS.F ht⟩) hS.2.2 dX8_recordOf_19
def wp_X8_recordOf : List Cond := .code yX8_recordOf cX8_recordOf 2 (some (.object "RecordBench$Row")) :: ([.fieldLink RX8 18 "RecordBench" "records" "[LRecordBench$Row;"] ++ wsX80)
set_option maxHeartbeats 4000000 in
set_option maxRecDepth 100000 in
theorem c_X8_recordOf (l : Launch) (dC : Nat → ClassId) (dI : Nat → Nat → Nat) (h0 : Nat) (t0 : Nat) (r0 : Nat) (m0 : Nat) (x0 : Nat) (v4 : Value) (v5 : Value) (v6 : Value) (v7 : Value) (v8 : Value) (cR : ClassId) (fR : Nat → Option Nat) (q0 : Nat) (q1 : Nat) (q2 : Nat) (q3 : Nat) (hq0 : fR 0 = some q0) (hq1 : fR 1 = some q1) (hq2 : fR 2 = some q2) (hq3 : fR 3 = some q3) (p0 : Int32) (sz : Nat) : Met l yX8_recordOf wp_X8_recordOf ({ frames := 0, cells := 0, slots := 0, locals := 0 }) (va_Pc [.ref h0, .int p0] (Pr (dC, dI) [(cR, .object RX5)] [(h0, .inr (10, [.ref t0, .ref r0, .ref m0, .ref x0, v4, v5, v6, v7, v8, .int 0, .int ((-1)), .int 0])), (r0, .inl (cR, 4, .inr (.inr (.inr (.inr fR)))))] sz)) (va_Qq (fun r : Option Nat => (fun _ : Unit => ((p0 < 0 ∨ 4 ≤ p0) ∧ r = none) ∨ (¬ (p0 < 0 ∨ 4 ≤ p0) ∧ (r = some q0 ∨ r = some q1 ∨ r = some q2 ∨ r = some q3)))) (Bq (dC, dI) (fun _ : Unit => [(h0, .inr (10, [.ref t0, .ref r0, .ref m0, .ref x0, v4, v5, v6, v7, v8, .int 0, .int ((-1)), .int 0])), (r0, .inl (cR, 4, .inr (.inr (.inr (.inr fR)))))]) (fun _ : Unit => []) (va_A [(h0, .inr (10, [.ref t0, .ref r0, .ref m0, .ref x0, v4, v5, v6, v7, v8, .int 0, .int ((-1)), .int 0])), (r0, .inl (cR, 4, .inr (.inr (.inr (.inr fR)))))] sz)) (va_A [(h0, .inr (10, [.ref t0, .ref r0, .ref m0, .ref x0, v4, v5, v6, v7, v8, .int 0, .int ((-1)), .int 0])), (r0, .inl (cR, 4, .inr (.inr (.inr (.inr fR)))))] sz)) 0 0 (va_A [(h0, .inr (10, [.ref t0, .ref r0, .ref m0, .ref x0, v4, v5, v6, v7, v8, .int 0, .int ((-1)), .int 0])), (r0, .inl (cR, 4, .inr (.inr (.inr (.inr fR)))))] sz) := by
  refine Met.ofW (cc := cX8_recordOf) (maxL := 2) (ret := (some (.object "RecordBench$Row"))) (by decide) rfl ?_
  intro p e s m args below meth c s₁ B hml hv
  obtain ⟨rfl, hsz, hP, hK, hD0, hN, hZ⟩ := hv
  have hx := B.exec
  have hb := B.bytes
  have hr := B.returns
  have hts := atoms_spec (ws := wp_X8_recordOf) B.pre
  have hown : s.vm.findClass RX8 = some m.cls := findClass_of_methodNamed B.named
  have hlocks := B.notSynchronized
  have iRX8 : ∀ w ∈ u_ws RX8 TX8 12, w ∈ wp_X8_recordOf := by decide +kernel
  subst hsz
  have hD := hD0.self (sz := s.heap.size)
  generalize hAe : va_A [(h0, .inr (10, [.ref t0, .ref r0, .ref m0, .ref x0, v4, v5, v6, v7, v8, .int 0, .int ((-1)), .int 0])), (r0, .inl (cR, 4, .inr (.inr (.inr (.inr fR)))))] s.heap.size = A at hD hZ ⊢
  have hA : ∀ q : Nat, s.heap.size ≤ q → A q := fun q h => by rw [← hAe]; exact Or.inr h
  have hS : va_S A s.heap s.heap [] := va_S.rf
  have hP : va_P (dC, dI) vwCl [(h0, .inr (10, [.ref t0, .ref r0, .ref m0, .ref x0, v4, v5, v6, v7, v8, .int 0, .int ((-1)), .int 0])), (r0, .inl (cR, 4, .inr (.inr (.inr (.inr fR)))))] s.heap := hP
  have hl := lv_entry ([.ref h0, .int p0]) (n := 2) (Nat.le_of_ble_eq_true rfl)
  rw [lg_entry_eq]
  generalize (lg_sl ([.ref h0, .int p0]) ++ List.replicate (2 - (lg_sl ([.ref h0, .int p0])).length) Slot.unset).toArray = ls at hl ⊢
  have hl : lv_has ls 2 [(0, .ref h0), (1, .int p0)] := hl
  refine lv_iload_n hx hb dX8_recordOf_0 rfl (lv_at hl 1 rfl) ?_
  refine lv_if_lt (tgt := 18) hx hb dX8_recordOf_1 (by decide) (fun c_1 => ?_) (fun c_1 => ?_)
  · refine lv_null hx hb dX8_recordOf_18 ?_
    have hP9 := hP.sub (ws' := [(h0, .inr (10, [.ref t0, .ref r0, .ref m0, .ref x0, v4, v5, v6, v7, v8, .int 0, .int ((-1)), .int 0])), (r0, .inl (cR, 4, .inr (.inr (.inr (.inr fR)))))]) [0, 1] rfl
    have hD9 := hD.sub (ws' := [(h0, .inr (10, [.ref t0, .ref r0, .ref m0, .ref x0, v4, v5, v6, v7, v8, .int 0, .int ((-1)), .int 0])), (r0, .inl (cR, 4, .inr (.inr (.inr (.inr fR)))))]) [0, 1] (by decide) rfl
    have hK9 := hK.sub (tys' := []) [] rfl
    exact W.aret (v := .null) hx hb hr (Or.inl ⟨_, rfl⟩) (Or.inl rfl) (fun t ht hW => ⟨⟨none, (), rfl, Or.inl ⟨Or.inl c_1, rfl⟩, by rw [ht]; exact hP9, va_K.moved hW.alike hK9, hD9⟩, hS.F ht⟩) hS.2.2 dX8_recordOf_19
  · refine lv_iload_n hx hb dX8_recordOf_4 rfl (lv_at hl 1 rfl) ?_
    refine lv_iconst (v := 4) hx hb dX8_recordOf_5 (by decide) ?_
    refine lv_icmp_ge (tgt := 18) hx hb dX8_recordOf_6 (by decide) (fun c_2 => ?_) (fun c_2 => ?_)
    · refine lv_null hx hb dX8_recordOf_18 ?_
      have hP9 := hP.sub (ws' := [(h0, .inr (10, [.ref t0, .ref r0, .ref m0, .ref x0, v4, v5, v6, v7, v8, .int 0, .int ((-1)), .int 0])), (r0, .inl (cR, 4, .inr (.inr (.inr (.inr fR)))))]) [0, 1] rfl
      have hD9 := hD.sub (ws' := [(h0, .inr (10, [.ref t0, .ref r0, .ref m0, .ref x0, v4, v5, v6, v7, v8, .int 0, .int ((-1)), .int 0])), (r0, .inl (cR, 4, .inr (.inr (.inr (.inr fR)))))]) [0, 1] (by decide) rfl
      have hK9 := hK.sub (tys' := []) [] rfl
      exact W.aret (v := .null) hx hb hr (Or.inl ⟨_, rfl⟩) (Or.inl rfl) (fun t ht hW => ⟨⟨none, (), rfl, Or.inl ⟨Or.inr c_2, rfl⟩, by rw [ht]; exact hP9, va_K.moved hW.alike hK9, hD9⟩, hS.F ht⟩) hS.2.2 dX8_recordOf_19
    · refine lv_aload_n hx hb dX8_recordOf_9 rfl (lv_at hl 0 rfl) ?_
      refine va_get (D := (dC, dI)) (ci := 10) (v := .ref r0) (C := RX8) (T := TX8) (N := 12) hx hb hts iRX8 hown hK hP 0 rfl rfl 1 (by decide) (hts (.fieldLink RX8 18 "RecordBench" "records" "[LRecordBench$Row;") (by decide +kernel)) (fun _ h9 => h9) rfl dX8_recordOf_10 ?_
      refine lv_iload_n hx hb dX8_recordOf_13 rfl (lv_at hl 1 rfl) ?_
      refine va_aldq hx hb hK hP 1 0 rfl rfl (in_of 4 rfl (by decide) c_1 c_2) dX8_recordOf_14 ?_
      refine W.eq (g2 := F0 m 15 ls [va_rf (fR p0.toNatClampNeg)]) rfl ?_
      refine lv_goto (tgt := 19) hx hb dX8_recordOf_15 (by decide) ?_
      have hP9 := hP.sub (ws' := [(h0, .inr (10, [.ref t0, .ref r0, .ref m0, .ref x0, v4, v5, v6, v7, v8, .int 0, .int ((-1)), .int 0])), (r0, .inl (cR, 4, .inr (.inr (.inr (.inr fR)))))]) [0, 1] rfl
      have hD9 := hD.sub (ws' := [(h0, .inr (10, [.ref t0, .ref r0, .ref m0, .ref x0, v4, v5, v6, v7, v8, .int 0, .int ((-1)), .int 0])), (r0, .inl (cR, 4, .inr (.inr (.inr (.inr fR)))))]) [0, 1] (by decide) rfl
      have hK9 := hK.sub (tys' := []) [] rfl
      exact W.aret (v := va_rf (fR p0.toNatClampNeg)) hx hb hr (Or.inl ⟨_, rfl⟩) (rf_or _) (fun t ht hW => ⟨⟨(fR p0.toNatClampNeg), (), rfl, Or.inr ⟨fun h => h.elim c_1 c_2, rec4 (in_of 4 rfl (by decide) c_1 c_2) hq0 hq1 hq2 hq3⟩, by rw [ht]; exact hP9, va_K.moved hW.alike hK9, hD9⟩, hS.F ht⟩) hS.2.2 dX8_recordOf_19
def wp_X8_fieldOf : List Cond := .code yX8_fieldOf cX8_fieldOf 4 (some (.object "RecordBench$Field")) :: ([.fieldLink RX8 24 "RecordBench" "makes" "[LRecordBench$Make;", .methodLink RX8 136 yX8_makeOf, .static yX8_makeOf, .initialized RX8, .code yX8_makeOf cX8_makeOf 2 (some (.object "RecordBench$Make"))] ++ wsX80)
set_option maxRecDepth 20000 in
theorem gp_X8_fieldOf_X8_makeOf_136 : GoodIn wp_X8_fieldOf (wsS RX8 136 yX8_makeOf wp_X8_makeOf) := goodIn_p _ [5] rfl (by decide +kernel)
set_option maxHeartbeats 4000000 in
set_option maxRecDepth 100000 in
theorem c_X8_fieldOf (l : Launch) (dC : Nat → ClassId) (dI : Nat → Nat → Nat) (h0 : Nat) (t0 : Nat) (r0 : Nat) (m0 : Nat) (x0 : Nat) (v4 : Value) (v5 : Value) (v6 : Value) (v7 : Value) (v8 : Value) (cM : ClassId) (p0 : Int32) (p1 : Int32) (sz : Nat) : Met l yX8_fieldOf wp_X8_fieldOf ({ frames := 1, cells := 0, slots := 0, locals := 25 }) (va_Pc [.ref h0, .int p0, .int p1] (Pr (dC, dI) [(cM, .object RX1)] [(h0, .inr (10, [.ref t0, .ref r0, .ref m0, .ref x0, v4, v5, v6, v7, v8, .int 0, .int ((-1)), .int 0])), (m0, .inl (cM, 8, .inr (.inr (.inr (.inr (fun _ => none))))))] sz)) (va_Qq (fun r : Option Nat => (fun _ : Unit => r = none)) (Bq (dC, dI) (fun _ : Unit => [(h0, .inr (10, [.ref t0, .ref r0, .ref m0, .ref x0, v4, v5, v6, v7, v8, .int 0, .int ((-1)), .int 0])), (m0, .inl (cM, 8, .inr (.inr (.inr (.inr (fun _ => none))))))]) (fun _ : Unit => []) (va_A [(h0, .inr (10, [.ref t0, .ref r0, .ref m0, .ref x0, v4, v5, v6, v7, v8, .int 0, .int ((-1)), .int 0])), (m0, .inl (cM, 8, .inr (.inr (.inr (.inr (fun _ => none))))))] sz)) (va_A [(h0, .inr (10, [.ref t0, .ref r0, .ref m0, .ref x0, v4, v5, v6, v7, v8, .int 0, .int ((-1)), .int 0])), (m0, .inl (cM, 8, .inr (.inr (.inr (.inr (fun _ => none))))))] sz)) 0 0 (va_A [(h0, .inr (10, [.ref t0, .ref r0, .ref m0, .ref x0, v4, v5, v6, v7, v8, .int 0, .int ((-1)), .int 0])), (m0, .inl (cM, 8, .inr (.inr (.inr (.inr (fun _ => none))))))] sz) := by
  refine Met.ofW (cc := cX8_fieldOf) (maxL := 4) (ret := (some (.object "RecordBench$Field"))) (by decide) rfl ?_
  intro p e s m args below meth c s₁ B hml hv
  obtain ⟨rfl, hsz, hP, hK, hD0, hN, hZ⟩ := hv
  have hx := B.exec
  have hb := B.bytes
  have hr := B.returns
  have hts := atoms_spec (ws := wp_X8_fieldOf) B.pre
  have hown : s.vm.findClass RX8 = some m.cls := findClass_of_methodNamed B.named
  have hlocks := B.notSynchronized
  have iRX8 : ∀ w ∈ u_ws RX8 TX8 12, w ∈ wp_X8_fieldOf := by decide +kernel
  subst hsz
  have hD := hD0.self (sz := s.heap.size)
  generalize hAe : va_A [(h0, .inr (10, [.ref t0, .ref r0, .ref m0, .ref x0, v4, v5, v6, v7, v8, .int 0, .int ((-1)), .int 0])), (m0, .inl (cM, 8, .inr (.inr (.inr (.inr (fun _ => none))))))] s.heap.size = A at hD hZ ⊢
  have hA : ∀ q : Nat, s.heap.size ≤ q → A q := fun q h => by rw [← hAe]; exact Or.inr h
  have hS : va_S A s.heap s.heap [] := va_S.rf
  have hP : va_P (dC, dI) vwCl [(h0, .inr (10, [.ref t0, .ref r0, .ref m0, .ref x0, v4, v5, v6, v7, v8, .int 0, .int ((-1)), .int 0])), (m0, .inl (cM, 8, .inr (.inr (.inr (.inr (fun _ => none))))))] s.heap := hP
  have hl := lv_entry ([.ref h0, .int p0, .int p1]) (n := 4) (Nat.le_of_ble_eq_true rfl)
  rw [lg_entry_eq]
  generalize (lg_sl ([.ref h0, .int p0, .int p1]) ++ List.replicate (4 - (lg_sl ([.ref h0, .int p0, .int p1])).length) Slot.unset).toArray = ls at hl ⊢
  have hl : lv_has ls 4 [(0, .ref h0), (1, .int p0), (2, .int p1)] := hl
  refine lv_aload_n hx hb dX8_fieldOf_0 rfl (lv_at hl 0 rfl) ?_
  refine va_get (D := (dC, dI)) (ci := 10) (v := .ref m0) (C := RX8) (T := TX8) (N := 12) hx hb hts iRX8 hown hK hP 0 rfl rfl 2 (by decide) (hts (.fieldLink RX8 24 "RecordBench" "makes" "[LRecordBench$Make;") (by decide +kernel)) (fun _ h9 => h9) rfl dX8_fieldOf_1 ?_
  refine lv_iload_n hx hb dX8_fieldOf_4 rfl (lv_at hl 1 rfl) ?_
  have hFc := va_free (wc := [(m0, .inl (cM, 8, .inr (.inr (.inr (.inr (fun _ => none))))))]) hD hS hA [1] rfl
  refine va_callq (va_runS (As := [.ref m0, .int p0]) (rest := []) ⟨hx, hb, hml, hown, hts⟩ (c_X8_makeOf l dC dI m0 p0 cM s.heap.size) (cwS 2 hts gp_X8_fieldOf_X8_makeOf_136 rfl rfl rfl (by decide +kernel) ⟨Nat.le_of_ble_eq_true rfl, Nat.le_of_ble_eq_true rfl⟩) ⟨Pr.blind _, fun U hU hW => ⟨rfl, Pr.at (hP.sub (ws' := [(m0, .inl (cM, 8, .inr (.inr (.inr (.inr (fun _ => none))))))]) [1] rfl) (hK.sub (tys' := [(cM, .object RX1)]) [0] rfl) (hD.sub (ws' := [(m0, .inl (cM, 8, .inr (.inr (.inr (.inr (fun _ => none))))))]) [1] (by decide) rfl) hN hZ hS hFc hU hW⟩⟩ rfl rfl hl.1 rfl (lv_room (Nat.le_of_ble_eq_true rfl)) dX8_fieldOf_5 ⟨Nat.le_of_ble_eq_true rfl, Nat.le_of_ble_eq_true rfl⟩) hS (fun q _ h => hFc q h) hFc (fun r_1 u t H1 locs ht hvm hw_2 hB hz1 hk1 hS => ?_)
  obtain ⟨hP, hD, hK⟩ := Bq.join (wr := [(h0, .inr (10, [.ref t0, .ref r0, .ref m0, .ref x0, v4, v5, v6, v7, v8, .int 0, .int ((-1)), .int 0]))]) hB ht hvm hP hD [1] [0] rfl rfl (by decide) (by decide) hk1 hFc hK
  generalize H1 = H at hP hS ⊢
  have hP : va_P (dC, dI) vwCl [(h0, .inr (10, [.ref t0, .ref r0, .ref m0, .ref x0, v4, v5, v6, v7, v8, .int 0, .int ((-1)), .int 0])), (m0, .inl (cM, 8, .inr (.inr (.inr (.inr (fun _ => none))))))] H := hP
  have hD : va_D A [(h0, .inr (10, [.ref t0, .ref r0, .ref m0, .ref x0, v4, v5, v6, v7, v8, .int 0, .int ((-1)), .int 0])), (m0, .inl (cM, 8, .inr (.inr (.inr (.inr (fun _ => none))))))] := hD
  have hK : va_K (dC, dI) vwCl [(cM, .object RX1)] s := hK
  try dsimp only at hw_2
  have k_3 := hw_2
  subst k_3
  refine W.eq (g2 := F0 m 8 ls [.null]) rfl ?_
  refine lv_astore_nN (lv' := [(3, .null), (0, .ref h0), (1, .int p0), (2, .int p1)]) hx hb dX8_fieldOf_8 rfl hl (by decide) rfl (fun ls hl => ?_)
  refine lv_aload_nN hx hb dX8_fieldOf_9 rfl (lv_at hl 0 rfl) ?_
  refine lv_ifnonnullN hx hb dX8_fieldOf_10 ?_
  refine lv_null hx hb dX8_fieldOf_13 ?_
  refine lv_goto (tgt := 22) hx hb dX8_fieldOf_14 (by decide) ?_
  have hP9 := hP.sub (ws' := [(h0, .inr (10, [.ref t0, .ref r0, .ref m0, .ref x0, v4, v5, v6, v7, v8, .int 0, .int ((-1)), .int 0])), (m0, .inl (cM, 8, .inr (.inr (.inr (.inr (fun _ => none))))))]) [0, 1] rfl
  have hD9 := hD.sub (ws' := [(h0, .inr (10, [.ref t0, .ref r0, .ref m0, .ref x0, v4, v5, v6, v7, v8, .int 0, .int ((-1)), .int 0])), (m0, .inl (cM, 8, .inr (.inr (.inr (.inr (fun _ => none))))))]) [0, 1] (by decide) rfl
  have hK9 := hK.sub (tys' := []) [] rfl
  exact W.aret (v := .null) hx hb hr (Or.inl ⟨_, rfl⟩) (Or.inl rfl) (fun t ht hW => ⟨⟨none, (), rfl, rfl, by rw [ht]; exact hP9, va_K.moved hW.alike hK9, hD9⟩, hS.F ht⟩) hS.2.2 dX8_fieldOf_22
