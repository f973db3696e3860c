theorem dX9_has_0 : decode cX9_has 0 = .ok (.iload_n 2, 1) := by decide +kernel
theorem dX9_has_1 : decode cX9_has 1 = .ok (.ifCond .le 41, 3) := by decide +kernel
theorem dX9_has_10 : decode cX9_has 10 = .ok (.aload_n 0, 1) := by decide +kernel
theorem dX9_has_11 : decode cX9_has 11 = .ok (.getfield 36, 3) := by decide +kernel
theorem dX9_has_14 : decode cX9_has 14 = .ok (.bipush 31, 2) := by decide +kernel
theorem dX9_has_16 : decode cX9_has 16 = .ok (.iload_n 1, 1) := by decide +kernel
theorem dX9_has_17 : decode cX9_has 17 = .ok (.imul, 1) := by decide +kernel
theorem dX9_has_18 : decode cX9_has 18 = .ok (.iload_n 2, 1) := by decide +kernel
theorem dX9_has_19 : decode cX9_has 19 = .ok (.iadd, 1) := by decide +kernel
theorem dX9_has_20 : decode cX9_has 20 = .ok (.baload, 1) := by decide +kernel
theorem dX9_has_21 : decode cX9_has 21 = .ok (.ifCond .eq 21, 3) := by decide +kernel
theorem dX9_has_24 : decode cX9_has 24 = .ok (.aload_n 0, 1) := by decide +kernel
theorem dX9_has_25 : decode cX9_has 25 = .ok (.getfield 13, 3) := by decide +kernel
theorem dX9_has_28 : decode cX9_has 28 = .ok (.bipush 31, 2) := by decide +kernel
theorem dX9_has_30 : decode cX9_has 30 = .ok (.iload_n 1, 1) := by decide +kernel
theorem dX9_has_31 : decode cX9_has 31 = .ok (.imul, 1) := by decide +kernel
theorem dX9_has_32 : decode cX9_has 32 = .ok (.iload_n 2, 1) := by decide +kernel
theorem dX9_has_33 : decode cX9_has 33 = .ok (.iadd, 1) := by decide +kernel
theorem dX9_has_34 : decode cX9_has 34 = .ok (.iaload, 1) := by decide +kernel
theorem dX9_has_35 : decode cX9_has 35 = .ok (.ifCond .eq 7, 3) := by decide +kernel
theorem dX9_has_38 : decode cX9_has 38 = .ok (.iconst 1, 1) := by decide +kernel
theorem dX9_has_39 : decode cX9_has 39 = .ok (.goto 4, 3) := by decide +kernel
theorem dX9_has_4 : decode cX9_has 4 = .ok (.iload_n 2, 1) := by decide +kernel
theorem dX9_has_42 : decode cX9_has 42 = .ok (.iconst 0, 1) := by decide +kernel
theorem dX9_has_43 : decode cX9_has 43 = .ok (.ireturn, 1) := by decide +kernel
theorem dX9_has_5 : decode cX9_has 5 = .ok (.bipush 31, 2) := by decide +kernel
theorem dX9_has_7 : decode cX9_has 7 = .ok (.if_icmp .ge 35, 3) := by decide +kernel
theorem dX9_isMake_0 : decode cX9_isMake 0 = .ok (.iload_n 1, 1) := by decide +kernel
theorem dX9_isMake_1 : decode cX9_isMake 1 = .ok (.ifCond .lt 22, 3) := by decide +kernel
theorem dX9_isMake_10 : decode cX9_isMake 10 = .ok (.aload_n 0, 1) := by decide +kernel
theorem dX9_isMake_11 : decode cX9_isMake 11 = .ok (.getfield 7, 3) := by decide +kernel
theorem dX9_isMake_14 : decode cX9_isMake 14 = .ok (.iload_n 1, 1) := by decide +kernel
theorem dX9_isMake_15 : decode cX9_isMake 15 = .ok (.baload, 1) := by decide +kernel
theorem dX9_isMake_16 : decode cX9_isMake 16 = .ok (.ifCond .eq 7, 3) := by decide +kernel
theorem dX9_isMake_19 : decode cX9_isMake 19 = .ok (.iconst 1, 1) := by decide +kernel
theorem dX9_isMake_20 : decode cX9_isMake 20 = .ok (.goto 4, 3) := by decide +kernel
theorem dX9_isMake_23 : decode cX9_isMake 23 = .ok (.iconst 0, 1) := by decide +kernel
theorem dX9_isMake_24 : decode cX9_isMake 24 = .ok (.ireturn, 1) := by decide +kernel
theorem dX9_isMake_4 : decode cX9_isMake 4 = .ok (.iload_n 1, 1) := by decide +kernel
theorem dX9_isMake_5 : decode cX9_isMake 5 = .ok (.bipush 8, 2) := by decide +kernel
theorem dX9_isMake_7 : decode cX9_isMake 7 = .ok (.if_icmp .ge 16, 3) := by decide +kernel
theorem dX9_isRecord_0 : decode cX9_isRecord 0 = .ok (.iload_n 0, 1) := by decide +kernel
theorem dX9_isRecord_1 : decode cX9_isRecord 1 = .ok (.ifCond .lt 12, 3) := by decide +kernel
theorem dX9_isRecord_10 : decode cX9_isRecord 10 = .ok (.goto 4, 3) := by decide +kernel
theorem dX9_isRecord_13 : decode cX9_isRecord 13 = .ok (.iconst 0, 1) := by decide +kernel
theorem dX9_isRecord_14 : decode cX9_isRecord 14 = .ok (.ireturn, 1) := by decide +kernel
theorem dX9_isRecord_4 : decode cX9_isRecord 4 = .ok (.iload_n 0, 1) := by decide +kernel
theorem dX9_isRecord_5 : decode cX9_isRecord 5 = .ok (.iconst 4, 1) := by decide +kernel
theorem dX9_isRecord_6 : decode cX9_isRecord 6 = .ok (.if_icmp .ge 7, 3) := by decide +kernel
theorem dX9_isRecord_9 : decode cX9_isRecord 9 = .ok (.iconst 1, 1) := by decide +kernel
def wp_X9_isRecord : List Cond := .code yX9_isRecord cX9_isRecord 1 (some .boolean) :: ([])
set_option maxHeartbeats 4000000 in
set_option maxRecDepth 100000 in
theorem c_X9_isRecord (l : Launch) (dC : Nat → ClassId) (dI : Nat → Nat → Nat) (p0 : Int32) (sz : Nat) : Met l yX9_isRecord wp_X9_isRecord ({ frames := 0, cells := 0, slots := 0, locals := 0 }) (va_Pc [.int p0] (Pr (dC, dI) [] [] [] sz)) (va_Qi (fun r : Int32 => (fun _ : Unit => ((p0 < 0 ∨ 4 ≤ p0) ∧ r = 0) ∨ (¬ (p0 < 0 ∨ 4 ≤ p0) ∧ r = 1))) (Bq (dC, dI) (fun _ : Unit => []) (fun _ : Unit => []) (va_A [] sz)) (va_A [] sz)) 0 0 (va_A [] sz) := by
  refine Met.ofW (cc := cX9_isRecord) (maxL := 1) (ret := (some .boolean)) (by decide) rfl ?_
  intro p e s m args below meth c s₁ B hml hv
  obtain ⟨rfl, hsz, hP, hK, hD0, hN, hZ, hR⟩ := hv
  have hx := B.exec
  have hb := B.bytes
  have hr := B.returns
  have hts := atoms_spec (ws := wp_X9_isRecord) B.pre
  have hown : s.vm.findClass RX9 = some m.cls := findClass_of_methodNamed B.named
  have hlocks := B.notSynchronized
  subst hsz
  have hD := hD0.self (sz := s.heap.size)
  generalize hAe : va_A [] s.heap.size = A at hD hZ hR ⊢
  have hA : ∀ q : Nat, s.heap.size ≤ q → A q := fun q h => by rw [← hAe]; exact Or.inr h
  have hS : va_S A s.heap s.heap [] := va_S.rf
  have hP : va_P (dC, dI) vwCl [] s.heap := hP
  have hl := lv_entry ([.int p0]) (n := 1) (Nat.le_of_ble_eq_true rfl)
  rw [lg_entry_eq]
  generalize (lg_sl ([.int p0]) ++ List.replicate (1 - (lg_sl ([.int p0])).length) Slot.unset).toArray = ls at hl ⊢
  have hl : lv_has ls 1 [(0, .int p0)] := hl
  refine lv_iload_n hx hb dX9_isRecord_0 rfl (lv_at hl 0 rfl) ?_
  refine lv_if_lt (tgt := 13) hx hb dX9_isRecord_1 (by decide) (fun c_1 => ?_) (fun c_1 => ?_)
  · refine lv_iconst (v := 0) hx hb dX9_isRecord_13 (by decide) ?_
    have hP9 := hP.sub (ws' := []) [] rfl
    have hD9 := hD.sub (ws' := []) [] (by decide) rfl
    have hK9 := hK.sub (tys' := []) [] rfl
    exact W.zret (v := 0) hx hb hr rfl (fun t ht hW => ⟨⟨0, (), rfl, Or.inl ⟨Or.inl c_1, rfl⟩, by rw [ht]; exact hP9, va_K.moved hW.alike hK9, hD9⟩, hS.F ht⟩) hS.2.2 dX9_isRecord_14
  · refine lv_iload_n hx hb dX9_isRecord_4 rfl (lv_at hl 0 rfl) ?_
    refine lv_iconst (v := 4) hx hb dX9_isRecord_5 (by decide) ?_
    refine lv_icmp_ge (tgt := 13) hx hb dX9_isRecord_6 (by decide) (fun c_2 => ?_) (fun c_2 => ?_)
    · refine lv_iconst (v := 0) hx hb dX9_isRecord_13 (by decide) ?_
      have hP9 := hP.sub (ws' := []) [] rfl
      have hD9 := hD.sub (ws' := []) [] (by decide) rfl
      have hK9 := hK.sub (tys' := []) [] rfl
      exact W.zret (v := 0) hx hb hr rfl (fun t ht hW => ⟨⟨0, (), rfl, Or.inl ⟨Or.inr c_2, rfl⟩, by rw [ht]; exact hP9, va_K.moved hW.alike hK9, hD9⟩, hS.F ht⟩) hS.2.2 dX9_isRecord_14
    · refine lv_iconst (v := 1) hx hb dX9_isRecord_9 (by decide) ?_
      refine lv_goto (tgt := 14) hx hb dX9_isRecord_10 (by decide) ?_
      have hP9 := hP.sub (ws' := []) [] rfl
      have hD9 := hD.sub (ws' := []) [] (by decide) rfl
      have hK9 := hK.sub (tys' := []) [] rfl
      exact W.zret (v := 1) hx hb hr rfl (fun t ht hW => ⟨⟨1, (), rfl, Or.inr ⟨fun h => h.elim c_1 c_2, rfl⟩, by rw [ht]; exact hP9, va_K.moved hW.alike hK9, hD9⟩, hS.F ht⟩) hS.2.2 dX9_isRecord_14
def wp_X9_isMake : List Cond := .code yX9_isMake cX9_isMake 2 (some .boolean) :: ([.fieldLink RX9 7 "RecordBenchModel" "told" "[Z"] ++ wsX90)
set_option maxHeartbeats 4000000 in
set_option maxRecDepth 100000 in
theorem c_X9_isMake (l : Launch) (dC : Nat → ClassId) (dI : Nat → Nat → Nat) (h0 : Nat) (g : Nat → Value) (a0 : Nat) (cZ : ClassId) (tl : Nat → Int32) (fh0 : g 0 = .ref a0) (p0 : Int32) (sz : Nat) : Met l yX9_isMake wp_X9_isMake ({ frames := 0, cells := 0, slots := 0, locals := 0 }) (va_Pc [.ref h0, .int p0] (Pr (dC, dI) [(cZ, .boolean)] [] [(h0, .inr (11, mo g)), (a0, .inl (cZ, 8, .inl tl))] sz)) (va_Qi (fun r : Int32 => (fun _ : Unit => (isM tl p0 ∧ r = 1) ∨ (¬ isM tl p0 ∧ r = 0))) (Bq (dC, dI) (fun _ : Unit => [(h0, .inr (11, mo g)), (a0, .inl (cZ, 8, .inl tl))]) (fun _ : Unit => []) (va_A [(h0, .inr (11, mo g)), (a0, .inl (cZ, 8, .inl tl))] sz)) (va_A [(h0, .inr (11, mo g)), (a0, .inl (cZ, 8, .inl tl))] sz)) 0 0 (va_A [(h0, .inr (11, mo g)), (a0, .inl (cZ, 8, .inl tl))] sz) := by
  refine Met.ofW (cc := cX9_isMake) (maxL := 2) (ret := (some .boolean)) (by decide) rfl ?_
  intro p e s m args below meth c s₁ B hml hv
  obtain ⟨rfl, hsz, hP, hK, hD0, hN, hZ, hR⟩ := hv
  have hx := B.exec
  have hb := B.bytes
  have hr := B.returns
  have hts := atoms_spec (ws := wp_X9_isMake) B.pre
  have hown : s.vm.findClass RX9 = some m.cls := findClass_of_methodNamed B.named
  have hlocks := B.notSynchronized
  have iRX9 : ∀ w ∈ u_ws RX9 TX9 60, w ∈ wp_X9_isMake := by decide +kernel
  subst hsz
  have hD := hD0.self (sz := s.heap.size)
  generalize hAe : va_A [(h0, .inr (11, mo g)), (a0, .inl (cZ, 8, .inl tl))] s.heap.size = A at hD hZ hR ⊢
  have hA : ∀ q : Nat, s.heap.size ≤ q → A q := fun q h => by rw [← hAe]; exact Or.inr h
  have hS : va_S A s.heap s.heap [] := va_S.rf
  have hP : va_P (dC, dI) vwCl [(h0, .inr (11, mo g)), (a0, .inl (cZ, 8, .inl tl))] s.heap := hP
  have hl := lv_entry ([.ref h0, .int p0]) (n := 2) (Nat.le_of_ble_eq_true rfl)
  rw [lg_entry_eq]
  generalize (lg_sl ([.ref h0, .int p0]) ++ List.replicate (2 - (lg_sl ([.ref h0, .int p0])).length) Slot.unset).toArray = ls at hl ⊢
  have hl : lv_has ls 2 [(0, .ref h0), (1, .int p0)] := hl
  refine lv_iload_n hx hb dX9_isMake_0 rfl (lv_at hl 1 rfl) ?_
  refine lv_if_lt (tgt := 23) hx hb dX9_isMake_1 (by decide) (fun c_1 => ?_) (fun c_1 => ?_)
  · refine lv_iconst (v := 0) hx hb dX9_isMake_23 (by decide) ?_
    have hP9 := hP.sub (ws' := [(h0, .inr (11, mo g)), (a0, .inl (cZ, 8, .inl tl))]) [0, 1] rfl
    have hD9 := hD.sub (ws' := [(h0, .inr (11, mo g)), (a0, .inl (cZ, 8, .inl tl))]) [0, 1] (by decide) rfl
    have hK9 := hK.sub (tys' := []) [] rfl
    exact W.zret (v := 0) hx hb hr rfl (fun t ht hW => ⟨⟨0, (), rfl, Or.inr ⟨fun h => h.1.1 c_1, rfl⟩, by rw [ht]; exact hP9, va_K.moved hW.alike hK9, hD9⟩, hS.F ht⟩) hS.2.2 dX9_isMake_24
  · refine lv_iload_n hx hb dX9_isMake_4 rfl (lv_at hl 1 rfl) ?_
    refine lv_bipush (v := 8) hx hb dX9_isMake_5 (by decide) ?_
    refine lv_icmp_ge (tgt := 23) hx hb dX9_isMake_7 (by decide) (fun c_2 => ?_) (fun c_2 => ?_)
    · refine lv_iconst (v := 0) hx hb dX9_isMake_23 (by decide) ?_
      have hP9 := hP.sub (ws' := [(h0, .inr (11, mo g)), (a0, .inl (cZ, 8, .inl tl))]) [0, 1] rfl
      have hD9 := hD.sub (ws' := [(h0, .inr (11, mo g)), (a0, .inl (cZ, 8, .inl tl))]) [0, 1] (by decide) rfl
      have hK9 := hK.sub (tys' := []) [] rfl
      exact W.zret (v := 0) hx hb hr rfl (fun t ht hW => ⟨⟨0, (), rfl, Or.inr ⟨fun h => h.1.2 c_2, rfl⟩, by rw [ht]; exact hP9, va_K.moved hW.alike hK9, hD9⟩, hS.F ht⟩) hS.2.2 dX9_isMake_24
    · refine lv_aload_n hx hb dX9_isMake_10 rfl (lv_at hl 0 rfl) ?_
      refine va_get (D := (dC, dI)) (ci := 11) (v := .ref a0) (C := RX9) (T := TX9) (N := 60) hx hb hts iRX9 hown hK hP 0 rfl rfl 0 (by decide) (hts (.fieldLink RX9 7 "RecordBenchModel" "told" "[Z") (by decide +kernel)) (fun _ h9 => h9) ((mo_get g (by decide)).trans (congrArg some fh0)) dX9_isMake_11 ?_
      refine lv_iload_n hx hb dX9_isMake_14 rfl (lv_at hl 1 rfl) ?_
      refine va_zald hx hb hK hP 1 0 rfl rfl (in_of 8 rfl (by decide) c_1 c_2) dX9_isMake_15 ?_
      refine W_toi (y := tl p0.toNatClampNeg) (rfl) ?_
      refine lv_if_eq (tgt := 23) hx hb dX9_isMake_16 (by decide) (fun c_3 => ?_) (fun c_3 => ?_)
      · refine lv_iconst (v := 0) hx hb dX9_isMake_23 (by decide) ?_
        have hP9 := hP.sub (ws' := [(h0, .inr (11, mo g)), (a0, .inl (cZ, 8, .inl tl))]) [0, 1] rfl
        have hD9 := hD.sub (ws' := [(h0, .inr (11, mo g)), (a0, .inl (cZ, 8, .inl tl))]) [0, 1] (by decide) rfl
        have hK9 := hK.sub (tys' := []) [] rfl
        exact W.zret (v := 0) hx hb hr rfl (fun t ht hW => ⟨⟨0, (), rfl, Or.inr ⟨fun h => h.2 c_3, rfl⟩, by rw [ht]; exact hP9, va_K.moved hW.alike hK9, hD9⟩, hS.F ht⟩) hS.2.2 dX9_isMake_24
      · refine lv_iconst (v := 1) hx hb dX9_isMake_19 (by decide) ?_
        refine lv_goto (tgt := 24) hx hb dX9_isMake_20 (by decide) ?_
        have hP9 := hP.sub (ws' := [(h0, .inr (11, mo g)), (a0, .inl (cZ, 8, .inl tl))]) [0, 1] rfl
        have hD9 := hD.sub (ws' := [(h0, .inr (11, mo g)), (a0, .inl (cZ, 8, .inl tl))]) [0, 1] (by decide) rfl
        have hK9 := hK.sub (tys' := []) [] rfl
        exact W.zret (v := 1) hx hb hr rfl (fun t ht hW => ⟨⟨1, (), rfl, Or.inl ⟨⟨⟨c_1, c_2⟩, c_3⟩, rfl⟩, by rw [ht]; exact hP9, va_K.moved hW.alike hK9, hD9⟩, hS.F ht⟩) hS.2.2 dX9_isMake_24
def wp_X9_has : List Cond := .code yX9_has cX9_has 3 (some .boolean) :: ([.fieldLink RX9 36 "RecordBenchModel" "isThere" "[Z", .fieldLink RX9 13 "RecordBenchModel" "kind" "[I"] ++ wsX90)
set_option maxHeartbeats 4000000 in
set_option maxRecDepth 100000 in
theorem c_X9_has (l : Launch) (dC : Nat → ClassId) (dI : Nat → Nat → Nat) (h0 : Nat) (g : Nat → Value) (a1 : Nat) (cK : ClassId) (kd : Nat → Int32) (a8 : Nat) (c8 : ClassId) (it : Nat → Int32) (M : Nat) (fh1 : g 1 = .ref a1) (fh8 : g 8 = .ref a8) (p1 : Int32) (hM : M < 8) (sz : Nat) : Met l yX9_has wp_X9_has ({ frames := 0, cells := 0, slots := 0, locals := 0 }) (va_Pc [.ref h0, .int (nI M), .int p1] (Pr (dC, dI) [(cK, .int), (c8, .boolean)] [] [(h0, .inr (11, mo g)), (a1, .inl (cK, 248, .inl kd)), (a8, .inl (c8, 248, .inl it))] sz)) (va_Qi (fun r : Int32 => (fun _ : Unit => (hasF it kd M p1 ∧ r = 1) ∨ (¬ hasF it kd M p1 ∧ r = 0))) (Bq (dC, dI) (fun _ : Unit => [(h0, .inr (11, mo g)), (a1, .inl (cK, 248, .inl kd)), (a8, .inl (c8, 248, .inl it))]) (fun _ : Unit => []) (va_A [(h0, .inr (11, mo g)), (a1, .inl (cK, 248, .inl kd)), (a8, .inl (c8, 248, .inl it))] sz)) (va_A [(h0, .inr (11, mo g)), (a1, .inl (cK, 248, .inl kd)), (a8, .inl (c8, 248, .inl it))] sz)) 0 0 (va_A [(h0, .inr (11, mo g)), (a1, .inl (cK, 248, .inl kd)), (a8, .inl (c8, 248, .inl it))] sz) := by
  refine Met.ofW (cc := cX9_has) (maxL := 3) (ret := (some .boolean)) (by decide) rfl ?_
  intro p e s m args below meth c s₁ B hml hv
  obtain ⟨rfl, hsz, hP, hK, hD0, hN, hZ, hR⟩ := hv
  have hx := B.exec
  have hb := B.bytes
  have hr := B.returns
  have hts := atoms_spec (ws := wp_X9_has) B.pre
  have hown : s.vm.findClass RX9 = some m.cls := findClass_of_methodNamed B.named
  have hlocks := B.notSynchronized
  have iRX9 : ∀ w ∈ u_ws RX9 TX9 60, w ∈ wp_X9_has := by decide +kernel
  subst hsz
  have hD := hD0.self (sz := s.heap.size)
  generalize hAe : va_A [(h0, .inr (11, mo g)), (a1, .inl (cK, 248, .inl kd)), (a8, .inl (c8, 248, .inl it))] s.heap.size = A at hD hZ hR ⊢
  have hA : ∀ q : Nat, s.heap.size ≤ q → A q := fun q h => by rw [← hAe]; exact Or.inr h
  have hS : va_S A s.heap s.heap [] := va_S.rf
  have hP : va_P (dC, dI) vwCl [(h0, .inr (11, mo g)), (a1, .inl (cK, 248, .inl kd)), (a8, .inl (c8, 248, .inl it))] s.heap := hP
  have hl := lv_entry ([.ref h0, .int (nI M), .int p1]) (n := 3) (Nat.le_of_ble_eq_true rfl)
  rw [lg_entry_eq]
  generalize (lg_sl ([.ref h0, .int (nI M), .int p1]) ++ List.replicate (3 - (lg_sl ([.ref h0, .int (nI M), .int p1])).length) Slot.unset).toArray = ls at hl ⊢
  have hl : lv_has ls 3 [(0, .ref h0), (1, .int (nI M)), (2, .int p1)] := hl
  refine lv_iload_n hx hb dX9_has_0 rfl (lv_at hl 2 rfl) ?_
  refine lv_if_le (tgt := 42) hx hb dX9_has_1 (by decide) (fun c_1 => ?_) (fun c_1 => ?_)
  · refine lv_iconst (v := 0) hx hb dX9_has_42 (by decide) ?_
    have hP9 := hP.sub (ws' := [(h0, .inr (11, mo g)), (a1, .inl (cK, 248, .inl kd)), (a8, .inl (c8, 248, .inl it))]) [0, 1, 2] rfl
    have hD9 := hD.sub (ws' := [(h0, .inr (11, mo g)), (a1, .inl (cK, 248, .inl kd)), (a8, .inl (c8, 248, .inl it))]) [0, 1, 2] (by decide) rfl
    have hK9 := hK.sub (tys' := []) [] rfl
    exact W.zret (v := 0) hx hb hr rfl (fun t ht hW => ⟨⟨0, (), rfl, Or.inr ⟨fun h => h.1.1 c_1, rfl⟩, by rw [ht]; exact hP9, va_K.moved hW.alike hK9, hD9⟩, hS.F ht⟩) hS.2.2 dX9_has_43
  · refine lv_iload_n hx hb dX9_has_4 rfl (lv_at hl 2 rfl) ?_
    refine lv_bipush (v := 31) hx hb dX9_has_5 (by decide) ?_
    refine lv_icmp_ge (tgt := 42) hx hb dX9_has_7 (by decide) (fun c_2 => ?_) (fun c_2 => ?_)
    · refine lv_iconst (v := 0) hx hb dX9_has_42 (by decide) ?_
      have hP9 := hP.sub (ws' := [(h0, .inr (11, mo g)), (a1, .inl (cK, 248, .inl kd)), (a8, .inl (c8, 248, .inl it))]) [0, 1, 2] rfl
      have hD9 := hD.sub (ws' := [(h0, .inr (11, mo g)), (a1, .inl (cK, 248, .inl kd)), (a8, .inl (c8, 248, .inl it))]) [0, 1, 2] (by decide) rfl
      have hK9 := hK.sub (tys' := []) [] rfl
      exact W.zret (v := 0) hx hb hr rfl (fun t ht hW => ⟨⟨0, (), rfl, Or.inr ⟨fun h => h.1.2 c_2, rfl⟩, by rw [ht]; exact hP9, va_K.moved hW.alike hK9, hD9⟩, hS.F ht⟩) hS.2.2 dX9_has_43
    · refine lv_aload_n hx hb dX9_has_10 rfl (lv_at hl 0 rfl) ?_
      refine va_get (D := (dC, dI)) (ci := 11) (v := .ref a8) (C := RX9) (T := TX9) (N := 60) hx hb hts iRX9 hown hK hP 0 rfl rfl 8 (by decide) (hts (.fieldLink RX9 36 "RecordBenchModel" "isThere" "[Z") (by decide +kernel)) (fun _ h9 => h9) ((mo_get g (by decide)).trans (congrArg some fh8)) dX9_has_11 ?_
      refine lv_bipush (v := 31) hx hb dX9_has_14 (by decide) ?_
      refine lv_iload_n hx hb dX9_has_16 rfl (lv_at hl 1 rfl) ?_
      refine lv_imul hx hb dX9_has_17 ?_
      refine lv_iload_n hx hb dX9_has_18 rfl (lv_at hl 2 rfl) ?_
      refine lv_iadd hx hb dX9_has_19 ?_
      refine va_zald hx hb hK hP 2 1 rfl rfl (ix_in hM c_1 c_2) dX9_has_20 ?_
      refine W_toi (y := it (31 * M + p1.toNatClampNeg)) (by rw [ix_cl hM c_1 c_2]) ?_
      refine lv_if_eq (tgt := 42) hx hb dX9_has_21 (by decide) (fun c_3 => ?_) (fun c_3 => ?_)
      · refine lv_iconst (v := 0) hx hb dX9_has_42 (by decide) ?_
        have hP9 := hP.sub (ws' := [(h0, .inr (11, mo g)), (a1, .inl (cK, 248, .inl kd)), (a8, .inl (c8, 248, .inl it))]) [0, 1, 2] rfl
        have hD9 := hD.sub (ws' := [(h0, .inr (11, mo g)), (a1, .inl (cK, 248, .inl kd)), (a8, .inl (c8, 248, .inl it))]) [0, 1, 2] (by decide) rfl
        have hK9 := hK.sub (tys' := []) [] rfl
        exact W.zret (v := 0) hx hb hr rfl (fun t ht hW => ⟨⟨0, (), rfl, Or.inr ⟨fun h => h.2.1 c_3, rfl⟩, by rw [ht]; exact hP9, va_K.moved hW.alike hK9, hD9⟩, hS.F ht⟩) hS.2.2 dX9_has_43
      · refine lv_aload_n hx hb dX9_has_24 rfl (lv_at hl 0 rfl) ?_
        refine va_get (D := (dC, dI)) (ci := 11) (v := .ref a1) (C := RX9) (T := TX9) (N := 60) hx hb hts iRX9 hown hK hP 0 rfl rfl 1 (by decide) (hts (.fieldLink RX9 13 "RecordBenchModel" "kind" "[I") (by decide +kernel)) (fun _ h9 => h9) ((mo_get g (by decide)).trans (congrArg some fh1)) dX9_has_25 ?_
        refine lv_bipush (v := 31) hx hb dX9_has_28 (by decide) ?_
        refine lv_iload_n hx hb dX9_has_30 rfl (lv_at hl 1 rfl) ?_
        refine lv_imul hx hb dX9_has_31 ?_
        refine lv_iload_n hx hb dX9_has_32 rfl (lv_at hl 2 rfl) ?_
        refine lv_iadd hx hb dX9_has_33 ?_
        refine va_iald hx hb hK hP 1 0 rfl rfl (ix_in hM c_1 c_2) dX9_has_34 ?_
        refine W_toi (y := kd (31 * M + p1.toNatClampNeg)) (by rw [ix_cl hM c_1 c_2]) ?_
        refine lv_if_eq (tgt := 42) hx hb dX9_has_35 (by decide) (fun c_4 => ?_) (fun c_4 => ?_)
        · refine lv_iconst (v := 0) hx hb dX9_has_42 (by decide) ?_
          have hP9 := hP.sub (ws' := [(h0, .inr (11, mo g)), (a1, .inl (cK, 248, .inl kd)), (a8, .inl (c8, 248, .inl it))]) [0, 1, 2] rfl
          have hD9 := hD.sub (ws' := [(h0, .inr (11, mo g)), (a1, .inl (cK, 248, .inl kd)), (a8, .inl (c8, 248, .inl it))]) [0, 1, 2] (by decide) rfl
          have hK9 := hK.sub (tys' := []) [] rfl
          exact W.zret (v := 0) hx hb hr rfl (fun t ht hW => ⟨⟨0, (), rfl, Or.inr ⟨fun h => h.2.2 c_4, rfl⟩, by rw [ht]; exact hP9, va_K.moved hW.alike hK9, hD9⟩, hS.F ht⟩) hS.2.2 dX9_has_43
        · refine lv_iconst (v := 1) hx hb dX9_has_38 (by decide) ?_
          refine lv_goto (tgt := 43) hx hb dX9_has_39 (by decide) ?_
          have hP9 := hP.sub (ws' := [(h0, .inr (11, mo g)), (a1, .inl (cK, 248, .inl kd)), (a8, .inl (c8, 248, .inl it))]) [0, 1, 2] rfl
          have hD9 := hD.sub (ws' := [(h0, .inr (11, mo g)), (a1, .inl (cK, 248, .inl kd)), (a8, .inl (c8, 248, .inl it))]) [0, 1, 2] (by decide) rfl
          have hK9 := hK.sub (tys' := []) [] rfl
          exact W.zret (v := 1) hx hb hr rfl (fun t ht hW => ⟨⟨1, (), rfl, Or.inl ⟨⟨⟨c_1, c_2⟩, c_3, c_4⟩, rfl⟩, by rw [ht]; exact hP9, va_K.moved hW.alike hK9, hD9⟩, hS.F ht⟩) hS.2.2 dX9_has_43
