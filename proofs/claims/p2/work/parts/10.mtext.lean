theorem dX9_fail_0 : decode cX9_fail 0 = .ok (.aload_n 0, 1) := by decide +kernel
theorem dX9_fail_1 : decode cX9_fail 1 = .ok (.getfield 135, 3) := by decide +kernel
theorem dX9_fail_10 : decode cX9_fail 10 = .ok (.putfield 135, 3) := by decide +kernel
theorem dX9_fail_13 : decode cX9_fail 13 = .ok (.aload_n 0, 1) := by decide +kernel
theorem dX9_fail_14 : decode cX9_fail 14 = .ok (.iload_n 2, 1) := by decide +kernel
theorem dX9_fail_15 : decode cX9_fail 15 = .ok (.putfield 138, 3) := by decide +kernel
theorem dX9_fail_18 : decode cX9_fail 18 = .ok (.return_, 1) := by decide +kernel
theorem dX9_fail_4 : decode cX9_fail 4 = .ok (.ifCond .eq 4, 3) := by decide +kernel
theorem dX9_fail_7 : decode cX9_fail 7 = .ok (.return_, 1) := by decide +kernel
theorem dX9_fail_8 : decode cX9_fail 8 = .ok (.aload_n 0, 1) := by decide +kernel
theorem dX9_fail_9 : decode cX9_fail 9 = .ok (.iload_n 1, 1) := by decide +kernel
theorem dX9_isDigit_0 : decode cX9_isDigit 0 = .ok (.iload_n 0, 1) := by decide +kernel
theorem dX9_isDigit_1 : decode cX9_isDigit 1 = .ok (.bipush 48, 2) := by decide +kernel
theorem dX9_isDigit_12 : decode cX9_isDigit 12 = .ok (.iconst 1, 1) := by decide +kernel
theorem dX9_isDigit_13 : decode cX9_isDigit 13 = .ok (.goto 4, 3) := by decide +kernel
theorem dX9_isDigit_16 : decode cX9_isDigit 16 = .ok (.iconst 0, 1) := by decide +kernel
theorem dX9_isDigit_17 : decode cX9_isDigit 17 = .ok (.ireturn, 1) := by decide +kernel
theorem dX9_isDigit_3 : decode cX9_isDigit 3 = .ok (.if_icmp .lt 13, 3) := by decide +kernel
theorem dX9_isDigit_6 : decode cX9_isDigit 6 = .ok (.iload_n 0, 1) := by decide +kernel
theorem dX9_isDigit_7 : decode cX9_isDigit 7 = .ok (.bipush 57, 2) := by decide +kernel
theorem dX9_isDigit_9 : decode cX9_isDigit 9 = .ok (.if_icmp .gt 7, 3) := by decide +kernel
theorem dX9_isLetter_0 : decode cX9_isLetter 0 = .ok (.iload_n 0, 1) := by decide +kernel
theorem dX9_isLetter_1 : decode cX9_isLetter 1 = .ok (.bipush 97, 2) := by decide +kernel
theorem dX9_isLetter_12 : decode cX9_isLetter 12 = .ok (.iconst 1, 1) := by decide +kernel
theorem dX9_isLetter_13 : decode cX9_isLetter 13 = .ok (.goto 4, 3) := by decide +kernel
theorem dX9_isLetter_16 : decode cX9_isLetter 16 = .ok (.iconst 0, 1) := by decide +kernel
theorem dX9_isLetter_17 : decode cX9_isLetter 17 = .ok (.ireturn, 1) := by decide +kernel
theorem dX9_isLetter_3 : decode cX9_isLetter 3 = .ok (.if_icmp .lt 13, 3) := by decide +kernel
theorem dX9_isLetter_6 : decode cX9_isLetter 6 = .ok (.iload_n 0, 1) := by decide +kernel
theorem dX9_isLetter_7 : decode cX9_isLetter 7 = .ok (.bipush 122, 2) := by decide +kernel
theorem dX9_isLetter_9 : decode cX9_isLetter 9 = .ok (.if_icmp .gt 7, 3) := by decide +kernel
theorem dX9_next_0 : decode cX9_next 0 = .ok (.aload_n 0, 1) := by decide +kernel
theorem dX9_next_1 : decode cX9_next 1 = .ok (.getfield 141, 3) := by decide +kernel
theorem dX9_next_11 : decode cX9_next 11 = .ok (.aload_n 0, 1) := by decide +kernel
theorem dX9_next_12 : decode cX9_next 12 = .ok (.getfield 39, 3) := by decide +kernel
theorem dX9_next_15 : decode cX9_next 15 = .ok (.aload_n 0, 1) := by decide +kernel
theorem dX9_next_16 : decode cX9_next 16 = .ok (.getfield 141, 3) := by decide +kernel
theorem dX9_next_19 : decode cX9_next 19 = .ok (.iaload, 1) := by decide +kernel
theorem dX9_next_20 : decode cX9_next 20 = .ok (.bipush 10, 2) := by decide +kernel
theorem dX9_next_22 : decode cX9_next 22 = .ok (.if_icmp .eq 17, 3) := by decide +kernel
theorem dX9_next_25 : decode cX9_next 25 = .ok (.aload_n 0, 1) := by decide +kernel
theorem dX9_next_26 : decode cX9_next 26 = .ok (.getfield 39, 3) := by decide +kernel
theorem dX9_next_29 : decode cX9_next 29 = .ok (.aload_n 0, 1) := by decide +kernel
theorem dX9_next_30 : decode cX9_next 30 = .ok (.getfield 141, 3) := by decide +kernel
theorem dX9_next_33 : decode cX9_next 33 = .ok (.iaload, 1) := by decide +kernel
theorem dX9_next_34 : decode cX9_next 34 = .ok (.bipush 32, 2) := by decide +kernel
theorem dX9_next_36 : decode cX9_next 36 = .ok (.if_icmp .ne 16, 3) := by decide +kernel
theorem dX9_next_39 : decode cX9_next 39 = .ok (.aload_n 0, 1) := by decide +kernel
theorem dX9_next_4 : decode cX9_next 4 = .ok (.aload_n 0, 1) := by decide +kernel
theorem dX9_next_40 : decode cX9_next 40 = .ok (.dup, 1) := by decide +kernel
theorem dX9_next_41 : decode cX9_next 41 = .ok (.getfield 141, 3) := by decide +kernel
theorem dX9_next_44 : decode cX9_next 44 = .ok (.iconst 1, 1) := by decide +kernel
theorem dX9_next_45 : decode cX9_next 45 = .ok (.iadd, 1) := by decide +kernel
theorem dX9_next_46 : decode cX9_next 46 = .ok (.putfield 141, 3) := by decide +kernel
theorem dX9_next_49 : decode cX9_next 49 = .ok (.goto (-49), 3) := by decide +kernel
theorem dX9_next_5 : decode cX9_next 5 = .ok (.getfield 144, 3) := by decide +kernel
theorem dX9_next_52 : decode cX9_next 52 = .ok (.aload_n 0, 1) := by decide +kernel
theorem dX9_next_53 : decode cX9_next 53 = .ok (.aload_n 0, 1) := by decide +kernel
theorem dX9_next_54 : decode cX9_next 54 = .ok (.getfield 141, 3) := by decide +kernel
theorem dX9_next_57 : decode cX9_next 57 = .ok (.putfield 147, 3) := by decide +kernel
theorem dX9_next_60 : decode cX9_next 60 = .ok (.aload_n 0, 1) := by decide +kernel
theorem dX9_next_61 : decode cX9_next 61 = .ok (.getfield 141, 3) := by decide +kernel
theorem dX9_next_64 : decode cX9_next 64 = .ok (.aload_n 0, 1) := by decide +kernel
theorem dX9_next_65 : decode cX9_next 65 = .ok (.getfield 144, 3) := by decide +kernel
theorem dX9_next_68 : decode cX9_next 68 = .ok (.if_icmp .ge 15, 3) := by decide +kernel
theorem dX9_next_71 : decode cX9_next 71 = .ok (.aload_n 0, 1) := by decide +kernel
theorem dX9_next_72 : decode cX9_next 72 = .ok (.getfield 39, 3) := by decide +kernel
theorem dX9_next_75 : decode cX9_next 75 = .ok (.aload_n 0, 1) := by decide +kernel
theorem dX9_next_76 : decode cX9_next 76 = .ok (.getfield 141, 3) := by decide +kernel
theorem dX9_next_79 : decode cX9_next 79 = .ok (.iaload, 1) := by decide +kernel
theorem dX9_next_8 : decode cX9_next 8 = .ok (.if_icmp .ge 44, 3) := by decide +kernel
theorem dX9_next_80 : decode cX9_next 80 = .ok (.goto 4, 3) := by decide +kernel
theorem dX9_next_83 : decode cX9_next 83 = .ok (.iconst (-1), 1) := by decide +kernel
theorem dX9_next_84 : decode cX9_next 84 = .ok (.ireturn, 1) := by decide +kernel
def wp_X9_isLetter : List Cond := .code yX9_isLetter cX9_isLetter 1 (some .boolean) :: ([])
set_option maxHeartbeats 4000000 in
set_option maxRecDepth 100000 in
theorem c_X9_isLetter (l : Launch) (dC : Nat → ClassId) (dI : Nat → Nat → Nat) (p0 : Int32) (sz : Nat) : Met l yX9_isLetter wp_X9_isLetter ({ frames := 0, cells := 0, slots := 0, locals := 0 }) (va_Pc [.int p0] (Pr (dC, dI) [] [] [] sz)) (va_Qi (fun r : Int32 => (fun _ : Unit => (isL p0 ∧ r = 1) ∨ (¬ isL p0 ∧ r = 0))) (Bq (dC, dI) (fun _ : Unit => []) (fun _ : Unit => []) (va_A [] sz)) (va_A [] sz)) 0 0 (va_A [] sz) := by
  refine Met.ofW (cc := cX9_isLetter) (maxL := 1) (ret := (some .boolean)) (by decide) rfl ?_
  intro p e s m args below meth c s₁ B hml hv
  obtain ⟨rfl, hsz, hP, hK, hD0, hN, hZ, hR⟩ := hv
  have hx := B.exec
  have hb := B.bytes
  have hr := B.returns
  have hts := atoms_spec (ws := wp_X9_isLetter) B.pre
  have hown : s.vm.findClass RX9 = some m.cls := findClass_of_methodNamed B.named
  have hlocks := B.notSynchronized
  subst hsz
  have hD := hD0.self (sz := s.heap.size)
  generalize hAe : va_A [] s.heap.size = A at hD hZ hR ⊢
  have hA : ∀ q : Nat, s.heap.size ≤ q → A q := fun q h => by rw [← hAe]; exact Or.inr h
  have hS : va_S A s.heap s.heap [] := va_S.rf
  have hP : va_P (dC, dI) vwCl [] s.heap := hP
  have hl := lv_entry ([.int p0]) (n := 1) (Nat.le_of_ble_eq_true rfl)
  rw [lg_entry_eq]
  generalize (lg_sl ([.int p0]) ++ List.replicate (1 - (lg_sl ([.int p0])).length) Slot.unset).toArray = ls at hl ⊢
  have hl : lv_has ls 1 [(0, .int p0)] := hl
  refine lv_iload_n hx hb dX9_isLetter_0 rfl (lv_at hl 0 rfl) ?_
  refine lv_bipush (v := 97) hx hb dX9_isLetter_1 (by decide) ?_
  refine lv_icmp_lt (tgt := 16) hx hb dX9_isLetter_3 (by decide) (fun c_1 => ?_) (fun c_1 => ?_)
  · refine lv_iconst (v := 0) hx hb dX9_isLetter_16 (by decide) ?_
    have hP9 := hP.sub (ws' := []) [] rfl
    have hD9 := hD.sub (ws' := []) [] (by decide) rfl
    have hK9 := hK.sub (tys' := []) [] rfl
    exact W.zret (v := 0) hx hb hr rfl (fun t ht hW => ⟨⟨0, (), rfl, Or.inr ⟨fun h => h.1 c_1, rfl⟩, by rw [ht]; exact hP9, va_K.moved hW.alike hK9, hD9⟩, hS.F ht⟩) hS.2.2 dX9_isLetter_17
  · refine lv_iload_n hx hb dX9_isLetter_6 rfl (lv_at hl 0 rfl) ?_
    refine lv_bipush (v := 122) hx hb dX9_isLetter_7 (by decide) ?_
    refine lv_icmp_gt (tgt := 16) hx hb dX9_isLetter_9 (by decide) (fun c_2 => ?_) (fun c_2 => ?_)
    · refine lv_iconst (v := 0) hx hb dX9_isLetter_16 (by decide) ?_
      have hP9 := hP.sub (ws' := []) [] rfl
      have hD9 := hD.sub (ws' := []) [] (by decide) rfl
      have hK9 := hK.sub (tys' := []) [] rfl
      exact W.zret (v := 0) hx hb hr rfl (fun t ht hW => ⟨⟨0, (), rfl, Or.inr ⟨fun h => h.2 c_2, rfl⟩, by rw [ht]; exact hP9, va_K.moved hW.alike hK9, hD9⟩, hS.F ht⟩) hS.2.2 dX9_isLetter_17
    · refine lv_iconst (v := 1) hx hb dX9_isLetter_12 (by decide) ?_
      refine lv_goto (tgt := 17) hx hb dX9_isLetter_13 (by decide) ?_
      have hP9 := hP.sub (ws' := []) [] rfl
      have hD9 := hD.sub (ws' := []) [] (by decide) rfl
      have hK9 := hK.sub (tys' := []) [] rfl
      exact W.zret (v := 1) hx hb hr rfl (fun t ht hW => ⟨⟨1, (), rfl, Or.inl ⟨⟨c_1, c_2⟩, rfl⟩, by rw [ht]; exact hP9, va_K.moved hW.alike hK9, hD9⟩, hS.F ht⟩) hS.2.2 dX9_isLetter_17
def wp_X9_isDigit : List Cond := .code yX9_isDigit cX9_isDigit 1 (some .boolean) :: ([])
set_option maxHeartbeats 4000000 in
set_option maxRecDepth 100000 in
theorem c_X9_isDigit (l : Launch) (dC : Nat → ClassId) (dI : Nat → Nat → Nat) (p0 : Int32) (sz : Nat) : Met l yX9_isDigit wp_X9_isDigit ({ frames := 0, cells := 0, slots := 0, locals := 0 }) (va_Pc [.int p0] (Pr (dC, dI) [] [] [] sz)) (va_Qi (fun r : Int32 => (fun _ : Unit => (isD p0 ∧ r = 1) ∨ (¬ isD p0 ∧ r = 0))) (Bq (dC, dI) (fun _ : Unit => []) (fun _ : Unit => []) (va_A [] sz)) (va_A [] sz)) 0 0 (va_A [] sz) := by
  refine Met.ofW (cc := cX9_isDigit) (maxL := 1) (ret := (some .boolean)) (by decide) rfl ?_
  intro p e s m args below meth c s₁ B hml hv
  obtain ⟨rfl, hsz, hP, hK, hD0, hN, hZ, hR⟩ := hv
  have hx := B.exec
  have hb := B.bytes
  have hr := B.returns
  have hts := atoms_spec (ws := wp_X9_isDigit) B.pre
  have hown : s.vm.findClass RX9 = some m.cls := findClass_of_methodNamed B.named
  have hlocks := B.notSynchronized
  subst hsz
  have hD := hD0.self (sz := s.heap.size)
  generalize hAe : va_A [] s.heap.size = A at hD hZ hR ⊢
  have hA : ∀ q : Nat, s.heap.size ≤ q → A q := fun q h => by rw [← hAe]; exact Or.inr h
  have hS : va_S A s.heap s.heap [] := va_S.rf
  have hP : va_P (dC, dI) vwCl [] s.heap := hP
  have hl := lv_entry ([.int p0]) (n := 1) (Nat.le_of_ble_eq_true rfl)
  rw [lg_entry_eq]
  generalize (lg_sl ([.int p0]) ++ List.replicate (1 - (lg_sl ([.int p0])).length) Slot.unset).toArray = ls at hl ⊢
  have hl : lv_has ls 1 [(0, .int p0)] := hl
  refine lv_iload_n hx hb dX9_isDigit_0 rfl (lv_at hl 0 rfl) ?_
  refine lv_bipush (v := 48) hx hb dX9_isDigit_1 (by decide) ?_
  refine lv_icmp_lt (tgt := 16) hx hb dX9_isDigit_3 (by decide) (fun c_1 => ?_) (fun c_1 => ?_)
  · refine lv_iconst (v := 0) hx hb dX9_isDigit_16 (by decide) ?_
    have hP9 := hP.sub (ws' := []) [] rfl
    have hD9 := hD.sub (ws' := []) [] (by decide) rfl
    have hK9 := hK.sub (tys' := []) [] rfl
    exact W.zret (v := 0) hx hb hr rfl (fun t ht hW => ⟨⟨0, (), rfl, Or.inr ⟨fun h => h.1 c_1, rfl⟩, by rw [ht]; exact hP9, va_K.moved hW.alike hK9, hD9⟩, hS.F ht⟩) hS.2.2 dX9_isDigit_17
  · refine lv_iload_n hx hb dX9_isDigit_6 rfl (lv_at hl 0 rfl) ?_
    refine lv_bipush (v := 57) hx hb dX9_isDigit_7 (by decide) ?_
    refine lv_icmp_gt (tgt := 16) hx hb dX9_isDigit_9 (by decide) (fun c_2 => ?_) (fun c_2 => ?_)
    · refine lv_iconst (v := 0) hx hb dX9_isDigit_16 (by decide) ?_
      have hP9 := hP.sub (ws' := []) [] rfl
      have hD9 := hD.sub (ws' := []) [] (by decide) rfl
      have hK9 := hK.sub (tys' := []) [] rfl
      exact W.zret (v := 0) hx hb hr rfl (fun t ht hW => ⟨⟨0, (), rfl, Or.inr ⟨fun h => h.2 c_2, rfl⟩, by rw [ht]; exact hP9, va_K.moved hW.alike hK9, hD9⟩, hS.F ht⟩) hS.2.2 dX9_isDigit_17
    · refine lv_iconst (v := 1) hx hb dX9_isDigit_12 (by decide) ?_
      refine lv_goto (tgt := 17) hx hb dX9_isDigit_13 (by decide) ?_
      have hP9 := hP.sub (ws' := []) [] rfl
      have hD9 := hD.sub (ws' := []) [] (by decide) rfl
      have hK9 := hK.sub (tys' := []) [] rfl
      exact W.zret (v := 1) hx hb hr rfl (fun t ht hW => ⟨⟨1, (), rfl, Or.inl ⟨⟨c_1, c_2⟩, rfl⟩, by rw [ht]; exact hP9, va_K.moved hW.alike hK9, hD9⟩, hS.F ht⟩) hS.2.2 dX9_isDigit_17
def wp_X9_fail : List Cond := .code yX9_fail cX9_fail 3 none :: ([.fieldLink RX9 135 "RecordBenchModel" "bad" "I", .fieldLink RX9 138 "RecordBenchModel" "badPlace" "I"] ++ wsX90)
set_option maxHeartbeats 4000000 in
set_option maxRecDepth 100000 in
theorem c_X9_fail (l : Launch) (dC : Nat → ClassId) (dI : Nat → Nat → Nat) (h0 : Nat) (g : Nat → Value) (b0 : Int32) (v14 : Value) (fh13 : g 13 = .int b0) (fh14 : g 14 = v14) (p0 : Int32) (p1 : Int32) (hp : p0 ≠ 0) (sz : Nat) : Met l yX9_fail wp_X9_fail ({ frames := 0, cells := 0, slots := 0, locals := 0 }) (va_Pc [.ref h0, .int p0, .int p1] (Pr (dC, dI) [] [] [(h0, .inr (11, mo g))] sz)) (va_Qv (fun (u : (Nat → Value) × Int32) => match u with | (g1, b1) => (b1 ≠ 0) ∧ (g1 13 = .int b1) ∧ (∀ j : Nat, j ≠ 13 → j ≠ 14 → g1 j = g j)) (Bq (dC, dI) (fun (u : (Nat → Value) × Int32) => match u with | (g1, b1) => [(h0, .inr (11, mo g1))]) (fun (u : (Nat → Value) × Int32) => match u with | (g1, b1) => []) (va_A [(h0, .inr (11, mo g))] sz)) (va_A [(h0, .inr (11, mo g))] sz)) 0 0 (va_A [(h0, .inr (11, mo g))] sz) := by
  refine Met.ofW (cc := cX9_fail) (maxL := 3) (ret := none) (by decide) rfl ?_
  intro p e s m args below meth c s₁ B hml hv
  obtain ⟨rfl, hsz, hP, hK, hD0, hN, hZ, hR⟩ := hv
  have hx := B.exec
  have hb := B.bytes
  have hr := B.returns
  have hts := atoms_spec (ws := wp_X9_fail) B.pre
  have hown : s.vm.findClass RX9 = some m.cls := findClass_of_methodNamed B.named
  have hlocks := B.notSynchronized
  have iRX9 : ∀ w ∈ u_ws RX9 TX9 60, w ∈ wp_X9_fail := by decide +kernel
  subst hsz
  have hD := hD0.self (sz := s.heap.size)
  generalize hAe : va_A [(h0, .inr (11, mo g))] s.heap.size = A at hD hZ hR ⊢
  have hA : ∀ q : Nat, s.heap.size ≤ q → A q := fun q h => by rw [← hAe]; exact Or.inr h
  have hS : va_S A s.heap s.heap [] := va_S.rf
  have hP : va_P (dC, dI) vwCl [(h0, .inr (11, mo g))] s.heap := hP
  have hl := lv_entry ([.ref h0, .int p0, .int p1]) (n := 3) (Nat.le_of_ble_eq_true rfl)
  rw [lg_entry_eq]
  generalize (lg_sl ([.ref h0, .int p0, .int p1]) ++ List.replicate (3 - (lg_sl ([.ref h0, .int p0, .int p1])).length) Slot.unset).toArray = ls at hl ⊢
  have hl : lv_has ls 3 [(0, .ref h0), (1, .int p0), (2, .int p1)] := hl
  refine lv_aload_n hx hb dX9_fail_0 rfl (lv_at hl 0 rfl) ?_
  refine va_get (D := (dC, dI)) (ci := 11) (v := .int b0) (C := RX9) (T := TX9) (N := 60) hx hb hts iRX9 hown hK hP 0 rfl rfl 13 (by decide) (hts (.fieldLink RX9 135 "RecordBenchModel" "bad" "I") (by decide +kernel)) (fun _ h9 => h9) ((mo_get g (by decide)).trans (congrArg some fh13)) dX9_fail_1 ?_
  refine lv_if_eq (tgt := 8) hx hb dX9_fail_4 (by decide) (fun c_1 => ?_) (fun c_1 => ?_)
  · refine lv_aload_n hx hb dX9_fail_8 rfl (lv_at hl 0 rfl) ?_
    refine lv_iload_n hx hb dX9_fail_9 rfl (lv_at hl 1 rfl) ?_
    refine va_put (D := (dC, dI)) (ci := 11) (v := .int p0) (ty := .int) (C := RX9) (T := TX9) (N := 60) hx hb hts iRX9 tyX9 tyX9_ok nmX9 hown hK hP hD hS 0 rfl rfl 13 (by decide) (hts (.fieldLink RX9 135 "RecordBenchModel" "bad" "I") (by decide +kernel)) (fun _ h9 => h9) rfl (by decide +kernel) rfl rfl (by rw [mo_len]; decide) dX9_fail_10 (fun H locs hP hD hS => ?_)
    obtain ⟨g_2, eg_2⟩ : ∃ y, y = va_up g 13 (.int p0) := ⟨_, rfl⟩
    have hP : va_P (dC, dI) vwCl [(h0, .inr (11, mo g_2))] H := by rw [eg_2, ← mo_set g (by decide)]; exact hP
    have hD : va_D A [(h0, .inr (11, mo g_2))] := by rw [eg_2, ← mo_set g (by decide)]; exact hD
    have g_2h14 : g_2 14 = v14 := by rw [eg_2, va_up_ne _ _ (by decide)]; exact fh14
    have g_2h13 : g_2 13 = .int p0 := by rw [eg_2, va_up_self]
    have ung_2 : ∀ j : Nat, j ≠ 13 → g_2 j = g j := fun j h13 => by rw [eg_2, va_up_ne _ _ h13]
    refine lv_aload_n hx hb dX9_fail_13 rfl (lv_at hl 0 rfl) ?_
    refine lv_iload_n hx hb dX9_fail_14 rfl (lv_at hl 2 rfl) ?_
    refine va_put (D := (dC, dI)) (ci := 11) (v := .int p1) (ty := .int) (C := RX9) (T := TX9) (N := 60) hx hb hts iRX9 tyX9 tyX9_ok nmX9 hown hK hP hD hS 0 rfl rfl 14 (by decide) (hts (.fieldLink RX9 138 "RecordBenchModel" "badPlace" "I") (by decide +kernel)) (fun _ h9 => h9) rfl (by decide +kernel) rfl rfl (by rw [mo_len]; decide) dX9_fail_15 (fun H locs hP hD hS => ?_)
    obtain ⟨g_3, eg_3⟩ : ∃ y, y = va_up g_2 14 (.int p1) := ⟨_, rfl⟩
    have hP : va_P (dC, dI) vwCl [(h0, .inr (11, mo g_3))] H := by rw [eg_3, ← mo_set g_2 (by decide)]; exact hP
    have hD : va_D A [(h0, .inr (11, mo g_3))] := by rw [eg_3, ← mo_set g_2 (by decide)]; exact hD
    have g_3h13 : g_3 13 = .int p0 := by rw [eg_3, va_up_ne _ _ (by decide)]; exact g_2h13
    have g_3h14 : g_3 14 = .int p1 := by rw [eg_3, va_up_self]
    have ung_3 : ∀ j : Nat, j ≠ 13 → j ≠ 14 → g_3 j = g j := fun j h13 h14 => by rw [eg_3, va_up_ne _ _ h14]; exact ung_2 j h13
    have hP9 := hP.sub (ws' := [(h0, .inr (11, mo g_3))]) [0] rfl
    have hD9 := hD.sub (ws' := [(h0, .inr (11, mo g_3))]) [0] (by decide) rfl
    have hK9 := hK.sub (tys' := []) [] rfl
    exact W.vret hx hb hr (fun t ht hW => ⟨⟨(g_3, p0), rfl, ⟨hp, g_3h13, (fun j h13 h14 => ung_3 j h13 h14)⟩, by rw [ht]; exact hP9, va_K.moved hW.alike hK9, hD9⟩, hS.F ht⟩) hS.2.2 dX9_fail_18
  · have hP9 := hP.sub (ws' := [(h0, .inr (11, mo g))]) [0] rfl
    have hD9 := hD.sub (ws' := [(h0, .inr (11, mo g))]) [0] (by decide) rfl
    have hK9 := hK.sub (tys' := []) [] rfl
    exact W.vret hx hb hr (fun t ht hW => ⟨⟨(g, b0), rfl, ⟨c_1, fh13, (fun j h13 h14 => rfl)⟩, by rw [ht]; exact hP9, va_K.moved hW.alike hK9, hD9⟩, hS.F ht⟩) hS.2.2 dX9_fail_7
def wp_X9_next : List Cond := .code yX9_next cX9_next 1 (some .int) :: ([.fieldLink RX9 141 "RecordBenchModel" "at" "I", .fieldLink RX9 144 "RecordBenchModel" "size" "I", .fieldLink RX9 147 "RecordBenchModel" "begun" "I", .fieldLink RX9 39 "RecordBenchModel" "tape" "[I"] ++ wsX90)
set_option maxHeartbeats 4000000 in
set_option maxRecDepth 100000 in
theorem c_X9_next (l : Launch) (dC : Nat → ClassId) (dI : Nat → Nat → Nat) (h0 : Nat) (g : Nat → Value) (a9 : Nat) (cT : ClassId) (f : Nat → Int32) (j : Nat) (n : Nat) (fh9 : g 9 = .ref a9) (fh11 : g 11 = .int (nI j)) (fh12 : g 12 = .int (nI n)) (hj : j ≤ n) (hn : n ≤ 400) (sz : Nat) : Met l yX9_next wp_X9_next ({ frames := 0, cells := 0, slots := 0, locals := 0 }) (va_Pc [.ref h0] (Pr (dC, dI) [(cT, .int)] [] [(h0, .inr (11, mo g)), (a9, .inl (cT, 400, .inl f))] sz)) (va_Qi (fun r : Int32 => (fun (g1 : Nat → Value) => (r = if tsk f n j < n then f (tsk f n j) else -1) ∧ (g1 11 = .int (nI (tsk f n j))) ∧ (g1 17 = .int (nI (tsk f n j))) ∧ (∀ j : Nat, j ≠ 11 → j ≠ 17 → g1 j = g j))) (Bq (dC, dI) (fun (g1 : Nat → Value) => [(h0, .inr (11, mo g1)), (a9, .inl (cT, 400, .inl f))]) (fun (g1 : Nat → Value) => []) (va_A [(h0, .inr (11, mo g)), (a9, .inl (cT, 400, .inl f))] sz)) (va_A [(h0, .inr (11, mo g)), (a9, .inl (cT, 400, .inl f))] sz)) 0 0 (va_A [(h0, .inr (11, mo g)), (a9, .inl (cT, 400, .inl f))] sz) := by
  refine Met.ofW (cc := cX9_next) (maxL := 1) (ret := (some .int)) (by decide) rfl ?_
  intro p e s m args below meth c s₁ B hml hv
  obtain ⟨rfl, hsz, hP, hK, hD0, hN, hZ, hR⟩ := hv
  have hx := B.exec
  have hb := B.bytes
  have hr := B.returns
  have hts := atoms_spec (ws := wp_X9_next) B.pre
  have hown : s.vm.findClass RX9 = some m.cls := findClass_of_methodNamed B.named
  have hlocks := B.notSynchronized
  have iRX9 : ∀ w ∈ u_ws RX9 TX9 60, w ∈ wp_X9_next := by decide +kernel
  subst hsz
  have hD := hD0.self (sz := s.heap.size)
  generalize hAe : va_A [(h0, .inr (11, mo g)), (a9, .inl (cT, 400, .inl f))] s.heap.size = A at hD hZ hR ⊢
  have hA : ∀ q : Nat, s.heap.size ≤ q → A q := fun q h => by rw [← hAe]; exact Or.inr h
  have hS : va_S A s.heap s.heap [] := va_S.rf
  have hP : va_P (dC, dI) vwCl [(h0, .inr (11, mo g)), (a9, .inl (cT, 400, .inl f))] s.heap := hP
  have hl := lv_entry ([.ref h0]) (n := 1) (Nat.le_of_ble_eq_true rfl)
  rw [lg_entry_eq]
  generalize (lg_sl ([.ref h0]) ++ List.replicate (1 - (lg_sl ([.ref h0])).length) Slot.unset).toArray = ls at hl ⊢
  have hl : lv_has ls 1 [(0, .ref h0)] := hl
  refine W_loop (σ := Nat × (Nat → Value)) (D := (dC, dI)) (A := A) [] (fun (u : Nat × (Nat → Value)) => match u with | (i, g2) => [(0, .ref h0)]) (fun (u : Nat × (Nat → Value)) => match u with | (i, g2) => [(h0, .inr (11, mo g2)), (a9, .inl (cT, 400, .inl f))]) (fun (u : Nat × (Nat → Value)) => match u with | (i, g2) => (i ≤ n) ∧ (tsk f n i = tsk f n j) ∧ (g2 9 = .ref a9) ∧ (g2 11 = .int (nI i)) ∧ (g2 12 = .int (nI n)) ∧ (∀ k : Nat, k ≠ 11 → g2 k = g k)) (fun (u : Nat × (Nat → Value)) => match u with | (i, g2) => n - i) ?_ (j, g) ⟨hj, rfl, fh9, fh11, fh12, (fun _ _ => rfl)⟩ _ _ _ (hP.sub (ws' := [(h0, .inr (11, mo g)), (a9, .inl (cT, 400, .inl f))]) [0, 1] rfl) (hD.sub (ws' := [(h0, .inr (11, mo g)), (a9, .inl (cT, 400, .inl f))]) [0, 1] (by decide) rfl) hS (lv_sub hl [0] rfl)
  intro u hI H locs ls hP hD hS hl ih
  obtain ⟨i, g2⟩ := u
  try dsimp only at hI
  obtain ⟨hi, hsk, h9, h11, h12, hun⟩ := hI
  have hP : va_P (dC, dI) vwCl [(h0, .inr (11, mo g2)), (a9, .inl (cT, 400, .inl f))] H := hP
  have hD : va_D A [(h0, .inr (11, mo g2)), (a9, .inl (cT, 400, .inl f))] := hD
  have hl : lv_has ls 1 [(0, .ref h0)] := hl
  refine lv_aload_n hx hb dX9_next_0 rfl (lv_at hl 0 rfl) ?_
  refine va_get (D := (dC, dI)) (ci := 11) (v := .int (nI i)) (C := RX9) (T := TX9) (N := 60) hx hb hts iRX9 hown hK hP 0 rfl rfl 11 (by decide) (hts (.fieldLink RX9 141 "RecordBenchModel" "at" "I") (by decide +kernel)) (fun _ h9 => h9) ((mo_get g2 (by decide)).trans (congrArg some h11)) dX9_next_1 ?_
  refine lv_aload_n hx hb dX9_next_4 rfl (lv_at hl 0 rfl) ?_
  refine va_get (D := (dC, dI)) (ci := 11) (v := .int (nI n)) (C := RX9) (T := TX9) (N := 60) hx hb hts iRX9 hown hK hP 0 rfl rfl 12 (by decide) (hts (.fieldLink RX9 144 "RecordBenchModel" "size" "I") (by decide +kernel)) (fun _ h9 => h9) ((mo_get g2 (by decide)).trans (congrArg some h12)) dX9_next_5 ?_
  refine lv_icmp_ge (tgt := 52) hx hb dX9_next_8 (by decide) (fun c_1 => ?_) (fun c_1 => ?_)
  · have hge : n ≤ i := nI_leN (by omega) (by omega) c_1
    have hjj : tsk f n j = i := hsk.symm.trans (tsk_no (fun h => absurd h.1 (by omega)))
    refine lv_aload_n hx hb dX9_next_52 rfl (lv_at hl 0 rfl) ?_
    refine lv_aload_n hx hb dX9_next_53 rfl (lv_at hl 0 rfl) ?_
    refine va_get (D := (dC, dI)) (ci := 11) (v := .int (nI i)) (C := RX9) (T := TX9) (N := 60) hx hb hts iRX9 hown hK hP 0 rfl rfl 11 (by decide) (hts (.fieldLink RX9 141 "RecordBenchModel" "at" "I") (by decide +kernel)) (fun _ h9 => h9) ((mo_get g2 (by decide)).trans (congrArg some h11)) dX9_next_54 ?_
    refine va_put (D := (dC, dI)) (ci := 11) (v := .int (nI i)) (ty := .int) (C := RX9) (T := TX9) (N := 60) hx hb hts iRX9 tyX9 tyX9_ok nmX9 hown hK hP hD hS 0 rfl rfl 17 (by decide) (hts (.fieldLink RX9 147 "RecordBenchModel" "begun" "I") (by decide +kernel)) (fun _ h9 => h9) rfl (by decide +kernel) rfl rfl (by rw [mo_len]; decide) dX9_next_57 (fun H locs hP hD hS => ?_)
    obtain ⟨g_2, eg_2⟩ : ∃ y, y = va_up g2 17 (.int (nI i)) := ⟨_, rfl⟩
    have hP : va_P (dC, dI) vwCl [(h0, .inr (11, mo g_2)), (a9, .inl (cT, 400, .inl f))] H := by rw [eg_2, ← mo_set g2 (by decide)]; exact hP
    have hD : va_D A [(h0, .inr (11, mo g_2)), (a9, .inl (cT, 400, .inl f))] := by rw [eg_2, ← mo_set g2 (by decide)]; exact hD
    have g_2h9 : g_2 9 = .ref a9 := by rw [eg_2, va_up_ne _ _ (by decide)]; exact h9
    have g_2h11 : g_2 11 = .int (nI i) := by rw [eg_2, va_up_ne _ _ (by decide)]; exact h11
    have g_2h12 : g_2 12 = .int (nI n) := by rw [eg_2, va_up_ne _ _ (by decide)]; exact h12
    have g_2h17 : g_2 17 = .int (nI i) := by rw [eg_2, va_up_self]
    have ung_2 : ∀ j : Nat, j ≠ 11 → j ≠ 17 → g_2 j = g j := fun j h11 h17 => by rw [eg_2, va_up_ne _ _ h17]; exact hun j h11
    refine lv_aload_n hx hb dX9_next_60 rfl (lv_at hl 0 rfl) ?_
    refine va_get (D := (dC, dI)) (ci := 11) (v := .int (nI i)) (C := RX9) (T := TX9) (N := 60) hx hb hts iRX9 hown hK hP 0 rfl rfl 11 (by decide) (hts (.fieldLink RX9 141 "RecordBenchModel" "at" "I") (by decide +kernel)) (fun _ h9 => h9) ((mo_get g_2 (by decide)).trans (congrArg some g_2h11)) dX9_next_61 ?_
    refine lv_aload_n hx hb dX9_next_64 rfl (lv_at hl 0 rfl) ?_
    refine va_get (D := (dC, dI)) (ci := 11) (v := .int (nI n)) (C := RX9) (T := TX9) (N := 60) hx hb hts iRX9 hown hK hP 0 rfl rfl 12 (by decide) (hts (.fieldLink RX9 144 "RecordBenchModel" "size" "I") (by decide +kernel)) (fun _ h9 => h9) ((mo_get g_2 (by decide)).trans (congrArg some g_2h12)) dX9_next_65 ?_
    refine lv_icmp_ge (tgt := 83) hx hb dX9_next_68 (by decide) (fun c_3 => ?_) (fun c_3 => absurd (nI_le hge (by omega)) c_3)
    refine lv_iconst (v := (-1)) hx hb dX9_next_83 (by decide) ?_
    have hP9 := hP.sub (ws' := [(h0, .inr (11, mo g_2)), (a9, .inl (cT, 400, .inl f))]) [0, 1] rfl
    have hD9 := hD.sub (ws' := [(h0, .inr (11, mo g_2)), (a9, .inl (cT, 400, .inl f))]) [0, 1] (by decide) rfl
    have hK9 := hK.sub (tys' := []) [] rfl
    exact W.iret (v := (-1)) hx hb hr (fun t ht hW => ⟨⟨(-1), g_2, rfl, ⟨by rw [hjj, if_neg (by omega)], (g_2h11.trans (by rw [hjj])), (g_2h17.trans (by rw [hjj])), (fun j h11 h17 => ung_2 j h11 h17)⟩, by rw [ht]; exact hP9, va_K.moved hW.alike hK9, hD9⟩, hS.F ht⟩) hS.2.2 dX9_next_84
  · have hlt : i < n := nI_ltN (by omega) (by omega) c_1
    refine lv_aload_n hx hb dX9_next_11 rfl (lv_at hl 0 rfl) ?_
    refine va_get (D := (dC, dI)) (ci := 11) (v := .ref a9) (C := RX9) (T := TX9) (N := 60) hx hb hts iRX9 hown hK hP 0 rfl rfl 9 (by decide) (hts (.fieldLink RX9 39 "RecordBenchModel" "tape" "[I") (by decide +kernel)) (fun _ h9 => h9) ((mo_get g2 (by decide)).trans (congrArg some h9)) dX9_next_12 ?_
    refine lv_aload_n hx hb dX9_next_15 rfl (lv_at hl 0 rfl) ?_
    refine va_get (D := (dC, dI)) (ci := 11) (v := .int (nI i)) (C := RX9) (T := TX9) (N := 60) hx hb hts iRX9 hown hK hP 0 rfl rfl 11 (by decide) (hts (.fieldLink RX9 141 "RecordBenchModel" "at" "I") (by decide +kernel)) (fun _ h9 => h9) ((mo_get g2 (by decide)).trans (congrArg some h11)) dX9_next_16 ?_
    refine va_iald hx hb hK hP 1 0 rfl rfl (vp_in_nI (by omega) (by decide)) dX9_next_19 ?_
    refine W_toi (y := f i) (by rw [nI_clamp (by omega)]) ?_
    refine lv_bipush (v := 10) hx hb dX9_next_20 (by decide) ?_
    refine lv_icmp_eq (tgt := 39) hx hb dX9_next_22 (by decide) (fun c_4 => ?_) (fun c_4 => ?_)
    · refine lv_aload_n hx hb dX9_next_39 rfl (lv_at hl 0 rfl) ?_
      refine lv_dup hx hb dX9_next_40 rfl ?_
      refine va_get (D := (dC, dI)) (ci := 11) (v := .int (nI i)) (C := RX9) (T := TX9) (N := 60) hx hb hts iRX9 hown hK hP 0 rfl rfl 11 (by decide) (hts (.fieldLink RX9 141 "RecordBenchModel" "at" "I") (by decide +kernel)) (fun _ h9 => h9) ((mo_get g2 (by decide)).trans (congrArg some h11)) dX9_next_41 ?_
      refine lv_iconst (v := 1) hx hb dX9_next_44 (by decide) ?_
      refine lv_iadd hx hb dX9_next_45 ?_
      refine W_toi (y := nI (i + 1)) (nI_1 i) ?_
      refine va_put (D := (dC, dI)) (ci := 11) (v := .int (nI (i + 1))) (ty := .int) (C := RX9) (T := TX9) (N := 60) hx hb hts iRX9 tyX9 tyX9_ok nmX9 hown hK hP hD hS 0 rfl rfl 11 (by decide) (hts (.fieldLink RX9 141 "RecordBenchModel" "at" "I") (by decide +kernel)) (fun _ h9 => h9) rfl (by decide +kernel) rfl rfl (by rw [mo_len]; decide) dX9_next_46 (fun H locs hP hD hS => ?_)
      obtain ⟨g_5, eg_5⟩ : ∃ y, y = va_up g2 11 (.int (nI (i + 1))) := ⟨_, rfl⟩
      have hP : va_P (dC, dI) vwCl [(h0, .inr (11, mo g_5)), (a9, .inl (cT, 400, .inl f))] H := by rw [eg_5, ← mo_set g2 (by decide)]; exact hP
      have hD : va_D A [(h0, .inr (11, mo g_5)), (a9, .inl (cT, 400, .inl f))] := by rw [eg_5, ← mo_set g2 (by decide)]; exact hD
      have g_5h9 : g_5 9 = .ref a9 := by rw [eg_5, va_up_ne _ _ (by decide)]; exact h9
      have g_5h12 : g_5 12 = .int (nI n) := by rw [eg_5, va_up_ne _ _ (by decide)]; exact h12
      have g_5h11 : g_5 11 = .int (nI (i + 1)) := by rw [eg_5, va_up_self]
      have ung_5 : ∀ j : Nat, j ≠ 11 → g_5 j = g j := fun j h11 => by rw [eg_5, va_up_ne _ _ h11]; exact hun j h11
      refine lv_goto (tgt := 0) hx hb dX9_next_49 (by decide) ?_
      exact ih ((i + 1), g_5) (by show n - (i + 1) < n - i; omega) ⟨(by omega), ((tsk_go hlt (Or.inl c_4)).symm.trans hsk), g_5h9, g_5h11, g_5h12, (fun k h => ung_5 k h)⟩ _ _ _ (hP.sub (ws' := [(h0, .inr (11, mo g_5)), (a9, .inl (cT, 400, .inl f))]) [0, 1] rfl) (hD.sub (ws' := [(h0, .inr (11, mo g_5)), (a9, .inl (cT, 400, .inl f))]) [0, 1] (by decide) rfl) hS (lv_sub hl [0] rfl)
    · refine lv_aload_n hx hb dX9_next_25 rfl (lv_at hl 0 rfl) ?_
      refine va_get (D := (dC, dI)) (ci := 11) (v := .ref a9) (C := RX9) (T := TX9) (N := 60) hx hb hts iRX9 hown hK hP 0 rfl rfl 9 (by decide) (hts (.fieldLink RX9 39 "RecordBenchModel" "tape" "[I") (by decide +kernel)) (fun _ h9 => h9) ((mo_get g2 (by decide)).trans (congrArg some h9)) dX9_next_26 ?_
      refine lv_aload_n hx hb dX9_next_29 rfl (lv_at hl 0 rfl) ?_
      refine va_get (D := (dC, dI)) (ci := 11) (v := .int (nI i)) (C := RX9) (T := TX9) (N := 60) hx hb hts iRX9 hown hK hP 0 rfl rfl 11 (by decide) (hts (.fieldLink RX9 141 "RecordBenchModel" "at" "I") (by decide +kernel)) (fun _ h9 => h9) ((mo_get g2 (by decide)).trans (congrArg some h11)) dX9_next_30 ?_
      refine va_iald hx hb hK hP 1 0 rfl rfl (vp_in_nI (by omega) (by decide)) dX9_next_33 ?_
      refine W_toi (y := f i) (by rw [nI_clamp (by omega)]) ?_
      refine lv_bipush (v := 32) hx hb dX9_next_34 (by decide) ?_
      refine lv_icmp_ne (tgt := 52) hx hb dX9_next_36 (by decide) (fun c_6 => ?_) (fun c_6 => ?_)
      · have hjj : tsk f n j = i := hsk.symm.trans (tsk_no (fun h => h.2.elim c_4 c_6))
        refine lv_aload_n hx hb dX9_next_52 rfl (lv_at hl 0 rfl) ?_
        refine lv_aload_n hx hb dX9_next_53 rfl (lv_at hl 0 rfl) ?_
        refine va_get (D := (dC, dI)) (ci := 11) (v := .int (nI i)) (C := RX9) (T := TX9) (N := 60) hx hb hts iRX9 hown hK hP 0 rfl rfl 11 (by decide) (hts (.fieldLink RX9 141 "RecordBenchModel" "at" "I") (by decide +kernel)) (fun _ h9 => h9) ((mo_get g2 (by decide)).trans (congrArg some h11)) dX9_next_54 ?_
        refine va_put (D := (dC, dI)) (ci := 11) (v := .int (nI i)) (ty := .int) (C := RX9) (T := TX9) (N := 60) hx hb hts iRX9 tyX9 tyX9_ok nmX9 hown hK hP hD hS 0 rfl rfl 17 (by decide) (hts (.fieldLink RX9 147 "RecordBenchModel" "begun" "I") (by decide +kernel)) (fun _ h9 => h9) rfl (by decide +kernel) rfl rfl (by rw [mo_len]; decide) dX9_next_57 (fun H locs hP hD hS => ?_)
        obtain ⟨g_7, eg_7⟩ : ∃ y, y = va_up g2 17 (.int (nI i)) := ⟨_, rfl⟩
        have hP : va_P (dC, dI) vwCl [(h0, .inr (11, mo g_7)), (a9, .inl (cT, 400, .inl f))] H := by rw [eg_7, ← mo_set g2 (by decide)]; exact hP
        have hD : va_D A [(h0, .inr (11, mo g_7)), (a9, .inl (cT, 400, .inl f))] := by rw [eg_7, ← mo_set g2 (by decide)]; exact hD
        have g_7h9 : g_7 9 = .ref a9 := by rw [eg_7, va_up_ne _ _ (by decide)]; exact h9
        have g_7h11 : g_7 11 = .int (nI i) := by rw [eg_7, va_up_ne _ _ (by decide)]; exact h11
        have g_7h12 : g_7 12 = .int (nI n) := by rw [eg_7, va_up_ne _ _ (by decide)]; exact h12
        have g_7h17 : g_7 17 = .int (nI i) := by rw [eg_7, va_up_self]
        have ung_7 : ∀ j : Nat, j ≠ 11 → j ≠ 17 → g_7 j = g j := fun j h11 h17 => by rw [eg_7, va_up_ne _ _ h17]; exact hun j h11
        refine lv_aload_n hx hb dX9_next_60 rfl (lv_at hl 0 rfl) ?_
        refine va_get (D := (dC, dI)) (ci := 11) (v := .int (nI i)) (C := RX9) (T := TX9) (N := 60) hx hb hts iRX9 hown hK hP 0 rfl rfl 11 (by decide) (hts (.fieldLink RX9 141 "RecordBenchModel" "at" "I") (by decide +kernel)) (fun _ h9 => h9) ((mo_get g_7 (by decide)).trans (congrArg some g_7h11)) dX9_next_61 ?_
        refine lv_aload_n hx hb dX9_next_64 rfl (lv_at hl 0 rfl) ?_
        refine va_get (D := (dC, dI)) (ci := 11) (v := .int (nI n)) (C := RX9) (T := TX9) (N := 60) hx hb hts iRX9 hown hK hP 0 rfl rfl 12 (by decide) (hts (.fieldLink RX9 144 "RecordBenchModel" "size" "I") (by decide +kernel)) (fun _ h9 => h9) ((mo_get g_7 (by decide)).trans (congrArg some g_7h12)) dX9_next_65 ?_
        refine lv_icmp_ge (tgt := 83) hx hb dX9_next_68 (by decide) (fun c_8 => absurd c_8 (fun h => absurd (nI_leN (by omega) (by omega) h) (by omega))) (fun c_8 => ?_)
        refine lv_aload_n hx hb dX9_next_71 rfl (lv_at hl 0 rfl) ?_
        refine va_get (D := (dC, dI)) (ci := 11) (v := .ref a9) (C := RX9) (T := TX9) (N := 60) hx hb hts iRX9 hown hK hP 0 rfl rfl 9 (by decide) (hts (.fieldLink RX9 39 "RecordBenchModel" "tape" "[I") (by decide +kernel)) (fun _ h9 => h9) ((mo_get g_7 (by decide)).trans (congrArg some g_7h9)) dX9_next_72 ?_
        refine lv_aload_n hx hb dX9_next_75 rfl (lv_at hl 0 rfl) ?_
        refine va_get (D := (dC, dI)) (ci := 11) (v := .int (nI i)) (C := RX9) (T := TX9) (N := 60) hx hb hts iRX9 hown hK hP 0 rfl rfl 11 (by decide) (hts (.fieldLink RX9 141 "RecordBenchModel" "at" "I") (by decide +kernel)) (fun _ h9 => h9) ((mo_get g_7 (by decide)).trans (congrArg some g_7h11)) dX9_next_76 ?_
        refine va_iald hx hb hK hP 1 0 rfl rfl (vp_in_nI (by omega) (by decide)) dX9_next_79 ?_
        refine W_toi (y := f i) (by rw [nI_clamp (by omega)]) ?_
        refine lv_goto (tgt := 84) hx hb dX9_next_80 (by decide) ?_
        have hP9 := hP.sub (ws' := [(h0, .inr (11, mo g_7)), (a9, .inl (cT, 400, .inl f))]) [0, 1] rfl
        have hD9 := hD.sub (ws' := [(h0, .inr (11, mo g_7)), (a9, .inl (cT, 400, .inl f))]) [0, 1] (by decide) rfl
        have hK9 := hK.sub (tys' := []) [] rfl
        exact W.iret (v := f i) hx hb hr (fun t ht hW => ⟨⟨f i, g_7, rfl, ⟨by rw [hjj, if_pos (by omega)], (g_7h11.trans (by rw [hjj])), (g_7h17.trans (by rw [hjj])), (fun j h11 h17 => ung_7 j h11 h17)⟩, by rw [ht]; exact hP9, va_K.moved hW.alike hK9, hD9⟩, hS.F ht⟩) hS.2.2 dX9_next_84
      · refine lv_aload_n hx hb dX9_next_39 rfl (lv_at hl 0 rfl) ?_
        refine lv_dup hx hb dX9_next_40 rfl ?_
        refine va_get (D := (dC, dI)) (ci := 11) (v := .int (nI i)) (C := RX9) (T := TX9) (N := 60) hx hb hts iRX9 hown hK hP 0 rfl rfl 11 (by decide) (hts (.fieldLink RX9 141 "RecordBenchModel" "at" "I") (by decide +kernel)) (fun _ h9 => h9) ((mo_get g2 (by decide)).trans (congrArg some h11)) dX9_next_41 ?_
        refine lv_iconst (v := 1) hx hb dX9_next_44 (by decide) ?_
        refine lv_iadd hx hb dX9_next_45 ?_
        refine W_toi (y := nI (i + 1)) (nI_1 i) ?_
        refine va_put (D := (dC, dI)) (ci := 11) (v := .int (nI (i + 1))) (ty := .int) (C := RX9) (T := TX9) (N := 60) hx hb hts iRX9 tyX9 tyX9_ok nmX9 hown hK hP hD hS 0 rfl rfl 11 (by decide) (hts (.fieldLink RX9 141 "RecordBenchModel" "at" "I") (by decide +kernel)) (fun _ h9 => h9) rfl (by decide +kernel) rfl rfl (by rw [mo_len]; decide) dX9_next_46 (fun H locs hP hD hS => ?_)
        obtain ⟨g_9, eg_9⟩ : ∃ y, y = va_up g2 11 (.int (nI (i + 1))) := ⟨_, rfl⟩
        have hP : va_P (dC, dI) vwCl [(h0, .inr (11, mo g_9)), (a9, .inl (cT, 400, .inl f))] H := by rw [eg_9, ← mo_set g2 (by decide)]; exact hP
        have hD : va_D A [(h0, .inr (11, mo g_9)), (a9, .inl (cT, 400, .inl f))] := by rw [eg_9, ← mo_set g2 (by decide)]; exact hD
        have g_9h9 : g_9 9 = .ref a9 := by rw [eg_9, va_up_ne _ _ (by decide)]; exact h9
        have g_9h12 : g_9 12 = .int (nI n) := by rw [eg_9, va_up_ne _ _ (by decide)]; exact h12
        have g_9h11 : g_9 11 = .int (nI (i + 1)) := by rw [eg_9, va_up_self]
        have ung_9 : ∀ j : Nat, j ≠ 11 → g_9 j = g j := fun j h11 => by rw [eg_9, va_up_ne _ _ h11]; exact hun j h11
        refine lv_goto (tgt := 0) hx hb dX9_next_49 (by decide) ?_
        exact ih ((i + 1), g_9) (by show n - (i + 1) < n - i; omega) ⟨(by omega), ((tsk_go hlt (Or.inr c_6)).symm.trans hsk), g_9h9, g_9h11, g_9h12, (fun k h => ung_9 k h)⟩ _ _ _ (hP.sub (ws' := [(h0, .inr (11, mo g_9)), (a9, .inl (cT, 400, .inl f))]) [0, 1] rfl) (hD.sub (ws' := [(h0, .inr (11, mo g_9)), (a9, .inl (cT, 400, .inl f))]) [0, 1] (by decide) rfl) hS (lv_sub hl [0] rfl)
