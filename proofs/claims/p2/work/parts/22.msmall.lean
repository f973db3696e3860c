theorem dX9_by_0 : decode cX9_by 0 = .ok (.aload_n 0, 1) := by decide +kernel
theorem dX9_by_1 : decode cX9_by 1 = .ok (.getfield 377, 3) := by decide +kernel
theorem dX9_by_4 : decode cX9_by 4 = .ok (.ireturn, 1) := by decide +kernel
theorem dX9_end_0 : decode cX9_end 0 = .ok (.iload_n 1, 1) := by decide +kernel
theorem dX9_end_1 : decode cX9_end 1 = .ok (.ifCond .lt 11, 3) := by decide +kernel
theorem dX9_end_12 : decode cX9_end 12 = .ok (.iconst 0, 1) := by decide +kernel
theorem dX9_end_13 : decode cX9_end 13 = .ok (.ireturn, 1) := by decide +kernel
theorem dX9_end_14 : decode cX9_end 14 = .ok (.aload_n 0, 1) := by decide +kernel
theorem dX9_end_15 : decode cX9_end 15 = .ok (.iload_n 1, 1) := by decide +kernel
theorem dX9_end_16 : decode cX9_end 16 = .ok (.putfield 132, 3) := by decide +kernel
theorem dX9_end_19 : decode cX9_end 19 = .ok (.iconst 1, 1) := by decide +kernel
theorem dX9_end_20 : decode cX9_end 20 = .ok (.ireturn, 1) := by decide +kernel
theorem dX9_end_4 : decode cX9_end 4 = .ok (.iload_n 1, 1) := by decide +kernel
theorem dX9_end_5 : decode cX9_end 5 = .ok (.aload_n 0, 1) := by decide +kernel
theorem dX9_end_6 : decode cX9_end 6 = .ok (.getfield 132, 3) := by decide +kernel
theorem dX9_end_9 : decode cX9_end 9 = .ok (.if_icmp .le 5, 3) := by decide +kernel
theorem dX9_fault_0 : decode cX9_fault 0 = .ok (.iload_n 1, 1) := by decide +kernel
theorem dX9_fault_1 : decode cX9_fault 1 = .ok (.ifCond .ne 10, 3) := by decide +kernel
theorem dX9_fault_11 : decode cX9_fault 11 = .ok (.iload_n 1, 1) := by decide +kernel
theorem dX9_fault_12 : decode cX9_fault 12 = .ok (.iconst 1, 1) := by decide +kernel
theorem dX9_fault_13 : decode cX9_fault 13 = .ok (.if_icmp .ne 10, 3) := by decide +kernel
theorem dX9_fault_16 : decode cX9_fault 16 = .ok (.aload_n 0, 1) := by decide +kernel
theorem dX9_fault_17 : decode cX9_fault 17 = .ok (.getfield 42, 3) := by decide +kernel
theorem dX9_fault_20 : decode cX9_fault 20 = .ok (.goto 4, 3) := by decide +kernel
theorem dX9_fault_23 : decode cX9_fault 23 = .ok (.iconst (-1), 1) := by decide +kernel
theorem dX9_fault_24 : decode cX9_fault 24 = .ok (.ireturn, 1) := by decide +kernel
theorem dX9_fault_4 : decode cX9_fault 4 = .ok (.aload_n 0, 1) := by decide +kernel
theorem dX9_fault_5 : decode cX9_fault 5 = .ok (.getfield 236, 3) := by decide +kernel
theorem dX9_fault_8 : decode cX9_fault 8 = .ok (.goto 16, 3) := by decide +kernel
theorem dX9_isNarrower_0 : decode cX9_isNarrower 0 = .ok (.aload_n 0, 1) := by decide +kernel
theorem dX9_isNarrower_1 : decode cX9_isNarrower 1 = .ok (.iload_n 2, 1) := by decide +kernel
theorem dX9_isNarrower_10 : decode cX9_isNarrower 10 = .ok (.iload_n 1, 1) := by decide +kernel
theorem dX9_isNarrower_11 : decode cX9_isNarrower 11 = .ok (.iload_n 3, 1) := by decide +kernel
theorem dX9_isNarrower_12 : decode cX9_isNarrower 12 = .ok (.invokevirtual 346, 3) := by decide +kernel
theorem dX9_isNarrower_15 : decode cX9_isNarrower 15 = .ok (.ifCond .ne 32, 3) := by decide +kernel
theorem dX9_isNarrower_18 : decode cX9_isNarrower 18 = .ok (.aload_n 0, 1) := by decide +kernel
theorem dX9_isNarrower_19 : decode cX9_isNarrower 19 = .ok (.getfield 13, 3) := by decide +kernel
theorem dX9_isNarrower_2 : decode cX9_isNarrower 2 = .ok (.iload_n 3, 1) := by decide +kernel
theorem dX9_isNarrower_22 : decode cX9_isNarrower 22 = .ok (.bipush 31, 2) := by decide +kernel
theorem dX9_isNarrower_24 : decode cX9_isNarrower 24 = .ok (.iload_n 2, 1) := by decide +kernel
theorem dX9_isNarrower_25 : decode cX9_isNarrower 25 = .ok (.imul, 1) := by decide +kernel
theorem dX9_isNarrower_26 : decode cX9_isNarrower 26 = .ok (.iload_n 3, 1) := by decide +kernel
theorem dX9_isNarrower_27 : decode cX9_isNarrower 27 = .ok (.iadd, 1) := by decide +kernel
theorem dX9_isNarrower_28 : decode cX9_isNarrower 28 = .ok (.iaload, 1) := by decide +kernel
theorem dX9_isNarrower_29 : decode cX9_isNarrower 29 = .ok (.aload_n 0, 1) := by decide +kernel
theorem dX9_isNarrower_3 : decode cX9_isNarrower 3 = .ok (.invokevirtual 246, 3) := by decide +kernel
theorem dX9_isNarrower_30 : decode cX9_isNarrower 30 = .ok (.getfield 13, 3) := by decide +kernel
theorem dX9_isNarrower_33 : decode cX9_isNarrower 33 = .ok (.bipush 31, 2) := by decide +kernel
theorem dX9_isNarrower_35 : decode cX9_isNarrower 35 = .ok (.iload_n 1, 1) := by decide +kernel
theorem dX9_isNarrower_36 : decode cX9_isNarrower 36 = .ok (.imul, 1) := by decide +kernel
theorem dX9_isNarrower_37 : decode cX9_isNarrower 37 = .ok (.iload_n 3, 1) := by decide +kernel
theorem dX9_isNarrower_38 : decode cX9_isNarrower 38 = .ok (.iadd, 1) := by decide +kernel
theorem dX9_isNarrower_39 : decode cX9_isNarrower 39 = .ok (.iaload, 1) := by decide +kernel
theorem dX9_isNarrower_40 : decode cX9_isNarrower 40 = .ok (.if_icmp .ge 7, 3) := by decide +kernel
theorem dX9_isNarrower_43 : decode cX9_isNarrower 43 = .ok (.iconst 1, 1) := by decide +kernel
theorem dX9_isNarrower_44 : decode cX9_isNarrower 44 = .ok (.goto 4, 3) := by decide +kernel
theorem dX9_isNarrower_47 : decode cX9_isNarrower 47 = .ok (.iconst 0, 1) := by decide +kernel
theorem dX9_isNarrower_48 : decode cX9_isNarrower 48 = .ok (.ireturn, 1) := by decide +kernel
theorem dX9_isNarrower_6 : decode cX9_isNarrower 6 = .ok (.ifCond .eq 41, 3) := by decide +kernel
theorem dX9_isNarrower_9 : decode cX9_isNarrower 9 = .ok (.aload_n 0, 1) := by decide +kernel
theorem dX9_isOther_0 : decode cX9_isOther 0 = .ok (.aload_n 0, 1) := by decide +kernel
theorem dX9_isOther_1 : decode cX9_isOther 1 = .ok (.iload_n 2, 1) := by decide +kernel
theorem dX9_isOther_10 : decode cX9_isOther 10 = .ok (.iload_n 1, 1) := by decide +kernel
theorem dX9_isOther_11 : decode cX9_isOther 11 = .ok (.iload_n 3, 1) := by decide +kernel
theorem dX9_isOther_12 : decode cX9_isOther 12 = .ok (.invokevirtual 346, 3) := by decide +kernel
theorem dX9_isOther_15 : decode cX9_isOther 15 = .ok (.aload_n 0, 1) := by decide +kernel
theorem dX9_isOther_16 : decode cX9_isOther 16 = .ok (.iload_n 2, 1) := by decide +kernel
theorem dX9_isOther_17 : decode cX9_isOther 17 = .ok (.iload_n 3, 1) := by decide +kernel
theorem dX9_isOther_18 : decode cX9_isOther 18 = .ok (.invokevirtual 346, 3) := by decide +kernel
theorem dX9_isOther_2 : decode cX9_isOther 2 = .ok (.iload_n 3, 1) := by decide +kernel
theorem dX9_isOther_21 : decode cX9_isOther 21 = .ok (.if_icmp .eq 7, 3) := by decide +kernel
theorem dX9_isOther_24 : decode cX9_isOther 24 = .ok (.iconst 1, 1) := by decide +kernel
theorem dX9_isOther_25 : decode cX9_isOther 25 = .ok (.goto 4, 3) := by decide +kernel
theorem dX9_isOther_28 : decode cX9_isOther 28 = .ok (.iconst 0, 1) := by decide +kernel
theorem dX9_isOther_29 : decode cX9_isOther 29 = .ok (.ireturn, 1) := by decide +kernel
theorem dX9_isOther_3 : decode cX9_isOther 3 = .ok (.invokevirtual 246, 3) := by decide +kernel
theorem dX9_isOther_6 : decode cX9_isOther 6 = .ok (.ifCond .eq 22, 3) := by decide +kernel
theorem dX9_isOther_9 : decode cX9_isOther 9 = .ok (.aload_n 0, 1) := by decide +kernel
theorem dX9_place_0 : decode cX9_place 0 = .ok (.iload_n 0, 1) := by decide +kernel
theorem dX9_place_1 : decode cX9_place 1 = .ok (.bipush 8, 2) := by decide +kernel
theorem dX9_place_10 : decode cX9_place 10 = .ok (.iadd, 1) := by decide +kernel
theorem dX9_place_11 : decode cX9_place 11 = .ok (.iconst 2, 1) := by decide +kernel
theorem dX9_place_12 : decode cX9_place 12 = .ok (.imul, 1) := by decide +kernel
theorem dX9_place_13 : decode cX9_place 13 = .ok (.iload_n 3, 1) := by decide +kernel
theorem dX9_place_14 : decode cX9_place 14 = .ok (.iadd, 1) := by decide +kernel
theorem dX9_place_15 : decode cX9_place 15 = .ok (.ireturn, 1) := by decide +kernel
theorem dX9_place_3 : decode cX9_place 3 = .ok (.imul, 1) := by decide +kernel
theorem dX9_place_4 : decode cX9_place 4 = .ok (.iload_n 1, 1) := by decide +kernel
theorem dX9_place_5 : decode cX9_place 5 = .ok (.iadd, 1) := by decide +kernel
theorem dX9_place_6 : decode cX9_place 6 = .ok (.bipush 8, 2) := by decide +kernel
theorem dX9_place_8 : decode cX9_place 8 = .ok (.imul, 1) := by decide +kernel
theorem dX9_place_9 : decode cX9_place 9 = .ok (.iload_n 2, 1) := by decide +kernel
theorem dX9_sortOf_0 : decode cX9_sortOf 0 = .ok (.aload_n 0, 1) := by decide +kernel
theorem dX9_sortOf_1 : decode cX9_sortOf 1 = .ok (.getfield 13, 3) := by decide +kernel
theorem dX9_sortOf_10 : decode cX9_sortOf 10 = .ok (.iaload, 1) := by decide +kernel
theorem dX9_sortOf_11 : decode cX9_sortOf 11 = .ok (.istore_n 3, 1) := by decide +kernel
theorem dX9_sortOf_12 : decode cX9_sortOf 12 = .ok (.iload_n 3, 1) := by decide +kernel
theorem dX9_sortOf_13 : decode cX9_sortOf 13 = .ok (.iconst 5, 1) := by decide +kernel
theorem dX9_sortOf_14 : decode cX9_sortOf 14 = .ok (.if_icmp .ge 7, 3) := by decide +kernel
theorem dX9_sortOf_17 : decode cX9_sortOf 17 = .ok (.iconst 0, 1) := by decide +kernel
theorem dX9_sortOf_18 : decode cX9_sortOf 18 = .ok (.goto 4, 3) := by decide +kernel
theorem dX9_sortOf_21 : decode cX9_sortOf 21 = .ok (.iload_n 3, 1) := by decide +kernel
theorem dX9_sortOf_22 : decode cX9_sortOf 22 = .ok (.ireturn, 1) := by decide +kernel
theorem dX9_sortOf_4 : decode cX9_sortOf 4 = .ok (.bipush 31, 2) := by decide +kernel
theorem dX9_sortOf_6 : decode cX9_sortOf 6 = .ok (.iload_n 1, 1) := by decide +kernel
theorem dX9_sortOf_7 : decode cX9_sortOf 7 = .ok (.imul, 1) := by decide +kernel
theorem dX9_sortOf_8 : decode cX9_sortOf 8 = .ok (.iload_n 2, 1) := by decide +kernel
theorem dX9_sortOf_9 : decode cX9_sortOf 9 = .ok (.iadd, 1) := by decide +kernel
def wp_X9_end : List Cond := .code yX9_end cX9_end 2 (some .boolean) :: ([.fieldLink RX9 132 "RecordBenchModel" "taped" "I"] ++ wsX90)
set_option maxHeartbeats 4000000 in
set_option maxRecDepth 100000 in
theorem c_X9_end (l : Launch) (dC : Nat → ClassId) (dI : Nat → Nat → Nat) (h0 : Nat) (g : Nat → Value) (tz : Nat) (fh10 : g 10 = .int (nI tz)) (p0 : Int32) (sz : Nat) : Met l yX9_end wp_X9_end ({ frames := 0, cells := 0, slots := 0, locals := 0 }) (va_Pc [.ref h0, .int p0] (Pr (dC, dI) [] [] [(h0, .inr (11, mo g))] sz)) (va_Qi (fun r : Int32 => (fun (u : (Nat → Value) × Int32) => match u with | (g1, x1) => (((p0 < 0 ∨ ¬ p0 ≤ nI tz) ∧ nI tz = x1 ∧ r = 0) ∨ (¬ (p0 < 0 ∨ ¬ p0 ≤ nI tz) ∧ p0 = x1 ∧ r = 1)) ∧ (g1 10 = .int x1) ∧ (∀ j : Nat, j ≠ 10 → g1 j = g j))) (Bq (dC, dI) (fun (u : (Nat → Value) × Int32) => match u with | (g1, x1) => [(h0, .inr (11, mo g1))]) (fun (u : (Nat → Value) × Int32) => match u with | (g1, x1) => []) (va_A [(h0, .inr (11, mo g))] sz)) (va_A [(h0, .inr (11, mo g))] sz)) 0 0 (va_A [(h0, .inr (11, mo g))] sz) := by
  refine Met.ofW (cc := cX9_end) (maxL := 2) (ret := (some .boolean)) (by decide) rfl ?_
  intro p e s m args below meth c s₁ B hml hv
  obtain ⟨rfl, hsz, hP, hK, hD0, hN, hZ, hR⟩ := hv
  have hx := B.exec
  have hb := B.bytes
  have hr := B.returns
  have hts := atoms_spec (ws := wp_X9_end) B.pre
  have hown : s.vm.findClass RX9 = some m.cls := findClass_of_methodNamed B.named
  have hlocks := B.notSynchronized
  have iRX9 : ∀ w ∈ u_ws RX9 TX9 60, w ∈ wp_X9_end := by decide +kernel
  subst hsz
  have hD := hD0.self (sz := s.heap.size)
  generalize hAe : va_A [(h0, .inr (11, mo g))] s.heap.size = A at hD hZ hR ⊢
  have hA : ∀ q : Nat, s.heap.size ≤ q → A q := fun q h => by rw [← hAe]; exact Or.inr h
  have hS : va_S A s.heap s.heap [] := va_S.rf
  have hP : va_P (dC, dI) vwCl [(h0, .inr (11, mo g))] s.heap := hP
  have hl := lv_entry ([.ref h0, .int p0]) (n := 2) (Nat.le_of_ble_eq_true rfl)
  rw [lg_entry_eq]
  generalize (lg_sl ([.ref h0, .int p0]) ++ List.replicate (2 - (lg_sl ([.ref h0, .int p0])).length) Slot.unset).toArray = ls at hl ⊢
  have hl : lv_has ls 2 [(0, .ref h0), (1, .int p0)] := hl
  refine lv_iload_n hx hb dX9_end_0 rfl (lv_at hl 1 rfl) ?_
  refine lv_if_lt (tgt := 12) hx hb dX9_end_1 (by decide) (fun c_1 => ?_) (fun c_1 => ?_)
  · refine lv_iconst (v := 0) hx hb dX9_end_12 (by decide) ?_
    have hP9 := hP.sub (ws' := [(h0, .inr (11, mo g))]) [0] rfl
    have hD9 := hD.sub (ws' := [(h0, .inr (11, mo g))]) [0] (by decide) rfl
    have hK9 := hK.sub (tys' := []) [] rfl
    exact W.zret (v := 0) hx hb hr rfl (fun t ht hW => ⟨⟨0, (g, (nI tz)), rfl, ⟨Or.inl ⟨Or.inl c_1, rfl, rfl⟩, fh10, (fun j h10 => rfl)⟩, by rw [ht]; exact hP9, va_K.moved hW.alike hK9, hD9⟩, hS.F ht⟩) hS.2.2 dX9_end_13
  · refine lv_iload_n hx hb dX9_end_4 rfl (lv_at hl 1 rfl) ?_
    refine lv_aload_n hx hb dX9_end_5 rfl (lv_at hl 0 rfl) ?_
    refine va_get (D := (dC, dI)) (ci := 11) (v := .int (nI tz)) (C := RX9) (T := TX9) (N := 60) hx hb hts iRX9 hown hK hP 0 rfl rfl 10 (by decide) (hts (.fieldLink RX9 132 "RecordBenchModel" "taped" "I") (by decide +kernel)) (fun _ h9 => h9) ((mo_get g (by decide)).trans (congrArg some fh10)) dX9_end_6 ?_
    refine lv_icmp_le (tgt := 14) hx hb dX9_end_9 (by decide) (fun c_2 => ?_) (fun c_2 => ?_)
    · refine lv_aload_n hx hb dX9_end_14 rfl (lv_at hl 0 rfl) ?_
      refine lv_iload_n hx hb dX9_end_15 rfl (lv_at hl 1 rfl) ?_
      refine va_put (D := (dC, dI)) (ci := 11) (v := .int p0) (ty := .int) (C := RX9) (T := TX9) (N := 60) hx hb hts iRX9 tyX9 tyX9_ok nmX9 hown hK hP hD hS 0 rfl rfl 10 (by decide) (hts (.fieldLink RX9 132 "RecordBenchModel" "taped" "I") (by decide +kernel)) (fun _ h9 => h9) rfl (by decide +kernel) rfl rfl (by rw [mo_len]; decide) dX9_end_16 (fun H locs hP hD hS => ?_)
      obtain ⟨g_3, eg_3⟩ : ∃ y, y = va_up g 10 (.int p0) := ⟨_, rfl⟩
      have hP : va_P (dC, dI) vwCl [(h0, .inr (11, mo g_3))] H := by rw [eg_3, ← mo_set g (by decide)]; exact hP
      have hD : va_D A [(h0, .inr (11, mo g_3))] := by rw [eg_3, ← mo_set g (by decide)]; exact hD
      have g_3h10 : g_3 10 = .int p0 := by rw [eg_3, va_up_self]
      have ung_3 : ∀ j : Nat, j ≠ 10 → g_3 j = g j := fun j h10 => by rw [eg_3, va_up_ne _ _ h10]
      refine lv_iconst (v := 1) hx hb dX9_end_19 (by decide) ?_
      have hP9 := hP.sub (ws' := [(h0, .inr (11, mo g_3))]) [0] rfl
      have hD9 := hD.sub (ws' := [(h0, .inr (11, mo g_3))]) [0] (by decide) rfl
      have hK9 := hK.sub (tys' := []) [] rfl
      exact W.zret (v := 1) hx hb hr rfl (fun t ht hW => ⟨⟨1, (g_3, p0), rfl, ⟨Or.inr ⟨fun h => h.elim c_1 (fun h2 => h2 c_2), rfl, rfl⟩, g_3h10, (fun j h10 => ung_3 j h10)⟩, by rw [ht]; exact hP9, va_K.moved hW.alike hK9, hD9⟩, hS.F ht⟩) hS.2.2 dX9_end_20
    · refine lv_iconst (v := 0) hx hb dX9_end_12 (by decide) ?_
      have hP9 := hP.sub (ws' := [(h0, .inr (11, mo g))]) [0] rfl
      have hD9 := hD.sub (ws' := [(h0, .inr (11, mo g))]) [0] (by decide) rfl
      have hK9 := hK.sub (tys' := []) [] rfl
      exact W.zret (v := 0) hx hb hr rfl (fun t ht hW => ⟨⟨0, (g, (nI tz)), rfl, ⟨Or.inl ⟨Or.inr c_2, rfl, rfl⟩, fh10, (fun j h10 => rfl)⟩, by rw [ht]; exact hP9, va_K.moved hW.alike hK9, hD9⟩, hS.F ht⟩) hS.2.2 dX9_end_13
def wp_X9_fault : List Cond := .code yX9_fault cX9_fault 2 (some .int) :: ([.fieldLink RX9 42 "RecordBenchModel" "faultPlace" "I", .fieldLink RX9 236 "RecordBenchModel" "fault" "I"] ++ wsX90)
set_option maxHeartbeats 4000000 in
set_option maxRecDepth 100000 in
theorem c_X9_fault (l : Launch) (dC : Nat → ClassId) (dI : Nat → Nat → Nat) (h0 : Nat) (g : Nat → Value) (x15 : Int32) (x16 : Int32) (fh15 : g 15 = .int x15) (fh16 : g 16 = .int x16) (p0 : Int32) (sz : Nat) : Met l yX9_fault wp_X9_fault ({ frames := 0, cells := 0, slots := 0, locals := 0 }) (va_Pc [.ref h0, .int p0] (Pr (dC, dI) [] [] [(h0, .inr (11, mo g))] sz)) (va_Qi (fun r : Int32 => (fun _ : Unit => True)) (Bq (dC, dI) (fun _ : Unit => [(h0, .inr (11, mo g))]) (fun _ : Unit => []) (va_A [(h0, .inr (11, mo g))] sz)) (va_A [(h0, .inr (11, mo g))] sz)) 0 0 (va_A [(h0, .inr (11, mo g))] sz) := by
  refine Met.ofW (cc := cX9_fault) (maxL := 2) (ret := (some .int)) (by decide) rfl ?_
  intro p e s m args below meth c s₁ B hml hv
  obtain ⟨rfl, hsz, hP, hK, hD0, hN, hZ, hR⟩ := hv
  have hx := B.exec
  have hb := B.bytes
  have hr := B.returns
  have hts := atoms_spec (ws := wp_X9_fault) B.pre
  have hown : s.vm.findClass RX9 = some m.cls := findClass_of_methodNamed B.named
  have hlocks := B.notSynchronized
  have iRX9 : ∀ w ∈ u_ws RX9 TX9 60, w ∈ wp_X9_fault := by decide +kernel
  subst hsz
  have hD := hD0.self (sz := s.heap.size)
  generalize hAe : va_A [(h0, .inr (11, mo g))] s.heap.size = A at hD hZ hR ⊢
  have hA : ∀ q : Nat, s.heap.size ≤ q → A q := fun q h => by rw [← hAe]; exact Or.inr h
  have hS : va_S A s.heap s.heap [] := va_S.rf
  have hP : va_P (dC, dI) vwCl [(h0, .inr (11, mo g))] s.heap := hP
  have hl := lv_entry ([.ref h0, .int p0]) (n := 2) (Nat.le_of_ble_eq_true rfl)
  rw [lg_entry_eq]
  generalize (lg_sl ([.ref h0, .int p0]) ++ List.replicate (2 - (lg_sl ([.ref h0, .int p0])).length) Slot.unset).toArray = ls at hl ⊢
  have hl : lv_has ls 2 [(0, .ref h0), (1, .int p0)] := hl
  refine lv_iload_n hx hb dX9_fault_0 rfl (lv_at hl 1 rfl) ?_
  refine lv_if_ne (tgt := 11) hx hb dX9_fault_1 (by decide) (fun c_1 => ?_) (fun c_1 => ?_)
  · refine lv_iload_n hx hb dX9_fault_11 rfl (lv_at hl 1 rfl) ?_
    refine lv_iconst (v := 1) hx hb dX9_fault_12 (by decide) ?_
    refine lv_icmp_ne (tgt := 23) hx hb dX9_fault_13 (by decide) (fun c_2 => ?_) (fun c_2 => ?_)
    · refine lv_iconst (v := (-1)) hx hb dX9_fault_23 (by decide) ?_
      have hP9 := hP.sub (ws' := [(h0, .inr (11, mo g))]) [0] rfl
      have hD9 := hD.sub (ws' := [(h0, .inr (11, mo g))]) [0] (by decide) rfl
      have hK9 := hK.sub (tys' := []) [] rfl
      exact W.iret (v := (-1)) hx hb hr (fun t ht hW => ⟨⟨(-1), (), rfl, trivial, by rw [ht]; exact hP9, va_K.moved hW.alike hK9, hD9⟩, hS.F ht⟩) hS.2.2 dX9_fault_24
    · refine lv_aload_n hx hb dX9_fault_16 rfl (lv_at hl 0 rfl) ?_
      refine va_get (D := (dC, dI)) (ci := 11) (v := .int x16) (C := RX9) (T := TX9) (N := 60) hx hb hts iRX9 hown hK hP 0 rfl rfl 16 (by decide) (hts (.fieldLink RX9 42 "RecordBenchModel" "faultPlace" "I") (by decide +kernel)) (fun _ h9 => h9) ((mo_get g (by decide)).trans (congrArg some fh16)) dX9_fault_17 ?_
      refine lv_goto (tgt := 24) hx hb dX9_fault_20 (by decide) ?_
      have hP9 := hP.sub (ws' := [(h0, .inr (11, mo g))]) [0] rfl
      have hD9 := hD.sub (ws' := [(h0, .inr (11, mo g))]) [0] (by decide) rfl
      have hK9 := hK.sub (tys' := []) [] rfl
      exact W.iret (v := x16) hx hb hr (fun t ht hW => ⟨⟨x16, (), rfl, trivial, by rw [ht]; exact hP9, va_K.moved hW.alike hK9, hD9⟩, hS.F ht⟩) hS.2.2 dX9_fault_24
  · refine lv_aload_n hx hb dX9_fault_4 rfl (lv_at hl 0 rfl) ?_
    refine va_get (D := (dC, dI)) (ci := 11) (v := .int x15) (C := RX9) (T := TX9) (N := 60) hx hb hts iRX9 hown hK hP 0 rfl rfl 15 (by decide) (hts (.fieldLink RX9 236 "RecordBenchModel" "fault" "I") (by decide +kernel)) (fun _ h9 => h9) ((mo_get g (by decide)).trans (congrArg some fh15)) dX9_fault_5 ?_
    refine lv_goto (tgt := 24) hx hb dX9_fault_8 (by decide) ?_
    have hP9 := hP.sub (ws' := [(h0, .inr (11, mo g))]) [0] rfl
    have hD9 := hD.sub (ws' := [(h0, .inr (11, mo g))]) [0] (by decide) rfl
    have hK9 := hK.sub (tys' := []) [] rfl
    exact W.iret (v := x15) hx hb hr (fun t ht hW => ⟨⟨x15, (), rfl, trivial, by rw [ht]; exact hP9, va_K.moved hW.alike hK9, hD9⟩, hS.F ht⟩) hS.2.2 dX9_fault_24
def wp_X9_by : List Cond := .code yX9_by cX9_by 1 (some .int) :: ([.fieldLink RX9 377 "RecordBenchModel" "by" "I"] ++ wsX90)
set_option maxHeartbeats 4000000 in
set_option maxRecDepth 100000 in
theorem c_X9_by (l : Launch) (dC : Nat → ClassId) (dI : Nat → Nat → Nat) (h0 : Nat) (g : Nat → Value) (x59 : Int32) (fh59 : g 59 = .int x59) (sz : Nat) : Met l yX9_by wp_X9_by ({ frames := 0, cells := 0, slots := 0, locals := 0 }) (va_Pc [.ref h0] (Pr (dC, dI) [] [] [(h0, .inr (11, mo g))] sz)) (va_Qi (fun r : Int32 => (fun _ : Unit => r = x59)) (Bq (dC, dI) (fun _ : Unit => [(h0, .inr (11, mo g))]) (fun _ : Unit => []) (va_A [(h0, .inr (11, mo g))] sz)) (va_A [(h0, .inr (11, mo g))] sz)) 0 0 (va_A [(h0, .inr (11, mo g))] sz) := by
  refine Met.ofW (cc := cX9_by) (maxL := 1) (ret := (some .int)) (by decide) rfl ?_
  intro p e s m args below meth c s₁ B hml hv
  obtain ⟨rfl, hsz, hP, hK, hD0, hN, hZ, hR⟩ := hv
  have hx := B.exec
  have hb := B.bytes
  have hr := B.returns
  have hts := atoms_spec (ws := wp_X9_by) B.pre
  have hown : s.vm.findClass RX9 = some m.cls := findClass_of_methodNamed B.named
  have hlocks := B.notSynchronized
  have iRX9 : ∀ w ∈ u_ws RX9 TX9 60, w ∈ wp_X9_by := by decide +kernel
  subst hsz
  have hD := hD0.self (sz := s.heap.size)
  generalize hAe : va_A [(h0, .inr (11, mo g))] s.heap.size = A at hD hZ hR ⊢
  have hA : ∀ q : Nat, s.heap.size ≤ q → A q := fun q h => by rw [← hAe]; exact Or.inr h
  have hS : va_S A s.heap s.heap [] := va_S.rf
  have hP : va_P (dC, dI) vwCl [(h0, .inr (11, mo g))] s.heap := hP
  have hl := lv_entry ([.ref h0]) (n := 1) (Nat.le_of_ble_eq_true rfl)
  rw [lg_entry_eq]
  generalize (lg_sl ([.ref h0]) ++ List.replicate (1 - (lg_sl ([.ref h0])).length) Slot.unset).toArray = ls at hl ⊢
  have hl : lv_has ls 1 [(0, .ref h0)] := hl
  refine lv_aload_n hx hb dX9_by_0 rfl (lv_at hl 0 rfl) ?_
  refine va_get (D := (dC, dI)) (ci := 11) (v := .int x59) (C := RX9) (T := TX9) (N := 60) hx hb hts iRX9 hown hK hP 0 rfl rfl 59 (by decide) (hts (.fieldLink RX9 377 "RecordBenchModel" "by" "I") (by decide +kernel)) (fun _ h9 => h9) ((mo_get g (by decide)).trans (congrArg some fh59)) dX9_by_1 ?_
  have hP9 := hP.sub (ws' := [(h0, .inr (11, mo g))]) [0] rfl
  have hD9 := hD.sub (ws' := [(h0, .inr (11, mo g))]) [0] (by decide) rfl
  have hK9 := hK.sub (tys' := []) [] rfl
  exact W.iret (v := x59) hx hb hr (fun t ht hW => ⟨⟨x59, (), rfl, rfl, by rw [ht]; exact hP9, va_K.moved hW.alike hK9, hD9⟩, hS.F ht⟩) hS.2.2 dX9_by_4
def wp_X9_sortOf : List Cond := .code yX9_sortOf cX9_sortOf 4 (some .int) :: ([.fieldLink RX9 13 "RecordBenchModel" "kind" "[I"] ++ wsX90)
set_option maxHeartbeats 4000000 in
set_option maxRecDepth 100000 in
theorem c_X9_sortOf (l : Launch) (dC : Nat → ClassId) (dI : Nat → Nat → Nat) (h0 : Nat) (g : Nat → Value) (a1 : Nat) (cK : ClassId) (kd : Nat → Int32) (fh1 : g 1 = .ref a1) (M : Nat) (N : Nat) (hM : M < 8) (hn_ : N < 31) (sz : Nat) : Met l yX9_sortOf wp_X9_sortOf ({ frames := 0, cells := 0, slots := 0, locals := 0 }) (va_Pc [.ref h0, .int (nI M), .int (nI N)] (Pr (dC, dI) [(cK, .int)] [] [(h0, .inr (11, mo g)), (a1, .inl (cK, 248, .inl kd))] sz)) (va_Qi (fun r : Int32 => (fun _ : Unit => r = srt kd M N)) (Bq (dC, dI) (fun _ : Unit => [(h0, .inr (11, mo g)), (a1, .inl (cK, 248, .inl kd))]) (fun _ : Unit => []) (va_A [(h0, .inr (11, mo g)), (a1, .inl (cK, 248, .inl kd))] sz)) (va_A [(h0, .inr (11, mo g)), (a1, .inl (cK, 248, .inl kd))] sz)) 0 0 (va_A [(h0, .inr (11, mo g)), (a1, .inl (cK, 248, .inl kd))] sz) := by
  refine Met.ofW (cc := cX9_sortOf) (maxL := 4) (ret := (some .int)) (by decide) rfl ?_
  intro p e s m args below meth c s₁ B hml hv
  obtain ⟨rfl, hsz, hP, hK, hD0, hN, hZ, hR⟩ := hv
  have hx := B.exec
  have hb := B.bytes
  have hr := B.returns
  have hts := atoms_spec (ws := wp_X9_sortOf) B.pre
  have hown : s.vm.findClass RX9 = some m.cls := findClass_of_methodNamed B.named
  have hlocks := B.notSynchronized
  have iRX9 : ∀ w ∈ u_ws RX9 TX9 60, w ∈ wp_X9_sortOf := by decide +kernel
  subst hsz
  have hD := hD0.self (sz := s.heap.size)
  generalize hAe : va_A [(h0, .inr (11, mo g)), (a1, .inl (cK, 248, .inl kd))] s.heap.size = A at hD hZ hR ⊢
  have hA : ∀ q : Nat, s.heap.size ≤ q → A q := fun q h => by rw [← hAe]; exact Or.inr h
  have hS : va_S A s.heap s.heap [] := va_S.rf
  have hP : va_P (dC, dI) vwCl [(h0, .inr (11, mo g)), (a1, .inl (cK, 248, .inl kd))] s.heap := hP
  have hl := lv_entry ([.ref h0, .int (nI M), .int (nI N)]) (n := 4) (Nat.le_of_ble_eq_true rfl)
  rw [lg_entry_eq]
  generalize (lg_sl ([.ref h0, .int (nI M), .int (nI N)]) ++ List.replicate (4 - (lg_sl ([.ref h0, .int (nI M), .int (nI N)])).length) Slot.unset).toArray = ls at hl ⊢
  have hl : lv_has ls 4 [(0, .ref h0), (1, .int (nI M)), (2, .int (nI N))] := hl
  refine lv_aload_n hx hb dX9_sortOf_0 rfl (lv_at hl 0 rfl) ?_
  refine va_get (D := (dC, dI)) (ci := 11) (v := .ref a1) (C := RX9) (T := TX9) (N := 60) hx hb hts iRX9 hown hK hP 0 rfl rfl 1 (by decide) (hts (.fieldLink RX9 13 "RecordBenchModel" "kind" "[I") (by decide +kernel)) (fun _ h9 => h9) ((mo_get g (by decide)).trans (congrArg some fh1)) dX9_sortOf_1 ?_
  refine lv_bipush (v := 31) hx hb dX9_sortOf_4 (by decide) ?_
  refine lv_iload_n hx hb dX9_sortOf_6 rfl (lv_at hl 1 rfl) ?_
  refine lv_imul hx hb dX9_sortOf_7 ?_
  refine lv_iload_n hx hb dX9_sortOf_8 rfl (lv_at hl 2 rfl) ?_
  refine lv_iadd hx hb dX9_sortOf_9 ?_
  refine va_iald hx hb hK hP 1 0 rfl rfl (ixN_in hM hn_) dX9_sortOf_10 ?_
  refine W_toi (y := kd (31 * M + N)) (by rw [ixN_cl hM hn_]) ?_
  refine lv_istore_n (lv' := [(3, .int (kd (31 * M + N))), (0, .ref h0), (1, .int (nI M)), (2, .int (nI N))]) hx hb dX9_sortOf_11 rfl hl (by decide) rfl (fun ls hl => ?_)
  refine lv_iload_n hx hb dX9_sortOf_12 rfl (lv_at hl 0 rfl) ?_
  refine lv_iconst (v := 5) hx hb dX9_sortOf_13 (by decide) ?_
  refine lv_icmp_ge (tgt := 21) hx hb dX9_sortOf_14 (by decide) (fun c_1 => ?_) (fun c_1 => ?_)
  · refine lv_iload_n hx hb dX9_sortOf_21 rfl (lv_at hl 0 rfl) ?_
    have hP9 := hP.sub (ws' := [(h0, .inr (11, mo g)), (a1, .inl (cK, 248, .inl kd))]) [0, 1] rfl
    have hD9 := hD.sub (ws' := [(h0, .inr (11, mo g)), (a1, .inl (cK, 248, .inl kd))]) [0, 1] (by decide) rfl
    have hK9 := hK.sub (tys' := []) [] rfl
    exact W.iret (v := kd (31 * M + N)) hx hb hr (fun t ht hW => ⟨⟨kd (31 * M + N), (), rfl, (if_pos c_1).symm, by rw [ht]; exact hP9, va_K.moved hW.alike hK9, hD9⟩, hS.F ht⟩) hS.2.2 dX9_sortOf_22
  · refine lv_iconst (v := 0) hx hb dX9_sortOf_17 (by decide) ?_
    refine lv_goto (tgt := 22) hx hb dX9_sortOf_18 (by decide) ?_
    have hP9 := hP.sub (ws' := [(h0, .inr (11, mo g)), (a1, .inl (cK, 248, .inl kd))]) [0, 1] rfl
    have hD9 := hD.sub (ws' := [(h0, .inr (11, mo g)), (a1, .inl (cK, 248, .inl kd))]) [0, 1] (by decide) rfl
    have hK9 := hK.sub (tys' := []) [] rfl
    exact W.iret (v := 0) hx hb hr (fun t ht hW => ⟨⟨0, (), rfl, (if_neg c_1).symm, by rw [ht]; exact hP9, va_K.moved hW.alike hK9, hD9⟩, hS.F ht⟩) hS.2.2 dX9_sortOf_22
def wp_X9_isOther : List Cond := .code yX9_isOther cX9_isOther 4 (some .boolean) :: ([.methodLink RX9 246 yX9_has, .instanceMethod yX9_has, .selects RX9 yX9_has yX9_has, .initialized RX9, .methodLink RX9 346 yX9_sortOf, .instanceMethod yX9_sortOf, .selects RX9 yX9_sortOf yX9_sortOf, .code yX9_has cX9_has 3 (some .boolean), .fieldLink RX9 36 "RecordBenchModel" "isThere" "[Z", .fieldLink RX9 13 "RecordBenchModel" "kind" "[I", .code yX9_sortOf cX9_sortOf 4 (some .int)] ++ wsX90)
set_option maxRecDepth 20000 in
theorem gp_X9_isOther_X9_has_246 : GoodIn wp_X9_isOther (wsV RX9 246 RX9 yX9_has wp_X9_has) := goodIn_p _ [8] rfl (by decide +kernel)
set_option maxRecDepth 20000 in
theorem gp_X9_isOther_X9_sortOf_346 : GoodIn wp_X9_isOther (wsV RX9 346 RX9 yX9_sortOf wp_X9_sortOf) := goodIn_p _ [11] rfl (by decide +kernel)
set_option maxHeartbeats 4000000 in
set_option maxRecDepth 100000 in
theorem c_X9_isOther (l : Launch) (dC : Nat → ClassId) (dI : Nat → Nat → Nat) (h0 : Nat) (g : Nat → Value) (a1 : Nat) (cK : ClassId) (kd : Nat → Int32) (a8 : Nat) (c8 : ClassId) (it : Nat → Int32) (M1 : Nat) (M2 : Nat) (N : Nat) (fh1 : g 1 = .ref a1) (fh8 : g 8 = .ref a8) (hM1 : M1 < 8) (hM2 : M2 < 8) (hn_ : N < 31) (sz : Nat) : Met l yX9_isOther wp_X9_isOther ({ frames := 1, cells := 0, slots := 0, locals := 27 }) (va_Pc [.ref h0, .int (nI M1), .int (nI M2), .int (nI N)] (Pr (dC, dI) [(cK, .int), (c8, .boolean)] [] [(h0, .inr (11, mo g)), (a1, .inl (cK, 248, .inl kd)), (a8, .inl (c8, 248, .inl it))] sz)) (va_Qi (fun r : Int32 => (fun _ : Unit => ((hasF it kd M2 (nI N) ∧ ¬ srt kd M1 N = srt kd M2 N) ∧ r = 1) ∨ (¬ (hasF it kd M2 (nI N) ∧ ¬ srt kd M1 N = srt kd M2 N) ∧ r = 0))) (Bq (dC, dI) (fun _ : Unit => [(h0, .inr (11, mo g)), (a1, .inl (cK, 248, .inl kd)), (a8, .inl (c8, 248, .inl it))]) (fun _ : Unit => []) (va_A [(h0, .inr (11, mo g)), (a1, .inl (cK, 248, .inl kd)), (a8, .inl (c8, 248, .inl it))] sz)) (va_A [(h0, .inr (11, mo g)), (a1, .inl (cK, 248, .inl kd)), (a8, .inl (c8, 248, .inl it))] sz)) 0 0 (va_A [(h0, .inr (11, mo g)), (a1, .inl (cK, 248, .inl kd)), (a8, .inl (c8, 248, .inl it))] sz) := by
  refine Met.ofW (cc := cX9_isOther) (maxL := 4) (ret := (some .boolean)) (by decide) rfl ?_
  intro p e s m args below meth c s₁ B hml hv
  obtain ⟨rfl, hsz, hP, hK, hD0, hN, hZ, hR⟩ := hv
  have hx := B.exec
  have hb := B.bytes
  have hr := B.returns
  have hts := atoms_spec (ws := wp_X9_isOther) B.pre
  have hown : s.vm.findClass RX9 = some m.cls := findClass_of_methodNamed B.named
  have hlocks := B.notSynchronized
  subst hsz
  have hD := hD0.self (sz := s.heap.size)
  generalize hAe : va_A [(h0, .inr (11, mo g)), (a1, .inl (cK, 248, .inl kd)), (a8, .inl (c8, 248, .inl it))] s.heap.size = A at hD hZ hR ⊢
  have hA : ∀ q : Nat, s.heap.size ≤ q → A q := fun q h => by rw [← hAe]; exact Or.inr h
  have hS : va_S A s.heap s.heap [] := va_S.rf
  have hP : va_P (dC, dI) vwCl [(h0, .inr (11, mo g)), (a1, .inl (cK, 248, .inl kd)), (a8, .inl (c8, 248, .inl it))] s.heap := hP
  have hl := lv_entry ([.ref h0, .int (nI M1), .int (nI M2), .int (nI N)]) (n := 4) (Nat.le_of_ble_eq_true rfl)
  rw [lg_entry_eq]
  generalize (lg_sl ([.ref h0, .int (nI M1), .int (nI M2), .int (nI N)]) ++ List.replicate (4 - (lg_sl ([.ref h0, .int (nI M1), .int (nI M2), .int (nI N)])).length) Slot.unset).toArray = ls at hl ⊢
  have hl : lv_has ls 4 [(0, .ref h0), (1, .int (nI M1)), (2, .int (nI M2)), (3, .int (nI N))] := hl
  refine lv_aload_n hx hb dX9_isOther_0 rfl (lv_at hl 0 rfl) ?_
  refine lv_iload_n hx hb dX9_isOther_1 rfl (lv_at hl 2 rfl) ?_
  refine lv_iload_n hx hb dX9_isOther_2 rfl (lv_at hl 3 rfl) ?_
  have hFc := va_free (wc := [(h0, .inr (11, mo g)), (a1, .inl (cK, 248, .inl kd)), (a8, .inl (c8, 248, .inl it))]) hD hS hA [0, 1, 2] rfl
  refine va_calli (va_runV (As := [.int (nI M2), .int (nI N)]) (rest := []) ⟨hx, hb, hml, hown, hts⟩ (c_X9_has l dC dI h0 g a1 cK kd a8 c8 it M2 fh1 fh8 (nI N) hM2 s.heap.size) (cwV 2 hts gp_X9_isOther_X9_has_246 rfl rfl rfl (by decide +kernel) ⟨Nat.le_of_ble_eq_true rfl, Nat.le_of_ble_eq_true rfl⟩) ⟨Pr.blind _, va_recv hK hP (ci := 11) (q0 := 0) rfl rfl, fun U hU hW => ⟨rfl, Pr.at (hP.sub (ws' := [(h0, .inr (11, mo g)), (a1, .inl (cK, 248, .inl kd)), (a8, .inl (c8, 248, .inl it))]) [0, 1, 2] rfl) (hK.sub (tys' := [(cK, .int), (c8, .boolean)]) [0, 1] rfl) (hD.sub (ws' := [(h0, .inr (11, mo g)), (a1, .inl (cK, 248, .inl kd)), (a8, .inl (c8, 248, .inl it))]) [0, 1, 2] (by decide) rfl) hN hZ RO.nil hS hFc hU hW⟩⟩ rfl rfl hl.1 rfl (lv_room (Nat.le_of_ble_eq_true rfl)) dX9_isOther_3 ⟨Nat.le_of_ble_eq_true rfl, Nat.le_of_ble_eq_true rfl⟩) hS (fun q _ h => hFc q h) hFc (fun r_1 u t H1 locs ht hvm hw_2 hB hz1 hk1 hS => ?_)
  obtain ⟨hP, hD, hK⟩ := Bq.join (wr := []) hB ht hvm hP hD [0, 1, 2] [] rfl rfl (by decide) (by decide) hk1 hFc hK
  generalize H1 = H at hP hS ⊢
  have hP : va_P (dC, dI) vwCl [(h0, .inr (11, mo g)), (a1, .inl (cK, 248, .inl kd)), (a8, .inl (c8, 248, .inl it))] H := hP
  have hD : va_D A [(h0, .inr (11, mo g)), (a1, .inl (cK, 248, .inl kd)), (a8, .inl (c8, 248, .inl it))] := hD
  have hK : va_K (dC, dI) vwCl [(cK, .int), (c8, .boolean)] s := hK
  try dsimp only at hw_2
  have k_3 := hw_2
  rcases k_3 with ⟨ho, rfl⟩ | ⟨ho, rfl⟩
  · refine W.eq (g2 := F0 m 6 ls [.int 1]) rfl ?_
    refine lv_if_eq (tgt := 28) hx hb dX9_isOther_6 (by decide) (fun c_4 => absurd c_4 (by decide)) (fun c_4 => ?_)
    refine lv_aload_n hx hb dX9_isOther_9 rfl (lv_at hl 0 rfl) ?_
    refine lv_iload_n hx hb dX9_isOther_10 rfl (lv_at hl 1 rfl) ?_
    refine lv_iload_n hx hb dX9_isOther_11 rfl (lv_at hl 3 rfl) ?_
    have hFc := va_free (wc := [(h0, .inr (11, mo g)), (a1, .inl (cK, 248, .inl kd))]) hD hS hA [0, 1] rfl
    refine va_calli (va_runV (As := [.int (nI M1), .int (nI N)]) (rest := []) ⟨hx, hb, hml, hown, hts⟩ (c_X9_sortOf l dC dI h0 g a1 cK kd fh1 M1 N hM1 (by assumption) H.size) (cwV 2 hts gp_X9_isOther_X9_sortOf_346 rfl rfl rfl (by decide +kernel) ⟨Nat.le_of_ble_eq_true rfl, Nat.le_of_ble_eq_true rfl⟩) ⟨Pr.blind _, va_recv hK hP (ci := 11) (q0 := 0) rfl rfl, fun U hU hW => ⟨rfl, Pr.at (hP.sub (ws' := [(h0, .inr (11, mo g)), (a1, .inl (cK, 248, .inl kd))]) [0, 1] rfl) (hK.sub (tys' := [(cK, .int)]) [0] rfl) (hD.sub (ws' := [(h0, .inr (11, mo g)), (a1, .inl (cK, 248, .inl kd))]) [0, 1] (by decide) rfl) hN hZ RO.nil hS hFc hU hW⟩⟩ rfl rfl hl.1 rfl (lv_room (Nat.le_of_ble_eq_true rfl)) dX9_isOther_12 ⟨Nat.le_of_ble_eq_true rfl, Nat.le_of_ble_eq_true rfl⟩) hS (fun q _ h => hFc q h) hFc (fun r_5 u t H1 locs ht hvm hw_6 hB hz1 hk1 hS => ?_)
    obtain ⟨hP, hD, hK⟩ := Bq.join (wr := [(a8, .inl (c8, 248, .inl it))]) hB ht hvm hP hD [0, 1] [2] rfl rfl (by decide) (by decide) hk1 hFc hK
    generalize H1 = H at hP hS ⊢
    have hP : va_P (dC, dI) vwCl [(a8, .inl (c8, 248, .inl it)), (h0, .inr (11, mo g)), (a1, .inl (cK, 248, .inl kd))] H := hP
    have hD : va_D A [(a8, .inl (c8, 248, .inl it)), (h0, .inr (11, mo g)), (a1, .inl (cK, 248, .inl kd))] := hD
    have hK : va_K (dC, dI) vwCl [(cK, .int), (c8, .boolean)] s := hK
    try dsimp only at hw_6
    have k_7 := hw_6
    refine W_toi (y := srt kd M1 N) k_7 ?_
    refine lv_aload_n hx hb dX9_isOther_15 rfl (lv_at hl 0 rfl) ?_
    refine lv_iload_n hx hb dX9_isOther_16 rfl (lv_at hl 2 rfl) ?_
    refine lv_iload_n hx hb dX9_isOther_17 rfl (lv_at hl 3 rfl) ?_
    have hFc := va_free (wc := [(h0, .inr (11, mo g)), (a1, .inl (cK, 248, .inl kd))]) hD hS hA [1, 2] rfl
    refine va_calli (va_runV (As := [.int (nI M2), .int (nI N)]) (rest := [.int (srt kd M1 N)]) ⟨hx, hb, hml, hown, hts⟩ (c_X9_sortOf l dC dI h0 g a1 cK kd fh1 M2 N hM2 (by assumption) H.size) (cwV 2 hts gp_X9_isOther_X9_sortOf_346 rfl rfl rfl (by decide +kernel) ⟨Nat.le_of_ble_eq_true rfl, Nat.le_of_ble_eq_true rfl⟩) ⟨Pr.blind _, va_recv hK hP (ci := 11) (q0 := 1) rfl rfl, fun U hU hW => ⟨rfl, Pr.at (hP.sub (ws' := [(h0, .inr (11, mo g)), (a1, .inl (cK, 248, .inl kd))]) [1, 2] rfl) (hK.sub (tys' := [(cK, .int)]) [0] rfl) (hD.sub (ws' := [(h0, .inr (11, mo g)), (a1, .inl (cK, 248, .inl kd))]) [1, 2] (by decide) rfl) hN hZ RO.nil hS hFc hU hW⟩⟩ rfl rfl hl.1 rfl (lv_room (Nat.le_of_ble_eq_true rfl)) dX9_isOther_18 ⟨Nat.le_of_ble_eq_true rfl, Nat.le_of_ble_eq_true rfl⟩) hS (fun q _ h => hFc q h) hFc (fun r_8 u t H1 locs ht hvm hw_9 hB hz1 hk1 hS => ?_)
    obtain ⟨hP, hD, hK⟩ := Bq.join (wr := [(a8, .inl (c8, 248, .inl it))]) hB ht hvm hP hD [1, 2] [0] rfl rfl (by decide) (by decide) hk1 hFc hK
    generalize H1 = H at hP hS ⊢
    have hP : va_P (dC, dI) vwCl [(a8, .inl (c8, 248, .inl it)), (h0, .inr (11, mo g)), (a1, .inl (cK, 248, .inl kd))] H := hP
    have hD : va_D A [(a8, .inl (c8, 248, .inl it)), (h0, .inr (11, mo g)), (a1, .inl (cK, 248, .inl kd))] := hD
    have hK : va_K (dC, dI) vwCl [(cK, .int), (c8, .boolean)] s := hK
    try dsimp only at hw_9
    have k_10 := hw_9
    refine W_toi (y := srt kd M2 N) k_10 ?_
    refine lv_icmp_eq (tgt := 28) hx hb dX9_isOther_21 (by decide) (fun c_11 => ?_) (fun c_11 => ?_)
    · refine lv_iconst (v := 0) hx hb dX9_isOther_28 (by decide) ?_
      have hP9 := hP.sub (ws' := [(h0, .inr (11, mo g)), (a1, .inl (cK, 248, .inl kd)), (a8, .inl (c8, 248, .inl it))]) [1, 2, 0] rfl
      have hD9 := hD.sub (ws' := [(h0, .inr (11, mo g)), (a1, .inl (cK, 248, .inl kd)), (a8, .inl (c8, 248, .inl it))]) [1, 2, 0] (by decide) rfl
      have hK9 := hK.sub (tys' := []) [] rfl
      exact W.zret (v := 0) hx hb hr rfl (fun t ht hW => ⟨⟨0, (), rfl, Or.inr ⟨fun h => h.2 c_11, rfl⟩, by rw [ht]; exact hP9, va_K.moved hW.alike hK9, hD9⟩, hS.F ht⟩) hS.2.2 dX9_isOther_29
    · refine lv_iconst (v := 1) hx hb dX9_isOther_24 (by decide) ?_
      refine lv_goto (tgt := 29) hx hb dX9_isOther_25 (by decide) ?_
      have hP9 := hP.sub (ws' := [(h0, .inr (11, mo g)), (a1, .inl (cK, 248, .inl kd)), (a8, .inl (c8, 248, .inl it))]) [1, 2, 0] rfl
      have hD9 := hD.sub (ws' := [(h0, .inr (11, mo g)), (a1, .inl (cK, 248, .inl kd)), (a8, .inl (c8, 248, .inl it))]) [1, 2, 0] (by decide) rfl
      have hK9 := hK.sub (tys' := []) [] rfl
      exact W.zret (v := 1) hx hb hr rfl (fun t ht hW => ⟨⟨1, (), rfl, Or.inl ⟨⟨ho, c_11⟩, rfl⟩, by rw [ht]; exact hP9, va_K.moved hW.alike hK9, hD9⟩, hS.F ht⟩) hS.2.2 dX9_isOther_29
  · refine W.eq (g2 := F0 m 6 ls [.int 0]) rfl ?_
    refine lv_if_eq (tgt := 28) hx hb dX9_isOther_6 (by decide) (fun c_12 => ?_) (fun c_12 => absurd (by decide) c_12)
    refine lv_iconst (v := 0) hx hb dX9_isOther_28 (by decide) ?_
    have hP9 := hP.sub (ws' := [(h0, .inr (11, mo g)), (a1, .inl (cK, 248, .inl kd)), (a8, .inl (c8, 248, .inl it))]) [0, 1, 2] rfl
    have hD9 := hD.sub (ws' := [(h0, .inr (11, mo g)), (a1, .inl (cK, 248, .inl kd)), (a8, .inl (c8, 248, .inl it))]) [0, 1, 2] (by decide) rfl
    have hK9 := hK.sub (tys' := []) [] rfl
    exact W.zret (v := 0) hx hb hr rfl (fun t ht hW => ⟨⟨0, (), rfl, Or.inr ⟨fun h => ho h.1, rfl⟩, by rw [ht]; exact hP9, va_K.moved hW.alike hK9, hD9⟩, hS.F ht⟩) hS.2.2 dX9_isOther_29
def wp_X9_isNarrower : List Cond := .code yX9_isNarrower cX9_isNarrower 4 (some .boolean) :: ([.methodLink RX9 246 yX9_has, .instanceMethod yX9_has, .selects RX9 yX9_has yX9_has, .initialized RX9, .methodLink RX9 346 yX9_sortOf, .instanceMethod yX9_sortOf, .selects RX9 yX9_sortOf yX9_sortOf, .fieldLink RX9 13 "RecordBenchModel" "kind" "[I", .code yX9_has cX9_has 3 (some .boolean), .fieldLink RX9 36 "RecordBenchModel" "isThere" "[Z", .code yX9_sortOf cX9_sortOf 4 (some .int)] ++ wsX90)
set_option maxRecDepth 20000 in
theorem gp_X9_isNarrower_X9_has_246 : GoodIn wp_X9_isNarrower (wsV RX9 246 RX9 yX9_has wp_X9_has) := goodIn_p _ [9] rfl (by decide +kernel)
set_option maxRecDepth 20000 in
theorem gp_X9_isNarrower_X9_sortOf_346 : GoodIn wp_X9_isNarrower (wsV RX9 346 RX9 yX9_sortOf wp_X9_sortOf) := goodIn_p _ [11] rfl (by decide +kernel)
set_option maxHeartbeats 4000000 in
set_option maxRecDepth 100000 in
theorem c_X9_isNarrower (l : Launch) (dC : Nat → ClassId) (dI : Nat → Nat → Nat) (h0 : Nat) (g : Nat → Value) (a1 : Nat) (cK : ClassId) (kd : Nat → Int32) (a8 : Nat) (c8 : ClassId) (it : Nat → Int32) (M1 : Nat) (M2 : Nat) (N : Nat) (fh1 : g 1 = .ref a1) (fh8 : g 8 = .ref a8) (hM1 : M1 < 8) (hM2 : M2 < 8) (hn_ : N < 31) (sz : Nat) : Met l yX9_isNarrower wp_X9_isNarrower ({ frames := 1, cells := 0, slots := 0, locals := 27 }) (va_Pc [.ref h0, .int (nI M1), .int (nI M2), .int (nI N)] (Pr (dC, dI) [(cK, .int), (c8, .boolean)] [] [(h0, .inr (11, mo g)), (a1, .inl (cK, 248, .inl kd)), (a8, .inl (c8, 248, .inl it))] sz)) (va_Qi (fun r : Int32 => (fun _ : Unit => ((hasF it kd M2 (nI N) ∧ srt kd M1 N = 0 ∧ ¬ kd (31 * M1 + N) ≤ kd (31 * M2 + N)) ∧ r = 1) ∨ (¬ (hasF it kd M2 (nI N) ∧ srt kd M1 N = 0 ∧ ¬ kd (31 * M1 + N) ≤ kd (31 * M2 + N)) ∧ r = 0))) (Bq (dC, dI) (fun _ : Unit => [(h0, .inr (11, mo g)), (a1, .inl (cK, 248, .inl kd)), (a8, .inl (c8, 248, .inl it))]) (fun _ : Unit => []) (va_A [(h0, .inr (11, mo g)), (a1, .inl (cK, 248, .inl kd)), (a8, .inl (c8, 248, .inl it))] sz)) (va_A [(h0, .inr (11, mo g)), (a1, .inl (cK, 248, .inl kd)), (a8, .inl (c8, 248, .inl it))] sz)) 0 0 (va_A [(h0, .inr (11, mo g)), (a1, .inl (cK, 248, .inl kd)), (a8, .inl (c8, 248, .inl it))] sz) := by
  refine Met.ofW (cc := cX9_isNarrower) (maxL := 4) (ret := (some .boolean)) (by decide) rfl ?_
  intro p e s m args below meth c s₁ B hml hv
  obtain ⟨rfl, hsz, hP, hK, hD0, hN, hZ, hR⟩ := hv
  have hx := B.exec
  have hb := B.bytes
  have hr := B.returns
  have hts := atoms_spec (ws := wp_X9_isNarrower) B.pre
  have hown : s.vm.findClass RX9 = some m.cls := findClass_of_methodNamed B.named
  have hlocks := B.notSynchronized
  have iRX9 : ∀ w ∈ u_ws RX9 TX9 60, w ∈ wp_X9_isNarrower := by decide +kernel
  subst hsz
  have hD := hD0.self (sz := s.heap.size)
  generalize hAe : va_A [(h0, .inr (11, mo g)), (a1, .inl (cK, 248, .inl kd)), (a8, .inl (c8, 248, .inl it))] s.heap.size = A at hD hZ hR ⊢
  have hA : ∀ q : Nat, s.heap.size ≤ q → A q := fun q h => by rw [← hAe]; exact Or.inr h
  have hS : va_S A s.heap s.heap [] := va_S.rf
  have hP : va_P (dC, dI) vwCl [(h0, .inr (11, mo g)), (a1, .inl (cK, 248, .inl kd)), (a8, .inl (c8, 248, .inl it))] s.heap := hP
  have hl := lv_entry ([.ref h0, .int (nI M1), .int (nI M2), .int (nI N)]) (n := 4) (Nat.le_of_ble_eq_true rfl)
  rw [lg_entry_eq]
  generalize (lg_sl ([.ref h0, .int (nI M1), .int (nI M2), .int (nI N)]) ++ List.replicate (4 - (lg_sl ([.ref h0, .int (nI M1), .int (nI M2), .int (nI N)])).length) Slot.unset).toArray = ls at hl ⊢
  have hl : lv_has ls 4 [(0, .ref h0), (1, .int (nI M1)), (2, .int (nI M2)), (3, .int (nI N))] := hl
  refine lv_aload_n hx hb dX9_isNarrower_0 rfl (lv_at hl 0 rfl) ?_
  refine lv_iload_n hx hb dX9_isNarrower_1 rfl (lv_at hl 2 rfl) ?_
  refine lv_iload_n hx hb dX9_isNarrower_2 rfl (lv_at hl 3 rfl) ?_
  have hFc := va_free (wc := [(h0, .inr (11, mo g)), (a1, .inl (cK, 248, .inl kd)), (a8, .inl (c8, 248, .inl it))]) hD hS hA [0, 1, 2] rfl
  refine va_calli (va_runV (As := [.int (nI M2), .int (nI N)]) (rest := []) ⟨hx, hb, hml, hown, hts⟩ (c_X9_has l dC dI h0 g a1 cK kd a8 c8 it M2 fh1 fh8 (nI N) hM2 s.heap.size) (cwV 2 hts gp_X9_isNarrower_X9_has_246 rfl rfl rfl (by decide +kernel) ⟨Nat.le_of_ble_eq_true rfl, Nat.le_of_ble_eq_true rfl⟩) ⟨Pr.blind _, va_recv hK hP (ci := 11) (q0 := 0) rfl rfl, fun U hU hW => ⟨rfl, Pr.at (hP.sub (ws' := [(h0, .inr (11, mo g)), (a1, .inl (cK, 248, .inl kd)), (a8, .inl (c8, 248, .inl it))]) [0, 1, 2] rfl) (hK.sub (tys' := [(cK, .int), (c8, .boolean)]) [0, 1] rfl) (hD.sub (ws' := [(h0, .inr (11, mo g)), (a1, .inl (cK, 248, .inl kd)), (a8, .inl (c8, 248, .inl it))]) [0, 1, 2] (by decide) rfl) hN hZ RO.nil hS hFc hU hW⟩⟩ rfl rfl hl.1 rfl (lv_room (Nat.le_of_ble_eq_true rfl)) dX9_isNarrower_3 ⟨Nat.le_of_ble_eq_true rfl, Nat.le_of_ble_eq_true rfl⟩) hS (fun q _ h => hFc q h) hFc (fun r_1 u t H1 locs ht hvm hw_2 hB hz1 hk1 hS => ?_)
  obtain ⟨hP, hD, hK⟩ := Bq.join (wr := []) hB ht hvm hP hD [0, 1, 2] [] rfl rfl (by decide) (by decide) hk1 hFc hK
  generalize H1 = H at hP hS ⊢
  have hP : va_P (dC, dI) vwCl [(h0, .inr (11, mo g)), (a1, .inl (cK, 248, .inl kd)), (a8, .inl (c8, 248, .inl it))] H := hP
  have hD : va_D A [(h0, .inr (11, mo g)), (a1, .inl (cK, 248, .inl kd)), (a8, .inl (c8, 248, .inl it))] := hD
  have hK : va_K (dC, dI) vwCl [(cK, .int), (c8, .boolean)] s := hK
  try dsimp only at hw_2
  have k_3 := hw_2
  rcases k_3 with ⟨ho, rfl⟩ | ⟨ho, rfl⟩
  · refine W.eq (g2 := F0 m 6 ls [.int 1]) rfl ?_
    refine lv_if_eq (tgt := 47) hx hb dX9_isNarrower_6 (by decide) (fun c_4 => absurd c_4 (by decide)) (fun c_4 => ?_)
    refine lv_aload_n hx hb dX9_isNarrower_9 rfl (lv_at hl 0 rfl) ?_
    refine lv_iload_n hx hb dX9_isNarrower_10 rfl (lv_at hl 1 rfl) ?_
    refine lv_iload_n hx hb dX9_isNarrower_11 rfl (lv_at hl 3 rfl) ?_
    have hFc := va_free (wc := [(h0, .inr (11, mo g)), (a1, .inl (cK, 248, .inl kd))]) hD hS hA [0, 1] rfl
    refine va_calli (va_runV (As := [.int (nI M1), .int (nI N)]) (rest := []) ⟨hx, hb, hml, hown, hts⟩ (c_X9_sortOf l dC dI h0 g a1 cK kd fh1 M1 N hM1 (by assumption) H.size) (cwV 2 hts gp_X9_isNarrower_X9_sortOf_346 rfl rfl rfl (by decide +kernel) ⟨Nat.le_of_ble_eq_true rfl, Nat.le_of_ble_eq_true rfl⟩) ⟨Pr.blind _, va_recv hK hP (ci := 11) (q0 := 0) rfl rfl, fun U hU hW => ⟨rfl, Pr.at (hP.sub (ws' := [(h0, .inr (11, mo g)), (a1, .inl (cK, 248, .inl kd))]) [0, 1] rfl) (hK.sub (tys' := [(cK, .int)]) [0] rfl) (hD.sub (ws' := [(h0, .inr (11, mo g)), (a1, .inl (cK, 248, .inl kd))]) [0, 1] (by decide) rfl) hN hZ RO.nil hS hFc hU hW⟩⟩ rfl rfl hl.1 rfl (lv_room (Nat.le_of_ble_eq_true rfl)) dX9_isNarrower_12 ⟨Nat.le_of_ble_eq_true rfl, Nat.le_of_ble_eq_true rfl⟩) hS (fun q _ h => hFc q h) hFc (fun r_5 u t H1 locs ht hvm hw_6 hB hz1 hk1 hS => ?_)
    obtain ⟨hP, hD, hK⟩ := Bq.join (wr := [(a8, .inl (c8, 248, .inl it))]) hB ht hvm hP hD [0, 1] [2] rfl rfl (by decide) (by decide) hk1 hFc hK
    generalize H1 = H at hP hS ⊢
    have hP : va_P (dC, dI) vwCl [(a8, .inl (c8, 248, .inl it)), (h0, .inr (11, mo g)), (a1, .inl (cK, 248, .inl kd))] H := hP
    have hD : va_D A [(a8, .inl (c8, 248, .inl it)), (h0, .inr (11, mo g)), (a1, .inl (cK, 248, .inl kd))] := hD
    have hK : va_K (dC, dI) vwCl [(cK, .int), (c8, .boolean)] s := hK
    try dsimp only at hw_6
    have k_7 := hw_6
    refine W_toi (y := srt kd M1 N) k_7 ?_
    refine lv_if_ne (tgt := 47) hx hb dX9_isNarrower_15 (by decide) (fun c_8 => ?_) (fun c_8 => ?_)
    · refine lv_iconst (v := 0) hx hb dX9_isNarrower_47 (by decide) ?_
      have hP9 := hP.sub (ws' := [(h0, .inr (11, mo g)), (a1, .inl (cK, 248, .inl kd)), (a8, .inl (c8, 248, .inl it))]) [1, 2, 0] rfl
      have hD9 := hD.sub (ws' := [(h0, .inr (11, mo g)), (a1, .inl (cK, 248, .inl kd)), (a8, .inl (c8, 248, .inl it))]) [1, 2, 0] (by decide) rfl
      have hK9 := hK.sub (tys' := []) [] rfl
      exact W.zret (v := 0) hx hb hr rfl (fun t ht hW => ⟨⟨0, (), rfl, Or.inr ⟨fun h => c_8 h.2.1, rfl⟩, by rw [ht]; exact hP9, va_K.moved hW.alike hK9, hD9⟩, hS.F ht⟩) hS.2.2 dX9_isNarrower_48
    · refine lv_aload_n hx hb dX9_isNarrower_18 rfl (lv_at hl 0 rfl) ?_
      refine va_get (D := (dC, dI)) (ci := 11) (v := .ref a1) (C := RX9) (T := TX9) (N := 60) hx hb hts iRX9 hown hK hP 1 rfl rfl 1 (by decide) (hts (.fieldLink RX9 13 "RecordBenchModel" "kind" "[I") (by decide +kernel)) (fun _ h9 => h9) ((mo_get g (by decide)).trans (congrArg some fh1)) dX9_isNarrower_19 ?_
      refine lv_bipush (v := 31) hx hb dX9_isNarrower_22 (by decide) ?_
      refine lv_iload_n hx hb dX9_isNarrower_24 rfl (lv_at hl 2 rfl) ?_
      refine lv_imul hx hb dX9_isNarrower_25 ?_
      refine lv_iload_n hx hb dX9_isNarrower_26 rfl (lv_at hl 3 rfl) ?_
      refine lv_iadd hx hb dX9_isNarrower_27 ?_
      refine va_iald hx hb hK hP 2 0 rfl rfl (ixN_in hM2 hn_) dX9_isNarrower_28 ?_
      refine W_toi (y := kd (31 * M2 + N)) (by rw [ixN_cl hM2 hn_]) ?_
      refine lv_aload_n hx hb dX9_isNarrower_29 rfl (lv_at hl 0 rfl) ?_
      refine va_get (D := (dC, dI)) (ci := 11) (v := .ref a1) (C := RX9) (T := TX9) (N := 60) hx hb hts iRX9 hown hK hP 1 rfl rfl 1 (by decide) (hts (.fieldLink RX9 13 "RecordBenchModel" "kind" "[I") (by decide +kernel)) (fun _ h9 => h9) ((mo_get g (by decide)).trans (congrArg some fh1)) dX9_isNarrower_30 ?_
      refine lv_bipush (v := 31) hx hb dX9_isNarrower_33 (by decide) ?_
      refine lv_iload_n hx hb dX9_isNarrower_35 rfl (lv_at hl 1 rfl) ?_
      refine lv_imul hx hb dX9_isNarrower_36 ?_
      refine lv_iload_n hx hb dX9_isNarrower_37 rfl (lv_at hl 3 rfl) ?_
      refine lv_iadd hx hb dX9_isNarrower_38 ?_
      refine va_iald hx hb hK hP 2 0 rfl rfl (ixN_in hM1 hn_) dX9_isNarrower_39 ?_
      refine W_toi (y := kd (31 * M1 + N)) (by rw [ixN_cl hM1 hn_]) ?_
      refine lv_icmp_ge (tgt := 47) hx hb dX9_isNarrower_40 (by decide) (fun c_9 => ?_) (fun c_9 => ?_)
      · refine lv_iconst (v := 0) hx hb dX9_isNarrower_47 (by decide) ?_
        have hP9 := hP.sub (ws' := [(h0, .inr (11, mo g)), (a1, .inl (cK, 248, .inl kd)), (a8, .inl (c8, 248, .inl it))]) [1, 2, 0] rfl
        have hD9 := hD.sub (ws' := [(h0, .inr (11, mo g)), (a1, .inl (cK, 248, .inl kd)), (a8, .inl (c8, 248, .inl it))]) [1, 2, 0] (by decide) rfl
        have hK9 := hK.sub (tys' := []) [] rfl
        exact W.zret (v := 0) hx hb hr rfl (fun t ht hW => ⟨⟨0, (), rfl, Or.inr ⟨fun h => h.2.2 c_9, rfl⟩, by rw [ht]; exact hP9, va_K.moved hW.alike hK9, hD9⟩, hS.F ht⟩) hS.2.2 dX9_isNarrower_48
      · refine lv_iconst (v := 1) hx hb dX9_isNarrower_43 (by decide) ?_
        refine lv_goto (tgt := 48) hx hb dX9_isNarrower_44 (by decide) ?_
        have hP9 := hP.sub (ws' := [(h0, .inr (11, mo g)), (a1, .inl (cK, 248, .inl kd)), (a8, .inl (c8, 248, .inl it))]) [1, 2, 0] rfl
        have hD9 := hD.sub (ws' := [(h0, .inr (11, mo g)), (a1, .inl (cK, 248, .inl kd)), (a8, .inl (c8, 248, .inl it))]) [1, 2, 0] (by decide) rfl
        have hK9 := hK.sub (tys' := []) [] rfl
        exact W.zret (v := 1) hx hb hr rfl (fun t ht hW => ⟨⟨1, (), rfl, Or.inl ⟨⟨ho, c_8, c_9⟩, rfl⟩, by rw [ht]; exact hP9, va_K.moved hW.alike hK9, hD9⟩, hS.F ht⟩) hS.2.2 dX9_isNarrower_48
  · refine W.eq (g2 := F0 m 6 ls [.int 0]) rfl ?_
    refine lv_if_eq (tgt := 47) hx hb dX9_isNarrower_6 (by decide) (fun c_10 => ?_) (fun c_10 => absurd (by decide) c_10)
    refine lv_iconst (v := 0) hx hb dX9_isNarrower_47 (by decide) ?_
    have hP9 := hP.sub (ws' := [(h0, .inr (11, mo g)), (a1, .inl (cK, 248, .inl kd)), (a8, .inl (c8, 248, .inl it))]) [0, 1, 2] rfl
    have hD9 := hD.sub (ws' := [(h0, .inr (11, mo g)), (a1, .inl (cK, 248, .inl kd)), (a8, .inl (c8, 248, .inl it))]) [0, 1, 2] (by decide) rfl
    have hK9 := hK.sub (tys' := []) [] rfl
    exact W.zret (v := 0) hx hb hr rfl (fun t ht hW => ⟨⟨0, (), rfl, Or.inr ⟨fun h => ho h.1, rfl⟩, by rw [ht]; exact hP9, va_K.moved hW.alike hK9, hD9⟩, hS.F ht⟩) hS.2.2 dX9_isNarrower_48
def wp_X9_place : List Cond := .code yX9_place cX9_place 4 (some .int) :: ([])
set_option maxHeartbeats 4000000 in
set_option maxRecDepth 100000 in
theorem c_X9_place (l : Launch) (dC : Nat → ClassId) (dI : Nat → Nat → Nat) (a1 : Nat) (a2 : Nat) (a3 : Nat) (a4 : Nat) (sz : Nat) : Met l yX9_place wp_X9_place ({ frames := 0, cells := 0, slots := 0, locals := 0 }) (va_Pc [.int (nI a1), .int (nI a2), .int (nI a3), .int (nI a4)] (Pr (dC, dI) [] [] [] sz)) (va_Qi (fun r : Int32 => (fun _ : Unit => r = nI (((a1 * 8 + a2) * 8 + a3) * 2 + a4))) (Bq (dC, dI) (fun _ : Unit => []) (fun _ : Unit => []) (va_A [] sz)) (va_A [] sz)) 0 0 (va_A [] sz) := by
  refine Met.ofW (cc := cX9_place) (maxL := 4) (ret := (some .int)) (by decide) rfl ?_
  intro p e s m args below meth c s₁ B hml hv
  obtain ⟨rfl, hsz, hP, hK, hD0, hN, hZ, hR⟩ := hv
  have hx := B.exec
  have hb := B.bytes
  have hr := B.returns
  have hts := atoms_spec (ws := wp_X9_place) B.pre
  have hown : s.vm.findClass RX9 = some m.cls := findClass_of_methodNamed B.named
  have hlocks := B.notSynchronized
  subst hsz
  have hD := hD0.self (sz := s.heap.size)
  generalize hAe : va_A [] s.heap.size = A at hD hZ hR ⊢
  have hA : ∀ q : Nat, s.heap.size ≤ q → A q := fun q h => by rw [← hAe]; exact Or.inr h
  have hS : va_S A s.heap s.heap [] := va_S.rf
  have hP : va_P (dC, dI) vwCl [] s.heap := hP
  have hl := lv_entry ([.int (nI a1), .int (nI a2), .int (nI a3), .int (nI a4)]) (n := 4) (Nat.le_of_ble_eq_true rfl)
  rw [lg_entry_eq]
  generalize (lg_sl ([.int (nI a1), .int (nI a2), .int (nI a3), .int (nI a4)]) ++ List.replicate (4 - (lg_sl ([.int (nI a1), .int (nI a2), .int (nI a3), .int (nI a4)])).length) Slot.unset).toArray = ls at hl ⊢
  have hl : lv_has ls 4 [(0, .int (nI a1)), (1, .int (nI a2)), (2, .int (nI a3)), (3, .int (nI a4))] := hl
  refine lv_iload_n hx hb dX9_place_0 rfl (lv_at hl 0 rfl) ?_
  refine lv_bipush (v := 8) hx hb dX9_place_1 (by decide) ?_
  refine lv_imul hx hb dX9_place_3 ?_
  refine W_toi (y := nI (a1 * 8)) (pk_mul a1 8) ?_
  refine lv_iload_n hx hb dX9_place_4 rfl (lv_at hl 1 rfl) ?_
  refine lv_iadd hx hb dX9_place_5 ?_
  refine W_toi (y := nI (a1 * 8 + a2)) (nI_add _ _) ?_
  refine lv_bipush (v := 8) hx hb dX9_place_6 (by decide) ?_
  refine lv_imul hx hb dX9_place_8 ?_
  refine W_toi (y := nI ((a1 * 8 + a2) * 8)) (pk_mul _ 8) ?_
  refine lv_iload_n hx hb dX9_place_9 rfl (lv_at hl 2 rfl) ?_
  refine lv_iadd hx hb dX9_place_10 ?_
  refine W_toi (y := nI ((a1 * 8 + a2) * 8 + a3)) (nI_add _ _) ?_
  refine lv_iconst (v := 2) hx hb dX9_place_11 (by decide) ?_
  refine lv_imul hx hb dX9_place_12 ?_
  refine W_toi (y := nI (((a1 * 8 + a2) * 8 + a3) * 2)) (pk_mul _ 2) ?_
  refine lv_iload_n hx hb dX9_place_13 rfl (lv_at hl 3 rfl) ?_
  refine lv_iadd hx hb dX9_place_14 ?_
  refine W_toi (y := nI (((a1 * 8 + a2) * 8 + a3) * 2 + a4)) (nI_add _ _) ?_
  have hP9 := hP.sub (ws' := []) [] rfl
  have hD9 := hD.sub (ws' := []) [] (by decide) rfl
  have hK9 := hK.sub (tys' := []) [] rfl
  exact W.iret (v := nI (((a1 * 8 + a2) * 8 + a3) * 2 + a4)) hx hb hr (fun t ht hW => ⟨⟨nI (((a1 * 8 + a2) * 8 + a3) * 2 + a4), (), rfl, rfl, by rw [ht]; exact hP9, va_K.moved hW.alike hK9, hD9⟩, hS.F ht⟩) hS.2.2 dX9_place_15
