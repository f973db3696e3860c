theorem dX9_pieceOf_0 : decode cX9_pieceOf 0 = .ok (.iconst 0, 1) := by decide +kernel
theorem dX9_pieceOf_1 : decode cX9_pieceOf 1 = .ok (.istore_n 2, 1) := by decide +kernel
theorem dX9_pieceOf_10 : decode cX9_pieceOf 10 = .ok (.aload_n 0, 1) := by decide +kernel
theorem dX9_pieceOf_11 : decode cX9_pieceOf 11 = .ok (.getfield 84, 3) := by decide +kernel
theorem dX9_pieceOf_14 : decode cX9_pieceOf 14 = .ok (.iload_n 2, 1) := by decide +kernel
theorem dX9_pieceOf_15 : decode cX9_pieceOf 15 = .ok (.iaload, 1) := by decide +kernel
theorem dX9_pieceOf_16 : decode cX9_pieceOf 16 = .ok (.iload_n 1, 1) := by decide +kernel
theorem dX9_pieceOf_17 : decode cX9_pieceOf 17 = .ok (.if_icmp .ne 5, 3) := by decide +kernel
theorem dX9_pieceOf_2 : decode cX9_pieceOf 2 = .ok (.iload_n 2, 1) := by decide +kernel
theorem dX9_pieceOf_20 : decode cX9_pieceOf 20 = .ok (.iload_n 2, 1) := by decide +kernel
theorem dX9_pieceOf_21 : decode cX9_pieceOf 21 = .ok (.ireturn, 1) := by decide +kernel
theorem dX9_pieceOf_22 : decode cX9_pieceOf 22 = .ok (.iinc 2 1, 3) := by decide +kernel
theorem dX9_pieceOf_25 : decode cX9_pieceOf 25 = .ok (.goto (-23), 3) := by decide +kernel
theorem dX9_pieceOf_28 : decode cX9_pieceOf 28 = .ok (.iconst (-1), 1) := by decide +kernel
theorem dX9_pieceOf_29 : decode cX9_pieceOf 29 = .ok (.ireturn, 1) := by decide +kernel
theorem dX9_pieceOf_3 : decode cX9_pieceOf 3 = .ok (.aload_n 0, 1) := by decide +kernel
theorem dX9_pieceOf_4 : decode cX9_pieceOf 4 = .ok (.getfield 291, 3) := by decide +kernel
theorem dX9_pieceOf_7 : decode cX9_pieceOf 7 = .ok (.if_icmp .ge 21, 3) := by decide +kernel
def wp_X9_pieceOf : List Cond := .code yX9_pieceOf cX9_pieceOf 3 (some .int) :: ([.fieldLink RX9 291 "RecordBenchModel" "pieces" "I", .fieldLink RX9 84 "RecordBenchModel" "pieceNumber" "[I"] ++ wsX90)
set_option maxHeartbeats 4000000 in
set_option maxRecDepth 100000 in
theorem c_X9_pieceOf (l : Launch) (dC : Nat → ClassId) (dI : Nat → Nat → Nat) (h0 : Nat) (g : Nat → Value) (pc_ : Nat) (a42 : Nat) (cN : ClassId) (pn : Nat → Int32) (fh41 : g 41 = .int (nI pc_)) (fh42 : g 42 = .ref a42) (p0 : Int32) (hpc : pc_ ≤ 64) (sz : Nat) : Met l yX9_pieceOf wp_X9_pieceOf ({ frames := 0, cells := 0, slots := 0, locals := 0 }) (va_Pc [.ref h0, .int p0] (Pr (dC, dI) [(cN, .int)] [] [(h0, .inr (11, mo g)), (a42, .inl (cN, 64, .inl pn))] sz)) (va_Qi (fun r : Int32 => (fun (k1 : Nat) => (k1 < pc_ ∧ pn k1 = p0 ∧ (∀ q : Nat, q < k1 → ¬ pn q = p0) ∧ r = nI k1) ∨ ((∀ q : Nat, q < pc_ → ¬ pn q = p0) ∧ r = -1))) (Bq (dC, dI) (fun (k1 : Nat) => [(h0, .inr (11, mo g)), (a42, .inl (cN, 64, .inl pn))]) (fun (k1 : Nat) => []) (va_A [(h0, .inr (11, mo g)), (a42, .inl (cN, 64, .inl pn))] sz)) (va_A [(h0, .inr (11, mo g)), (a42, .inl (cN, 64, .inl pn))] sz)) 0 0 (va_A [(h0, .inr (11, mo g)), (a42, .inl (cN, 64, .inl pn))] sz) := by
  refine Met.ofW (cc := cX9_pieceOf) (maxL := 3) (ret := (some .int)) (by decide) rfl ?_
  intro p e s m args below meth c s₁ B hml hv
  obtain ⟨rfl, hsz, hP, hK, hD0, hN, hZ, hR⟩ := hv
  have hx := B.exec
  have hb := B.bytes
  have hr := B.returns
  have hts := atoms_spec (ws := wp_X9_pieceOf) B.pre
  have hown : s.vm.findClass RX9 = some m.cls := findClass_of_methodNamed B.named
  have hlocks := B.notSynchronized
  have iRX9 : ∀ w ∈ u_ws RX9 TX9 60, w ∈ wp_X9_pieceOf := by decide +kernel
  subst hsz
  have hD := hD0.self (sz := s.heap.size)
  generalize hAe : va_A [(h0, .inr (11, mo g)), (a42, .inl (cN, 64, .inl pn))] s.heap.size = A at hD hZ hR ⊢
  have hA : ∀ q : Nat, s.heap.size ≤ q → A q := fun q h => by rw [← hAe]; exact Or.inr h
  have hS : va_S A s.heap s.heap [] := va_S.rf
  have hP : va_P (dC, dI) vwCl [(h0, .inr (11, mo g)), (a42, .inl (cN, 64, .inl pn))] s.heap := hP
  have hl := lv_entry ([.ref h0, .int p0]) (n := 3) (Nat.le_of_ble_eq_true rfl)
  rw [lg_entry_eq]
  generalize (lg_sl ([.ref h0, .int p0]) ++ List.replicate (3 - (lg_sl ([.ref h0, .int p0])).length) Slot.unset).toArray = ls at hl ⊢
  have hl : lv_has ls 3 [(0, .ref h0), (1, .int p0)] := hl
  refine lv_iconst (v := 0) hx hb dX9_pieceOf_0 (by decide) ?_
  refine lv_istore_n (lv' := [(2, .int 0), (0, .ref h0), (1, .int p0)]) hx hb dX9_pieceOf_1 rfl hl (by decide) rfl (fun ls hl => ?_)
  refine W_loop (σ := Nat) (D := (dC, dI)) (A := A) [] (fun (i : Nat) => [(2, .int (nI i)), (0, .ref h0), (1, .int p0)]) (fun (i : Nat) => [(h0, .inr (11, mo g)), (a42, .inl (cN, 64, .inl pn))]) (fun (i : Nat) => (i ≤ pc_) ∧ (∀ q : Nat, q < i → ¬ pn q = p0)) (fun (i : Nat) => pc_ - i) ?_ 0 ⟨(Nat.zero_le _), (fun q h => absurd h (by omega))⟩ _ _ _ (hP.sub (ws' := [(h0, .inr (11, mo g)), (a42, .inl (cN, 64, .inl pn))]) [0, 1] rfl) (hD.sub (ws' := [(h0, .inr (11, mo g)), (a42, .inl (cN, 64, .inl pn))]) [0, 1] (by decide) rfl) hS (lv_sub hl [0, 1, 2] rfl)
  intro u hI H locs ls hP hD hS hl ih
  obtain ⟨i, rfl⟩ : ∃ z, z = u := ⟨_, rfl⟩
  try dsimp only at hI
  obtain ⟨hi, hno⟩ := hI
  have hP : va_P (dC, dI) vwCl [(h0, .inr (11, mo g)), (a42, .inl (cN, 64, .inl pn))] H := hP
  have hD : va_D A [(h0, .inr (11, mo g)), (a42, .inl (cN, 64, .inl pn))] := hD
  have hl : lv_has ls 3 [(2, .int (nI i)), (0, .ref h0), (1, .int p0)] := hl
  refine lv_iload_n hx hb dX9_pieceOf_2 rfl (lv_at hl 0 rfl) ?_
  refine lv_aload_n hx hb dX9_pieceOf_3 rfl (lv_at hl 1 rfl) ?_
  refine va_get (D := (dC, dI)) (ci := 11) (v := .int (nI pc_)) (C := RX9) (T := TX9) (N := 60) hx hb hts iRX9 hown hK hP 0 rfl rfl 41 (by decide) (hts (.fieldLink RX9 291 "RecordBenchModel" "pieces" "I") (by decide +kernel)) (fun _ h9 => h9) ((mo_get g (by decide)).trans (congrArg some fh41)) dX9_pieceOf_4 ?_
  refine lv_icmp_ge (tgt := 28) hx hb dX9_pieceOf_7 (by decide) (fun c_1 => ?_) (fun c_1 => ?_)
  · refine lv_iconst (v := (-1)) hx hb dX9_pieceOf_28 (by decide) ?_
    have hP9 := hP.sub (ws' := [(h0, .inr (11, mo g)), (a42, .inl (cN, 64, .inl pn))]) [0, 1] rfl
    have hD9 := hD.sub (ws' := [(h0, .inr (11, mo g)), (a42, .inl (cN, 64, .inl pn))]) [0, 1] (by decide) rfl
    have hK9 := hK.sub (tys' := []) [] rfl
    exact W.iret (v := (-1)) hx hb hr (fun t ht hW => ⟨⟨(-1), 0, rfl, Or.inr ⟨fun q h => hno q (by have := nI_leN (by omega) (by omega) c_1; omega), rfl⟩, by rw [ht]; exact hP9, va_K.moved hW.alike hK9, hD9⟩, hS.F ht⟩) hS.2.2 dX9_pieceOf_29
  · have hlt : i < pc_ := nI_ltN (by omega) (by omega) c_1
    refine lv_aload_n hx hb dX9_pieceOf_10 rfl (lv_at hl 1 rfl) ?_
    refine va_get (D := (dC, dI)) (ci := 11) (v := .ref a42) (C := RX9) (T := TX9) (N := 60) hx hb hts iRX9 hown hK hP 0 rfl rfl 42 (by decide) (hts (.fieldLink RX9 84 "RecordBenchModel" "pieceNumber" "[I") (by decide +kernel)) (fun _ h9 => h9) ((mo_get g (by decide)).trans (congrArg some fh42)) dX9_pieceOf_11 ?_
    refine lv_iload_n hx hb dX9_pieceOf_14 rfl (lv_at hl 0 rfl) ?_
    refine va_iald hx hb hK hP 1 0 rfl rfl (vp_in_nI (by omega) (by decide)) dX9_pieceOf_15 ?_
    refine W_toi (y := pn i) (by rw [nI_clamp (by omega)]) ?_
    refine lv_iload_n hx hb dX9_pieceOf_16 rfl (lv_at hl 2 rfl) ?_
    refine lv_icmp_ne (tgt := 22) hx hb dX9_pieceOf_17 (by decide) (fun c_2 => ?_) (fun c_2 => ?_)
    · refine lv_iinc (v := nI (i + 1)) (lv' := [(2, .int (nI (i + 1))), (0, .ref h0), (1, .int p0)]) hx hb dX9_pieceOf_22 hl (k := 0) rfl (nI_1 i) (by decide) rfl (fun ls hl => ?_)
      refine lv_goto (tgt := 2) hx hb dX9_pieceOf_25 (by decide) ?_
      exact ih (i + 1) (by show pc_ - (i + 1) < pc_ - i; omega) ⟨(by omega), (fun q h => (Nat.lt_or_ge q i).elim (fun h3 => hno q h3) (fun h3 => by rw [show q = i by omega]; exact c_2))⟩ _ _ _ (hP.sub (ws' := [(h0, .inr (11, mo g)), (a42, .inl (cN, 64, .inl pn))]) [0, 1] rfl) (hD.sub (ws' := [(h0, .inr (11, mo g)), (a42, .inl (cN, 64, .inl pn))]) [0, 1] (by decide) rfl) hS (lv_sub hl [0, 1, 2] rfl)
    · refine lv_iload_n hx hb dX9_pieceOf_20 rfl (lv_at hl 0 rfl) ?_
      have hP9 := hP.sub (ws' := [(h0, .inr (11, mo g)), (a42, .inl (cN, 64, .inl pn))]) [0, 1] rfl
      have hD9 := hD.sub (ws' := [(h0, .inr (11, mo g)), (a42, .inl (cN, 64, .inl pn))]) [0, 1] (by decide) rfl
      have hK9 := hK.sub (tys' := []) [] rfl
      exact W.iret (v := nI i) hx hb hr (fun t ht hW => ⟨⟨nI i, i, rfl, Or.inl ⟨hlt, c_2, hno, rfl⟩, by rw [ht]; exact hP9, va_K.moved hW.alike hK9, hD9⟩, hS.F ht⟩) hS.2.2 dX9_pieceOf_21
