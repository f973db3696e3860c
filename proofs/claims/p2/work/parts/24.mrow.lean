theorem dX9_isText_0 : decode cX9_isText 0 = .ok (.iload_n 2, 1) := by decide +kernel
theorem dX9_isText_1 : decode cX9_isText 1 = .ok (.iload_n 1, 1) := by decide +kernel
theorem dX9_isText_10 : decode cX9_isText 10 = .ok (.iload_n 1, 1) := by decide +kernel
theorem dX9_isText_11 : decode cX9_isText 11 = .ok (.istore_n 3, 1) := by decide +kernel
theorem dX9_isText_12 : decode cX9_isText 12 = .ok (.iload_n 3, 1) := by decide +kernel
theorem dX9_isText_13 : decode cX9_isText 13 = .ok (.iload_n 2, 1) := by decide +kernel
theorem dX9_isText_14 : decode cX9_isText 14 = .ok (.if_icmp .ge 27, 3) := by decide +kernel
theorem dX9_isText_17 : decode cX9_isText 17 = .ok (.aload_n 0, 1) := by decide +kernel
theorem dX9_isText_18 : decode cX9_isText 18 = .ok (.iload_n 3, 1) := by decide +kernel
theorem dX9_isText_19 : decode cX9_isText 19 = .ok (.iaload, 1) := by decide +kernel
theorem dX9_isText_2 : decode cX9_isText 2 = .ok (.isub, 1) := by decide +kernel
theorem dX9_isText_20 : decode cX9_isText 20 = .ok (.bipush 32, 2) := by decide +kernel
theorem dX9_isText_22 : decode cX9_isText 22 = .ok (.if_icmp .lt 11, 3) := by decide +kernel
theorem dX9_isText_25 : decode cX9_isText 25 = .ok (.aload_n 0, 1) := by decide +kernel
theorem dX9_isText_26 : decode cX9_isText 26 = .ok (.iload_n 3, 1) := by decide +kernel
theorem dX9_isText_27 : decode cX9_isText 27 = .ok (.iaload, 1) := by decide +kernel
theorem dX9_isText_28 : decode cX9_isText 28 = .ok (.bipush 126, 2) := by decide +kernel
theorem dX9_isText_3 : decode cX9_isText 3 = .ok (.bipush 12, 2) := by decide +kernel
theorem dX9_isText_30 : decode cX9_isText 30 = .ok (.if_icmp .le 5, 3) := by decide +kernel
theorem dX9_isText_33 : decode cX9_isText 33 = .ok (.iconst 0, 1) := by decide +kernel
theorem dX9_isText_34 : decode cX9_isText 34 = .ok (.ireturn, 1) := by decide +kernel
theorem dX9_isText_35 : decode cX9_isText 35 = .ok (.iinc 3 1, 3) := by decide +kernel
theorem dX9_isText_38 : decode cX9_isText 38 = .ok (.goto (-26), 3) := by decide +kernel
theorem dX9_isText_41 : decode cX9_isText 41 = .ok (.iconst 1, 1) := by decide +kernel
theorem dX9_isText_42 : decode cX9_isText 42 = .ok (.ireturn, 1) := by decide +kernel
theorem dX9_isText_5 : decode cX9_isText 5 = .ok (.if_icmp .le 5, 3) := by decide +kernel
theorem dX9_isText_8 : decode cX9_isText 8 = .ok (.iconst 0, 1) := by decide +kernel
theorem dX9_isText_9 : decode cX9_isText 9 = .ok (.ireturn, 1) := by decide +kernel
theorem dX9_loads_0 : decode cX9_loads 0 = .ok (.iconst 0, 1) := by decide +kernel
theorem dX9_loads_1 : decode cX9_loads 1 = .ok (.istore_n 2, 1) := by decide +kernel
theorem dX9_loads_12 : decode cX9_loads 12 = .ok (.aload_n 0, 1) := by decide +kernel
theorem dX9_loads_13 : decode cX9_loads 13 = .ok (.getfield 81, 3) := by decide +kernel
theorem dX9_loads_16 : decode cX9_loads 16 = .ok (.iload_n 2, 1) := by decide +kernel
theorem dX9_loads_17 : decode cX9_loads 17 = .ok (.aload_n 0, 1) := by decide +kernel
theorem dX9_loads_18 : decode cX9_loads 18 = .ok (.getfield 75, 3) := by decide +kernel
theorem dX9_loads_2 : decode cX9_loads 2 = .ok (.iload_n 2, 1) := by decide +kernel
theorem dX9_loads_21 : decode cX9_loads 21 = .ok (.bipush 120, 2) := by decide +kernel
theorem dX9_loads_23 : decode cX9_loads 23 = .ok (.iload_n 1, 1) := by decide +kernel
theorem dX9_loads_24 : decode cX9_loads 24 = .ok (.imul, 1) := by decide +kernel
theorem dX9_loads_25 : decode cX9_loads 25 = .ok (.iload_n 2, 1) := by decide +kernel
theorem dX9_loads_26 : decode cX9_loads 26 = .ok (.iadd, 1) := by decide +kernel
theorem dX9_loads_27 : decode cX9_loads 27 = .ok (.iaload, 1) := by decide +kernel
theorem dX9_loads_28 : decode cX9_loads 28 = .ok (.iastore, 1) := by decide +kernel
theorem dX9_loads_29 : decode cX9_loads 29 = .ok (.iinc 2 1, 3) := by decide +kernel
theorem dX9_loads_3 : decode cX9_loads 3 = .ok (.aload_n 0, 1) := by decide +kernel
theorem dX9_loads_32 : decode cX9_loads 32 = .ok (.goto (-30), 3) := by decide +kernel
theorem dX9_loads_35 : decode cX9_loads 35 = .ok (.return_, 1) := by decide +kernel
theorem dX9_loads_4 : decode cX9_loads 4 = .ok (.getfield 78, 3) := by decide +kernel
theorem dX9_loads_7 : decode cX9_loads 7 = .ok (.iload_n 1, 1) := by decide +kernel
theorem dX9_loads_8 : decode cX9_loads 8 = .ok (.iaload, 1) := by decide +kernel
theorem dX9_loads_9 : decode cX9_loads 9 = .ok (.if_icmp .ge 26, 3) := by decide +kernel
def wp_X9_isText : List Cond := .code yX9_isText cX9_isText 4 (some .boolean) :: ([])
set_option maxHeartbeats 4000000 in
set_option maxRecDepth 100000 in
theorem c_X9_isText (l : Launch) (dC : Nat → ClassId) (dI : Nat → Nat → Nat) (ao : Nat) (cA : ClassId) (K : Nat) (fo : Nat → Int32) (x : Nat) (y : Nat) (hxy : x ≤ y) (hyK : y ≤ K) (hK4 : K ≤ 400) (sz : Nat) : Met l yX9_isText wp_X9_isText ({ frames := 0, cells := 0, slots := 0, locals := 0 }) (va_Pc [.ref ao, .int (nI x), .int (nI y)] (Pr (dC, dI) [(cA, .int)] [] [(ao, .inl (cA, K, .inl fo))] sz)) (va_Qi (fun r : Int32 => (fun _ : Unit => (txt fo x y ∧ r = 1) ∨ (¬ txt fo x y ∧ r = 0))) (Bq (dC, dI) (fun _ : Unit => [(ao, .inl (cA, K, .inl fo))]) (fun _ : Unit => []) (va_A [(ao, .inl (cA, K, .inl fo))] sz)) (va_A [(ao, .inl (cA, K, .inl fo))] sz)) 0 0 (va_A [(ao, .inl (cA, K, .inl fo))] sz) := by
  refine Met.ofW (cc := cX9_isText) (maxL := 4) (ret := (some .boolean)) (by decide) rfl ?_
  intro p e s m args below meth c s₁ B hml hv
  obtain ⟨rfl, hsz, hP, hK, hD0, hN, hZ, hR⟩ := hv
  have hx := B.exec
  have hb := B.bytes
  have hr := B.returns
  have hts := atoms_spec (ws := wp_X9_isText) B.pre
  have hown : s.vm.findClass RX9 = some m.cls := findClass_of_methodNamed B.named
  have hlocks := B.notSynchronized
  subst hsz
  have hD := hD0.self (sz := s.heap.size)
  generalize hAe : va_A [(ao, .inl (cA, K, .inl fo))] s.heap.size = A at hD hZ hR ⊢
  have hA : ∀ q : Nat, s.heap.size ≤ q → A q := fun q h => by rw [← hAe]; exact Or.inr h
  have hS : va_S A s.heap s.heap [] := va_S.rf
  have hP : va_P (dC, dI) vwCl [(ao, .inl (cA, K, .inl fo))] s.heap := hP
  have hl := lv_entry ([.ref ao, .int (nI x), .int (nI y)]) (n := 4) (Nat.le_of_ble_eq_true rfl)
  rw [lg_entry_eq]
  generalize (lg_sl ([.ref ao, .int (nI x), .int (nI y)]) ++ List.replicate (4 - (lg_sl ([.ref ao, .int (nI x), .int (nI y)])).length) Slot.unset).toArray = ls at hl ⊢
  have hl : lv_has ls 4 [(0, .ref ao), (1, .int (nI x)), (2, .int (nI y))] := hl
  refine lv_iload_n hx hb dX9_isText_0 rfl (lv_at hl 2 rfl) ?_
  refine lv_iload_n hx hb dX9_isText_1 rfl (lv_at hl 1 rfl) ?_
  refine lv_isub hx hb dX9_isText_2 ?_
  refine W_toi (y := nI (y - x)) (pk_sub hxy) ?_
  refine lv_bipush (v := 12) hx hb dX9_isText_3 (by decide) ?_
  refine lv_icmp_le (tgt := 10) hx hb dX9_isText_5 (by decide) (fun c_1 => ?_) (fun c_1 => ?_)
  · have h12 : y - x ≤ 12 := nI_leN (by decide) (by omega) c_1
    refine lv_iload_n hx hb dX9_isText_10 rfl (lv_at hl 1 rfl) ?_
    refine lv_istore_n (lv' := [(3, .int (nI x)), (0, .ref ao), (1, .int (nI x)), (2, .int (nI y))]) hx hb dX9_isText_11 rfl hl (by decide) rfl (fun ls hl => ?_)
    refine W_loop (σ := Nat) (D := (dC, dI)) (A := A) [] (fun (i : Nat) => [(3, .int (nI i)), (0, .ref ao), (1, .int (nI x)), (2, .int (nI y))]) (fun (i : Nat) => [(ao, .inl (cA, K, .inl fo))]) (fun (i : Nat) => (x ≤ i) ∧ (i ≤ y) ∧ (∀ q : Nat, x ≤ q → q < i → isT (fo q))) (fun (i : Nat) => y - i) ?_ x ⟨(Nat.le_refl _), hxy, (fun q h1 h2 => absurd h1 (by omega))⟩ _ _ _ (hP.sub (ws' := [(ao, .inl (cA, K, .inl fo))]) [0] rfl) (hD.sub (ws' := [(ao, .inl (cA, K, .inl fo))]) [0] (by decide) rfl) hS (lv_sub hl [0, 1, 2, 3] rfl)
    intro u hI H locs ls hP hD hS hl ih
    obtain ⟨i, rfl⟩ : ∃ z, z = u := ⟨_, rfl⟩
    try dsimp only at hI
    obtain ⟨hi1, hi2, hok⟩ := hI
    have hP : va_P (dC, dI) vwCl [(ao, .inl (cA, K, .inl fo))] H := hP
    have hD : va_D A [(ao, .inl (cA, K, .inl fo))] := hD
    have hl : lv_has ls 4 [(3, .int (nI i)), (0, .ref ao), (1, .int (nI x)), (2, .int (nI y))] := hl
    refine lv_iload_n hx hb dX9_isText_12 rfl (lv_at hl 0 rfl) ?_
    refine lv_iload_n hx hb dX9_isText_13 rfl (lv_at hl 3 rfl) ?_
    refine lv_icmp_ge (tgt := 41) hx hb dX9_isText_14 (by decide) (fun c_2 => ?_) (fun c_2 => ?_)
    · refine lv_iconst (v := 1) hx hb dX9_isText_41 (by decide) ?_
      have hP9 := hP.sub (ws' := [(ao, .inl (cA, K, .inl fo))]) [0] rfl
      have hD9 := hD.sub (ws' := [(ao, .inl (cA, K, .inl fo))]) [0] (by decide) rfl
      have hK9 := hK.sub (tys' := []) [] rfl
      exact W.zret (v := 1) hx hb hr rfl (fun t ht hW => ⟨⟨1, (), rfl, Or.inl ⟨⟨h12, fun q h1 h2 => hok q h1 (by have := nI_leN (by omega) (by omega) c_2; omega)⟩, rfl⟩, by rw [ht]; exact hP9, va_K.moved hW.alike hK9, hD9⟩, hS.F ht⟩) hS.2.2 dX9_isText_42
    · have hlt : i < y := nI_ltN (by omega) (by omega) c_2
      refine lv_aload_n hx hb dX9_isText_17 rfl (lv_at hl 1 rfl) ?_
      refine lv_iload_n hx hb dX9_isText_18 rfl (lv_at hl 0 rfl) ?_
      refine va_iald hx hb hK hP 0 0 rfl rfl (vp_in_nI (by omega) (by omega)) dX9_isText_19 ?_
      refine W_toi (y := fo i) (by rw [nI_clamp (by omega)]) ?_
      refine lv_bipush (v := 32) hx hb dX9_isText_20 (by decide) ?_
      refine lv_icmp_lt (tgt := 33) hx hb dX9_isText_22 (by decide) (fun c_3 => ?_) (fun c_3 => ?_)
      · refine lv_iconst (v := 0) hx hb dX9_isText_33 (by decide) ?_
        have hP9 := hP.sub (ws' := [(ao, .inl (cA, K, .inl fo))]) [0] rfl
        have hD9 := hD.sub (ws' := [(ao, .inl (cA, K, .inl fo))]) [0] (by decide) rfl
        have hK9 := hK.sub (tys' := []) [] rfl
        exact W.zret (v := 0) hx hb hr rfl (fun t ht hW => ⟨⟨0, (), rfl, Or.inr ⟨fun h => (h.2 i hi1 hlt).1 c_3, rfl⟩, by rw [ht]; exact hP9, va_K.moved hW.alike hK9, hD9⟩, hS.F ht⟩) hS.2.2 dX9_isText_34
      · refine lv_aload_n hx hb dX9_isText_25 rfl (lv_at hl 1 rfl) ?_
        refine lv_iload_n hx hb dX9_isText_26 rfl (lv_at hl 0 rfl) ?_
        refine va_iald hx hb hK hP 0 0 rfl rfl (vp_in_nI (by omega) (by omega)) dX9_isText_27 ?_
        refine W_toi (y := fo i) (by rw [nI_clamp (by omega)]) ?_
        refine lv_bipush (v := 126) hx hb dX9_isText_28 (by decide) ?_
        refine lv_icmp_le (tgt := 35) hx hb dX9_isText_30 (by decide) (fun c_4 => ?_) (fun c_4 => ?_)
        · have hti : isT (fo i) := ⟨c_3, c_4⟩
          refine lv_iinc (v := nI (i + 1)) (lv' := [(3, .int (nI (i + 1))), (0, .ref ao), (1, .int (nI x)), (2, .int (nI y))]) hx hb dX9_isText_35 hl (k := 0) rfl (nI_1 i) (by decide) rfl (fun ls hl => ?_)
          refine lv_goto (tgt := 12) hx hb dX9_isText_38 (by decide) ?_
          exact ih (i + 1) (by show y - (i + 1) < y - i; omega) ⟨(by omega), (by omega), (fun q h1 h2 => (Nat.lt_or_ge q i).elim (fun h3 => hok q h1 h3) (fun h3 => by rw [show q = i by omega]; exact hti))⟩ _ _ _ (hP.sub (ws' := [(ao, .inl (cA, K, .inl fo))]) [0] rfl) (hD.sub (ws' := [(ao, .inl (cA, K, .inl fo))]) [0] (by decide) rfl) hS (lv_sub hl [0, 1, 2, 3] rfl)
        · refine lv_iconst (v := 0) hx hb dX9_isText_33 (by decide) ?_
          have hP9 := hP.sub (ws' := [(ao, .inl (cA, K, .inl fo))]) [0] rfl
          have hD9 := hD.sub (ws' := [(ao, .inl (cA, K, .inl fo))]) [0] (by decide) rfl
          have hK9 := hK.sub (tys' := []) [] rfl
          exact W.zret (v := 0) hx hb hr rfl (fun t ht hW => ⟨⟨0, (), rfl, Or.inr ⟨fun h => c_4 (h.2 i hi1 hlt).2, rfl⟩, by rw [ht]; exact hP9, va_K.moved hW.alike hK9, hD9⟩, hS.F ht⟩) hS.2.2 dX9_isText_34
  · refine lv_iconst (v := 0) hx hb dX9_isText_8 (by decide) ?_
    have hP9 := hP.sub (ws' := [(ao, .inl (cA, K, .inl fo))]) [0] rfl
    have hD9 := hD.sub (ws' := [(ao, .inl (cA, K, .inl fo))]) [0] (by decide) rfl
    have hK9 := hK.sub (tys' := []) [] rfl
    exact W.zret (v := 0) hx hb hr rfl (fun t ht hW => ⟨⟨0, (), rfl, Or.inr ⟨fun h => c_1 (nI_le h.1 (by decide)), rfl⟩, by rw [ht]; exact hP9, va_K.moved hW.alike hK9, hD9⟩, hS.F ht⟩) hS.2.2 dX9_isText_9
def wp_X9_loads : List Cond := .code yX9_loads cX9_loads 3 none :: ([.fieldLink RX9 78 "RecordBenchModel" "long0" "[I", .fieldLink RX9 81 "RecordBenchModel" "row" "[I", .fieldLink RX9 75 "RecordBenchModel" "bytes" "[I"] ++ wsX90)
set_option maxHeartbeats 4000000 in
set_option maxRecDepth 100000 in
theorem c_X9_loads (l : Launch) (dC : Nat → ClassId) (dI : Nat → Nat → Nat) (h0 : Nat) (g : Nat → Value) (a28 : Nat) (cB : ClassId) (fB : Nat → Int32) (a29 : Nat) (cL : ClassId) (fL : Nat → Int32) (a30 : Nat) (cR : ClassId) (fW : Nat → Int32) (r0 : Nat) (L : Nat) (fh28 : g 28 = .ref a28) (fh29 : g 29 = .ref a29) (fh30 : g 30 = .ref a30) (hr0 : r0 < 4) (hL : L ≤ 120) (hfL : fL r0 = nI L) (sz : Nat) : Met l yX9_loads wp_X9_loads ({ frames := 0, cells := 0, slots := 0, locals := 0 }) (va_Pc [.ref h0, .int (nI r0)] (Pr (dC, dI) [(cB, .int), (cL, .int), (cR, .int)] [] [(h0, .inr (11, mo g)), (a28, .inl (cB, 480, .inl fB)), (a29, .inl (cL, 4, .inl fL)), (a30, .inl (cR, 160, .inl fW))] sz)) (va_Qv (fun (fW1 : Nat → Int32) => (∀ q : Nat, q < L → fW1 q = fB (120 * r0 + q)) ∧ (∀ q : Nat, L ≤ q → fW1 q = fW q)) (Bq (dC, dI) (fun (fW1 : Nat → Int32) => [(h0, .inr (11, mo g)), (a28, .inl (cB, 480, .inl fB)), (a29, .inl (cL, 4, .inl fL)), (a30, .inl (cR, 160, .inl fW1))]) (fun (fW1 : Nat → Int32) => []) (va_A [(h0, .inr (11, mo g)), (a28, .inl (cB, 480, .inl fB)), (a29, .inl (cL, 4, .inl fL)), (a30, .inl (cR, 160, .inl fW))] sz)) (va_A [(h0, .inr (11, mo g)), (a28, .inl (cB, 480, .inl fB)), (a29, .inl (cL, 4, .inl fL)), (a30, .inl (cR, 160, .inl fW))] sz)) 0 0 (va_A [(h0, .inr (11, mo g)), (a28, .inl (cB, 480, .inl fB)), (a29, .inl (cL, 4, .inl fL)), (a30, .inl (cR, 160, .inl fW))] sz) := by
  refine Met.ofW (cc := cX9_loads) (maxL := 3) (ret := none) (by decide) rfl ?_
  intro p e s m args below meth c s₁ B hml hv
  obtain ⟨rfl, hsz, hP, hK, hD0, hN, hZ, hR⟩ := hv
  have hx := B.exec
  have hb := B.bytes
  have hr := B.returns
  have hts := atoms_spec (ws := wp_X9_loads) B.pre
  have hown : s.vm.findClass RX9 = some m.cls := findClass_of_methodNamed B.named
  have hlocks := B.notSynchronized
  have iRX9 : ∀ w ∈ u_ws RX9 TX9 60, w ∈ wp_X9_loads := by decide +kernel
  subst hsz
  have hD := hD0.self (sz := s.heap.size)
  generalize hAe : va_A [(h0, .inr (11, mo g)), (a28, .inl (cB, 480, .inl fB)), (a29, .inl (cL, 4, .inl fL)), (a30, .inl (cR, 160, .inl fW))] s.heap.size = A at hD hZ hR ⊢
  have hA : ∀ q : Nat, s.heap.size ≤ q → A q := fun q h => by rw [← hAe]; exact Or.inr h
  have hS : va_S A s.heap s.heap [] := va_S.rf
  have hP : va_P (dC, dI) vwCl [(h0, .inr (11, mo g)), (a28, .inl (cB, 480, .inl fB)), (a29, .inl (cL, 4, .inl fL)), (a30, .inl (cR, 160, .inl fW))] s.heap := hP
  have hl := lv_entry ([.ref h0, .int (nI r0)]) (n := 3) (Nat.le_of_ble_eq_true rfl)
  rw [lg_entry_eq]
  generalize (lg_sl ([.ref h0, .int (nI r0)]) ++ List.replicate (3 - (lg_sl ([.ref h0, .int (nI r0)])).length) Slot.unset).toArray = ls at hl ⊢
  have hl : lv_has ls 3 [(0, .ref h0), (1, .int (nI r0))] := hl
  refine lv_iconst (v := 0) hx hb dX9_loads_0 (by decide) ?_
  refine lv_istore_n (lv' := [(2, .int 0), (0, .ref h0), (1, .int (nI r0))]) hx hb dX9_loads_1 rfl hl (by decide) rfl (fun ls hl => ?_)
  refine W_loop (σ := Nat × (Nat → Int32)) (D := (dC, dI)) (A := A) [] (fun (u : Nat × (Nat → Int32)) => match u with | (i, fW2) => [(2, .int (nI i)), (0, .ref h0), (1, .int (nI r0))]) (fun (u : Nat × (Nat → Int32)) => match u with | (i, fW2) => [(h0, .inr (11, mo g)), (a28, .inl (cB, 480, .inl fB)), (a29, .inl (cL, 4, .inl fL)), (a30, .inl (cR, 160, .inl fW2))]) (fun (u : Nat × (Nat → Int32)) => match u with | (i, fW2) => (i ≤ L) ∧ (∀ q : Nat, q < i → fW2 q = fB (120 * r0 + q)) ∧ (∀ q : Nat, i ≤ q → fW2 q = fW q)) (fun (u : Nat × (Nat → Int32)) => match u with | (i, fW2) => L - i) ?_ (0, fW) ⟨(Nat.zero_le _), (fun q h => absurd h (by omega)), (fun _ _ => rfl)⟩ _ _ _ (hP.sub (ws' := [(h0, .inr (11, mo g)), (a28, .inl (cB, 480, .inl fB)), (a29, .inl (cL, 4, .inl fL)), (a30, .inl (cR, 160, .inl fW))]) [0, 1, 2, 3] rfl) (hD.sub (ws' := [(h0, .inr (11, mo g)), (a28, .inl (cB, 480, .inl fB)), (a29, .inl (cL, 4, .inl fL)), (a30, .inl (cR, 160, .inl fW))]) [0, 1, 2, 3] (by decide) rfl) hS (lv_sub hl [0, 1, 2] rfl)
  intro u hI H locs ls hP hD hS hl ih
  obtain ⟨i, fW2⟩ := u
  try dsimp only at hI
  obtain ⟨hi, hw1, hw2⟩ := hI
  have hP : va_P (dC, dI) vwCl [(h0, .inr (11, mo g)), (a28, .inl (cB, 480, .inl fB)), (a29, .inl (cL, 4, .inl fL)), (a30, .inl (cR, 160, .inl fW2))] H := hP
  have hD : va_D A [(h0, .inr (11, mo g)), (a28, .inl (cB, 480, .inl fB)), (a29, .inl (cL, 4, .inl fL)), (a30, .inl (cR, 160, .inl fW2))] := hD
  have hl : lv_has ls 3 [(2, .int (nI i)), (0, .ref h0), (1, .int (nI r0))] := hl
  refine lv_iload_n hx hb dX9_loads_2 rfl (lv_at hl 0 rfl) ?_
  refine lv_aload_n hx hb dX9_loads_3 rfl (lv_at hl 1 rfl) ?_
  refine va_get (D := (dC, dI)) (ci := 11) (v := .ref a29) (C := RX9) (T := TX9) (N := 60) hx hb hts iRX9 hown hK hP 0 rfl rfl 29 (by decide) (hts (.fieldLink RX9 78 "RecordBenchModel" "long0" "[I") (by decide +kernel)) (fun _ h9 => h9) ((mo_get g (by decide)).trans (congrArg some fh29)) dX9_loads_4 ?_
  refine lv_iload_n hx hb dX9_loads_7 rfl (lv_at hl 2 rfl) ?_
  refine va_iald hx hb hK hP 2 1 rfl rfl (vp_in_nI (by omega) (by decide)) dX9_loads_8 ?_
  refine W_toi (y := nI L) (by rw [nI_clamp (by omega)]; exact hfL) ?_
  refine lv_icmp_ge (tgt := 35) hx hb dX9_loads_9 (by decide) (fun c_1 => ?_) (fun c_1 => ?_)
  · have hP9 := hP.sub (ws' := [(h0, .inr (11, mo g)), (a28, .inl (cB, 480, .inl fB)), (a29, .inl (cL, 4, .inl fL)), (a30, .inl (cR, 160, .inl fW2))]) [0, 1, 2, 3] rfl
    have hD9 := hD.sub (ws' := [(h0, .inr (11, mo g)), (a28, .inl (cB, 480, .inl fB)), (a29, .inl (cL, 4, .inl fL)), (a30, .inl (cR, 160, .inl fW2))]) [0, 1, 2, 3] (by decide) rfl
    have hK9 := hK.sub (tys' := []) [] rfl
    exact W.vret hx hb hr (fun t ht hW => ⟨⟨fW2, rfl, ⟨(fun q h => hw1 q (by have := nI_leN (by omega) (by omega) c_1; omega)), (fun q h => hw2 q (by omega))⟩, by rw [ht]; exact hP9, va_K.moved hW.alike hK9, hD9⟩, hS.F ht⟩) hS.2.2 dX9_loads_35
  · have hlt : i < L := nI_ltN (by omega) (by omega) c_1
    refine lv_aload_n hx hb dX9_loads_12 rfl (lv_at hl 1 rfl) ?_
    refine va_get (D := (dC, dI)) (ci := 11) (v := .ref a30) (C := RX9) (T := TX9) (N := 60) hx hb hts iRX9 hown hK hP 0 rfl rfl 30 (by decide) (hts (.fieldLink RX9 81 "RecordBenchModel" "row" "[I") (by decide +kernel)) (fun _ h9 => h9) ((mo_get g (by decide)).trans (congrArg some fh30)) dX9_loads_13 ?_
    refine lv_iload_n hx hb dX9_loads_16 rfl (lv_at hl 0 rfl) ?_
    refine lv_aload_n hx hb dX9_loads_17 rfl (lv_at hl 1 rfl) ?_
    refine va_get (D := (dC, dI)) (ci := 11) (v := .ref a28) (C := RX9) (T := TX9) (N := 60) hx hb hts iRX9 hown hK hP 0 rfl rfl 28 (by decide) (hts (.fieldLink RX9 75 "RecordBenchModel" "bytes" "[I") (by decide +kernel)) (fun _ h9 => h9) ((mo_get g (by decide)).trans (congrArg some fh28)) dX9_loads_18 ?_
    refine lv_bipush (v := 120) hx hb dX9_loads_21 (by decide) ?_
    refine lv_iload_n hx hb dX9_loads_23 rfl (lv_at hl 2 rfl) ?_
    refine lv_imul hx hb dX9_loads_24 ?_
    refine lv_iload_n hx hb dX9_loads_25 rfl (lv_at hl 0 rfl) ?_
    refine lv_iadd hx hb dX9_loads_26 ?_
    refine va_iald hx hb hK hP 1 0 rfl rfl (ixR_in hr0 (by omega)) dX9_loads_27 ?_
    refine W_toi (y := fB (120 * r0 + i)) (by rw [ixR_cl hr0 (by omega)]) ?_
    refine va_iast hx hb hK hP hD hS 3 2 rfl rfl (vp_in_nI (by omega) (by decide)) dX9_loads_28 (fun H locs hP hD hS => ?_)
    obtain ⟨f_2, ef_2⟩ : ∃ y : Nat → Int32, y = upd fW2 (nI i : Int32).toNatClampNeg (fB (120 * r0 + i)) := ⟨_, rfl⟩
    have hP : va_P (dC, dI) vwCl [(h0, .inr (11, mo g)), (a28, .inl (cB, 480, .inl fB)), (a29, .inl (cL, 4, .inl fL)), (a30, .inl (cR, 160, .inl f_2))] H := by rw [ef_2]; exact hP
    have hD : va_D A [(h0, .inr (11, mo g)), (a28, .inl (cB, 480, .inl fB)), (a29, .inl (cL, 4, .inl fL)), (a30, .inl (cR, 160, .inl f_2))] := by rw [ef_2]; exact hD
    refine lv_iinc (v := nI (i + 1)) (lv' := [(2, .int (nI (i + 1))), (0, .ref h0), (1, .int (nI r0))]) hx hb dX9_loads_29 hl (k := 0) rfl (nI_1 i) (by decide) rfl (fun ls hl => ?_)
    refine lv_goto (tgt := 2) hx hb dX9_loads_32 (by decide) ?_
    exact ih ((i + 1), f_2) (by show L - (i + 1) < L - i; omega) ⟨(by omega), (fun q h => by rw [ef_2, nI_clamp (by omega)]; exact (Nat.lt_or_ge q i).elim (fun h3 => (pk_un (by omega)).trans (hw1 q h3)) (fun h3 => by rw [show q = i by omega, pk_us])), (fun q h => by rw [ef_2, nI_clamp (by omega), pk_un (by omega)]; exact hw2 q (by omega))⟩ _ _ _ (hP.sub (ws' := [(h0, .inr (11, mo g)), (a28, .inl (cB, 480, .inl fB)), (a29, .inl (cL, 4, .inl fL)), (a30, .inl (cR, 160, .inl f_2))]) [0, 1, 2, 3] rfl) (hD.sub (ws' := [(h0, .inr (11, mo g)), (a28, .inl (cB, 480, .inl fB)), (a29, .inl (cL, 4, .inl fL)), (a30, .inl (cR, 160, .inl f_2))]) [0, 1, 2, 3] (by decide) rfl) hS (lv_sub hl [0, 1, 2] rfl)
