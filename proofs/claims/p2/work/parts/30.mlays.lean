theorem dX9_lays_0 : decode cX9_lays 0 = .ok (.aload_n 0, 1) := by decide +kernel
theorem dX9_lays_1 : decode cX9_lays 1 = .ok (.getfield 114, 3) := by decide +kernel
theorem dX9_lays_10 : decode cX9_lays 10 = .ok (.getfield 117, 3) := by decide +kernel
theorem dX9_lays_13 : decode cX9_lays 13 = .ok (.iload_n 1, 1) := by decide +kernel
theorem dX9_lays_14 : decode cX9_lays 14 = .ok (.iaload, 1) := by decide +kernel
theorem dX9_lays_15 : decode cX9_lays 15 = .ok (.iadd, 1) := by decide +kernel
theorem dX9_lays_16 : decode cX9_lays 16 = .ok (.iload_n 2, 1) := by decide +kernel
theorem dX9_lays_17 : decode cX9_lays 17 = .ok (.iastore, 1) := by decide +kernel
theorem dX9_lays_18 : decode cX9_lays 18 = .ok (.aload_n 0, 1) := by decide +kernel
theorem dX9_lays_19 : decode cX9_lays 19 = .ok (.getfield 117, 3) := by decide +kernel
theorem dX9_lays_22 : decode cX9_lays 22 = .ok (.iload_n 1, 1) := by decide +kernel
theorem dX9_lays_23 : decode cX9_lays 23 = .ok (.dup2, 1) := by decide +kernel
theorem dX9_lays_24 : decode cX9_lays 24 = .ok (.iaload, 1) := by decide +kernel
theorem dX9_lays_25 : decode cX9_lays 25 = .ok (.iconst 1, 1) := by decide +kernel
theorem dX9_lays_26 : decode cX9_lays 26 = .ok (.iadd, 1) := by decide +kernel
theorem dX9_lays_27 : decode cX9_lays 27 = .ok (.iastore, 1) := by decide +kernel
theorem dX9_lays_28 : decode cX9_lays 28 = .ok (.return_, 1) := by decide +kernel
theorem dX9_lays_4 : decode cX9_lays 4 = .ok (.sipush 160, 3) := by decide +kernel
theorem dX9_lays_7 : decode cX9_lays 7 = .ok (.iload_n 1, 1) := by decide +kernel
theorem dX9_lays_8 : decode cX9_lays 8 = .ok (.imul, 1) := by decide +kernel
theorem dX9_lays_9 : decode cX9_lays 9 = .ok (.aload_n 0, 1) := by decide +kernel
def wp_X9_lays : List Cond := .code yX9_lays cX9_lays 3 none :: ([.fieldLink RX9 114 "RecordBenchModel" "laid" "[I", .fieldLink RX9 117 "RecordBenchModel" "laidLong" "[I"] ++ wsX90)
set_option maxHeartbeats 4000000 in
set_option maxRecDepth 100000 in
theorem c_X9_lays (l : Launch) (dC : Nat → ClassId) (dI : Nat → Nat → Nat) (h0 : Nat) (g : Nat → Value) (a52 : Nat) (cX5 : ClassId) (fl : Nat → Int32) (a53 : Nat) (cX6 : ClassId) (ll : Nat → Int32) (d0 : Nat) (L : Nat) (fh52 : g 52 = .ref a52) (fh53 : g 53 = .ref a53) (hd0 : d0 < 9) (hll : ll d0 = nI L) (hfit : 160 * d0 + L < 1440) (p1 : Int32) (sz : Nat) : Met l yX9_lays wp_X9_lays ({ frames := 0, cells := 0, slots := 0, locals := 0 }) (va_Pc [.ref h0, .int (nI d0), .int p1] (Pr (dC, dI) [(cX5, .int), (cX6, .int)] [] [(h0, .inr (11, mo g)), (a52, .inl (cX5, 1440, .inl fl)), (a53, .inl (cX6, 9, .inl ll))] sz)) (va_Qv (fun (u : (Nat → Int32) × (Nat → Int32)) => match u with | (fl1, ll1) => (fl1 = upd fl (160 * d0 + L) p1) ∧ (ll1 = upd ll d0 (nI (L + 1)))) (Bq (dC, dI) (fun (u : (Nat → Int32) × (Nat → Int32)) => match u with | (fl1, ll1) => [(h0, .inr (11, mo g)), (a52, .inl (cX5, 1440, .inl fl1)), (a53, .inl (cX6, 9, .inl ll1))]) (fun (u : (Nat → Int32) × (Nat → Int32)) => match u with | (fl1, ll1) => []) (va_A [(h0, .inr (11, mo g)), (a52, .inl (cX5, 1440, .inl fl)), (a53, .inl (cX6, 9, .inl ll))] sz)) (va_A [(h0, .inr (11, mo g)), (a52, .inl (cX5, 1440, .inl fl)), (a53, .inl (cX6, 9, .inl ll))] sz)) 0 0 (va_A [(h0, .inr (11, mo g)), (a52, .inl (cX5, 1440, .inl fl)), (a53, .inl (cX6, 9, .inl ll))] sz) := by
  refine Met.ofW (cc := cX9_lays) (maxL := 3) (ret := none) (by decide) rfl ?_
  intro p e s m args below meth c s₁ B hml hv
  obtain ⟨rfl, hsz, hP, hK, hD0, hN, hZ, hR⟩ := hv
  have hx := B.exec
  have hb := B.bytes
  have hr := B.returns
  have hts := atoms_spec (ws := wp_X9_lays) B.pre
  have hown : s.vm.findClass RX9 = some m.cls := findClass_of_methodNamed B.named
  have hlocks := B.notSynchronized
  have iRX9 : ∀ w ∈ u_ws RX9 TX9 60, w ∈ wp_X9_lays := by decide +kernel
  subst hsz
  have hD := hD0.self (sz := s.heap.size)
  generalize hAe : va_A [(h0, .inr (11, mo g)), (a52, .inl (cX5, 1440, .inl fl)), (a53, .inl (cX6, 9, .inl ll))] s.heap.size = A at hD hZ hR ⊢
  have hA : ∀ q : Nat, s.heap.size ≤ q → A q := fun q h => by rw [← hAe]; exact Or.inr h
  have hS : va_S A s.heap s.heap [] := va_S.rf
  have hP : va_P (dC, dI) vwCl [(h0, .inr (11, mo g)), (a52, .inl (cX5, 1440, .inl fl)), (a53, .inl (cX6, 9, .inl ll))] s.heap := hP
  have hl := lv_entry ([.ref h0, .int (nI d0), .int p1]) (n := 3) (Nat.le_of_ble_eq_true rfl)
  rw [lg_entry_eq]
  generalize (lg_sl ([.ref h0, .int (nI d0), .int p1]) ++ List.replicate (3 - (lg_sl ([.ref h0, .int (nI d0), .int p1])).length) Slot.unset).toArray = ls at hl ⊢
  have hl : lv_has ls 3 [(0, .ref h0), (1, .int (nI d0)), (2, .int p1)] := hl
  have hcd : (nI d0).toNatClampNeg = d0 := nI_clamp (by omega)
  have hcl := ixL_cl hfit
  refine lv_aload_n hx hb dX9_lays_0 rfl (lv_at hl 0 rfl) ?_
  refine va_get (D := (dC, dI)) (ci := 11) (v := .ref a52) (C := RX9) (T := TX9) (N := 60) hx hb hts iRX9 hown hK hP 0 rfl rfl 52 (by decide) (hts (.fieldLink RX9 114 "RecordBenchModel" "laid" "[I") (by decide +kernel)) (fun _ h9 => h9) ((mo_get g (by decide)).trans (congrArg some fh52)) dX9_lays_1 ?_
  refine lv_sipush (v := 160) hx hb dX9_lays_4 (by decide) ?_
  refine lv_iload_n hx hb dX9_lays_7 rfl (lv_at hl 1 rfl) ?_
  refine lv_imul hx hb dX9_lays_8 ?_
  refine lv_aload_n hx hb dX9_lays_9 rfl (lv_at hl 0 rfl) ?_
  refine va_get (D := (dC, dI)) (ci := 11) (v := .ref a53) (C := RX9) (T := TX9) (N := 60) hx hb hts iRX9 hown hK hP 0 rfl rfl 53 (by decide) (hts (.fieldLink RX9 117 "RecordBenchModel" "laidLong" "[I") (by decide +kernel)) (fun _ h9 => h9) ((mo_get g (by decide)).trans (congrArg some fh53)) dX9_lays_10 ?_
  refine lv_iload_n hx hb dX9_lays_13 rfl (lv_at hl 1 rfl) ?_
  refine va_iald hx hb hK hP 2 1 rfl rfl (vp_in_nI hd0 (by decide)) dX9_lays_14 ?_
  refine W_toi (y := nI L) (by rw [hcd]; exact hll) ?_
  refine lv_iadd hx hb dX9_lays_15 ?_
  refine lv_iload_n hx hb dX9_lays_16 rfl (lv_at hl 2 rfl) ?_
  refine va_iast hx hb hK hP hD hS 1 0 rfl rfl (ixL_in hfit) dX9_lays_17 (fun H locs hP hD hS => ?_)
  rw [hcl] at hP hD
  obtain ⟨f_1, ef_1⟩ : ∃ y : Nat → Int32, y = upd fl (160 * d0 + L) p1 := ⟨_, rfl⟩
  have hP : va_P (dC, dI) vwCl [(h0, .inr (11, mo g)), (a52, .inl (cX5, 1440, .inl f_1)), (a53, .inl (cX6, 9, .inl ll))] H := by rw [ef_1]; exact hP
  have hD : va_D A [(h0, .inr (11, mo g)), (a52, .inl (cX5, 1440, .inl f_1)), (a53, .inl (cX6, 9, .inl ll))] := by rw [ef_1]; exact hD
  have vf_1 : f_1 (160 * d0 + L) = p1 := by rw [ef_1, pk_us]
  have frf_1 : ∀ x : Nat, x ≠ (160 * d0 + L) → f_1 x = fl x := fun x hx => by rw [ef_1, pk_un hx]
  refine lv_aload_n hx hb dX9_lays_18 rfl (lv_at hl 0 rfl) ?_
  refine va_get (D := (dC, dI)) (ci := 11) (v := .ref a53) (C := RX9) (T := TX9) (N := 60) hx hb hts iRX9 hown hK hP 0 rfl rfl 53 (by decide) (hts (.fieldLink RX9 117 "RecordBenchModel" "laidLong" "[I") (by decide +kernel)) (fun _ h9 => h9) ((mo_get g (by decide)).trans (congrArg some fh53)) dX9_lays_19 ?_
  refine lv_iload_n hx hb dX9_lays_22 rfl (lv_at hl 1 rfl) ?_
  refine lv_dup2_11 hx hb dX9_lays_23 rfl rfl ?_
  refine va_iald hx hb hK hP 2 1 rfl rfl (vp_in_nI hd0 (by decide)) dX9_lays_24 ?_
  refine W_toi (y := nI L) (by rw [hcd]; exact hll) ?_
  refine lv_iconst (v := 1) hx hb dX9_lays_25 (by decide) ?_
  refine lv_iadd hx hb dX9_lays_26 ?_
  refine W_toi (y := nI (L + 1)) (nI_1 L) ?_
  refine va_iast hx hb hK hP hD hS 2 1 rfl rfl (vp_in_nI hd0 (by decide)) dX9_lays_27 (fun H locs hP hD hS => ?_)
  rw [hcd] at hP hD
  obtain ⟨f_2, ef_2⟩ : ∃ y : Nat → Int32, y = upd ll d0 (nI (L + 1)) := ⟨_, rfl⟩
  have hP : va_P (dC, dI) vwCl [(h0, .inr (11, mo g)), (a52, .inl (cX5, 1440, .inl f_1)), (a53, .inl (cX6, 9, .inl f_2))] H := by rw [ef_2]; exact hP
  have hD : va_D A [(h0, .inr (11, mo g)), (a52, .inl (cX5, 1440, .inl f_1)), (a53, .inl (cX6, 9, .inl f_2))] := by rw [ef_2]; exact hD
  have vf_2 : f_2 d0 = (nI (L + 1)) := by rw [ef_2, pk_us]
  have frf_2 : ∀ x : Nat, x ≠ d0 → f_2 x = ll x := fun x hx => by rw [ef_2, pk_un hx]
  have hP9 := hP.sub (ws' := [(h0, .inr (11, mo g)), (a52, .inl (cX5, 1440, .inl f_1)), (a53, .inl (cX6, 9, .inl f_2))]) [0, 1, 2] rfl
  have hD9 := hD.sub (ws' := [(h0, .inr (11, mo g)), (a52, .inl (cX5, 1440, .inl f_1)), (a53, .inl (cX6, 9, .inl f_2))]) [0, 1, 2] (by decide) rfl
  have hK9 := hK.sub (tys' := []) [] rfl
  exact W.vret hx hb hr (fun t ht hW => ⟨⟨(f_1, f_2), rfl, ⟨ef_1, ef_2⟩, by rw [ht]; exact hP9, va_K.moved hW.alike hK9, hD9⟩, hS.F ht⟩) hS.2.2 dX9_lays_28
