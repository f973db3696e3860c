theorem dL_law_0 : decode cL_law 0 = .ok (.new 7, 3) := by decide +kernel
theorem dL_law_11 : decode cL_law 11 = .ok (.dup, 1) := by decide +kernel
theorem dL_law_12 : decode cL_law 12 = .ok (.invokespecial 12, 3) := by decide +kernel
theorem dL_law_15 : decode cL_law 15 = .ok (.astore_n 2, 1) := by decide +kernel
theorem dL_law_16 : decode cL_law 16 = .ok (.iconst 0, 1) := by decide +kernel
theorem dL_law_17 : decode cL_law 17 = .ok (.istore_n 3, 1) := by decide +kernel
theorem dL_law_27 : decode cL_law 27 = .ok (.aload_n 0, 1) := by decide +kernel
theorem dL_law_28 : decode cL_law 28 = .ok (.iload_n 3, 1) := by decide +kernel
theorem dL_law_29 : decode cL_law 29 = .ok (.iaload, 1) := by decide +kernel
theorem dL_law_3 : decode cL_law 3 = .ok (.dup, 1) := by decide +kernel
theorem dL_law_30 : decode cL_law 30 = .ok (.bipush 31, 2) := by decide +kernel
theorem dL_law_32 : decode cL_law 32 = .ok (.iand, 1) := by decide +kernel
theorem dL_law_33 : decode cL_law 33 = .ok (.tableswitch 941 0 21 #[103, 166, 189, 212, 235, 278, 312, 335, 358, 441, 484, 537, 580, 613, 667, 700, 743, 776, 829, 862, 905, 918], 103) := by decide +kernel
theorem dL_law_4 : decode cL_law 4 = .ok (.invokespecial 9, 3) := by decide +kernel
theorem dL_law_7 : decode cL_law 7 = .ok (.astore_n 1, 1) := by decide +kernel
theorem dL_law_8 : decode cL_law 8 = .ok (.new 10, 3) := by decide +kernel
set_option maxHeartbeats 4000000 in
set_option maxRecDepth 100000 in
theorem whole_start {p : Program} {e : Env} {s : State} {m : MethodId} {below : List Frame} {meth : Method} {c : Code} (l : Launch) {b L : Nat} {xs : Nat → Int32} (hL : L ≤ 6) (C0 : lw_At p s m meth c b L xs) : W p l e room_1 s m #[Value.ref b] below meth c s.heap [] 0 0 (lw_Z below #[Value.ref b] s) (entryFrame m ([Value.ref b] : List Value).toArray 4) := by
  obtain ⟨hx, hb, hr, hml, hown, hts, hX, hbl, hlocks, hgv⟩ := id C0
  obtain ⟨A, eA⟩ : ∃ A : Nat → Prop, A = (fun q : Nat => s.heap.size ≤ q) := ⟨_, rfl⟩
  have hA : ∀ q : Nat, s.heap.size ≤ q → A q := fun q h => by rw [eA]; exact h
  have hA2 : ∀ q : Nat, A q → s.heap.size ≤ q := fun q h => by rw [eA] at h; exact h
  have hbA : ¬ A b := fun h => absurd (hA2 b h) (Nat.not_le.mpr hbl)
  obtain ⟨c0, iS0, hKn0⟩ := u_known (C := RJ0) (T := TJ0) (N := 4) (n := 4) hts iL_J0 (hts (.instantiable RJ0 4) (by decide +kernel))
  obtain ⟨c1, iS1, hKn1⟩ := u_known (C := RJ4) (T := TJ4) (N := 4) (n := 4) hts iL_J4 (hts (.instantiable RJ4 4) (by decide +kernel))
  obtain ⟨c2, iS2, hKn2⟩ := u_known (C := RX0) (T := TX0) (N := 7) (n := 7) hts iL_X0 (hts (.instantiable RX0 7) (by decide +kernel))
  obtain ⟨c3, iS3, hKn3⟩ := u_known (C := RX1) (T := TX1) (N := 2) (n := 2) hts iL_X1 (hts (.instantiable RX1 2) (by decide +kernel))
  obtain ⟨c4, iS4, hKn4⟩ := u_known (C := RX2) (T := TX2) (N := 8) (n := 8) hts iL_X2 (hts (.instantiable RX2 8) (by decide +kernel))
  obtain ⟨c5, iS5, hKn5⟩ := u_known (C := RX3) (T := TX3) (N := 4) (n := 4) hts iL_X3 (hts (.instantiable RX3 4) (by decide +kernel))
  obtain ⟨c6, iS6, hKn6⟩ := u_known (C := RX4) (T := TX4) (N := 3) (n := 3) hts iL_X4 (hts (.instantiable RX4 3) (by decide +kernel))
  obtain ⟨c7, iS7, hKn7⟩ := u_known (C := RX5) (T := TX5) (N := 2) (n := 2) hts iL_X5 (hts (.instantiable RX5 2) (by decide +kernel))
  obtain ⟨c8, iS8, hKn8⟩ := u_known (C := RX6) (T := TX6) (N := 6) (n := 6) hts iL_X6 (hts (.instantiable RX6 6) (by decide +kernel))
  obtain ⟨c9, iS9, hKn9⟩ := u_known (C := RX7) (T := TX7) (N := 2) (n := 2) hts iL_X7 (hts (.instantiable RX7 2) (by decide +kernel))
  obtain ⟨c10, iS10, hKn10⟩ := u_known (C := RX8) (T := TX8) (N := 12) (n := 12) hts iL_X8 (hts (.instantiable RX8 12) (by decide +kernel))
  obtain ⟨c11, iS11, hKn11⟩ := u_known (C := RX9) (T := TX9) (N := 60) (n := 60) hts iL_X9 (hts (.instantiable RX9 60) (by decide +kernel))
  obtain ⟨dC, dI, hKc⟩ : ∃ (dC : Nat → ClassId) (dI : Nat → Nat → Nat), ∀ (k : Nat) (q : vw_C), vwCl[k]? = some q → u_Kn s q.1 q.2.1 q.2.2 (dC k) (dI k) := by
    refine ⟨fun k => [c0, c1, c2, c3, c4, c5, c6, c7, c8, c9, c10, c11].getD k c0, fun k => [iS0, iS1, iS2, iS3, iS4, iS5, iS6, iS7, iS8, iS9, iS10, iS11].getD k iS0, ?_⟩
    intro k q hq
    match k, hq with
    | 0, hq => cases hq; exact hKn0
    | 1, hq => cases hq; exact hKn1
    | 2, hq => cases hq; exact hKn2
    | 3, hq => cases hq; exact hKn3
    | 4, hq => cases hq; exact hKn4
    | 5, hq => cases hq; exact hKn5
    | 6, hq => cases hq; exact hKn6
    | 7, hq => cases hq; exact hKn7
    | 8, hq => cases hq; exact hKn8
    | 9, hq => cases hq; exact hKn9
    | 10, hq => cases hq; exact hKn10
    | 11, hq => cases hq; exact hKn11
    | k + 12, hq => simp [vwCl] at hq
  have hS : va_S A s.heap s.heap [] := va_S.rf
  have hK : va_K (dC, dI) vwCl [] s := ⟨hKc, fun k q h => by simp at h⟩
  have hP : va_P (dC, dI) vwCl [] s.heap := fun k q h => by simp at h
  have hD : va_D A [] := ⟨fun i j p q h => by simp at h, fun k q h => by simp at h⟩
  have hN : NX s := ⟨va_Nw.of rfl (hts (.methodLinkNest RX3 21 yX2_init "RecordBench") (by decide +kernel)), va_Nw.of rfl (hts (.methodLinkNest RX4 21 yX2_init "RecordBench") (by decide +kernel)), va_Nw.of rfl (hts (.methodLinkNest RX6 38 yX1_init "RecordBench") (by decide +kernel)), va_AO.of (hts (.arrayOver (.object RX5)) (by decide +kernel)), va_AO.of (hts (.arrayOver (.object RX1)) (by decide +kernel)), va_AO.of (hts (.arrayOver (.object RX2)) (by decide +kernel)), va_AO.of (hts (.arrayOver (.object RX0)) (by decide +kernel))⟩
  have hZ : cz A s s.heap := va_Zof (hts (.laysStatic "java/lang/String" "COMPACT_STRINGS" "Z") (by decide +kernel)) (hts (.initialized "java/lang/String") (by decide +kernel)) (va_eqi (flat_of_before _ hgv (.eq (.static "java/lang/String" "COMPACT_STRINGS" "Z") (.int 1)) (by decide +kernel))) (fun a ha h => absurd (hA2 a h) (Nat.not_le.mpr ha))
  have hl := lv_entry ([.ref b]) (n := 4) (Nat.le_of_ble_eq_true rfl)
  rw [lg_entry_eq]
  generalize (lg_sl ([.ref b]) ++ List.replicate (4 - (lg_sl ([.ref b])).length) Slot.unset).toArray = ls at hl ⊢
  have hl : lv_has ls 4 [(0, .ref b)] := hl
  refine va_new (ci := 10) (fs := [.null, .null, .null, .null, .null, .null, .null, .null, .null, .int 0, .int 0, .int 0]) (C := RX8) (T := TX8) (N := 12) hx hb hts iL_X8 tyX8 tyX8_ok hown (hts (.classLink RL 7 RX8) (by decide +kernel)) (hts (.instantiable RX8 12) (by decide +kernel)) (hts (.initialized RX8) (by decide +kernel)) hK hP hD hS hA rfl fsX8_ok (Nat.le_of_ble_eq_true rfl) (Nat.le_of_ble_eq_true rfl) dL_law_0 (fun q_1 H hP hD hS => ?_)
  have hP : va_P (dC, dI) vwCl [(q_1, .inr (10, [.null, .null, .null, .null, .null, .null, .null, .null, .null, .int 0, .int 0, .int 0]))] H := hP
  have hD : va_D A [(q_1, .inr (10, [.null, .null, .null, .null, .null, .null, .null, .null, .null, .int 0, .int 0, .int 0]))] := hD
  refine W.widen (k := 1) (n := 12) (by omega) (by omega) ?_
  refine lv_dup hx hb dL_law_3 rfl ?_
  have hFc := va_free (wc := [(q_1, .inr (10, [.null, .null, .null, .null, .null, .null, .null, .null, .null, .int 0, .int 0, .int 0]))]) hD hS hA [0] rfl
  refine va_callv (va_runI (As := []) (rest := [.ref q_1]) ⟨hx, hb, hml, hown, hts⟩ (c_X8_init l dC dI q_1 H.size) (cwI 0 hts gp_start_X8_init_9 rfl rfl rfl (hts (.initialized RX8) (by decide +kernel)) (hts (.methodLink RL 9 yX8_init) (by decide +kernel)) (hts (.instanceMethod yX8_init) (by decide +kernel)) rfl (by decide +kernel) ⟨Nat.le_of_ble_eq_true rfl, Nat.le_of_ble_eq_true rfl⟩) ⟨Pr.blind _, fun U hU hW => ⟨rfl, Pr.at (hP.sub (ws' := [(q_1, .inr (10, [.null, .null, .null, .null, .null, .null, .null, .null, .null, .int 0, .int 0, .int 0]))]) [0] rfl) (hK.sub (tys' := []) [] rfl) (hD.sub (ws' := [(q_1, .inr (10, [.null, .null, .null, .null, .null, .null, .null, .null, .null, .int 0, .int 0, .int 0]))]) [0] (by decide) rfl) hN hZ hS hFc hU hW⟩⟩ rfl rfl hl.1 rfl (lv_room (Nat.le_of_ble_eq_true rfl)) dL_law_4 ⟨Nat.le_of_ble_eq_true rfl, Nat.le_of_ble_eq_true rfl⟩) hS (fun q _ h => hFc q h) hFc (fun u t H1 locs ht hvm hw_3 hB hz1 hk1 hS => ?_)
  obtain ⟨t0_4, r0_5, m0_6, x0_7, v4_8, v5_9, v6_10, v7_11, v8_12, tb_13, cT_14, cR_15, fR_16, q0_17, q1_18, q2_19, q3_20, b0_21, b1_22, b2_23, b3_24, cM_25, sb_26⟩ := u
  obtain ⟨hP, hD, hK⟩ := Bq.join (wr := []) hB ht hvm hP hD [0] [] rfl rfl (by decide) (by decide) hk1 hFc hK
  generalize H1 = H at hP hS ⊢
  have hP : va_P (dC, dI) vwCl [(q_1, .inr (10, [.ref t0_4, .ref r0_5, .ref m0_6, .ref x0_7, v4_8, v5_9, v6_10, v7_11, v8_12, .int 0, .int (-1), .int 0])), (t0_4, .inr (7, [.ref tb_13, .int 0])), (tb_13, .inl (cT_14, 400, .inl (fun _ => 0))), (r0_5, .inl (cR_15, 4, .inr (.inr (.inr (.inr fR_16))))), (q0_17, .inr (7, [.ref b0_21, .int 0])), (q1_18, .inr (7, [.ref b1_22, .int 0])), (q2_19, .inr (7, [.ref b2_23, .int 0])), (q3_20, .inr (7, [.ref b3_24, .int 0])), (m0_6, .inl (cM_25, 8, .inr (.inr (.inr (.inr (fun _ => none)))))), (x0_7, .inr (8, [.ref t0_4, .ref m0_6, .ref sb_26, .int 0, .int 0, .int (-1)]))] H := hP
  have hD : va_D A [(q_1, .inr (10, [.ref t0_4, .ref r0_5, .ref m0_6, .ref x0_7, v4_8, v5_9, v6_10, v7_11, v8_12, .int 0, .int (-1), .int 0])), (t0_4, .inr (7, [.ref tb_13, .int 0])), (tb_13, .inl (cT_14, 400, .inl (fun _ => 0))), (r0_5, .inl (cR_15, 4, .inr (.inr (.inr (.inr fR_16))))), (q0_17, .inr (7, [.ref b0_21, .int 0])), (q1_18, .inr (7, [.ref b1_22, .int 0])), (q2_19, .inr (7, [.ref b2_23, .int 0])), (q3_20, .inr (7, [.ref b3_24, .int 0])), (m0_6, .inl (cM_25, 8, .inr (.inr (.inr (.inr (fun _ => none)))))), (x0_7, .inr (8, [.ref t0_4, .ref m0_6, .ref sb_26, .int 0, .int 0, .int (-1)]))] := hD
  have hK : va_K (dC, dI) vwCl [(cT_14, .int), (cR_15, .object RX5), (cM_25, .object RX1)] s := hK
  refine W.widen (k := 44) (n := 2635) (by omega) (by omega) ?_
  try dsimp only at hw_3
  obtain ⟨k_27, k_28, k_29, k_30⟩ := hw_3
  refine lv_astore_n (lv' := [(1, .ref q_1), (0, .ref b)]) hx hb dL_law_7 rfl hl (by decide) rfl (fun ls hl => ?_)
  refine va_new (ci := 11) (fs := [.null, .null, .null, .null, .null, .null, .null, .null, .null, .null, .int 0, .int 0, .int 0, .int 0, .int 0, .int 0, .int 0, .int 0, .int 0, .long 0, .long 0, .long 0, .long 0, .long 0, .long 0, .long 0, .long 0, .int 0, .null, .null, .null, .long 0, .int 0, .int 0, .int 0, .int 0, .int 0, .long 0, .int 0, .int 0, .int 0, .int 0, .null, .null, .null, .null, .null, .null, .null, .null, .null, .null, .null, .null, .null, .null, .int 0, .null, .null, .int 0]) (C := RX9) (T := TX9) (N := 60) hx hb hts iL_X9 tyX9 tyX9_ok hown (hts (.classLink RL 10 RX9) (by decide +kernel)) (hts (.instantiable RX9 60) (by decide +kernel)) (hts (.initialized RX9) (by decide +kernel)) hK hP hD hS hA rfl fsX9_ok (Nat.le_of_ble_eq_true rfl) (Nat.le_of_ble_eq_true rfl) dL_law_8 (fun q_31 H hP hD hS => ?_)
  have hP : va_P (dC, dI) vwCl [(q_1, .inr (10, [.ref t0_4, .ref r0_5, .ref m0_6, .ref x0_7, v4_8, v5_9, v6_10, v7_11, v8_12, .int 0, .int (-1), .int 0])), (t0_4, .inr (7, [.ref tb_13, .int 0])), (tb_13, .inl (cT_14, 400, .inl (fun _ => 0))), (r0_5, .inl (cR_15, 4, .inr (.inr (.inr (.inr fR_16))))), (q0_17, .inr (7, [.ref b0_21, .int 0])), (q1_18, .inr (7, [.ref b1_22, .int 0])), (q2_19, .inr (7, [.ref b2_23, .int 0])), (q3_20, .inr (7, [.ref b3_24, .int 0])), (m0_6, .inl (cM_25, 8, .inr (.inr (.inr (.inr (fun _ => none)))))), (x0_7, .inr (8, [.ref t0_4, .ref m0_6, .ref sb_26, .int 0, .int 0, .int (-1)])), (q_31, .inr (11, [.null, .null, .null, .null, .null, .null, .null, .null, .null, .null, .int 0, .int 0, .int 0, .int 0, .int 0, .int 0, .int 0, .int 0, .int 0, .long 0, .long 0, .long 0, .long 0, .long 0, .long 0, .long 0, .long 0, .int 0, .null, .null, .null, .long 0, .int 0, .int 0, .int 0, .int 0, .int 0, .long 0, .int 0, .int 0, .int 0, .int 0, .null, .null, .null, .null, .null, .null, .null, .null, .null, .null, .null, .null, .null, .null, .int 0, .null, .null, .int 0]))] H := hP
  have hD : va_D A [(q_1, .inr (10, [.ref t0_4, .ref r0_5, .ref m0_6, .ref x0_7, v4_8, v5_9, v6_10, v7_11, v8_12, .int 0, .int (-1), .int 0])), (t0_4, .inr (7, [.ref tb_13, .int 0])), (tb_13, .inl (cT_14, 400, .inl (fun _ => 0))), (r0_5, .inl (cR_15, 4, .inr (.inr (.inr (.inr fR_16))))), (q0_17, .inr (7, [.ref b0_21, .int 0])), (q1_18, .inr (7, [.ref b1_22, .int 0])), (q2_19, .inr (7, [.ref b2_23, .int 0])), (q3_20, .inr (7, [.ref b3_24, .int 0])), (m0_6, .inl (cM_25, 8, .inr (.inr (.inr (.inr (fun _ => none)))))), (x0_7, .inr (8, [.ref t0_4, .ref m0_6, .ref sb_26, .int 0, .int 0, .int (-1)])), (q_31, .inr (11, [.null, .null, .null, .null, .null, .null, .null, .null, .null, .null, .int 0, .int 0, .int 0, .int 0, .int 0, .int 0, .int 0, .int 0, .int 0, .long 0, .long 0, .long 0, .long 0, .long 0, .long 0, .long 0, .long 0, .int 0, .null, .null, .null, .long 0, .int 0, .int 0, .int 0, .int 0, .int 0, .long 0, .int 0, .int 0, .int 0, .int 0, .null, .null, .null, .null, .null, .null, .null, .null, .null, .null, .null, .null, .null, .null, .int 0, .null, .null, .int 0]))] := hD
  refine W.widen (k := 45) (n := 2695) (by omega) (by omega) ?_
  refine lv_dup hx hb dL_law_11 rfl ?_
  have hFc := va_free (wc := [(q_31, .inr (11, [.null, .null, .null, .null, .null, .null, .null, .null, .null, .null, .int 0, .int 0, .int 0, .int 0, .int 0, .int 0, .int 0, .int 0, .int 0, .long 0, .long 0, .long 0, .long 0, .long 0, .long 0, .long 0, .long 0, .int 0, .null, .null, .null, .long 0, .int 0, .int 0, .int 0, .int 0, .int 0, .long 0, .int 0, .int 0, .int 0, .int 0, .null, .null, .null, .null, .null, .null, .null, .null, .null, .null, .null, .null, .null, .null, .int 0, .null, .null, .int 0]))]) hD hS hA [10] rfl
  refine va_callv (va_runI (As := []) (rest := [.ref q_31]) ⟨hx, hb, hml, hown, hts⟩ (c_X9_init l dC dI q_31 H.size) (cwI 0 hts gp_start_X9_init_12 rfl rfl rfl (hts (.initialized RX9) (by decide +kernel)) (hts (.methodLink RL 12 yX9_init) (by decide +kernel)) (hts (.instanceMethod yX9_init) (by decide +kernel)) rfl (by decide +kernel) ⟨Nat.le_of_ble_eq_true rfl, Nat.le_of_ble_eq_true rfl⟩) ⟨Pr.blind _, fun U hU hW => ⟨rfl, Pr.at (hP.sub (ws' := [(q_31, .inr (11, [.null, .null, .null, .null, .null, .null, .null, .null, .null, .null, .int 0, .int 0, .int 0, .int 0, .int 0, .int 0, .int 0, .int 0, .int 0, .long 0, .long 0, .long 0, .long 0, .long 0, .long 0, .long 0, .long 0, .int 0, .null, .null, .null, .long 0, .int 0, .int 0, .int 0, .int 0, .int 0, .long 0, .int 0, .int 0, .int 0, .int 0, .null, .null, .null, .null, .null, .null, .null, .null, .null, .null, .null, .null, .null, .null, .int 0, .null, .null, .int 0]))]) [10] rfl) (hK.sub (tys' := []) [] rfl) (hD.sub (ws' := [(q_31, .inr (11, [.null, .null, .null, .null, .null, .null, .null, .null, .null, .null, .int 0, .int 0, .int 0, .int 0, .int 0, .int 0, .int 0, .int 0, .int 0, .long 0, .long 0, .long 0, .long 0, .long 0, .long 0, .long 0, .long 0, .int 0, .null, .null, .null, .long 0, .int 0, .int 0, .int 0, .int 0, .int 0, .long 0, .int 0, .int 0, .int 0, .int 0, .null, .null, .null, .null, .null, .null, .null, .null, .null, .null, .null, .null, .null, .null, .int 0, .null, .null, .int 0]))]) [10] (by decide) rfl) hN hZ hS hFc hU hW⟩⟩ rfl rfl hl.1 rfl (lv_room (Nat.le_of_ble_eq_true rfl)) dL_law_12 ⟨Nat.le_of_ble_eq_true rfl, Nat.le_of_ble_eq_true rfl⟩) hS (fun q _ h => hFc q h) hFc (fun u t H1 locs ht hvm hw_33 hB hz1 hk1 hS => ?_)
  obtain ⟨a0_34, cZ_35, a8_36, c8_37, a9_38, c9_39, a29_40, c29_41, fs1_42⟩ := u
  obtain ⟨hP, hD, hK⟩ := Bq.join (wr := [(q_1, .inr (10, [.ref t0_4, .ref r0_5, .ref m0_6, .ref x0_7, v4_8, v5_9, v6_10, v7_11, v8_12, .int 0, .int (-1), .int 0])), (t0_4, .inr (7, [.ref tb_13, .int 0])), (tb_13, .inl (cT_14, 400, .inl (fun _ => 0))), (r0_5, .inl (cR_15, 4, .inr (.inr (.inr (.inr fR_16))))), (q0_17, .inr (7, [.ref b0_21, .int 0])), (q1_18, .inr (7, [.ref b1_22, .int 0])), (q2_19, .inr (7, [.ref b2_23, .int 0])), (q3_20, .inr (7, [.ref b3_24, .int 0])), (m0_6, .inl (cM_25, 8, .inr (.inr (.inr (.inr (fun _ => none)))))), (x0_7, .inr (8, [.ref t0_4, .ref m0_6, .ref sb_26, .int 0, .int 0, .int (-1)]))]) hB ht hvm hP hD [10] [0, 1, 2, 3, 4, 5, 6, 7, 8, 9] rfl rfl (by decide) (by decide) hk1 hFc hK
  generalize H1 = H at hP hS ⊢
  have hP : va_P (dC, dI) vwCl [(q_1, .inr (10, [.ref t0_4, .ref r0_5, .ref m0_6, .ref x0_7, v4_8, v5_9, v6_10, v7_11, v8_12, .int 0, .int (-1), .int 0])), (t0_4, .inr (7, [.ref tb_13, .int 0])), (tb_13, .inl (cT_14, 400, .inl (fun _ => 0))), (r0_5, .inl (cR_15, 4, .inr (.inr (.inr (.inr fR_16))))), (q0_17, .inr (7, [.ref b0_21, .int 0])), (q1_18, .inr (7, [.ref b1_22, .int 0])), (q2_19, .inr (7, [.ref b2_23, .int 0])), (q3_20, .inr (7, [.ref b3_24, .int 0])), (m0_6, .inl (cM_25, 8, .inr (.inr (.inr (.inr (fun _ => none)))))), (x0_7, .inr (8, [.ref t0_4, .ref m0_6, .ref sb_26, .int 0, .int 0, .int (-1)])), (q_31, .inr (11, fs1_42)), (a0_34, .inl (cZ_35, 8, .inl (fun _ => 0))), (a8_36, .inl (c8_37, 248, .inl (fun _ => 0))), (a9_38, .inl (c9_39, 400, .inl (fun _ => 0))), (a29_40, .inl (c29_41, 4, .inl (fun _ => 0)))] H := hP
  have hD : va_D A [(q_1, .inr (10, [.ref t0_4, .ref r0_5, .ref m0_6, .ref x0_7, v4_8, v5_9, v6_10, v7_11, v8_12, .int 0, .int (-1), .int 0])), (t0_4, .inr (7, [.ref tb_13, .int 0])), (tb_13, .inl (cT_14, 400, .inl (fun _ => 0))), (r0_5, .inl (cR_15, 4, .inr (.inr (.inr (.inr fR_16))))), (q0_17, .inr (7, [.ref b0_21, .int 0])), (q1_18, .inr (7, [.ref b1_22, .int 0])), (q2_19, .inr (7, [.ref b2_23, .int 0])), (q3_20, .inr (7, [.ref b3_24, .int 0])), (m0_6, .inl (cM_25, 8, .inr (.inr (.inr (.inr (fun _ => none)))))), (x0_7, .inr (8, [.ref t0_4, .ref m0_6, .ref sb_26, .int 0, .int 0, .int (-1)])), (q_31, .inr (11, fs1_42)), (a0_34, .inl (cZ_35, 8, .inl (fun _ => 0))), (a8_36, .inl (c8_37, 248, .inl (fun _ => 0))), (a9_38, .inl (c9_39, 400, .inl (fun _ => 0))), (a29_40, .inl (c29_41, 4, .inl (fun _ => 0)))] := hD
  have hK : va_K (dC, dI) vwCl [(cT_14, .int), (cR_15, .object RX5), (cM_25, .object RX1), (cZ_35, .boolean), (c8_37, .boolean), (c9_39, .int), (c29_41, .int)] s := hK
  refine W.widen (k := 74) (n := 12530) (by omega) (by omega) ?_
  try dsimp only at hw_33
  obtain ⟨k_43, k_44, k_45, k_46, k_47, k_48, k_49, k_50, k_51⟩ := hw_33
  refine lv_astore_n (lv' := [(2, .ref q_31), (1, .ref q_1), (0, .ref b)]) hx hb dL_law_15 rfl hl (by decide) rfl (fun ls hl => ?_)
  refine lv_iconst (v := 0) hx hb dL_law_16 (by decide) ?_
  refine lv_istore_n (lv' := [(3, .int 0), (2, .ref q_31), (1, .ref q_1), (0, .ref b)]) hx hb dL_law_17 rfl hl (by decide) rfl (fun ls hl => ?_)
  refine lv_iload_n hx hb dL_law_18 rfl (lv_at hl 0 rfl) ?_
  refine lv_aload_n hx hb dL_law_19 rfl (lv_at hl 3 rfl) ?_
  refine va_slen hx hb hX hbl hbA hS dL_law_20 ?_
  refine lv_bipush (v := 6) hx hb dL_law_21 (by decide) ?_
  refine lv_isub hx hb dL_law_23 ?_
  refine lv_topi (fun z_52 ez_52 => ?_)
  refine lv_icmp_gt (tgt := 980) hx hb dL_law_24 (by decide) (fun c_L => ?_) (fun c_L => ?_)
  · refine lv_iconst (v := 1) hx hb dL_law_980 (by decide) ?_
    refine va_forget (fun q hq => hA2 _ (hS.2.2 q hq)) ?_
    refine W.widen (k := 600000) (n := 7302250) (by omega) (by omega) ?_
    exact lw_ret hx hb hr hlocks dL_law_981
  · obtain rfl : L = 6 := by
      rcases Nat.lt_or_ge L 6 with h | h
      · exact absurd (by rw [ez_52]; exact pk_sneg (by decide) h) c_L
      · omega
    refine lv_aload_n hx hb dL_law_27 rfl (lv_at hl 3 rfl) ?_
    refine lv_iload_n hx hb dL_law_28 rfl (lv_at hl 0 rfl) ?_
    refine va_sld hx hb hX hbl hbA hS (by unfold vp_in; decide) dL_law_29 ?_
    refine W_toi (y := xs 0) rfl ?_
    refine lv_bipush (v := 31) hx hb dL_law_30 (by decide) ?_
    refine lv_iand hx hb dL_law_32 ?_
    refine lv_topi (fun z_53 ez_53 => ?_)
    obtain ⟨k, hk, ek⟩ := pk_andE (xs 0) (m := 31) 5 (by decide)
    rcases (show k = 0 ∨ k = 1 ∨ k = 2 ∨ k = 3 ∨ k = 4 ∨ k = 5 ∨ k = 6 ∨ k = 7 ∨ k = 8 ∨ k = 9 ∨ k = 10 ∨ k = 11 ∨ k = 12 ∨ k = 13 ∨ k = 14 ∨ k = 15 ∨ k = 16 ∨ k = 17 ∨ k = 18 ∨ k = 19 ∨ k = 20 ∨ k = 21 ∨ 22 ≤ k by omega) with rfl | rfl | rfl | rfl | rfl | rfl | rfl | rfl | rfl | rfl | rfl | rfl | rfl | rfl | rfl | rfl | rfl | rfl | rfl | rfl | rfl | rfl | hk2
    · refine W_toi (y := 0) (ez_53.trans ek) ?_
      refine lv_tableIn (off := 103) (tgt := 136) hx hb dL_law_33 (by decide) (by decide) (by decide) (by decide) ?_
      exact law_0 l C0 hA hA2 hbA dC dI hN hZ q_1 t0_4 r0_5 m0_6 x0_7 (v4_8) (v5_9) (v6_10) (v7_11) (v8_12) tb_13 cT_14 cR_15 fR_16 q0_17 q1_18 q2_19 q3_20 b0_21 b1_22 b2_23 b3_24 cM_25 sb_26 k_27 k_28 k_29 k_30 q_31 a0_34 cZ_35 a8_36 c8_37 a9_38 c9_39 a29_40 c29_41 fs1_42 k_43 k_44 k_45 k_46 k_47 k_48 k_49 k_50 k_51 H _ hK hP hD hS ls (lv_sub hl [0, 1, 2, 3] rfl)
    · refine W_toi (y := 1) (ez_53.trans ek) ?_
      refine lv_tableIn (off := 166) (tgt := 199) hx hb dL_law_33 (by decide) (by decide) (by decide) (by decide) ?_
      exact law_1 l C0 hA hA2 hbA dC dI hN hZ q_1 t0_4 r0_5 m0_6 x0_7 (v4_8) (v5_9) (v6_10) (v7_11) (v8_12) tb_13 cT_14 cR_15 fR_16 q0_17 q1_18 q2_19 q3_20 b0_21 b1_22 b2_23 b3_24 cM_25 sb_26 k_27 k_28 k_29 k_30 q_31 a0_34 cZ_35 a8_36 c8_37 a9_38 c9_39 a29_40 c29_41 fs1_42 k_43 k_44 k_45 k_46 k_47 k_48 k_49 k_50 k_51 H _ hK hP hD hS ls (lv_sub hl [0, 1, 2, 3] rfl)
    · refine W_toi (y := 2) (ez_53.trans ek) ?_
      refine lv_tableIn (off := 189) (tgt := 222) hx hb dL_law_33 (by decide) (by decide) (by decide) (by decide) ?_
      exact law_2 l C0 hA hA2 hbA dC dI hN hZ q_1 t0_4 r0_5 m0_6 x0_7 (v4_8) (v5_9) (v6_10) (v7_11) (v8_12) tb_13 cT_14 cR_15 fR_16 q0_17 q1_18 q2_19 q3_20 b0_21 b1_22 b2_23 b3_24 cM_25 sb_26 k_27 k_28 k_29 k_30 q_31 a0_34 cZ_35 a8_36 c8_37 a9_38 c9_39 a29_40 c29_41 fs1_42 k_43 k_44 k_45 k_46 k_47 k_48 k_49 k_50 k_51 H _ hK hP hD hS ls (lv_sub hl [0, 1, 2, 3] rfl)
    · refine W_toi (y := 3) (ez_53.trans ek) ?_
      refine lv_tableIn (off := 212) (tgt := 245) hx hb dL_law_33 (by decide) (by decide) (by decide) (by decide) ?_
      exact law_3 l C0 hA hA2 hbA dC dI hN hZ q_1 t0_4 r0_5 m0_6 x0_7 (v4_8) (v5_9) (v6_10) (v7_11) (v8_12) tb_13 cT_14 cR_15 fR_16 q0_17 q1_18 q2_19 q3_20 b0_21 b1_22 b2_23 b3_24 cM_25 sb_26 k_27 k_28 k_29 k_30 q_31 a0_34 cZ_35 a8_36 c8_37 a9_38 c9_39 a29_40 c29_41 fs1_42 k_43 k_44 k_45 k_46 k_47 k_48 k_49 k_50 k_51 H _ hK hP hD hS ls (lv_sub hl [0, 1, 2, 3] rfl)
    · refine W_toi (y := 4) (ez_53.trans ek) ?_
      refine lv_tableIn (off := 235) (tgt := 268) hx hb dL_law_33 (by decide) (by decide) (by decide) (by decide) ?_
      exact law_4 l C0 hA hA2 hbA dC dI hN hZ q_1 t0_4 r0_5 m0_6 x0_7 (v4_8) (v5_9) (v6_10) (v7_11) (v8_12) tb_13 cT_14 cR_15 fR_16 q0_17 q1_18 q2_19 q3_20 b0_21 b1_22 b2_23 b3_24 cM_25 sb_26 k_27 k_28 k_29 k_30 q_31 a0_34 cZ_35 a8_36 c8_37 a9_38 c9_39 a29_40 c29_41 fs1_42 k_43 k_44 k_45 k_46 k_47 k_48 k_49 k_50 k_51 H _ hK hP hD hS ls (lv_sub hl [0, 1, 2, 3] rfl)
    · refine W_toi (y := 5) (ez_53.trans ek) ?_
      refine lv_tableIn (off := 278) (tgt := 311) hx hb dL_law_33 (by decide) (by decide) (by decide) (by decide) ?_
      exact law_5 l C0 hA hA2 hbA dC dI hN hZ q_1 t0_4 r0_5 m0_6 x0_7 (v4_8) (v5_9) (v6_10) (v7_11) (v8_12) tb_13 cT_14 cR_15 fR_16 q0_17 q1_18 q2_19 q3_20 b0_21 b1_22 b2_23 b3_24 cM_25 sb_26 k_27 k_28 k_29 k_30 q_31 a0_34 cZ_35 a8_36 c8_37 a9_38 c9_39 a29_40 c29_41 fs1_42 k_43 k_44 k_45 k_46 k_47 k_48 k_49 k_50 k_51 H _ hK hP hD hS ls (lv_sub hl [0, 1, 2, 3] rfl)
    · refine W_toi (y := 6) (ez_53.trans ek) ?_
      refine lv_tableIn (off := 312) (tgt := 345) hx hb dL_law_33 (by decide) (by decide) (by decide) (by decide) ?_
      exact law_6 l C0 hA hA2 hbA dC dI hN hZ q_1 t0_4 r0_5 m0_6 x0_7 (v4_8) (v5_9) (v6_10) (v7_11) (v8_12) tb_13 cT_14 cR_15 fR_16 q0_17 q1_18 q2_19 q3_20 b0_21 b1_22 b2_23 b3_24 cM_25 sb_26 k_27 k_28 k_29 k_30 q_31 a0_34 cZ_35 a8_36 c8_37 a9_38 c9_39 a29_40 c29_41 fs1_42 k_43 k_44 k_45 k_46 k_47 k_48 k_49 k_50 k_51 H _ hK hP hD hS ls (lv_sub hl [0, 1, 2, 3] rfl)
    · refine W_toi (y := 7) (ez_53.trans ek) ?_
      refine lv_tableIn (off := 335) (tgt := 368) hx hb dL_law_33 (by decide) (by decide) (by decide) (by decide) ?_
      exact law_7 l C0 hA hA2 hbA dC dI hN hZ q_1 t0_4 r0_5 m0_6 x0_7 (v4_8) (v5_9) (v6_10) (v7_11) (v8_12) tb_13 cT_14 cR_15 fR_16 q0_17 q1_18 q2_19 q3_20 b0_21 b1_22 b2_23 b3_24 cM_25 sb_26 k_27 k_28 k_29 k_30 q_31 a0_34 cZ_35 a8_36 c8_37 a9_38 c9_39 a29_40 c29_41 fs1_42 k_43 k_44 k_45 k_46 k_47 k_48 k_49 k_50 k_51 H _ hK hP hD hS ls (lv_sub hl [0, 1, 2, 3] rfl)
    · refine W_toi (y := 8) (ez_53.trans ek) ?_
      refine lv_tableIn (off := 358) (tgt := 391) hx hb dL_law_33 (by decide) (by decide) (by decide) (by decide) ?_
      exact law_8 l C0 hA hA2 hbA dC dI hN hZ q_1 t0_4 r0_5 m0_6 x0_7 (v4_8) (v5_9) (v6_10) (v7_11) (v8_12) tb_13 cT_14 cR_15 fR_16 q0_17 q1_18 q2_19 q3_20 b0_21 b1_22 b2_23 b3_24 cM_25 sb_26 k_27 k_28 k_29 k_30 q_31 a0_34 cZ_35 a8_36 c8_37 a9_38 c9_39 a29_40 c29_41 fs1_42 k_43 k_44 k_45 k_46 k_47 k_48 k_49 k_50 k_51 H _ hK hP hD hS ls (lv_sub hl [0, 1, 2, 3] rfl)
    · refine W_toi (y := 9) (ez_53.trans ek) ?_
      refine lv_tableIn (off := 441) (tgt := 474) hx hb dL_law_33 (by decide) (by decide) (by decide) (by decide) ?_
      exact law_9 l C0 hA hA2 hbA dC dI hN hZ q_1 t0_4 r0_5 m0_6 x0_7 (v4_8) (v5_9) (v6_10) (v7_11) (v8_12) tb_13 cT_14 cR_15 fR_16 q0_17 q1_18 q2_19 q3_20 b0_21 b1_22 b2_23 b3_24 cM_25 sb_26 k_27 k_28 k_29 k_30 q_31 a0_34 cZ_35 a8_36 c8_37 a9_38 c9_39 a29_40 c29_41 fs1_42 k_43 k_44 k_45 k_46 k_47 k_48 k_49 k_50 k_51 H _ hK hP hD hS ls (lv_sub hl [0, 1, 2, 3] rfl)
    · refine W_toi (y := 10) (ez_53.trans ek) ?_
      refine lv_tableIn (off := 484) (tgt := 517) hx hb dL_law_33 (by decide) (by decide) (by decide) (by decide) ?_
      exact law_10 l C0 hA hA2 hbA dC dI hN hZ q_1 t0_4 r0_5 m0_6 x0_7 (v4_8) (v5_9) (v6_10) (v7_11) (v8_12) tb_13 cT_14 cR_15 fR_16 q0_17 q1_18 q2_19 q3_20 b0_21 b1_22 b2_23 b3_24 cM_25 sb_26 k_27 k_28 k_29 k_30 q_31 a0_34 cZ_35 a8_36 c8_37 a9_38 c9_39 a29_40 c29_41 fs1_42 k_43 k_44 k_45 k_46 k_47 k_48 k_49 k_50 k_51 H _ hK hP hD hS ls (lv_sub hl [0, 1, 2, 3] rfl)
    · refine W_toi (y := 11) (ez_53.trans ek) ?_
      refine lv_tableIn (off := 537) (tgt := 570) hx hb dL_law_33 (by decide) (by decide) (by decide) (by decide) ?_
      exact law_11 l C0 hA hA2 hbA dC dI hN hZ q_1 t0_4 r0_5 m0_6 x0_7 (v4_8) (v5_9) (v6_10) (v7_11) (v8_12) tb_13 cT_14 cR_15 fR_16 q0_17 q1_18 q2_19 q3_20 b0_21 b1_22 b2_23 b3_24 cM_25 sb_26 k_27 k_28 k_29 k_30 q_31 a0_34 cZ_35 a8_36 c8_37 a9_38 c9_39 a29_40 c29_41 fs1_42 k_43 k_44 k_45 k_46 k_47 k_48 k_49 k_50 k_51 H _ hK hP hD hS ls (lv_sub hl [0, 1, 2, 3] rfl)
    · refine W_toi (y := 12) (ez_53.trans ek) ?_
      refine lv_tableIn (off := 580) (tgt := 613) hx hb dL_law_33 (by decide) (by decide) (by decide) (by decide) ?_
      exact law_12 l C0 hA hA2 hbA dC dI hN hZ q_1 t0_4 r0_5 m0_6 x0_7 (v4_8) (v5_9) (v6_10) (v7_11) (v8_12) tb_13 cT_14 cR_15 fR_16 q0_17 q1_18 q2_19 q3_20 b0_21 b1_22 b2_23 b3_24 cM_25 sb_26 k_27 k_28 k_29 k_30 q_31 a0_34 cZ_35 a8_36 c8_37 a9_38 c9_39 a29_40 c29_41 fs1_42 k_43 k_44 k_45 k_46 k_47 k_48 k_49 k_50 k_51 H _ hK hP hD hS ls (lv_sub hl [0, 1, 2, 3] rfl)
    · refine W_toi (y := 13) (ez_53.trans ek) ?_
      refine lv_tableIn (off := 613) (tgt := 646) hx hb dL_law_33 (by decide) (by decide) (by decide) (by decide) ?_
      exact law_13 l C0 hA hA2 hbA dC dI hN hZ q_1 t0_4 r0_5 m0_6 x0_7 (v4_8) (v5_9) (v6_10) (v7_11) (v8_12) tb_13 cT_14 cR_15 fR_16 q0_17 q1_18 q2_19 q3_20 b0_21 b1_22 b2_23 b3_24 cM_25 sb_26 k_27 k_28 k_29 k_30 q_31 a0_34 cZ_35 a8_36 c8_37 a9_38 c9_39 a29_40 c29_41 fs1_42 k_43 k_44 k_45 k_46 k_47 k_48 k_49 k_50 k_51 H _ hK hP hD hS ls (lv_sub hl [0, 1, 2, 3] rfl)
    · refine W_toi (y := 14) (ez_53.trans ek) ?_
      refine lv_tableIn (off := 667) (tgt := 700) hx hb dL_law_33 (by decide) (by decide) (by decide) (by decide) ?_
      exact law_14 l C0 hA hA2 hbA dC dI hN hZ q_1 t0_4 r0_5 m0_6 x0_7 (v4_8) (v5_9) (v6_10) (v7_11) (v8_12) tb_13 cT_14 cR_15 fR_16 q0_17 q1_18 q2_19 q3_20 b0_21 b1_22 b2_23 b3_24 cM_25 sb_26 k_27 k_28 k_29 k_30 q_31 a0_34 cZ_35 a8_36 c8_37 a9_38 c9_39 a29_40 c29_41 fs1_42 k_43 k_44 k_45 k_46 k_47 k_48 k_49 k_50 k_51 H _ hK hP hD hS ls (lv_sub hl [0, 1, 2, 3] rfl)
    · refine W_toi (y := 15) (ez_53.trans ek) ?_
      refine lv_tableIn (off := 700) (tgt := 733) hx hb dL_law_33 (by decide) (by decide) (by decide) (by decide) ?_
      exact law_15 l C0 hA hA2 hbA dC dI hN hZ q_1 t0_4 r0_5 m0_6 x0_7 (v4_8) (v5_9) (v6_10) (v7_11) (v8_12) tb_13 cT_14 cR_15 fR_16 q0_17 q1_18 q2_19 q3_20 b0_21 b1_22 b2_23 b3_24 cM_25 sb_26 k_27 k_28 k_29 k_30 q_31 a0_34 cZ_35 a8_36 c8_37 a9_38 c9_39 a29_40 c29_41 fs1_42 k_43 k_44 k_45 k_46 k_47 k_48 k_49 k_50 k_51 H _ hK hP hD hS ls (lv_sub hl [0, 1, 2, 3] rfl)
    · refine W_toi (y := 16) (ez_53.trans ek) ?_
      refine lv_tableIn (off := 743) (tgt := 776) hx hb dL_law_33 (by decide) (by decide) (by decide) (by decide) ?_
      exact law_16 l C0 hA hA2 hbA dC dI hN hZ q_1 t0_4 r0_5 m0_6 x0_7 (v4_8) (v5_9) (v6_10) (v7_11) (v8_12) tb_13 cT_14 cR_15 fR_16 q0_17 q1_18 q2_19 q3_20 b0_21 b1_22 b2_23 b3_24 cM_25 sb_26 k_27 k_28 k_29 k_30 q_31 a0_34 cZ_35 a8_36 c8_37 a9_38 c9_39 a29_40 c29_41 fs1_42 k_43 k_44 k_45 k_46 k_47 k_48 k_49 k_50 k_51 H _ hK hP hD hS ls (lv_sub hl [0, 1, 2, 3] rfl)
    · refine W_toi (y := 17) (ez_53.trans ek) ?_
      refine lv_tableIn (off := 776) (tgt := 809) hx hb dL_law_33 (by decide) (by decide) (by decide) (by decide) ?_
      exact law_17 l C0 hA hA2 hbA dC dI hN hZ q_1 t0_4 r0_5 m0_6 x0_7 (v4_8) (v5_9) (v6_10) (v7_11) (v8_12) tb_13 cT_14 cR_15 fR_16 q0_17 q1_18 q2_19 q3_20 b0_21 b1_22 b2_23 b3_24 cM_25 sb_26 k_27 k_28 k_29 k_30 q_31 a0_34 cZ_35 a8_36 c8_37 a9_38 c9_39 a29_40 c29_41 fs1_42 k_43 k_44 k_45 k_46 k_47 k_48 k_49 k_50 k_51 H _ hK hP hD hS ls (lv_sub hl [0, 1, 2, 3] rfl)
    · refine W_toi (y := 18) (ez_53.trans ek) ?_
      refine lv_tableIn (off := 829) (tgt := 862) hx hb dL_law_33 (by decide) (by decide) (by decide) (by decide) ?_
      exact law_18 l C0 hA hA2 hbA dC dI hN hZ q_1 t0_4 r0_5 m0_6 x0_7 (v4_8) (v5_9) (v6_10) (v7_11) (v8_12) tb_13 cT_14 cR_15 fR_16 q0_17 q1_18 q2_19 q3_20 b0_21 b1_22 b2_23 b3_24 cM_25 sb_26 k_27 k_28 k_29 k_30 q_31 a0_34 cZ_35 a8_36 c8_37 a9_38 c9_39 a29_40 c29_41 fs1_42 k_43 k_44 k_45 k_46 k_47 k_48 k_49 k_50 k_51 H _ hK hP hD hS ls (lv_sub hl [0, 1, 2, 3] rfl)
    · refine W_toi (y := 19) (ez_53.trans ek) ?_
      refine lv_tableIn (off := 862) (tgt := 895) hx hb dL_law_33 (by decide) (by decide) (by decide) (by decide) ?_
      exact law_19 l C0 hA hA2 hbA dC dI hN hZ q_1 t0_4 r0_5 m0_6 x0_7 (v4_8) (v5_9) (v6_10) (v7_11) (v8_12) tb_13 cT_14 cR_15 fR_16 q0_17 q1_18 q2_19 q3_20 b0_21 b1_22 b2_23 b3_24 cM_25 sb_26 k_27 k_28 k_29 k_30 q_31 a0_34 cZ_35 a8_36 c8_37 a9_38 c9_39 a29_40 c29_41 fs1_42 k_43 k_44 k_45 k_46 k_47 k_48 k_49 k_50 k_51 H _ hK hP hD hS ls (lv_sub hl [0, 1, 2, 3] rfl)
    · refine W_toi (y := 20) (ez_53.trans ek) ?_
      refine lv_tableIn (off := 905) (tgt := 938) hx hb dL_law_33 (by decide) (by decide) (by decide) (by decide) ?_
      exact law_20 l C0 hA hA2 hbA dC dI hN hZ q_1 t0_4 r0_5 m0_6 x0_7 (v4_8) (v5_9) (v6_10) (v7_11) (v8_12) tb_13 cT_14 cR_15 fR_16 q0_17 q1_18 q2_19 q3_20 b0_21 b1_22 b2_23 b3_24 cM_25 sb_26 k_27 k_28 k_29 k_30 q_31 a0_34 cZ_35 a8_36 c8_37 a9_38 c9_39 a29_40 c29_41 fs1_42 k_43 k_44 k_45 k_46 k_47 k_48 k_49 k_50 k_51 H _ hK hP hD hS ls (lv_sub hl [0, 1, 2, 3] rfl)
    · refine W_toi (y := 21) (ez_53.trans ek) ?_
      refine lv_tableIn (off := 918) (tgt := 951) hx hb dL_law_33 (by decide) (by decide) (by decide) (by decide) ?_
      exact law_21 l C0 hA hA2 hbA dC dI hN hZ q_1 t0_4 r0_5 m0_6 x0_7 (v4_8) (v5_9) (v6_10) (v7_11) (v8_12) tb_13 cT_14 cR_15 fR_16 q0_17 q1_18 q2_19 q3_20 b0_21 b1_22 b2_23 b3_24 cM_25 sb_26 k_27 k_28 k_29 k_30 q_31 a0_34 cZ_35 a8_36 c8_37 a9_38 c9_39 a29_40 c29_41 fs1_42 k_43 k_44 k_45 k_46 k_47 k_48 k_49 k_50 k_51 H _ hK hP hD hS ls (lv_sub hl [0, 1, 2, 3] rfl)
    · refine lv_tableOut (tgt := 974) hx hb dL_law_33 (Or.inr (by rw [ez_53, ek, nI_toInt (by omega)]; omega)) (by decide) ?_
      exact law_22 l C0 hA hA2 hbA dC dI hN hZ q_1 t0_4 r0_5 m0_6 x0_7 (v4_8) (v5_9) (v6_10) (v7_11) (v8_12) tb_13 cT_14 cR_15 fR_16 q0_17 q1_18 q2_19 q3_20 b0_21 b1_22 b2_23 b3_24 cM_25 sb_26 k_27 k_28 k_29 k_30 q_31 a0_34 cZ_35 a8_36 c8_37 a9_38 c9_39 a29_40 c29_41 fs1_42 k_43 k_44 k_45 k_46 k_47 k_48 k_49 k_50 k_51 H _ hK hP hD hS ls (lv_sub hl [0, 1, 2, 3] rfl)
-- ===== YOUR PART ENDS =====
set_option maxHeartbeats 4000000 in
theorem lw_walk (l : Launch) (b : Addr) (xs : List Int32) : MetFree l x (headSpec (Jvm.Cond.code x code maxLocals ret :: tables_1) room_1) (lw_P b xs) (fun _ _ _ _ _ => True) lw_Q := by
  refine MetFree.of_bodyS (code := code) (maxLocals := maxLocals) (ret := ret) (by decide) ?_ ?_
  · intro args s m h hn
    obtain ⟨meth, c, h1, h2, h3, h4, h5, h6, -, -⟩ := Cond.code_spec hn (atoms_spec (ws := Jvm.Cond.code x code maxLocals ret :: tables_1) h _ List.mem_cons_self)
    exact ⟨meth, c, h1, h2, h3, h4, h5, h6⟩
  · intro p e s m args below meth c s₁ B hml0 hP _
    obtain ⟨rfl, hx, hbd, hgv⟩ := hP
    obtain ⟨scr, harrAt, hlist, hof, hsmall⟩ := hx
    obtain ⟨hcb, hkn, -, -⟩ := State.arrayAt?_spec harrAt
    have hown : s.vm.findClass R_law = some m.cls := findClass_of_methodNamed B.named
    have hts0 : ∀ c ∈ (Jvm.Cond.code x code maxLocals ret :: tables_1), c.before #[Value.ref b] s = true := atoms_spec (ws := Jvm.Cond.code x code maxLocals ret :: tables_1) B.pre
    have hts : ∀ w ∈ lw_tbl, w.before #[Value.ref b] s = true := k2_hts_sels lw_privs (fun w hw => hts0 w (List.mem_cons_of_mem _ hw)) lw_privs_ok
    have hml : c.maxLocals = 4 := B.maxLocals_eq (hts0 _ List.mem_cons_self)
    have X₀ : Stand p l e room_1 s m #[Value.ref b] below meth c s₁ [] 0 0 := Stand.of_body B
    have hh0 : s₁.heap = s.heap := by rw [B.state]; rfl
    have hsz : scr.slots.size = xs.length := by rw [← Array.length_toList, hlist, List.length_map]
    have hval : ∀ j : Nat, j < xs.length → scr.slots[j]? = some (.int (xs.getD j 0)) := fun j hj => by
      rw [← Array.getElem?_toList, hlist]
      simp [hj]
    have hbl : b < s.heap.size := (Array.getElem?_eq_some_iff.mp hcb).1
    have hX : va_X b xs.length (fun j => xs.getD j 0) s s.heap := ⟨scr, hcb, hof, hkn, hsz, hval⟩
    have K : W p l e room_1 s m #[Value.ref b] below meth c s₁.heap [] 0 0 (lw_Z below #[Value.ref b] s) (entryFrame m ([Value.ref b] : List Value).toArray 4) := by
      rw [hh0]
      exact whole_start l hbd ⟨B.exec, B.bytes, B.returns, hml, hown, hts, hX, hbl, B.notSynchronized, hgv⟩
    obtain ⟨t, a1, o, b1, b2, b3⟩ := K s₁ rfl X₀
    exact ⟨t, o, a1, b1, b2, b3⟩
theorem lw_pre_spec {args : Array Value} {s : State} (h : (Jvm.Cond.and given_1 narrow_1).before args s = true) (hr : rest_1_c.before args s = true) : ∃ (b : Addr) (xs : List Int32), lw_P b xs args s := by
  have hs := flat_of_before _ h
  have hq := flat_of_before _ hr
  have hc : (Cond.count 1).before args s = true := hs _ (by decide +kernel)
  have harr : (Cond.arrayOf (.arg 0) .int).before args s = true := hs _ (by decide +kernel)
  have hle : (Cond.le (.length (.arg 0)) (.int 6)).before args s = true := hs _ (by decide +kernel)
  have hlen : (Cond.isInt (.length (.arg 0))).before args s = true := hq _ (by decide +kernel)
  have hall : (Cond.all (.arg 0) (.isInt (.elem (.arg 0) (.index 0)))).before args s = true := hq _ (by decide +kernel)
  obtain ⟨b, xs, hb, hx⟩ := State.ints_of_pre rfl harr hlen hall
  have hsm : xs.length < 2 ^ 31 := hx.choose_spec.2.2.2
  have hev : (Term.length (.arg 0)).eval args s none [] s = some (.int xs.length.toInt32) := hx.length_eval hb
  have hv := Cond.le_ints hev (show (Term.int 6).eval args s none [] s = some (.int 6) from rfl)
  have hd : xs.length.toInt32 ≤ 6 := by
    simpa [Cond.before, Cond.holds, hv] using hle
  have hN : xs.length ≤ 6 := (Int32.ofNat_le_ofNat hsm (by decide)).mp (show Int32.ofNat xs.length ≤ Int32.ofNat 6 from hd)
  exact ⟨b, xs, Cond.one_arg hc (show args[0]? = some (.ref b) from hb), hx, hN, h⟩
theorem lw_comes (l : Launch) : Comes l x (Jvm.Cond.code x code maxLocals ret :: tables_1) room_1 (fun tb e args s => Calls_1 tb e args s ∧ rest_1 tb e args s ∧ Pre_1 tb e args s)
    (fun _ _ args s o t => lw_Q args s o t) := by
  intro p e ha hc hk s m args below hf hfit hheap happ hpre
  obtain ⟨b, xs, hP⟩ := lw_pre_spec hpre.2.2 hpre.2.1
  obtain ⟨k, o, h1, h2, h3, hQ⟩ := lw_walk l b xs p e ha hc hk s m args below hf ((Spec.applies_iff_loose hf).mp happ).1 hP trivial
  exact ⟨k, o, h1, h2, h3, hQ⟩
theorem lw_frame {s t : State} {o : Outcome} {args : Array Value} (h : Framed s o t [] 600000 7302250) :
    Framed s o t (fieldLocs frame_1_writes args s ++ arrayLocs frame_1_arrays args s ++ staticLocs frame_1_statics s) 600000 7302250 := h
theorem lw_limb (L : Cond) (hL : ∀ (args : Array Value) (s t : State), L.after args s (.returned (some (.int 1))) t = true) :
    ArmFor flags0 classFile x code maxLocals ret World_1 tables_1 room_1 Calls_1 rest_1 Pre_1
      (fun tb e a s o t => postC L tb e a s o t ∧ Framed s o t (fieldLocs frame_1_writes a s ++ arrayLocs frame_1_arrays a s ++ staticLocs frame_1_statics s) 600000 7302250) := by
  intro l _ _ _ p e ha hc hk s m args below hf hfit hheap happ hpre
  obtain ⟨k, o, h1, h2, h3, rfl, hF⟩ := lw_comes l p e ha hc hk s m args below hf hfit hheap happ hpre
  exact ⟨k, _, h1, h2, h3, hL args s _, lw_frame hF⟩
theorem i_vc : Claimed_1_1 ∧ Claimed_1_2 := ⟨lw_limb limb_1_1 (fun args s t => by simp [limb_1_1, Cond.after, Cond.holds, Cond.value]), lw_limb limb_1_2 (fun args s t => Cond.after_iff.mpr (by
  first | (rw [show limb_1_2 = Cond.eq .result (.int 1) from rfl, Cond.eq_ints (x := 1) (y := 1) rfl rfl]; simp; done) | (simp [limb_1_2, Cond.value, Term.eval]; done)))⟩
