theorem dJ0_coder_7d493_0 : decode cJ0_coder_7d493 0 = .ok (.getstatic 38, 3) := by decide +kernel
theorem dJ0_coder_7d493_10 : decode cJ0_coder_7d493 10 = .ok (.goto 4, 3) := by decide +kernel
theorem dJ0_coder_7d493_13 : decode cJ0_coder_7d493 13 = .ok (.iconst 1, 1) := by decide +kernel
theorem dJ0_coder_7d493_14 : decode cJ0_coder_7d493 14 = .ok (.ireturn, 1) := by decide +kernel
theorem dJ0_coder_7d493_3 : decode cJ0_coder_7d493 3 = .ok (.ifCond .eq 10, 3) := by decide +kernel
theorem dJ0_coder_7d493_6 : decode cJ0_coder_7d493 6 = .ok (.aload_n 0, 1) := by decide +kernel
theorem dJ0_coder_7d493_7 : decode cJ0_coder_7d493 7 = .ok (.getfield 15, 3) := by decide +kernel
theorem dJ0_equals_9ea2d_0 : decode cJ0_equals_9ea2d 0 = .ok (.aload_n 0, 1) := by decide +kernel
theorem dJ0_equals_9ea2d_1 : decode cJ0_equals_9ea2d 1 = .ok (.aload_n 1, 1) := by decide +kernel
theorem dJ0_equals_9ea2d_11 : decode cJ0_equals_9ea2d 11 = .ok (.ifCond .eq 43, 3) := by decide +kernel
theorem dJ0_equals_9ea2d_14 : decode cJ0_equals_9ea2d 14 = .ok (.aload_n 1, 1) := by decide +kernel
theorem dJ0_equals_9ea2d_15 : decode cJ0_equals_9ea2d 15 = .ok (.checkcast 10, 3) := by decide +kernel
theorem dJ0_equals_9ea2d_18 : decode cJ0_equals_9ea2d 18 = .ok (.astore_n 2, 1) := by decide +kernel
theorem dJ0_equals_9ea2d_19 : decode cJ0_equals_9ea2d 19 = .ok (.getstatic 38, 3) := by decide +kernel
theorem dJ0_equals_9ea2d_2 : decode cJ0_equals_9ea2d 2 = .ok (.if_acmp .ne 5, 3) := by decide +kernel
theorem dJ0_equals_9ea2d_22 : decode cJ0_equals_9ea2d 22 = .ok (.ifCond .eq 14, 3) := by decide +kernel
theorem dJ0_equals_9ea2d_25 : decode cJ0_equals_9ea2d 25 = .ok (.aload_n 0, 1) := by decide +kernel
theorem dJ0_equals_9ea2d_26 : decode cJ0_equals_9ea2d 26 = .ok (.getfield 15, 3) := by decide +kernel
theorem dJ0_equals_9ea2d_29 : decode cJ0_equals_9ea2d 29 = .ok (.aload_n 2, 1) := by decide +kernel
theorem dJ0_equals_9ea2d_30 : decode cJ0_equals_9ea2d 30 = .ok (.getfield 15, 3) := by decide +kernel
theorem dJ0_equals_9ea2d_33 : decode cJ0_equals_9ea2d 33 = .ok (.if_icmp .ne 21, 3) := by decide +kernel
theorem dJ0_equals_9ea2d_36 : decode cJ0_equals_9ea2d 36 = .ok (.aload_n 0, 1) := by decide +kernel
theorem dJ0_equals_9ea2d_37 : decode cJ0_equals_9ea2d 37 = .ok (.getfield 9, 3) := by decide +kernel
theorem dJ0_equals_9ea2d_40 : decode cJ0_equals_9ea2d 40 = .ok (.aload_n 2, 1) := by decide +kernel
theorem dJ0_equals_9ea2d_41 : decode cJ0_equals_9ea2d 41 = .ok (.getfield 9, 3) := by decide +kernel
theorem dJ0_equals_9ea2d_44 : decode cJ0_equals_9ea2d 44 = .ok (.invokestatic 541, 3) := by decide +kernel
theorem dJ0_equals_9ea2d_47 : decode cJ0_equals_9ea2d 47 = .ok (.ifCond .eq 7, 3) := by decide +kernel
theorem dJ0_equals_9ea2d_5 : decode cJ0_equals_9ea2d 5 = .ok (.iconst 1, 1) := by decide +kernel
theorem dJ0_equals_9ea2d_50 : decode cJ0_equals_9ea2d 50 = .ok (.iconst 1, 1) := by decide +kernel
theorem dJ0_equals_9ea2d_51 : decode cJ0_equals_9ea2d 51 = .ok (.goto 4, 3) := by decide +kernel
theorem dJ0_equals_9ea2d_54 : decode cJ0_equals_9ea2d 54 = .ok (.iconst 0, 1) := by decide +kernel
theorem dJ0_equals_9ea2d_55 : decode cJ0_equals_9ea2d 55 = .ok (.ireturn, 1) := by decide +kernel
theorem dJ0_equals_9ea2d_6 : decode cJ0_equals_9ea2d 6 = .ok (.ireturn, 1) := by decide +kernel
theorem dJ0_equals_9ea2d_7 : decode cJ0_equals_9ea2d 7 = .ok (.aload_n 1, 1) := by decide +kernel
theorem dJ0_equals_9ea2d_8 : decode cJ0_equals_9ea2d 8 = .ok (.instanceof 10, 3) := by decide +kernel
theorem dJ0_isEmpty_aae02_0 : decode cJ0_isEmpty_aae02 0 = .ok (.aload_n 0, 1) := by decide +kernel
theorem dJ0_isEmpty_aae02_1 : decode cJ0_isEmpty_aae02 1 = .ok (.getfield 9, 3) := by decide +kernel
theorem dJ0_isEmpty_aae02_12 : decode cJ0_isEmpty_aae02 12 = .ok (.iconst 0, 1) := by decide +kernel
theorem dJ0_isEmpty_aae02_13 : decode cJ0_isEmpty_aae02 13 = .ok (.ireturn, 1) := by decide +kernel
theorem dJ0_isEmpty_aae02_4 : decode cJ0_isEmpty_aae02 4 = .ok (.arraylength, 1) := by decide +kernel
theorem dJ0_isEmpty_aae02_5 : decode cJ0_isEmpty_aae02 5 = .ok (.ifCond .ne 7, 3) := by decide +kernel
theorem dJ0_isEmpty_aae02_8 : decode cJ0_isEmpty_aae02 8 = .ok (.iconst 1, 1) := by decide +kernel
theorem dJ0_isEmpty_aae02_9 : decode cJ0_isEmpty_aae02 9 = .ok (.goto 4, 3) := by decide +kernel
theorem dJ0_length_8abf5_0 : decode cJ0_length_8abf5 0 = .ok (.aload_n 0, 1) := by decide +kernel
theorem dJ0_length_8abf5_1 : decode cJ0_length_8abf5 1 = .ok (.getfield 9, 3) := by decide +kernel
theorem dJ0_length_8abf5_10 : decode cJ0_length_8abf5 10 = .ok (.ireturn, 1) := by decide +kernel
theorem dJ0_length_8abf5_4 : decode cJ0_length_8abf5 4 = .ok (.arraylength, 1) := by decide +kernel
theorem dJ0_length_8abf5_5 : decode cJ0_length_8abf5 5 = .ok (.aload_n 0, 1) := by decide +kernel
theorem dJ0_length_8abf5_6 : decode cJ0_length_8abf5 6 = .ok (.invokevirtual 335, 3) := by decide +kernel
theorem dJ0_length_8abf5_9 : decode cJ0_length_8abf5 9 = .ok (.ishr, 1) := by decide +kernel
theorem dJ1_equals_b5fdf_0 : decode cJ1_equals_b5fdf 0 = .ok (.aload_n 0, 1) := by decide +kernel
theorem dJ1_equals_b5fdf_1 : decode cJ1_equals_b5fdf 1 = .ok (.arraylength, 1) := by decide +kernel
theorem dJ1_equals_b5fdf_10 : decode cJ1_equals_b5fdf 10 = .ok (.aload_n 0, 1) := by decide +kernel
theorem dJ1_equals_b5fdf_11 : decode cJ1_equals_b5fdf 11 = .ok (.arraylength, 1) := by decide +kernel
theorem dJ1_equals_b5fdf_12 : decode cJ1_equals_b5fdf 12 = .ok (.if_icmp .ge 20, 3) := by decide +kernel
theorem dJ1_equals_b5fdf_15 : decode cJ1_equals_b5fdf 15 = .ok (.aload_n 0, 1) := by decide +kernel
theorem dJ1_equals_b5fdf_16 : decode cJ1_equals_b5fdf 16 = .ok (.iload_n 2, 1) := by decide +kernel
theorem dJ1_equals_b5fdf_17 : decode cJ1_equals_b5fdf 17 = .ok (.baload, 1) := by decide +kernel
theorem dJ1_equals_b5fdf_18 : decode cJ1_equals_b5fdf 18 = .ok (.aload_n 1, 1) := by decide +kernel
theorem dJ1_equals_b5fdf_19 : decode cJ1_equals_b5fdf 19 = .ok (.iload_n 2, 1) := by decide +kernel
theorem dJ1_equals_b5fdf_2 : decode cJ1_equals_b5fdf 2 = .ok (.aload_n 1, 1) := by decide +kernel
theorem dJ1_equals_b5fdf_20 : decode cJ1_equals_b5fdf 20 = .ok (.baload, 1) := by decide +kernel
theorem dJ1_equals_b5fdf_21 : decode cJ1_equals_b5fdf 21 = .ok (.if_icmp .eq 5, 3) := by decide +kernel
theorem dJ1_equals_b5fdf_24 : decode cJ1_equals_b5fdf 24 = .ok (.iconst 0, 1) := by decide +kernel
theorem dJ1_equals_b5fdf_25 : decode cJ1_equals_b5fdf 25 = .ok (.ireturn, 1) := by decide +kernel
theorem dJ1_equals_b5fdf_26 : decode cJ1_equals_b5fdf 26 = .ok (.iinc 2 1, 3) := by decide +kernel
theorem dJ1_equals_b5fdf_29 : decode cJ1_equals_b5fdf 29 = .ok (.goto (-20), 3) := by decide +kernel
theorem dJ1_equals_b5fdf_3 : decode cJ1_equals_b5fdf 3 = .ok (.arraylength, 1) := by decide +kernel
theorem dJ1_equals_b5fdf_32 : decode cJ1_equals_b5fdf 32 = .ok (.iconst 1, 1) := by decide +kernel
theorem dJ1_equals_b5fdf_33 : decode cJ1_equals_b5fdf 33 = .ok (.ireturn, 1) := by decide +kernel
theorem dJ1_equals_b5fdf_34 : decode cJ1_equals_b5fdf 34 = .ok (.iconst 0, 1) := by decide +kernel
theorem dJ1_equals_b5fdf_35 : decode cJ1_equals_b5fdf 35 = .ok (.ireturn, 1) := by decide +kernel
theorem dJ1_equals_b5fdf_4 : decode cJ1_equals_b5fdf 4 = .ok (.if_icmp .ne 30, 3) := by decide +kernel
theorem dJ1_equals_b5fdf_7 : decode cJ1_equals_b5fdf 7 = .ok (.iconst 0, 1) := by decide +kernel
theorem dJ1_equals_b5fdf_8 : decode cJ1_equals_b5fdf 8 = .ok (.istore_n 2, 1) := by decide +kernel
theorem dJ1_equals_b5fdf_9 : decode cJ1_equals_b5fdf 9 = .ok (.iload_n 2, 1) := by decide +kernel
noncomputable def fJ0_coder_7d493 (h0 : Nat) (st : CS) : Option (Int32 × CS) := pif ((1 : Int32) = 0) (some ((1 : Int32), st)) (gd (qk st h0 = 1) (gd (narrow .byte (.int (qI st h0 1)) = .int (qI st h0 1)) (some (qI st h0 1, st))))
set_option maxHeartbeats 1000000 in
theorem mo_J0_coder_7d493 (h0 : Nat) (st : CS) (r : Int32) (st' : CS) (hf : fJ0_coder_7d493 h0 st = some (r, st')) : Ke st st' := by
  unfold fJ0_coder_7d493 at hf
  have hm : Ke st st := Ke.rf
  rcases pif_or hf with ⟨c_1, hf⟩ | ⟨c_1, hf⟩
  · obtain ⟨e1, e2⟩ := pr_some hf
    exact e2 ▸ hm
  · obtain ⟨hk_2, hf⟩ := gd_some hf
    obtain ⟨hz, hf⟩ := gd_some hf
    obtain ⟨e1, e2⟩ := pr_some hf
    exact e2 ▸ hm
def wq_J0_coder_7d493 : List Cond := .code yJ0_coder_7d493 cJ0_coder_7d493 1 (some .byte) :: (([.fieldLink RJ0 38 "java/lang/String" "COMPACT_STRINGS" "Z", .fieldLink RJ0 15 "java/lang/String" "coder" "B"] : List Cond) ++ wsJ00)
set_option maxHeartbeats 4000000 in
set_option maxRecDepth 100000 in
theorem c_J0_coder_7d493 (l : Launch) (dC : Nat → ClassId) (dI : Nat → Nat → Nat) (ka ad : Nat → Nat) (ct : Nat → ClassId) (h0 : Nat) (st st' : CS) (r : Int32) (hf : fJ0_coder_7d493 h0 st = some (r, st')) (sz : Nat) : Met l yJ0_coder_7d493 wq_J0_coder_7d493 ({ frames := 0, cells := 0, slots := 0, locals := 0 }) (va_Pc [.ref (ad h0)] (PrC (dC, dI) ct ka ad st sz)) (va_Qi (fun r' (_ : Unit) => r' = r) (fun _ => CB (dC, dI) ct ka ad st' (aC ad st sz)) (aC ad st sz)) 0 0 (aC ad st sz) := by
  refine Met.ofW (cc := cJ0_coder_7d493) (maxL := 1) (ret := (some .byte)) (by decide) rfl ?_
  intro p e s m args below meth c s₁ B hml hv
  obtain ⟨rfl, hsz, hw0, hK, hN, hZ, hC, hR, hL, hw1, hw2⟩ := hv
  have hx := B.exec
  have hb := B.bytes
  have hr := B.returns
  have hts := atoms_spec (ws := wq_J0_coder_7d493) B.pre
  have hown : s.vm.findClass RJ0 = some m.cls := findClass_of_methodNamed B.named
  have iRJ0 : ∀ w ∈ u_ws RJ0 TJ0 4, w ∈ wq_J0_coder_7d493 := fun w h => List.mem_cons_of_mem _ (List.mem_append_right _ h)
  subst hsz
  have hp : Cp (dC, dI) ka ad ct (aC ad st s.heap.size) s.heap st s.heap [] := ⟨fun i a b => ⟨hw0 i a b, Or.inl ⟨i, a, b, rfl⟩⟩, va_S.rf, hw1, hw2⟩
  generalize hAe : aC ad st s.heap.size = A at hp hZ hC ⊢
  have hA : ∀ q : Nat, s.heap.size ≤ q → A q := fun q h => by rw [← hAe]; exact Or.inr h
  have hl := lv_entry ([.ref (ad h0)]) (n := 1) (Nat.le_of_ble_eq_true rfl)
  rw [lg_entry_eq]
  generalize (lg_sl ([.ref (ad h0)]) ++ List.replicate (1 - (lg_sl ([.ref (ad h0)])).length) Slot.unset).toArray = ls at hl ⊢
  have hl : lv_has ls 1 [(0, .ref (ad h0))] := hl
  unfold fJ0_coder_7d493 at hf
  refine va_gets (C := "java/lang/String") (n := "COMPACT_STRINGS") (d := "Z") (v := .int 1) hx hb hZ hp.2.1 hown (hts (.fieldLink RJ0 38 "java/lang/String" "COMPACT_STRINGS" "Z") (by decide +kernel)) (fun _ h9 => h9) dJ0_coder_7d493_0 ?_
  refine lv_if_eq (tgt := 13) hx hb dJ0_coder_7d493_3 (by decide) (fun c_1 => ?_) (fun c_1 => ?_)
  · have hf := pif_t c_1 hf
    refine lv_iconst (v := 1) hx hb dJ0_coder_7d493_13 (by decide) ?_
    obtain ⟨e1, e2⟩ := pr_some hf
    exact W.zret (v := 1) hx hb hr rfl (fun t ht hW => ⟨⟨1, (), rfl, e1, Cp.end e2 hp ht⟩, hp.2.1.F ht⟩) hp.2.1.2.2 dJ0_coder_7d493_14
  · have hf := pif_f c_1 hf
    refine lv_aload_n hx hb dJ0_coder_7d493_6 rfl (lv_at hl 0 rfl) ?_
    obtain ⟨hk_2, hf⟩ := gd_some hf
    refine q_gs1 hx hb hts iRJ0 hown hK hp hC hk_2 (hts (.fieldLink RJ0 15 "java/lang/String" "coder" "B") (by decide +kernel)) dJ0_coder_7d493_7 ?_
    refine lv_goto (tgt := 14) hx hb dJ0_coder_7d493_10 (by decide) ?_
    obtain ⟨hz, hf⟩ := gd_some hf
    obtain ⟨e1, e2⟩ := pr_some hf
    exact W.zret (v := qI st h0 1) hx hb hr hz (fun t ht hW => ⟨⟨qI st h0 1, (), rfl, e1, Cp.end e2 hp ht⟩, hp.2.1.F ht⟩) hp.2.1.2.2 dJ0_coder_7d493_14
noncomputable def fJ0_length_8abf5 (h0 : Nat) (st : CS) : Option (Int32 × CS) := gd (qk st h0 = 1) (ono (qP st h0 0) (fun a_2 => gd (qk st a_2 = 22) (bnd (fJ0_coder_7d493 h0 st) (fun r_7 st_5 => some ((nI (ql st a_2)) >>> (r_7 &&& 31), st_5)))))
set_option maxHeartbeats 1000000 in
theorem mo_J0_length_8abf5 (h0 : Nat) (st : CS) (r : Int32) (st' : CS) (hf : fJ0_length_8abf5 h0 st = some (r, st')) : Ke st st' := by
  unfold fJ0_length_8abf5 at hf
  have hm : Ke st st := Ke.rf
  obtain ⟨hk_1, hf⟩ := gd_some hf
  obtain ⟨a_2, ha_3, hf⟩ := ono_some hf
  obtain ⟨hk_4, hf⟩ := gd_some hf
  obtain ⟨r_7, st_5, hc_6, hf⟩ := bnd_some hf
  have hm := hm.tr (mo_J0_coder_7d493 h0 _ _ _ hc_6)
  obtain ⟨e1, e2⟩ := pr_some hf
  exact e2 ▸ hm
def wq_J0_length_8abf5 : List Cond := .code yJ0_length_8abf5 cJ0_length_8abf5 1 (some .int) :: (([.fieldLink RJ0 9 "java/lang/String" "value" "[B", .methodLink RJ0 335 yJ0_coder_7d493, .instanceMethod yJ0_coder_7d493, .selects RJ0 yJ0_coder_7d493 yJ0_coder_7d493, .initialized RJ0, .code yJ0_coder_7d493 cJ0_coder_7d493 1 (some .byte), .fieldLink RJ0 38 "java/lang/String" "COMPACT_STRINGS" "Z", .fieldLink RJ0 15 "java/lang/String" "coder" "B"] : List Cond) ++ wsJ00)
theorem gs_wq_J0_length_8abf5_wsJ00 : GoodIn wq_J0_length_8abf5 wsJ00 := fun w h => ⟨List.mem_cons_of_mem _ (List.mem_append_right _ h), (gt_wsJ00 w h).2⟩
set_option maxRecDepth 20000 in
theorem gq_J0_length_8abf5_J0_coder_7d493_335 : GoodIn wq_J0_length_8abf5 (wsV RJ0 335 RJ0 yJ0_coder_7d493 wq_J0_coder_7d493) := goodIn_app (goodIn_r _ [2, 3, 4, 5] rfl rfl) (goodIn_ca (goodIn_r _ [6, 7, 8] rfl rfl) gs_wq_J0_length_8abf5_wsJ00)
set_option maxHeartbeats 4000000 in
set_option maxRecDepth 100000 in
theorem c_J0_length_8abf5 (l : Launch) (dC : Nat → ClassId) (dI : Nat → Nat → Nat) (ka ad : Nat → Nat) (ct : Nat → ClassId) (h0 : Nat) (st st' : CS) (r : Int32) (hf : fJ0_length_8abf5 h0 st = some (r, st')) (sz : Nat) : Met l yJ0_length_8abf5 wq_J0_length_8abf5 ({ frames := 1, cells := 0, slots := 0, locals := 24 }) (va_Pc [.ref (ad h0)] (PrC (dC, dI) ct ka ad st sz)) (va_Qi (fun r' (_ : Unit) => r' = r) (fun _ => CB (dC, dI) ct ka ad st' (aC ad st sz)) (aC ad st sz)) 0 0 (aC ad st sz) := by
  refine Met.ofW (cc := cJ0_length_8abf5) (maxL := 1) (ret := (some .int)) (by decide) rfl ?_
  intro p e s m args below meth c s₁ B hml hv
  obtain ⟨rfl, hsz, hw0, hK, hN, hZ, hC, hR, hL, hw1, hw2⟩ := hv
  have hx := B.exec
  have hb := B.bytes
  have hr := B.returns
  have hts := atoms_spec (ws := wq_J0_length_8abf5) B.pre
  have hown : s.vm.findClass RJ0 = some m.cls := findClass_of_methodNamed B.named
  have iRJ0 : ∀ w ∈ u_ws RJ0 TJ0 4, w ∈ wq_J0_length_8abf5 := fun w h => List.mem_cons_of_mem _ (List.mem_append_right _ h)
  subst hsz
  have hp : Cp (dC, dI) ka ad ct (aC ad st s.heap.size) s.heap st s.heap [] := ⟨fun i a b => ⟨hw0 i a b, Or.inl ⟨i, a, b, rfl⟩⟩, va_S.rf, hw1, hw2⟩
  generalize hAe : aC ad st s.heap.size = A at hp hZ hC ⊢
  have hA : ∀ q : Nat, s.heap.size ≤ q → A q := fun q h => by rw [← hAe]; exact Or.inr h
  have hl := lv_entry ([.ref (ad h0)]) (n := 1) (Nat.le_of_ble_eq_true rfl)
  rw [lg_entry_eq]
  generalize (lg_sl ([.ref (ad h0)]) ++ List.replicate (1 - (lg_sl ([.ref (ad h0)])).length) Slot.unset).toArray = ls at hl ⊢
  have hl : lv_has ls 1 [(0, .ref (ad h0))] := hl
  unfold fJ0_length_8abf5 at hf
  refine lv_aload_n hx hb dJ0_length_8abf5_0 rfl (lv_at hl 0 rfl) ?_
  obtain ⟨hk_1, hf⟩ := gd_some hf
  refine q_gs0 hx hb hts iRJ0 hown hK hp hC hk_1 (hts (.fieldLink RJ0 9 "java/lang/String" "value" "[B") (by decide +kernel)) dJ0_length_8abf5_1 ?_
  obtain ⟨a_2, ha_3, hf⟩ := ono_some hf
  refine o_at ha_3 ?_
  obtain ⟨hk_4, hf⟩ := gd_some hf
  refine q_lenb hx hb hK hp hC hk_4 dJ0_length_8abf5_4 ?_
  refine lv_aload_n hx hb dJ0_length_8abf5_5 rfl (lv_at hl 0 rfl) ?_
  obtain ⟨r_7, st_5, hc_6, hf⟩ := bnd_some hf
  refine q_ci hp hA (va_runV (As := []) (rest := [.int (nI (ql st a_2))]) ⟨hx, hb, hml, hown, hts⟩ (c_J0_coder_7d493 l dC dI ka ad ct h0 _ _ _ hc_6 _) (cwV 0 hts gq_J0_length_8abf5_J0_coder_7d493_335 rfl rfl rfl (by decide +kernel) ⟨Nat.le_of_ble_eq_true rfl, Nat.le_of_ble_eq_true rfl⟩) ⟨PrC.blind _, q_recv (ci := 0) hK hp hC hk_1 (by decide) rfl (fun _ => rfl), q_pre hp hK hN hZ hC hR hL hA⟩ rfl rfl hl.1 rfl (lv_room (Nat.le_of_ble_eq_true rfl)) dJ0_length_8abf5_6 ⟨Nat.le_of_ble_eq_true rfl, Nat.le_of_ble_eq_true rfl⟩) (fun H locs hp => ?_)
  have hk_1 : qk st_5 h0 = 1 := by rw [(mo_J0_coder_7d493 h0 _ _ _ hc_6).2.2.1]; exact hk_1
  have hk_4 : qk st_5 a_2 = 22 := by rw [(mo_J0_coder_7d493 h0 _ _ _ hc_6).2.2.1]; exact hk_4
  refine lv_ishr hx hb dJ0_length_8abf5_9 ?_
  obtain ⟨e1, e2⟩ := pr_some hf
  exact W.iret (v := (nI (ql st a_2)) >>> (r_7 &&& 31)) hx hb hr (fun t ht hW => ⟨⟨(nI (ql st a_2)) >>> (r_7 &&& 31), (), rfl, e1, Cp.end e2 hp ht⟩, hp.2.1.F ht⟩) hp.2.1.2.2 dJ0_length_8abf5_10
noncomputable def fJ0_isEmpty_aae02 (h0 : Nat) (st : CS) : Option (Int32 × CS) := gd (qk st h0 = 1) (ono (qP st h0 0) (fun a_2 => gd (qk st a_2 = 22) (pif ((nI (ql st a_2)) = 0) (some ((1 : Int32), st)) (some ((0 : Int32), st)))))
set_option maxHeartbeats 1000000 in
theorem mo_J0_isEmpty_aae02 (h0 : Nat) (st : CS) (r : Int32) (st' : CS) (hf : fJ0_isEmpty_aae02 h0 st = some (r, st')) : Ke st st' := by
  unfold fJ0_isEmpty_aae02 at hf
  have hm : Ke st st := Ke.rf
  obtain ⟨hk_1, hf⟩ := gd_some hf
  obtain ⟨a_2, ha_3, hf⟩ := ono_some hf
  obtain ⟨hk_4, hf⟩ := gd_some hf
  rcases pif_or hf with ⟨c_5, hf⟩ | ⟨c_5, hf⟩
  · obtain ⟨e1, e2⟩ := pr_some hf
    exact e2 ▸ hm
  · obtain ⟨e1, e2⟩ := pr_some hf
    exact e2 ▸ hm
def wq_J0_isEmpty_aae02 : List Cond := .code yJ0_isEmpty_aae02 cJ0_isEmpty_aae02 1 (some .boolean) :: (([.fieldLink RJ0 9 "java/lang/String" "value" "[B"] : List Cond) ++ wsJ00)
set_option maxHeartbeats 4000000 in
set_option maxRecDepth 100000 in
theorem c_J0_isEmpty_aae02 (l : Launch) (dC : Nat → ClassId) (dI : Nat → Nat → Nat) (ka ad : Nat → Nat) (ct : Nat → ClassId) (h0 : Nat) (st st' : CS) (r : Int32) (hf : fJ0_isEmpty_aae02 h0 st = some (r, st')) (sz : Nat) : Met l yJ0_isEmpty_aae02 wq_J0_isEmpty_aae02 ({ frames := 0, cells := 0, slots := 0, locals := 0 }) (va_Pc [.ref (ad h0)] (PrC (dC, dI) ct ka ad st sz)) (va_Qi (fun r' (_ : Unit) => r' = r) (fun _ => CB (dC, dI) ct ka ad st' (aC ad st sz)) (aC ad st sz)) 0 0 (aC ad st sz) := by
  refine Met.ofW (cc := cJ0_isEmpty_aae02) (maxL := 1) (ret := (some .boolean)) (by decide) rfl ?_
  intro p e s m args below meth c s₁ B hml hv
  obtain ⟨rfl, hsz, hw0, hK, hN, hZ, hC, hR, hL, hw1, hw2⟩ := hv
  have hx := B.exec
  have hb := B.bytes
  have hr := B.returns
  have hts := atoms_spec (ws := wq_J0_isEmpty_aae02) B.pre
  have hown : s.vm.findClass RJ0 = some m.cls := findClass_of_methodNamed B.named
  have iRJ0 : ∀ w ∈ u_ws RJ0 TJ0 4, w ∈ wq_J0_isEmpty_aae02 := fun w h => List.mem_cons_of_mem _ (List.mem_append_right _ h)
  subst hsz
  have hp : Cp (dC, dI) ka ad ct (aC ad st s.heap.size) s.heap st s.heap [] := ⟨fun i a b => ⟨hw0 i a b, Or.inl ⟨i, a, b, rfl⟩⟩, va_S.rf, hw1, hw2⟩
  generalize hAe : aC ad st s.heap.size = A at hp hZ hC ⊢
  have hA : ∀ q : Nat, s.heap.size ≤ q → A q := fun q h => by rw [← hAe]; exact Or.inr h
  have hl := lv_entry ([.ref (ad h0)]) (n := 1) (Nat.le_of_ble_eq_true rfl)
  rw [lg_entry_eq]
  generalize (lg_sl ([.ref (ad h0)]) ++ List.replicate (1 - (lg_sl ([.ref (ad h0)])).length) Slot.unset).toArray = ls at hl ⊢
  have hl : lv_has ls 1 [(0, .ref (ad h0))] := hl
  unfold fJ0_isEmpty_aae02 at hf
  refine lv_aload_n hx hb dJ0_isEmpty_aae02_0 rfl (lv_at hl 0 rfl) ?_
  obtain ⟨hk_1, hf⟩ := gd_some hf
  refine q_gs0 hx hb hts iRJ0 hown hK hp hC hk_1 (hts (.fieldLink RJ0 9 "java/lang/String" "value" "[B") (by decide +kernel)) dJ0_isEmpty_aae02_1 ?_
  obtain ⟨a_2, ha_3, hf⟩ := ono_some hf
  refine o_at ha_3 ?_
  obtain ⟨hk_4, hf⟩ := gd_some hf
  refine q_lenb hx hb hK hp hC hk_4 dJ0_isEmpty_aae02_4 ?_
  refine lv_if_ne (tgt := 12) hx hb dJ0_isEmpty_aae02_5 (by decide) (fun c_5 => ?_) (fun c_5 => ?_)
  · have hf := pif_f c_5 hf
    refine lv_iconst (v := 0) hx hb dJ0_isEmpty_aae02_12 (by decide) ?_
    obtain ⟨e1, e2⟩ := pr_some hf
    exact W.zret (v := 0) hx hb hr rfl (fun t ht hW => ⟨⟨0, (), rfl, e1, Cp.end e2 hp ht⟩, hp.2.1.F ht⟩) hp.2.1.2.2 dJ0_isEmpty_aae02_13
  · have hf := pif_t c_5 hf
    refine lv_iconst (v := 1) hx hb dJ0_isEmpty_aae02_8 (by decide) ?_
    refine lv_goto (tgt := 13) hx hb dJ0_isEmpty_aae02_9 (by decide) ?_
    obtain ⟨e1, e2⟩ := pr_some hf
    exact W.zret (v := 1) hx hb hr rfl (fun t ht hW => ⟨⟨1, (), rfl, e1, Cp.end e2 hp ht⟩, hp.2.1.F ht⟩) hp.2.1.2.2 dJ0_isEmpty_aae02_13
noncomputable def fJ1_equals_b5fdf_9  : Nat → Option Nat → Option Nat → Int32 → CS → Option (Int32 × CS)
  | 0 => fun _ _ _ _ => none
  | n + 1 => fun l0 l1 l2 gs => ono l0 (fun a_1 => gd (qk gs a_1 = 22) (pif ((nI (ql gs a_1)) ≤ l2) (some ((1 : Int32), gs)) (gd (vp_in l2 (ql gs a_1) ∧ ql gs a_1 < 2 ^ 31) (ono l1 (fun a_6 => gd (qk gs a_6 = 22) (gd (vp_in l2 (ql gs a_6) ∧ ql gs a_6 < 2 ^ 31) (pif ((qI gs a_1 l2.toNatClampNeg) = (qI gs a_6 l2.toNatClampNeg)) (nam (l2 + 1) (fun v_11 => (fJ1_equals_b5fdf_9 n) l0 l1 v_11 gs)) (some ((0 : Int32), gs)))))))))
theorem fJ1_equals_b5fdf_9_z  (l0 : Option Nat) (l1 : Option Nat) (l2 : Int32) (gs : CS) : fJ1_equals_b5fdf_9 0 l0 l1 l2 gs = none := rfl
theorem fJ1_equals_b5fdf_9_s  (n : Nat) (l0 : Option Nat) (l1 : Option Nat) (l2 : Int32) (gs : CS) : fJ1_equals_b5fdf_9 (n + 1) l0 l1 l2 gs = ono l0 (fun a_1 => gd (qk gs a_1 = 22) (pif ((nI (ql gs a_1)) ≤ l2) (some ((1 : Int32), gs)) (gd (vp_in l2 (ql gs a_1) ∧ ql gs a_1 < 2 ^ 31) (ono l1 (fun a_6 => gd (qk gs a_6 = 22) (gd (vp_in l2 (ql gs a_6) ∧ ql gs a_6 < 2 ^ 31) (pif ((qI gs a_1 l2.toNatClampNeg) = (qI gs a_6 l2.toNatClampNeg)) (nam (l2 + 1) (fun v_11 => (fJ1_equals_b5fdf_9 n) l0 l1 v_11 gs)) (some ((0 : Int32), gs))))))))) := rfl
set_option maxHeartbeats 1000000 in
theorem mo_J1_equals_b5fdf_9   : ∀ (n : Nat) (l0 : Option Nat) (l1 : Option Nat) (l2 : Int32) (gs : CS) (r : Int32) (st' : CS), fJ1_equals_b5fdf_9 n l0 l1 l2 gs = some (r, st') → Ke gs st' := by
  intro n
  induction n with
  | zero =>
    intro l0 l1 l2 gs r st' hf
    rw [fJ1_equals_b5fdf_9_z] at hf
    cases hf
  | succ n ih =>
    intro l0 l1 l2 gs r st' hf
    rw [fJ1_equals_b5fdf_9_s] at hf
    have hm : Ke gs gs := Ke.rf
    obtain ⟨a_1, ha_2, hf⟩ := ono_some hf
    obtain ⟨hk_3, hf⟩ := gd_some hf
    rcases pif_or hf with ⟨c_4, hf⟩ | ⟨c_4, hf⟩
    · obtain ⟨e1, e2⟩ := pr_some hf
      exact e2 ▸ hm
    · obtain ⟨g_5, hf⟩ := gd_some hf
      obtain ⟨a_6, ha_7, hf⟩ := ono_some hf
      obtain ⟨hk_8, hf⟩ := gd_some hf
      obtain ⟨g_9, hf⟩ := gd_some hf
      rcases pif_or hf with ⟨c_10, hf⟩ | ⟨c_10, hf⟩
      · obtain ⟨v_11, ev_11, hf⟩ := nam_some hf
        exact hm.tr (ih l0 l1 v_11 gs _ _ hf)
      · obtain ⟨e1, e2⟩ := pr_some hf
        exact e2 ▸ hm
noncomputable def fJ1_equals_b5fdf (p0 : Option Nat) (p1 : Option Nat) (st : CS) : Option (Int32 × CS) := ono p0 (fun a_12 => gd (qk st a_12 = 22) (ono p1 (fun a_15 => gd (qk st a_15 = 22) (pif ((nI (ql st a_12)) = (nI (ql st a_15))) (fJ1_equals_b5fdf_9 fuel p0 p1 0 st) (some ((0 : Int32), st))))))
set_option maxHeartbeats 1000000 in
theorem mo_J1_equals_b5fdf (p0 : Option Nat) (p1 : Option Nat) (st : CS) (r : Int32) (st' : CS) (hf : fJ1_equals_b5fdf p0 p1 st = some (r, st')) : Ke st st' := by
  unfold fJ1_equals_b5fdf at hf
  have hm : Ke st st := Ke.rf
  obtain ⟨a_12, ha_13, hf⟩ := ono_some hf
  obtain ⟨hk_14, hf⟩ := gd_some hf
  obtain ⟨a_15, ha_16, hf⟩ := ono_some hf
  obtain ⟨hk_17, hf⟩ := gd_some hf
  rcases pif_or hf with ⟨c_18, hf⟩ | ⟨c_18, hf⟩
  · exact hm.tr (mo_J1_equals_b5fdf_9 fuel p0 p1 0 st _ _ hf)
  · obtain ⟨e1, e2⟩ := pr_some hf
    exact e2 ▸ hm
def wq_J1_equals_b5fdf : List Cond := .code yJ1_equals_b5fdf cJ1_equals_b5fdf 3 (some .boolean) :: ([])
set_option maxHeartbeats 4000000 in
set_option maxRecDepth 100000 in
theorem c_J1_equals_b5fdf (l : Launch) (dC : Nat → ClassId) (dI : Nat → Nat → Nat) (ka ad : Nat → Nat) (ct : Nat → ClassId) (p0 : Option Nat) (p1 : Option Nat) (st st' : CS) (r : Int32) (hf : fJ1_equals_b5fdf p0 p1 st = some (r, st')) (sz : Nat) : Met l yJ1_equals_b5fdf wq_J1_equals_b5fdf ({ frames := 0, cells := 0, slots := 0, locals := 0 }) (va_Pc [va_rf (Option.map ad p0), va_rf (Option.map ad p1)] (PrC (dC, dI) ct ka ad st sz)) (va_Qi (fun r' (_ : Unit) => r' = r) (fun _ => CB (dC, dI) ct ka ad st' (aC ad st sz)) (aC ad st sz)) 0 0 (aC ad st sz) := by
  refine Met.ofW (cc := cJ1_equals_b5fdf) (maxL := 3) (ret := (some .boolean)) (by decide) rfl ?_
  intro p e s m args below meth c s₁ B hml hv
  obtain ⟨rfl, hsz, hw0, hK, hN, hZ, hC, hR, hL, hw1, hw2⟩ := hv
  have hx := B.exec
  have hb := B.bytes
  have hr := B.returns
  have hts := atoms_spec (ws := wq_J1_equals_b5fdf) B.pre
  have hown : s.vm.findClass RJ1 = some m.cls := findClass_of_methodNamed B.named
  subst hsz
  have hp : Cp (dC, dI) ka ad ct (aC ad st s.heap.size) s.heap st s.heap [] := ⟨fun i a b => ⟨hw0 i a b, Or.inl ⟨i, a, b, rfl⟩⟩, va_S.rf, hw1, hw2⟩
  generalize hAe : aC ad st s.heap.size = A at hp hZ hC ⊢
  have hA : ∀ q : Nat, s.heap.size ≤ q → A q := fun q h => by rw [← hAe]; exact Or.inr h
  have hl := lv_entry ([va_rf (Option.map ad p0), va_rf (Option.map ad p1)]) (n := 3) (by simp [lg_sl, rf_cat, vc_i, vc_l, vc_r, vc_n])
  rw [lg_entry_eq]
  generalize (lg_sl ([va_rf (Option.map ad p0), va_rf (Option.map ad p1)]) ++ List.replicate (3 - (lg_sl ([va_rf (Option.map ad p0), va_rf (Option.map ad p1)])).length) Slot.unset).toArray = ls at hl ⊢
  have hl : lv_has ls 3 [(0, va_rf (Option.map ad p0)), (1, va_rf (Option.map ad p1))] := by simpa [lv_args, rf_cat, vc_i, vc_l, vc_r, vc_n] using hl
  refine W_lp (fun n9 (u : (Option Nat) × (Option Nat) × Int32 × CS) H locs ls => match u with | (l0, l1, l2, gs) => fJ1_equals_b5fdf_9 n9 l0 l1 l2 gs = some (r, st') ∧ Cp (dC, dI) ka ad ct A s.heap gs H locs ∧ lv_has ls 3 [(0, va_rf (Option.map ad l0)), (1, va_rf (Option.map ad l1)), (2, .int l2)]) (fun (u : (Option Nat) × (Option Nat) × Int32 × CS) ls => match u with | (l0, l1, l2, gs) => F0 m 9 ls []) ?_ ?_ (fun J9 => ?_)
  · intro u H locs ls hu
    obtain ⟨l0, l1, l2, gs⟩ := u
    obtain ⟨hf, hp, hl⟩ := hu
    rw [fJ1_equals_b5fdf_9_z] at hf
    cases hf
  · intro n9 ih9 u H locs ls hu
    obtain ⟨l0, l1, l2, gs⟩ := u
    obtain ⟨hf, hp, hl⟩ := hu
    show W p l e _ s m _ below meth c _ _ _ _ _ (F0 m 9 ls [])
    rw [fJ1_equals_b5fdf_9_s] at hf
    refine lv_iload_n hx hb dJ1_equals_b5fdf_9 rfl (lv_at hl 2 rfl) ?_
    refine o_aload_n hx hb dJ1_equals_b5fdf_10 rfl (lv_at hl 0 rfl) ?_
    obtain ⟨a_1, ha_2, hf⟩ := ono_some hf
    refine o_at ha_2 ?_
    obtain ⟨hk_3, hf⟩ := gd_some hf
    refine q_lenb hx hb hK hp hC hk_3 dJ1_equals_b5fdf_11 ?_
    refine lv_icmp_ge (tgt := 32) hx hb dJ1_equals_b5fdf_12 (by decide) (fun c_4 => ?_) (fun c_4 => ?_)
    · have hf := pif_t c_4 hf
      refine lv_iconst (v := 1) hx hb dJ1_equals_b5fdf_32 (by decide) ?_
      obtain ⟨e1, e2⟩ := pr_some hf
      exact W.zret (v := 1) hx hb hr rfl (fun t ht hW => ⟨⟨1, (), rfl, e1, Cp.end e2 hp ht⟩, hp.2.1.F ht⟩) hp.2.1.2.2 dJ1_equals_b5fdf_33
    · have hf := pif_f c_4 hf
      refine o_aload_n hx hb dJ1_equals_b5fdf_15 rfl (lv_at hl 0 rfl) ?_
      refine lv_iload_n hx hb dJ1_equals_b5fdf_16 rfl (lv_at hl 2 rfl) ?_
      refine o_at1 ha_2 ?_
      obtain ⟨g_5, hf⟩ := gd_some hf
      refine q_ab hx hb hK hp hC hk_3 g_5.1 g_5.2 dJ1_equals_b5fdf_17 ?_
      refine o_aload_n hx hb dJ1_equals_b5fdf_18 rfl (lv_at hl 1 rfl) ?_
      refine lv_iload_n hx hb dJ1_equals_b5fdf_19 rfl (lv_at hl 2 rfl) ?_
      obtain ⟨a_6, ha_7, hf⟩ := ono_some hf
      refine o_at1 ha_7 ?_
      obtain ⟨hk_8, hf⟩ := gd_some hf
      obtain ⟨g_9, hf⟩ := gd_some hf
      refine q_ab hx hb hK hp hC hk_8 g_9.1 g_9.2 dJ1_equals_b5fdf_20 ?_
      refine lv_icmp_eq (tgt := 26) hx hb dJ1_equals_b5fdf_21 (by decide) (fun c_10 => ?_) (fun c_10 => ?_)
      · have hf := pif_t c_10 hf
        obtain ⟨v_11, ev_11, hf⟩ := nam_some hf
        refine lv_iinc (v := v_11) (lv' := [(2, .int v_11), (0, va_rf (Option.map ad l0)), (1, va_rf (Option.map ad l1))]) hx hb dJ1_equals_b5fdf_26 hl (k := 2) rfl ev_11.symm (by decide) (by simp [rf_cat, vc_i, vc_l, vc_r, vc_n]) (fun ls hl => ?_)
        refine lv_goto (tgt := 9) hx hb dJ1_equals_b5fdf_29 (by decide) ?_
        exact ih9 (l0, l1, v_11, gs) _ _ _ ⟨hf, hp, (lv_sub hl [1, 2, 0] rfl)⟩
      · have hf := pif_f c_10 hf
        refine lv_iconst (v := 0) hx hb dJ1_equals_b5fdf_24 (by decide) ?_
        obtain ⟨e1, e2⟩ := pr_some hf
        exact W.zret (v := 0) hx hb hr rfl (fun t ht hW => ⟨⟨0, (), rfl, e1, Cp.end e2 hp ht⟩, hp.2.1.F ht⟩) hp.2.1.2.2 dJ1_equals_b5fdf_25
  unfold fJ1_equals_b5fdf at hf
  refine o_aload_n hx hb dJ1_equals_b5fdf_0 rfl (lv_at hl 0 rfl) ?_
  obtain ⟨a_12, ha_13, hf⟩ := ono_some hf
  refine o_at ha_13 ?_
  obtain ⟨hk_14, hf⟩ := gd_some hf
  refine q_lenb hx hb hK hp hC hk_14 dJ1_equals_b5fdf_1 ?_
  refine o_aload_n hx hb dJ1_equals_b5fdf_2 rfl (lv_at hl 1 rfl) ?_
  obtain ⟨a_15, ha_16, hf⟩ := ono_some hf
  refine o_at ha_16 ?_
  obtain ⟨hk_17, hf⟩ := gd_some hf
  refine q_lenb hx hb hK hp hC hk_17 dJ1_equals_b5fdf_3 ?_
  refine lv_icmp_ne (tgt := 34) hx hb dJ1_equals_b5fdf_4 (by decide) (fun c_18 => ?_) (fun c_18 => ?_)
  · have hf := pif_f c_18 hf
    refine lv_iconst (v := 0) hx hb dJ1_equals_b5fdf_34 (by decide) ?_
    obtain ⟨e1, e2⟩ := pr_some hf
    exact W.zret (v := 0) hx hb hr rfl (fun t ht hW => ⟨⟨0, (), rfl, e1, Cp.end e2 hp ht⟩, hp.2.1.F ht⟩) hp.2.1.2.2 dJ1_equals_b5fdf_35
  · have hf := pif_t c_18 hf
    refine lv_iconst (v := 0) hx hb dJ1_equals_b5fdf_7 (by decide) ?_
    refine lv_istore_n (i := 2) (lv' := [(2, .int 0), (0, va_rf (Option.map ad p0)), (1, va_rf (Option.map ad p1))]) hx hb dJ1_equals_b5fdf_8 rfl hl (by decide) (by simp [rf_cat, vc_i, vc_l, vc_r, vc_n]) (fun ls hl => ?_)
    exact J9 fuel (p0, p1, 0, st) _ _ _ ⟨hf, hp, (lv_sub hl [1, 2, 0] rfl)⟩
noncomputable def fJ0_equals_9ea2d_36 (h0 : Nat)  (l2 : Option Nat) (gs : CS) : Option (Int32 × CS) := gd (qk gs h0 = 1) (ono l2 (fun a_2 => gd (qk gs a_2 = 1) (bnd (fJ1_equals_b5fdf (qP gs h0 0) (qP gs a_2 0) gs) (fun r_7 st_5 => pif (r_7 = 0) (some ((0 : Int32), st_5)) (some ((1 : Int32), st_5))))))
set_option maxHeartbeats 1000000 in
theorem mo_J0_equals_9ea2d_36 (h0 : Nat)   (l2 : Option Nat) (gs : CS) (r : Int32) (st' : CS) (hf : fJ0_equals_9ea2d_36 h0 l2 gs = some (r, st')) : Ke gs st' := by
  unfold fJ0_equals_9ea2d_36 at hf
  have hm : Ke gs gs := Ke.rf
  obtain ⟨hk_1, hf⟩ := gd_some hf
  obtain ⟨a_2, ha_3, hf⟩ := ono_some hf
  obtain ⟨hk_4, hf⟩ := gd_some hf
  obtain ⟨r_7, st_5, hc_6, hf⟩ := bnd_some hf
  have hm := hm.tr (mo_J1_equals_b5fdf (qP gs h0 0) (qP gs a_2 0) _ _ _ hc_6)
  rcases pif_or hf with ⟨c_8, hf⟩ | ⟨c_8, hf⟩
  · obtain ⟨e1, e2⟩ := pr_some hf
    exact e2 ▸ hm
  · obtain ⟨e1, e2⟩ := pr_some hf
    exact e2 ▸ hm
noncomputable def fJ0_equals_9ea2d (h0 : Nat) (p0 : Option Nat) (st : CS) : Option (Int32 × CS) := ono p0 (fun a_9 => gd (qk st a_9 = 1) (gd (qk st h0 = 1) (pif (h0 = a_9) (some ((1 : Int32), st)) (pif ((1 : Int32) = 0) (some ((0 : Int32), st)) (pif ((1 : Int32) = 0) (fJ0_equals_9ea2d_36 h0 (some a_9) st) (pif ((qI st h0 1) = (qI st a_9 1)) (fJ0_equals_9ea2d_36 h0 (some a_9) st) (some ((0 : Int32), st))))))))
set_option maxHeartbeats 1000000 in
theorem mo_J0_equals_9ea2d (h0 : Nat) (p0 : Option Nat) (st : CS) (r : Int32) (st' : CS) (hf : fJ0_equals_9ea2d h0 p0 st = some (r, st')) : Ke st st' := by
  unfold fJ0_equals_9ea2d at hf
  have hm : Ke st st := Ke.rf
  obtain ⟨a_9, ha_10, hf⟩ := ono_some hf
  obtain ⟨hk_11, hf⟩ := gd_some hf
  obtain ⟨hk_12, hf⟩ := gd_some hf
  rcases pif_or hf with ⟨c_13, hf⟩ | ⟨c_13, hf⟩
  · obtain ⟨e1, e2⟩ := pr_some hf
    exact e2 ▸ hm
  · rcases pif_or hf with ⟨c_14, hf⟩ | ⟨c_14, hf⟩
    · obtain ⟨e1, e2⟩ := pr_some hf
      exact e2 ▸ hm
    · rcases pif_or hf with ⟨c_15, hf⟩ | ⟨c_15, hf⟩
      · exact hm.tr (mo_J0_equals_9ea2d_36 h0 (some a_9) st _ _ hf)
      · rcases pif_or hf with ⟨c_16, hf⟩ | ⟨c_16, hf⟩
        · exact hm.tr (mo_J0_equals_9ea2d_36 h0 (some a_9) st _ _ hf)
        · obtain ⟨e1, e2⟩ := pr_some hf
          exact e2 ▸ hm
def wq_J0_equals_9ea2d : List Cond := .code yJ0_equals_9ea2d cJ0_equals_9ea2d 3 (some .boolean) :: (([.classLink RJ0 10 "java/lang/String", .fieldLink RJ0 38 "java/lang/String" "COMPACT_STRINGS" "Z", .fieldLink RJ0 15 "java/lang/String" "coder" "B", .fieldLink RJ0 9 "java/lang/String" "value" "[B", .methodLink RJ0 541 yJ1_equals_b5fdf, .static yJ1_equals_b5fdf, .initialized RJ1, .code yJ1_equals_b5fdf cJ1_equals_b5fdf 3 (some .boolean)] : List Cond) ++ wsJ00)
set_option maxRecDepth 20000 in
theorem gq_J0_equals_9ea2d_J1_equals_b5fdf_541 : GoodIn wq_J0_equals_9ea2d (va_wsS RJ0 541 yJ1_equals_b5fdf wq_J1_equals_b5fdf) := goodIn_app (goodIn_r _ [5, 6, 7] rfl rfl) (goodIn_r _ [8] rfl rfl)
set_option maxHeartbeats 4000000 in
set_option maxRecDepth 100000 in
theorem c_J0_equals_9ea2d (l : Launch) (dC : Nat → ClassId) (dI : Nat → Nat → Nat) (ka ad : Nat → Nat) (ct : Nat → ClassId) (h0 : Nat) (p0 : Option Nat) (st st' : CS) (r : Int32) (hf : fJ0_equals_9ea2d h0 p0 st = some (r, st')) (sz : Nat) : Met l yJ0_equals_9ea2d wq_J0_equals_9ea2d ({ frames := 1, cells := 0, slots := 0, locals := 26 }) (va_Pc [.ref (ad h0), va_rf (Option.map ad p0)] (PrC (dC, dI) ct ka ad st sz)) (va_Qi (fun r' (_ : Unit) => r' = r) (fun _ => CB (dC, dI) ct ka ad st' (aC ad st sz)) (aC ad st sz)) 0 0 (aC ad st sz) := by
  refine Met.ofW (cc := cJ0_equals_9ea2d) (maxL := 3) (ret := (some .boolean)) (by decide) rfl ?_
  intro p e s m args below meth c s₁ B hml hv
  obtain ⟨rfl, hsz, hw0, hK, hN, hZ, hC, hR, hL, hw1, hw2⟩ := hv
  have hx := B.exec
  have hb := B.bytes
  have hr := B.returns
  have hts := atoms_spec (ws := wq_J0_equals_9ea2d) B.pre
  have hown : s.vm.findClass RJ0 = some m.cls := findClass_of_methodNamed B.named
  have iRJ0 : ∀ w ∈ u_ws RJ0 TJ0 4, w ∈ wq_J0_equals_9ea2d := fun w h => List.mem_cons_of_mem _ (List.mem_append_right _ h)
  subst hsz
  have hp : Cp (dC, dI) ka ad ct (aC ad st s.heap.size) s.heap st s.heap [] := ⟨fun i a b => ⟨hw0 i a b, Or.inl ⟨i, a, b, rfl⟩⟩, va_S.rf, hw1, hw2⟩
  generalize hAe : aC ad st s.heap.size = A at hp hZ hC ⊢
  have hA : ∀ q : Nat, s.heap.size ≤ q → A q := fun q h => by rw [← hAe]; exact Or.inr h
  have hl := lv_entry ([.ref (ad h0), va_rf (Option.map ad p0)]) (n := 3) (by simp [lg_sl, rf_cat, vc_i, vc_l, vc_r, vc_n])
  rw [lg_entry_eq]
  generalize (lg_sl ([.ref (ad h0), va_rf (Option.map ad p0)]) ++ List.replicate (3 - (lg_sl ([.ref (ad h0), va_rf (Option.map ad p0)])).length) Slot.unset).toArray = ls at hl ⊢
  have hl : lv_has ls 3 [(0, .ref (ad h0)), (1, va_rf (Option.map ad p0))] := by simpa [lv_args, rf_cat, vc_i, vc_l, vc_r, vc_n] using hl
  refine W_blk (fun (u : (Option Nat) × CS) H locs ls => match u with | (l2, gs) => fJ0_equals_9ea2d_36 h0 l2 gs = some (r, st') ∧ Cp (dC, dI) ka ad ct A s.heap gs H locs ∧ lv_has ls 3 [(0, .ref (ad h0)), (2, va_rf (Option.map ad l2))]) (fun (u : (Option Nat) × CS) ls => match u with | (l2, gs) => F0 m 36 ls []) ?_ (fun J36 => ?_)
  · intro u H locs ls hu
    obtain ⟨l2, gs⟩ := u
    obtain ⟨hf, hp, hl⟩ := hu
    show W p l e _ s m _ below meth c _ _ _ _ _ (F0 m 36 ls [])
    unfold fJ0_equals_9ea2d_36 at hf
    refine lv_aload_n hx hb dJ0_equals_9ea2d_36 rfl (lv_at hl 0 rfl) ?_
    obtain ⟨hk_1, hf⟩ := gd_some hf
    refine q_gs0 hx hb hts iRJ0 hown hK hp hC hk_1 (hts (.fieldLink RJ0 9 "java/lang/String" "value" "[B") (by decide +kernel)) dJ0_equals_9ea2d_37 ?_
    refine o_aload_n hx hb dJ0_equals_9ea2d_40 rfl (lv_at hl 1 rfl) ?_
    obtain ⟨a_2, ha_3, hf⟩ := ono_some hf
    refine o_at ha_3 ?_
    obtain ⟨hk_4, hf⟩ := gd_some hf
    refine q_gs0 hx hb hts iRJ0 hown hK hp hC hk_4 (hts (.fieldLink RJ0 9 "java/lang/String" "value" "[B") (by decide +kernel)) dJ0_equals_9ea2d_41 ?_
    obtain ⟨r_7, st_5, hc_6, hf⟩ := bnd_some hf
    refine q_ci hp hA (va_runS (As := [va_rf (Option.map ad (qP gs h0 0)), va_rf (Option.map ad (qP gs a_2 0))]) (rest := []) ⟨hx, hb, hml, hown, hts⟩ (c_J1_equals_b5fdf l dC dI ka ad ct (qP gs h0 0) (qP gs a_2 0) _ _ _ hc_6 _) (va_cwS 2 hts gq_J0_equals_9ea2d_J1_equals_b5fdf_541 rfl rfl rfl (by decide +kernel) ⟨Nat.le_of_ble_eq_true rfl, Nat.le_of_ble_eq_true rfl⟩) ⟨PrC.blind _, q_pre hp hK hN hZ hC hR hL hA⟩ rfl rfl hl.1 rfl (lv_room (Nat.le_of_ble_eq_true rfl)) dJ0_equals_9ea2d_44 ⟨Nat.le_of_ble_eq_true rfl, Nat.le_of_ble_eq_true rfl⟩) (fun H locs hp => ?_)
    have hk_1 : qk st_5 h0 = 1 := by rw [(mo_J1_equals_b5fdf (qP gs h0 0) (qP gs a_2 0) _ _ _ hc_6).2.2.1]; exact hk_1
    have hk_4 : qk st_5 a_2 = 1 := by rw [(mo_J1_equals_b5fdf (qP gs h0 0) (qP gs a_2 0) _ _ _ hc_6).2.2.1]; exact hk_4
    refine lv_if_eq (tgt := 54) hx hb dJ0_equals_9ea2d_47 (by decide) (fun c_8 => ?_) (fun c_8 => ?_)
    · have hf := pif_t c_8 hf
      refine lv_iconst (v := 0) hx hb dJ0_equals_9ea2d_54 (by decide) ?_
      obtain ⟨e1, e2⟩ := pr_some hf
      exact W.zret (v := 0) hx hb hr rfl (fun t ht hW => ⟨⟨0, (), rfl, e1, Cp.end e2 hp ht⟩, hp.2.1.F ht⟩) hp.2.1.2.2 dJ0_equals_9ea2d_55
    · have hf := pif_f c_8 hf
      refine lv_iconst (v := 1) hx hb dJ0_equals_9ea2d_50 (by decide) ?_
      refine lv_goto (tgt := 55) hx hb dJ0_equals_9ea2d_51 (by decide) ?_
      obtain ⟨e1, e2⟩ := pr_some hf
      exact W.zret (v := 1) hx hb hr rfl (fun t ht hW => ⟨⟨1, (), rfl, e1, Cp.end e2 hp ht⟩, hp.2.1.F ht⟩) hp.2.1.2.2 dJ0_equals_9ea2d_55
  unfold fJ0_equals_9ea2d at hf
  refine lv_aload_n hx hb dJ0_equals_9ea2d_0 rfl (lv_at hl 0 rfl) ?_
  refine o_aload_n hx hb dJ0_equals_9ea2d_1 rfl (lv_at hl 1 rfl) ?_
  obtain ⟨a_9, ha_10, hf⟩ := ono_some hf
  refine o_at ha_10 ?_
  obtain ⟨hk_11, hf⟩ := gd_some hf
  obtain ⟨hk_12, hf⟩ := gd_some hf
  refine q_acmp_ne (tgt := 7) hx hb hp hC hk_12 hk_11 dJ0_equals_9ea2d_2 (by decide) (fun c_13 => ?_) (fun c_13 => ?_)
  · have hf := pif_f c_13 hf
    refine o_aload_n hx hb dJ0_equals_9ea2d_7 rfl (lv_at hl 1 rfl) ?_
    refine o_at ha_10 ?_
    refine va_instE (nm := "java/lang/String") hx hb hown (hts (.classLink RJ0 10 "java/lang/String") (by decide +kernel)) (q_recv (ci := 0) hK hp hC hk_11 (by decide) rfl (fun _ => rfl)) dJ0_equals_9ea2d_8 ?_
    refine lv_if_eq (tgt := 54) hx hb dJ0_equals_9ea2d_11 (by decide) (fun c_14 => ?_) (fun c_14 => ?_)
    · have hf := pif_t c_14 hf
      refine lv_iconst (v := 0) hx hb dJ0_equals_9ea2d_54 (by decide) ?_
      obtain ⟨e1, e2⟩ := pr_some hf
      exact W.zret (v := 0) hx hb hr rfl (fun t ht hW => ⟨⟨0, (), rfl, e1, Cp.end e2 hp ht⟩, hp.2.1.F ht⟩) hp.2.1.2.2 dJ0_equals_9ea2d_55
    · have hf := pif_f c_14 hf
      refine o_aload_n hx hb dJ0_equals_9ea2d_14 rfl (lv_at hl 1 rfl) ?_
      refine o_at ha_10 ?_
      refine va_castE (nm := "java/lang/String") hx hb hown (hts (.classLink RJ0 10 "java/lang/String") (by decide +kernel)) (q_recv (ci := 0) hK hp hC hk_11 (by decide) rfl (fun _ => rfl)) dJ0_equals_9ea2d_15 ?_
      refine lv_astore_n (i := 2) (lv' := [(2, .ref (ad a_9)), (0, .ref (ad h0)), (1, va_rf (Option.map ad p0))]) hx hb dJ0_equals_9ea2d_18 rfl hl (by decide) (by simp [rf_cat, vc_i, vc_l, vc_r, vc_n]) (fun ls hl => ?_)
      refine va_gets (C := "java/lang/String") (n := "COMPACT_STRINGS") (d := "Z") (v := .int 1) hx hb hZ hp.2.1 hown (hts (.fieldLink RJ0 38 "java/lang/String" "COMPACT_STRINGS" "Z") (by decide +kernel)) (fun _ h9 => h9) dJ0_equals_9ea2d_19 ?_
      refine lv_if_eq (tgt := 36) hx hb dJ0_equals_9ea2d_22 (by decide) (fun c_15 => ?_) (fun c_15 => ?_)
      · have hf := pif_t c_15 hf
        exact J36 ((some a_9), st) _ _ _ ⟨hf, hp, (lv_sub hl [1, 0] rfl)⟩
      · have hf := pif_f c_15 hf
        refine lv_aload_n hx hb dJ0_equals_9ea2d_25 rfl (lv_at hl 1 rfl) ?_
        refine q_gs1 hx hb hts iRJ0 hown hK hp hC hk_12 (hts (.fieldLink RJ0 15 "java/lang/String" "coder" "B") (by decide +kernel)) dJ0_equals_9ea2d_26 ?_
        refine lv_aload_n hx hb dJ0_equals_9ea2d_29 rfl (lv_at hl 0 rfl) ?_
        refine q_gs1 hx hb hts iRJ0 hown hK hp hC hk_11 (hts (.fieldLink RJ0 15 "java/lang/String" "coder" "B") (by decide +kernel)) dJ0_equals_9ea2d_30 ?_
        refine lv_icmp_ne (tgt := 54) hx hb dJ0_equals_9ea2d_33 (by decide) (fun c_16 => ?_) (fun c_16 => ?_)
        · have hf := pif_f c_16 hf
          refine lv_iconst (v := 0) hx hb dJ0_equals_9ea2d_54 (by decide) ?_
          obtain ⟨e1, e2⟩ := pr_some hf
          exact W.zret (v := 0) hx hb hr rfl (fun t ht hW => ⟨⟨0, (), rfl, e1, Cp.end e2 hp ht⟩, hp.2.1.F ht⟩) hp.2.1.2.2 dJ0_equals_9ea2d_55
        · have hf := pif_t c_16 hf
          exact J36 ((some a_9), st) _ _ _ ⟨hf, hp, (lv_sub hl [1, 0] rfl)⟩
  · have hf := pif_t c_13 hf
    refine lv_iconst (v := 1) hx hb dJ0_equals_9ea2d_5 (by decide) ?_
    obtain ⟨e1, e2⟩ := pr_some hf
    exact W.zret (v := 1) hx hb hr rfl (fun t ht hW => ⟨⟨1, (), rfl, e1, Cp.end e2 hp ht⟩, hp.2.1.F ht⟩) hp.2.1.2.2 dJ0_equals_9ea2d_6
