theorem dX0_hasLength_0 : decode cX0_hasLength 0 = .ok (.aload_n 0, 1) := by decide +kernel
theorem dX0_hasLength_1 : decode cX0_hasLength 1 = .ok (.getfield 15, 3) := by decide +kernel
theorem dX0_hasLength_12 : decode cX0_hasLength 12 = .ok (.bipush 6, 2) := by decide +kernel
theorem dX0_hasLength_14 : decode cX0_hasLength 14 = .ok (.if_icmp .ne 7, 3) := by decide +kernel
theorem dX0_hasLength_17 : decode cX0_hasLength 17 = .ok (.iconst 1, 1) := by decide +kernel
theorem dX0_hasLength_18 : decode cX0_hasLength 18 = .ok (.goto 4, 3) := by decide +kernel
theorem dX0_hasLength_21 : decode cX0_hasLength 21 = .ok (.iconst 0, 1) := by decide +kernel
theorem dX0_hasLength_22 : decode cX0_hasLength 22 = .ok (.ireturn, 1) := by decide +kernel
theorem dX0_hasLength_4 : decode cX0_hasLength 4 = .ok (.iconst 5, 1) := by decide +kernel
theorem dX0_hasLength_5 : decode cX0_hasLength 5 = .ok (.if_icmp .eq 12, 3) := by decide +kernel
theorem dX0_hasLength_8 : decode cX0_hasLength 8 = .ok (.aload_n 0, 1) := by decide +kernel
theorem dX0_hasLength_9 : decode cX0_hasLength 9 = .ok (.getfield 15, 3) := by decide +kernel
theorem dX0_hasOtherDefault_0 : decode cX0_hasOtherDefault 0 = .ok (.aload_n 0, 1) := by decide +kernel
theorem dX0_hasOtherDefault_1 : decode cX0_hasOtherDefault 1 = .ok (.getfield 33, 3) := by decide +kernel
theorem dX0_hasOtherDefault_12 : decode cX0_hasOtherDefault 12 = .ok (.aload_n 0, 1) := by decide +kernel
theorem dX0_hasOtherDefault_13 : decode cX0_hasOtherDefault 13 = .ok (.getfield 30, 3) := by decide +kernel
theorem dX0_hasOtherDefault_16 : decode cX0_hasOtherDefault 16 = .ok (.aload_n 1, 1) := by decide +kernel
theorem dX0_hasOtherDefault_17 : decode cX0_hasOtherDefault 17 = .ok (.getfield 30, 3) := by decide +kernel
theorem dX0_hasOtherDefault_20 : decode cX0_hasOtherDefault 20 = .ok (.invokevirtual 55, 3) := by decide +kernel
theorem dX0_hasOtherDefault_23 : decode cX0_hasOtherDefault 23 = .ok (.ifCond .ne 7, 3) := by decide +kernel
theorem dX0_hasOtherDefault_26 : decode cX0_hasOtherDefault 26 = .ok (.iconst 1, 1) := by decide +kernel
theorem dX0_hasOtherDefault_27 : decode cX0_hasOtherDefault 27 = .ok (.goto 4, 3) := by decide +kernel
theorem dX0_hasOtherDefault_30 : decode cX0_hasOtherDefault 30 = .ok (.iconst 0, 1) := by decide +kernel
theorem dX0_hasOtherDefault_31 : decode cX0_hasOtherDefault 31 = .ok (.ireturn, 1) := by decide +kernel
theorem dX0_hasOtherDefault_4 : decode cX0_hasOtherDefault 4 = .ok (.aload_n 1, 1) := by decide +kernel
theorem dX0_hasOtherDefault_5 : decode cX0_hasOtherDefault 5 = .ok (.getfield 33, 3) := by decide +kernel
theorem dX0_hasOtherDefault_8 : decode cX0_hasOtherDefault 8 = .ok (.lcmp, 1) := by decide +kernel
theorem dX0_hasOtherDefault_9 : decode cX0_hasOtherDefault 9 = .ok (.ifCond .ne 17, 3) := by decide +kernel
theorem dX0_holds_0 : decode cX0_holds 0 = .ok (.aload_n 0, 1) := by decide +kernel
theorem dX0_holds_1 : decode cX0_holds 1 = .ok (.getfield 15, 3) := by decide +kernel
theorem dX0_holds_102 : decode cX0_holds 102 = .ok (.iconst 1, 1) := by decide +kernel
theorem dX0_holds_103 : decode cX0_holds 103 = .ok (.goto 4, 3) := by decide +kernel
theorem dX0_holds_106 : decode cX0_holds 106 = .ok (.iconst 0, 1) := by decide +kernel
theorem dX0_holds_107 : decode cX0_holds 107 = .ok (.ireturn, 1) := by decide +kernel
theorem dX0_holds_32 : decode cX0_holds 32 = .ok (.lload_n 1, 1) := by decide +kernel
theorem dX0_holds_33 : decode cX0_holds 33 = .ok (.lconst 0, 1) := by decide +kernel
theorem dX0_holds_34 : decode cX0_holds 34 = .ok (.lcmp, 1) := by decide +kernel
theorem dX0_holds_35 : decode cX0_holds 35 = .ok (.ifCond .lt 13, 3) := by decide +kernel
theorem dX0_holds_38 : decode cX0_holds 38 = .ok (.lload_n 1, 1) := by decide +kernel
theorem dX0_holds_39 : decode cX0_holds 39 = .ok (.lconst 1, 1) := by decide +kernel
theorem dX0_holds_4 : decode cX0_holds 4 = .ok (.tableswitch 90 1 3 #[28, 46, 68], 28) := by decide +kernel
theorem dX0_holds_40 : decode cX0_holds 40 = .ok (.lcmp, 1) := by decide +kernel
theorem dX0_holds_41 : decode cX0_holds 41 = .ok (.ifCond .gt 7, 3) := by decide +kernel
theorem dX0_holds_44 : decode cX0_holds 44 = .ok (.iconst 1, 1) := by decide +kernel
theorem dX0_holds_45 : decode cX0_holds 45 = .ok (.goto 4, 3) := by decide +kernel
theorem dX0_holds_48 : decode cX0_holds 48 = .ok (.iconst 0, 1) := by decide +kernel
theorem dX0_holds_49 : decode cX0_holds 49 = .ok (.ireturn, 1) := by decide +kernel
theorem dX0_holds_50 : decode cX0_holds 50 = .ok (.lload_n 1, 1) := by decide +kernel
theorem dX0_holds_51 : decode cX0_holds 51 = .ok (.ldc2_w 37, 3) := by decide +kernel
theorem dX0_holds_54 : decode cX0_holds 54 = .ok (.lcmp, 1) := by decide +kernel
theorem dX0_holds_55 : decode cX0_holds 55 = .ok (.ifCond .lt 15, 3) := by decide +kernel
theorem dX0_holds_58 : decode cX0_holds 58 = .ok (.lload_n 1, 1) := by decide +kernel
theorem dX0_holds_59 : decode cX0_holds 59 = .ok (.ldc2_w 39, 3) := by decide +kernel
theorem dX0_holds_62 : decode cX0_holds 62 = .ok (.lcmp, 1) := by decide +kernel
theorem dX0_holds_63 : decode cX0_holds 63 = .ok (.ifCond .gt 7, 3) := by decide +kernel
theorem dX0_holds_66 : decode cX0_holds 66 = .ok (.iconst 1, 1) := by decide +kernel
theorem dX0_holds_67 : decode cX0_holds 67 = .ok (.goto 4, 3) := by decide +kernel
theorem dX0_holds_70 : decode cX0_holds 70 = .ok (.iconst 0, 1) := by decide +kernel
theorem dX0_holds_71 : decode cX0_holds 71 = .ok (.ireturn, 1) := by decide +kernel
theorem dX0_holds_72 : decode cX0_holds 72 = .ok (.lload_n 1, 1) := by decide +kernel
theorem dX0_holds_73 : decode cX0_holds 73 = .ok (.ldc2_w 41, 3) := by decide +kernel
theorem dX0_holds_76 : decode cX0_holds 76 = .ok (.lcmp, 1) := by decide +kernel
theorem dX0_holds_77 : decode cX0_holds 77 = .ok (.ifCond .lt 15, 3) := by decide +kernel
theorem dX0_holds_80 : decode cX0_holds 80 = .ok (.lload_n 1, 1) := by decide +kernel
theorem dX0_holds_81 : decode cX0_holds 81 = .ok (.ldc2_w 43, 3) := by decide +kernel
theorem dX0_holds_84 : decode cX0_holds 84 = .ok (.lcmp, 1) := by decide +kernel
theorem dX0_holds_85 : decode cX0_holds 85 = .ok (.ifCond .gt 7, 3) := by decide +kernel
theorem dX0_holds_88 : decode cX0_holds 88 = .ok (.iconst 1, 1) := by decide +kernel
theorem dX0_holds_89 : decode cX0_holds 89 = .ok (.goto 4, 3) := by decide +kernel
theorem dX0_holds_92 : decode cX0_holds 92 = .ok (.iconst 0, 1) := by decide +kernel
theorem dX0_holds_93 : decode cX0_holds 93 = .ok (.ireturn, 1) := by decide +kernel
theorem dX0_holds_94 : decode cX0_holds 94 = .ok (.aload_n 0, 1) := by decide +kernel
theorem dX0_holds_95 : decode cX0_holds 95 = .ok (.getfield 15, 3) := by decide +kernel
theorem dX0_holds_98 : decode cX0_holds 98 = .ok (.iconst 4, 1) := by decide +kernel
theorem dX0_holds_99 : decode cX0_holds 99 = .ok (.if_icmp .ne 7, 3) := by decide +kernel
theorem dX0_isNarrower_0 : decode cX0_isNarrower 0 = .ok (.aload_n 0, 1) := by decide +kernel
theorem dX0_isNarrower_1 : decode cX0_isNarrower 1 = .ok (.invokevirtual 51, 3) := by decide +kernel
theorem dX0_isNarrower_11 : decode cX0_isNarrower 11 = .ok (.ifCond .eq 18, 3) := by decide +kernel
theorem dX0_isNarrower_14 : decode cX0_isNarrower 14 = .ok (.aload_n 0, 1) := by decide +kernel
theorem dX0_isNarrower_15 : decode cX0_isNarrower 15 = .ok (.getfield 15, 3) := by decide +kernel
theorem dX0_isNarrower_18 : decode cX0_isNarrower 18 = .ok (.aload_n 1, 1) := by decide +kernel
theorem dX0_isNarrower_19 : decode cX0_isNarrower 19 = .ok (.getfield 15, 3) := by decide +kernel
theorem dX0_isNarrower_22 : decode cX0_isNarrower 22 = .ok (.if_icmp .ge 7, 3) := by decide +kernel
theorem dX0_isNarrower_25 : decode cX0_isNarrower 25 = .ok (.iconst 1, 1) := by decide +kernel
theorem dX0_isNarrower_26 : decode cX0_isNarrower 26 = .ok (.goto 4, 3) := by decide +kernel
theorem dX0_isNarrower_29 : decode cX0_isNarrower 29 = .ok (.iconst 0, 1) := by decide +kernel
theorem dX0_isNarrower_30 : decode cX0_isNarrower 30 = .ok (.ireturn, 1) := by decide +kernel
theorem dX0_isNarrower_4 : decode cX0_isNarrower 4 = .ok (.ifCond .eq 25, 3) := by decide +kernel
theorem dX0_isNarrower_7 : decode cX0_isNarrower 7 = .ok (.aload_n 1, 1) := by decide +kernel
theorem dX0_isNarrower_8 : decode cX0_isNarrower 8 = .ok (.invokevirtual 51, 3) := by decide +kernel
theorem dX0_isNumber_0 : decode cX0_isNumber 0 = .ok (.aload_n 0, 1) := by decide +kernel
theorem dX0_isNumber_1 : decode cX0_isNumber 1 = .ok (.getfield 15, 3) := by decide +kernel
theorem dX0_isNumber_12 : decode cX0_isNumber 12 = .ok (.iconst 4, 1) := by decide +kernel
theorem dX0_isNumber_13 : decode cX0_isNumber 13 = .ok (.if_icmp .gt 7, 3) := by decide +kernel
theorem dX0_isNumber_16 : decode cX0_isNumber 16 = .ok (.iconst 1, 1) := by decide +kernel
theorem dX0_isNumber_17 : decode cX0_isNumber 17 = .ok (.goto 4, 3) := by decide +kernel
theorem dX0_isNumber_20 : decode cX0_isNumber 20 = .ok (.iconst 0, 1) := by decide +kernel
theorem dX0_isNumber_21 : decode cX0_isNumber 21 = .ok (.ireturn, 1) := by decide +kernel
theorem dX0_isNumber_4 : decode cX0_isNumber 4 = .ok (.iconst 1, 1) := by decide +kernel
theorem dX0_isNumber_5 : decode cX0_isNumber 5 = .ok (.if_icmp .lt 15, 3) := by decide +kernel
theorem dX0_isNumber_8 : decode cX0_isNumber 8 = .ok (.aload_n 0, 1) := by decide +kernel
theorem dX0_isNumber_9 : decode cX0_isNumber 9 = .ok (.getfield 15, 3) := by decide +kernel
theorem dX0_isOtherSort_0 : decode cX0_isOtherSort 0 = .ok (.aload_n 0, 1) := by decide +kernel
theorem dX0_isOtherSort_1 : decode cX0_isOtherSort 1 = .ok (.invokevirtual 51, 3) := by decide +kernel
theorem dX0_isOtherSort_11 : decode cX0_isOtherSort 11 = .ok (.aload_n 0, 1) := by decide +kernel
theorem dX0_isOtherSort_12 : decode cX0_isOtherSort 12 = .ok (.invokevirtual 51, 3) := by decide +kernel
theorem dX0_isOtherSort_15 : decode cX0_isOtherSort 15 = .ok (.ifCond .ne 18, 3) := by decide +kernel
theorem dX0_isOtherSort_18 : decode cX0_isOtherSort 18 = .ok (.aload_n 0, 1) := by decide +kernel
theorem dX0_isOtherSort_19 : decode cX0_isOtherSort 19 = .ok (.getfield 15, 3) := by decide +kernel
theorem dX0_isOtherSort_22 : decode cX0_isOtherSort 22 = .ok (.aload_n 1, 1) := by decide +kernel
theorem dX0_isOtherSort_23 : decode cX0_isOtherSort 23 = .ok (.getfield 15, 3) := by decide +kernel
theorem dX0_isOtherSort_26 : decode cX0_isOtherSort 26 = .ok (.if_icmp .eq 7, 3) := by decide +kernel
theorem dX0_isOtherSort_29 : decode cX0_isOtherSort 29 = .ok (.iconst 1, 1) := by decide +kernel
theorem dX0_isOtherSort_30 : decode cX0_isOtherSort 30 = .ok (.goto 4, 3) := by decide +kernel
theorem dX0_isOtherSort_33 : decode cX0_isOtherSort 33 = .ok (.iconst 0, 1) := by decide +kernel
theorem dX0_isOtherSort_34 : decode cX0_isOtherSort 34 = .ok (.ireturn, 1) := by decide +kernel
theorem dX0_isOtherSort_4 : decode cX0_isOtherSort 4 = .ok (.aload_n 1, 1) := by decide +kernel
theorem dX0_isOtherSort_5 : decode cX0_isOtherSort 5 = .ok (.invokevirtual 51, 3) := by decide +kernel
theorem dX0_isOtherSort_8 : decode cX0_isOtherSort 8 = .ok (.if_icmp .ne 21, 3) := by decide +kernel
theorem dX0_plainNumber_0 : decode cX0_plainNumber 0 = .ok (.aload_n 0, 1) := by decide +kernel
theorem dX0_plainNumber_1 : decode cX0_plainNumber 1 = .ok (.getfield 15, 3) := by decide +kernel
theorem dX0_plainNumber_12 : decode cX0_plainNumber 12 = .ok (.invokevirtual 45, 3) := by decide +kernel
theorem dX0_plainNumber_15 : decode cX0_plainNumber 15 = .ok (.i2l, 1) := by decide +kernel
theorem dX0_plainNumber_16 : decode cX0_plainNumber 16 = .ok (.goto 7, 3) := by decide +kernel
theorem dX0_plainNumber_19 : decode cX0_plainNumber 19 = .ok (.aload_n 0, 1) := by decide +kernel
theorem dX0_plainNumber_20 : decode cX0_plainNumber 20 = .ok (.getfield 33, 3) := by decide +kernel
theorem dX0_plainNumber_23 : decode cX0_plainNumber 23 = .ok (.lreturn, 1) := by decide +kernel
theorem dX0_plainNumber_4 : decode cX0_plainNumber 4 = .ok (.iconst 5, 1) := by decide +kernel
theorem dX0_plainNumber_5 : decode cX0_plainNumber 5 = .ok (.if_icmp .ne 14, 3) := by decide +kernel
theorem dX0_plainNumber_8 : decode cX0_plainNumber 8 = .ok (.aload_n 0, 1) := by decide +kernel
theorem dX0_plainNumber_9 : decode cX0_plainNumber 9 = .ok (.getfield 30, 3) := by decide +kernel
theorem dX0_sharesGroup_0 : decode cX0_sharesGroup 0 = .ok (.aload_n 0, 1) := by decide +kernel
theorem dX0_sharesGroup_1 : decode cX0_sharesGroup 1 = .ok (.getfield 18, 3) := by decide +kernel
theorem dX0_sharesGroup_11 : decode cX0_sharesGroup 11 = .ok (.aload_n 1, 1) := by decide +kernel
theorem dX0_sharesGroup_12 : decode cX0_sharesGroup 12 = .ok (.getfield 18, 3) := by decide +kernel
theorem dX0_sharesGroup_15 : decode cX0_sharesGroup 15 = .ok (.if_icmp .ne 7, 3) := by decide +kernel
theorem dX0_sharesGroup_18 : decode cX0_sharesGroup 18 = .ok (.iconst 1, 1) := by decide +kernel
theorem dX0_sharesGroup_19 : decode cX0_sharesGroup 19 = .ok (.goto 4, 3) := by decide +kernel
theorem dX0_sharesGroup_22 : decode cX0_sharesGroup 22 = .ok (.iconst 0, 1) := by decide +kernel
theorem dX0_sharesGroup_23 : decode cX0_sharesGroup 23 = .ok (.ireturn, 1) := by decide +kernel
theorem dX0_sharesGroup_4 : decode cX0_sharesGroup 4 = .ok (.ifCond .eq 18, 3) := by decide +kernel
theorem dX0_sharesGroup_7 : decode cX0_sharesGroup 7 = .ok (.aload_n 0, 1) := by decide +kernel
theorem dX0_sharesGroup_8 : decode cX0_sharesGroup 8 = .ok (.getfield 18, 3) := by decide +kernel
theorem dX1_count_0 : decode cX1_count 0 = .ok (.aload_n 0, 1) := by decide +kernel
theorem dX1_count_1 : decode cX1_count 1 = .ok (.getfield 17, 3) := by decide +kernel
theorem dX1_count_4 : decode cX1_count 4 = .ok (.ireturn, 1) := by decide +kernel
theorem dX1_fieldAt_0 : decode cX1_fieldAt 0 = .ok (.iload_n 1, 1) := by decide +kernel
theorem dX1_fieldAt_1 : decode cX1_fieldAt 1 = .ok (.ifCond .lt 21, 3) := by decide +kernel
theorem dX1_fieldAt_10 : decode cX1_fieldAt 10 = .ok (.if_icmp .ge 12, 3) := by decide +kernel
theorem dX1_fieldAt_13 : decode cX1_fieldAt 13 = .ok (.aload_n 0, 1) := by decide +kernel
theorem dX1_fieldAt_14 : decode cX1_fieldAt 14 = .ok (.getfield 11, 3) := by decide +kernel
theorem dX1_fieldAt_17 : decode cX1_fieldAt 17 = .ok (.iload_n 1, 1) := by decide +kernel
theorem dX1_fieldAt_18 : decode cX1_fieldAt 18 = .ok (.aaload, 1) := by decide +kernel
theorem dX1_fieldAt_19 : decode cX1_fieldAt 19 = .ok (.goto 4, 3) := by decide +kernel
theorem dX1_fieldAt_22 : decode cX1_fieldAt 22 = .ok (.aconst_null, 1) := by decide +kernel
theorem dX1_fieldAt_23 : decode cX1_fieldAt 23 = .ok (.areturn, 1) := by decide +kernel
theorem dX1_fieldAt_4 : decode cX1_fieldAt 4 = .ok (.iload_n 1, 1) := by decide +kernel
theorem dX1_fieldAt_5 : decode cX1_fieldAt 5 = .ok (.aload_n 0, 1) := by decide +kernel
theorem dX1_fieldAt_6 : decode cX1_fieldAt 6 = .ok (.getfield 11, 3) := by decide +kernel
theorem dX1_fieldAt_9 : decode cX1_fieldAt 9 = .ok (.arraylength, 1) := by decide +kernel
theorem dX1_knownAt_0 : decode cX1_knownAt 0 = .ok (.aload_n 0, 1) := by decide +kernel
theorem dX1_knownAt_1 : decode cX1_knownAt 1 = .ok (.iload_n 1, 1) := by decide +kernel
theorem dX1_knownAt_10 : decode cX1_knownAt 10 = .ok (.aload_n 2, 1) := by decide +kernel
theorem dX1_knownAt_11 : decode cX1_knownAt 11 = .ok (.getfield 25, 3) := by decide +kernel
theorem dX1_knownAt_14 : decode cX1_knownAt 14 = .ok (.ifCond .eq 7, 3) := by decide +kernel
theorem dX1_knownAt_17 : decode cX1_knownAt 17 = .ok (.aload_n 2, 1) := by decide +kernel
theorem dX1_knownAt_18 : decode cX1_knownAt 18 = .ok (.goto 4, 3) := by decide +kernel
theorem dX1_knownAt_2 : decode cX1_knownAt 2 = .ok (.invokevirtual 21, 3) := by decide +kernel
theorem dX1_knownAt_21 : decode cX1_knownAt 21 = .ok (.aconst_null, 1) := by decide +kernel
theorem dX1_knownAt_22 : decode cX1_knownAt 22 = .ok (.areturn, 1) := by decide +kernel
theorem dX1_knownAt_5 : decode cX1_knownAt 5 = .ok (.astore_n 2, 1) := by decide +kernel
theorem dX1_knownAt_6 : decode cX1_knownAt 6 = .ok (.aload_n 2, 1) := by decide +kernel
theorem dX1_knownAt_7 : decode cX1_knownAt 7 = .ok (.ifnull 14, 3) := by decide +kernel
theorem dX5_pushKey_0 : decode cX5_pushKey 0 = .ok (.aload_n 0, 1) := by decide +kernel
theorem dX5_pushKey_1 : decode cX5_pushKey 1 = .ok (.ldc2_w 37, 3) := by decide +kernel
theorem dX5_pushKey_10 : decode cX5_pushKey 10 = .ok (.aload_n 1, 1) := by decide +kernel
theorem dX5_pushKey_11 : decode cX5_pushKey 11 = .ok (.invokevirtual 44, 3) := by decide +kernel
theorem dX5_pushKey_14 : decode cX5_pushKey 14 = .ok (.ifCond .eq 7, 3) := by decide +kernel
theorem dX5_pushKey_17 : decode cX5_pushKey 17 = .ok (.iconst 1, 1) := by decide +kernel
theorem dX5_pushKey_18 : decode cX5_pushKey 18 = .ok (.goto 4, 3) := by decide +kernel
theorem dX5_pushKey_21 : decode cX5_pushKey 21 = .ok (.iconst 0, 1) := by decide +kernel
theorem dX5_pushKey_22 : decode cX5_pushKey 22 = .ok (.i2l, 1) := by decide +kernel
theorem dX5_pushKey_23 : decode cX5_pushKey 23 = .ok (.ladd, 1) := by decide +kernel
theorem dX5_pushKey_24 : decode cX5_pushKey 24 = .ok (.invokevirtual 33, 3) := by decide +kernel
theorem dX5_pushKey_27 : decode cX5_pushKey 27 = .ok (.return_, 1) := by decide +kernel
theorem dX5_pushKey_4 : decode cX5_pushKey 4 = .ok (.aload_n 1, 1) := by decide +kernel
theorem dX5_pushKey_5 : decode cX5_pushKey 5 = .ok (.getfield 39, 3) := by decide +kernel
theorem dX5_pushKey_8 : decode cX5_pushKey 8 = .ok (.i2l, 1) := by decide +kernel
theorem dX5_pushKey_9 : decode cX5_pushKey 9 = .ok (.lmul, 1) := by decide +kernel
noncomputable def fX0_isNumber (h0 : Nat) (st : CS) : Option (Int32 × CS) := gd (qk st h0 = 3) (pif ((qI st h0 1) < 1) (some ((0 : Int32), st)) (pif (4 < (qI st h0 1)) (some ((0 : Int32), st)) (some ((1 : Int32), st))))
set_option maxHeartbeats 1000000 in
theorem mo_X0_isNumber (h0 : Nat) (st : CS) (r : Int32) (st' : CS) (hf : fX0_isNumber h0 st = some (r, st')) : Ke st st' := by
  unfold fX0_isNumber at hf
  have hm : Ke st st := Ke.rf
  obtain ⟨hk_1, hf⟩ := gd_some hf
  rcases pif_or hf with ⟨c_2, hf⟩ | ⟨c_2, hf⟩
  · obtain ⟨e1, e2⟩ := pr_some hf
    exact e2 ▸ hm
  · rcases pif_or hf with ⟨c_3, hf⟩ | ⟨c_3, hf⟩
    · obtain ⟨e1, e2⟩ := pr_some hf
      exact e2 ▸ hm
    · obtain ⟨e1, e2⟩ := pr_some hf
      exact e2 ▸ hm
def wq_X0_isNumber : List Cond := .code yX0_isNumber cX0_isNumber 1 (some .boolean) :: (([.fieldLink RX0 15 "RecordBench$Field" "kind" "I"] : List Cond) ++ wsX00)
set_option maxHeartbeats 4000000 in
set_option maxRecDepth 100000 in
theorem c_X0_isNumber (l : Launch) (dC : Nat → ClassId) (dI : Nat → Nat → Nat) (ka ad : Nat → Nat) (ct : Nat → ClassId) (h0 : Nat) (st st' : CS) (r : Int32) (hf : fX0_isNumber h0 st = some (r, st')) (sz : Nat) : Met l yX0_isNumber wq_X0_isNumber ({ frames := 0, cells := 0, slots := 0, locals := 0 }) (va_Pc [.ref (ad h0)] (PrC (dC, dI) ct ka ad st sz)) (va_Qi (fun r' (_ : Unit) => r' = r) (fun _ => CB (dC, dI) ct ka ad st' (aC ad st sz)) (aC ad st sz)) 0 0 (aC ad st sz) := by
  refine Met.ofW (cc := cX0_isNumber) (maxL := 1) (ret := (some .boolean)) (by decide) rfl ?_
  intro p e s m args below meth c s₁ B hml hv
  obtain ⟨rfl, hsz, hw0, hK, hN, hZ, hC, hR, hL, hw1, hw2⟩ := hv
  have hx := B.exec
  have hb := B.bytes
  have hr := B.returns
  have hts := atoms_spec (ws := wq_X0_isNumber) B.pre
  have hown : s.vm.findClass RX0 = some m.cls := findClass_of_methodNamed B.named
  have iRX0 : ∀ w ∈ u_ws RX0 TX0 7, w ∈ wq_X0_isNumber := fun w h => List.mem_cons_of_mem _ (List.mem_append_right _ h)
  subst hsz
  have hp : Cp (dC, dI) ka ad ct (aC ad st s.heap.size) s.heap st s.heap [] := ⟨fun i a b => ⟨hw0 i a b, Or.inl ⟨i, a, b, rfl⟩⟩, va_S.rf, hw1, hw2⟩
  generalize hAe : aC ad st s.heap.size = A at hp hZ hC ⊢
  have hA : ∀ q : Nat, s.heap.size ≤ q → A q := fun q h => by rw [← hAe]; exact Or.inr h
  have hl := lv_entry ([.ref (ad h0)]) (n := 1) (Nat.le_of_ble_eq_true rfl)
  rw [lg_entry_eq]
  generalize (lg_sl ([.ref (ad h0)]) ++ List.replicate (1 - (lg_sl ([.ref (ad h0)])).length) Slot.unset).toArray = ls at hl ⊢
  have hl : lv_has ls 1 [(0, .ref (ad h0))] := hl
  unfold fX0_isNumber at hf
  refine lv_aload_n hx hb dX0_isNumber_0 rfl (lv_at hl 0 rfl) ?_
  obtain ⟨hk_1, hf⟩ := gd_some hf
  refine q_gi (ci := 2) (C := RX0) (T := TX0) (N := 7) (k := 1) hx hb hts iRX0 hown hK hp hk_1 (by decide) rfl rfl (by decide) rfl (Or.inl (hts (.fieldLink RX0 15 "RecordBench$Field" "kind" "I") (by decide +kernel))) (fun _ h9 => h9) dX0_isNumber_1 ?_
  refine lv_iconst (v := 1) hx hb dX0_isNumber_4 (by decide) ?_
  refine lv_icmp_lt (tgt := 20) hx hb dX0_isNumber_5 (by decide) (fun c_2 => ?_) (fun c_2 => ?_)
  · have hf := pif_t c_2 hf
    refine lv_iconst (v := 0) hx hb dX0_isNumber_20 (by decide) ?_
    obtain ⟨e1, e2⟩ := pr_some hf
    exact W.zret (v := 0) hx hb hr rfl (fun t ht hW => ⟨⟨0, (), rfl, e1, Cp.end e2 hp ht⟩, hp.2.1.F ht⟩) hp.2.1.2.2 dX0_isNumber_21
  · have hf := pif_f c_2 hf
    refine lv_aload_n hx hb dX0_isNumber_8 rfl (lv_at hl 0 rfl) ?_
    refine q_gi (ci := 2) (C := RX0) (T := TX0) (N := 7) (k := 1) hx hb hts iRX0 hown hK hp hk_1 (by decide) rfl rfl (by decide) rfl (Or.inl (hts (.fieldLink RX0 15 "RecordBench$Field" "kind" "I") (by decide +kernel))) (fun _ h9 => h9) dX0_isNumber_9 ?_
    refine lv_iconst (v := 4) hx hb dX0_isNumber_12 (by decide) ?_
    refine lv_icmp_gt (tgt := 20) hx hb dX0_isNumber_13 (by decide) (fun c_3 => ?_) (fun c_3 => ?_)
    · have hf := pif_t c_3 hf
      refine lv_iconst (v := 0) hx hb dX0_isNumber_20 (by decide) ?_
      obtain ⟨e1, e2⟩ := pr_some hf
      exact W.zret (v := 0) hx hb hr rfl (fun t ht hW => ⟨⟨0, (), rfl, e1, Cp.end e2 hp ht⟩, hp.2.1.F ht⟩) hp.2.1.2.2 dX0_isNumber_21
    · have hf := pif_f c_3 hf
      refine lv_iconst (v := 1) hx hb dX0_isNumber_16 (by decide) ?_
      refine lv_goto (tgt := 21) hx hb dX0_isNumber_17 (by decide) ?_
      obtain ⟨e1, e2⟩ := pr_some hf
      exact W.zret (v := 1) hx hb hr rfl (fun t ht hW => ⟨⟨1, (), rfl, e1, Cp.end e2 hp ht⟩, hp.2.1.F ht⟩) hp.2.1.2.2 dX0_isNumber_21
noncomputable def fX0_hasLength (h0 : Nat) (st : CS) : Option (Int32 × CS) := gd (qk st h0 = 3) (pif ((qI st h0 1) = 5) (some ((1 : Int32), st)) (pif ((qI st h0 1) = 6) (some ((1 : Int32), st)) (some ((0 : Int32), st))))
set_option maxHeartbeats 1000000 in
theorem mo_X0_hasLength (h0 : Nat) (st : CS) (r : Int32) (st' : CS) (hf : fX0_hasLength h0 st = some (r, st')) : Ke st st' := by
  unfold fX0_hasLength at hf
  have hm : Ke st st := Ke.rf
  obtain ⟨hk_1, hf⟩ := gd_some hf
  rcases pif_or hf with ⟨c_2, hf⟩ | ⟨c_2, hf⟩
  · obtain ⟨e1, e2⟩ := pr_some hf
    exact e2 ▸ hm
  · rcases pif_or hf with ⟨c_3, hf⟩ | ⟨c_3, hf⟩
    · obtain ⟨e1, e2⟩ := pr_some hf
      exact e2 ▸ hm
    · obtain ⟨e1, e2⟩ := pr_some hf
      exact e2 ▸ hm
def wq_X0_hasLength : List Cond := .code yX0_hasLength cX0_hasLength 1 (some .boolean) :: (([.fieldLink RX0 15 "RecordBench$Field" "kind" "I"] : List Cond) ++ wsX00)
set_option maxHeartbeats 4000000 in
set_option maxRecDepth 100000 in
theorem c_X0_hasLength (l : Launch) (dC : Nat → ClassId) (dI : Nat → Nat → Nat) (ka ad : Nat → Nat) (ct : Nat → ClassId) (h0 : Nat) (st st' : CS) (r : Int32) (hf : fX0_hasLength h0 st = some (r, st')) (sz : Nat) : Met l yX0_hasLength wq_X0_hasLength ({ frames := 0, cells := 0, slots := 0, locals := 0 }) (va_Pc [.ref (ad h0)] (PrC (dC, dI) ct ka ad st sz)) (va_Qi (fun r' (_ : Unit) => r' = r) (fun _ => CB (dC, dI) ct ka ad st' (aC ad st sz)) (aC ad st sz)) 0 0 (aC ad st sz) := by
  refine Met.ofW (cc := cX0_hasLength) (maxL := 1) (ret := (some .boolean)) (by decide) rfl ?_
  intro p e s m args below meth c s₁ B hml hv
  obtain ⟨rfl, hsz, hw0, hK, hN, hZ, hC, hR, hL, hw1, hw2⟩ := hv
  have hx := B.exec
  have hb := B.bytes
  have hr := B.returns
  have hts := atoms_spec (ws := wq_X0_hasLength) B.pre
  have hown : s.vm.findClass RX0 = some m.cls := findClass_of_methodNamed B.named
  have iRX0 : ∀ w ∈ u_ws RX0 TX0 7, w ∈ wq_X0_hasLength := fun w h => List.mem_cons_of_mem _ (List.mem_append_right _ h)
  subst hsz
  have hp : Cp (dC, dI) ka ad ct (aC ad st s.heap.size) s.heap st s.heap [] := ⟨fun i a b => ⟨hw0 i a b, Or.inl ⟨i, a, b, rfl⟩⟩, va_S.rf, hw1, hw2⟩
  generalize hAe : aC ad st s.heap.size = A at hp hZ hC ⊢
  have hA : ∀ q : Nat, s.heap.size ≤ q → A q := fun q h => by rw [← hAe]; exact Or.inr h
  have hl := lv_entry ([.ref (ad h0)]) (n := 1) (Nat.le_of_ble_eq_true rfl)
  rw [lg_entry_eq]
  generalize (lg_sl ([.ref (ad h0)]) ++ List.replicate (1 - (lg_sl ([.ref (ad h0)])).length) Slot.unset).toArray = ls at hl ⊢
  have hl : lv_has ls 1 [(0, .ref (ad h0))] := hl
  unfold fX0_hasLength at hf
  refine lv_aload_n hx hb dX0_hasLength_0 rfl (lv_at hl 0 rfl) ?_
  obtain ⟨hk_1, hf⟩ := gd_some hf
  refine q_gi (ci := 2) (C := RX0) (T := TX0) (N := 7) (k := 1) hx hb hts iRX0 hown hK hp hk_1 (by decide) rfl rfl (by decide) rfl (Or.inl (hts (.fieldLink RX0 15 "RecordBench$Field" "kind" "I") (by decide +kernel))) (fun _ h9 => h9) dX0_hasLength_1 ?_
  refine lv_iconst (v := 5) hx hb dX0_hasLength_4 (by decide) ?_
  refine lv_icmp_eq (tgt := 17) hx hb dX0_hasLength_5 (by decide) (fun c_2 => ?_) (fun c_2 => ?_)
  · have hf := pif_t c_2 hf
    refine lv_iconst (v := 1) hx hb dX0_hasLength_17 (by decide) ?_
    refine lv_goto (tgt := 22) hx hb dX0_hasLength_18 (by decide) ?_
    obtain ⟨e1, e2⟩ := pr_some hf
    exact W.zret (v := 1) hx hb hr rfl (fun t ht hW => ⟨⟨1, (), rfl, e1, Cp.end e2 hp ht⟩, hp.2.1.F ht⟩) hp.2.1.2.2 dX0_hasLength_22
  · have hf := pif_f c_2 hf
    refine lv_aload_n hx hb dX0_hasLength_8 rfl (lv_at hl 0 rfl) ?_
    refine q_gi (ci := 2) (C := RX0) (T := TX0) (N := 7) (k := 1) hx hb hts iRX0 hown hK hp hk_1 (by decide) rfl rfl (by decide) rfl (Or.inl (hts (.fieldLink RX0 15 "RecordBench$Field" "kind" "I") (by decide +kernel))) (fun _ h9 => h9) dX0_hasLength_9 ?_
    refine lv_bipush (v := 6) hx hb dX0_hasLength_12 (by decide) ?_
    refine lv_icmp_ne (tgt := 21) hx hb dX0_hasLength_14 (by decide) (fun c_3 => ?_) (fun c_3 => ?_)
    · have hf := pif_f c_3 hf
      refine lv_iconst (v := 0) hx hb dX0_hasLength_21 (by decide) ?_
      obtain ⟨e1, e2⟩ := pr_some hf
      exact W.zret (v := 0) hx hb hr rfl (fun t ht hW => ⟨⟨0, (), rfl, e1, Cp.end e2 hp ht⟩, hp.2.1.F ht⟩) hp.2.1.2.2 dX0_hasLength_22
    · have hf := pif_t c_3 hf
      refine lv_iconst (v := 1) hx hb dX0_hasLength_17 (by decide) ?_
      refine lv_goto (tgt := 22) hx hb dX0_hasLength_18 (by decide) ?_
      obtain ⟨e1, e2⟩ := pr_some hf
      exact W.zret (v := 1) hx hb hr rfl (fun t ht hW => ⟨⟨1, (), rfl, e1, Cp.end e2 hp ht⟩, hp.2.1.F ht⟩) hp.2.1.2.2 dX0_hasLength_22
noncomputable def fX0_holds (h0 : Nat) (p0 : Int64) (st : CS) : Option (Int32 × CS) := gd (qk st h0 = 3) (pif ((qI st h0 1) = 1) (pif ((lg_cmp p0 (0 : Int64)) < 0) (some ((0 : Int32), st)) (pif (0 < (lg_cmp p0 (1 : Int64))) (some ((0 : Int32), st)) (some ((1 : Int32), st)))) (pif ((qI st h0 1) = 2) (pif ((lg_cmp p0 ((-128) : Int64)) < 0) (some ((0 : Int32), st)) (pif (0 < (lg_cmp p0 (127 : Int64))) (some ((0 : Int32), st)) (some ((1 : Int32), st)))) (pif ((qI st h0 1) = 3) (pif ((lg_cmp p0 ((-2147483648) : Int64)) < 0) (some ((0 : Int32), st)) (pif (0 < (lg_cmp p0 (2147483647 : Int64))) (some ((0 : Int32), st)) (some ((1 : Int32), st)))) (pif ((qI st h0 1) = 4) (some ((1 : Int32), st)) (some ((0 : Int32), st))))))
set_option maxHeartbeats 1000000 in
theorem mo_X0_holds (h0 : Nat) (p0 : Int64) (st : CS) (r : Int32) (st' : CS) (hf : fX0_holds h0 p0 st = some (r, st')) : Ke st st' := by
  unfold fX0_holds at hf
  have hm : Ke st st := Ke.rf
  obtain ⟨hk_1, hf⟩ := gd_some hf
  rcases pif_or hf with ⟨c_20, hf⟩ | ⟨c_20, hf⟩
  · rcases pif_or hf with ⟨c_3, hf⟩ | ⟨c_3, hf⟩
    · obtain ⟨e1, e2⟩ := pr_some hf
      exact e2 ▸ hm
    · rcases pif_or hf with ⟨c_4, hf⟩ | ⟨c_4, hf⟩
      · obtain ⟨e1, e2⟩ := pr_some hf
        exact e2 ▸ hm
      · obtain ⟨e1, e2⟩ := pr_some hf
        exact e2 ▸ hm
  · skip
    rcases pif_or hf with ⟨c_21, hf⟩ | ⟨c_21, hf⟩
    · rcases pif_or hf with ⟨c_5, hf⟩ | ⟨c_5, hf⟩
      · obtain ⟨e1, e2⟩ := pr_some hf
        exact e2 ▸ hm
      · rcases pif_or hf with ⟨c_6, hf⟩ | ⟨c_6, hf⟩
        · obtain ⟨e1, e2⟩ := pr_some hf
          exact e2 ▸ hm
        · obtain ⟨e1, e2⟩ := pr_some hf
          exact e2 ▸ hm
    · skip
      rcases pif_or hf with ⟨c_22, hf⟩ | ⟨c_22, hf⟩
      · rcases pif_or hf with ⟨c_7, hf⟩ | ⟨c_7, hf⟩
        · obtain ⟨e1, e2⟩ := pr_some hf
          exact e2 ▸ hm
        · rcases pif_or hf with ⟨c_8, hf⟩ | ⟨c_8, hf⟩
          · obtain ⟨e1, e2⟩ := pr_some hf
            exact e2 ▸ hm
          · obtain ⟨e1, e2⟩ := pr_some hf
            exact e2 ▸ hm
      · skip
        rcases pif_or hf with ⟨c_9, hf⟩ | ⟨c_9, hf⟩
        · obtain ⟨e1, e2⟩ := pr_some hf
          exact e2 ▸ hm
        · obtain ⟨e1, e2⟩ := pr_some hf
          exact e2 ▸ hm
def wq_X0_holds : List Cond := .code yX0_holds cX0_holds 3 (some .boolean) :: (([.fieldLink RX0 15 "RecordBench$Field" "kind" "I", .constantLong RX0 37 (-128), .constantLong RX0 39 (127), .constantLong RX0 41 (-2147483648), .constantLong RX0 43 (2147483647)] : List Cond) ++ wsX00)
set_option maxHeartbeats 4000000 in
set_option maxRecDepth 100000 in
theorem c_X0_holds (l : Launch) (dC : Nat → ClassId) (dI : Nat → Nat → Nat) (ka ad : Nat → Nat) (ct : Nat → ClassId) (h0 : Nat) (p0 : Int64) (st st' : CS) (r : Int32) (hf : fX0_holds h0 p0 st = some (r, st')) (sz : Nat) : Met l yX0_holds wq_X0_holds ({ frames := 0, cells := 0, slots := 0, locals := 0 }) (va_Pc [.ref (ad h0), .long p0] (PrC (dC, dI) ct ka ad st sz)) (va_Qi (fun r' (_ : Unit) => r' = r) (fun _ => CB (dC, dI) ct ka ad st' (aC ad st sz)) (aC ad st sz)) 0 0 (aC ad st sz) := by
  refine Met.ofW (cc := cX0_holds) (maxL := 3) (ret := (some .boolean)) (by decide) rfl ?_
  intro p e s m args below meth c s₁ B hml hv
  obtain ⟨rfl, hsz, hw0, hK, hN, hZ, hC, hR, hL, hw1, hw2⟩ := hv
  have hx := B.exec
  have hb := B.bytes
  have hr := B.returns
  have hts := atoms_spec (ws := wq_X0_holds) B.pre
  have hown : s.vm.findClass RX0 = some m.cls := findClass_of_methodNamed B.named
  have iRX0 : ∀ w ∈ u_ws RX0 TX0 7, w ∈ wq_X0_holds := fun w h => List.mem_cons_of_mem _ (List.mem_append_right _ h)
  subst hsz
  have hp : Cp (dC, dI) ka ad ct (aC ad st s.heap.size) s.heap st s.heap [] := ⟨fun i a b => ⟨hw0 i a b, Or.inl ⟨i, a, b, rfl⟩⟩, va_S.rf, hw1, hw2⟩
  generalize hAe : aC ad st s.heap.size = A at hp hZ hC ⊢
  have hA : ∀ q : Nat, s.heap.size ≤ q → A q := fun q h => by rw [← hAe]; exact Or.inr h
  have hl := lv_entry ([.ref (ad h0), .long p0]) (n := 3) (Nat.le_of_ble_eq_true rfl)
  rw [lg_entry_eq]
  generalize (lg_sl ([.ref (ad h0), .long p0]) ++ List.replicate (3 - (lg_sl ([.ref (ad h0), .long p0])).length) Slot.unset).toArray = ls at hl ⊢
  have hl : lv_has ls 3 [(0, .ref (ad h0)), (1, .long p0)] := hl
  unfold fX0_holds at hf
  refine lv_aload_n hx hb dX0_holds_0 rfl (lv_at hl 0 rfl) ?_
  obtain ⟨hk_1, hf⟩ := gd_some hf
  refine q_gi (ci := 2) (C := RX0) (T := TX0) (N := 7) (k := 1) hx hb hts iRX0 hown hK hp hk_1 (by decide) rfl rfl (by decide) rfl (Or.inl (hts (.fieldLink RX0 15 "RecordBench$Field" "kind" "I") (by decide +kernel))) (fun _ h9 => h9) dX0_holds_1 ?_
  by_cases c_20 : (qI st h0 1) = 1
  · have hf := pif_t c_20 hf
    refine lv_tableIn (tgt := 32) hx hb dX0_holds_4 (by rw [c_20]; decide) (by rw [c_20]; decide) (off := 28) (by rw [c_20]; rfl) (by decide) ?_
    refine lv_lload_n hx hb dX0_holds_32 rfl (lv_at hl 1 rfl) ?_
    refine lv_lconst (v := 0) hx hb dX0_holds_33 (by decide) ?_
    refine W.lcmp hx hb dX0_holds_34 ?_
    refine lv_if_lt (tgt := 48) hx hb dX0_holds_35 (by decide) (fun c_3 => ?_) (fun c_3 => ?_)
    · have hf := pif_t c_3 hf
      refine lv_iconst (v := 0) hx hb dX0_holds_48 (by decide) ?_
      obtain ⟨e1, e2⟩ := pr_some hf
      exact W.zret (v := 0) hx hb hr rfl (fun t ht hW => ⟨⟨0, (), rfl, e1, Cp.end e2 hp ht⟩, hp.2.1.F ht⟩) hp.2.1.2.2 dX0_holds_49
    · have hf := pif_f c_3 hf
      refine lv_lload_n hx hb dX0_holds_38 rfl (lv_at hl 1 rfl) ?_
      refine lv_lconst (v := 1) hx hb dX0_holds_39 (by decide) ?_
      refine W.lcmp hx hb dX0_holds_40 ?_
      refine lv_if_gt (tgt := 48) hx hb dX0_holds_41 (by decide) (fun c_4 => ?_) (fun c_4 => ?_)
      · have hf := pif_t c_4 hf
        refine lv_iconst (v := 0) hx hb dX0_holds_48 (by decide) ?_
        obtain ⟨e1, e2⟩ := pr_some hf
        exact W.zret (v := 0) hx hb hr rfl (fun t ht hW => ⟨⟨0, (), rfl, e1, Cp.end e2 hp ht⟩, hp.2.1.F ht⟩) hp.2.1.2.2 dX0_holds_49
      · have hf := pif_f c_4 hf
        refine lv_iconst (v := 1) hx hb dX0_holds_44 (by decide) ?_
        refine lv_goto (tgt := 49) hx hb dX0_holds_45 (by decide) ?_
        obtain ⟨e1, e2⟩ := pr_some hf
        exact W.zret (v := 1) hx hb hr rfl (fun t ht hW => ⟨⟨1, (), rfl, e1, Cp.end e2 hp ht⟩, hp.2.1.F ht⟩) hp.2.1.2.2 dX0_holds_49
  · have hf := pif_f c_20 hf
    by_cases c_21 : (qI st h0 1) = 2
    · have hf := pif_t c_21 hf
      refine lv_tableIn (tgt := 50) hx hb dX0_holds_4 (by rw [c_21]; decide) (by rw [c_21]; decide) (off := 46) (by rw [c_21]; rfl) (by decide) ?_
      refine lv_lload_n hx hb dX0_holds_50 rfl (lv_at hl 1 rfl) ?_
      refine lv_ldc2 hx hb hown (hts (.constantLong RX0 37 (-128)) (by decide +kernel)) dX0_holds_51 ?_
      refine W.lcmp hx hb dX0_holds_54 ?_
      refine lv_if_lt (tgt := 70) hx hb dX0_holds_55 (by decide) (fun c_5 => ?_) (fun c_5 => ?_)
      · have hf := pif_t c_5 hf
        refine lv_iconst (v := 0) hx hb dX0_holds_70 (by decide) ?_
        obtain ⟨e1, e2⟩ := pr_some hf
        exact W.zret (v := 0) hx hb hr rfl (fun t ht hW => ⟨⟨0, (), rfl, e1, Cp.end e2 hp ht⟩, hp.2.1.F ht⟩) hp.2.1.2.2 dX0_holds_71
      · have hf := pif_f c_5 hf
        refine lv_lload_n hx hb dX0_holds_58 rfl (lv_at hl 1 rfl) ?_
        refine lv_ldc2 hx hb hown (hts (.constantLong RX0 39 (127)) (by decide +kernel)) dX0_holds_59 ?_
        refine W.lcmp hx hb dX0_holds_62 ?_
        refine lv_if_gt (tgt := 70) hx hb dX0_holds_63 (by decide) (fun c_6 => ?_) (fun c_6 => ?_)
        · have hf := pif_t c_6 hf
          refine lv_iconst (v := 0) hx hb dX0_holds_70 (by decide) ?_
          obtain ⟨e1, e2⟩ := pr_some hf
          exact W.zret (v := 0) hx hb hr rfl (fun t ht hW => ⟨⟨0, (), rfl, e1, Cp.end e2 hp ht⟩, hp.2.1.F ht⟩) hp.2.1.2.2 dX0_holds_71
        · have hf := pif_f c_6 hf
          refine lv_iconst (v := 1) hx hb dX0_holds_66 (by decide) ?_
          refine lv_goto (tgt := 71) hx hb dX0_holds_67 (by decide) ?_
          obtain ⟨e1, e2⟩ := pr_some hf
          exact W.zret (v := 1) hx hb hr rfl (fun t ht hW => ⟨⟨1, (), rfl, e1, Cp.end e2 hp ht⟩, hp.2.1.F ht⟩) hp.2.1.2.2 dX0_holds_71
    · have hf := pif_f c_21 hf
      by_cases c_22 : (qI st h0 1) = 3
      · have hf := pif_t c_22 hf
        refine lv_tableIn (tgt := 72) hx hb dX0_holds_4 (by rw [c_22]; decide) (by rw [c_22]; decide) (off := 68) (by rw [c_22]; rfl) (by decide) ?_
        refine lv_lload_n hx hb dX0_holds_72 rfl (lv_at hl 1 rfl) ?_
        refine lv_ldc2 hx hb hown (hts (.constantLong RX0 41 (-2147483648)) (by decide +kernel)) dX0_holds_73 ?_
        refine W.lcmp hx hb dX0_holds_76 ?_
        refine lv_if_lt (tgt := 92) hx hb dX0_holds_77 (by decide) (fun c_7 => ?_) (fun c_7 => ?_)
        · have hf := pif_t c_7 hf
          refine lv_iconst (v := 0) hx hb dX0_holds_92 (by decide) ?_
          obtain ⟨e1, e2⟩ := pr_some hf
          exact W.zret (v := 0) hx hb hr rfl (fun t ht hW => ⟨⟨0, (), rfl, e1, Cp.end e2 hp ht⟩, hp.2.1.F ht⟩) hp.2.1.2.2 dX0_holds_93
        · have hf := pif_f c_7 hf
          refine lv_lload_n hx hb dX0_holds_80 rfl (lv_at hl 1 rfl) ?_
          refine lv_ldc2 hx hb hown (hts (.constantLong RX0 43 (2147483647)) (by decide +kernel)) dX0_holds_81 ?_
          refine W.lcmp hx hb dX0_holds_84 ?_
          refine lv_if_gt (tgt := 92) hx hb dX0_holds_85 (by decide) (fun c_8 => ?_) (fun c_8 => ?_)
          · have hf := pif_t c_8 hf
            refine lv_iconst (v := 0) hx hb dX0_holds_92 (by decide) ?_
            obtain ⟨e1, e2⟩ := pr_some hf
            exact W.zret (v := 0) hx hb hr rfl (fun t ht hW => ⟨⟨0, (), rfl, e1, Cp.end e2 hp ht⟩, hp.2.1.F ht⟩) hp.2.1.2.2 dX0_holds_93
          · have hf := pif_f c_8 hf
            refine lv_iconst (v := 1) hx hb dX0_holds_88 (by decide) ?_
            refine lv_goto (tgt := 93) hx hb dX0_holds_89 (by decide) ?_
            obtain ⟨e1, e2⟩ := pr_some hf
            exact W.zret (v := 1) hx hb hr rfl (fun t ht hW => ⟨⟨1, (), rfl, e1, Cp.end e2 hp ht⟩, hp.2.1.F ht⟩) hp.2.1.2.2 dX0_holds_93
      · have hf := pif_f c_22 hf
        refine lv_tableOut (tgt := 94) hx hb dX0_holds_4 (sw_out3 c_20 c_21 c_22) (by decide) ?_
        refine lv_aload_n hx hb dX0_holds_94 rfl (lv_at hl 0 rfl) ?_
        refine q_gi (ci := 2) (C := RX0) (T := TX0) (N := 7) (k := 1) hx hb hts iRX0 hown hK hp hk_1 (by decide) rfl rfl (by decide) rfl (Or.inl (hts (.fieldLink RX0 15 "RecordBench$Field" "kind" "I") (by decide +kernel))) (fun _ h9 => h9) dX0_holds_95 ?_
        refine lv_iconst (v := 4) hx hb dX0_holds_98 (by decide) ?_
        refine lv_icmp_ne (tgt := 106) hx hb dX0_holds_99 (by decide) (fun c_9 => ?_) (fun c_9 => ?_)
        · have hf := pif_f c_9 hf
          refine lv_iconst (v := 0) hx hb dX0_holds_106 (by decide) ?_
          obtain ⟨e1, e2⟩ := pr_some hf
          exact W.zret (v := 0) hx hb hr rfl (fun t ht hW => ⟨⟨0, (), rfl, e1, Cp.end e2 hp ht⟩, hp.2.1.F ht⟩) hp.2.1.2.2 dX0_holds_107
        · have hf := pif_t c_9 hf
          refine lv_iconst (v := 1) hx hb dX0_holds_102 (by decide) ?_
          refine lv_goto (tgt := 107) hx hb dX0_holds_103 (by decide) ?_
          obtain ⟨e1, e2⟩ := pr_some hf
          exact W.zret (v := 1) hx hb hr rfl (fun t ht hW => ⟨⟨1, (), rfl, e1, Cp.end e2 hp ht⟩, hp.2.1.F ht⟩) hp.2.1.2.2 dX0_holds_107
noncomputable def fX0_plainNumber (h0 : Nat) (st : CS) : Option (Int64 × CS) := gd (qk st h0 = 3) (pif ((qI st h0 1) = 5) (ono (qP st h0 5) (fun a_3 => gd (qk st a_3 = 1) (bnd (fJ0_length_8abf5 a_3 st) (fun r_8 st_6 => some (r_8.toInt64, st_6))))) (some (qJ st h0 6, st)))
set_option maxHeartbeats 1000000 in
theorem mo_X0_plainNumber (h0 : Nat) (st : CS) (r : Int64) (st' : CS) (hf : fX0_plainNumber h0 st = some (r, st')) : Ke st st' := by
  unfold fX0_plainNumber at hf
  have hm : Ke st st := Ke.rf
  obtain ⟨hk_1, hf⟩ := gd_some hf
  rcases pif_or hf with ⟨c_2, hf⟩ | ⟨c_2, hf⟩
  · obtain ⟨a_3, ha_4, hf⟩ := ono_some hf
    obtain ⟨hk_5, hf⟩ := gd_some hf
    obtain ⟨r_8, st_6, hc_7, hf⟩ := bnd_some hf
    have hm := hm.tr (mo_J0_length_8abf5 a_3 _ _ _ hc_7)
    obtain ⟨e1, e2⟩ := pr_some hf
    exact e2 ▸ hm
  · obtain ⟨e1, e2⟩ := pr_some hf
    exact e2 ▸ hm
def wq_X0_plainNumber : List Cond := .code yX0_plainNumber cX0_plainNumber 1 (some .long) :: (([.fieldLink RX0 15 "RecordBench$Field" "kind" "I", .fieldLink RX0 33 "RecordBench$Field" "value" "J", .fieldLink RX0 30 "RecordBench$Field" "text" "Ljava/lang/String;", .methodLink RX0 45 yJ0_length_8abf5, .instanceMethod yJ0_length_8abf5, .selects RJ0 yJ0_length_8abf5 yJ0_length_8abf5, .initialized RJ0, .code yJ0_length_8abf5 cJ0_length_8abf5 1 (some .int), .fieldLink RJ0 9 "java/lang/String" "value" "[B", .methodLink RJ0 335 yJ0_coder_7d493, .instanceMethod yJ0_coder_7d493, .selects RJ0 yJ0_coder_7d493 yJ0_coder_7d493, .code yJ0_coder_7d493 cJ0_coder_7d493 1 (some .byte), .fieldLink RJ0 38 "java/lang/String" "COMPACT_STRINGS" "Z", .fieldLink RJ0 15 "java/lang/String" "coder" "B"] : List Cond) ++ wsX00 ++ wsJ00)
theorem gs_wq_X0_plainNumber_wsJ00 : GoodIn wq_X0_plainNumber wsJ00 := fun w h => ⟨List.mem_cons_of_mem _ (List.mem_append_right _ h), (gt_wsJ00 w h).2⟩
set_option maxRecDepth 20000 in
theorem gq_X0_plainNumber_J0_length_8abf5_45 : GoodIn wq_X0_plainNumber (wsV RX0 45 RJ0 yJ0_length_8abf5 wq_J0_length_8abf5) := goodIn_app (goodIn_r _ [4, 5, 6, 7] rfl rfl) (goodIn_ca (goodIn_r _ [8, 9, 10, 11, 12, 7, 13, 14, 15] rfl rfl) gs_wq_X0_plainNumber_wsJ00)
set_option maxHeartbeats 4000000 in
set_option maxRecDepth 100000 in
theorem c_X0_plainNumber (l : Launch) (dC : Nat → ClassId) (dI : Nat → Nat → Nat) (ka ad : Nat → Nat) (ct : Nat → ClassId) (h0 : Nat) (st st' : CS) (r : Int64) (hf : fX0_plainNumber h0 st = some (r, st')) (sz : Nat) : Met l yX0_plainNumber wq_X0_plainNumber ({ frames := 2, cells := 0, slots := 0, locals := 48 }) (va_Pc [.ref (ad h0)] (PrC (dC, dI) ct ka ad st sz)) (va_Ql (fun r' (_ : Unit) => r' = r) (fun _ => CB (dC, dI) ct ka ad st' (aC ad st sz)) (aC ad st sz)) 0 0 (aC ad st sz) := by
  refine Met.ofW (cc := cX0_plainNumber) (maxL := 1) (ret := (some .long)) (by decide) rfl ?_
  intro p e s m args below meth c s₁ B hml hv
  obtain ⟨rfl, hsz, hw0, hK, hN, hZ, hC, hR, hL, hw1, hw2⟩ := hv
  have hx := B.exec
  have hb := B.bytes
  have hr := B.returns
  have hts := atoms_spec (ws := wq_X0_plainNumber) B.pre
  have hown : s.vm.findClass RX0 = some m.cls := findClass_of_methodNamed B.named
  have iRX0 : ∀ w ∈ u_ws RX0 TX0 7, w ∈ wq_X0_plainNumber := fun w h => List.mem_cons_of_mem _ (List.mem_append_left _ (List.mem_append_right _ h))
  subst hsz
  have hp : Cp (dC, dI) ka ad ct (aC ad st s.heap.size) s.heap st s.heap [] := ⟨fun i a b => ⟨hw0 i a b, Or.inl ⟨i, a, b, rfl⟩⟩, va_S.rf, hw1, hw2⟩
  generalize hAe : aC ad st s.heap.size = A at hp hZ hC ⊢
  have hA : ∀ q : Nat, s.heap.size ≤ q → A q := fun q h => by rw [← hAe]; exact Or.inr h
  have hl := lv_entry ([.ref (ad h0)]) (n := 1) (Nat.le_of_ble_eq_true rfl)
  rw [lg_entry_eq]
  generalize (lg_sl ([.ref (ad h0)]) ++ List.replicate (1 - (lg_sl ([.ref (ad h0)])).length) Slot.unset).toArray = ls at hl ⊢
  have hl : lv_has ls 1 [(0, .ref (ad h0))] := hl
  unfold fX0_plainNumber at hf
  refine lv_aload_n hx hb dX0_plainNumber_0 rfl (lv_at hl 0 rfl) ?_
  obtain ⟨hk_1, hf⟩ := gd_some hf
  refine q_gi (ci := 2) (C := RX0) (T := TX0) (N := 7) (k := 1) hx hb hts iRX0 hown hK hp hk_1 (by decide) rfl rfl (by decide) rfl (Or.inl (hts (.fieldLink RX0 15 "RecordBench$Field" "kind" "I") (by decide +kernel))) (fun _ h9 => h9) dX0_plainNumber_1 ?_
  refine lv_iconst (v := 5) hx hb dX0_plainNumber_4 (by decide) ?_
  refine lv_icmp_ne (tgt := 19) hx hb dX0_plainNumber_5 (by decide) (fun c_2 => ?_) (fun c_2 => ?_)
  · have hf := pif_f c_2 hf
    refine lv_aload_n hx hb dX0_plainNumber_19 rfl (lv_at hl 0 rfl) ?_
    refine q_gj (ci := 2) (C := RX0) (T := TX0) (N := 7) (k := 6) hx hb hts iRX0 hown hK hp hk_1 (by decide) rfl rfl (by decide) rfl (Or.inl (hts (.fieldLink RX0 33 "RecordBench$Field" "value" "J") (by decide +kernel))) (fun _ h9 => h9) dX0_plainNumber_20 ?_
    obtain ⟨e1, e2⟩ := pr_some hf
    exact W.lret (v := qJ st h0 6) hx hb hr (fun t ht hW => ⟨⟨qJ st h0 6, (), rfl, e1, Cp.end e2 hp ht⟩, hp.2.1.F ht⟩) hp.2.1.2.2 dX0_plainNumber_23
  · have hf := pif_t c_2 hf
    refine lv_aload_n hx hb dX0_plainNumber_8 rfl (lv_at hl 0 rfl) ?_
    refine q_gp (ci := 2) (C := RX0) (T := TX0) (N := 7) (k := 5) hx hb hts iRX0 hown hK hp hk_1 (by decide) rfl rfl (by decide) rfl (Or.inl (hts (.fieldLink RX0 30 "RecordBench$Field" "text" "Ljava/lang/String;") (by decide +kernel))) (fun _ h9 => h9) dX0_plainNumber_9 ?_
    obtain ⟨a_3, ha_4, hf⟩ := ono_some hf
    refine o_at ha_4 ?_
    obtain ⟨hk_5, hf⟩ := gd_some hf
    obtain ⟨r_8, st_6, hc_7, hf⟩ := bnd_some hf
    refine q_ci hp hA (va_runV (As := []) (rest := []) ⟨hx, hb, hml, hown, hts⟩ (c_J0_length_8abf5 l dC dI ka ad ct a_3 _ _ _ hc_7 _) (cwV 0 hts gq_X0_plainNumber_J0_length_8abf5_45 rfl rfl rfl (by decide +kernel) ⟨Nat.le_of_ble_eq_true rfl, Nat.le_of_ble_eq_true rfl⟩) ⟨PrC.blind _, q_recv (ci := 0) hK hp hC hk_5 (by decide) rfl (fun _ => rfl), q_pre hp hK hN hZ hC hR hL hA⟩ rfl rfl hl.1 rfl (lv_room (Nat.le_of_ble_eq_true rfl)) dX0_plainNumber_12 ⟨Nat.le_of_ble_eq_true rfl, Nat.le_of_ble_eq_true rfl⟩) (fun H locs hp => ?_)
    have hk_1 : qk st_6 h0 = 3 := by rw [(mo_J0_length_8abf5 a_3 _ _ _ hc_7).2.2.1]; exact hk_1
    have hk_5 : qk st_6 a_3 = 1 := by rw [(mo_J0_length_8abf5 a_3 _ _ _ hc_7).2.2.1]; exact hk_5
    refine lv_i2l (v := r_8.toInt64) hx hb dX0_plainNumber_15 rfl ?_
    refine lv_goto (tgt := 23) hx hb dX0_plainNumber_16 (by decide) ?_
    obtain ⟨e1, e2⟩ := pr_some hf
    exact W.lret (v := r_8.toInt64) hx hb hr (fun t ht hW => ⟨⟨r_8.toInt64, (), rfl, e1, Cp.end e2 hp ht⟩, hp.2.1.F ht⟩) hp.2.1.2.2 dX0_plainNumber_23
noncomputable def fX0_sharesGroup (h0 : Nat) (p0 : Option Nat) (st : CS) : Option (Int32 × CS) := gd (qk st h0 = 3) (pif ((qI st h0 2) = 0) (some ((0 : Int32), st)) (ono p0 (fun a_3 => gd (qk st a_3 = 3) (pif ((qI st h0 2) = (qI st a_3 2)) (some ((1 : Int32), st)) (some ((0 : Int32), st))))))
set_option maxHeartbeats 1000000 in
theorem mo_X0_sharesGroup (h0 : Nat) (p0 : Option Nat) (st : CS) (r : Int32) (st' : CS) (hf : fX0_sharesGroup h0 p0 st = some (r, st')) : Ke st st' := by
  unfold fX0_sharesGroup at hf
  have hm : Ke st st := Ke.rf
  obtain ⟨hk_1, hf⟩ := gd_some hf
  rcases pif_or hf with ⟨c_2, hf⟩ | ⟨c_2, hf⟩
  · obtain ⟨e1, e2⟩ := pr_some hf
    exact e2 ▸ hm
  · obtain ⟨a_3, ha_4, hf⟩ := ono_some hf
    obtain ⟨hk_5, hf⟩ := gd_some hf
    rcases pif_or hf with ⟨c_6, hf⟩ | ⟨c_6, hf⟩
    · obtain ⟨e1, e2⟩ := pr_some hf
      exact e2 ▸ hm
    · obtain ⟨e1, e2⟩ := pr_some hf
      exact e2 ▸ hm
def wq_X0_sharesGroup : List Cond := .code yX0_sharesGroup cX0_sharesGroup 2 (some .boolean) :: (([.fieldLink RX0 18 "RecordBench$Field" "group" "I"] : List Cond) ++ wsX00)
set_option maxHeartbeats 4000000 in
set_option maxRecDepth 100000 in
theorem c_X0_sharesGroup (l : Launch) (dC : Nat → ClassId) (dI : Nat → Nat → Nat) (ka ad : Nat → Nat) (ct : Nat → ClassId) (h0 : Nat) (p0 : Option Nat) (st st' : CS) (r : Int32) (hf : fX0_sharesGroup h0 p0 st = some (r, st')) (sz : Nat) : Met l yX0_sharesGroup wq_X0_sharesGroup ({ frames := 0, cells := 0, slots := 0, locals := 0 }) (va_Pc [.ref (ad h0), va_rf (Option.map ad p0)] (PrC (dC, dI) ct ka ad st sz)) (va_Qi (fun r' (_ : Unit) => r' = r) (fun _ => CB (dC, dI) ct ka ad st' (aC ad st sz)) (aC ad st sz)) 0 0 (aC ad st sz) := by
  refine Met.ofW (cc := cX0_sharesGroup) (maxL := 2) (ret := (some .boolean)) (by decide) rfl ?_
  intro p e s m args below meth c s₁ B hml hv
  obtain ⟨rfl, hsz, hw0, hK, hN, hZ, hC, hR, hL, hw1, hw2⟩ := hv
  have hx := B.exec
  have hb := B.bytes
  have hr := B.returns
  have hts := atoms_spec (ws := wq_X0_sharesGroup) B.pre
  have hown : s.vm.findClass RX0 = some m.cls := findClass_of_methodNamed B.named
  have iRX0 : ∀ w ∈ u_ws RX0 TX0 7, w ∈ wq_X0_sharesGroup := fun w h => List.mem_cons_of_mem _ (List.mem_append_right _ h)
  subst hsz
  have hp : Cp (dC, dI) ka ad ct (aC ad st s.heap.size) s.heap st s.heap [] := ⟨fun i a b => ⟨hw0 i a b, Or.inl ⟨i, a, b, rfl⟩⟩, va_S.rf, hw1, hw2⟩
  generalize hAe : aC ad st s.heap.size = A at hp hZ hC ⊢
  have hA : ∀ q : Nat, s.heap.size ≤ q → A q := fun q h => by rw [← hAe]; exact Or.inr h
  have hl := lv_entry ([.ref (ad h0), va_rf (Option.map ad p0)]) (n := 2) (by simp [lg_sl, rf_cat, vc_i, vc_l, vc_r, vc_n])
  rw [lg_entry_eq]
  generalize (lg_sl ([.ref (ad h0), va_rf (Option.map ad p0)]) ++ List.replicate (2 - (lg_sl ([.ref (ad h0), va_rf (Option.map ad p0)])).length) Slot.unset).toArray = ls at hl ⊢
  have hl : lv_has ls 2 [(0, .ref (ad h0)), (1, va_rf (Option.map ad p0))] := by simpa [lv_args, rf_cat, vc_i, vc_l, vc_r, vc_n] using hl
  unfold fX0_sharesGroup at hf
  refine lv_aload_n hx hb dX0_sharesGroup_0 rfl (lv_at hl 0 rfl) ?_
  obtain ⟨hk_1, hf⟩ := gd_some hf
  refine q_gi (ci := 2) (C := RX0) (T := TX0) (N := 7) (k := 2) hx hb hts iRX0 hown hK hp hk_1 (by decide) rfl rfl (by decide) rfl (Or.inl (hts (.fieldLink RX0 18 "RecordBench$Field" "group" "I") (by decide +kernel))) (fun _ h9 => h9) dX0_sharesGroup_1 ?_
  refine lv_if_eq (tgt := 22) hx hb dX0_sharesGroup_4 (by decide) (fun c_2 => ?_) (fun c_2 => ?_)
  · have hf := pif_t c_2 hf
    refine lv_iconst (v := 0) hx hb dX0_sharesGroup_22 (by decide) ?_
    obtain ⟨e1, e2⟩ := pr_some hf
    exact W.zret (v := 0) hx hb hr rfl (fun t ht hW => ⟨⟨0, (), rfl, e1, Cp.end e2 hp ht⟩, hp.2.1.F ht⟩) hp.2.1.2.2 dX0_sharesGroup_23
  · have hf := pif_f c_2 hf
    refine lv_aload_n hx hb dX0_sharesGroup_7 rfl (lv_at hl 0 rfl) ?_
    refine q_gi (ci := 2) (C := RX0) (T := TX0) (N := 7) (k := 2) hx hb hts iRX0 hown hK hp hk_1 (by decide) rfl rfl (by decide) rfl (Or.inl (hts (.fieldLink RX0 18 "RecordBench$Field" "group" "I") (by decide +kernel))) (fun _ h9 => h9) dX0_sharesGroup_8 ?_
    refine o_aload_n hx hb dX0_sharesGroup_11 rfl (lv_at hl 1 rfl) ?_
    obtain ⟨a_3, ha_4, hf⟩ := ono_some hf
    refine o_at ha_4 ?_
    obtain ⟨hk_5, hf⟩ := gd_some hf
    refine q_gi (ci := 2) (C := RX0) (T := TX0) (N := 7) (k := 2) hx hb hts iRX0 hown hK hp hk_5 (by decide) rfl rfl (by decide) rfl (Or.inl (hts (.fieldLink RX0 18 "RecordBench$Field" "group" "I") (by decide +kernel))) (fun _ h9 => h9) dX0_sharesGroup_12 ?_
    refine lv_icmp_ne (tgt := 22) hx hb dX0_sharesGroup_15 (by decide) (fun c_6 => ?_) (fun c_6 => ?_)
    · have hf := pif_f c_6 hf
      refine lv_iconst (v := 0) hx hb dX0_sharesGroup_22 (by decide) ?_
      obtain ⟨e1, e2⟩ := pr_some hf
      exact W.zret (v := 0) hx hb hr rfl (fun t ht hW => ⟨⟨0, (), rfl, e1, Cp.end e2 hp ht⟩, hp.2.1.F ht⟩) hp.2.1.2.2 dX0_sharesGroup_23
    · have hf := pif_t c_6 hf
      refine lv_iconst (v := 1) hx hb dX0_sharesGroup_18 (by decide) ?_
      refine lv_goto (tgt := 23) hx hb dX0_sharesGroup_19 (by decide) ?_
      obtain ⟨e1, e2⟩ := pr_some hf
      exact W.zret (v := 1) hx hb hr rfl (fun t ht hW => ⟨⟨1, (), rfl, e1, Cp.end e2 hp ht⟩, hp.2.1.F ht⟩) hp.2.1.2.2 dX0_sharesGroup_23
noncomputable def fX0_isOtherSort (h0 : Nat) (p0 : Option Nat) (st : CS) : Option (Int32 × CS) := gd (qk st h0 = 3) (bnd (fX0_isNumber h0 st) (fun r_4 st_2 => ono p0 (fun a_5 => gd (qk st_2 a_5 = 3) (bnd (fX0_isNumber a_5 st_2) (fun r_10 st_8 => pif (r_4 = r_10) (bnd (fX0_isNumber h0 st_8) (fun r_14 st_12 => pif (r_14 = 0) (pif ((qI st_12 h0 1) = (qI st_12 a_5 1)) (some ((0 : Int32), st_12)) (some ((1 : Int32), st_12))) (some ((0 : Int32), st_12)))) (some ((1 : Int32), st_8)))))))
set_option maxHeartbeats 1000000 in
theorem mo_X0_isOtherSort (h0 : Nat) (p0 : Option Nat) (st : CS) (r : Int32) (st' : CS) (hf : fX0_isOtherSort h0 p0 st = some (r, st')) : Ke st st' := by
  unfold fX0_isOtherSort at hf
  have hm : Ke st st := Ke.rf
  obtain ⟨hk_1, hf⟩ := gd_some hf
  obtain ⟨r_4, st_2, hc_3, hf⟩ := bnd_some hf
  have hm := hm.tr (mo_X0_isNumber h0 _ _ _ hc_3)
  obtain ⟨a_5, ha_6, hf⟩ := ono_some hf
  obtain ⟨hk_7, hf⟩ := gd_some hf
  obtain ⟨r_10, st_8, hc_9, hf⟩ := bnd_some hf
  have hm := hm.tr (mo_X0_isNumber a_5 _ _ _ hc_9)
  rcases pif_or hf with ⟨c_11, hf⟩ | ⟨c_11, hf⟩
  · obtain ⟨r_14, st_12, hc_13, hf⟩ := bnd_some hf
    have hm := hm.tr (mo_X0_isNumber h0 _ _ _ hc_13)
    rcases pif_or hf with ⟨c_15, hf⟩ | ⟨c_15, hf⟩
    · rcases pif_or hf with ⟨c_16, hf⟩ | ⟨c_16, hf⟩
      · obtain ⟨e1, e2⟩ := pr_some hf
        exact e2 ▸ hm
      · obtain ⟨e1, e2⟩ := pr_some hf
        exact e2 ▸ hm
    · obtain ⟨e1, e2⟩ := pr_some hf
      exact e2 ▸ hm
  · obtain ⟨e1, e2⟩ := pr_some hf
    exact e2 ▸ hm
def wq_X0_isOtherSort : List Cond := .code yX0_isOtherSort cX0_isOtherSort 2 (some .boolean) :: (([.fieldLink RX0 15 "RecordBench$Field" "kind" "I", .methodLink RX0 51 yX0_isNumber, .instanceMethod yX0_isNumber, .selects RX0 yX0_isNumber yX0_isNumber, .initialized RX0, .code yX0_isNumber cX0_isNumber 1 (some .boolean)] : List Cond) ++ wsX00)
theorem gs_wq_X0_isOtherSort_wsX00 : GoodIn wq_X0_isOtherSort wsX00 := fun w h => ⟨List.mem_cons_of_mem _ (List.mem_append_right _ h), (gt_wsX00 w h).2⟩
set_option maxRecDepth 20000 in
theorem gq_X0_isOtherSort_X0_isNumber_51 : GoodIn wq_X0_isOtherSort (wsV RX0 51 RX0 yX0_isNumber wq_X0_isNumber) := goodIn_app (goodIn_r _ [2, 3, 4, 5] rfl rfl) (goodIn_ca (goodIn_r _ [6, 1] rfl rfl) gs_wq_X0_isOtherSort_wsX00)
set_option maxHeartbeats 4000000 in
set_option maxRecDepth 100000 in
theorem c_X0_isOtherSort (l : Launch) (dC : Nat → ClassId) (dI : Nat → Nat → Nat) (ka ad : Nat → Nat) (ct : Nat → ClassId) (h0 : Nat) (p0 : Option Nat) (st st' : CS) (r : Int32) (hf : fX0_isOtherSort h0 p0 st = some (r, st')) (sz : Nat) : Met l yX0_isOtherSort wq_X0_isOtherSort ({ frames := 1, cells := 0, slots := 0, locals := 24 }) (va_Pc [.ref (ad h0), va_rf (Option.map ad p0)] (PrC (dC, dI) ct ka ad st sz)) (va_Qi (fun r' (_ : Unit) => r' = r) (fun _ => CB (dC, dI) ct ka ad st' (aC ad st sz)) (aC ad st sz)) 0 0 (aC ad st sz) := by
  refine Met.ofW (cc := cX0_isOtherSort) (maxL := 2) (ret := (some .boolean)) (by decide) rfl ?_
  intro p e s m args below meth c s₁ B hml hv
  obtain ⟨rfl, hsz, hw0, hK, hN, hZ, hC, hR, hL, hw1, hw2⟩ := hv
  have hx := B.exec
  have hb := B.bytes
  have hr := B.returns
  have hts := atoms_spec (ws := wq_X0_isOtherSort) B.pre
  have hown : s.vm.findClass RX0 = some m.cls := findClass_of_methodNamed B.named
  have iRX0 : ∀ w ∈ u_ws RX0 TX0 7, w ∈ wq_X0_isOtherSort := fun w h => List.mem_cons_of_mem _ (List.mem_append_right _ h)
  subst hsz
  have hp : Cp (dC, dI) ka ad ct (aC ad st s.heap.size) s.heap st s.heap [] := ⟨fun i a b => ⟨hw0 i a b, Or.inl ⟨i, a, b, rfl⟩⟩, va_S.rf, hw1, hw2⟩
  generalize hAe : aC ad st s.heap.size = A at hp hZ hC ⊢
  have hA : ∀ q : Nat, s.heap.size ≤ q → A q := fun q h => by rw [← hAe]; exact Or.inr h
  have hl := lv_entry ([.ref (ad h0), va_rf (Option.map ad p0)]) (n := 2) (by simp [lg_sl, rf_cat, vc_i, vc_l, vc_r, vc_n])
  rw [lg_entry_eq]
  generalize (lg_sl ([.ref (ad h0), va_rf (Option.map ad p0)]) ++ List.replicate (2 - (lg_sl ([.ref (ad h0), va_rf (Option.map ad p0)])).length) Slot.unset).toArray = ls at hl ⊢
  have hl : lv_has ls 2 [(0, .ref (ad h0)), (1, va_rf (Option.map ad p0))] := by simpa [lv_args, rf_cat, vc_i, vc_l, vc_r, vc_n] using hl
  unfold fX0_isOtherSort at hf
  refine lv_aload_n hx hb dX0_isOtherSort_0 rfl (lv_at hl 0 rfl) ?_
  obtain ⟨hk_1, hf⟩ := gd_some hf
  obtain ⟨r_4, st_2, hc_3, hf⟩ := bnd_some hf
  refine q_ci hp hA (va_runV (As := []) (rest := []) ⟨hx, hb, hml, hown, hts⟩ (c_X0_isNumber l dC dI ka ad ct h0 _ _ _ hc_3 _) (cwV 0 hts gq_X0_isOtherSort_X0_isNumber_51 rfl rfl rfl (by decide +kernel) ⟨Nat.le_of_ble_eq_true rfl, Nat.le_of_ble_eq_true rfl⟩) ⟨PrC.blind _, q_rv2 hK hp hC hk_1, q_pre hp hK hN hZ hC hR hL hA⟩ rfl rfl hl.1 rfl (lv_room (Nat.le_of_ble_eq_true rfl)) dX0_isOtherSort_1 ⟨Nat.le_of_ble_eq_true rfl, Nat.le_of_ble_eq_true rfl⟩) (fun H locs hp => ?_)
  have hk_1 : qk st_2 h0 = 3 := by rw [(mo_X0_isNumber h0 _ _ _ hc_3).2.2.1]; exact hk_1
  refine o_aload_n hx hb dX0_isOtherSort_4 rfl (lv_at hl 1 rfl) ?_
  obtain ⟨a_5, ha_6, hf⟩ := ono_some hf
  refine o_at ha_6 ?_
  obtain ⟨hk_7, hf⟩ := gd_some hf
  obtain ⟨r_10, st_8, hc_9, hf⟩ := bnd_some hf
  refine q_ci hp hA (va_runV (As := []) (rest := [.int r_4]) ⟨hx, hb, hml, hown, hts⟩ (c_X0_isNumber l dC dI ka ad ct a_5 _ _ _ hc_9 _) (cwV 0 hts gq_X0_isOtherSort_X0_isNumber_51 rfl rfl rfl (by decide +kernel) ⟨Nat.le_of_ble_eq_true rfl, Nat.le_of_ble_eq_true rfl⟩) ⟨PrC.blind _, q_rv2 hK hp hC hk_7, q_pre hp hK hN hZ hC hR hL hA⟩ rfl rfl hl.1 rfl (lv_room (Nat.le_of_ble_eq_true rfl)) dX0_isOtherSort_5 ⟨Nat.le_of_ble_eq_true rfl, Nat.le_of_ble_eq_true rfl⟩) (fun H locs hp => ?_)
  have hk_1 : qk st_8 h0 = 3 := by rw [(mo_X0_isNumber a_5 _ _ _ hc_9).2.2.1]; exact hk_1
  have hk_7 : qk st_8 a_5 = 3 := by rw [(mo_X0_isNumber a_5 _ _ _ hc_9).2.2.1]; exact hk_7
  refine lv_icmp_ne (tgt := 29) hx hb dX0_isOtherSort_8 (by decide) (fun c_11 => ?_) (fun c_11 => ?_)
  · have hf := pif_f c_11 hf
    refine lv_iconst (v := 1) hx hb dX0_isOtherSort_29 (by decide) ?_
    refine lv_goto (tgt := 34) hx hb dX0_isOtherSort_30 (by decide) ?_
    obtain ⟨e1, e2⟩ := pr_some hf
    exact W.zret (v := 1) hx hb hr rfl (fun t ht hW => ⟨⟨1, (), rfl, e1, Cp.end e2 hp ht⟩, hp.2.1.F ht⟩) hp.2.1.2.2 dX0_isOtherSort_34
  · have hf := pif_t c_11 hf
    refine lv_aload_n hx hb dX0_isOtherSort_11 rfl (lv_at hl 0 rfl) ?_
    obtain ⟨r_14, st_12, hc_13, hf⟩ := bnd_some hf
    refine q_ci hp hA (va_runV (As := []) (rest := []) ⟨hx, hb, hml, hown, hts⟩ (c_X0_isNumber l dC dI ka ad ct h0 _ _ _ hc_13 _) (cwV 0 hts gq_X0_isOtherSort_X0_isNumber_51 rfl rfl rfl (by decide +kernel) ⟨Nat.le_of_ble_eq_true rfl, Nat.le_of_ble_eq_true rfl⟩) ⟨PrC.blind _, q_rv2 hK hp hC hk_1, q_pre hp hK hN hZ hC hR hL hA⟩ rfl rfl hl.1 rfl (lv_room (Nat.le_of_ble_eq_true rfl)) dX0_isOtherSort_12 ⟨Nat.le_of_ble_eq_true rfl, Nat.le_of_ble_eq_true rfl⟩) (fun H locs hp => ?_)
    have hk_1 : qk st_12 h0 = 3 := by rw [(mo_X0_isNumber h0 _ _ _ hc_13).2.2.1]; exact hk_1
    have hk_7 : qk st_12 a_5 = 3 := by rw [(mo_X0_isNumber h0 _ _ _ hc_13).2.2.1]; exact hk_7
    refine lv_if_ne (tgt := 33) hx hb dX0_isOtherSort_15 (by decide) (fun c_15 => ?_) (fun c_15 => ?_)
    · have hf := pif_f c_15 hf
      refine lv_iconst (v := 0) hx hb dX0_isOtherSort_33 (by decide) ?_
      obtain ⟨e1, e2⟩ := pr_some hf
      exact W.zret (v := 0) hx hb hr rfl (fun t ht hW => ⟨⟨0, (), rfl, e1, Cp.end e2 hp ht⟩, hp.2.1.F ht⟩) hp.2.1.2.2 dX0_isOtherSort_34
    · have hf := pif_t c_15 hf
      refine lv_aload_n hx hb dX0_isOtherSort_18 rfl (lv_at hl 0 rfl) ?_
      refine q_gi (ci := 2) (C := RX0) (T := TX0) (N := 7) (k := 1) hx hb hts iRX0 hown hK hp hk_1 (by decide) rfl rfl (by decide) rfl (Or.inl (hts (.fieldLink RX0 15 "RecordBench$Field" "kind" "I") (by decide +kernel))) (fun _ h9 => h9) dX0_isOtherSort_19 ?_
      refine o_aload_n hx hb dX0_isOtherSort_22 rfl (lv_at hl 1 rfl) ?_
      refine o_at ha_6 ?_
      refine q_gi (ci := 2) (C := RX0) (T := TX0) (N := 7) (k := 1) hx hb hts iRX0 hown hK hp hk_7 (by decide) rfl rfl (by decide) rfl (Or.inl (hts (.fieldLink RX0 15 "RecordBench$Field" "kind" "I") (by decide +kernel))) (fun _ h9 => h9) dX0_isOtherSort_23 ?_
      refine lv_icmp_eq (tgt := 33) hx hb dX0_isOtherSort_26 (by decide) (fun c_16 => ?_) (fun c_16 => ?_)
      · have hf := pif_t c_16 hf
        refine lv_iconst (v := 0) hx hb dX0_isOtherSort_33 (by decide) ?_
        obtain ⟨e1, e2⟩ := pr_some hf
        exact W.zret (v := 0) hx hb hr rfl (fun t ht hW => ⟨⟨0, (), rfl, e1, Cp.end e2 hp ht⟩, hp.2.1.F ht⟩) hp.2.1.2.2 dX0_isOtherSort_34
      · have hf := pif_f c_16 hf
        refine lv_iconst (v := 1) hx hb dX0_isOtherSort_29 (by decide) ?_
        refine lv_goto (tgt := 34) hx hb dX0_isOtherSort_30 (by decide) ?_
        obtain ⟨e1, e2⟩ := pr_some hf
        exact W.zret (v := 1) hx hb hr rfl (fun t ht hW => ⟨⟨1, (), rfl, e1, Cp.end e2 hp ht⟩, hp.2.1.F ht⟩) hp.2.1.2.2 dX0_isOtherSort_34
noncomputable def fX0_isNarrower (h0 : Nat) (p0 : Option Nat) (st : CS) : Option (Int32 × CS) := gd (qk st h0 = 3) (bnd (fX0_isNumber h0 st) (fun r_4 st_2 => pif (r_4 = 0) (some ((0 : Int32), st_2)) (ono p0 (fun a_6 => gd (qk st_2 a_6 = 3) (bnd (fX0_isNumber a_6 st_2) (fun r_11 st_9 => pif (r_11 = 0) (some ((0 : Int32), st_9)) (pif ((qI st_9 a_6 1) ≤ (qI st_9 h0 1)) (some ((0 : Int32), st_9)) (some ((1 : Int32), st_9)))))))))
set_option maxHeartbeats 1000000 in
theorem mo_X0_isNarrower (h0 : Nat) (p0 : Option Nat) (st : CS) (r : Int32) (st' : CS) (hf : fX0_isNarrower h0 p0 st = some (r, st')) : Ke st st' := by
  unfold fX0_isNarrower at hf
  have hm : Ke st st := Ke.rf
  obtain ⟨hk_1, hf⟩ := gd_some hf
  obtain ⟨r_4, st_2, hc_3, hf⟩ := bnd_some hf
  have hm := hm.tr (mo_X0_isNumber h0 _ _ _ hc_3)
  rcases pif_or hf with ⟨c_5, hf⟩ | ⟨c_5, hf⟩
  · obtain ⟨e1, e2⟩ := pr_some hf
    exact e2 ▸ hm
  · obtain ⟨a_6, ha_7, hf⟩ := ono_some hf
    obtain ⟨hk_8, hf⟩ := gd_some hf
    obtain ⟨r_11, st_9, hc_10, hf⟩ := bnd_some hf
    have hm := hm.tr (mo_X0_isNumber a_6 _ _ _ hc_10)
    rcases pif_or hf with ⟨c_12, hf⟩ | ⟨c_12, hf⟩
    · obtain ⟨e1, e2⟩ := pr_some hf
      exact e2 ▸ hm
    · rcases pif_or hf with ⟨c_13, hf⟩ | ⟨c_13, hf⟩
      · obtain ⟨e1, e2⟩ := pr_some hf
        exact e2 ▸ hm
      · obtain ⟨e1, e2⟩ := pr_some hf
        exact e2 ▸ hm
def wq_X0_isNarrower : List Cond := .code yX0_isNarrower cX0_isNarrower 2 (some .boolean) :: (([.fieldLink RX0 15 "RecordBench$Field" "kind" "I", .methodLink RX0 51 yX0_isNumber, .instanceMethod yX0_isNumber, .selects RX0 yX0_isNumber yX0_isNumber, .initialized RX0, .code yX0_isNumber cX0_isNumber 1 (some .boolean)] : List Cond) ++ wsX00)
theorem gs_wq_X0_isNarrower_wsX00 : GoodIn wq_X0_isNarrower wsX00 := fun w h => ⟨List.mem_cons_of_mem _ (List.mem_append_right _ h), (gt_wsX00 w h).2⟩
set_option maxRecDepth 20000 in
theorem gq_X0_isNarrower_X0_isNumber_51 : GoodIn wq_X0_isNarrower (wsV RX0 51 RX0 yX0_isNumber wq_X0_isNumber) := goodIn_app (goodIn_r _ [2, 3, 4, 5] rfl rfl) (goodIn_ca (goodIn_r _ [6, 1] rfl rfl) gs_wq_X0_isNarrower_wsX00)
set_option maxHeartbeats 4000000 in
set_option maxRecDepth 100000 in
theorem c_X0_isNarrower (l : Launch) (dC : Nat → ClassId) (dI : Nat → Nat → Nat) (ka ad : Nat → Nat) (ct : Nat → ClassId) (h0 : Nat) (p0 : Option Nat) (st st' : CS) (r : Int32) (hf : fX0_isNarrower h0 p0 st = some (r, st')) (sz : Nat) : Met l yX0_isNarrower wq_X0_isNarrower ({ frames := 1, cells := 0, slots := 0, locals := 24 }) (va_Pc [.ref (ad h0), va_rf (Option.map ad p0)] (PrC (dC, dI) ct ka ad st sz)) (va_Qi (fun r' (_ : Unit) => r' = r) (fun _ => CB (dC, dI) ct ka ad st' (aC ad st sz)) (aC ad st sz)) 0 0 (aC ad st sz) := by
  refine Met.ofW (cc := cX0_isNarrower) (maxL := 2) (ret := (some .boolean)) (by decide) rfl ?_
  intro p e s m args below meth c s₁ B hml hv
  obtain ⟨rfl, hsz, hw0, hK, hN, hZ, hC, hR, hL, hw1, hw2⟩ := hv
  have hx := B.exec
  have hb := B.bytes
  have hr := B.returns
  have hts := atoms_spec (ws := wq_X0_isNarrower) B.pre
  have hown : s.vm.findClass RX0 = some m.cls := findClass_of_methodNamed B.named
  have iRX0 : ∀ w ∈ u_ws RX0 TX0 7, w ∈ wq_X0_isNarrower := fun w h => List.mem_cons_of_mem _ (List.mem_append_right _ h)
  subst hsz
  have hp : Cp (dC, dI) ka ad ct (aC ad st s.heap.size) s.heap st s.heap [] := ⟨fun i a b => ⟨hw0 i a b, Or.inl ⟨i, a, b, rfl⟩⟩, va_S.rf, hw1, hw2⟩
  generalize hAe : aC ad st s.heap.size = A at hp hZ hC ⊢
  have hA : ∀ q : Nat, s.heap.size ≤ q → A q := fun q h => by rw [← hAe]; exact Or.inr h
  have hl := lv_entry ([.ref (ad h0), va_rf (Option.map ad p0)]) (n := 2) (by simp [lg_sl, rf_cat, vc_i, vc_l, vc_r, vc_n])
  rw [lg_entry_eq]
  generalize (lg_sl ([.ref (ad h0), va_rf (Option.map ad p0)]) ++ List.replicate (2 - (lg_sl ([.ref (ad h0), va_rf (Option.map ad p0)])).length) Slot.unset).toArray = ls at hl ⊢
  have hl : lv_has ls 2 [(0, .ref (ad h0)), (1, va_rf (Option.map ad p0))] := by simpa [lv_args, rf_cat, vc_i, vc_l, vc_r, vc_n] using hl
  unfold fX0_isNarrower at hf
  refine lv_aload_n hx hb dX0_isNarrower_0 rfl (lv_at hl 0 rfl) ?_
  obtain ⟨hk_1, hf⟩ := gd_some hf
  obtain ⟨r_4, st_2, hc_3, hf⟩ := bnd_some hf
  refine q_ci hp hA (va_runV (As := []) (rest := []) ⟨hx, hb, hml, hown, hts⟩ (c_X0_isNumber l dC dI ka ad ct h0 _ _ _ hc_3 _) (cwV 0 hts gq_X0_isNarrower_X0_isNumber_51 rfl rfl rfl (by decide +kernel) ⟨Nat.le_of_ble_eq_true rfl, Nat.le_of_ble_eq_true rfl⟩) ⟨PrC.blind _, q_rv2 hK hp hC hk_1, q_pre hp hK hN hZ hC hR hL hA⟩ rfl rfl hl.1 rfl (lv_room (Nat.le_of_ble_eq_true rfl)) dX0_isNarrower_1 ⟨Nat.le_of_ble_eq_true rfl, Nat.le_of_ble_eq_true rfl⟩) (fun H locs hp => ?_)
  have hk_1 : qk st_2 h0 = 3 := by rw [(mo_X0_isNumber h0 _ _ _ hc_3).2.2.1]; exact hk_1
  refine lv_if_eq (tgt := 29) hx hb dX0_isNarrower_4 (by decide) (fun c_5 => ?_) (fun c_5 => ?_)
  · have hf := pif_t c_5 hf
    refine lv_iconst (v := 0) hx hb dX0_isNarrower_29 (by decide) ?_
    obtain ⟨e1, e2⟩ := pr_some hf
    exact W.zret (v := 0) hx hb hr rfl (fun t ht hW => ⟨⟨0, (), rfl, e1, Cp.end e2 hp ht⟩, hp.2.1.F ht⟩) hp.2.1.2.2 dX0_isNarrower_30
  · have hf := pif_f c_5 hf
    refine o_aload_n hx hb dX0_isNarrower_7 rfl (lv_at hl 1 rfl) ?_
    obtain ⟨a_6, ha_7, hf⟩ := ono_some hf
    refine o_at ha_7 ?_
    obtain ⟨hk_8, hf⟩ := gd_some hf
    obtain ⟨r_11, st_9, hc_10, hf⟩ := bnd_some hf
    refine q_ci hp hA (va_runV (As := []) (rest := []) ⟨hx, hb, hml, hown, hts⟩ (c_X0_isNumber l dC dI ka ad ct a_6 _ _ _ hc_10 _) (cwV 0 hts gq_X0_isNarrower_X0_isNumber_51 rfl rfl rfl (by decide +kernel) ⟨Nat.le_of_ble_eq_true rfl, Nat.le_of_ble_eq_true rfl⟩) ⟨PrC.blind _, q_rv2 hK hp hC hk_8, q_pre hp hK hN hZ hC hR hL hA⟩ rfl rfl hl.1 rfl (lv_room (Nat.le_of_ble_eq_true rfl)) dX0_isNarrower_8 ⟨Nat.le_of_ble_eq_true rfl, Nat.le_of_ble_eq_true rfl⟩) (fun H locs hp => ?_)
    have hk_1 : qk st_9 h0 = 3 := by rw [(mo_X0_isNumber a_6 _ _ _ hc_10).2.2.1]; exact hk_1
    have hk_8 : qk st_9 a_6 = 3 := by rw [(mo_X0_isNumber a_6 _ _ _ hc_10).2.2.1]; exact hk_8
    refine lv_if_eq (tgt := 29) hx hb dX0_isNarrower_11 (by decide) (fun c_12 => ?_) (fun c_12 => ?_)
    · have hf := pif_t c_12 hf
      refine lv_iconst (v := 0) hx hb dX0_isNarrower_29 (by decide) ?_
      obtain ⟨e1, e2⟩ := pr_some hf
      exact W.zret (v := 0) hx hb hr rfl (fun t ht hW => ⟨⟨0, (), rfl, e1, Cp.end e2 hp ht⟩, hp.2.1.F ht⟩) hp.2.1.2.2 dX0_isNarrower_30
    · have hf := pif_f c_12 hf
      refine lv_aload_n hx hb dX0_isNarrower_14 rfl (lv_at hl 0 rfl) ?_
      refine q_gi (ci := 2) (C := RX0) (T := TX0) (N := 7) (k := 1) hx hb hts iRX0 hown hK hp hk_1 (by decide) rfl rfl (by decide) rfl (Or.inl (hts (.fieldLink RX0 15 "RecordBench$Field" "kind" "I") (by decide +kernel))) (fun _ h9 => h9) dX0_isNarrower_15 ?_
      refine o_aload_n hx hb dX0_isNarrower_18 rfl (lv_at hl 1 rfl) ?_
      refine o_at ha_7 ?_
      refine q_gi (ci := 2) (C := RX0) (T := TX0) (N := 7) (k := 1) hx hb hts iRX0 hown hK hp hk_8 (by decide) rfl rfl (by decide) rfl (Or.inl (hts (.fieldLink RX0 15 "RecordBench$Field" "kind" "I") (by decide +kernel))) (fun _ h9 => h9) dX0_isNarrower_19 ?_
      refine lv_icmp_ge (tgt := 29) hx hb dX0_isNarrower_22 (by decide) (fun c_13 => ?_) (fun c_13 => ?_)
      · have hf := pif_t c_13 hf
        refine lv_iconst (v := 0) hx hb dX0_isNarrower_29 (by decide) ?_
        obtain ⟨e1, e2⟩ := pr_some hf
        exact W.zret (v := 0) hx hb hr rfl (fun t ht hW => ⟨⟨0, (), rfl, e1, Cp.end e2 hp ht⟩, hp.2.1.F ht⟩) hp.2.1.2.2 dX0_isNarrower_30
      · have hf := pif_f c_13 hf
        refine lv_iconst (v := 1) hx hb dX0_isNarrower_25 (by decide) ?_
        refine lv_goto (tgt := 30) hx hb dX0_isNarrower_26 (by decide) ?_
        obtain ⟨e1, e2⟩ := pr_some hf
        exact W.zret (v := 1) hx hb hr rfl (fun t ht hW => ⟨⟨1, (), rfl, e1, Cp.end e2 hp ht⟩, hp.2.1.F ht⟩) hp.2.1.2.2 dX0_isNarrower_30
noncomputable def fX0_hasOtherDefault (h0 : Nat) (p0 : Option Nat) (st : CS) : Option (Int32 × CS) := gd (qk st h0 = 3) (ono p0 (fun a_2 => gd (qk st a_2 = 3) (pif ((lg_cmp (qJ st h0 6) (qJ st a_2 6)) = 0) (ono (qP st h0 5) (fun a_6 => gd (qk st a_6 = 1) (bnd (fJ0_equals_9ea2d a_6 (qP st a_2 5) st) (fun r_11 st_9 => pif (r_11 = 0) (some ((1 : Int32), st_9)) (some ((0 : Int32), st_9)))))) (some ((1 : Int32), st)))))
set_option maxHeartbeats 1000000 in
theorem mo_X0_hasOtherDefault (h0 : Nat) (p0 : Option Nat) (st : CS) (r : Int32) (st' : CS) (hf : fX0_hasOtherDefault h0 p0 st = some (r, st')) : Ke st st' := by
  unfold fX0_hasOtherDefault at hf
  have hm : Ke st st := Ke.rf
  obtain ⟨hk_1, hf⟩ := gd_some hf
  obtain ⟨a_2, ha_3, hf⟩ := ono_some hf
  obtain ⟨hk_4, hf⟩ := gd_some hf
  rcases pif_or hf with ⟨c_5, hf⟩ | ⟨c_5, hf⟩
  · obtain ⟨a_6, ha_7, hf⟩ := ono_some hf
    obtain ⟨hk_8, hf⟩ := gd_some hf
    obtain ⟨r_11, st_9, hc_10, hf⟩ := bnd_some hf
    have hm := hm.tr (mo_J0_equals_9ea2d a_6 (qP st a_2 5) _ _ _ hc_10)
    rcases pif_or hf with ⟨c_12, hf⟩ | ⟨c_12, hf⟩
    · obtain ⟨e1, e2⟩ := pr_some hf
      exact e2 ▸ hm
    · obtain ⟨e1, e2⟩ := pr_some hf
      exact e2 ▸ hm
  · obtain ⟨e1, e2⟩ := pr_some hf
    exact e2 ▸ hm
def wq_X0_hasOtherDefault : List Cond := .code yX0_hasOtherDefault cX0_hasOtherDefault 2 (some .boolean) :: (([.fieldLink RX0 33 "RecordBench$Field" "value" "J", .fieldLink RX0 30 "RecordBench$Field" "text" "Ljava/lang/String;", .methodLink RX0 55 yJ0_equals_9ea2d, .instanceMethod yJ0_equals_9ea2d, .selects RJ0 yJ0_equals_9ea2d yJ0_equals_9ea2d, .initialized RJ0, .code yJ0_equals_9ea2d cJ0_equals_9ea2d 3 (some .boolean), .classLink RJ0 10 "java/lang/String", .fieldLink RJ0 38 "java/lang/String" "COMPACT_STRINGS" "Z", .fieldLink RJ0 15 "java/lang/String" "coder" "B", .fieldLink RJ0 9 "java/lang/String" "value" "[B", .methodLink RJ0 541 yJ1_equals_b5fdf, .static yJ1_equals_b5fdf, .initialized RJ1, .code yJ1_equals_b5fdf cJ1_equals_b5fdf 3 (some .boolean)] : List Cond) ++ wsX00 ++ wsJ00)
theorem gs_wq_X0_hasOtherDefault_wsJ00 : GoodIn wq_X0_hasOtherDefault wsJ00 := fun w h => ⟨List.mem_cons_of_mem _ (List.mem_append_right _ h), (gt_wsJ00 w h).2⟩
set_option maxRecDepth 20000 in
theorem gq_X0_hasOtherDefault_J0_equals_9ea2d_55 : GoodIn wq_X0_hasOtherDefault (wsV RX0 55 RJ0 yJ0_equals_9ea2d wq_J0_equals_9ea2d) := goodIn_app (goodIn_r _ [3, 4, 5, 6] rfl rfl) (goodIn_ca (goodIn_r _ [7, 8, 9, 10, 11, 12, 13, 14, 15] rfl rfl) gs_wq_X0_hasOtherDefault_wsJ00)
set_option maxHeartbeats 4000000 in
set_option maxRecDepth 100000 in
theorem c_X0_hasOtherDefault (l : Launch) (dC : Nat → ClassId) (dI : Nat → Nat → Nat) (ka ad : Nat → Nat) (ct : Nat → ClassId) (h0 : Nat) (p0 : Option Nat) (st st' : CS) (r : Int32) (hf : fX0_hasOtherDefault h0 p0 st = some (r, st')) (sz : Nat) : Met l yX0_hasOtherDefault wq_X0_hasOtherDefault ({ frames := 2, cells := 0, slots := 0, locals := 52 }) (va_Pc [.ref (ad h0), va_rf (Option.map ad p0)] (PrC (dC, dI) ct ka ad st sz)) (va_Qi (fun r' (_ : Unit) => r' = r) (fun _ => CB (dC, dI) ct ka ad st' (aC ad st sz)) (aC ad st sz)) 0 0 (aC ad st sz) := by
  refine Met.ofW (cc := cX0_hasOtherDefault) (maxL := 2) (ret := (some .boolean)) (by decide) rfl ?_
  intro p e s m args below meth c s₁ B hml hv
  obtain ⟨rfl, hsz, hw0, hK, hN, hZ, hC, hR, hL, hw1, hw2⟩ := hv
  have hx := B.exec
  have hb := B.bytes
  have hr := B.returns
  have hts := atoms_spec (ws := wq_X0_hasOtherDefault) B.pre
  have hown : s.vm.findClass RX0 = some m.cls := findClass_of_methodNamed B.named
  have iRX0 : ∀ w ∈ u_ws RX0 TX0 7, w ∈ wq_X0_hasOtherDefault := fun w h => List.mem_cons_of_mem _ (List.mem_append_left _ (List.mem_append_right _ h))
  subst hsz
  have hp : Cp (dC, dI) ka ad ct (aC ad st s.heap.size) s.heap st s.heap [] := ⟨fun i a b => ⟨hw0 i a b, Or.inl ⟨i, a, b, rfl⟩⟩, va_S.rf, hw1, hw2⟩
  generalize hAe : aC ad st s.heap.size = A at hp hZ hC ⊢
  have hA : ∀ q : Nat, s.heap.size ≤ q → A q := fun q h => by rw [← hAe]; exact Or.inr h
  have hl := lv_entry ([.ref (ad h0), va_rf (Option.map ad p0)]) (n := 2) (by simp [lg_sl, rf_cat, vc_i, vc_l, vc_r, vc_n])
  rw [lg_entry_eq]
  generalize (lg_sl ([.ref (ad h0), va_rf (Option.map ad p0)]) ++ List.replicate (2 - (lg_sl ([.ref (ad h0), va_rf (Option.map ad p0)])).length) Slot.unset).toArray = ls at hl ⊢
  have hl : lv_has ls 2 [(0, .ref (ad h0)), (1, va_rf (Option.map ad p0))] := by simpa [lv_args, rf_cat, vc_i, vc_l, vc_r, vc_n] using hl
  unfold fX0_hasOtherDefault at hf
  refine lv_aload_n hx hb dX0_hasOtherDefault_0 rfl (lv_at hl 0 rfl) ?_
  obtain ⟨hk_1, hf⟩ := gd_some hf
  refine q_gj (ci := 2) (C := RX0) (T := TX0) (N := 7) (k := 6) hx hb hts iRX0 hown hK hp hk_1 (by decide) rfl rfl (by decide) rfl (Or.inl (hts (.fieldLink RX0 33 "RecordBench$Field" "value" "J") (by decide +kernel))) (fun _ h9 => h9) dX0_hasOtherDefault_1 ?_
  refine o_aload_n hx hb dX0_hasOtherDefault_4 rfl (lv_at hl 1 rfl) ?_
  obtain ⟨a_2, ha_3, hf⟩ := ono_some hf
  refine o_at ha_3 ?_
  obtain ⟨hk_4, hf⟩ := gd_some hf
  refine q_gj (ci := 2) (C := RX0) (T := TX0) (N := 7) (k := 6) hx hb hts iRX0 hown hK hp hk_4 (by decide) rfl rfl (by decide) rfl (Or.inl (hts (.fieldLink RX0 33 "RecordBench$Field" "value" "J") (by decide +kernel))) (fun _ h9 => h9) dX0_hasOtherDefault_5 ?_
  refine W.lcmp hx hb dX0_hasOtherDefault_8 ?_
  refine lv_if_ne (tgt := 26) hx hb dX0_hasOtherDefault_9 (by decide) (fun c_5 => ?_) (fun c_5 => ?_)
  · have hf := pif_f c_5 hf
    refine lv_iconst (v := 1) hx hb dX0_hasOtherDefault_26 (by decide) ?_
    refine lv_goto (tgt := 31) hx hb dX0_hasOtherDefault_27 (by decide) ?_
    obtain ⟨e1, e2⟩ := pr_some hf
    exact W.zret (v := 1) hx hb hr rfl (fun t ht hW => ⟨⟨1, (), rfl, e1, Cp.end e2 hp ht⟩, hp.2.1.F ht⟩) hp.2.1.2.2 dX0_hasOtherDefault_31
  · have hf := pif_t c_5 hf
    refine lv_aload_n hx hb dX0_hasOtherDefault_12 rfl (lv_at hl 0 rfl) ?_
    refine q_gp (ci := 2) (C := RX0) (T := TX0) (N := 7) (k := 5) hx hb hts iRX0 hown hK hp hk_1 (by decide) rfl rfl (by decide) rfl (Or.inl (hts (.fieldLink RX0 30 "RecordBench$Field" "text" "Ljava/lang/String;") (by decide +kernel))) (fun _ h9 => h9) dX0_hasOtherDefault_13 ?_
    refine o_aload_n hx hb dX0_hasOtherDefault_16 rfl (lv_at hl 1 rfl) ?_
    refine o_at ha_3 ?_
    refine q_gp (ci := 2) (C := RX0) (T := TX0) (N := 7) (k := 5) hx hb hts iRX0 hown hK hp hk_4 (by decide) rfl rfl (by decide) rfl (Or.inl (hts (.fieldLink RX0 30 "RecordBench$Field" "text" "Ljava/lang/String;") (by decide +kernel))) (fun _ h9 => h9) dX0_hasOtherDefault_17 ?_
    obtain ⟨a_6, ha_7, hf⟩ := ono_some hf
    refine o_at1 ha_7 ?_
    obtain ⟨hk_8, hf⟩ := gd_some hf
    obtain ⟨r_11, st_9, hc_10, hf⟩ := bnd_some hf
    refine q_ci hp hA (va_runV (As := [va_rf (Option.map ad (qP st a_2 5))]) (rest := []) ⟨hx, hb, hml, hown, hts⟩ (c_J0_equals_9ea2d l dC dI ka ad ct a_6 (qP st a_2 5) _ _ _ hc_10 _) (cwV 1 hts gq_X0_hasOtherDefault_J0_equals_9ea2d_55 rfl rfl rfl (by decide +kernel) ⟨Nat.le_of_ble_eq_true rfl, Nat.le_of_ble_eq_true rfl⟩) ⟨PrC.blind _, q_recv (ci := 0) hK hp hC hk_8 (by decide) rfl (fun _ => rfl), q_pre hp hK hN hZ hC hR hL hA⟩ rfl rfl hl.1 rfl (lv_room (Nat.le_of_ble_eq_true rfl)) dX0_hasOtherDefault_20 ⟨Nat.le_of_ble_eq_true rfl, Nat.le_of_ble_eq_true rfl⟩) (fun H locs hp => ?_)
    have hk_1 : qk st_9 h0 = 3 := by rw [(mo_J0_equals_9ea2d a_6 (qP st a_2 5) _ _ _ hc_10).2.2.1]; exact hk_1
    have hk_4 : qk st_9 a_2 = 3 := by rw [(mo_J0_equals_9ea2d a_6 (qP st a_2 5) _ _ _ hc_10).2.2.1]; exact hk_4
    have hk_8 : qk st_9 a_6 = 1 := by rw [(mo_J0_equals_9ea2d a_6 (qP st a_2 5) _ _ _ hc_10).2.2.1]; exact hk_8
    refine lv_if_ne (tgt := 30) hx hb dX0_hasOtherDefault_23 (by decide) (fun c_12 => ?_) (fun c_12 => ?_)
    · have hf := pif_f c_12 hf
      refine lv_iconst (v := 0) hx hb dX0_hasOtherDefault_30 (by decide) ?_
      obtain ⟨e1, e2⟩ := pr_some hf
      exact W.zret (v := 0) hx hb hr rfl (fun t ht hW => ⟨⟨0, (), rfl, e1, Cp.end e2 hp ht⟩, hp.2.1.F ht⟩) hp.2.1.2.2 dX0_hasOtherDefault_31
    · have hf := pif_t c_12 hf
      refine lv_iconst (v := 1) hx hb dX0_hasOtherDefault_26 (by decide) ?_
      refine lv_goto (tgt := 31) hx hb dX0_hasOtherDefault_27 (by decide) ?_
      obtain ⟨e1, e2⟩ := pr_some hf
      exact W.zret (v := 1) hx hb hr rfl (fun t ht hW => ⟨⟨1, (), rfl, e1, Cp.end e2 hp ht⟩, hp.2.1.F ht⟩) hp.2.1.2.2 dX0_hasOtherDefault_31
noncomputable def fX1_count (h0 : Nat) (st : CS) : Option (Int32 × CS) := gd (qk st h0 = 4) (some (qI st h0 1, st))
set_option maxHeartbeats 1000000 in
theorem mo_X1_count (h0 : Nat) (st : CS) (r : Int32) (st' : CS) (hf : fX1_count h0 st = some (r, st')) : Ke st st' := by
  unfold fX1_count at hf
  have hm : Ke st st := Ke.rf
  obtain ⟨hk_1, hf⟩ := gd_some hf
  obtain ⟨e1, e2⟩ := pr_some hf
  exact e2 ▸ hm
def wq_X1_count : List Cond := .code yX1_count cX1_count 1 (some .int) :: (([.fieldLink RX1 17 "RecordBench$Make" "count" "I"] : List Cond) ++ wsX10)
set_option maxHeartbeats 4000000 in
set_option maxRecDepth 100000 in
theorem c_X1_count (l : Launch) (dC : Nat → ClassId) (dI : Nat → Nat → Nat) (ka ad : Nat → Nat) (ct : Nat → ClassId) (h0 : Nat) (st st' : CS) (r : Int32) (hf : fX1_count h0 st = some (r, st')) (sz : Nat) : Met l yX1_count wq_X1_count ({ frames := 0, cells := 0, slots := 0, locals := 0 }) (va_Pc [.ref (ad h0)] (PrC (dC, dI) ct ka ad st sz)) (va_Qi (fun r' (_ : Unit) => r' = r) (fun _ => CB (dC, dI) ct ka ad st' (aC ad st sz)) (aC ad st sz)) 0 0 (aC ad st sz) := by
  refine Met.ofW (cc := cX1_count) (maxL := 1) (ret := (some .int)) (by decide) rfl ?_
  intro p e s m args below meth c s₁ B hml hv
  obtain ⟨rfl, hsz, hw0, hK, hN, hZ, hC, hR, hL, hw1, hw2⟩ := hv
  have hx := B.exec
  have hb := B.bytes
  have hr := B.returns
  have hts := atoms_spec (ws := wq_X1_count) B.pre
  have hown : s.vm.findClass RX1 = some m.cls := findClass_of_methodNamed B.named
  have iRX1 : ∀ w ∈ u_ws RX1 TX1 2, w ∈ wq_X1_count := fun w h => List.mem_cons_of_mem _ (List.mem_append_right _ h)
  subst hsz
  have hp : Cp (dC, dI) ka ad ct (aC ad st s.heap.size) s.heap st s.heap [] := ⟨fun i a b => ⟨hw0 i a b, Or.inl ⟨i, a, b, rfl⟩⟩, va_S.rf, hw1, hw2⟩
  generalize hAe : aC ad st s.heap.size = A at hp hZ hC ⊢
  have hA : ∀ q : Nat, s.heap.size ≤ q → A q := fun q h => by rw [← hAe]; exact Or.inr h
  have hl := lv_entry ([.ref (ad h0)]) (n := 1) (Nat.le_of_ble_eq_true rfl)
  rw [lg_entry_eq]
  generalize (lg_sl ([.ref (ad h0)]) ++ List.replicate (1 - (lg_sl ([.ref (ad h0)])).length) Slot.unset).toArray = ls at hl ⊢
  have hl : lv_has ls 1 [(0, .ref (ad h0))] := hl
  unfold fX1_count at hf
  refine lv_aload_n hx hb dX1_count_0 rfl (lv_at hl 0 rfl) ?_
  obtain ⟨hk_1, hf⟩ := gd_some hf
  refine q_gi (ci := 3) (C := RX1) (T := TX1) (N := 2) (k := 1) hx hb hts iRX1 hown hK hp hk_1 (by decide) rfl rfl (by decide) rfl (Or.inl (hts (.fieldLink RX1 17 "RecordBench$Make" "count" "I") (by decide +kernel))) (fun _ h9 => h9) dX1_count_1 ?_
  obtain ⟨e1, e2⟩ := pr_some hf
  exact W.iret (v := qI st h0 1) hx hb hr (fun t ht hW => ⟨⟨qI st h0 1, (), rfl, e1, Cp.end e2 hp ht⟩, hp.2.1.F ht⟩) hp.2.1.2.2 dX1_count_4
noncomputable def fX1_fieldAt (h0 : Nat) (p0 : Int32) (st : CS) : Option (Option Nat × CS) := pif (p0 < 0) (some (none, st)) (gd (qk st h0 = 4) (ono (qP st h0 0) (fun a_3 => gd (qk st a_3 = 26) (pif ((nI (ql st a_3)) ≤ p0) (some (none, st)) (gd (vp_in p0 (ql st a_3)) (some (qP st a_3 p0.toNatClampNeg, st)))))))
set_option maxHeartbeats 1000000 in
theorem mo_X1_fieldAt (h0 : Nat) (p0 : Int32) (st : CS) (r : Option Nat) (st' : CS) (hf : fX1_fieldAt h0 p0 st = some (r, st')) : Ke st st' := by
  unfold fX1_fieldAt at hf
  have hm : Ke st st := Ke.rf
  rcases pif_or hf with ⟨c_1, hf⟩ | ⟨c_1, hf⟩
  · obtain ⟨e1, e2⟩ := pr_some hf
    exact e2 ▸ hm
  · obtain ⟨hk_2, hf⟩ := gd_some hf
    obtain ⟨a_3, ha_4, hf⟩ := ono_some hf
    obtain ⟨hk_5, hf⟩ := gd_some hf
    rcases pif_or hf with ⟨c_6, hf⟩ | ⟨c_6, hf⟩
    · obtain ⟨e1, e2⟩ := pr_some hf
      exact e2 ▸ hm
    · obtain ⟨g_7, hf⟩ := gd_some hf
      obtain ⟨e1, e2⟩ := pr_some hf
      exact e2 ▸ hm
def wq_X1_fieldAt : List Cond := .code yX1_fieldAt cX1_fieldAt 2 (some (.object "RecordBench$Field")) :: (([.fieldLink RX1 11 "RecordBench$Make" "fields" "[LRecordBench$Field;"] : List Cond) ++ wsX10)
set_option maxHeartbeats 4000000 in
set_option maxRecDepth 100000 in
theorem c_X1_fieldAt (l : Launch) (dC : Nat → ClassId) (dI : Nat → Nat → Nat) (ka ad : Nat → Nat) (ct : Nat → ClassId) (h0 : Nat) (p0 : Int32) (st st' : CS) (r : Option Nat) (hf : fX1_fieldAt h0 p0 st = some (r, st')) (sz : Nat) : Met l yX1_fieldAt wq_X1_fieldAt ({ frames := 0, cells := 0, slots := 0, locals := 0 }) (va_Pc [.ref (ad h0), .int p0] (PrC (dC, dI) ct ka ad st sz)) (va_Qq (fun r' (_ : Unit) => r' = Option.map ad r) (fun _ => CB (dC, dI) ct ka ad st' (aC ad st sz)) (aC ad st sz)) 0 0 (aC ad st sz) := by
  refine Met.ofW (cc := cX1_fieldAt) (maxL := 2) (ret := (some (.object "RecordBench$Field"))) (by decide) rfl ?_
  intro p e s m args below meth c s₁ B hml hv
  obtain ⟨rfl, hsz, hw0, hK, hN, hZ, hC, hR, hL, hw1, hw2⟩ := hv
  have hx := B.exec
  have hb := B.bytes
  have hr := B.returns
  have hts := atoms_spec (ws := wq_X1_fieldAt) B.pre
  have hown : s.vm.findClass RX1 = some m.cls := findClass_of_methodNamed B.named
  have iRX1 : ∀ w ∈ u_ws RX1 TX1 2, w ∈ wq_X1_fieldAt := fun w h => List.mem_cons_of_mem _ (List.mem_append_right _ h)
  subst hsz
  have hp : Cp (dC, dI) ka ad ct (aC ad st s.heap.size) s.heap st s.heap [] := ⟨fun i a b => ⟨hw0 i a b, Or.inl ⟨i, a, b, rfl⟩⟩, va_S.rf, hw1, hw2⟩
  generalize hAe : aC ad st s.heap.size = A at hp hZ hC ⊢
  have hA : ∀ q : Nat, s.heap.size ≤ q → A q := fun q h => by rw [← hAe]; exact Or.inr h
  have hl := lv_entry ([.ref (ad h0), .int p0]) (n := 2) (Nat.le_of_ble_eq_true rfl)
  rw [lg_entry_eq]
  generalize (lg_sl ([.ref (ad h0), .int p0]) ++ List.replicate (2 - (lg_sl ([.ref (ad h0), .int p0])).length) Slot.unset).toArray = ls at hl ⊢
  have hl : lv_has ls 2 [(0, .ref (ad h0)), (1, .int p0)] := hl
  unfold fX1_fieldAt at hf
  refine lv_iload_n hx hb dX1_fieldAt_0 rfl (lv_at hl 1 rfl) ?_
  refine lv_if_lt (tgt := 22) hx hb dX1_fieldAt_1 (by decide) (fun c_1 => ?_) (fun c_1 => ?_)
  · have hf := pif_t c_1 hf
    refine lv_null hx hb dX1_fieldAt_22 ?_
    obtain ⟨e1, e2⟩ := pr_some hf
    exact W.aret (v := va_rf (Option.map ad none)) hx hb hr (Or.inl ⟨_, rfl⟩) (rf_or _) (fun t ht hW => ⟨⟨Option.map ad none, (), rfl, by rw [e1], Cp.end e2 hp ht⟩, hp.2.1.F ht⟩) hp.2.1.2.2 dX1_fieldAt_23
  · have hf := pif_f c_1 hf
    refine lv_iload_n hx hb dX1_fieldAt_4 rfl (lv_at hl 1 rfl) ?_
    refine lv_aload_n hx hb dX1_fieldAt_5 rfl (lv_at hl 0 rfl) ?_
    obtain ⟨hk_2, hf⟩ := gd_some hf
    refine q_gp (ci := 3) (C := RX1) (T := TX1) (N := 2) (k := 0) hx hb hts iRX1 hown hK hp hk_2 (by decide) rfl rfl (by decide) rfl (Or.inl (hts (.fieldLink RX1 11 "RecordBench$Make" "fields" "[LRecordBench$Field;") (by decide +kernel))) (fun _ h9 => h9) dX1_fieldAt_6 ?_
    obtain ⟨a_3, ha_4, hf⟩ := ono_some hf
    refine o_at ha_4 ?_
    obtain ⟨hk_5, hf⟩ := gd_some hf
    refine q_len (t0 := 5) hx hb hK hp (hp.2.2.1.ge hk_5 (by decide) (by decide) (by decide)) hk_5 (by decide) rfl dX1_fieldAt_9 ?_
    refine lv_icmp_ge (tgt := 22) hx hb dX1_fieldAt_10 (by decide) (fun c_6 => ?_) (fun c_6 => ?_)
    · have hf := pif_t c_6 hf
      refine lv_null hx hb dX1_fieldAt_22 ?_
      obtain ⟨e1, e2⟩ := pr_some hf
      exact W.aret (v := va_rf (Option.map ad none)) hx hb hr (Or.inl ⟨_, rfl⟩) (rf_or _) (fun t ht hW => ⟨⟨Option.map ad none, (), rfl, by rw [e1], Cp.end e2 hp ht⟩, hp.2.1.F ht⟩) hp.2.1.2.2 dX1_fieldAt_23
    · have hf := pif_f c_6 hf
      refine lv_aload_n hx hb dX1_fieldAt_13 rfl (lv_at hl 0 rfl) ?_
      refine q_gp (ci := 3) (C := RX1) (T := TX1) (N := 2) (k := 0) hx hb hts iRX1 hown hK hp hk_2 (by decide) rfl rfl (by decide) rfl (Or.inl (hts (.fieldLink RX1 11 "RecordBench$Make" "fields" "[LRecordBench$Field;") (by decide +kernel))) (fun _ h9 => h9) dX1_fieldAt_14 ?_
      refine lv_iload_n hx hb dX1_fieldAt_17 rfl (lv_at hl 1 rfl) ?_
      refine o_at1 ha_4 ?_
      obtain ⟨g_7, hf⟩ := gd_some hf
      refine q_aq (t0 := 5) hx hb hK hp hk_5 (by decide) rfl g_7 dX1_fieldAt_18 ?_
      refine lv_goto (tgt := 23) hx hb dX1_fieldAt_19 (by decide) ?_
      obtain ⟨e1, e2⟩ := pr_some hf
      exact W.aret (v := va_rf (Option.map ad (qP st a_3 p0.toNatClampNeg))) hx hb hr (Or.inl ⟨_, rfl⟩) (rf_or _) (fun t ht hW => ⟨⟨Option.map ad (qP st a_3 p0.toNatClampNeg), (), rfl, by rw [e1], Cp.end e2 hp ht⟩, hp.2.1.F ht⟩) hp.2.1.2.2 dX1_fieldAt_23
noncomputable def fX1_knownAt (h0 : Nat) (p0 : Int32) (st : CS) : Option (Option Nat × CS) := gd (qk st h0 = 4) (bnd (fX1_fieldAt h0 p0 st) (fun r_4 st_2 => pif (r_4 = none) (some (none, st_2)) (ono r_4 (fun a_6 => gd (qk st_2 a_6 = 3) (pif ((qI st_2 a_6 1) = 0) (some (none, st_2)) (some (r_4, st_2)))))))
set_option maxHeartbeats 1000000 in
theorem mo_X1_knownAt (h0 : Nat) (p0 : Int32) (st : CS) (r : Option Nat) (st' : CS) (hf : fX1_knownAt h0 p0 st = some (r, st')) : Ke st st' := by
  unfold fX1_knownAt at hf
  have hm : Ke st st := Ke.rf
  obtain ⟨hk_1, hf⟩ := gd_some hf
  obtain ⟨r_4, st_2, hc_3, hf⟩ := bnd_some hf
  have hm := hm.tr (mo_X1_fieldAt h0 p0 _ _ _ hc_3)
  rcases pif_or hf with ⟨c_5, hf⟩ | ⟨c_5, hf⟩
  · obtain ⟨e1, e2⟩ := pr_some hf
    exact e2 ▸ hm
  · obtain ⟨a_6, ha_7, hf⟩ := ono_some hf
    obtain ⟨hk_8, hf⟩ := gd_some hf
    rcases pif_or hf with ⟨c_9, hf⟩ | ⟨c_9, hf⟩
    · obtain ⟨e1, e2⟩ := pr_some hf
      exact e2 ▸ hm
    · obtain ⟨e1, e2⟩ := pr_some hf
      exact e2 ▸ hm
def wq_X1_knownAt : List Cond := .code yX1_knownAt cX1_knownAt 3 (some (.object "RecordBench$Field")) :: (([.methodLink RX1 21 yX1_fieldAt, .instanceMethod yX1_fieldAt, .selects RX1 yX1_fieldAt yX1_fieldAt, .initialized RX1, .code yX1_fieldAt cX1_fieldAt 2 (some (.object "RecordBench$Field")), .fieldLink RX1 11 "RecordBench$Make" "fields" "[LRecordBench$Field;"] : List Cond) ++ wsX00 ++ wsX10)
theorem gs_wq_X1_knownAt_wsX10 : GoodIn wq_X1_knownAt wsX10 := fun w h => ⟨List.mem_cons_of_mem _ (List.mem_append_right _ h), (gt_wsX10 w h).2⟩
set_option maxRecDepth 20000 in
theorem gq_X1_knownAt_X1_fieldAt_21 : GoodIn wq_X1_knownAt (wsV RX1 21 RX1 yX1_fieldAt wq_X1_fieldAt) := goodIn_app (goodIn_r _ [1, 2, 3, 4] rfl rfl) (goodIn_ca (goodIn_r _ [5, 6] rfl rfl) gs_wq_X1_knownAt_wsX10)
set_option maxHeartbeats 4000000 in
set_option maxRecDepth 100000 in
theorem c_X1_knownAt (l : Launch) (dC : Nat → ClassId) (dI : Nat → Nat → Nat) (ka ad : Nat → Nat) (ct : Nat → ClassId) (h0 : Nat) (p0 : Int32) (st st' : CS) (r : Option Nat) (hf : fX1_knownAt h0 p0 st = some (r, st')) (sz : Nat) : Met l yX1_knownAt wq_X1_knownAt ({ frames := 1, cells := 0, slots := 0, locals := 25 }) (va_Pc [.ref (ad h0), .int p0] (PrC (dC, dI) ct ka ad st sz)) (va_Qq (fun r' (_ : Unit) => r' = Option.map ad r) (fun _ => CB (dC, dI) ct ka ad st' (aC ad st sz)) (aC ad st sz)) 0 0 (aC ad st sz) := by
  refine Met.ofW (cc := cX1_knownAt) (maxL := 3) (ret := (some (.object "RecordBench$Field"))) (by decide) rfl ?_
  intro p e s m args below meth c s₁ B hml hv
  obtain ⟨rfl, hsz, hw0, hK, hN, hZ, hC, hR, hL, hw1, hw2⟩ := hv
  have hx := B.exec
  have hb := B.bytes
  have hr := B.returns
  have hts := atoms_spec (ws := wq_X1_knownAt) B.pre
  have hown : s.vm.findClass RX1 = some m.cls := findClass_of_methodNamed B.named
  have iRX0 : ∀ w ∈ u_ws RX0 TX0 7, w ∈ wq_X1_knownAt := fun w h => List.mem_cons_of_mem _ (List.mem_append_left _ (List.mem_append_right _ h))
  subst hsz
  have hp : Cp (dC, dI) ka ad ct (aC ad st s.heap.size) s.heap st s.heap [] := ⟨fun i a b => ⟨hw0 i a b, Or.inl ⟨i, a, b, rfl⟩⟩, va_S.rf, hw1, hw2⟩
  generalize hAe : aC ad st s.heap.size = A at hp hZ hC ⊢
  have hA : ∀ q : Nat, s.heap.size ≤ q → A q := fun q h => by rw [← hAe]; exact Or.inr h
  have hl := lv_entry ([.ref (ad h0), .int p0]) (n := 3) (Nat.le_of_ble_eq_true rfl)
  rw [lg_entry_eq]
  generalize (lg_sl ([.ref (ad h0), .int p0]) ++ List.replicate (3 - (lg_sl ([.ref (ad h0), .int p0])).length) Slot.unset).toArray = ls at hl ⊢
  have hl : lv_has ls 3 [(0, .ref (ad h0)), (1, .int p0)] := hl
  unfold fX1_knownAt at hf
  refine lv_aload_n hx hb dX1_knownAt_0 rfl (lv_at hl 0 rfl) ?_
  refine lv_iload_n hx hb dX1_knownAt_1 rfl (lv_at hl 1 rfl) ?_
  obtain ⟨hk_1, hf⟩ := gd_some hf
  obtain ⟨r_4, st_2, hc_3, hf⟩ := bnd_some hf
  refine q_cq hp hA (va_runV (As := [.int p0]) (rest := []) ⟨hx, hb, hml, hown, hts⟩ (c_X1_fieldAt l dC dI ka ad ct h0 p0 _ _ _ hc_3 _) (cwV 1 hts gq_X1_knownAt_X1_fieldAt_21 rfl rfl rfl (by decide +kernel) ⟨Nat.le_of_ble_eq_true rfl, Nat.le_of_ble_eq_true rfl⟩) ⟨PrC.blind _, q_rv3 hK hp hC hk_1, q_pre hp hK hN hZ hC hR hL hA⟩ rfl rfl hl.1 rfl (lv_room (Nat.le_of_ble_eq_true rfl)) dX1_knownAt_2 ⟨Nat.le_of_ble_eq_true rfl, Nat.le_of_ble_eq_true rfl⟩) (fun H locs hp => ?_)
  have hk_1 : qk st_2 h0 = 4 := by rw [(mo_X1_fieldAt h0 p0 _ _ _ hc_3).2.2.1]; exact hk_1
  refine o_astore_n (i := 2) (lv' := [(2, va_rf (Option.map ad r_4)), (0, .ref (ad h0)), (1, .int p0)]) hx hb dX1_knownAt_5 rfl hl (by decide) rfl (fun ls hl => ?_)
  refine o_aload_n hx hb dX1_knownAt_6 rfl (lv_at hl 0 rfl) ?_
  refine o_ifnull (tgt := 21) hx hb dX1_knownAt_7 (by decide) (fun c_5 => ?_) (fun c_5 => ?_)
  · have hf := pif_t c_5 hf
    refine lv_null hx hb dX1_knownAt_21 ?_
    obtain ⟨e1, e2⟩ := pr_some hf
    exact W.aret (v := va_rf (Option.map ad none)) hx hb hr (Or.inl ⟨_, rfl⟩) (rf_or _) (fun t ht hW => ⟨⟨Option.map ad none, (), rfl, by rw [e1], Cp.end e2 hp ht⟩, hp.2.1.F ht⟩) hp.2.1.2.2 dX1_knownAt_22
  · have hf := pif_f c_5 hf
    refine o_aload_n hx hb dX1_knownAt_10 rfl (lv_at hl 0 rfl) ?_
    obtain ⟨a_6, ha_7, hf⟩ := ono_some hf
    refine o_at ha_7 ?_
    obtain ⟨hk_8, hf⟩ := gd_some hf
    refine q_gi (ci := 2) (C := RX0) (T := TX0) (N := 7) (k := 1) hx hb hts iRX0 hown hK hp hk_8 (by decide) rfl rfl (by decide) rfl (Or.inr ⟨_, va_Nw.use rfl (hN.1 (.fieldLinkNest RX1 25 "RecordBench$Field" "kind" "I" "RecordBench") (by decide +kernel))⟩) (fun _ h9 => h9) dX1_knownAt_11 ?_
    refine lv_if_eq (tgt := 21) hx hb dX1_knownAt_14 (by decide) (fun c_9 => ?_) (fun c_9 => ?_)
    · have hf := pif_t c_9 hf
      refine lv_null hx hb dX1_knownAt_21 ?_
      obtain ⟨e1, e2⟩ := pr_some hf
      exact W.aret (v := va_rf (Option.map ad none)) hx hb hr (Or.inl ⟨_, rfl⟩) (rf_or _) (fun t ht hW => ⟨⟨Option.map ad none, (), rfl, by rw [e1], Cp.end e2 hp ht⟩, hp.2.1.F ht⟩) hp.2.1.2.2 dX1_knownAt_22
    · have hf := pif_f c_9 hf
      refine o_aload_n hx hb dX1_knownAt_17 rfl (lv_at hl 0 rfl) ?_
      refine lv_goto (tgt := 22) hx hb dX1_knownAt_18 (by decide) ?_
      obtain ⟨e1, e2⟩ := pr_some hf
      exact W.aret (v := va_rf (Option.map ad r_4)) hx hb hr (Or.inl ⟨_, rfl⟩) (rf_or _) (fun t ht hW => ⟨⟨Option.map ad r_4, (), rfl, by rw [e1], Cp.end e2 hp ht⟩, hp.2.1.F ht⟩) hp.2.1.2.2 dX1_knownAt_22
noncomputable def fX5_pushKey_22 (h0 : Nat)  (s0 : Int32) (s1 : Int64) (gs : CS) : Option (CS) := gd (qk gs h0 = 8) (bnv (fX5_pushVarint h0 (s1 + s0.toInt64) gs) (fun st_2 => some st_2))
set_option maxHeartbeats 1000000 in
theorem mo_X5_pushKey_22 (h0 : Nat)   (s0 : Int32) (s1 : Int64) (gs : CS) (st' : CS) (hf : fX5_pushKey_22 h0 s0 s1 gs = some st') : Ke gs st' := by
  unfold fX5_pushKey_22 at hf
  have hm : Ke gs gs := Ke.rf
  obtain ⟨hk_1, hf⟩ := gd_some hf
  obtain ⟨st_2, hc_3, hf⟩ := bnv_some hf
  have hm := hm.tr (mo_X5_pushVarint h0 (s1 + s0.toInt64) _ _ hc_3)
  have e2 := Option.some.inj hf
  exact e2 ▸ hm
noncomputable def fX5_pushKey (h0 : Nat) (p0 : Option Nat) (st : CS) : Option (CS) := ono p0 (fun a_5 => gd (qk st a_5 = 3) (bnd (fX0_hasLength a_5 st) (fun r_10 st_8 => pif (r_10 = 0) (fX5_pushKey_22 h0 0 (2 * ((qI st a_5 0).toInt64)) st_8) (fX5_pushKey_22 h0 1 (2 * ((qI st a_5 0).toInt64)) st_8))))
set_option maxHeartbeats 1000000 in
theorem mo_X5_pushKey (h0 : Nat) (p0 : Option Nat) (st : CS) (st' : CS) (hf : fX5_pushKey h0 p0 st = some st') : Ke st st' := by
  unfold fX5_pushKey at hf
  have hm : Ke st st := Ke.rf
  obtain ⟨a_5, ha_6, hf⟩ := ono_some hf
  obtain ⟨hk_7, hf⟩ := gd_some hf
  obtain ⟨r_10, st_8, hc_9, hf⟩ := bnd_some hf
  have hm := hm.tr (mo_X0_hasLength a_5 _ _ _ hc_9)
  rcases pif_or hf with ⟨c_11, hf⟩ | ⟨c_11, hf⟩
  · exact hm.tr (mo_X5_pushKey_22 h0 0 (2 * ((qI st a_5 0).toInt64)) st_8 _ hf)
  · exact hm.tr (mo_X5_pushKey_22 h0 1 (2 * ((qI st a_5 0).toInt64)) st_8 _ hf)
def wq_X5_pushKey : List Cond := .code yX5_pushKey cX5_pushKey 2 none :: (([.constantLong RX5 37 (2), .methodLink RX5 33 yX5_pushVarint, .instanceMethod yX5_pushVarint, .selects RX5 yX5_pushVarint yX5_pushVarint, .initialized RX5, .methodLink RX5 44 yX0_hasLength, .instanceMethod yX0_hasLength, .selects RX0 yX0_hasLength yX0_hasLength, .initialized RX0, .code yX5_pushVarint cX5_pushVarint 6 none, .constantLong RX5 29 (-128), .constantLong RX5 31 (127), .methodLink RX5 25 yX5_push, .instanceMethod yX5_push, .selects RX5 yX5_push yX5_push, .code yX5_push cX5_push 2 none, .fieldLink RX5 21 "RecordBench$Row" "size" "I", .fieldLink RX5 15 "RecordBench$Row" "bytes" "[I", .code yX0_hasLength cX0_hasLength 1 (some .boolean), .fieldLink RX0 15 "RecordBench$Field" "kind" "I"] : List Cond) ++ wsX00 ++ wsX50)
theorem gs_wq_X5_pushKey_wsX50 : GoodIn wq_X5_pushKey wsX50 := fun w h => ⟨List.mem_cons_of_mem _ (List.mem_append_right _ h), (gt_wsX50 w h).2⟩
set_option maxRecDepth 20000 in
theorem gq_X5_pushKey_X5_pushVarint_33 : GoodIn wq_X5_pushKey (wsV RX5 33 RX5 yX5_pushVarint wq_X5_pushVarint) := goodIn_app (goodIn_r _ [2, 3, 4, 5] rfl rfl) (goodIn_ca (goodIn_r _ [10, 11, 12, 13, 14, 15, 5, 16, 17, 18] rfl rfl) gs_wq_X5_pushKey_wsX50)
theorem gs_wq_X5_pushKey_wsX00 : GoodIn wq_X5_pushKey wsX00 := fun w h => ⟨List.mem_cons_of_mem _ (List.mem_append_left _ (List.mem_append_right _ h)), (gt_wsX00 w h).2⟩
set_option maxRecDepth 20000 in
theorem gq_X5_pushKey_X0_hasLength_44 : GoodIn wq_X5_pushKey (wsV RX5 44 RX0 yX0_hasLength wq_X0_hasLength) := goodIn_app (goodIn_r _ [6, 7, 8, 9] rfl rfl) (goodIn_ca (goodIn_r _ [19, 20] rfl rfl) gs_wq_X5_pushKey_wsX00)
set_option maxHeartbeats 4000000 in
set_option maxRecDepth 100000 in
theorem c_X5_pushKey (l : Launch) (dC : Nat → ClassId) (dI : Nat → Nat → Nat) (ka ad : Nat → Nat) (ct : Nat → ClassId) (h0 : Nat) (p0 : Option Nat) (st st' : CS) (hf : fX5_pushKey h0 p0 st = some st') (sz : Nat) : Met l yX5_pushKey wq_X5_pushKey ({ frames := 2, cells := 0, slots := 0, locals := 54 }) (va_Pc [.ref (ad h0), va_rf (Option.map ad p0)] (PrC (dC, dI) ct ka ad st sz)) (va_Qv (fun (_ : Unit) => True) (fun _ => CB (dC, dI) ct ka ad st' (aC ad st sz)) (aC ad st sz)) 0 0 (aC ad st sz) := by
  refine Met.ofW (cc := cX5_pushKey) (maxL := 2) (ret := none) (by decide) rfl ?_
  intro p e s m args below meth c s₁ B hml hv
  obtain ⟨rfl, hsz, hw0, hK, hN, hZ, hC, hR, hL, hw1, hw2⟩ := hv
  have hx := B.exec
  have hb := B.bytes
  have hr := B.returns
  have hts := atoms_spec (ws := wq_X5_pushKey) B.pre
  have hown : s.vm.findClass RX5 = some m.cls := findClass_of_methodNamed B.named
  have iRX0 : ∀ w ∈ u_ws RX0 TX0 7, w ∈ wq_X5_pushKey := fun w h => List.mem_cons_of_mem _ (List.mem_append_left _ (List.mem_append_right _ h))
  subst hsz
  have hp : Cp (dC, dI) ka ad ct (aC ad st s.heap.size) s.heap st s.heap [] := ⟨fun i a b => ⟨hw0 i a b, Or.inl ⟨i, a, b, rfl⟩⟩, va_S.rf, hw1, hw2⟩
  generalize hAe : aC ad st s.heap.size = A at hp hZ hC ⊢
  have hA : ∀ q : Nat, s.heap.size ≤ q → A q := fun q h => by rw [← hAe]; exact Or.inr h
  have hl := lv_entry ([.ref (ad h0), va_rf (Option.map ad p0)]) (n := 2) (by simp [lg_sl, rf_cat, vc_i, vc_l, vc_r, vc_n])
  rw [lg_entry_eq]
  generalize (lg_sl ([.ref (ad h0), va_rf (Option.map ad p0)]) ++ List.replicate (2 - (lg_sl ([.ref (ad h0), va_rf (Option.map ad p0)])).length) Slot.unset).toArray = ls at hl ⊢
  have hl : lv_has ls 2 [(0, .ref (ad h0)), (1, va_rf (Option.map ad p0))] := by simpa [lv_args, rf_cat, vc_i, vc_l, vc_r, vc_n] using hl
  refine W_blk (fun (u : Int32 × Int64 × CS) H locs ls => match u with | (s0, s1, gs) => fX5_pushKey_22 h0 s0 s1 gs = some st' ∧ Cp (dC, dI) ka ad ct A s.heap gs H locs ∧ lv_has ls 2 []) (fun (u : Int32 × Int64 × CS) ls => match u with | (s0, s1, gs) => F0 m 22 ls [.int s0, .long s1, .ref (ad h0)]) ?_ (fun J22 => ?_)
  · intro u H locs ls hu
    obtain ⟨s0, s1, gs⟩ := u
    obtain ⟨hf, hp, hl⟩ := hu
    show W p l e _ s m _ below meth c _ _ _ _ _ (F0 m 22 ls [.int s0, .long s1, .ref (ad h0)])
    unfold fX5_pushKey_22 at hf
    refine lv_i2l (v := s0.toInt64) hx hb dX5_pushKey_22 rfl ?_
    refine lv_ladd hx hb dX5_pushKey_23 ?_
    obtain ⟨hk_1, hf⟩ := gd_some hf
    obtain ⟨st_2, hc_3, hf⟩ := bnv_some hf
    refine q_cv hp hA (va_runV (As := [.long (s1 + s0.toInt64)]) (rest := []) ⟨hx, hb, hml, hown, hts⟩ (c_X5_pushVarint l dC dI ka ad ct h0 (s1 + s0.toInt64) _ _ hc_3 _) (cwV 1 hts gq_X5_pushKey_X5_pushVarint_33 rfl rfl rfl (by decide +kernel) ⟨Nat.le_of_ble_eq_true rfl, Nat.le_of_ble_eq_true rfl⟩) ⟨PrC.blind _, q_rv7 hK hp hC hk_1, q_pre hp hK hN hZ hC hR hL hA⟩ rfl rfl hl.1 rfl (lv_room (Nat.le_of_ble_eq_true rfl)) dX5_pushKey_24 ⟨Nat.le_of_ble_eq_true rfl, Nat.le_of_ble_eq_true rfl⟩) (fun H locs hp => ?_)
    have hk_1 : qk st_2 h0 = 8 := by rw [(mo_X5_pushVarint h0 (s1 + s0.toInt64) _ _ hc_3).2.2.1]; exact hk_1
    have e2 := Option.some.inj hf
    exact W.vret hx hb hr (fun t ht hW => ⟨⟨(), rfl, trivial, Cp.end e2 hp ht⟩, hp.2.1.F ht⟩) hp.2.1.2.2 dX5_pushKey_27
  unfold fX5_pushKey at hf
  refine lv_aload_n hx hb dX5_pushKey_0 rfl (lv_at hl 0 rfl) ?_
  refine lv_ldc2 hx hb hown (hts (.constantLong RX5 37 (2)) (by decide +kernel)) dX5_pushKey_1 ?_
  refine o_aload_n hx hb dX5_pushKey_4 rfl (lv_at hl 1 rfl) ?_
  obtain ⟨a_5, ha_6, hf⟩ := ono_some hf
  refine o_at ha_6 ?_
  obtain ⟨hk_7, hf⟩ := gd_some hf
  refine q_gi (ci := 2) (C := RX0) (T := TX0) (N := 7) (k := 0) hx hb hts iRX0 hown hK hp hk_7 (by decide) rfl rfl (by decide) rfl (Or.inr ⟨_, va_Nw.use rfl (hN.1 (.fieldLinkNest RX5 39 "RecordBench$Field" "number" "I" "RecordBench") (by decide +kernel))⟩) (fun _ h9 => h9) dX5_pushKey_5 ?_
  refine lv_i2l (v := (qI st a_5 0).toInt64) hx hb dX5_pushKey_8 rfl ?_
  refine lv_lmul hx hb dX5_pushKey_9 ?_
  refine o_aload_n hx hb dX5_pushKey_10 rfl (lv_at hl 1 rfl) ?_
  refine o_at ha_6 ?_
  obtain ⟨r_10, st_8, hc_9, hf⟩ := bnd_some hf
  refine q_ci hp hA (va_runV (As := []) (rest := [.long (2 * ((qI st a_5 0).toInt64)), .ref (ad h0)]) ⟨hx, hb, hml, hown, hts⟩ (c_X0_hasLength l dC dI ka ad ct a_5 _ _ _ hc_9 _) (cwV 0 hts gq_X5_pushKey_X0_hasLength_44 rfl rfl rfl (by decide +kernel) ⟨Nat.le_of_ble_eq_true rfl, Nat.le_of_ble_eq_true rfl⟩) ⟨PrC.blind _, q_rv2 hK hp hC hk_7, q_pre hp hK hN hZ hC hR hL hA⟩ rfl rfl hl.1 rfl (lv_room (Nat.le_of_ble_eq_true rfl)) dX5_pushKey_11 ⟨Nat.le_of_ble_eq_true rfl, Nat.le_of_ble_eq_true rfl⟩) (fun H locs hp => ?_)
  have hk_7 : qk st_8 a_5 = 3 := by rw [(mo_X0_hasLength a_5 _ _ _ hc_9).2.2.1]; exact hk_7
  refine lv_if_eq (tgt := 21) hx hb dX5_pushKey_14 (by decide) (fun c_11 => ?_) (fun c_11 => ?_)
  · have hf := pif_t c_11 hf
    refine lv_iconst (v := 0) hx hb dX5_pushKey_21 (by decide) ?_
    exact J22 (0, (2 * ((qI st a_5 0).toInt64)), st_8) _ _ _ ⟨hf, hp, (lv_sub hl [] rfl)⟩
  · have hf := pif_f c_11 hf
    refine lv_iconst (v := 1) hx hb dX5_pushKey_17 (by decide) ?_
    refine lv_goto (tgt := 22) hx hb dX5_pushKey_18 (by decide) ?_
    exact J22 (1, (2 * ((qI st a_5 0).toInt64)), st_8) _ _ _ ⟨hf, hp, (lv_sub hl [] rfl)⟩
