theorem dX5_append_0 : decode cX5_append 0 = .ok (.iload_n 2, 1) := by decide +kernel
theorem dX5_append_1 : decode cX5_append 1 = .ok (.istore 4, 2) := by decide +kernel
theorem dX5_append_10 : decode cX5_append 10 = .ok (.aload_n 1, 1) := by decide +kernel
theorem dX5_append_11 : decode cX5_append 11 = .ok (.iload 4, 2) := by decide +kernel
theorem dX5_append_13 : decode cX5_append 13 = .ok (.invokevirtual 48, 3) := by decide +kernel
theorem dX5_append_16 : decode cX5_append 16 = .ok (.invokevirtual 25, 3) := by decide +kernel
theorem dX5_append_19 : decode cX5_append 19 = .ok (.iinc 4 1, 3) := by decide +kernel
theorem dX5_append_22 : decode cX5_append 22 = .ok (.goto (-19), 3) := by decide +kernel
theorem dX5_append_25 : decode cX5_append 25 = .ok (.return_, 1) := by decide +kernel
theorem dX5_append_3 : decode cX5_append 3 = .ok (.iload 4, 2) := by decide +kernel
theorem dX5_append_5 : decode cX5_append 5 = .ok (.iload_n 3, 1) := by decide +kernel
theorem dX5_append_6 : decode cX5_append 6 = .ok (.if_icmp .ge 19, 3) := by decide +kernel
theorem dX5_append_9 : decode cX5_append 9 = .ok (.aload_n 0, 1) := by decide +kernel
theorem dX5_become_0 : decode cX5_become 0 = .ok (.iconst 0, 1) := by decide +kernel
theorem dX5_become_1 : decode cX5_become 1 = .ok (.istore 4, 2) := by decide +kernel
theorem dX5_become_12 : decode cX5_become 12 = .ok (.iload 4, 2) := by decide +kernel
theorem dX5_become_14 : decode cX5_become 14 = .ok (.aload_n 0, 1) := by decide +kernel
theorem dX5_become_15 : decode cX5_become 15 = .ok (.getfield 15, 3) := by decide +kernel
theorem dX5_become_18 : decode cX5_become 18 = .ok (.arraylength, 1) := by decide +kernel
theorem dX5_become_19 : decode cX5_become 19 = .ok (.if_icmp .ge 29, 3) := by decide +kernel
theorem dX5_become_22 : decode cX5_become 22 = .ok (.aload_n 0, 1) := by decide +kernel
theorem dX5_become_23 : decode cX5_become 23 = .ok (.getfield 15, 3) := by decide +kernel
theorem dX5_become_26 : decode cX5_become 26 = .ok (.iload 4, 2) := by decide +kernel
theorem dX5_become_28 : decode cX5_become 28 = .ok (.aload_n 1, 1) := by decide +kernel
theorem dX5_become_29 : decode cX5_become 29 = .ok (.iload 5, 2) := by decide +kernel
theorem dX5_become_3 : decode cX5_become 3 = .ok (.iload_n 2, 1) := by decide +kernel
theorem dX5_become_31 : decode cX5_become 31 = .ok (.invokevirtual 48, 3) := by decide +kernel
theorem dX5_become_34 : decode cX5_become 34 = .ok (.sipush 255, 3) := by decide +kernel
theorem dX5_become_37 : decode cX5_become 37 = .ok (.iand, 1) := by decide +kernel
theorem dX5_become_38 : decode cX5_become 38 = .ok (.iastore, 1) := by decide +kernel
theorem dX5_become_39 : decode cX5_become 39 = .ok (.iinc 4 1, 3) := by decide +kernel
theorem dX5_become_4 : decode cX5_become 4 = .ok (.istore 5, 2) := by decide +kernel
theorem dX5_become_42 : decode cX5_become 42 = .ok (.iinc 5 1, 3) := by decide +kernel
theorem dX5_become_45 : decode cX5_become 45 = .ok (.goto (-39), 3) := by decide +kernel
theorem dX5_become_48 : decode cX5_become 48 = .ok (.aload_n 0, 1) := by decide +kernel
theorem dX5_become_49 : decode cX5_become 49 = .ok (.iload 4, 2) := by decide +kernel
theorem dX5_become_51 : decode cX5_become 51 = .ok (.putfield 21, 3) := by decide +kernel
theorem dX5_become_54 : decode cX5_become 54 = .ok (.return_, 1) := by decide +kernel
theorem dX5_become_6 : decode cX5_become 6 = .ok (.iload 5, 2) := by decide +kernel
theorem dX5_become_8 : decode cX5_become 8 = .ok (.iload_n 3, 1) := by decide +kernel
theorem dX5_become_9 : decode cX5_become 9 = .ok (.if_icmp .ge 39, 3) := by decide +kernel
theorem dX5_byteAt_0 : decode cX5_byteAt 0 = .ok (.iload_n 1, 1) := by decide +kernel
theorem dX5_byteAt_1 : decode cX5_byteAt 1 = .ok (.ifCond .lt 20, 3) := by decide +kernel
theorem dX5_byteAt_12 : decode cX5_byteAt 12 = .ok (.aload_n 0, 1) := by decide +kernel
theorem dX5_byteAt_13 : decode cX5_byteAt 13 = .ok (.getfield 15, 3) := by decide +kernel
theorem dX5_byteAt_16 : decode cX5_byteAt 16 = .ok (.iload_n 1, 1) := by decide +kernel
theorem dX5_byteAt_17 : decode cX5_byteAt 17 = .ok (.iaload, 1) := by decide +kernel
theorem dX5_byteAt_18 : decode cX5_byteAt 18 = .ok (.goto 4, 3) := by decide +kernel
theorem dX5_byteAt_21 : decode cX5_byteAt 21 = .ok (.iconst (-1), 1) := by decide +kernel
theorem dX5_byteAt_22 : decode cX5_byteAt 22 = .ok (.ireturn, 1) := by decide +kernel
theorem dX5_byteAt_4 : decode cX5_byteAt 4 = .ok (.iload_n 1, 1) := by decide +kernel
theorem dX5_byteAt_5 : decode cX5_byteAt 5 = .ok (.aload_n 0, 1) := by decide +kernel
theorem dX5_byteAt_6 : decode cX5_byteAt 6 = .ok (.getfield 21, 3) := by decide +kernel
theorem dX5_byteAt_9 : decode cX5_byteAt 9 = .ok (.if_icmp .ge 12, 3) := by decide +kernel
theorem dX5_cut_0 : decode cX5_cut 0 = .ok (.iload_n 1, 1) := by decide +kernel
theorem dX5_cut_1 : decode cX5_cut 1 = .ok (.ifCond .lt 11, 3) := by decide +kernel
theorem dX5_cut_12 : decode cX5_cut 12 = .ok (.iconst 0, 1) := by decide +kernel
theorem dX5_cut_13 : decode cX5_cut 13 = .ok (.ireturn, 1) := by decide +kernel
theorem dX5_cut_14 : decode cX5_cut 14 = .ok (.aload_n 0, 1) := by decide +kernel
theorem dX5_cut_15 : decode cX5_cut 15 = .ok (.iload_n 1, 1) := by decide +kernel
theorem dX5_cut_16 : decode cX5_cut 16 = .ok (.putfield 21, 3) := by decide +kernel
theorem dX5_cut_19 : decode cX5_cut 19 = .ok (.iconst 1, 1) := by decide +kernel
theorem dX5_cut_20 : decode cX5_cut 20 = .ok (.ireturn, 1) := by decide +kernel
theorem dX5_cut_4 : decode cX5_cut 4 = .ok (.iload_n 1, 1) := by decide +kernel
theorem dX5_cut_5 : decode cX5_cut 5 = .ok (.aload_n 0, 1) := by decide +kernel
theorem dX5_cut_6 : decode cX5_cut 6 = .ok (.getfield 21, 3) := by decide +kernel
theorem dX5_cut_9 : decode cX5_cut 9 = .ok (.if_icmp .le 5, 3) := by decide +kernel
theorem dX5_isTextByte_0 : decode cX5_isTextByte 0 = .ok (.iload_n 0, 1) := by decide +kernel
theorem dX5_isTextByte_1 : decode cX5_isTextByte 1 = .ok (.bipush 32, 2) := by decide +kernel
theorem dX5_isTextByte_12 : decode cX5_isTextByte 12 = .ok (.iconst 1, 1) := by decide +kernel
theorem dX5_isTextByte_13 : decode cX5_isTextByte 13 = .ok (.goto 4, 3) := by decide +kernel
theorem dX5_isTextByte_16 : decode cX5_isTextByte 16 = .ok (.iconst 0, 1) := by decide +kernel
theorem dX5_isTextByte_17 : decode cX5_isTextByte 17 = .ok (.ireturn, 1) := by decide +kernel
theorem dX5_isTextByte_3 : decode cX5_isTextByte 3 = .ok (.if_icmp .lt 13, 3) := by decide +kernel
theorem dX5_isTextByte_6 : decode cX5_isTextByte 6 = .ok (.iload_n 0, 1) := by decide +kernel
theorem dX5_isTextByte_7 : decode cX5_isTextByte 7 = .ok (.bipush 126, 2) := by decide +kernel
theorem dX5_isTextByte_9 : decode cX5_isTextByte 9 = .ok (.if_icmp .gt 7, 3) := by decide +kernel
theorem dX5_isText_0 : decode cX5_isText 0 = .ok (.iload_n 2, 1) := by decide +kernel
theorem dX5_isText_1 : decode cX5_isText 1 = .ok (.iload_n 1, 1) := by decide +kernel
theorem dX5_isText_10 : decode cX5_isText 10 = .ok (.iload_n 1, 1) := by decide +kernel
theorem dX5_isText_11 : decode cX5_isText 11 = .ok (.istore_n 3, 1) := by decide +kernel
theorem dX5_isText_12 : decode cX5_isText 12 = .ok (.iload_n 3, 1) := by decide +kernel
theorem dX5_isText_13 : decode cX5_isText 13 = .ok (.iload_n 2, 1) := by decide +kernel
theorem dX5_isText_14 : decode cX5_isText 14 = .ok (.if_icmp .ge 22, 3) := by decide +kernel
theorem dX5_isText_17 : decode cX5_isText 17 = .ok (.aload_n 0, 1) := by decide +kernel
theorem dX5_isText_18 : decode cX5_isText 18 = .ok (.iload_n 3, 1) := by decide +kernel
theorem dX5_isText_19 : decode cX5_isText 19 = .ok (.invokevirtual 48, 3) := by decide +kernel
theorem dX5_isText_2 : decode cX5_isText 2 = .ok (.isub, 1) := by decide +kernel
theorem dX5_isText_22 : decode cX5_isText 22 = .ok (.invokestatic 52, 3) := by decide +kernel
theorem dX5_isText_25 : decode cX5_isText 25 = .ok (.ifCond .ne 5, 3) := by decide +kernel
theorem dX5_isText_28 : decode cX5_isText 28 = .ok (.iconst 0, 1) := by decide +kernel
theorem dX5_isText_29 : decode cX5_isText 29 = .ok (.ireturn, 1) := by decide +kernel
theorem dX5_isText_3 : decode cX5_isText 3 = .ok (.bipush 12, 2) := by decide +kernel
theorem dX5_isText_30 : decode cX5_isText 30 = .ok (.iinc 3 1, 3) := by decide +kernel
theorem dX5_isText_33 : decode cX5_isText 33 = .ok (.goto (-21), 3) := by decide +kernel
theorem dX5_isText_36 : decode cX5_isText 36 = .ok (.iconst 1, 1) := by decide +kernel
theorem dX5_isText_37 : decode cX5_isText 37 = .ok (.ireturn, 1) := by decide +kernel
theorem dX5_isText_5 : decode cX5_isText 5 = .ok (.if_icmp .le 5, 3) := by decide +kernel
theorem dX5_isText_8 : decode cX5_isText 8 = .ok (.iconst 0, 1) := by decide +kernel
theorem dX5_isText_9 : decode cX5_isText 9 = .ok (.ireturn, 1) := by decide +kernel
theorem dX5_pushNumber_0 : decode cX5_pushNumber 0 = .ok (.aload_n 0, 1) := by decide +kernel
theorem dX5_pushNumber_1 : decode cX5_pushNumber 1 = .ok (.lload_n 1, 1) := by decide +kernel
theorem dX5_pushNumber_12 : decode cX5_pushNumber 12 = .ok (.return_, 1) := by decide +kernel
theorem dX5_pushNumber_2 : decode cX5_pushNumber 2 = .ok (.iconst 1, 1) := by decide +kernel
theorem dX5_pushNumber_3 : decode cX5_pushNumber 3 = .ok (.lshl, 1) := by decide +kernel
theorem dX5_pushNumber_4 : decode cX5_pushNumber 4 = .ok (.lload_n 1, 1) := by decide +kernel
theorem dX5_pushNumber_5 : decode cX5_pushNumber 5 = .ok (.bipush 63, 2) := by decide +kernel
theorem dX5_pushNumber_7 : decode cX5_pushNumber 7 = .ok (.lshr, 1) := by decide +kernel
theorem dX5_pushNumber_8 : decode cX5_pushNumber 8 = .ok (.lxor, 1) := by decide +kernel
theorem dX5_pushNumber_9 : decode cX5_pushNumber 9 = .ok (.invokevirtual 33, 3) := by decide +kernel
theorem dX5_pushVarint_0 : decode cX5_pushVarint 0 = .ok (.lload_n 1, 1) := by decide +kernel
theorem dX5_pushVarint_1 : decode cX5_pushVarint 1 = .ok (.lstore_n 3, 1) := by decide +kernel
theorem dX5_pushVarint_12 : decode cX5_pushVarint 12 = .ok (.lload_n 3, 1) := by decide +kernel
theorem dX5_pushVarint_13 : decode cX5_pushVarint 13 = .ok (.ldc2_w 29, 3) := by decide +kernel
theorem dX5_pushVarint_16 : decode cX5_pushVarint 16 = .ok (.land, 1) := by decide +kernel
theorem dX5_pushVarint_17 : decode cX5_pushVarint 17 = .ok (.lconst 0, 1) := by decide +kernel
theorem dX5_pushVarint_18 : decode cX5_pushVarint 18 = .ok (.lcmp, 1) := by decide +kernel
theorem dX5_pushVarint_19 : decode cX5_pushVarint 19 = .ok (.ifCond .eq 28, 3) := by decide +kernel
theorem dX5_pushVarint_2 : decode cX5_pushVarint 2 = .ok (.iconst 0, 1) := by decide +kernel
theorem dX5_pushVarint_22 : decode cX5_pushVarint 22 = .ok (.aload_n 0, 1) := by decide +kernel
theorem dX5_pushVarint_23 : decode cX5_pushVarint 23 = .ok (.lload_n 3, 1) := by decide +kernel
theorem dX5_pushVarint_24 : decode cX5_pushVarint 24 = .ok (.ldc2_w 31, 3) := by decide +kernel
theorem dX5_pushVarint_27 : decode cX5_pushVarint 27 = .ok (.land, 1) := by decide +kernel
theorem dX5_pushVarint_28 : decode cX5_pushVarint 28 = .ok (.l2i, 1) := by decide +kernel
theorem dX5_pushVarint_29 : decode cX5_pushVarint 29 = .ok (.sipush 128, 3) := by decide +kernel
theorem dX5_pushVarint_3 : decode cX5_pushVarint 3 = .ok (.istore 5, 2) := by decide +kernel
theorem dX5_pushVarint_32 : decode cX5_pushVarint 32 = .ok (.ior, 1) := by decide +kernel
theorem dX5_pushVarint_33 : decode cX5_pushVarint 33 = .ok (.invokevirtual 25, 3) := by decide +kernel
theorem dX5_pushVarint_36 : decode cX5_pushVarint 36 = .ok (.lload_n 3, 1) := by decide +kernel
theorem dX5_pushVarint_37 : decode cX5_pushVarint 37 = .ok (.bipush 7, 2) := by decide +kernel
theorem dX5_pushVarint_39 : decode cX5_pushVarint 39 = .ok (.lushr, 1) := by decide +kernel
theorem dX5_pushVarint_40 : decode cX5_pushVarint 40 = .ok (.lstore_n 3, 1) := by decide +kernel
theorem dX5_pushVarint_41 : decode cX5_pushVarint 41 = .ok (.iinc 5 1, 3) := by decide +kernel
theorem dX5_pushVarint_44 : decode cX5_pushVarint 44 = .ok (.goto (-39), 3) := by decide +kernel
theorem dX5_pushVarint_47 : decode cX5_pushVarint 47 = .ok (.aload_n 0, 1) := by decide +kernel
theorem dX5_pushVarint_48 : decode cX5_pushVarint 48 = .ok (.lload_n 3, 1) := by decide +kernel
theorem dX5_pushVarint_49 : decode cX5_pushVarint 49 = .ok (.l2i, 1) := by decide +kernel
theorem dX5_pushVarint_5 : decode cX5_pushVarint 5 = .ok (.iload 5, 2) := by decide +kernel
theorem dX5_pushVarint_50 : decode cX5_pushVarint 50 = .ok (.invokevirtual 25, 3) := by decide +kernel
theorem dX5_pushVarint_53 : decode cX5_pushVarint 53 = .ok (.return_, 1) := by decide +kernel
theorem dX5_pushVarint_7 : decode cX5_pushVarint 7 = .ok (.bipush 10, 2) := by decide +kernel
theorem dX5_pushVarint_9 : decode cX5_pushVarint 9 = .ok (.if_icmp .ge 38, 3) := by decide +kernel
theorem dX5_pushWord_0 : decode cX5_pushWord 0 = .ok (.aload_n 0, 1) := by decide +kernel
theorem dX5_pushWord_1 : decode cX5_pushWord 1 = .ok (.iload_n 1, 1) := by decide +kernel
theorem dX5_pushWord_10 : decode cX5_pushWord 10 = .ok (.bipush 16, 2) := by decide +kernel
theorem dX5_pushWord_12 : decode cX5_pushWord 12 = .ok (.iushr, 1) := by decide +kernel
theorem dX5_pushWord_13 : decode cX5_pushWord 13 = .ok (.invokevirtual 25, 3) := by decide +kernel
theorem dX5_pushWord_16 : decode cX5_pushWord 16 = .ok (.aload_n 0, 1) := by decide +kernel
theorem dX5_pushWord_17 : decode cX5_pushWord 17 = .ok (.iload_n 1, 1) := by decide +kernel
theorem dX5_pushWord_18 : decode cX5_pushWord 18 = .ok (.bipush 8, 2) := by decide +kernel
theorem dX5_pushWord_2 : decode cX5_pushWord 2 = .ok (.bipush 24, 2) := by decide +kernel
theorem dX5_pushWord_20 : decode cX5_pushWord 20 = .ok (.iushr, 1) := by decide +kernel
theorem dX5_pushWord_21 : decode cX5_pushWord 21 = .ok (.invokevirtual 25, 3) := by decide +kernel
theorem dX5_pushWord_24 : decode cX5_pushWord 24 = .ok (.aload_n 0, 1) := by decide +kernel
theorem dX5_pushWord_25 : decode cX5_pushWord 25 = .ok (.iload_n 1, 1) := by decide +kernel
theorem dX5_pushWord_26 : decode cX5_pushWord 26 = .ok (.invokevirtual 25, 3) := by decide +kernel
theorem dX5_pushWord_29 : decode cX5_pushWord 29 = .ok (.return_, 1) := by decide +kernel
theorem dX5_pushWord_4 : decode cX5_pushWord 4 = .ok (.iushr, 1) := by decide +kernel
theorem dX5_pushWord_5 : decode cX5_pushWord 5 = .ok (.invokevirtual 25, 3) := by decide +kernel
theorem dX5_pushWord_8 : decode cX5_pushWord 8 = .ok (.aload_n 0, 1) := by decide +kernel
theorem dX5_pushWord_9 : decode cX5_pushWord 9 = .ok (.iload_n 1, 1) := by decide +kernel
theorem dX5_push_0 : decode cX5_push 0 = .ok (.aload_n 0, 1) := by decide +kernel
theorem dX5_push_1 : decode cX5_push 1 = .ok (.getfield 21, 3) := by decide +kernel
theorem dX5_push_12 : decode cX5_push 12 = .ok (.aload_n 0, 1) := by decide +kernel
theorem dX5_push_13 : decode cX5_push 13 = .ok (.getfield 15, 3) := by decide +kernel
theorem dX5_push_16 : decode cX5_push 16 = .ok (.aload_n 0, 1) := by decide +kernel
theorem dX5_push_17 : decode cX5_push 17 = .ok (.getfield 21, 3) := by decide +kernel
theorem dX5_push_20 : decode cX5_push 20 = .ok (.iload_n 1, 1) := by decide +kernel
theorem dX5_push_21 : decode cX5_push 21 = .ok (.sipush 255, 3) := by decide +kernel
theorem dX5_push_24 : decode cX5_push 24 = .ok (.iand, 1) := by decide +kernel
theorem dX5_push_25 : decode cX5_push 25 = .ok (.iastore, 1) := by decide +kernel
theorem dX5_push_26 : decode cX5_push 26 = .ok (.aload_n 0, 1) := by decide +kernel
theorem dX5_push_27 : decode cX5_push 27 = .ok (.dup, 1) := by decide +kernel
theorem dX5_push_28 : decode cX5_push 28 = .ok (.getfield 21, 3) := by decide +kernel
theorem dX5_push_31 : decode cX5_push 31 = .ok (.iconst 1, 1) := by decide +kernel
theorem dX5_push_32 : decode cX5_push 32 = .ok (.iadd, 1) := by decide +kernel
theorem dX5_push_33 : decode cX5_push 33 = .ok (.putfield 21, 3) := by decide +kernel
theorem dX5_push_36 : decode cX5_push 36 = .ok (.return_, 1) := by decide +kernel
theorem dX5_push_4 : decode cX5_push 4 = .ok (.aload_n 0, 1) := by decide +kernel
theorem dX5_push_5 : decode cX5_push 5 = .ok (.getfield 15, 3) := by decide +kernel
theorem dX5_push_8 : decode cX5_push 8 = .ok (.arraylength, 1) := by decide +kernel
theorem dX5_push_9 : decode cX5_push 9 = .ok (.if_icmp .ge 27, 3) := by decide +kernel
theorem dX5_replace_0 : decode cX5_replace 0 = .ok (.iload_n 1, 1) := by decide +kernel
theorem dX5_replace_1 : decode cX5_replace 1 = .ok (.ifCond .lt 22, 3) := by decide +kernel
theorem dX5_replace_12 : decode cX5_replace 12 = .ok (.aload_n 0, 1) := by decide +kernel
theorem dX5_replace_13 : decode cX5_replace 13 = .ok (.getfield 15, 3) := by decide +kernel
theorem dX5_replace_16 : decode cX5_replace 16 = .ok (.iload_n 1, 1) := by decide +kernel
theorem dX5_replace_17 : decode cX5_replace 17 = .ok (.iload_n 2, 1) := by decide +kernel
theorem dX5_replace_18 : decode cX5_replace 18 = .ok (.sipush 255, 3) := by decide +kernel
theorem dX5_replace_21 : decode cX5_replace 21 = .ok (.iand, 1) := by decide +kernel
theorem dX5_replace_22 : decode cX5_replace 22 = .ok (.iastore, 1) := by decide +kernel
theorem dX5_replace_23 : decode cX5_replace 23 = .ok (.return_, 1) := by decide +kernel
theorem dX5_replace_4 : decode cX5_replace 4 = .ok (.iload_n 1, 1) := by decide +kernel
theorem dX5_replace_5 : decode cX5_replace 5 = .ok (.aload_n 0, 1) := by decide +kernel
theorem dX5_replace_6 : decode cX5_replace 6 = .ok (.getfield 21, 3) := by decide +kernel
theorem dX5_replace_9 : decode cX5_replace 9 = .ok (.if_icmp .ge 14, 3) := by decide +kernel
theorem dX5_size_0 : decode cX5_size 0 = .ok (.aload_n 0, 1) := by decide +kernel
theorem dX5_size_1 : decode cX5_size 1 = .ok (.getfield 21, 3) := by decide +kernel
theorem dX5_size_4 : decode cX5_size 4 = .ok (.ireturn, 1) := by decide +kernel
noncomputable def fX5_size (h0 : Nat) (st : CS) : Option (Int32 × CS) := gd (qk st h0 = 8) (some (qI st h0 1, st))
set_option maxHeartbeats 1000000 in
theorem mo_X5_size (h0 : Nat) (st : CS) (r : Int32) (st' : CS) (hf : fX5_size h0 st = some (r, st')) : Ke st st' := by
  unfold fX5_size at hf
  have hm : Ke st st := Ke.rf
  obtain ⟨hk_1, hf⟩ := gd_some hf
  obtain ⟨e1, e2⟩ := pr_some hf
  exact e2 ▸ hm
def wq_X5_size : List Cond := .code yX5_size cX5_size 1 (some .int) :: (([.fieldLink RX5 21 "RecordBench$Row" "size" "I"] : List Cond) ++ wsX50)
set_option maxHeartbeats 4000000 in
set_option maxRecDepth 100000 in
theorem c_X5_size (l : Launch) (dC : Nat → ClassId) (dI : Nat → Nat → Nat) (ka ad : Nat → Nat) (ct : Nat → ClassId) (h0 : Nat) (st st' : CS) (r : Int32) (hf : fX5_size h0 st = some (r, st')) (sz : Nat) : Met l yX5_size wq_X5_size ({ frames := 0, cells := 0, slots := 0, locals := 0 }) (va_Pc [.ref (ad h0)] (PrC (dC, dI) ct ka ad st sz)) (va_Qi (fun r' (_ : Unit) => r' = r) (fun _ => CB (dC, dI) ct ka ad st' (aC ad st sz)) (aC ad st sz)) 0 0 (aC ad st sz) := by
  refine Met.ofW (cc := cX5_size) (maxL := 1) (ret := (some .int)) (by decide) rfl ?_
  intro p e s m args below meth c s₁ B hml hv
  obtain ⟨rfl, hsz, hw0, hK, hN, hZ, hC, hR, hL, hw1, hw2⟩ := hv
  have hx := B.exec
  have hb := B.bytes
  have hr := B.returns
  have hts := atoms_spec (ws := wq_X5_size) B.pre
  have hown : s.vm.findClass RX5 = some m.cls := findClass_of_methodNamed B.named
  have iRX5 : ∀ w ∈ u_ws RX5 TX5 2, w ∈ wq_X5_size := fun w h => List.mem_cons_of_mem _ (List.mem_append_right _ h)
  subst hsz
  have hp : Cp (dC, dI) ka ad ct (aC ad st s.heap.size) s.heap st s.heap [] := ⟨fun i a b => ⟨hw0 i a b, Or.inl ⟨i, a, b, rfl⟩⟩, va_S.rf, hw1, hw2⟩
  generalize hAe : aC ad st s.heap.size = A at hp hZ hC ⊢
  have hA : ∀ q : Nat, s.heap.size ≤ q → A q := fun q h => by rw [← hAe]; exact Or.inr h
  have hl := lv_entry ([.ref (ad h0)]) (n := 1) (Nat.le_of_ble_eq_true rfl)
  rw [lg_entry_eq]
  generalize (lg_sl ([.ref (ad h0)]) ++ List.replicate (1 - (lg_sl ([.ref (ad h0)])).length) Slot.unset).toArray = ls at hl ⊢
  have hl : lv_has ls 1 [(0, .ref (ad h0))] := hl
  unfold fX5_size at hf
  refine lv_aload_n hx hb dX5_size_0 rfl (lv_at hl 0 rfl) ?_
  obtain ⟨hk_1, hf⟩ := gd_some hf
  refine q_gi (ci := 7) (C := RX5) (T := TX5) (N := 2) (k := 1) hx hb hts iRX5 hown hK hp hk_1 (by decide) rfl rfl (by decide) rfl (Or.inl (hts (.fieldLink RX5 21 "RecordBench$Row" "size" "I") (by decide +kernel))) (fun _ h9 => h9) dX5_size_1 ?_
  obtain ⟨e1, e2⟩ := pr_some hf
  exact W.iret (v := qI st h0 1) hx hb hr (fun t ht hW => ⟨⟨qI st h0 1, (), rfl, e1, Cp.end e2 hp ht⟩, hp.2.1.F ht⟩) hp.2.1.2.2 dX5_size_4
noncomputable def fX5_byteAt (h0 : Nat) (p0 : Int32) (st : CS) : Option (Int32 × CS) := pif (p0 < 0) (some (((-1) : Int32), st)) (gd (qk st h0 = 8) (pif ((qI st h0 1) ≤ p0) (some (((-1) : Int32), st)) (ono (qP st h0 0) (fun a_4 => gd (qk st a_4 = 21) (gd (vp_in p0 (ql st a_4)) (some (qI st a_4 p0.toNatClampNeg, st)))))))
set_option maxHeartbeats 1000000 in
theorem mo_X5_byteAt (h0 : Nat) (p0 : Int32) (st : CS) (r : Int32) (st' : CS) (hf : fX5_byteAt h0 p0 st = some (r, st')) : Ke st st' := by
  unfold fX5_byteAt at hf
  have hm : Ke st st := Ke.rf
  rcases pif_or hf with ⟨c_1, hf⟩ | ⟨c_1, hf⟩
  · obtain ⟨e1, e2⟩ := pr_some hf
    exact e2 ▸ hm
  · obtain ⟨hk_2, hf⟩ := gd_some hf
    rcases pif_or hf with ⟨c_3, hf⟩ | ⟨c_3, hf⟩
    · obtain ⟨e1, e2⟩ := pr_some hf
      exact e2 ▸ hm
    · obtain ⟨a_4, ha_5, hf⟩ := ono_some hf
      obtain ⟨hk_6, hf⟩ := gd_some hf
      obtain ⟨g_7, hf⟩ := gd_some hf
      obtain ⟨e1, e2⟩ := pr_some hf
      exact e2 ▸ hm
def wq_X5_byteAt : List Cond := .code yX5_byteAt cX5_byteAt 2 (some .int) :: (([.fieldLink RX5 21 "RecordBench$Row" "size" "I", .fieldLink RX5 15 "RecordBench$Row" "bytes" "[I"] : List Cond) ++ wsX50)
set_option maxHeartbeats 4000000 in
set_option maxRecDepth 100000 in
theorem c_X5_byteAt (l : Launch) (dC : Nat → ClassId) (dI : Nat → Nat → Nat) (ka ad : Nat → Nat) (ct : Nat → ClassId) (h0 : Nat) (p0 : Int32) (st st' : CS) (r : Int32) (hf : fX5_byteAt h0 p0 st = some (r, st')) (sz : Nat) : Met l yX5_byteAt wq_X5_byteAt ({ frames := 0, cells := 0, slots := 0, locals := 0 }) (va_Pc [.ref (ad h0), .int p0] (PrC (dC, dI) ct ka ad st sz)) (va_Qi (fun r' (_ : Unit) => r' = r) (fun _ => CB (dC, dI) ct ka ad st' (aC ad st sz)) (aC ad st sz)) 0 0 (aC ad st sz) := by
  refine Met.ofW (cc := cX5_byteAt) (maxL := 2) (ret := (some .int)) (by decide) rfl ?_
  intro p e s m args below meth c s₁ B hml hv
  obtain ⟨rfl, hsz, hw0, hK, hN, hZ, hC, hR, hL, hw1, hw2⟩ := hv
  have hx := B.exec
  have hb := B.bytes
  have hr := B.returns
  have hts := atoms_spec (ws := wq_X5_byteAt) B.pre
  have hown : s.vm.findClass RX5 = some m.cls := findClass_of_methodNamed B.named
  have iRX5 : ∀ w ∈ u_ws RX5 TX5 2, w ∈ wq_X5_byteAt := fun w h => List.mem_cons_of_mem _ (List.mem_append_right _ h)
  subst hsz
  have hp : Cp (dC, dI) ka ad ct (aC ad st s.heap.size) s.heap st s.heap [] := ⟨fun i a b => ⟨hw0 i a b, Or.inl ⟨i, a, b, rfl⟩⟩, va_S.rf, hw1, hw2⟩
  generalize hAe : aC ad st s.heap.size = A at hp hZ hC ⊢
  have hA : ∀ q : Nat, s.heap.size ≤ q → A q := fun q h => by rw [← hAe]; exact Or.inr h
  have hl := lv_entry ([.ref (ad h0), .int p0]) (n := 2) (Nat.le_of_ble_eq_true rfl)
  rw [lg_entry_eq]
  generalize (lg_sl ([.ref (ad h0), .int p0]) ++ List.replicate (2 - (lg_sl ([.ref (ad h0), .int p0])).length) Slot.unset).toArray = ls at hl ⊢
  have hl : lv_has ls 2 [(0, .ref (ad h0)), (1, .int p0)] := hl
  unfold fX5_byteAt at hf
  refine lv_iload_n hx hb dX5_byteAt_0 rfl (lv_at hl 1 rfl) ?_
  refine lv_if_lt (tgt := 21) hx hb dX5_byteAt_1 (by decide) (fun c_1 => ?_) (fun c_1 => ?_)
  · have hf := pif_t c_1 hf
    refine lv_iconst (v := (-1)) hx hb dX5_byteAt_21 (by decide) ?_
    obtain ⟨e1, e2⟩ := pr_some hf
    exact W.iret (v := (-1)) hx hb hr (fun t ht hW => ⟨⟨(-1), (), rfl, e1, Cp.end e2 hp ht⟩, hp.2.1.F ht⟩) hp.2.1.2.2 dX5_byteAt_22
  · have hf := pif_f c_1 hf
    refine lv_iload_n hx hb dX5_byteAt_4 rfl (lv_at hl 1 rfl) ?_
    refine lv_aload_n hx hb dX5_byteAt_5 rfl (lv_at hl 0 rfl) ?_
    obtain ⟨hk_2, hf⟩ := gd_some hf
    refine q_gi (ci := 7) (C := RX5) (T := TX5) (N := 2) (k := 1) hx hb hts iRX5 hown hK hp hk_2 (by decide) rfl rfl (by decide) rfl (Or.inl (hts (.fieldLink RX5 21 "RecordBench$Row" "size" "I") (by decide +kernel))) (fun _ h9 => h9) dX5_byteAt_6 ?_
    refine lv_icmp_ge (tgt := 21) hx hb dX5_byteAt_9 (by decide) (fun c_3 => ?_) (fun c_3 => ?_)
    · have hf := pif_t c_3 hf
      refine lv_iconst (v := (-1)) hx hb dX5_byteAt_21 (by decide) ?_
      obtain ⟨e1, e2⟩ := pr_some hf
      exact W.iret (v := (-1)) hx hb hr (fun t ht hW => ⟨⟨(-1), (), rfl, e1, Cp.end e2 hp ht⟩, hp.2.1.F ht⟩) hp.2.1.2.2 dX5_byteAt_22
    · have hf := pif_f c_3 hf
      refine lv_aload_n hx hb dX5_byteAt_12 rfl (lv_at hl 0 rfl) ?_
      refine q_gp (ci := 7) (C := RX5) (T := TX5) (N := 2) (k := 0) hx hb hts iRX5 hown hK hp hk_2 (by decide) rfl rfl (by decide) rfl (Or.inl (hts (.fieldLink RX5 15 "RecordBench$Row" "bytes" "[I") (by decide +kernel))) (fun _ h9 => h9) dX5_byteAt_13 ?_
      refine lv_iload_n hx hb dX5_byteAt_16 rfl (lv_at hl 1 rfl) ?_
      obtain ⟨a_4, ha_5, hf⟩ := ono_some hf
      refine o_at1 ha_5 ?_
      obtain ⟨hk_6, hf⟩ := gd_some hf
      obtain ⟨g_7, hf⟩ := gd_some hf
      refine q_ai hx hb hK hp hk_6 g_7 dX5_byteAt_17 ?_
      refine lv_goto (tgt := 22) hx hb dX5_byteAt_18 (by decide) ?_
      obtain ⟨e1, e2⟩ := pr_some hf
      exact W.iret (v := qI st a_4 p0.toNatClampNeg) hx hb hr (fun t ht hW => ⟨⟨qI st a_4 p0.toNatClampNeg, (), rfl, e1, Cp.end e2 hp ht⟩, hp.2.1.F ht⟩) hp.2.1.2.2 dX5_byteAt_22
noncomputable def fX5_cut (h0 : Nat) (p0 : Int32) (st : CS) : Option (Int32 × CS) := pif (p0 < 0) (some ((0 : Int32), st)) (gd (qk st h0 = 8) (pif (p0 ≤ (qI st h0 1)) (nam (wI st h0 1 p0) (fun st_4 => some ((1 : Int32), st_4))) (some ((0 : Int32), st))))
set_option maxHeartbeats 1000000 in
theorem mo_X5_cut (h0 : Nat) (p0 : Int32) (st : CS) (r : Int32) (st' : CS) (hf : fX5_cut h0 p0 st = some (r, st')) : Ke st st' := by
  unfold fX5_cut at hf
  have hm : Ke st st := Ke.rf
  rcases pif_or hf with ⟨c_1, hf⟩ | ⟨c_1, hf⟩
  · obtain ⟨e1, e2⟩ := pr_some hf
    exact e2 ▸ hm
  · obtain ⟨hk_2, hf⟩ := gd_some hf
    rcases pif_or hf with ⟨c_3, hf⟩ | ⟨c_3, hf⟩
    · obtain ⟨st_4, est_4, hf⟩ := nam_some hf
      have hm := hm.wI est_4
      obtain ⟨e1, e2⟩ := pr_some hf
      exact e2 ▸ hm
    · obtain ⟨e1, e2⟩ := pr_some hf
      exact e2 ▸ hm
def wq_X5_cut : List Cond := .code yX5_cut cX5_cut 2 (some .boolean) :: (([.fieldLink RX5 21 "RecordBench$Row" "size" "I"] : List Cond) ++ wsX50)
set_option maxHeartbeats 4000000 in
set_option maxRecDepth 100000 in
theorem c_X5_cut (l : Launch) (dC : Nat → ClassId) (dI : Nat → Nat → Nat) (ka ad : Nat → Nat) (ct : Nat → ClassId) (h0 : Nat) (p0 : Int32) (st st' : CS) (r : Int32) (hf : fX5_cut h0 p0 st = some (r, st')) (sz : Nat) : Met l yX5_cut wq_X5_cut ({ frames := 0, cells := 0, slots := 0, locals := 0 }) (va_Pc [.ref (ad h0), .int p0] (PrC (dC, dI) ct ka ad st sz)) (va_Qi (fun r' (_ : Unit) => r' = r) (fun _ => CB (dC, dI) ct ka ad st' (aC ad st sz)) (aC ad st sz)) 0 0 (aC ad st sz) := by
  refine Met.ofW (cc := cX5_cut) (maxL := 2) (ret := (some .boolean)) (by decide) rfl ?_
  intro p e s m args below meth c s₁ B hml hv
  obtain ⟨rfl, hsz, hw0, hK, hN, hZ, hC, hR, hL, hw1, hw2⟩ := hv
  have hx := B.exec
  have hb := B.bytes
  have hr := B.returns
  have hts := atoms_spec (ws := wq_X5_cut) B.pre
  have hown : s.vm.findClass RX5 = some m.cls := findClass_of_methodNamed B.named
  have iRX5 : ∀ w ∈ u_ws RX5 TX5 2, w ∈ wq_X5_cut := fun w h => List.mem_cons_of_mem _ (List.mem_append_right _ h)
  subst hsz
  have hp : Cp (dC, dI) ka ad ct (aC ad st s.heap.size) s.heap st s.heap [] := ⟨fun i a b => ⟨hw0 i a b, Or.inl ⟨i, a, b, rfl⟩⟩, va_S.rf, hw1, hw2⟩
  generalize hAe : aC ad st s.heap.size = A at hp hZ hC ⊢
  have hA : ∀ q : Nat, s.heap.size ≤ q → A q := fun q h => by rw [← hAe]; exact Or.inr h
  have hl := lv_entry ([.ref (ad h0), .int p0]) (n := 2) (Nat.le_of_ble_eq_true rfl)
  rw [lg_entry_eq]
  generalize (lg_sl ([.ref (ad h0), .int p0]) ++ List.replicate (2 - (lg_sl ([.ref (ad h0), .int p0])).length) Slot.unset).toArray = ls at hl ⊢
  have hl : lv_has ls 2 [(0, .ref (ad h0)), (1, .int p0)] := hl
  unfold fX5_cut at hf
  refine lv_iload_n hx hb dX5_cut_0 rfl (lv_at hl 1 rfl) ?_
  refine lv_if_lt (tgt := 12) hx hb dX5_cut_1 (by decide) (fun c_1 => ?_) (fun c_1 => ?_)
  · have hf := pif_t c_1 hf
    refine lv_iconst (v := 0) hx hb dX5_cut_12 (by decide) ?_
    obtain ⟨e1, e2⟩ := pr_some hf
    exact W.zret (v := 0) hx hb hr rfl (fun t ht hW => ⟨⟨0, (), rfl, e1, Cp.end e2 hp ht⟩, hp.2.1.F ht⟩) hp.2.1.2.2 dX5_cut_13
  · have hf := pif_f c_1 hf
    refine lv_iload_n hx hb dX5_cut_4 rfl (lv_at hl 1 rfl) ?_
    refine lv_aload_n hx hb dX5_cut_5 rfl (lv_at hl 0 rfl) ?_
    obtain ⟨hk_2, hf⟩ := gd_some hf
    refine q_gi (ci := 7) (C := RX5) (T := TX5) (N := 2) (k := 1) hx hb hts iRX5 hown hK hp hk_2 (by decide) rfl rfl (by decide) rfl (Or.inl (hts (.fieldLink RX5 21 "RecordBench$Row" "size" "I") (by decide +kernel))) (fun _ h9 => h9) dX5_cut_6 ?_
    refine lv_icmp_le (tgt := 14) hx hb dX5_cut_9 (by decide) (fun c_3 => ?_) (fun c_3 => ?_)
    · have hf := pif_t c_3 hf
      refine lv_aload_n hx hb dX5_cut_14 rfl (lv_at hl 0 rfl) ?_
      refine lv_iload_n hx hb dX5_cut_15 rfl (lv_at hl 1 rfl) ?_
      refine q_pi (ci := 7) (C := RX5) (T := TX5) (N := 2) (k := 1) (v := p0) (ty := .int) hx hb hts iRX5 tyX5 tyX5_ok nmX5 hown hK hp hk_2 (by decide) rfl rfl (by decide) rfl (Or.inl (hts (.fieldLink RX5 21 "RecordBench$Row" "size" "I") (by decide +kernel))) (fun _ h9 => h9) rfl (by decide +kernel) rfl rfl dX5_cut_16 (fun H locs hp => ?_)
      obtain ⟨st_4, est_4, hf⟩ := nam_some hf
      rw [← est_4] at hp
      have hk_2 : qk st_4 h0 = 8 := by rw [est_4]; exact hk_2
      refine lv_iconst (v := 1) hx hb dX5_cut_19 (by decide) ?_
      obtain ⟨e1, e2⟩ := pr_some hf
      exact W.zret (v := 1) hx hb hr rfl (fun t ht hW => ⟨⟨1, (), rfl, e1, Cp.end e2 hp ht⟩, hp.2.1.F ht⟩) hp.2.1.2.2 dX5_cut_20
    · have hf := pif_f c_3 hf
      refine lv_iconst (v := 0) hx hb dX5_cut_12 (by decide) ?_
      obtain ⟨e1, e2⟩ := pr_some hf
      exact W.zret (v := 0) hx hb hr rfl (fun t ht hW => ⟨⟨0, (), rfl, e1, Cp.end e2 hp ht⟩, hp.2.1.F ht⟩) hp.2.1.2.2 dX5_cut_13
noncomputable def fX5_push (h0 : Nat) (p0 : Int32) (st : CS) : Option (CS) := gd (qk st h0 = 8) (ono (qP st h0 0) (fun a_2 => gd (qk st a_2 = 21) (pif ((nI (ql st a_2)) ≤ (qI st h0 1)) (some st) (gd (vp_in (qI st h0 1) (ql st a_2)) (nam (wI st a_2 (qI st h0 1).toNatClampNeg (p0 &&& 255)) (fun st_7 => nam (wI st_7 h0 1 ((qI st_7 h0 1) + 1)) (fun st_8 => some st_8)))))))
set_option maxHeartbeats 1000000 in
theorem mo_X5_push (h0 : Nat) (p0 : Int32) (st : CS) (st' : CS) (hf : fX5_push h0 p0 st = some st') : Ke st st' := by
  unfold fX5_push at hf
  have hm : Ke st st := Ke.rf
  obtain ⟨hk_1, hf⟩ := gd_some hf
  obtain ⟨a_2, ha_3, hf⟩ := ono_some hf
  obtain ⟨hk_4, hf⟩ := gd_some hf
  rcases pif_or hf with ⟨c_5, hf⟩ | ⟨c_5, hf⟩
  · have e2 := Option.some.inj hf
    exact e2 ▸ hm
  · obtain ⟨g_6, hf⟩ := gd_some hf
    obtain ⟨st_7, est_7, hf⟩ := nam_some hf
    have hm := hm.wI est_7
    obtain ⟨st_8, est_8, hf⟩ := nam_some hf
    have hm := hm.wI est_8
    have e2 := Option.some.inj hf
    exact e2 ▸ hm
def wq_X5_push : List Cond := .code yX5_push cX5_push 2 none :: (([.fieldLink RX5 21 "RecordBench$Row" "size" "I", .fieldLink RX5 15 "RecordBench$Row" "bytes" "[I"] : List Cond) ++ wsX50)
set_option maxHeartbeats 4000000 in
set_option maxRecDepth 100000 in
theorem c_X5_push (l : Launch) (dC : Nat → ClassId) (dI : Nat → Nat → Nat) (ka ad : Nat → Nat) (ct : Nat → ClassId) (h0 : Nat) (p0 : Int32) (st st' : CS) (hf : fX5_push h0 p0 st = some st') (sz : Nat) : Met l yX5_push wq_X5_push ({ frames := 0, cells := 0, slots := 0, locals := 0 }) (va_Pc [.ref (ad h0), .int p0] (PrC (dC, dI) ct ka ad st sz)) (va_Qv (fun (_ : Unit) => True) (fun _ => CB (dC, dI) ct ka ad st' (aC ad st sz)) (aC ad st sz)) 0 0 (aC ad st sz) := by
  refine Met.ofW (cc := cX5_push) (maxL := 2) (ret := none) (by decide) rfl ?_
  intro p e s m args below meth c s₁ B hml hv
  obtain ⟨rfl, hsz, hw0, hK, hN, hZ, hC, hR, hL, hw1, hw2⟩ := hv
  have hx := B.exec
  have hb := B.bytes
  have hr := B.returns
  have hts := atoms_spec (ws := wq_X5_push) B.pre
  have hown : s.vm.findClass RX5 = some m.cls := findClass_of_methodNamed B.named
  have iRX5 : ∀ w ∈ u_ws RX5 TX5 2, w ∈ wq_X5_push := fun w h => List.mem_cons_of_mem _ (List.mem_append_right _ h)
  subst hsz
  have hp : Cp (dC, dI) ka ad ct (aC ad st s.heap.size) s.heap st s.heap [] := ⟨fun i a b => ⟨hw0 i a b, Or.inl ⟨i, a, b, rfl⟩⟩, va_S.rf, hw1, hw2⟩
  generalize hAe : aC ad st s.heap.size = A at hp hZ hC ⊢
  have hA : ∀ q : Nat, s.heap.size ≤ q → A q := fun q h => by rw [← hAe]; exact Or.inr h
  have hl := lv_entry ([.ref (ad h0), .int p0]) (n := 2) (Nat.le_of_ble_eq_true rfl)
  rw [lg_entry_eq]
  generalize (lg_sl ([.ref (ad h0), .int p0]) ++ List.replicate (2 - (lg_sl ([.ref (ad h0), .int p0])).length) Slot.unset).toArray = ls at hl ⊢
  have hl : lv_has ls 2 [(0, .ref (ad h0)), (1, .int p0)] := hl
  unfold fX5_push at hf
  refine lv_aload_n hx hb dX5_push_0 rfl (lv_at hl 0 rfl) ?_
  obtain ⟨hk_1, hf⟩ := gd_some hf
  refine q_gi (ci := 7) (C := RX5) (T := TX5) (N := 2) (k := 1) hx hb hts iRX5 hown hK hp hk_1 (by decide) rfl rfl (by decide) rfl (Or.inl (hts (.fieldLink RX5 21 "RecordBench$Row" "size" "I") (by decide +kernel))) (fun _ h9 => h9) dX5_push_1 ?_
  refine lv_aload_n hx hb dX5_push_4 rfl (lv_at hl 0 rfl) ?_
  refine q_gp (ci := 7) (C := RX5) (T := TX5) (N := 2) (k := 0) hx hb hts iRX5 hown hK hp hk_1 (by decide) rfl rfl (by decide) rfl (Or.inl (hts (.fieldLink RX5 15 "RecordBench$Row" "bytes" "[I") (by decide +kernel))) (fun _ h9 => h9) dX5_push_5 ?_
  obtain ⟨a_2, ha_3, hf⟩ := ono_some hf
  refine o_at ha_3 ?_
  obtain ⟨hk_4, hf⟩ := gd_some hf
  refine q_len (t0 := 0) hx hb hK hp (hp.2.2.1.ge hk_4 (by decide) (by decide) (by decide)) hk_4 (by decide) rfl dX5_push_8 ?_
  refine lv_icmp_ge (tgt := 36) hx hb dX5_push_9 (by decide) (fun c_5 => ?_) (fun c_5 => ?_)
  · have hf := pif_t c_5 hf
    have e2 := Option.some.inj hf
    exact W.vret hx hb hr (fun t ht hW => ⟨⟨(), rfl, trivial, Cp.end e2 hp ht⟩, hp.2.1.F ht⟩) hp.2.1.2.2 dX5_push_36
  · have hf := pif_f c_5 hf
    refine lv_aload_n hx hb dX5_push_12 rfl (lv_at hl 0 rfl) ?_
    refine q_gp (ci := 7) (C := RX5) (T := TX5) (N := 2) (k := 0) hx hb hts iRX5 hown hK hp hk_1 (by decide) rfl rfl (by decide) rfl (Or.inl (hts (.fieldLink RX5 15 "RecordBench$Row" "bytes" "[I") (by decide +kernel))) (fun _ h9 => h9) dX5_push_13 ?_
    refine lv_aload_n hx hb dX5_push_16 rfl (lv_at hl 0 rfl) ?_
    refine q_gi (ci := 7) (C := RX5) (T := TX5) (N := 2) (k := 1) hx hb hts iRX5 hown hK hp hk_1 (by decide) rfl rfl (by decide) rfl (Or.inl (hts (.fieldLink RX5 21 "RecordBench$Row" "size" "I") (by decide +kernel))) (fun _ h9 => h9) dX5_push_17 ?_
    refine lv_iload_n hx hb dX5_push_20 rfl (lv_at hl 1 rfl) ?_
    refine lv_sipush (v := 255) hx hb dX5_push_21 (by decide) ?_
    refine lv_iand hx hb dX5_push_24 ?_
    refine o_at2 ha_3 ?_
    obtain ⟨g_6, hf⟩ := gd_some hf
    refine q_si hx hb hK hp hk_4 g_6 dX5_push_25 (fun H locs hp => ?_)
    obtain ⟨st_7, est_7, hf⟩ := nam_some hf
    rw [← est_7] at hp
    have hk_1 : qk st_7 h0 = 8 := by rw [est_7]; exact hk_1
    have hk_4 : qk st_7 a_2 = 21 := by rw [est_7]; exact hk_4
    refine lv_aload_n hx hb dX5_push_26 rfl (lv_at hl 0 rfl) ?_
    refine lv_dup hx hb dX5_push_27 rfl ?_
    refine q_gi (ci := 7) (C := RX5) (T := TX5) (N := 2) (k := 1) hx hb hts iRX5 hown hK hp hk_1 (by decide) rfl rfl (by decide) rfl (Or.inl (hts (.fieldLink RX5 21 "RecordBench$Row" "size" "I") (by decide +kernel))) (fun _ h9 => h9) dX5_push_28 ?_
    refine lv_iconst (v := 1) hx hb dX5_push_31 (by decide) ?_
    refine lv_iadd hx hb dX5_push_32 ?_
    refine q_pi (ci := 7) (C := RX5) (T := TX5) (N := 2) (k := 1) (v := (qI st_7 h0 1) + 1) (ty := .int) hx hb hts iRX5 tyX5 tyX5_ok nmX5 hown hK hp hk_1 (by decide) rfl rfl (by decide) rfl (Or.inl (hts (.fieldLink RX5 21 "RecordBench$Row" "size" "I") (by decide +kernel))) (fun _ h9 => h9) rfl (by decide +kernel) rfl rfl dX5_push_33 (fun H locs hp => ?_)
    obtain ⟨st_8, est_8, hf⟩ := nam_some hf
    rw [← est_8] at hp
    have hk_1 : qk st_8 h0 = 8 := by rw [est_8]; exact hk_1
    have hk_4 : qk st_8 a_2 = 21 := by rw [est_8]; exact hk_4
    have e2 := Option.some.inj hf
    exact W.vret hx hb hr (fun t ht hW => ⟨⟨(), rfl, trivial, Cp.end e2 hp ht⟩, hp.2.1.F ht⟩) hp.2.1.2.2 dX5_push_36
noncomputable def fX5_pushWord (h0 : Nat) (p0 : Int32) (st : CS) : Option (CS) := gd (qk st h0 = 8) (bnv (fX5_push h0 ((p0.toUInt32 >>> ((24 : Int32).toUInt32 &&& Int32.toUInt32 31)).toInt32) st) (fun st_2 => bnv (fX5_push h0 ((p0.toUInt32 >>> ((16 : Int32).toUInt32 &&& Int32.toUInt32 31)).toInt32) st_2) (fun st_5 => bnv (fX5_push h0 ((p0.toUInt32 >>> ((8 : Int32).toUInt32 &&& Int32.toUInt32 31)).toInt32) st_5) (fun st_8 => bnv (fX5_push h0 p0 st_8) (fun st_11 => some st_11)))))
set_option maxHeartbeats 1000000 in
theorem mo_X5_pushWord (h0 : Nat) (p0 : Int32) (st : CS) (st' : CS) (hf : fX5_pushWord h0 p0 st = some st') : Ke st st' := by
  unfold fX5_pushWord at hf
  have hm : Ke st st := Ke.rf
  obtain ⟨hk_1, hf⟩ := gd_some hf
  obtain ⟨st_2, hc_3, hf⟩ := bnv_some hf
  have hm := hm.tr (mo_X5_push h0 ((p0.toUInt32 >>> ((24 : Int32).toUInt32 &&& Int32.toUInt32 31)).toInt32) _ _ hc_3)
  obtain ⟨st_5, hc_6, hf⟩ := bnv_some hf
  have hm := hm.tr (mo_X5_push h0 ((p0.toUInt32 >>> ((16 : Int32).toUInt32 &&& Int32.toUInt32 31)).toInt32) _ _ hc_6)
  obtain ⟨st_8, hc_9, hf⟩ := bnv_some hf
  have hm := hm.tr (mo_X5_push h0 ((p0.toUInt32 >>> ((8 : Int32).toUInt32 &&& Int32.toUInt32 31)).toInt32) _ _ hc_9)
  obtain ⟨st_11, hc_12, hf⟩ := bnv_some hf
  have hm := hm.tr (mo_X5_push h0 p0 _ _ hc_12)
  have e2 := Option.some.inj hf
  exact e2 ▸ hm
def wq_X5_pushWord : List Cond := .code yX5_pushWord cX5_pushWord 2 none :: (([.methodLink RX5 25 yX5_push, .instanceMethod yX5_push, .selects RX5 yX5_push yX5_push, .initialized RX5, .code yX5_push cX5_push 2 none, .fieldLink RX5 21 "RecordBench$Row" "size" "I", .fieldLink RX5 15 "RecordBench$Row" "bytes" "[I"] : List Cond) ++ wsX50)
theorem gs_wq_X5_pushWord_wsX50 : GoodIn wq_X5_pushWord wsX50 := fun w h => ⟨List.mem_cons_of_mem _ (List.mem_append_right _ h), (gt_wsX50 w h).2⟩
set_option maxRecDepth 20000 in
theorem gq_X5_pushWord_X5_push_25 : GoodIn wq_X5_pushWord (wsV RX5 25 RX5 yX5_push wq_X5_push) := goodIn_app (goodIn_r _ [1, 2, 3, 4] rfl rfl) (goodIn_ca (goodIn_r _ [5, 6, 7] rfl rfl) gs_wq_X5_pushWord_wsX50)
set_option maxHeartbeats 4000000 in
set_option maxRecDepth 100000 in
theorem c_X5_pushWord (l : Launch) (dC : Nat → ClassId) (dI : Nat → Nat → Nat) (ka ad : Nat → Nat) (ct : Nat → ClassId) (h0 : Nat) (p0 : Int32) (st st' : CS) (hf : fX5_pushWord h0 p0 st = some st') (sz : Nat) : Met l yX5_pushWord wq_X5_pushWord ({ frames := 1, cells := 0, slots := 0, locals := 25 }) (va_Pc [.ref (ad h0), .int p0] (PrC (dC, dI) ct ka ad st sz)) (va_Qv (fun (_ : Unit) => True) (fun _ => CB (dC, dI) ct ka ad st' (aC ad st sz)) (aC ad st sz)) 0 0 (aC ad st sz) := by
  refine Met.ofW (cc := cX5_pushWord) (maxL := 2) (ret := none) (by decide) rfl ?_
  intro p e s m args below meth c s₁ B hml hv
  obtain ⟨rfl, hsz, hw0, hK, hN, hZ, hC, hR, hL, hw1, hw2⟩ := hv
  have hx := B.exec
  have hb := B.bytes
  have hr := B.returns
  have hts := atoms_spec (ws := wq_X5_pushWord) B.pre
  have hown : s.vm.findClass RX5 = some m.cls := findClass_of_methodNamed B.named
  subst hsz
  have hp : Cp (dC, dI) ka ad ct (aC ad st s.heap.size) s.heap st s.heap [] := ⟨fun i a b => ⟨hw0 i a b, Or.inl ⟨i, a, b, rfl⟩⟩, va_S.rf, hw1, hw2⟩
  generalize hAe : aC ad st s.heap.size = A at hp hZ hC ⊢
  have hA : ∀ q : Nat, s.heap.size ≤ q → A q := fun q h => by rw [← hAe]; exact Or.inr h
  have hl := lv_entry ([.ref (ad h0), .int p0]) (n := 2) (Nat.le_of_ble_eq_true rfl)
  rw [lg_entry_eq]
  generalize (lg_sl ([.ref (ad h0), .int p0]) ++ List.replicate (2 - (lg_sl ([.ref (ad h0), .int p0])).length) Slot.unset).toArray = ls at hl ⊢
  have hl : lv_has ls 2 [(0, .ref (ad h0)), (1, .int p0)] := hl
  unfold fX5_pushWord at hf
  refine lv_aload_n hx hb dX5_pushWord_0 rfl (lv_at hl 0 rfl) ?_
  refine lv_iload_n hx hb dX5_pushWord_1 rfl (lv_at hl 1 rfl) ?_
  refine lv_bipush (v := 24) hx hb dX5_pushWord_2 (by decide) ?_
  refine lv_iushr (v := (p0.toUInt32 >>> ((24 : Int32).toUInt32 &&& Int32.toUInt32 31)).toInt32) hx hb dX5_pushWord_4 rfl ?_
  obtain ⟨hk_1, hf⟩ := gd_some hf
  obtain ⟨st_2, hc_3, hf⟩ := bnv_some hf
  refine q_cv hp hA (va_runV (As := [.int ((p0.toUInt32 >>> ((24 : Int32).toUInt32 &&& Int32.toUInt32 31)).toInt32)]) (rest := []) ⟨hx, hb, hml, hown, hts⟩ (c_X5_push l dC dI ka ad ct h0 ((p0.toUInt32 >>> ((24 : Int32).toUInt32 &&& Int32.toUInt32 31)).toInt32) _ _ hc_3 _) (cwV 1 hts gq_X5_pushWord_X5_push_25 rfl rfl rfl (by decide +kernel) ⟨Nat.le_of_ble_eq_true rfl, Nat.le_of_ble_eq_true rfl⟩) ⟨PrC.blind _, q_rv7 hK hp hC hk_1, q_pre hp hK hN hZ hC hR hL hA⟩ rfl rfl hl.1 rfl (lv_room (Nat.le_of_ble_eq_true rfl)) dX5_pushWord_5 ⟨Nat.le_of_ble_eq_true rfl, Nat.le_of_ble_eq_true rfl⟩) (fun H locs hp => ?_)
  have hk_1 : qk st_2 h0 = 8 := by rw [(mo_X5_push h0 ((p0.toUInt32 >>> ((24 : Int32).toUInt32 &&& Int32.toUInt32 31)).toInt32) _ _ hc_3).2.2.1]; exact hk_1
  refine lv_aload_n hx hb dX5_pushWord_8 rfl (lv_at hl 0 rfl) ?_
  refine lv_iload_n hx hb dX5_pushWord_9 rfl (lv_at hl 1 rfl) ?_
  refine lv_bipush (v := 16) hx hb dX5_pushWord_10 (by decide) ?_
  refine lv_iushr (v := (p0.toUInt32 >>> ((16 : Int32).toUInt32 &&& Int32.toUInt32 31)).toInt32) hx hb dX5_pushWord_12 rfl ?_
  obtain ⟨st_5, hc_6, hf⟩ := bnv_some hf
  refine q_cv hp hA (va_runV (As := [.int ((p0.toUInt32 >>> ((16 : Int32).toUInt32 &&& Int32.toUInt32 31)).toInt32)]) (rest := []) ⟨hx, hb, hml, hown, hts⟩ (c_X5_push l dC dI ka ad ct h0 ((p0.toUInt32 >>> ((16 : Int32).toUInt32 &&& Int32.toUInt32 31)).toInt32) _ _ hc_6 _) (cwV 1 hts gq_X5_pushWord_X5_push_25 rfl rfl rfl (by decide +kernel) ⟨Nat.le_of_ble_eq_true rfl, Nat.le_of_ble_eq_true rfl⟩) ⟨PrC.blind _, q_rv7 hK hp hC hk_1, q_pre hp hK hN hZ hC hR hL hA⟩ rfl rfl hl.1 rfl (lv_room (Nat.le_of_ble_eq_true rfl)) dX5_pushWord_13 ⟨Nat.le_of_ble_eq_true rfl, Nat.le_of_ble_eq_true rfl⟩) (fun H locs hp => ?_)
  have hk_1 : qk st_5 h0 = 8 := by rw [(mo_X5_push h0 ((p0.toUInt32 >>> ((16 : Int32).toUInt32 &&& Int32.toUInt32 31)).toInt32) _ _ hc_6).2.2.1]; exact hk_1
  refine lv_aload_n hx hb dX5_pushWord_16 rfl (lv_at hl 0 rfl) ?_
  refine lv_iload_n hx hb dX5_pushWord_17 rfl (lv_at hl 1 rfl) ?_
  refine lv_bipush (v := 8) hx hb dX5_pushWord_18 (by decide) ?_
  refine lv_iushr (v := (p0.toUInt32 >>> ((8 : Int32).toUInt32 &&& Int32.toUInt32 31)).toInt32) hx hb dX5_pushWord_20 rfl ?_
  obtain ⟨st_8, hc_9, hf⟩ := bnv_some hf
  refine q_cv hp hA (va_runV (As := [.int ((p0.toUInt32 >>> ((8 : Int32).toUInt32 &&& Int32.toUInt32 31)).toInt32)]) (rest := []) ⟨hx, hb, hml, hown, hts⟩ (c_X5_push l dC dI ka ad ct h0 ((p0.toUInt32 >>> ((8 : Int32).toUInt32 &&& Int32.toUInt32 31)).toInt32) _ _ hc_9 _) (cwV 1 hts gq_X5_pushWord_X5_push_25 rfl rfl rfl (by decide +kernel) ⟨Nat.le_of_ble_eq_true rfl, Nat.le_of_ble_eq_true rfl⟩) ⟨PrC.blind _, q_rv7 hK hp hC hk_1, q_pre hp hK hN hZ hC hR hL hA⟩ rfl rfl hl.1 rfl (lv_room (Nat.le_of_ble_eq_true rfl)) dX5_pushWord_21 ⟨Nat.le_of_ble_eq_true rfl, Nat.le_of_ble_eq_true rfl⟩) (fun H locs hp => ?_)
  have hk_1 : qk st_8 h0 = 8 := by rw [(mo_X5_push h0 ((p0.toUInt32 >>> ((8 : Int32).toUInt32 &&& Int32.toUInt32 31)).toInt32) _ _ hc_9).2.2.1]; exact hk_1
  refine lv_aload_n hx hb dX5_pushWord_24 rfl (lv_at hl 0 rfl) ?_
  refine lv_iload_n hx hb dX5_pushWord_25 rfl (lv_at hl 1 rfl) ?_
  obtain ⟨st_11, hc_12, hf⟩ := bnv_some hf
  refine q_cv hp hA (va_runV (As := [.int p0]) (rest := []) ⟨hx, hb, hml, hown, hts⟩ (c_X5_push l dC dI ka ad ct h0 p0 _ _ hc_12 _) (cwV 1 hts gq_X5_pushWord_X5_push_25 rfl rfl rfl (by decide +kernel) ⟨Nat.le_of_ble_eq_true rfl, Nat.le_of_ble_eq_true rfl⟩) ⟨PrC.blind _, q_rv7 hK hp hC hk_1, q_pre hp hK hN hZ hC hR hL hA⟩ rfl rfl hl.1 rfl (lv_room (Nat.le_of_ble_eq_true rfl)) dX5_pushWord_26 ⟨Nat.le_of_ble_eq_true rfl, Nat.le_of_ble_eq_true rfl⟩) (fun H locs hp => ?_)
  have hk_1 : qk st_11 h0 = 8 := by rw [(mo_X5_push h0 p0 _ _ hc_12).2.2.1]; exact hk_1
  have e2 := Option.some.inj hf
  exact W.vret hx hb hr (fun t ht hW => ⟨⟨(), rfl, trivial, Cp.end e2 hp ht⟩, hp.2.1.F ht⟩) hp.2.1.2.2 dX5_pushWord_29
noncomputable def fX5_pushVarint_47 (h0 : Nat)  (l3 : Int64) (gs : CS) : Option (CS) := gd (qk gs h0 = 8) (bnv (fX5_push h0 l3.toInt32 gs) (fun st_2 => some st_2))
set_option maxHeartbeats 1000000 in
theorem mo_X5_pushVarint_47 (h0 : Nat)   (l3 : Int64) (gs : CS) (st' : CS) (hf : fX5_pushVarint_47 h0 l3 gs = some st') : Ke gs st' := by
  unfold fX5_pushVarint_47 at hf
  have hm : Ke gs gs := Ke.rf
  obtain ⟨hk_1, hf⟩ := gd_some hf
  obtain ⟨st_2, hc_3, hf⟩ := bnv_some hf
  have hm := hm.tr (mo_X5_push h0 l3.toInt32 _ _ hc_3)
  have e2 := Option.some.inj hf
  exact e2 ▸ hm
noncomputable def fX5_pushVarint_5 (h0 : Nat)  : Nat → Int64 → Int32 → CS → Option (CS)
  | 0 => fun _ _ _ => none
  | n + 1 => fun l3 l5 gs => pif (10 ≤ l5) (fX5_pushVarint_47 h0 l3 gs) (pif ((lg_cmp (l3 &&& (-128)) (0 : Int64)) = 0) (fX5_pushVarint_47 h0 l3 gs) (gd (qk gs h0 = 8) (bnv (fX5_push h0 (((l3 &&& 127).toInt32) ||| 128) gs) (fun st_8 => nam ((l3.toUInt64 >>> ((7 : Int32).toInt64.toUInt64 &&& Int64.toUInt64 63)).toInt64) (fun v_11 => nam (l5 + 1) (fun v_12 => (fX5_pushVarint_5 h0 n) v_11 v_12 st_8))))))
theorem fX5_pushVarint_5_z (h0 : Nat)  (l3 : Int64) (l5 : Int32) (gs : CS) : fX5_pushVarint_5 h0 0 l3 l5 gs = none := rfl
theorem fX5_pushVarint_5_s (h0 : Nat)  (n : Nat) (l3 : Int64) (l5 : Int32) (gs : CS) : fX5_pushVarint_5 h0 (n + 1) l3 l5 gs = pif (10 ≤ l5) (fX5_pushVarint_47 h0 l3 gs) (pif ((lg_cmp (l3 &&& (-128)) (0 : Int64)) = 0) (fX5_pushVarint_47 h0 l3 gs) (gd (qk gs h0 = 8) (bnv (fX5_push h0 (((l3 &&& 127).toInt32) ||| 128) gs) (fun st_8 => nam ((l3.toUInt64 >>> ((7 : Int32).toInt64.toUInt64 &&& Int64.toUInt64 63)).toInt64) (fun v_11 => nam (l5 + 1) (fun v_12 => (fX5_pushVarint_5 h0 n) v_11 v_12 st_8)))))) := rfl
set_option maxHeartbeats 1000000 in
theorem mo_X5_pushVarint_5 (h0 : Nat)   : ∀ (n : Nat) (l3 : Int64) (l5 : Int32) (gs : CS) (st' : CS), fX5_pushVarint_5 h0 n l3 l5 gs = some st' → Ke gs st' := by
  intro n
  induction n with
  | zero =>
    intro l3 l5 gs st' hf
    rw [fX5_pushVarint_5_z] at hf
    cases hf
  | succ n ih =>
    intro l3 l5 gs st' hf
    rw [fX5_pushVarint_5_s] at hf
    have hm : Ke gs gs := Ke.rf
    rcases pif_or hf with ⟨c_5, hf⟩ | ⟨c_5, hf⟩
    · exact hm.tr (mo_X5_pushVarint_47 h0 l3 gs _ hf)
    · rcases pif_or hf with ⟨c_6, hf⟩ | ⟨c_6, hf⟩
      · exact hm.tr (mo_X5_pushVarint_47 h0 l3 gs _ hf)
      · obtain ⟨hk_7, hf⟩ := gd_some hf
        obtain ⟨st_8, hc_9, hf⟩ := bnv_some hf
        have hm := hm.tr (mo_X5_push h0 (((l3 &&& 127).toInt32) ||| 128) _ _ hc_9)
        obtain ⟨v_11, ev_11, hf⟩ := nam_some hf
        obtain ⟨v_12, ev_12, hf⟩ := nam_some hf
        exact hm.tr (ih v_11 v_12 st_8 _ hf)
noncomputable def fX5_pushVarint (h0 : Nat) (p0 : Int64) (st : CS) : Option (CS) := fX5_pushVarint_5 h0 fuel p0 0 st
set_option maxHeartbeats 1000000 in
theorem mo_X5_pushVarint (h0 : Nat) (p0 : Int64) (st : CS) (st' : CS) (hf : fX5_pushVarint h0 p0 st = some st') : Ke st st' := by
  unfold fX5_pushVarint at hf
  have hm : Ke st st := Ke.rf
  exact hm.tr (mo_X5_pushVarint_5 h0 fuel p0 0 st _ hf)
def wq_X5_pushVarint : List Cond := .code yX5_pushVarint cX5_pushVarint 6 none :: (([.constantLong RX5 29 (-128), .constantLong RX5 31 (127), .methodLink RX5 25 yX5_push, .instanceMethod yX5_push, .selects RX5 yX5_push yX5_push, .initialized RX5, .code yX5_push cX5_push 2 none, .fieldLink RX5 21 "RecordBench$Row" "size" "I", .fieldLink RX5 15 "RecordBench$Row" "bytes" "[I"] : List Cond) ++ wsX50)
theorem gs_wq_X5_pushVarint_wsX50 : GoodIn wq_X5_pushVarint wsX50 := fun w h => ⟨List.mem_cons_of_mem _ (List.mem_append_right _ h), (gt_wsX50 w h).2⟩
set_option maxRecDepth 20000 in
theorem gq_X5_pushVarint_X5_push_25 : GoodIn wq_X5_pushVarint (wsV RX5 25 RX5 yX5_push wq_X5_push) := goodIn_app (goodIn_r _ [3, 4, 5, 6] rfl rfl) (goodIn_ca (goodIn_r _ [7, 8, 9] rfl rfl) gs_wq_X5_pushVarint_wsX50)
set_option maxHeartbeats 4000000 in
set_option maxRecDepth 100000 in
theorem c_X5_pushVarint (l : Launch) (dC : Nat → ClassId) (dI : Nat → Nat → Nat) (ka ad : Nat → Nat) (ct : Nat → ClassId) (h0 : Nat) (p0 : Int64) (st st' : CS) (hf : fX5_pushVarint h0 p0 st = some st') (sz : Nat) : Met l yX5_pushVarint wq_X5_pushVarint ({ frames := 1, cells := 0, slots := 0, locals := 25 }) (va_Pc [.ref (ad h0), .long p0] (PrC (dC, dI) ct ka ad st sz)) (va_Qv (fun (_ : Unit) => True) (fun _ => CB (dC, dI) ct ka ad st' (aC ad st sz)) (aC ad st sz)) 0 0 (aC ad st sz) := by
  refine Met.ofW (cc := cX5_pushVarint) (maxL := 6) (ret := none) (by decide) rfl ?_
  intro p e s m args below meth c s₁ B hml hv
  obtain ⟨rfl, hsz, hw0, hK, hN, hZ, hC, hR, hL, hw1, hw2⟩ := hv
  have hx := B.exec
  have hb := B.bytes
  have hr := B.returns
  have hts := atoms_spec (ws := wq_X5_pushVarint) B.pre
  have hown : s.vm.findClass RX5 = some m.cls := findClass_of_methodNamed B.named
  subst hsz
  have hp : Cp (dC, dI) ka ad ct (aC ad st s.heap.size) s.heap st s.heap [] := ⟨fun i a b => ⟨hw0 i a b, Or.inl ⟨i, a, b, rfl⟩⟩, va_S.rf, hw1, hw2⟩
  generalize hAe : aC ad st s.heap.size = A at hp hZ hC ⊢
  have hA : ∀ q : Nat, s.heap.size ≤ q → A q := fun q h => by rw [← hAe]; exact Or.inr h
  have hl := lv_entry ([.ref (ad h0), .long p0]) (n := 6) (Nat.le_of_ble_eq_true rfl)
  rw [lg_entry_eq]
  generalize (lg_sl ([.ref (ad h0), .long p0]) ++ List.replicate (6 - (lg_sl ([.ref (ad h0), .long p0])).length) Slot.unset).toArray = ls at hl ⊢
  have hl : lv_has ls 6 [(0, .ref (ad h0)), (1, .long p0)] := hl
  refine W_blk (fun (u : Int64 × CS) H locs ls => match u with | (l3, gs) => fX5_pushVarint_47 h0 l3 gs = some st' ∧ Cp (dC, dI) ka ad ct A s.heap gs H locs ∧ lv_has ls 6 [(0, .ref (ad h0)), (3, .long l3)]) (fun (u : Int64 × CS) ls => match u with | (l3, gs) => F0 m 47 ls []) ?_ (fun J47 => ?_)
  · intro u H locs ls hu
    obtain ⟨l3, gs⟩ := u
    obtain ⟨hf, hp, hl⟩ := hu
    show W p l e _ s m _ below meth c _ _ _ _ _ (F0 m 47 ls [])
    unfold fX5_pushVarint_47 at hf
    refine lv_aload_n hx hb dX5_pushVarint_47 rfl (lv_at hl 0 rfl) ?_
    refine lv_lload_n hx hb dX5_pushVarint_48 rfl (lv_at hl 1 rfl) ?_
    refine lv_l2i (v := l3.toInt32) hx hb dX5_pushVarint_49 rfl ?_
    obtain ⟨hk_1, hf⟩ := gd_some hf
    obtain ⟨st_2, hc_3, hf⟩ := bnv_some hf
    refine q_cv hp hA (va_runV (As := [.int l3.toInt32]) (rest := []) ⟨hx, hb, hml, hown, hts⟩ (c_X5_push l dC dI ka ad ct h0 l3.toInt32 _ _ hc_3 _) (cwV 1 hts gq_X5_pushVarint_X5_push_25 rfl rfl rfl (by decide +kernel) ⟨Nat.le_of_ble_eq_true rfl, Nat.le_of_ble_eq_true rfl⟩) ⟨PrC.blind _, q_rv7 hK hp hC hk_1, q_pre hp hK hN hZ hC hR hL hA⟩ rfl rfl hl.1 rfl (lv_room (Nat.le_of_ble_eq_true rfl)) dX5_pushVarint_50 ⟨Nat.le_of_ble_eq_true rfl, Nat.le_of_ble_eq_true rfl⟩) (fun H locs hp => ?_)
    have hk_1 : qk st_2 h0 = 8 := by rw [(mo_X5_push h0 l3.toInt32 _ _ hc_3).2.2.1]; exact hk_1
    have e2 := Option.some.inj hf
    exact W.vret hx hb hr (fun t ht hW => ⟨⟨(), rfl, trivial, Cp.end e2 hp ht⟩, hp.2.1.F ht⟩) hp.2.1.2.2 dX5_pushVarint_53
  refine W_lp (fun n5 (u : Int64 × Int32 × CS) H locs ls => match u with | (l3, l5, gs) => fX5_pushVarint_5 h0 n5 l3 l5 gs = some st' ∧ Cp (dC, dI) ka ad ct A s.heap gs H locs ∧ lv_has ls 6 [(0, .ref (ad h0)), (3, .long l3), (5, .int l5)]) (fun (u : Int64 × Int32 × CS) ls => match u with | (l3, l5, gs) => F0 m 5 ls []) ?_ ?_ (fun J5 => ?_)
  · intro u H locs ls hu
    obtain ⟨l3, l5, gs⟩ := u
    obtain ⟨hf, hp, hl⟩ := hu
    rw [fX5_pushVarint_5_z] at hf
    cases hf
  · intro n5 ih5 u H locs ls hu
    obtain ⟨l3, l5, gs⟩ := u
    obtain ⟨hf, hp, hl⟩ := hu
    show W p l e _ s m _ below meth c _ _ _ _ _ (F0 m 5 ls [])
    rw [fX5_pushVarint_5_s] at hf
    refine lv_iload hx hb dX5_pushVarint_5 (lv_at hl 2 rfl) ?_
    refine lv_bipush (v := 10) hx hb dX5_pushVarint_7 (by decide) ?_
    refine lv_icmp_ge (tgt := 47) hx hb dX5_pushVarint_9 (by decide) (fun c_5 => ?_) (fun c_5 => ?_)
    · have hf := pif_t c_5 hf
      exact J47 (l3, gs) _ _ _ ⟨hf, hp, (lv_sub hl [0, 1] rfl)⟩
    · have hf := pif_f c_5 hf
      refine lv_lload_n hx hb dX5_pushVarint_12 rfl (lv_at hl 1 rfl) ?_
      refine lv_ldc2 hx hb hown (hts (.constantLong RX5 29 (-128)) (by decide +kernel)) dX5_pushVarint_13 ?_
      refine lv_land hx hb dX5_pushVarint_16 ?_
      refine lv_lconst (v := 0) hx hb dX5_pushVarint_17 (by decide) ?_
      refine W.lcmp hx hb dX5_pushVarint_18 ?_
      refine lv_if_eq (tgt := 47) hx hb dX5_pushVarint_19 (by decide) (fun c_6 => ?_) (fun c_6 => ?_)
      · have hf := pif_t c_6 hf
        exact J47 (l3, gs) _ _ _ ⟨hf, hp, (lv_sub hl [0, 1] rfl)⟩
      · have hf := pif_f c_6 hf
        refine lv_aload_n hx hb dX5_pushVarint_22 rfl (lv_at hl 0 rfl) ?_
        refine lv_lload_n hx hb dX5_pushVarint_23 rfl (lv_at hl 1 rfl) ?_
        refine lv_ldc2 hx hb hown (hts (.constantLong RX5 31 (127)) (by decide +kernel)) dX5_pushVarint_24 ?_
        refine lv_land hx hb dX5_pushVarint_27 ?_
        refine lv_l2i (v := (l3 &&& 127).toInt32) hx hb dX5_pushVarint_28 rfl ?_
        refine lv_sipush (v := 128) hx hb dX5_pushVarint_29 (by decide) ?_
        refine lv_ior hx hb dX5_pushVarint_32 ?_
        obtain ⟨hk_7, hf⟩ := gd_some hf
        obtain ⟨st_8, hc_9, hf⟩ := bnv_some hf
        refine q_cv hp hA (va_runV (As := [.int (((l3 &&& 127).toInt32) ||| 128)]) (rest := []) ⟨hx, hb, hml, hown, hts⟩ (c_X5_push l dC dI ka ad ct h0 (((l3 &&& 127).toInt32) ||| 128) _ _ hc_9 _) (cwV 1 hts gq_X5_pushVarint_X5_push_25 rfl rfl rfl (by decide +kernel) ⟨Nat.le_of_ble_eq_true rfl, Nat.le_of_ble_eq_true rfl⟩) ⟨PrC.blind _, q_rv7 hK hp hC hk_7, q_pre hp hK hN hZ hC hR hL hA⟩ rfl rfl hl.1 rfl (lv_room (Nat.le_of_ble_eq_true rfl)) dX5_pushVarint_33 ⟨Nat.le_of_ble_eq_true rfl, Nat.le_of_ble_eq_true rfl⟩) (fun H locs hp => ?_)
        have hk_7 : qk st_8 h0 = 8 := by rw [(mo_X5_push h0 (((l3 &&& 127).toInt32) ||| 128) _ _ hc_9).2.2.1]; exact hk_7
        refine lv_lload_n hx hb dX5_pushVarint_36 rfl (lv_at hl 1 rfl) ?_
        refine lv_bipush (v := 7) hx hb dX5_pushVarint_37 (by decide) ?_
        refine lv_lushr (v := (l3.toUInt64 >>> ((7 : Int32).toInt64.toUInt64 &&& Int64.toUInt64 63)).toInt64) hx hb dX5_pushVarint_39 rfl ?_
        obtain ⟨v_11, ev_11, hf⟩ := nam_some hf
        refine W_tol (y := v_11) ev_11.symm ?_
        refine lv_lstore_n (i := 3) (lv' := [(3, .long v_11), (0, .ref (ad h0)), (5, .int l5)]) hx hb dX5_pushVarint_40 rfl hl (by decide) rfl (fun ls hl => ?_)
        obtain ⟨v_12, ev_12, hf⟩ := nam_some hf
        refine lv_iinc (v := v_12) (lv' := [(5, .int v_12), (3, .long v_11), (0, .ref (ad h0))]) hx hb dX5_pushVarint_41 hl (k := 2) rfl ev_12.symm (by decide) rfl (fun ls hl => ?_)
        refine lv_goto (tgt := 5) hx hb dX5_pushVarint_44 (by decide) ?_
        exact ih5 (v_11, v_12, st_8) _ _ _ ⟨hf, hp, (lv_sub hl [2, 1, 0] rfl)⟩
  unfold fX5_pushVarint at hf
  refine lv_lload_n hx hb dX5_pushVarint_0 rfl (lv_at hl 1 rfl) ?_
  refine lv_lstore_n (i := 3) (lv' := [(3, .long p0), (0, .ref (ad h0)), (1, .long p0)]) hx hb dX5_pushVarint_1 rfl hl (by decide) rfl (fun ls hl => ?_)
  refine lv_iconst (v := 0) hx hb dX5_pushVarint_2 (by decide) ?_
  refine lv_istore (i := 5) (lv' := [(5, .int 0), (3, .long p0), (0, .ref (ad h0)), (1, .long p0)]) hx hb dX5_pushVarint_3 hl (by decide) rfl (fun ls hl => ?_)
  exact J5 fuel (p0, 0, st) _ _ _ ⟨hf, hp, (lv_sub hl [2, 1, 0] rfl)⟩
noncomputable def fX5_pushNumber (h0 : Nat) (p0 : Int64) (st : CS) : Option (CS) := gd (qk st h0 = 8) (bnv (fX5_pushVarint h0 ((p0 <<< ((1 : Int32).toInt64 &&& 63)) ^^^ (p0 >>> ((63 : Int32).toInt64 &&& 63))) st) (fun st_2 => some st_2))
set_option maxHeartbeats 1000000 in
theorem mo_X5_pushNumber (h0 : Nat) (p0 : Int64) (st : CS) (st' : CS) (hf : fX5_pushNumber h0 p0 st = some st') : Ke st st' := by
  unfold fX5_pushNumber at hf
  have hm : Ke st st := Ke.rf
  obtain ⟨hk_1, hf⟩ := gd_some hf
  obtain ⟨st_2, hc_3, hf⟩ := bnv_some hf
  have hm := hm.tr (mo_X5_pushVarint h0 ((p0 <<< ((1 : Int32).toInt64 &&& 63)) ^^^ (p0 >>> ((63 : Int32).toInt64 &&& 63))) _ _ hc_3)
  have e2 := Option.some.inj hf
  exact e2 ▸ hm
def wq_X5_pushNumber : List Cond := .code yX5_pushNumber cX5_pushNumber 3 none :: (([.methodLink RX5 33 yX5_pushVarint, .instanceMethod yX5_pushVarint, .selects RX5 yX5_pushVarint yX5_pushVarint, .initialized RX5, .code yX5_pushVarint cX5_pushVarint 6 none, .constantLong RX5 29 (-128), .constantLong RX5 31 (127), .methodLink RX5 25 yX5_push, .instanceMethod yX5_push, .selects RX5 yX5_push yX5_push, .code yX5_push cX5_push 2 none, .fieldLink RX5 21 "RecordBench$Row" "size" "I", .fieldLink RX5 15 "RecordBench$Row" "bytes" "[I"] : List Cond) ++ wsX50)
theorem gs_wq_X5_pushNumber_wsX50 : GoodIn wq_X5_pushNumber wsX50 := fun w h => ⟨List.mem_cons_of_mem _ (List.mem_append_right _ h), (gt_wsX50 w h).2⟩
set_option maxRecDepth 20000 in
theorem gq_X5_pushNumber_X5_pushVarint_33 : GoodIn wq_X5_pushNumber (wsV RX5 33 RX5 yX5_pushVarint wq_X5_pushVarint) := goodIn_app (goodIn_r _ [1, 2, 3, 4] rfl rfl) (goodIn_ca (goodIn_r _ [5, 6, 7, 8, 9, 10, 4, 11, 12, 13] rfl rfl) gs_wq_X5_pushNumber_wsX50)
set_option maxHeartbeats 4000000 in
set_option maxRecDepth 100000 in
theorem c_X5_pushNumber (l : Launch) (dC : Nat → ClassId) (dI : Nat → Nat → Nat) (ka ad : Nat → Nat) (ct : Nat → ClassId) (h0 : Nat) (p0 : Int64) (st st' : CS) (hf : fX5_pushNumber h0 p0 st = some st') (sz : Nat) : Met l yX5_pushNumber wq_X5_pushNumber ({ frames := 2, cells := 0, slots := 0, locals := 54 }) (va_Pc [.ref (ad h0), .long p0] (PrC (dC, dI) ct ka ad st sz)) (va_Qv (fun (_ : Unit) => True) (fun _ => CB (dC, dI) ct ka ad st' (aC ad st sz)) (aC ad st sz)) 0 0 (aC ad st sz) := by
  refine Met.ofW (cc := cX5_pushNumber) (maxL := 3) (ret := none) (by decide) rfl ?_
  intro p e s m args below meth c s₁ B hml hv
  obtain ⟨rfl, hsz, hw0, hK, hN, hZ, hC, hR, hL, hw1, hw2⟩ := hv
  have hx := B.exec
  have hb := B.bytes
  have hr := B.returns
  have hts := atoms_spec (ws := wq_X5_pushNumber) B.pre
  have hown : s.vm.findClass RX5 = some m.cls := findClass_of_methodNamed B.named
  subst hsz
  have hp : Cp (dC, dI) ka ad ct (aC ad st s.heap.size) s.heap st s.heap [] := ⟨fun i a b => ⟨hw0 i a b, Or.inl ⟨i, a, b, rfl⟩⟩, va_S.rf, hw1, hw2⟩
  generalize hAe : aC ad st s.heap.size = A at hp hZ hC ⊢
  have hA : ∀ q : Nat, s.heap.size ≤ q → A q := fun q h => by rw [← hAe]; exact Or.inr h
  have hl := lv_entry ([.ref (ad h0), .long p0]) (n := 3) (Nat.le_of_ble_eq_true rfl)
  rw [lg_entry_eq]
  generalize (lg_sl ([.ref (ad h0), .long p0]) ++ List.replicate (3 - (lg_sl ([.ref (ad h0), .long p0])).length) Slot.unset).toArray = ls at hl ⊢
  have hl : lv_has ls 3 [(0, .ref (ad h0)), (1, .long p0)] := hl
  unfold fX5_pushNumber at hf
  refine lv_aload_n hx hb dX5_pushNumber_0 rfl (lv_at hl 0 rfl) ?_
  refine lv_lload_n hx hb dX5_pushNumber_1 rfl (lv_at hl 1 rfl) ?_
  refine lv_iconst (v := 1) hx hb dX5_pushNumber_2 (by decide) ?_
  refine lv_lshl (v := p0 <<< ((1 : Int32).toInt64 &&& 63)) hx hb dX5_pushNumber_3 rfl ?_
  refine lv_lload_n hx hb dX5_pushNumber_4 rfl (lv_at hl 1 rfl) ?_
  refine lv_bipush (v := 63) hx hb dX5_pushNumber_5 (by decide) ?_
  refine lv_lshr (v := p0 >>> ((63 : Int32).toInt64 &&& 63)) hx hb dX5_pushNumber_7 rfl ?_
  refine lv_lxor hx hb dX5_pushNumber_8 ?_
  obtain ⟨hk_1, hf⟩ := gd_some hf
  obtain ⟨st_2, hc_3, hf⟩ := bnv_some hf
  refine q_cv hp hA (va_runV (As := [.long ((p0 <<< ((1 : Int32).toInt64 &&& 63)) ^^^ (p0 >>> ((63 : Int32).toInt64 &&& 63)))]) (rest := []) ⟨hx, hb, hml, hown, hts⟩ (c_X5_pushVarint l dC dI ka ad ct h0 ((p0 <<< ((1 : Int32).toInt64 &&& 63)) ^^^ (p0 >>> ((63 : Int32).toInt64 &&& 63))) _ _ hc_3 _) (cwV 1 hts gq_X5_pushNumber_X5_pushVarint_33 rfl rfl rfl (by decide +kernel) ⟨Nat.le_of_ble_eq_true rfl, Nat.le_of_ble_eq_true rfl⟩) ⟨PrC.blind _, q_rv7 hK hp hC hk_1, q_pre hp hK hN hZ hC hR hL hA⟩ rfl rfl hl.1 rfl (lv_room (Nat.le_of_ble_eq_true rfl)) dX5_pushNumber_9 ⟨Nat.le_of_ble_eq_true rfl, Nat.le_of_ble_eq_true rfl⟩) (fun H locs hp => ?_)
  have hk_1 : qk st_2 h0 = 8 := by rw [(mo_X5_pushVarint h0 ((p0 <<< ((1 : Int32).toInt64 &&& 63)) ^^^ (p0 >>> ((63 : Int32).toInt64 &&& 63))) _ _ hc_3).2.2.1]; exact hk_1
  have e2 := Option.some.inj hf
  exact W.vret hx hb hr (fun t ht hW => ⟨⟨(), rfl, trivial, Cp.end e2 hp ht⟩, hp.2.1.F ht⟩) hp.2.1.2.2 dX5_pushNumber_12
noncomputable def fX5_isTextByte (p0 : Int32) (st : CS) : Option (Int32 × CS) := pif (p0 < 32) (some ((0 : Int32), st)) (pif (126 < p0) (some ((0 : Int32), st)) (some ((1 : Int32), st)))
set_option maxHeartbeats 1000000 in
theorem mo_X5_isTextByte (p0 : Int32) (st : CS) (r : Int32) (st' : CS) (hf : fX5_isTextByte p0 st = some (r, st')) : Ke st st' := by
  unfold fX5_isTextByte at hf
  have hm : Ke st st := Ke.rf
  rcases pif_or hf with ⟨c_1, hf⟩ | ⟨c_1, hf⟩
  · obtain ⟨e1, e2⟩ := pr_some hf
    exact e2 ▸ hm
  · rcases pif_or hf with ⟨c_2, hf⟩ | ⟨c_2, hf⟩
    · obtain ⟨e1, e2⟩ := pr_some hf
      exact e2 ▸ hm
    · obtain ⟨e1, e2⟩ := pr_some hf
      exact e2 ▸ hm
def wq_X5_isTextByte : List Cond := .code yX5_isTextByte cX5_isTextByte 1 (some .boolean) :: ([])
set_option maxHeartbeats 4000000 in
set_option maxRecDepth 100000 in
theorem c_X5_isTextByte (l : Launch) (dC : Nat → ClassId) (dI : Nat → Nat → Nat) (ka ad : Nat → Nat) (ct : Nat → ClassId) (p0 : Int32) (st st' : CS) (r : Int32) (hf : fX5_isTextByte p0 st = some (r, st')) (sz : Nat) : Met l yX5_isTextByte wq_X5_isTextByte ({ frames := 0, cells := 0, slots := 0, locals := 0 }) (va_Pc [.int p0] (PrC (dC, dI) ct ka ad st sz)) (va_Qi (fun r' (_ : Unit) => r' = r) (fun _ => CB (dC, dI) ct ka ad st' (aC ad st sz)) (aC ad st sz)) 0 0 (aC ad st sz) := by
  refine Met.ofW (cc := cX5_isTextByte) (maxL := 1) (ret := (some .boolean)) (by decide) rfl ?_
  intro p e s m args below meth c s₁ B hml hv
  obtain ⟨rfl, hsz, hw0, hK, hN, hZ, hC, hR, hL, hw1, hw2⟩ := hv
  have hx := B.exec
  have hb := B.bytes
  have hr := B.returns
  have hts := atoms_spec (ws := wq_X5_isTextByte) B.pre
  have hown : s.vm.findClass RX5 = some m.cls := findClass_of_methodNamed B.named
  subst hsz
  have hp : Cp (dC, dI) ka ad ct (aC ad st s.heap.size) s.heap st s.heap [] := ⟨fun i a b => ⟨hw0 i a b, Or.inl ⟨i, a, b, rfl⟩⟩, va_S.rf, hw1, hw2⟩
  generalize hAe : aC ad st s.heap.size = A at hp hZ hC ⊢
  have hA : ∀ q : Nat, s.heap.size ≤ q → A q := fun q h => by rw [← hAe]; exact Or.inr h
  have hl := lv_entry ([.int p0]) (n := 1) (Nat.le_of_ble_eq_true rfl)
  rw [lg_entry_eq]
  generalize (lg_sl ([.int p0]) ++ List.replicate (1 - (lg_sl ([.int p0])).length) Slot.unset).toArray = ls at hl ⊢
  have hl : lv_has ls 1 [(0, .int p0)] := hl
  unfold fX5_isTextByte at hf
  refine lv_iload_n hx hb dX5_isTextByte_0 rfl (lv_at hl 0 rfl) ?_
  refine lv_bipush (v := 32) hx hb dX5_isTextByte_1 (by decide) ?_
  refine lv_icmp_lt (tgt := 16) hx hb dX5_isTextByte_3 (by decide) (fun c_1 => ?_) (fun c_1 => ?_)
  · have hf := pif_t c_1 hf
    refine lv_iconst (v := 0) hx hb dX5_isTextByte_16 (by decide) ?_
    obtain ⟨e1, e2⟩ := pr_some hf
    exact W.zret (v := 0) hx hb hr rfl (fun t ht hW => ⟨⟨0, (), rfl, e1, Cp.end e2 hp ht⟩, hp.2.1.F ht⟩) hp.2.1.2.2 dX5_isTextByte_17
  · have hf := pif_f c_1 hf
    refine lv_iload_n hx hb dX5_isTextByte_6 rfl (lv_at hl 0 rfl) ?_
    refine lv_bipush (v := 126) hx hb dX5_isTextByte_7 (by decide) ?_
    refine lv_icmp_gt (tgt := 16) hx hb dX5_isTextByte_9 (by decide) (fun c_2 => ?_) (fun c_2 => ?_)
    · have hf := pif_t c_2 hf
      refine lv_iconst (v := 0) hx hb dX5_isTextByte_16 (by decide) ?_
      obtain ⟨e1, e2⟩ := pr_some hf
      exact W.zret (v := 0) hx hb hr rfl (fun t ht hW => ⟨⟨0, (), rfl, e1, Cp.end e2 hp ht⟩, hp.2.1.F ht⟩) hp.2.1.2.2 dX5_isTextByte_17
    · have hf := pif_f c_2 hf
      refine lv_iconst (v := 1) hx hb dX5_isTextByte_12 (by decide) ?_
      refine lv_goto (tgt := 17) hx hb dX5_isTextByte_13 (by decide) ?_
      obtain ⟨e1, e2⟩ := pr_some hf
      exact W.zret (v := 1) hx hb hr rfl (fun t ht hW => ⟨⟨1, (), rfl, e1, Cp.end e2 hp ht⟩, hp.2.1.F ht⟩) hp.2.1.2.2 dX5_isTextByte_17
noncomputable def fX5_replace (h0 : Nat) (p0 : Int32) (p1 : Int32) (st : CS) : Option (CS) := pif (p0 < 0) (some st) (gd (qk st h0 = 8) (pif ((qI st h0 1) ≤ p0) (some st) (ono (qP st h0 0) (fun a_4 => gd (qk st a_4 = 21) (gd (vp_in p0 (ql st a_4)) (nam (wI st a_4 p0.toNatClampNeg (p1 &&& 255)) (fun st_8 => some st_8)))))))
set_option maxHeartbeats 1000000 in
theorem mo_X5_replace (h0 : Nat) (p0 : Int32) (p1 : Int32) (st : CS) (st' : CS) (hf : fX5_replace h0 p0 p1 st = some st') : Ke st st' := by
  unfold fX5_replace at hf
  have hm : Ke st st := Ke.rf
  rcases pif_or hf with ⟨c_1, hf⟩ | ⟨c_1, hf⟩
  · have e2 := Option.some.inj hf
    exact e2 ▸ hm
  · obtain ⟨hk_2, hf⟩ := gd_some hf
    rcases pif_or hf with ⟨c_3, hf⟩ | ⟨c_3, hf⟩
    · have e2 := Option.some.inj hf
      exact e2 ▸ hm
    · obtain ⟨a_4, ha_5, hf⟩ := ono_some hf
      obtain ⟨hk_6, hf⟩ := gd_some hf
      obtain ⟨g_7, hf⟩ := gd_some hf
      obtain ⟨st_8, est_8, hf⟩ := nam_some hf
      have hm := hm.wI est_8
      have e2 := Option.some.inj hf
      exact e2 ▸ hm
def wq_X5_replace : List Cond := .code yX5_replace cX5_replace 3 none :: (([.fieldLink RX5 21 "RecordBench$Row" "size" "I", .fieldLink RX5 15 "RecordBench$Row" "bytes" "[I"] : List Cond) ++ wsX50)
set_option maxHeartbeats 4000000 in
set_option maxRecDepth 100000 in
theorem c_X5_replace (l : Launch) (dC : Nat → ClassId) (dI : Nat → Nat → Nat) (ka ad : Nat → Nat) (ct : Nat → ClassId) (h0 : Nat) (p0 : Int32) (p1 : Int32) (st st' : CS) (hf : fX5_replace h0 p0 p1 st = some st') (sz : Nat) : Met l yX5_replace wq_X5_replace ({ frames := 0, cells := 0, slots := 0, locals := 0 }) (va_Pc [.ref (ad h0), .int p0, .int p1] (PrC (dC, dI) ct ka ad st sz)) (va_Qv (fun (_ : Unit) => True) (fun _ => CB (dC, dI) ct ka ad st' (aC ad st sz)) (aC ad st sz)) 0 0 (aC ad st sz) := by
  refine Met.ofW (cc := cX5_replace) (maxL := 3) (ret := none) (by decide) rfl ?_
  intro p e s m args below meth c s₁ B hml hv
  obtain ⟨rfl, hsz, hw0, hK, hN, hZ, hC, hR, hL, hw1, hw2⟩ := hv
  have hx := B.exec
  have hb := B.bytes
  have hr := B.returns
  have hts := atoms_spec (ws := wq_X5_replace) B.pre
  have hown : s.vm.findClass RX5 = some m.cls := findClass_of_methodNamed B.named
  have iRX5 : ∀ w ∈ u_ws RX5 TX5 2, w ∈ wq_X5_replace := fun w h => List.mem_cons_of_mem _ (List.mem_append_right _ h)
  subst hsz
  have hp : Cp (dC, dI) ka ad ct (aC ad st s.heap.size) s.heap st s.heap [] := ⟨fun i a b => ⟨hw0 i a b, Or.inl ⟨i, a, b, rfl⟩⟩, va_S.rf, hw1, hw2⟩
  generalize hAe : aC ad st s.heap.size = A at hp hZ hC ⊢
  have hA : ∀ q : Nat, s.heap.size ≤ q → A q := fun q h => by rw [← hAe]; exact Or.inr h
  have hl := lv_entry ([.ref (ad h0), .int p0, .int p1]) (n := 3) (Nat.le_of_ble_eq_true rfl)
  rw [lg_entry_eq]
  generalize (lg_sl ([.ref (ad h0), .int p0, .int p1]) ++ List.replicate (3 - (lg_sl ([.ref (ad h0), .int p0, .int p1])).length) Slot.unset).toArray = ls at hl ⊢
  have hl : lv_has ls 3 [(0, .ref (ad h0)), (1, .int p0), (2, .int p1)] := hl
  unfold fX5_replace at hf
  refine lv_iload_n hx hb dX5_replace_0 rfl (lv_at hl 1 rfl) ?_
  refine lv_if_lt (tgt := 23) hx hb dX5_replace_1 (by decide) (fun c_1 => ?_) (fun c_1 => ?_)
  · have hf := pif_t c_1 hf
    have e2 := Option.some.inj hf
    exact W.vret hx hb hr (fun t ht hW => ⟨⟨(), rfl, trivial, Cp.end e2 hp ht⟩, hp.2.1.F ht⟩) hp.2.1.2.2 dX5_replace_23
  · have hf := pif_f c_1 hf
    refine lv_iload_n hx hb dX5_replace_4 rfl (lv_at hl 1 rfl) ?_
    refine lv_aload_n hx hb dX5_replace_5 rfl (lv_at hl 0 rfl) ?_
    obtain ⟨hk_2, hf⟩ := gd_some hf
    refine q_gi (ci := 7) (C := RX5) (T := TX5) (N := 2) (k := 1) hx hb hts iRX5 hown hK hp hk_2 (by decide) rfl rfl (by decide) rfl (Or.inl (hts (.fieldLink RX5 21 "RecordBench$Row" "size" "I") (by decide +kernel))) (fun _ h9 => h9) dX5_replace_6 ?_
    refine lv_icmp_ge (tgt := 23) hx hb dX5_replace_9 (by decide) (fun c_3 => ?_) (fun c_3 => ?_)
    · have hf := pif_t c_3 hf
      have e2 := Option.some.inj hf
      exact W.vret hx hb hr (fun t ht hW => ⟨⟨(), rfl, trivial, Cp.end e2 hp ht⟩, hp.2.1.F ht⟩) hp.2.1.2.2 dX5_replace_23
    · have hf := pif_f c_3 hf
      refine lv_aload_n hx hb dX5_replace_12 rfl (lv_at hl 0 rfl) ?_
      refine q_gp (ci := 7) (C := RX5) (T := TX5) (N := 2) (k := 0) hx hb hts iRX5 hown hK hp hk_2 (by decide) rfl rfl (by decide) rfl (Or.inl (hts (.fieldLink RX5 15 "RecordBench$Row" "bytes" "[I") (by decide +kernel))) (fun _ h9 => h9) dX5_replace_13 ?_
      refine lv_iload_n hx hb dX5_replace_16 rfl (lv_at hl 1 rfl) ?_
      refine lv_iload_n hx hb dX5_replace_17 rfl (lv_at hl 2 rfl) ?_
      refine lv_sipush (v := 255) hx hb dX5_replace_18 (by decide) ?_
      refine lv_iand hx hb dX5_replace_21 ?_
      obtain ⟨a_4, ha_5, hf⟩ := ono_some hf
      refine o_at2 ha_5 ?_
      obtain ⟨hk_6, hf⟩ := gd_some hf
      obtain ⟨g_7, hf⟩ := gd_some hf
      refine q_si hx hb hK hp hk_6 g_7 dX5_replace_22 (fun H locs hp => ?_)
      obtain ⟨st_8, est_8, hf⟩ := nam_some hf
      rw [← est_8] at hp
      have hk_2 : qk st_8 h0 = 8 := by rw [est_8]; exact hk_2
      have hk_6 : qk st_8 a_4 = 21 := by rw [est_8]; exact hk_6
      have e2 := Option.some.inj hf
      exact W.vret hx hb hr (fun t ht hW => ⟨⟨(), rfl, trivial, Cp.end e2 hp ht⟩, hp.2.1.F ht⟩) hp.2.1.2.2 dX5_replace_23
noncomputable def fX5_append_3 (h0 : Nat)  : Nat → Option Nat → Int32 → Int32 → CS → Option (CS)
  | 0 => fun _ _ _ _ => none
  | n + 1 => fun l1 l3 l4 gs => pif (l3 ≤ l4) (some gs) (ono l1 (fun a_2 => gd (qk gs a_2 = 8) (bnd (fX5_byteAt a_2 l4 gs) (fun r_7 st_5 => gd (qk st_5 h0 = 8) (bnv (fX5_push h0 r_7 st_5) (fun st_9 => nam (l4 + 1) (fun v_12 => (fX5_append_3 h0 n) l1 l3 v_12 st_9)))))))
theorem fX5_append_3_z (h0 : Nat)  (l1 : Option Nat) (l3 : Int32) (l4 : Int32) (gs : CS) : fX5_append_3 h0 0 l1 l3 l4 gs = none := rfl
theorem fX5_append_3_s (h0 : Nat)  (n : Nat) (l1 : Option Nat) (l3 : Int32) (l4 : Int32) (gs : CS) : fX5_append_3 h0 (n + 1) l1 l3 l4 gs = pif (l3 ≤ l4) (some gs) (ono l1 (fun a_2 => gd (qk gs a_2 = 8) (bnd (fX5_byteAt a_2 l4 gs) (fun r_7 st_5 => gd (qk st_5 h0 = 8) (bnv (fX5_push h0 r_7 st_5) (fun st_9 => nam (l4 + 1) (fun v_12 => (fX5_append_3 h0 n) l1 l3 v_12 st_9))))))) := rfl
set_option maxHeartbeats 1000000 in
theorem mo_X5_append_3 (h0 : Nat)   : ∀ (n : Nat) (l1 : Option Nat) (l3 : Int32) (l4 : Int32) (gs : CS) (st' : CS), fX5_append_3 h0 n l1 l3 l4 gs = some st' → Ke gs st' := by
  intro n
  induction n with
  | zero =>
    intro l1 l3 l4 gs st' hf
    rw [fX5_append_3_z] at hf
    cases hf
  | succ n ih =>
    intro l1 l3 l4 gs st' hf
    rw [fX5_append_3_s] at hf
    have hm : Ke gs gs := Ke.rf
    rcases pif_or hf with ⟨c_1, hf⟩ | ⟨c_1, hf⟩
    · have e2 := Option.some.inj hf
      exact e2 ▸ hm
    · obtain ⟨a_2, ha_3, hf⟩ := ono_some hf
      obtain ⟨hk_4, hf⟩ := gd_some hf
      obtain ⟨r_7, st_5, hc_6, hf⟩ := bnd_some hf
      have hm := hm.tr (mo_X5_byteAt a_2 l4 _ _ _ hc_6)
      obtain ⟨hk_8, hf⟩ := gd_some hf
      obtain ⟨st_9, hc_10, hf⟩ := bnv_some hf
      have hm := hm.tr (mo_X5_push h0 r_7 _ _ hc_10)
      obtain ⟨v_12, ev_12, hf⟩ := nam_some hf
      exact hm.tr (ih l1 l3 v_12 st_9 _ hf)
noncomputable def fX5_append (h0 : Nat) (p0 : Option Nat) (p1 : Int32) (p2 : Int32) (st : CS) : Option (CS) := fX5_append_3 h0 fuel p0 p2 p1 st
set_option maxHeartbeats 1000000 in
theorem mo_X5_append (h0 : Nat) (p0 : Option Nat) (p1 : Int32) (p2 : Int32) (st : CS) (st' : CS) (hf : fX5_append h0 p0 p1 p2 st = some st') : Ke st st' := by
  unfold fX5_append at hf
  have hm : Ke st st := Ke.rf
  exact hm.tr (mo_X5_append_3 h0 fuel p0 p2 p1 st _ hf)
def wq_X5_append : List Cond := .code yX5_append cX5_append 5 none :: (([.methodLink RX5 48 yX5_byteAt, .instanceMethod yX5_byteAt, .selects RX5 yX5_byteAt yX5_byteAt, .initialized RX5, .methodLink RX5 25 yX5_push, .instanceMethod yX5_push, .selects RX5 yX5_push yX5_push, .code yX5_byteAt cX5_byteAt 2 (some .int), .fieldLink RX5 21 "RecordBench$Row" "size" "I", .fieldLink RX5 15 "RecordBench$Row" "bytes" "[I", .code yX5_push cX5_push 2 none] : List Cond) ++ wsX50)
theorem gs_wq_X5_append_wsX50 : GoodIn wq_X5_append wsX50 := fun w h => ⟨List.mem_cons_of_mem _ (List.mem_append_right _ h), (gt_wsX50 w h).2⟩
set_option maxRecDepth 20000 in
theorem gq_X5_append_X5_byteAt_48 : GoodIn wq_X5_append (wsV RX5 48 RX5 yX5_byteAt wq_X5_byteAt) := goodIn_app (goodIn_r _ [1, 2, 3, 4] rfl rfl) (goodIn_ca (goodIn_r _ [8, 9, 10] rfl rfl) gs_wq_X5_append_wsX50)
set_option maxRecDepth 20000 in
theorem gq_X5_append_X5_push_25 : GoodIn wq_X5_append (wsV RX5 25 RX5 yX5_push wq_X5_push) := goodIn_app (goodIn_r _ [5, 6, 7, 4] rfl rfl) (goodIn_ca (goodIn_r _ [11, 9, 10] rfl rfl) gs_wq_X5_append_wsX50)
set_option maxHeartbeats 4000000 in
set_option maxRecDepth 100000 in
theorem c_X5_append (l : Launch) (dC : Nat → ClassId) (dI : Nat → Nat → Nat) (ka ad : Nat → Nat) (ct : Nat → ClassId) (h0 : Nat) (p0 : Option Nat) (p1 : Int32) (p2 : Int32) (st st' : CS) (hf : fX5_append h0 p0 p1 p2 st = some st') (sz : Nat) : Met l yX5_append wq_X5_append ({ frames := 1, cells := 0, slots := 0, locals := 25 }) (va_Pc [.ref (ad h0), va_rf (Option.map ad p0), .int p1, .int p2] (PrC (dC, dI) ct ka ad st sz)) (va_Qv (fun (_ : Unit) => True) (fun _ => CB (dC, dI) ct ka ad st' (aC ad st sz)) (aC ad st sz)) 0 0 (aC ad st sz) := by
  refine Met.ofW (cc := cX5_append) (maxL := 5) (ret := none) (by decide) rfl ?_
  intro p e s m args below meth c s₁ B hml hv
  obtain ⟨rfl, hsz, hw0, hK, hN, hZ, hC, hR, hL, hw1, hw2⟩ := hv
  have hx := B.exec
  have hb := B.bytes
  have hr := B.returns
  have hts := atoms_spec (ws := wq_X5_append) B.pre
  have hown : s.vm.findClass RX5 = some m.cls := findClass_of_methodNamed B.named
  subst hsz
  have hp : Cp (dC, dI) ka ad ct (aC ad st s.heap.size) s.heap st s.heap [] := ⟨fun i a b => ⟨hw0 i a b, Or.inl ⟨i, a, b, rfl⟩⟩, va_S.rf, hw1, hw2⟩
  generalize hAe : aC ad st s.heap.size = A at hp hZ hC ⊢
  have hA : ∀ q : Nat, s.heap.size ≤ q → A q := fun q h => by rw [← hAe]; exact Or.inr h
  have hl := lv_entry ([.ref (ad h0), va_rf (Option.map ad p0), .int p1, .int p2]) (n := 5) (by simp [lg_sl, rf_cat, vc_i, vc_l, vc_r, vc_n])
  rw [lg_entry_eq]
  generalize (lg_sl ([.ref (ad h0), va_rf (Option.map ad p0), .int p1, .int p2]) ++ List.replicate (5 - (lg_sl ([.ref (ad h0), va_rf (Option.map ad p0), .int p1, .int p2])).length) Slot.unset).toArray = ls at hl ⊢
  have hl : lv_has ls 5 [(0, .ref (ad h0)), (1, va_rf (Option.map ad p0)), (2, .int p1), (3, .int p2)] := by simpa [lv_args, rf_cat, vc_i, vc_l, vc_r, vc_n] using hl
  refine W_lp (fun n3 (u : (Option Nat) × Int32 × Int32 × CS) H locs ls => match u with | (l1, l3, l4, gs) => fX5_append_3 h0 n3 l1 l3 l4 gs = some st' ∧ Cp (dC, dI) ka ad ct A s.heap gs H locs ∧ lv_has ls 5 [(0, .ref (ad h0)), (1, va_rf (Option.map ad l1)), (3, .int l3), (4, .int l4)]) (fun (u : (Option Nat) × Int32 × Int32 × CS) ls => match u with | (l1, l3, l4, gs) => F0 m 3 ls []) ?_ ?_ (fun J3 => ?_)
  · intro u H locs ls hu
    obtain ⟨l1, l3, l4, gs⟩ := u
    obtain ⟨hf, hp, hl⟩ := hu
    rw [fX5_append_3_z] at hf
    cases hf
  · intro n3 ih3 u H locs ls hu
    obtain ⟨l1, l3, l4, gs⟩ := u
    obtain ⟨hf, hp, hl⟩ := hu
    show W p l e _ s m _ below meth c _ _ _ _ _ (F0 m 3 ls [])
    rw [fX5_append_3_s] at hf
    refine lv_iload hx hb dX5_append_3 (lv_at hl 3 rfl) ?_
    refine lv_iload_n hx hb dX5_append_5 rfl (lv_at hl 2 rfl) ?_
    refine lv_icmp_ge (tgt := 25) hx hb dX5_append_6 (by decide) (fun c_1 => ?_) (fun c_1 => ?_)
    · have hf := pif_t c_1 hf
      have e2 := Option.some.inj hf
      exact W.vret hx hb hr (fun t ht hW => ⟨⟨(), rfl, trivial, Cp.end e2 hp ht⟩, hp.2.1.F ht⟩) hp.2.1.2.2 dX5_append_25
    · have hf := pif_f c_1 hf
      refine lv_aload_n hx hb dX5_append_9 rfl (lv_at hl 0 rfl) ?_
      refine o_aload_n hx hb dX5_append_10 rfl (lv_at hl 1 rfl) ?_
      refine lv_iload hx hb dX5_append_11 (lv_at hl 3 rfl) ?_
      obtain ⟨a_2, ha_3, hf⟩ := ono_some hf
      refine o_at1 ha_3 ?_
      obtain ⟨hk_4, hf⟩ := gd_some hf
      obtain ⟨r_7, st_5, hc_6, hf⟩ := bnd_some hf
      refine q_ci hp hA (va_runV (As := [.int l4]) (rest := [.ref (ad h0)]) ⟨hx, hb, hml, hown, hts⟩ (c_X5_byteAt l dC dI ka ad ct a_2 l4 _ _ _ hc_6 _) (cwV 1 hts gq_X5_append_X5_byteAt_48 rfl rfl rfl (by decide +kernel) ⟨Nat.le_of_ble_eq_true rfl, Nat.le_of_ble_eq_true rfl⟩) ⟨PrC.blind _, q_rv7 hK hp hC hk_4, q_pre hp hK hN hZ hC hR hL hA⟩ rfl rfl hl.1 rfl (lv_room (Nat.le_of_ble_eq_true rfl)) dX5_append_13 ⟨Nat.le_of_ble_eq_true rfl, Nat.le_of_ble_eq_true rfl⟩) (fun H locs hp => ?_)
      have hk_4 : qk st_5 a_2 = 8 := by rw [(mo_X5_byteAt a_2 l4 _ _ _ hc_6).2.2.1]; exact hk_4
      obtain ⟨hk_8, hf⟩ := gd_some hf
      obtain ⟨st_9, hc_10, hf⟩ := bnv_some hf
      refine q_cv hp hA (va_runV (As := [.int r_7]) (rest := []) ⟨hx, hb, hml, hown, hts⟩ (c_X5_push l dC dI ka ad ct h0 r_7 _ _ hc_10 _) (cwV 1 hts gq_X5_append_X5_push_25 rfl rfl rfl (by decide +kernel) ⟨Nat.le_of_ble_eq_true rfl, Nat.le_of_ble_eq_true rfl⟩) ⟨PrC.blind _, q_rv7 hK hp hC hk_8, q_pre hp hK hN hZ hC hR hL hA⟩ rfl rfl hl.1 rfl (lv_room (Nat.le_of_ble_eq_true rfl)) dX5_append_16 ⟨Nat.le_of_ble_eq_true rfl, Nat.le_of_ble_eq_true rfl⟩) (fun H locs hp => ?_)
      have hk_4 : qk st_9 a_2 = 8 := by rw [(mo_X5_push h0 r_7 _ _ hc_10).2.2.1]; exact hk_4
      have hk_8 : qk st_9 h0 = 8 := by rw [(mo_X5_push h0 r_7 _ _ hc_10).2.2.1]; exact hk_8
      obtain ⟨v_12, ev_12, hf⟩ := nam_some hf
      refine lv_iinc (v := v_12) (lv' := [(4, .int v_12), (0, .ref (ad h0)), (1, va_rf (Option.map ad l1)), (3, .int l3)]) hx hb dX5_append_19 hl (k := 3) rfl ev_12.symm (by decide) rfl (fun ls hl => ?_)
      refine lv_goto (tgt := 3) hx hb dX5_append_22 (by decide) ?_
      exact ih3 (l1, l3, v_12, st_9) _ _ _ ⟨hf, hp, (lv_sub hl [1, 2, 3, 0] rfl)⟩
  unfold fX5_append at hf
  refine lv_iload_n hx hb dX5_append_0 rfl (lv_at hl 2 rfl) ?_
  refine lv_istore (i := 4) (lv' := [(4, .int p1), (0, .ref (ad h0)), (1, va_rf (Option.map ad p0)), (2, .int p1), (3, .int p2)]) hx hb dX5_append_1 hl (by decide) rfl (fun ls hl => ?_)
  exact J3 fuel (p0, p2, p1, st) _ _ _ ⟨hf, hp, (lv_sub hl [1, 2, 4, 0] rfl)⟩
noncomputable def fX5_become_48 (h0 : Nat)  (l4 : Int32) (gs : CS) : Option (CS) := gd (qk gs h0 = 8) (nam (wI gs h0 1 l4) (fun st_2 => some st_2))
set_option maxHeartbeats 1000000 in
theorem mo_X5_become_48 (h0 : Nat)   (l4 : Int32) (gs : CS) (st' : CS) (hf : fX5_become_48 h0 l4 gs = some st') : Ke gs st' := by
  unfold fX5_become_48 at hf
  have hm : Ke gs gs := Ke.rf
  obtain ⟨hk_1, hf⟩ := gd_some hf
  obtain ⟨st_2, est_2, hf⟩ := nam_some hf
  have hm := hm.wI est_2
  have e2 := Option.some.inj hf
  exact e2 ▸ hm
noncomputable def fX5_become_6 (h0 : Nat)  : Nat → Option Nat → Int32 → Int32 → Int32 → CS → Option (CS)
  | 0 => fun _ _ _ _ _ => none
  | n + 1 => fun l1 l3 l4 l5 gs => pif (l3 ≤ l5) (fX5_become_48 h0 l4 gs) (gd (qk gs h0 = 8) (ono (qP gs h0 0) (fun a_5 => gd (qk gs a_5 = 21) (pif ((nI (ql gs a_5)) ≤ l4) (fX5_become_48 h0 l4 gs) (ono l1 (fun a_9 => gd (qk gs a_9 = 8) (bnd (fX5_byteAt a_9 l5 gs) (fun r_14 st_12 => gd (vp_in l4 (ql st_12 a_5)) (nam (wI st_12 a_5 l4.toNatClampNeg (r_14 &&& 255)) (fun st_16 => nam (l4 + 1) (fun v_17 => nam (l5 + 1) (fun v_18 => (fX5_become_6 h0 n) l1 l3 v_17 v_18 st_16))))))))))))
theorem fX5_become_6_z (h0 : Nat)  (l1 : Option Nat) (l3 : Int32) (l4 : Int32) (l5 : Int32) (gs : CS) : fX5_become_6 h0 0 l1 l3 l4 l5 gs = none := rfl
theorem fX5_become_6_s (h0 : Nat)  (n : Nat) (l1 : Option Nat) (l3 : Int32) (l4 : Int32) (l5 : Int32) (gs : CS) : fX5_become_6 h0 (n + 1) l1 l3 l4 l5 gs = pif (l3 ≤ l5) (fX5_become_48 h0 l4 gs) (gd (qk gs h0 = 8) (ono (qP gs h0 0) (fun a_5 => gd (qk gs a_5 = 21) (pif ((nI (ql gs a_5)) ≤ l4) (fX5_become_48 h0 l4 gs) (ono l1 (fun a_9 => gd (qk gs a_9 = 8) (bnd (fX5_byteAt a_9 l5 gs) (fun r_14 st_12 => gd (vp_in l4 (ql st_12 a_5)) (nam (wI st_12 a_5 l4.toNatClampNeg (r_14 &&& 255)) (fun st_16 => nam (l4 + 1) (fun v_17 => nam (l5 + 1) (fun v_18 => (fX5_become_6 h0 n) l1 l3 v_17 v_18 st_16)))))))))))) := rfl
set_option maxHeartbeats 1000000 in
theorem mo_X5_become_6 (h0 : Nat)   : ∀ (n : Nat) (l1 : Option Nat) (l3 : Int32) (l4 : Int32) (l5 : Int32) (gs : CS) (st' : CS), fX5_become_6 h0 n l1 l3 l4 l5 gs = some st' → Ke gs st' := by
  intro n
  induction n with
  | zero =>
    intro l1 l3 l4 l5 gs st' hf
    rw [fX5_become_6_z] at hf
    cases hf
  | succ n ih =>
    intro l1 l3 l4 l5 gs st' hf
    rw [fX5_become_6_s] at hf
    have hm : Ke gs gs := Ke.rf
    rcases pif_or hf with ⟨c_3, hf⟩ | ⟨c_3, hf⟩
    · exact hm.tr (mo_X5_become_48 h0 l4 gs _ hf)
    · obtain ⟨hk_4, hf⟩ := gd_some hf
      obtain ⟨a_5, ha_6, hf⟩ := ono_some hf
      obtain ⟨hk_7, hf⟩ := gd_some hf
      rcases pif_or hf with ⟨c_8, hf⟩ | ⟨c_8, hf⟩
      · exact hm.tr (mo_X5_become_48 h0 l4 gs _ hf)
      · obtain ⟨a_9, ha_10, hf⟩ := ono_some hf
        obtain ⟨hk_11, hf⟩ := gd_some hf
        obtain ⟨r_14, st_12, hc_13, hf⟩ := bnd_some hf
        have hm := hm.tr (mo_X5_byteAt a_9 l5 _ _ _ hc_13)
        obtain ⟨g_15, hf⟩ := gd_some hf
        obtain ⟨st_16, est_16, hf⟩ := nam_some hf
        have hm := hm.wI est_16
        obtain ⟨v_17, ev_17, hf⟩ := nam_some hf
        obtain ⟨v_18, ev_18, hf⟩ := nam_some hf
        exact hm.tr (ih l1 l3 v_17 v_18 st_16 _ hf)
noncomputable def fX5_become (h0 : Nat) (p0 : Option Nat) (p1 : Int32) (p2 : Int32) (st : CS) : Option (CS) := fX5_become_6 h0 fuel p0 p2 0 p1 st
set_option maxHeartbeats 1000000 in
theorem mo_X5_become (h0 : Nat) (p0 : Option Nat) (p1 : Int32) (p2 : Int32) (st : CS) (st' : CS) (hf : fX5_become h0 p0 p1 p2 st = some st') : Ke st st' := by
  unfold fX5_become at hf
  have hm : Ke st st := Ke.rf
  exact hm.tr (mo_X5_become_6 h0 fuel p0 p2 0 p1 st _ hf)
def wq_X5_become : List Cond := .code yX5_become cX5_become 6 none :: (([.fieldLink RX5 15 "RecordBench$Row" "bytes" "[I", .fieldLink RX5 21 "RecordBench$Row" "size" "I", .methodLink RX5 48 yX5_byteAt, .instanceMethod yX5_byteAt, .selects RX5 yX5_byteAt yX5_byteAt, .initialized RX5, .code yX5_byteAt cX5_byteAt 2 (some .int)] : List Cond) ++ wsX50)
theorem gs_wq_X5_become_wsX50 : GoodIn wq_X5_become wsX50 := fun w h => ⟨List.mem_cons_of_mem _ (List.mem_append_right _ h), (gt_wsX50 w h).2⟩
set_option maxRecDepth 20000 in
theorem gq_X5_become_X5_byteAt_48 : GoodIn wq_X5_become (wsV RX5 48 RX5 yX5_byteAt wq_X5_byteAt) := goodIn_app (goodIn_r _ [3, 4, 5, 6] rfl rfl) (goodIn_ca (goodIn_r _ [7, 2, 1] rfl rfl) gs_wq_X5_become_wsX50)
set_option maxHeartbeats 4000000 in
set_option maxRecDepth 100000 in
theorem c_X5_become (l : Launch) (dC : Nat → ClassId) (dI : Nat → Nat → Nat) (ka ad : Nat → Nat) (ct : Nat → ClassId) (h0 : Nat) (p0 : Option Nat) (p1 : Int32) (p2 : Int32) (st st' : CS) (hf : fX5_become h0 p0 p1 p2 st = some st') (sz : Nat) : Met l yX5_become wq_X5_become ({ frames := 1, cells := 0, slots := 0, locals := 25 }) (va_Pc [.ref (ad h0), va_rf (Option.map ad p0), .int p1, .int p2] (PrC (dC, dI) ct ka ad st sz)) (va_Qv (fun (_ : Unit) => True) (fun _ => CB (dC, dI) ct ka ad st' (aC ad st sz)) (aC ad st sz)) 0 0 (aC ad st sz) := by
  refine Met.ofW (cc := cX5_become) (maxL := 6) (ret := none) (by decide) rfl ?_
  intro p e s m args below meth c s₁ B hml hv
  obtain ⟨rfl, hsz, hw0, hK, hN, hZ, hC, hR, hL, hw1, hw2⟩ := hv
  have hx := B.exec
  have hb := B.bytes
  have hr := B.returns
  have hts := atoms_spec (ws := wq_X5_become) B.pre
  have hown : s.vm.findClass RX5 = some m.cls := findClass_of_methodNamed B.named
  have iRX5 : ∀ w ∈ u_ws RX5 TX5 2, w ∈ wq_X5_become := fun w h => List.mem_cons_of_mem _ (List.mem_append_right _ h)
  subst hsz
  have hp : Cp (dC, dI) ka ad ct (aC ad st s.heap.size) s.heap st s.heap [] := ⟨fun i a b => ⟨hw0 i a b, Or.inl ⟨i, a, b, rfl⟩⟩, va_S.rf, hw1, hw2⟩
  generalize hAe : aC ad st s.heap.size = A at hp hZ hC ⊢
  have hA : ∀ q : Nat, s.heap.size ≤ q → A q := fun q h => by rw [← hAe]; exact Or.inr h
  have hl := lv_entry ([.ref (ad h0), va_rf (Option.map ad p0), .int p1, .int p2]) (n := 6) (by simp [lg_sl, rf_cat, vc_i, vc_l, vc_r, vc_n])
  rw [lg_entry_eq]
  generalize (lg_sl ([.ref (ad h0), va_rf (Option.map ad p0), .int p1, .int p2]) ++ List.replicate (6 - (lg_sl ([.ref (ad h0), va_rf (Option.map ad p0), .int p1, .int p2])).length) Slot.unset).toArray = ls at hl ⊢
  have hl : lv_has ls 6 [(0, .ref (ad h0)), (1, va_rf (Option.map ad p0)), (2, .int p1), (3, .int p2)] := by simpa [lv_args, rf_cat, vc_i, vc_l, vc_r, vc_n] using hl
  refine W_blk (fun (u : Int32 × CS) H locs ls => match u with | (l4, gs) => fX5_become_48 h0 l4 gs = some st' ∧ Cp (dC, dI) ka ad ct A s.heap gs H locs ∧ lv_has ls 6 [(0, .ref (ad h0)), (4, .int l4)]) (fun (u : Int32 × CS) ls => match u with | (l4, gs) => F0 m 48 ls []) ?_ (fun J48 => ?_)
  · intro u H locs ls hu
    obtain ⟨l4, gs⟩ := u
    obtain ⟨hf, hp, hl⟩ := hu
    show W p l e _ s m _ below meth c _ _ _ _ _ (F0 m 48 ls [])
    unfold fX5_become_48 at hf
    refine lv_aload_n hx hb dX5_become_48 rfl (lv_at hl 0 rfl) ?_
    refine lv_iload hx hb dX5_become_49 (lv_at hl 1 rfl) ?_
    obtain ⟨hk_1, hf⟩ := gd_some hf
    refine q_pi (ci := 7) (C := RX5) (T := TX5) (N := 2) (k := 1) (v := l4) (ty := .int) hx hb hts iRX5 tyX5 tyX5_ok nmX5 hown hK hp hk_1 (by decide) rfl rfl (by decide) rfl (Or.inl (hts (.fieldLink RX5 21 "RecordBench$Row" "size" "I") (by decide +kernel))) (fun _ h9 => h9) rfl (by decide +kernel) rfl rfl dX5_become_51 (fun H locs hp => ?_)
    obtain ⟨st_2, est_2, hf⟩ := nam_some hf
    rw [← est_2] at hp
    have hk_1 : qk st_2 h0 = 8 := by rw [est_2]; exact hk_1
    have e2 := Option.some.inj hf
    exact W.vret hx hb hr (fun t ht hW => ⟨⟨(), rfl, trivial, Cp.end e2 hp ht⟩, hp.2.1.F ht⟩) hp.2.1.2.2 dX5_become_54
  refine W_lp (fun n6 (u : (Option Nat) × Int32 × Int32 × Int32 × CS) H locs ls => match u with | (l1, l3, l4, l5, gs) => fX5_become_6 h0 n6 l1 l3 l4 l5 gs = some st' ∧ Cp (dC, dI) ka ad ct A s.heap gs H locs ∧ lv_has ls 6 [(0, .ref (ad h0)), (1, va_rf (Option.map ad l1)), (3, .int l3), (4, .int l4), (5, .int l5)]) (fun (u : (Option Nat) × Int32 × Int32 × Int32 × CS) ls => match u with | (l1, l3, l4, l5, gs) => F0 m 6 ls []) ?_ ?_ (fun J6 => ?_)
  · intro u H locs ls hu
    obtain ⟨l1, l3, l4, l5, gs⟩ := u
    obtain ⟨hf, hp, hl⟩ := hu
    rw [fX5_become_6_z] at hf
    cases hf
  · intro n6 ih6 u H locs ls hu
    obtain ⟨l1, l3, l4, l5, gs⟩ := u
    obtain ⟨hf, hp, hl⟩ := hu
    show W p l e _ s m _ below meth c _ _ _ _ _ (F0 m 6 ls [])
    rw [fX5_become_6_s] at hf
    refine lv_iload hx hb dX5_become_6 (lv_at hl 4 rfl) ?_
    refine lv_iload_n hx hb dX5_become_8 rfl (lv_at hl 2 rfl) ?_
    refine lv_icmp_ge (tgt := 48) hx hb dX5_become_9 (by decide) (fun c_3 => ?_) (fun c_3 => ?_)
    · have hf := pif_t c_3 hf
      exact J48 (l4, gs) _ _ _ ⟨hf, hp, (lv_sub hl [0, 3] rfl)⟩
    · have hf := pif_f c_3 hf
      refine lv_iload hx hb dX5_become_12 (lv_at hl 3 rfl) ?_
      refine lv_aload_n hx hb dX5_become_14 rfl (lv_at hl 0 rfl) ?_
      obtain ⟨hk_4, hf⟩ := gd_some hf
      refine q_gp (ci := 7) (C := RX5) (T := TX5) (N := 2) (k := 0) hx hb hts iRX5 hown hK hp hk_4 (by decide) rfl rfl (by decide) rfl (Or.inl (hts (.fieldLink RX5 15 "RecordBench$Row" "bytes" "[I") (by decide +kernel))) (fun _ h9 => h9) dX5_become_15 ?_
      obtain ⟨a_5, ha_6, hf⟩ := ono_some hf
      refine o_at ha_6 ?_
      obtain ⟨hk_7, hf⟩ := gd_some hf
      refine q_len (t0 := 0) hx hb hK hp (hp.2.2.1.ge hk_7 (by decide) (by decide) (by decide)) hk_7 (by decide) rfl dX5_become_18 ?_
      refine lv_icmp_ge (tgt := 48) hx hb dX5_become_19 (by decide) (fun c_8 => ?_) (fun c_8 => ?_)
      · have hf := pif_t c_8 hf
        exact J48 (l4, gs) _ _ _ ⟨hf, hp, (lv_sub hl [0, 3] rfl)⟩
      · have hf := pif_f c_8 hf
        refine lv_aload_n hx hb dX5_become_22 rfl (lv_at hl 0 rfl) ?_
        refine q_gp (ci := 7) (C := RX5) (T := TX5) (N := 2) (k := 0) hx hb hts iRX5 hown hK hp hk_4 (by decide) rfl rfl (by decide) rfl (Or.inl (hts (.fieldLink RX5 15 "RecordBench$Row" "bytes" "[I") (by decide +kernel))) (fun _ h9 => h9) dX5_become_23 ?_
        refine lv_iload hx hb dX5_become_26 (lv_at hl 3 rfl) ?_
        refine o_aload_n hx hb dX5_become_28 rfl (lv_at hl 1 rfl) ?_
        refine lv_iload hx hb dX5_become_29 (lv_at hl 4 rfl) ?_
        obtain ⟨a_9, ha_10, hf⟩ := ono_some hf
        refine o_at1 ha_10 ?_
        obtain ⟨hk_11, hf⟩ := gd_some hf
        obtain ⟨r_14, st_12, hc_13, hf⟩ := bnd_some hf
        refine q_ci hp hA (va_runV (As := [.int l5]) (rest := [.int l4, va_rf (Option.map ad (qP gs h0 0))]) ⟨hx, hb, hml, hown, hts⟩ (c_X5_byteAt l dC dI ka ad ct a_9 l5 _ _ _ hc_13 _) (cwV 1 hts gq_X5_become_X5_byteAt_48 rfl rfl rfl (by decide +kernel) ⟨Nat.le_of_ble_eq_true rfl, Nat.le_of_ble_eq_true rfl⟩) ⟨PrC.blind _, q_rv7 hK hp hC hk_11, q_pre hp hK hN hZ hC hR hL hA⟩ rfl rfl hl.1 rfl (lv_room (by simp [rf_cat, vc_i, vc_l, vc_r, vc_n])) dX5_become_31 ⟨Nat.le_of_ble_eq_true rfl, Nat.le_of_ble_eq_true rfl⟩) (fun H locs hp => ?_)
        have hk_4 : qk st_12 h0 = 8 := by rw [(mo_X5_byteAt a_9 l5 _ _ _ hc_13).2.2.1]; exact hk_4
        have hk_7 : qk st_12 a_5 = 21 := by rw [(mo_X5_byteAt a_9 l5 _ _ _ hc_13).2.2.1]; exact hk_7
        have hk_11 : qk st_12 a_9 = 8 := by rw [(mo_X5_byteAt a_9 l5 _ _ _ hc_13).2.2.1]; exact hk_11
        refine lv_sipush (v := 255) hx hb dX5_become_34 (by decide) ?_
        refine lv_iand hx hb dX5_become_37 ?_
        refine o_at2 ha_6 ?_
        obtain ⟨g_15, hf⟩ := gd_some hf
        refine q_si hx hb hK hp hk_7 g_15 dX5_become_38 (fun H locs hp => ?_)
        obtain ⟨st_16, est_16, hf⟩ := nam_some hf
        rw [← est_16] at hp
        have hk_4 : qk st_16 h0 = 8 := by rw [est_16]; exact hk_4
        have hk_7 : qk st_16 a_5 = 21 := by rw [est_16]; exact hk_7
        have hk_11 : qk st_16 a_9 = 8 := by rw [est_16]; exact hk_11
        obtain ⟨v_17, ev_17, hf⟩ := nam_some hf
        refine lv_iinc (v := v_17) (lv' := [(4, .int v_17), (0, .ref (ad h0)), (1, va_rf (Option.map ad l1)), (3, .int l3), (5, .int l5)]) hx hb dX5_become_39 hl (k := 3) rfl ev_17.symm (by decide) rfl (fun ls hl => ?_)
        obtain ⟨v_18, ev_18, hf⟩ := nam_some hf
        refine lv_iinc (v := v_18) (lv' := [(5, .int v_18), (4, .int v_17), (0, .ref (ad h0)), (1, va_rf (Option.map ad l1)), (3, .int l3)]) hx hb dX5_become_42 hl (k := 4) rfl ev_18.symm (by decide) rfl (fun ls hl => ?_)
        refine lv_goto (tgt := 6) hx hb dX5_become_45 (by decide) ?_
        exact ih6 (l1, l3, v_17, v_18, st_16) _ _ _ ⟨hf, hp, (lv_sub hl [2, 3, 4, 1, 0] rfl)⟩
  unfold fX5_become at hf
  refine lv_iconst (v := 0) hx hb dX5_become_0 (by decide) ?_
  refine lv_istore (i := 4) (lv' := [(4, .int 0), (0, .ref (ad h0)), (1, va_rf (Option.map ad p0)), (2, .int p1), (3, .int p2)]) hx hb dX5_become_1 hl (by decide) rfl (fun ls hl => ?_)
  refine lv_iload_n hx hb dX5_become_3 rfl (lv_at hl 3 rfl) ?_
  refine lv_istore (i := 5) (lv' := [(5, .int p1), (4, .int 0), (0, .ref (ad h0)), (1, va_rf (Option.map ad p0)), (2, .int p1), (3, .int p2)]) hx hb dX5_become_4 hl (by decide) rfl (fun ls hl => ?_)
  exact J6 fuel (p0, p2, 0, p1, st) _ _ _ ⟨hf, hp, (lv_sub hl [2, 3, 5, 1, 0] rfl)⟩
noncomputable def fX5_isText_12 (h0 : Nat)  : Nat → Int32 → Int32 → CS → Option (Int32 × CS)
  | 0 => fun _ _ _ => none
  | n + 1 => fun l2 l3 gs => pif (l2 ≤ l3) (some ((1 : Int32), gs)) (gd (qk gs h0 = 8) (bnd (fX5_byteAt h0 l3 gs) (fun r_5 st_3 => bnd (fX5_isTextByte r_5 st_3) (fun r_8 st_6 => pif (r_8 = 0) (some ((0 : Int32), st_6)) (nam (l3 + 1) (fun v_10 => (fX5_isText_12 h0 n) l2 v_10 st_6))))))
theorem fX5_isText_12_z (h0 : Nat)  (l2 : Int32) (l3 : Int32) (gs : CS) : fX5_isText_12 h0 0 l2 l3 gs = none := rfl
theorem fX5_isText_12_s (h0 : Nat)  (n : Nat) (l2 : Int32) (l3 : Int32) (gs : CS) : fX5_isText_12 h0 (n + 1) l2 l3 gs = pif (l2 ≤ l3) (some ((1 : Int32), gs)) (gd (qk gs h0 = 8) (bnd (fX5_byteAt h0 l3 gs) (fun r_5 st_3 => bnd (fX5_isTextByte r_5 st_3) (fun r_8 st_6 => pif (r_8 = 0) (some ((0 : Int32), st_6)) (nam (l3 + 1) (fun v_10 => (fX5_isText_12 h0 n) l2 v_10 st_6)))))) := rfl
set_option maxHeartbeats 1000000 in
theorem mo_X5_isText_12 (h0 : Nat)   : ∀ (n : Nat) (l2 : Int32) (l3 : Int32) (gs : CS) (r : Int32) (st' : CS), fX5_isText_12 h0 n l2 l3 gs = some (r, st') → Ke gs st' := by
  intro n
  induction n with
  | zero =>
    intro l2 l3 gs r st' hf
    rw [fX5_isText_12_z] at hf
    cases hf
  | succ n ih =>
    intro l2 l3 gs r st' hf
    rw [fX5_isText_12_s] at hf
    have hm : Ke gs gs := Ke.rf
    rcases pif_or hf with ⟨c_1, hf⟩ | ⟨c_1, hf⟩
    · obtain ⟨e1, e2⟩ := pr_some hf
      exact e2 ▸ hm
    · obtain ⟨hk_2, hf⟩ := gd_some hf
      obtain ⟨r_5, st_3, hc_4, hf⟩ := bnd_some hf
      have hm := hm.tr (mo_X5_byteAt h0 l3 _ _ _ hc_4)
      obtain ⟨r_8, st_6, hc_7, hf⟩ := bnd_some hf
      have hm := hm.tr (mo_X5_isTextByte r_5 _ _ _ hc_7)
      rcases pif_or hf with ⟨c_9, hf⟩ | ⟨c_9, hf⟩
      · obtain ⟨e1, e2⟩ := pr_some hf
        exact e2 ▸ hm
      · obtain ⟨v_10, ev_10, hf⟩ := nam_some hf
        exact hm.tr (ih l2 v_10 st_6 _ _ hf)
noncomputable def fX5_isText (h0 : Nat) (p0 : Int32) (p1 : Int32) (st : CS) : Option (Int32 × CS) := pif ((p1 - p0) ≤ 12) (fX5_isText_12 h0 fuel p1 p0 st) (some ((0 : Int32), st))
set_option maxHeartbeats 1000000 in
theorem mo_X5_isText (h0 : Nat) (p0 : Int32) (p1 : Int32) (st : CS) (r : Int32) (st' : CS) (hf : fX5_isText h0 p0 p1 st = some (r, st')) : Ke st st' := by
  unfold fX5_isText at hf
  have hm : Ke st st := Ke.rf
  rcases pif_or hf with ⟨c_11, hf⟩ | ⟨c_11, hf⟩
  · exact hm.tr (mo_X5_isText_12 h0 fuel p1 p0 st _ _ hf)
  · obtain ⟨e1, e2⟩ := pr_some hf
    exact e2 ▸ hm
def wq_X5_isText : List Cond := .code yX5_isText cX5_isText 4 (some .boolean) :: (([.methodLink RX5 48 yX5_byteAt, .instanceMethod yX5_byteAt, .selects RX5 yX5_byteAt yX5_byteAt, .initialized RX5, .methodLink RX5 52 yX5_isTextByte, .static yX5_isTextByte, .code yX5_byteAt cX5_byteAt 2 (some .int), .fieldLink RX5 21 "RecordBench$Row" "size" "I", .fieldLink RX5 15 "RecordBench$Row" "bytes" "[I", .code yX5_isTextByte cX5_isTextByte 1 (some .boolean)] : List Cond) ++ wsX50)
theorem gs_wq_X5_isText_wsX50 : GoodIn wq_X5_isText wsX50 := fun w h => ⟨List.mem_cons_of_mem _ (List.mem_append_right _ h), (gt_wsX50 w h).2⟩
set_option maxRecDepth 20000 in
theorem gq_X5_isText_X5_byteAt_48 : GoodIn wq_X5_isText (wsV RX5 48 RX5 yX5_byteAt wq_X5_byteAt) := goodIn_app (goodIn_r _ [1, 2, 3, 4] rfl rfl) (goodIn_ca (goodIn_r _ [7, 8, 9] rfl rfl) gs_wq_X5_isText_wsX50)
set_option maxRecDepth 20000 in
theorem gq_X5_isText_X5_isTextByte_52 : GoodIn wq_X5_isText (va_wsS RX5 52 yX5_isTextByte wq_X5_isTextByte) := goodIn_app (goodIn_r _ [5, 6, 4] rfl rfl) (goodIn_r _ [10] rfl rfl)
set_option maxHeartbeats 4000000 in
set_option maxRecDepth 100000 in
theorem c_X5_isText (l : Launch) (dC : Nat → ClassId) (dI : Nat → Nat → Nat) (ka ad : Nat → Nat) (ct : Nat → ClassId) (h0 : Nat) (p0 : Int32) (p1 : Int32) (st st' : CS) (r : Int32) (hf : fX5_isText h0 p0 p1 st = some (r, st')) (sz : Nat) : Met l yX5_isText wq_X5_isText ({ frames := 1, cells := 0, slots := 0, locals := 25 }) (va_Pc [.ref (ad h0), .int p0, .int p1] (PrC (dC, dI) ct ka ad st sz)) (va_Qi (fun r' (_ : Unit) => r' = r) (fun _ => CB (dC, dI) ct ka ad st' (aC ad st sz)) (aC ad st sz)) 0 0 (aC ad st sz) := by
  refine Met.ofW (cc := cX5_isText) (maxL := 4) (ret := (some .boolean)) (by decide) rfl ?_
  intro p e s m args below meth c s₁ B hml hv
  obtain ⟨rfl, hsz, hw0, hK, hN, hZ, hC, hR, hL, hw1, hw2⟩ := hv
  have hx := B.exec
  have hb := B.bytes
  have hr := B.returns
  have hts := atoms_spec (ws := wq_X5_isText) B.pre
  have hown : s.vm.findClass RX5 = some m.cls := findClass_of_methodNamed B.named
  subst hsz
  have hp : Cp (dC, dI) ka ad ct (aC ad st s.heap.size) s.heap st s.heap [] := ⟨fun i a b => ⟨hw0 i a b, Or.inl ⟨i, a, b, rfl⟩⟩, va_S.rf, hw1, hw2⟩
  generalize hAe : aC ad st s.heap.size = A at hp hZ hC ⊢
  have hA : ∀ q : Nat, s.heap.size ≤ q → A q := fun q h => by rw [← hAe]; exact Or.inr h
  have hl := lv_entry ([.ref (ad h0), .int p0, .int p1]) (n := 4) (Nat.le_of_ble_eq_true rfl)
  rw [lg_entry_eq]
  generalize (lg_sl ([.ref (ad h0), .int p0, .int p1]) ++ List.replicate (4 - (lg_sl ([.ref (ad h0), .int p0, .int p1])).length) Slot.unset).toArray = ls at hl ⊢
  have hl : lv_has ls 4 [(0, .ref (ad h0)), (1, .int p0), (2, .int p1)] := hl
  refine W_lp (fun n12 (u : Int32 × Int32 × CS) H locs ls => match u with | (l2, l3, gs) => fX5_isText_12 h0 n12 l2 l3 gs = some (r, st') ∧ Cp (dC, dI) ka ad ct A s.heap gs H locs ∧ lv_has ls 4 [(0, .ref (ad h0)), (2, .int l2), (3, .int l3)]) (fun (u : Int32 × Int32 × CS) ls => match u with | (l2, l3, gs) => F0 m 12 ls []) ?_ ?_ (fun J12 => ?_)
  · intro u H locs ls hu
    obtain ⟨l2, l3, gs⟩ := u
    obtain ⟨hf, hp, hl⟩ := hu
    rw [fX5_isText_12_z] at hf
    cases hf
  · intro n12 ih12 u H locs ls hu
    obtain ⟨l2, l3, gs⟩ := u
    obtain ⟨hf, hp, hl⟩ := hu
    show W p l e _ s m _ below meth c _ _ _ _ _ (F0 m 12 ls [])
    rw [fX5_isText_12_s] at hf
    refine lv_iload_n hx hb dX5_isText_12 rfl (lv_at hl 2 rfl) ?_
    refine lv_iload_n hx hb dX5_isText_13 rfl (lv_at hl 1 rfl) ?_
    refine lv_icmp_ge (tgt := 36) hx hb dX5_isText_14 (by decide) (fun c_1 => ?_) (fun c_1 => ?_)
    · have hf := pif_t c_1 hf
      refine lv_iconst (v := 1) hx hb dX5_isText_36 (by decide) ?_
      obtain ⟨e1, e2⟩ := pr_some hf
      exact W.zret (v := 1) hx hb hr rfl (fun t ht hW => ⟨⟨1, (), rfl, e1, Cp.end e2 hp ht⟩, hp.2.1.F ht⟩) hp.2.1.2.2 dX5_isText_37
    · have hf := pif_f c_1 hf
      refine lv_aload_n hx hb dX5_isText_17 rfl (lv_at hl 0 rfl) ?_
      refine lv_iload_n hx hb dX5_isText_18 rfl (lv_at hl 2 rfl) ?_
      obtain ⟨hk_2, hf⟩ := gd_some hf
      obtain ⟨r_5, st_3, hc_4, hf⟩ := bnd_some hf
      refine q_ci hp hA (va_runV (As := [.int l3]) (rest := []) ⟨hx, hb, hml, hown, hts⟩ (c_X5_byteAt l dC dI ka ad ct h0 l3 _ _ _ hc_4 _) (cwV 1 hts gq_X5_isText_X5_byteAt_48 rfl rfl rfl (by decide +kernel) ⟨Nat.le_of_ble_eq_true rfl, Nat.le_of_ble_eq_true rfl⟩) ⟨PrC.blind _, q_rv7 hK hp hC hk_2, q_pre hp hK hN hZ hC hR hL hA⟩ rfl rfl hl.1 rfl (lv_room (Nat.le_of_ble_eq_true rfl)) dX5_isText_19 ⟨Nat.le_of_ble_eq_true rfl, Nat.le_of_ble_eq_true rfl⟩) (fun H locs hp => ?_)
      have hk_2 : qk st_3 h0 = 8 := by rw [(mo_X5_byteAt h0 l3 _ _ _ hc_4).2.2.1]; exact hk_2
      obtain ⟨r_8, st_6, hc_7, hf⟩ := bnd_some hf
      refine q_ci hp hA (va_runS (As := [.int r_5]) (rest := []) ⟨hx, hb, hml, hown, hts⟩ (c_X5_isTextByte l dC dI ka ad ct r_5 _ _ _ hc_7 _) (va_cwS 1 hts gq_X5_isText_X5_isTextByte_52 rfl rfl rfl (by decide +kernel) ⟨Nat.le_of_ble_eq_true rfl, Nat.le_of_ble_eq_true rfl⟩) ⟨PrC.blind _, q_pre hp hK hN hZ hC hR hL hA⟩ rfl rfl hl.1 rfl (lv_room (Nat.le_of_ble_eq_true rfl)) dX5_isText_22 ⟨Nat.le_of_ble_eq_true rfl, Nat.le_of_ble_eq_true rfl⟩) (fun H locs hp => ?_)
      have hk_2 : qk st_6 h0 = 8 := by rw [(mo_X5_isTextByte r_5 _ _ _ hc_7).2.2.1]; exact hk_2
      refine lv_if_ne (tgt := 30) hx hb dX5_isText_25 (by decide) (fun c_9 => ?_) (fun c_9 => ?_)
      · have hf := pif_f c_9 hf
        obtain ⟨v_10, ev_10, hf⟩ := nam_some hf
        refine lv_iinc (v := v_10) (lv' := [(3, .int v_10), (0, .ref (ad h0)), (2, .int l2)]) hx hb dX5_isText_30 hl (k := 2) rfl ev_10.symm (by decide) rfl (fun ls hl => ?_)
        refine lv_goto (tgt := 12) hx hb dX5_isText_33 (by decide) ?_
        exact ih12 (l2, v_10, st_6) _ _ _ ⟨hf, hp, (lv_sub hl [1, 2, 0] rfl)⟩
      · have hf := pif_t c_9 hf
        refine lv_iconst (v := 0) hx hb dX5_isText_28 (by decide) ?_
        obtain ⟨e1, e2⟩ := pr_some hf
        exact W.zret (v := 0) hx hb hr rfl (fun t ht hW => ⟨⟨0, (), rfl, e1, Cp.end e2 hp ht⟩, hp.2.1.F ht⟩) hp.2.1.2.2 dX5_isText_29
  unfold fX5_isText at hf
  refine lv_iload_n hx hb dX5_isText_0 rfl (lv_at hl 2 rfl) ?_
  refine lv_iload_n hx hb dX5_isText_1 rfl (lv_at hl 1 rfl) ?_
  refine lv_isub hx hb dX5_isText_2 ?_
  refine lv_bipush (v := 12) hx hb dX5_isText_3 (by decide) ?_
  refine lv_icmp_le (tgt := 10) hx hb dX5_isText_5 (by decide) (fun c_11 => ?_) (fun c_11 => ?_)
  · have hf := pif_t c_11 hf
    refine lv_iload_n hx hb dX5_isText_10 rfl (lv_at hl 1 rfl) ?_
    refine lv_istore_n (i := 3) (lv' := [(3, .int p0), (0, .ref (ad h0)), (1, .int p0), (2, .int p1)]) hx hb dX5_isText_11 rfl hl (by decide) rfl (fun ls hl => ?_)
    exact J12 fuel (p1, p0, st) _ _ _ ⟨hf, hp, (lv_sub hl [1, 3, 0] rfl)⟩
  · have hf := pif_f c_11 hf
    refine lv_iconst (v := 0) hx hb dX5_isText_8 (by decide) ?_
    obtain ⟨e1, e2⟩ := pr_some hf
    exact W.zret (v := 0) hx hb hr rfl (fun t ht hW => ⟨⟨0, (), rfl, e1, Cp.end e2 hp ht⟩, hp.2.1.F ht⟩) hp.2.1.2.2 dX5_isText_9
