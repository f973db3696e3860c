theorem dX2_asNumber_0 : decode cX2_asNumber 0 = .ok (.aload_n 0, 1) := by decide +kernel
theorem dX2_asNumber_1 : decode cX2_asNumber 1 = .ok (.getfield 19, 3) := by decide +kernel
theorem dX2_asNumber_10 : decode cX2_asNumber 10 = .ok (.lconst 1, 1) := by decide +kernel
theorem dX2_asNumber_11 : decode cX2_asNumber 11 = .ok (.land, 1) := by decide +kernel
theorem dX2_asNumber_12 : decode cX2_asNumber 12 = .ok (.lneg, 1) := by decide +kernel
theorem dX2_asNumber_13 : decode cX2_asNumber 13 = .ok (.lxor, 1) := by decide +kernel
theorem dX2_asNumber_14 : decode cX2_asNumber 14 = .ok (.lreturn, 1) := by decide +kernel
theorem dX2_asNumber_4 : decode cX2_asNumber 4 = .ok (.iconst 1, 1) := by decide +kernel
theorem dX2_asNumber_5 : decode cX2_asNumber 5 = .ok (.lushr, 1) := by decide +kernel
theorem dX2_asNumber_6 : decode cX2_asNumber 6 = .ok (.aload_n 0, 1) := by decide +kernel
theorem dX2_asNumber_7 : decode cX2_asNumber 7 = .ok (.getfield 19, 3) := by decide +kernel
theorem dX2_look_0 : decode cX2_look 0 = .ok (.aload_n 0, 1) := by decide +kernel
theorem dX2_look_1 : decode cX2_look 1 = .ok (.iconst 0, 1) := by decide +kernel
theorem dX2_look_10 : decode cX2_look 10 = .ok (.aload_n 0, 1) := by decide +kernel
theorem dX2_look_11 : decode cX2_look 11 = .ok (.lconst 0, 1) := by decide +kernel
theorem dX2_look_12 : decode cX2_look 12 = .ok (.putfield 19, 3) := by decide +kernel
theorem dX2_look_15 : decode cX2_look 15 = .ok (.aload_n 0, 1) := by decide +kernel
theorem dX2_look_16 : decode cX2_look 16 = .ok (.iload_n 2, 1) := by decide +kernel
theorem dX2_look_17 : decode cX2_look 17 = .ok (.putfield 23, 3) := by decide +kernel
theorem dX2_look_2 : decode cX2_look 2 = .ok (.putfield 9, 3) := by decide +kernel
theorem dX2_look_20 : decode cX2_look 20 = .ok (.aload_n 0, 1) := by decide +kernel
theorem dX2_look_21 : decode cX2_look 21 = .ok (.iload_n 3, 1) := by decide +kernel
theorem dX2_look_22 : decode cX2_look 22 = .ok (.putfield 26, 3) := by decide +kernel
theorem dX2_look_25 : decode cX2_look 25 = .ok (.aload_n 0, 1) := by decide +kernel
theorem dX2_look_26 : decode cX2_look 26 = .ok (.iconst 0, 1) := by decide +kernel
theorem dX2_look_27 : decode cX2_look 27 = .ok (.putfield 29, 3) := by decide +kernel
theorem dX2_look_30 : decode cX2_look 30 = .ok (.aload_n 0, 1) := by decide +kernel
theorem dX2_look_31 : decode cX2_look 31 = .ok (.iload_n 2, 1) := by decide +kernel
theorem dX2_look_32 : decode cX2_look 32 = .ok (.putfield 32, 3) := by decide +kernel
theorem dX2_look_35 : decode cX2_look 35 = .ok (.aload_n 0, 1) := by decide +kernel
theorem dX2_look_36 : decode cX2_look 36 = .ok (.iconst 0, 1) := by decide +kernel
theorem dX2_look_37 : decode cX2_look 37 = .ok (.putfield 35, 3) := by decide +kernel
theorem dX2_look_40 : decode cX2_look 40 = .ok (.aload_n 0, 1) := by decide +kernel
theorem dX2_look_41 : decode cX2_look 41 = .ok (.aload_n 1, 1) := by decide +kernel
theorem dX2_look_42 : decode cX2_look 42 = .ok (.iload_n 3, 1) := by decide +kernel
theorem dX2_look_43 : decode cX2_look 43 = .ok (.invokevirtual 38, 3) := by decide +kernel
theorem dX2_look_46 : decode cX2_look 46 = .ok (.lstore 4, 2) := by decide +kernel
theorem dX2_look_48 : decode cX2_look 48 = .ok (.aload_n 0, 1) := by decide +kernel
theorem dX2_look_49 : decode cX2_look 49 = .ok (.getfield 35, 3) := by decide +kernel
theorem dX2_look_5 : decode cX2_look 5 = .ok (.aload_n 0, 1) := by decide +kernel
theorem dX2_look_52 : decode cX2_look 52 = .ok (.ifCond .ne 13, 3) := by decide +kernel
theorem dX2_look_55 : decode cX2_look 55 = .ok (.aload_n 0, 1) := by decide +kernel
theorem dX2_look_56 : decode cX2_look 56 = .ok (.aload_n 0, 1) := by decide +kernel
theorem dX2_look_57 : decode cX2_look 57 = .ok (.aload_n 1, 1) := by decide +kernel
theorem dX2_look_58 : decode cX2_look 58 = .ok (.iload_n 3, 1) := by decide +kernel
theorem dX2_look_59 : decode cX2_look 59 = .ok (.invokevirtual 38, 3) := by decide +kernel
theorem dX2_look_6 : decode cX2_look 6 = .ok (.iconst 0, 1) := by decide +kernel
theorem dX2_look_62 : decode cX2_look 62 = .ok (.putfield 19, 3) := by decide +kernel
theorem dX2_look_65 : decode cX2_look 65 = .ok (.aload_n 0, 1) := by decide +kernel
theorem dX2_look_66 : decode cX2_look 66 = .ok (.getfield 35, 3) := by decide +kernel
theorem dX2_look_69 : decode cX2_look 69 = .ok (.ifCond .eq 9, 3) := by decide +kernel
theorem dX2_look_7 : decode cX2_look 7 = .ok (.putfield 15, 3) := by decide +kernel
theorem dX2_look_72 : decode cX2_look 72 = .ok (.aload_n 0, 1) := by decide +kernel
theorem dX2_look_73 : decode cX2_look 73 = .ok (.iconst 1, 1) := by decide +kernel
theorem dX2_look_74 : decode cX2_look 74 = .ok (.putfield 29, 3) := by decide +kernel
theorem dX2_look_77 : decode cX2_look 77 = .ok (.return_, 1) := by decide +kernel
theorem dX2_look_78 : decode cX2_look 78 = .ok (.aload_n 0, 1) := by decide +kernel
theorem dX2_look_79 : decode cX2_look 79 = .ok (.lload 4, 2) := by decide +kernel
theorem dX2_look_81 : decode cX2_look 81 = .ok (.iload_n 3, 1) := by decide +kernel
theorem dX2_look_82 : decode cX2_look 82 = .ok (.invokevirtual 42, 3) := by decide +kernel
theorem dX2_look_85 : decode cX2_look 85 = .ok (.return_, 1) := by decide +kernel
theorem dX2_place_0 : decode cX2_place 0 = .ok (.lload_n 1, 1) := by decide +kernel
theorem dX2_place_1 : decode cX2_place 1 = .ok (.iconst 1, 1) := by decide +kernel
theorem dX2_place_100 : decode cX2_place 100 = .ok (.iconst 3, 1) := by decide +kernel
theorem dX2_place_101 : decode cX2_place 101 = .ok (.putfield 29, 3) := by decide +kernel
theorem dX2_place_104 : decode cX2_place 104 = .ok (.return_, 1) := by decide +kernel
theorem dX2_place_105 : decode cX2_place 105 = .ok (.aload_n 0, 1) := by decide +kernel
theorem dX2_place_106 : decode cX2_place 106 = .ok (.aload_n 0, 1) := by decide +kernel
theorem dX2_place_107 : decode cX2_place 107 = .ok (.getfield 32, 3) := by decide +kernel
theorem dX2_place_110 : decode cX2_place 110 = .ok (.aload_n 0, 1) := by decide +kernel
theorem dX2_place_111 : decode cX2_place 111 = .ok (.getfield 19, 3) := by decide +kernel
theorem dX2_place_114 : decode cX2_place 114 = .ok (.l2i, 1) := by decide +kernel
theorem dX2_place_115 : decode cX2_place 115 = .ok (.iadd, 1) := by decide +kernel
theorem dX2_place_116 : decode cX2_place 116 = .ok (.putfield 26, 3) := by decide +kernel
theorem dX2_place_119 : decode cX2_place 119 = .ok (.return_, 1) := by decide +kernel
theorem dX2_place_12 : decode cX2_place 12 = .ok (.lload 4, 2) := by decide +kernel
theorem dX2_place_14 : decode cX2_place 14 = .ok (.ldc2_w 46, 3) := by decide +kernel
theorem dX2_place_17 : decode cX2_place 17 = .ok (.lcmp, 1) := by decide +kernel
theorem dX2_place_18 : decode cX2_place 18 = .ok (.ifCond .le 9, 3) := by decide +kernel
theorem dX2_place_2 : decode cX2_place 2 = .ok (.lushr, 1) := by decide +kernel
theorem dX2_place_21 : decode cX2_place 21 = .ok (.aload_n 0, 1) := by decide +kernel
theorem dX2_place_22 : decode cX2_place 22 = .ok (.iconst 2, 1) := by decide +kernel
theorem dX2_place_23 : decode cX2_place 23 = .ok (.putfield 29, 3) := by decide +kernel
theorem dX2_place_26 : decode cX2_place 26 = .ok (.return_, 1) := by decide +kernel
theorem dX2_place_27 : decode cX2_place 27 = .ok (.aload_n 0, 1) := by decide +kernel
theorem dX2_place_28 : decode cX2_place 28 = .ok (.lload 4, 2) := by decide +kernel
theorem dX2_place_3 : decode cX2_place 3 = .ok (.lstore 4, 2) := by decide +kernel
theorem dX2_place_30 : decode cX2_place 30 = .ok (.l2i, 1) := by decide +kernel
theorem dX2_place_31 : decode cX2_place 31 = .ok (.putfield 9, 3) := by decide +kernel
theorem dX2_place_34 : decode cX2_place 34 = .ok (.aload_n 0, 1) := by decide +kernel
theorem dX2_place_35 : decode cX2_place 35 = .ok (.lload_n 1, 1) := by decide +kernel
theorem dX2_place_36 : decode cX2_place 36 = .ok (.lconst 1, 1) := by decide +kernel
theorem dX2_place_37 : decode cX2_place 37 = .ok (.land, 1) := by decide +kernel
theorem dX2_place_38 : decode cX2_place 38 = .ok (.lconst 0, 1) := by decide +kernel
theorem dX2_place_39 : decode cX2_place 39 = .ok (.lcmp, 1) := by decide +kernel
theorem dX2_place_40 : decode cX2_place 40 = .ok (.ifCond .eq 7, 3) := by decide +kernel
theorem dX2_place_43 : decode cX2_place 43 = .ok (.iconst 1, 1) := by decide +kernel
theorem dX2_place_44 : decode cX2_place 44 = .ok (.goto 4, 3) := by decide +kernel
theorem dX2_place_47 : decode cX2_place 47 = .ok (.iconst 0, 1) := by decide +kernel
theorem dX2_place_48 : decode cX2_place 48 = .ok (.putfield 15, 3) := by decide +kernel
theorem dX2_place_5 : decode cX2_place 5 = .ok (.lload 4, 2) := by decide +kernel
theorem dX2_place_51 : decode cX2_place 51 = .ok (.aload_n 0, 1) := by decide +kernel
theorem dX2_place_52 : decode cX2_place 52 = .ok (.aload_n 0, 1) := by decide +kernel
theorem dX2_place_53 : decode cX2_place 53 = .ok (.getfield 32, 3) := by decide +kernel
theorem dX2_place_56 : decode cX2_place 56 = .ok (.putfield 23, 3) := by decide +kernel
theorem dX2_place_59 : decode cX2_place 59 = .ok (.aload_n 0, 1) := by decide +kernel
theorem dX2_place_60 : decode cX2_place 60 = .ok (.aload_n 0, 1) := by decide +kernel
theorem dX2_place_61 : decode cX2_place 61 = .ok (.getfield 32, 3) := by decide +kernel
theorem dX2_place_64 : decode cX2_place 64 = .ok (.putfield 26, 3) := by decide +kernel
theorem dX2_place_67 : decode cX2_place 67 = .ok (.aload_n 0, 1) := by decide +kernel
theorem dX2_place_68 : decode cX2_place 68 = .ok (.getfield 15, 3) := by decide +kernel
theorem dX2_place_7 : decode cX2_place 7 = .ok (.lconst 1, 1) := by decide +kernel
theorem dX2_place_71 : decode cX2_place 71 = .ok (.ifCond .ne 4, 3) := by decide +kernel
theorem dX2_place_74 : decode cX2_place 74 = .ok (.return_, 1) := by decide +kernel
theorem dX2_place_75 : decode cX2_place 75 = .ok (.aload_n 0, 1) := by decide +kernel
theorem dX2_place_76 : decode cX2_place 76 = .ok (.getfield 19, 3) := by decide +kernel
theorem dX2_place_79 : decode cX2_place 79 = .ok (.lconst 0, 1) := by decide +kernel
theorem dX2_place_8 : decode cX2_place 8 = .ok (.lcmp, 1) := by decide +kernel
theorem dX2_place_80 : decode cX2_place 80 = .ok (.lcmp, 1) := by decide +kernel
theorem dX2_place_81 : decode cX2_place 81 = .ok (.ifCond .lt 18, 3) := by decide +kernel
theorem dX2_place_84 : decode cX2_place 84 = .ok (.aload_n 0, 1) := by decide +kernel
theorem dX2_place_85 : decode cX2_place 85 = .ok (.getfield 19, 3) := by decide +kernel
theorem dX2_place_88 : decode cX2_place 88 = .ok (.iload_n 3, 1) := by decide +kernel
theorem dX2_place_89 : decode cX2_place 89 = .ok (.aload_n 0, 1) := by decide +kernel
theorem dX2_place_9 : decode cX2_place 9 = .ok (.ifCond .lt 12, 3) := by decide +kernel
theorem dX2_place_90 : decode cX2_place 90 = .ok (.getfield 32, 3) := by decide +kernel
theorem dX2_place_93 : decode cX2_place 93 = .ok (.isub, 1) := by decide +kernel
theorem dX2_place_94 : decode cX2_place 94 = .ok (.i2l, 1) := by decide +kernel
theorem dX2_place_95 : decode cX2_place 95 = .ok (.lcmp, 1) := by decide +kernel
theorem dX2_place_96 : decode cX2_place 96 = .ok (.ifCond .le 9, 3) := by decide +kernel
theorem dX2_place_99 : decode cX2_place 99 = .ok (.aload_n 0, 1) := by decide +kernel
theorem dX2_takeVarint_0 : decode cX2_takeVarint 0 = .ok (.lconst 0, 1) := by decide +kernel
theorem dX2_takeVarint_1 : decode cX2_takeVarint 1 = .ok (.lstore_n 3, 1) := by decide +kernel
theorem dX2_takeVarint_102 : decode cX2_takeVarint 102 = .ok (.aload_n 0, 1) := by decide +kernel
theorem dX2_takeVarint_103 : decode cX2_takeVarint 103 = .ok (.iconst 1, 1) := by decide +kernel
theorem dX2_takeVarint_104 : decode cX2_takeVarint 104 = .ok (.putfield 35, 3) := by decide +kernel
theorem dX2_takeVarint_107 : decode cX2_takeVarint 107 = .ok (.lconst 0, 1) := by decide +kernel
theorem dX2_takeVarint_108 : decode cX2_takeVarint 108 = .ok (.lreturn, 1) := by decide +kernel
theorem dX2_takeVarint_12 : decode cX2_takeVarint 12 = .ok (.aload_n 0, 1) := by decide +kernel
theorem dX2_takeVarint_13 : decode cX2_takeVarint 13 = .ok (.getfield 32, 3) := by decide +kernel
theorem dX2_takeVarint_16 : decode cX2_takeVarint 16 = .ok (.iload_n 2, 1) := by decide +kernel
theorem dX2_takeVarint_17 : decode cX2_takeVarint 17 = .ok (.if_icmp .ge 14, 3) := by decide +kernel
theorem dX2_takeVarint_2 : decode cX2_takeVarint 2 = .ok (.iconst 0, 1) := by decide +kernel
theorem dX2_takeVarint_20 : decode cX2_takeVarint 20 = .ok (.aload_n 1, 1) := by decide +kernel
theorem dX2_takeVarint_21 : decode cX2_takeVarint 21 = .ok (.aload_n 0, 1) := by decide +kernel
theorem dX2_takeVarint_22 : decode cX2_takeVarint 22 = .ok (.getfield 32, 3) := by decide +kernel
theorem dX2_takeVarint_25 : decode cX2_takeVarint 25 = .ok (.invokevirtual 48, 3) := by decide +kernel
theorem dX2_takeVarint_28 : decode cX2_takeVarint 28 = .ok (.goto 4, 3) := by decide +kernel
theorem dX2_takeVarint_3 : decode cX2_takeVarint 3 = .ok (.istore 5, 2) := by decide +kernel
theorem dX2_takeVarint_31 : decode cX2_takeVarint 31 = .ok (.iconst (-1), 1) := by decide +kernel
theorem dX2_takeVarint_32 : decode cX2_takeVarint 32 = .ok (.istore 6, 2) := by decide +kernel
theorem dX2_takeVarint_34 : decode cX2_takeVarint 34 = .ok (.iload 6, 2) := by decide +kernel
theorem dX2_takeVarint_36 : decode cX2_takeVarint 36 = .ok (.iconst (-1), 1) := by decide +kernel
theorem dX2_takeVarint_37 : decode cX2_takeVarint 37 = .ok (.if_icmp .eq 16, 3) := by decide +kernel
theorem dX2_takeVarint_40 : decode cX2_takeVarint 40 = .ok (.iload 5, 2) := by decide +kernel
theorem dX2_takeVarint_42 : decode cX2_takeVarint 42 = .ok (.bipush 9, 2) := by decide +kernel
theorem dX2_takeVarint_44 : decode cX2_takeVarint 44 = .ok (.if_icmp .ne 16, 3) := by decide +kernel
theorem dX2_takeVarint_47 : decode cX2_takeVarint 47 = .ok (.iload 6, 2) := by decide +kernel
theorem dX2_takeVarint_49 : decode cX2_takeVarint 49 = .ok (.iconst 1, 1) := by decide +kernel
theorem dX2_takeVarint_5 : decode cX2_takeVarint 5 = .ok (.iload 5, 2) := by decide +kernel
theorem dX2_takeVarint_50 : decode cX2_takeVarint 50 = .ok (.if_icmp .le 10, 3) := by decide +kernel
theorem dX2_takeVarint_53 : decode cX2_takeVarint 53 = .ok (.aload_n 0, 1) := by decide +kernel
theorem dX2_takeVarint_54 : decode cX2_takeVarint 54 = .ok (.iconst 1, 1) := by decide +kernel
theorem dX2_takeVarint_55 : decode cX2_takeVarint 55 = .ok (.putfield 35, 3) := by decide +kernel
theorem dX2_takeVarint_58 : decode cX2_takeVarint 58 = .ok (.lconst 0, 1) := by decide +kernel
theorem dX2_takeVarint_59 : decode cX2_takeVarint 59 = .ok (.lreturn, 1) := by decide +kernel
theorem dX2_takeVarint_60 : decode cX2_takeVarint 60 = .ok (.aload_n 0, 1) := by decide +kernel
theorem dX2_takeVarint_61 : decode cX2_takeVarint 61 = .ok (.dup, 1) := by decide +kernel
theorem dX2_takeVarint_62 : decode cX2_takeVarint 62 = .ok (.getfield 32, 3) := by decide +kernel
theorem dX2_takeVarint_65 : decode cX2_takeVarint 65 = .ok (.iconst 1, 1) := by decide +kernel
theorem dX2_takeVarint_66 : decode cX2_takeVarint 66 = .ok (.iadd, 1) := by decide +kernel
theorem dX2_takeVarint_67 : decode cX2_takeVarint 67 = .ok (.putfield 32, 3) := by decide +kernel
theorem dX2_takeVarint_7 : decode cX2_takeVarint 7 = .ok (.bipush 10, 2) := by decide +kernel
theorem dX2_takeVarint_70 : decode cX2_takeVarint 70 = .ok (.lload_n 3, 1) := by decide +kernel
theorem dX2_takeVarint_71 : decode cX2_takeVarint 71 = .ok (.iload 6, 2) := by decide +kernel
theorem dX2_takeVarint_73 : decode cX2_takeVarint 73 = .ok (.i2l, 1) := by decide +kernel
theorem dX2_takeVarint_74 : decode cX2_takeVarint 74 = .ok (.ldc2_w 54, 3) := by decide +kernel
theorem dX2_takeVarint_77 : decode cX2_takeVarint 77 = .ok (.land, 1) := by decide +kernel
theorem dX2_takeVarint_78 : decode cX2_takeVarint 78 = .ok (.bipush 7, 2) := by decide +kernel
theorem dX2_takeVarint_80 : decode cX2_takeVarint 80 = .ok (.iload 5, 2) := by decide +kernel
theorem dX2_takeVarint_82 : decode cX2_takeVarint 82 = .ok (.imul, 1) := by decide +kernel
theorem dX2_takeVarint_83 : decode cX2_takeVarint 83 = .ok (.lshl, 1) := by decide +kernel
theorem dX2_takeVarint_84 : decode cX2_takeVarint 84 = .ok (.lor, 1) := by decide +kernel
theorem dX2_takeVarint_85 : decode cX2_takeVarint 85 = .ok (.lstore_n 3, 1) := by decide +kernel
theorem dX2_takeVarint_86 : decode cX2_takeVarint 86 = .ok (.iload 6, 2) := by decide +kernel
theorem dX2_takeVarint_88 : decode cX2_takeVarint 88 = .ok (.sipush 128, 3) := by decide +kernel
theorem dX2_takeVarint_9 : decode cX2_takeVarint 9 = .ok (.if_icmp .ge 93, 3) := by decide +kernel
theorem dX2_takeVarint_91 : decode cX2_takeVarint 91 = .ok (.if_icmp .ge 5, 3) := by decide +kernel
theorem dX2_takeVarint_94 : decode cX2_takeVarint 94 = .ok (.lload_n 3, 1) := by decide +kernel
theorem dX2_takeVarint_95 : decode cX2_takeVarint 95 = .ok (.lreturn, 1) := by decide +kernel
theorem dX2_takeVarint_96 : decode cX2_takeVarint 96 = .ok (.iinc 5 1, 3) := by decide +kernel
theorem dX2_takeVarint_99 : decode cX2_takeVarint 99 = .ok (.goto (-94), 3) := by decide +kernel
theorem dX2_tells_0 : decode cX2_tells 0 = .ok (.aload_n 0, 1) := by decide +kernel
theorem dX2_tells_1 : decode cX2_tells 1 = .ok (.getfield 15, 3) := by decide +kernel
theorem dX2_tells_11 : decode cX2_tells 11 = .ok (.goto 7, 3) := by decide +kernel
theorem dX2_tells_14 : decode cX2_tells 14 = .ok (.aload_n 0, 1) := by decide +kernel
theorem dX2_tells_15 : decode cX2_tells 15 = .ok (.invokevirtual 56, 3) := by decide +kernel
theorem dX2_tells_18 : decode cX2_tells 18 = .ok (.lreturn, 1) := by decide +kernel
theorem dX2_tells_4 : decode cX2_tells 4 = .ok (.ifCond .eq 10, 3) := by decide +kernel
theorem dX2_tells_7 : decode cX2_tells 7 = .ok (.aload_n 0, 1) := by decide +kernel
theorem dX2_tells_8 : decode cX2_tells 8 = .ok (.getfield 19, 3) := by decide +kernel
noncomputable def fX2_asNumber (h0 : Nat) (st : CS) : Option (Int64 × CS) := gd (qk st h0 = 5) (some ((((qJ st h0 2).toUInt64 >>> ((1 : Int32).toInt64.toUInt64 &&& Int64.toUInt64 63)).toInt64) ^^^ (-((qJ st h0 2) &&& 1)), st))
set_option maxHeartbeats 1000000 in
theorem mo_X2_asNumber (h0 : Nat) (st : CS) (r : Int64) (st' : CS) (hf : fX2_asNumber h0 st = some (r, st')) : Ke st st' := by
  unfold fX2_asNumber at hf
  have hm : Ke st st := Ke.rf
  obtain ⟨hk_1, hf⟩ := gd_some hf
  obtain ⟨e1, e2⟩ := pr_some hf
  exact e2 ▸ hm
def wq_X2_asNumber : List Cond := .code yX2_asNumber cX2_asNumber 1 (some .long) :: (([.fieldLink RX2 19 "RecordBench$Piece" "raw" "J"] : List Cond) ++ wsX20)
set_option maxHeartbeats 4000000 in
set_option maxRecDepth 100000 in
theorem c_X2_asNumber (l : Launch) (dC : Nat → ClassId) (dI : Nat → Nat → Nat) (ka ad : Nat → Nat) (ct : Nat → ClassId) (h0 : Nat) (st st' : CS) (r : Int64) (hf : fX2_asNumber h0 st = some (r, st')) (sz : Nat) : Met l yX2_asNumber wq_X2_asNumber ({ frames := 0, cells := 0, slots := 0, locals := 0 }) (va_Pc [.ref (ad h0)] (PrC (dC, dI) ct ka ad st sz)) (va_Ql (fun r' (_ : Unit) => r' = r) (fun _ => CB (dC, dI) ct ka ad st' (aC ad st sz)) (aC ad st sz)) 0 0 (aC ad st sz) := by
  refine Met.ofW (cc := cX2_asNumber) (maxL := 1) (ret := (some .long)) (by decide) rfl ?_
  intro p e s m args below meth c s₁ B hml hv
  obtain ⟨rfl, hsz, hw0, hK, hN, hZ, hC, hR, hL, hw1, hw2⟩ := hv
  have hx := B.exec
  have hb := B.bytes
  have hr := B.returns
  have hts := atoms_spec (ws := wq_X2_asNumber) B.pre
  have hown : s.vm.findClass RX2 = some m.cls := findClass_of_methodNamed B.named
  have iRX2 : ∀ w ∈ u_ws RX2 TX2 8, w ∈ wq_X2_asNumber := fun w h => List.mem_cons_of_mem _ (List.mem_append_right _ h)
  subst hsz
  have hp : Cp (dC, dI) ka ad ct (aC ad st s.heap.size) s.heap st s.heap [] := ⟨fun i a b => ⟨hw0 i a b, Or.inl ⟨i, a, b, rfl⟩⟩, va_S.rf, hw1, hw2⟩
  generalize hAe : aC ad st s.heap.size = A at hp hZ hC ⊢
  have hA : ∀ q : Nat, s.heap.size ≤ q → A q := fun q h => by rw [← hAe]; exact Or.inr h
  have hl := lv_entry ([.ref (ad h0)]) (n := 1) (Nat.le_of_ble_eq_true rfl)
  rw [lg_entry_eq]
  generalize (lg_sl ([.ref (ad h0)]) ++ List.replicate (1 - (lg_sl ([.ref (ad h0)])).length) Slot.unset).toArray = ls at hl ⊢
  have hl : lv_has ls 1 [(0, .ref (ad h0))] := hl
  unfold fX2_asNumber at hf
  refine lv_aload_n hx hb dX2_asNumber_0 rfl (lv_at hl 0 rfl) ?_
  obtain ⟨hk_1, hf⟩ := gd_some hf
  refine q_gj (ci := 4) (C := RX2) (T := TX2) (N := 8) (k := 2) hx hb hts iRX2 hown hK hp hk_1 (by decide) rfl rfl (by decide) rfl (Or.inl (hts (.fieldLink RX2 19 "RecordBench$Piece" "raw" "J") (by decide +kernel))) (fun _ h9 => h9) dX2_asNumber_1 ?_
  refine lv_iconst (v := 1) hx hb dX2_asNumber_4 (by decide) ?_
  refine lv_lushr (v := ((qJ st h0 2).toUInt64 >>> ((1 : Int32).toInt64.toUInt64 &&& Int64.toUInt64 63)).toInt64) hx hb dX2_asNumber_5 rfl ?_
  refine lv_aload_n hx hb dX2_asNumber_6 rfl (lv_at hl 0 rfl) ?_
  refine q_gj (ci := 4) (C := RX2) (T := TX2) (N := 8) (k := 2) hx hb hts iRX2 hown hK hp hk_1 (by decide) rfl rfl (by decide) rfl (Or.inl (hts (.fieldLink RX2 19 "RecordBench$Piece" "raw" "J") (by decide +kernel))) (fun _ h9 => h9) dX2_asNumber_7 ?_
  refine lv_lconst (v := 1) hx hb dX2_asNumber_10 (by decide) ?_
  refine lv_land hx hb dX2_asNumber_11 ?_
  refine lv_lneg hx hb dX2_asNumber_12 ?_
  refine lv_lxor hx hb dX2_asNumber_13 ?_
  obtain ⟨e1, e2⟩ := pr_some hf
  exact W.lret (v := (((qJ st h0 2).toUInt64 >>> ((1 : Int32).toInt64.toUInt64 &&& Int64.toUInt64 63)).toInt64) ^^^ (-((qJ st h0 2) &&& 1))) hx hb hr (fun t ht hW => ⟨⟨(((qJ st h0 2).toUInt64 >>> ((1 : Int32).toInt64.toUInt64 &&& Int64.toUInt64 63)).toInt64) ^^^ (-((qJ st h0 2) &&& 1)), (), rfl, e1, Cp.end e2 hp ht⟩, hp.2.1.F ht⟩) hp.2.1.2.2 dX2_asNumber_14
noncomputable def fX2_tells (h0 : Nat) (st : CS) : Option (Int64 × CS) := gd (qk st h0 = 5) (pif ((qI st h0 1) = 0) (bnd (fX2_asNumber h0 st) (fun r_5 st_3 => some (r_5, st_3))) (some (qJ st h0 2, st)))
set_option maxHeartbeats 1000000 in
theorem mo_X2_tells (h0 : Nat) (st : CS) (r : Int64) (st' : CS) (hf : fX2_tells h0 st = some (r, st')) : Ke st st' := by
  unfold fX2_tells at hf
  have hm : Ke st st := Ke.rf
  obtain ⟨hk_1, hf⟩ := gd_some hf
  rcases pif_or hf with ⟨c_2, hf⟩ | ⟨c_2, hf⟩
  · obtain ⟨r_5, st_3, hc_4, hf⟩ := bnd_some hf
    have hm := hm.tr (mo_X2_asNumber h0 _ _ _ hc_4)
    obtain ⟨e1, e2⟩ := pr_some hf
    exact e2 ▸ hm
  · obtain ⟨e1, e2⟩ := pr_some hf
    exact e2 ▸ hm
def wq_X2_tells : List Cond := .code yX2_tells cX2_tells 1 (some .long) :: (([.fieldLink RX2 15 "RecordBench$Piece" "withLength" "Z", .fieldLink RX2 19 "RecordBench$Piece" "raw" "J", .methodLink RX2 56 yX2_asNumber, .instanceMethod yX2_asNumber, .selects RX2 yX2_asNumber yX2_asNumber, .initialized RX2, .code yX2_asNumber cX2_asNumber 1 (some .long)] : List Cond) ++ wsX20)
theorem gs_wq_X2_tells_wsX20 : GoodIn wq_X2_tells wsX20 := fun w h => ⟨List.mem_cons_of_mem _ (List.mem_append_right _ h), (gt_wsX20 w h).2⟩
set_option maxRecDepth 20000 in
theorem gq_X2_tells_X2_asNumber_56 : GoodIn wq_X2_tells (wsV RX2 56 RX2 yX2_asNumber wq_X2_asNumber) := goodIn_app (goodIn_r _ [3, 4, 5, 6] rfl rfl) (goodIn_ca (goodIn_r _ [7, 2] rfl rfl) gs_wq_X2_tells_wsX20)
set_option maxHeartbeats 4000000 in
set_option maxRecDepth 100000 in
theorem c_X2_tells (l : Launch) (dC : Nat → ClassId) (dI : Nat → Nat → Nat) (ka ad : Nat → Nat) (ct : Nat → ClassId) (h0 : Nat) (st st' : CS) (r : Int64) (hf : fX2_tells h0 st = some (r, st')) (sz : Nat) : Met l yX2_tells wq_X2_tells ({ frames := 1, cells := 0, slots := 0, locals := 24 }) (va_Pc [.ref (ad h0)] (PrC (dC, dI) ct ka ad st sz)) (va_Ql (fun r' (_ : Unit) => r' = r) (fun _ => CB (dC, dI) ct ka ad st' (aC ad st sz)) (aC ad st sz)) 0 0 (aC ad st sz) := by
  refine Met.ofW (cc := cX2_tells) (maxL := 1) (ret := (some .long)) (by decide) rfl ?_
  intro p e s m args below meth c s₁ B hml hv
  obtain ⟨rfl, hsz, hw0, hK, hN, hZ, hC, hR, hL, hw1, hw2⟩ := hv
  have hx := B.exec
  have hb := B.bytes
  have hr := B.returns
  have hts := atoms_spec (ws := wq_X2_tells) B.pre
  have hown : s.vm.findClass RX2 = some m.cls := findClass_of_methodNamed B.named
  have iRX2 : ∀ w ∈ u_ws RX2 TX2 8, w ∈ wq_X2_tells := fun w h => List.mem_cons_of_mem _ (List.mem_append_right _ h)
  subst hsz
  have hp : Cp (dC, dI) ka ad ct (aC ad st s.heap.size) s.heap st s.heap [] := ⟨fun i a b => ⟨hw0 i a b, Or.inl ⟨i, a, b, rfl⟩⟩, va_S.rf, hw1, hw2⟩
  generalize hAe : aC ad st s.heap.size = A at hp hZ hC ⊢
  have hA : ∀ q : Nat, s.heap.size ≤ q → A q := fun q h => by rw [← hAe]; exact Or.inr h
  have hl := lv_entry ([.ref (ad h0)]) (n := 1) (Nat.le_of_ble_eq_true rfl)
  rw [lg_entry_eq]
  generalize (lg_sl ([.ref (ad h0)]) ++ List.replicate (1 - (lg_sl ([.ref (ad h0)])).length) Slot.unset).toArray = ls at hl ⊢
  have hl : lv_has ls 1 [(0, .ref (ad h0))] := hl
  unfold fX2_tells at hf
  refine lv_aload_n hx hb dX2_tells_0 rfl (lv_at hl 0 rfl) ?_
  obtain ⟨hk_1, hf⟩ := gd_some hf
  refine q_gi (ci := 4) (C := RX2) (T := TX2) (N := 8) (k := 1) hx hb hts iRX2 hown hK hp hk_1 (by decide) rfl rfl (by decide) rfl (Or.inl (hts (.fieldLink RX2 15 "RecordBench$Piece" "withLength" "Z") (by decide +kernel))) (fun _ h9 => h9) dX2_tells_1 ?_
  refine lv_if_eq (tgt := 14) hx hb dX2_tells_4 (by decide) (fun c_2 => ?_) (fun c_2 => ?_)
  · have hf := pif_t c_2 hf
    refine lv_aload_n hx hb dX2_tells_14 rfl (lv_at hl 0 rfl) ?_
    obtain ⟨r_5, st_3, hc_4, hf⟩ := bnd_some hf
    refine q_cl hp hA (va_runV (As := []) (rest := []) ⟨hx, hb, hml, hown, hts⟩ (c_X2_asNumber l dC dI ka ad ct h0 _ _ _ hc_4 _) (cwV 0 hts gq_X2_tells_X2_asNumber_56 rfl rfl rfl (by decide +kernel) ⟨Nat.le_of_ble_eq_true rfl, Nat.le_of_ble_eq_true rfl⟩) ⟨PrC.blind _, q_rv4 hK hp hC hk_1, q_pre hp hK hN hZ hC hR hL hA⟩ rfl rfl hl.1 rfl (lv_room (Nat.le_of_ble_eq_true rfl)) dX2_tells_15 ⟨Nat.le_of_ble_eq_true rfl, Nat.le_of_ble_eq_true rfl⟩) (fun H locs hp => ?_)
    have hk_1 : qk st_3 h0 = 5 := by rw [(mo_X2_asNumber h0 _ _ _ hc_4).2.2.1]; exact hk_1
    obtain ⟨e1, e2⟩ := pr_some hf
    exact W.lret (v := r_5) hx hb hr (fun t ht hW => ⟨⟨r_5, (), rfl, e1, Cp.end e2 hp ht⟩, hp.2.1.F ht⟩) hp.2.1.2.2 dX2_tells_18
  · have hf := pif_f c_2 hf
    refine lv_aload_n hx hb dX2_tells_7 rfl (lv_at hl 0 rfl) ?_
    refine q_gj (ci := 4) (C := RX2) (T := TX2) (N := 8) (k := 2) hx hb hts iRX2 hown hK hp hk_1 (by decide) rfl rfl (by decide) rfl (Or.inl (hts (.fieldLink RX2 19 "RecordBench$Piece" "raw" "J") (by decide +kernel))) (fun _ h9 => h9) dX2_tells_8 ?_
    refine lv_goto (tgt := 18) hx hb dX2_tells_11 (by decide) ?_
    obtain ⟨e1, e2⟩ := pr_some hf
    exact W.lret (v := qJ st h0 2) hx hb hr (fun t ht hW => ⟨⟨qJ st h0 2, (), rfl, e1, Cp.end e2 hp ht⟩, hp.2.1.F ht⟩) hp.2.1.2.2 dX2_tells_18
noncomputable def fX2_takeVarint_53 (h0 : Nat)  (gs : CS) : Option (Int64 × CS) := gd (qk gs h0 = 5) (nam (wI gs h0 7 1) (fun st_2 => some ((0 : Int64), st_2)))
set_option maxHeartbeats 1000000 in
theorem mo_X2_takeVarint_53 (h0 : Nat)   (gs : CS) (r : Int64) (st' : CS) (hf : fX2_takeVarint_53 h0 gs = some (r, st')) : Ke gs st' := by
  unfold fX2_takeVarint_53 at hf
  have hm : Ke gs gs := Ke.rf
  obtain ⟨hk_1, hf⟩ := gd_some hf
  obtain ⟨st_2, est_2, hf⟩ := nam_some hf
  have hm := hm.wI est_2
  obtain ⟨e1, e2⟩ := pr_some hf
  exact e2 ▸ hm
noncomputable def fX2_takeVarint_60 (h0 : Nat) (k5 : Option Nat → Int32 → Int64 → Int32 → CS → Option (Int64 × CS)) (l1 : Option Nat) (l2 : Int32) (l3 : Int64) (l5 : Int32) (l6 : Int32) (gs : CS) : Option (Int64 × CS) := gd (qk gs h0 = 5) (nam (wI gs h0 6 ((qI gs h0 6) + 1)) (fun st_4 => nam (l3 ||| ((l6.toInt64 &&& 127) <<< ((7 * l5).toInt64 &&& 63))) (fun v_5 => pif (128 ≤ l6) (nam (l5 + 1) (fun v_7 => k5 l1 l2 v_5 v_7 st_4)) (some (v_5, st_4)))))
set_option maxHeartbeats 1000000 in
theorem mo_X2_takeVarint_60 (h0 : Nat) (k5 : Option Nat → Int32 → Int64 → Int32 → CS → Option (Int64 × CS)) (hk5 : ∀ (l1 : Option Nat) (l2 : Int32) (l3 : Int64) (l5 : Int32) (gs : CS) (r : Int64) (st' : CS), k5 l1 l2 l3 l5 gs = some (r, st') → Ke gs st') (l1 : Option Nat) (l2 : Int32) (l3 : Int64) (l5 : Int32) (l6 : Int32) (gs : CS) (r : Int64) (st' : CS) (hf : fX2_takeVarint_60 h0 k5 l1 l2 l3 l5 l6 gs = some (r, st')) : Ke gs st' := by
  unfold fX2_takeVarint_60 at hf
  have hm : Ke gs gs := Ke.rf
  obtain ⟨hk_3, hf⟩ := gd_some hf
  obtain ⟨st_4, est_4, hf⟩ := nam_some hf
  have hm := hm.wI est_4
  obtain ⟨v_5, ev_5, hf⟩ := nam_some hf
  rcases pif_or hf with ⟨c_6, hf⟩ | ⟨c_6, hf⟩
  · obtain ⟨v_7, ev_7, hf⟩ := nam_some hf
    exact hm.tr (hk5 l1 l2 v_5 v_7 st_4 _ _ hf)
  · obtain ⟨e1, e2⟩ := pr_some hf
    exact e2 ▸ hm
noncomputable def fX2_takeVarint_32 (h0 : Nat) (k5 : Option Nat → Int32 → Int64 → Int32 → CS → Option (Int64 × CS)) (l1 : Option Nat) (l2 : Int32) (l3 : Int64) (l5 : Int32) (s0 : Int32) (gs : CS) : Option (Int64 × CS) := pif (s0 = (-1)) (fX2_takeVarint_53 h0 gs) (pif (l5 = 9) (pif (s0 ≤ 1) (fX2_takeVarint_60 h0 k5 l1 l2 l3 l5 s0 gs) (fX2_takeVarint_53 h0 gs)) (fX2_takeVarint_60 h0 k5 l1 l2 l3 l5 s0 gs))
set_option maxHeartbeats 1000000 in
theorem mo_X2_takeVarint_32 (h0 : Nat) (k5 : Option Nat → Int32 → Int64 → Int32 → CS → Option (Int64 × CS)) (hk5 : ∀ (l1 : Option Nat) (l2 : Int32) (l3 : Int64) (l5 : Int32) (gs : CS) (r : Int64) (st' : CS), k5 l1 l2 l3 l5 gs = some (r, st') → Ke gs st') (l1 : Option Nat) (l2 : Int32) (l3 : Int64) (l5 : Int32) (s0 : Int32) (gs : CS) (r : Int64) (st' : CS) (hf : fX2_takeVarint_32 h0 k5 l1 l2 l3 l5 s0 gs = some (r, st')) : Ke gs st' := by
  unfold fX2_takeVarint_32 at hf
  have hm : Ke gs gs := Ke.rf
  rcases pif_or hf with ⟨c_8, hf⟩ | ⟨c_8, hf⟩
  · exact hm.tr (mo_X2_takeVarint_53 h0 gs _ _ hf)
  · rcases pif_or hf with ⟨c_9, hf⟩ | ⟨c_9, hf⟩
    · rcases pif_or hf with ⟨c_10, hf⟩ | ⟨c_10, hf⟩
      · exact hm.tr (mo_X2_takeVarint_60 h0 k5 hk5 l1 l2 l3 l5 s0 gs _ _ hf)
      · exact hm.tr (mo_X2_takeVarint_53 h0 gs _ _ hf)
    · exact hm.tr (mo_X2_takeVarint_60 h0 k5 hk5 l1 l2 l3 l5 s0 gs _ _ hf)
noncomputable def fX2_takeVarint_5 (h0 : Nat)  : Nat → Option Nat → Int32 → Int64 → Int32 → CS → Option (Int64 × CS)
  | 0 => fun _ _ _ _ _ => none
  | n + 1 => fun l1 l2 l3 l5 gs => pif (10 ≤ l5) (gd (qk gs h0 = 5) (nam (wI gs h0 7 1) (fun st_13 => some ((0 : Int64), st_13)))) (gd (qk gs h0 = 5) (pif (l2 ≤ (qI gs h0 6)) (fX2_takeVarint_32 h0 (fX2_takeVarint_5 h0 n) l1 l2 l3 l5 (-1) gs) (ono l1 (fun a_16 => gd (qk gs a_16 = 8) (bnd (fX5_byteAt a_16 (qI gs h0 6) gs) (fun r_21 st_19 => fX2_takeVarint_32 h0 (fX2_takeVarint_5 h0 n) l1 l2 l3 l5 r_21 st_19))))))
theorem fX2_takeVarint_5_z (h0 : Nat)  (l1 : Option Nat) (l2 : Int32) (l3 : Int64) (l5 : Int32) (gs : CS) : fX2_takeVarint_5 h0 0 l1 l2 l3 l5 gs = none := rfl
theorem fX2_takeVarint_5_s (h0 : Nat)  (n : Nat) (l1 : Option Nat) (l2 : Int32) (l3 : Int64) (l5 : Int32) (gs : CS) : fX2_takeVarint_5 h0 (n + 1) l1 l2 l3 l5 gs = pif (10 ≤ l5) (gd (qk gs h0 = 5) (nam (wI gs h0 7 1) (fun st_13 => some ((0 : Int64), st_13)))) (gd (qk gs h0 = 5) (pif (l2 ≤ (qI gs h0 6)) (fX2_takeVarint_32 h0 (fX2_takeVarint_5 h0 n) l1 l2 l3 l5 (-1) gs) (ono l1 (fun a_16 => gd (qk gs a_16 = 8) (bnd (fX5_byteAt a_16 (qI gs h0 6) gs) (fun r_21 st_19 => fX2_takeVarint_32 h0 (fX2_takeVarint_5 h0 n) l1 l2 l3 l5 r_21 st_19)))))) := rfl
set_option maxHeartbeats 1000000 in
theorem mo_X2_takeVarint_5 (h0 : Nat)   : ∀ (n : Nat) (l1 : Option Nat) (l2 : Int32) (l3 : Int64) (l5 : Int32) (gs : CS) (r : Int64) (st' : CS), fX2_takeVarint_5 h0 n l1 l2 l3 l5 gs = some (r, st') → Ke gs st' := by
  intro n
  induction n with
  | zero =>
    intro l1 l2 l3 l5 gs r st' hf
    rw [fX2_takeVarint_5_z] at hf
    cases hf
  | succ n ih =>
    intro l1 l2 l3 l5 gs r st' hf
    rw [fX2_takeVarint_5_s] at hf
    have hm : Ke gs gs := Ke.rf
    rcases pif_or hf with ⟨c_11, hf⟩ | ⟨c_11, hf⟩
    · obtain ⟨hk_12, hf⟩ := gd_some hf
      obtain ⟨st_13, est_13, hf⟩ := nam_some hf
      have hm := hm.wI est_13
      obtain ⟨e1, e2⟩ := pr_some hf
      exact e2 ▸ hm
    · obtain ⟨hk_14, hf⟩ := gd_some hf
      rcases pif_or hf with ⟨c_15, hf⟩ | ⟨c_15, hf⟩
      · exact hm.tr (mo_X2_takeVarint_32 h0 (fX2_takeVarint_5 h0 n) ih l1 l2 l3 l5 (-1) gs _ _ hf)
      · obtain ⟨a_16, ha_17, hf⟩ := ono_some hf
        obtain ⟨hk_18, hf⟩ := gd_some hf
        obtain ⟨r_21, st_19, hc_20, hf⟩ := bnd_some hf
        have hm := hm.tr (mo_X5_byteAt a_16 (qI gs h0 6) _ _ _ hc_20)
        exact hm.tr (mo_X2_takeVarint_32 h0 (fX2_takeVarint_5 h0 n) ih l1 l2 l3 l5 r_21 st_19 _ _ hf)
noncomputable def fX2_takeVarint (h0 : Nat) (p0 : Option Nat) (p1 : Int32) (st : CS) : Option (Int64 × CS) := fX2_takeVarint_5 h0 fuel p0 p1 0 0 st
set_option maxHeartbeats 1000000 in
theorem mo_X2_takeVarint (h0 : Nat) (p0 : Option Nat) (p1 : Int32) (st : CS) (r : Int64) (st' : CS) (hf : fX2_takeVarint h0 p0 p1 st = some (r, st')) : Ke st st' := by
  unfold fX2_takeVarint at hf
  have hm : Ke st st := Ke.rf
  exact hm.tr (mo_X2_takeVarint_5 h0 fuel p0 p1 0 0 st _ _ hf)
def wq_X2_takeVarint : List Cond := .code yX2_takeVarint cX2_takeVarint 7 (some .long) :: (([.fieldLink RX2 35 "RecordBench$Piece" "broken" "Z", .fieldLink RX2 32 "RecordBench$Piece" "pos" "I", .constantLong RX2 54 (127), .methodLink RX2 48 yX5_byteAt, .instanceMethod yX5_byteAt, .selects RX5 yX5_byteAt yX5_byteAt, .initialized RX5, .code yX5_byteAt cX5_byteAt 2 (some .int), .fieldLink RX5 21 "RecordBench$Row" "size" "I", .fieldLink RX5 15 "RecordBench$Row" "bytes" "[I"] : List Cond) ++ wsX20 ++ wsX50)
theorem gs_wq_X2_takeVarint_wsX50 : GoodIn wq_X2_takeVarint wsX50 := fun w h => ⟨List.mem_cons_of_mem _ (List.mem_append_right _ h), (gt_wsX50 w h).2⟩
set_option maxRecDepth 20000 in
theorem gq_X2_takeVarint_X5_byteAt_48 : GoodIn wq_X2_takeVarint (wsV RX2 48 RX5 yX5_byteAt wq_X5_byteAt) := goodIn_app (goodIn_r _ [4, 5, 6, 7] rfl rfl) (goodIn_ca (goodIn_r _ [8, 9, 10] rfl rfl) gs_wq_X2_takeVarint_wsX50)
set_option maxHeartbeats 4000000 in
set_option maxRecDepth 100000 in
theorem c_X2_takeVarint (l : Launch) (dC : Nat → ClassId) (dI : Nat → Nat → Nat) (ka ad : Nat → Nat) (ct : Nat → ClassId) (h0 : Nat) (p0 : Option Nat) (p1 : Int32) (st st' : CS) (r : Int64) (hf : fX2_takeVarint h0 p0 p1 st = some (r, st')) (sz : Nat) : Met l yX2_takeVarint wq_X2_takeVarint ({ frames := 1, cells := 0, slots := 0, locals := 25 }) (va_Pc [.ref (ad h0), va_rf (Option.map ad p0), .int p1] (PrC (dC, dI) ct ka ad st sz)) (va_Ql (fun r' (_ : Unit) => r' = r) (fun _ => CB (dC, dI) ct ka ad st' (aC ad st sz)) (aC ad st sz)) 0 0 (aC ad st sz) := by
  refine Met.ofW (cc := cX2_takeVarint) (maxL := 7) (ret := (some .long)) (by decide) rfl ?_
  intro p e s m args below meth c s₁ B hml hv
  obtain ⟨rfl, hsz, hw0, hK, hN, hZ, hC, hR, hL, hw1, hw2⟩ := hv
  have hx := B.exec
  have hb := B.bytes
  have hr := B.returns
  have hts := atoms_spec (ws := wq_X2_takeVarint) B.pre
  have hown : s.vm.findClass RX2 = some m.cls := findClass_of_methodNamed B.named
  have iRX2 : ∀ w ∈ u_ws RX2 TX2 8, w ∈ wq_X2_takeVarint := fun w h => List.mem_cons_of_mem _ (List.mem_append_left _ (List.mem_append_right _ h))
  subst hsz
  have hp : Cp (dC, dI) ka ad ct (aC ad st s.heap.size) s.heap st s.heap [] := ⟨fun i a b => ⟨hw0 i a b, Or.inl ⟨i, a, b, rfl⟩⟩, va_S.rf, hw1, hw2⟩
  generalize hAe : aC ad st s.heap.size = A at hp hZ hC ⊢
  have hA : ∀ q : Nat, s.heap.size ≤ q → A q := fun q h => by rw [← hAe]; exact Or.inr h
  have hl := lv_entry ([.ref (ad h0), va_rf (Option.map ad p0), .int p1]) (n := 7) (by simp [lg_sl, rf_cat, vc_i, vc_l, vc_r, vc_n])
  rw [lg_entry_eq]
  generalize (lg_sl ([.ref (ad h0), va_rf (Option.map ad p0), .int p1]) ++ List.replicate (7 - (lg_sl ([.ref (ad h0), va_rf (Option.map ad p0), .int p1])).length) Slot.unset).toArray = ls at hl ⊢
  have hl : lv_has ls 7 [(0, .ref (ad h0)), (1, va_rf (Option.map ad p0)), (2, .int p1)] := by simpa [lv_args, rf_cat, vc_i, vc_l, vc_r, vc_n] using hl
  refine W_blk (fun (gs : CS) H locs ls => fX2_takeVarint_53 h0 gs = some (r, st') ∧ Cp (dC, dI) ka ad ct A s.heap gs H locs ∧ lv_has ls 7 [(0, .ref (ad h0))]) (fun (gs : CS) ls => F0 m 53 ls []) ?_ (fun J53 => ?_)
  · intro u H locs ls hu
    obtain ⟨gs, rfl⟩ : ∃ z, z = u := ⟨_, rfl⟩
    obtain ⟨hf, hp, hl⟩ := hu
    show W p l e _ s m _ below meth c _ _ _ _ _ (F0 m 53 ls [])
    unfold fX2_takeVarint_53 at hf
    refine lv_aload_n hx hb dX2_takeVarint_53 rfl (lv_at hl 0 rfl) ?_
    refine lv_iconst (v := 1) hx hb dX2_takeVarint_54 (by decide) ?_
    obtain ⟨hk_1, hf⟩ := gd_some hf
    refine q_pi (ci := 4) (C := RX2) (T := TX2) (N := 8) (k := 7) (v := 1) (ty := .boolean) hx hb hts iRX2 tyX2 tyX2_ok nmX2 hown hK hp hk_1 (by decide) rfl rfl (by decide) rfl (Or.inl (hts (.fieldLink RX2 35 "RecordBench$Piece" "broken" "Z") (by decide +kernel))) (fun _ h9 => h9) rfl (by decide +kernel) rfl rfl dX2_takeVarint_55 (fun H locs hp => ?_)
    obtain ⟨st_2, est_2, hf⟩ := nam_some hf
    rw [← est_2] at hp
    have hk_1 : qk st_2 h0 = 5 := by rw [est_2]; exact hk_1
    refine lv_lconst (v := 0) hx hb dX2_takeVarint_58 (by decide) ?_
    obtain ⟨e1, e2⟩ := pr_some hf
    exact W.lret (v := 0) hx hb hr (fun t ht hW => ⟨⟨0, (), rfl, e1, Cp.end e2 hp ht⟩, hp.2.1.F ht⟩) hp.2.1.2.2 dX2_takeVarint_59
  refine W_lp (fun n5 (u : (Option Nat) × Int32 × Int64 × Int32 × CS) H locs ls => match u with | (l1, l2, l3, l5, gs) => fX2_takeVarint_5 h0 n5 l1 l2 l3 l5 gs = some (r, st') ∧ Cp (dC, dI) ka ad ct A s.heap gs H locs ∧ lv_has ls 7 [(0, .ref (ad h0)), (1, va_rf (Option.map ad l1)), (2, .int l2), (3, .long l3), (5, .int l5)]) (fun (u : (Option Nat) × Int32 × Int64 × Int32 × CS) ls => match u with | (l1, l2, l3, l5, gs) => F0 m 5 ls []) ?_ ?_ (fun J5 => ?_)
  · intro u H locs ls hu
    obtain ⟨l1, l2, l3, l5, gs⟩ := u
    obtain ⟨hf, hp, hl⟩ := hu
    rw [fX2_takeVarint_5_z] at hf
    cases hf
  · intro n5 ih5 u H locs ls hu
    obtain ⟨l1, l2, l3, l5, gs⟩ := u
    obtain ⟨hf, hp, hl⟩ := hu
    show W p l e _ s m _ below meth c _ _ _ _ _ (F0 m 5 ls [])
    refine W_blk (fun (u : (Option Nat) × Int32 × Int64 × Int32 × Int32 × CS) H locs ls => match u with | (l1, l2, l3, l5, l6, gs) => fX2_takeVarint_60 h0 (fX2_takeVarint_5 h0 n5) l1 l2 l3 l5 l6 gs = some (r, st') ∧ Cp (dC, dI) ka ad ct A s.heap gs H locs ∧ lv_has ls 7 [(0, .ref (ad h0)), (1, va_rf (Option.map ad l1)), (2, .int l2), (3, .long l3), (5, .int l5), (6, .int l6)]) (fun (u : (Option Nat) × Int32 × Int64 × Int32 × Int32 × CS) ls => match u with | (l1, l2, l3, l5, l6, gs) => F0 m 60 ls []) ?_ (fun J60 => ?_)
    · intro u H locs ls hu
      obtain ⟨l1, l2, l3, l5, l6, gs⟩ := u
      obtain ⟨hf, hp, hl⟩ := hu
      show W p l e _ s m _ below meth c _ _ _ _ _ (F0 m 60 ls [])
      unfold fX2_takeVarint_60 at hf
      refine lv_aload_n hx hb dX2_takeVarint_60 rfl (lv_at hl 0 rfl) ?_
      refine lv_dup hx hb dX2_takeVarint_61 rfl ?_
      obtain ⟨hk_3, hf⟩ := gd_some hf
      refine q_gi (ci := 4) (C := RX2) (T := TX2) (N := 8) (k := 6) hx hb hts iRX2 hown hK hp hk_3 (by decide) rfl rfl (by decide) rfl (Or.inl (hts (.fieldLink RX2 32 "RecordBench$Piece" "pos" "I") (by decide +kernel))) (fun _ h9 => h9) dX2_takeVarint_62 ?_
      refine lv_iconst (v := 1) hx hb dX2_takeVarint_65 (by decide) ?_
      refine lv_iadd hx hb dX2_takeVarint_66 ?_
      refine q_pi (ci := 4) (C := RX2) (T := TX2) (N := 8) (k := 6) (v := (qI gs h0 6) + 1) (ty := .int) hx hb hts iRX2 tyX2 tyX2_ok nmX2 hown hK hp hk_3 (by decide) rfl rfl (by decide) rfl (Or.inl (hts (.fieldLink RX2 32 "RecordBench$Piece" "pos" "I") (by decide +kernel))) (fun _ h9 => h9) rfl (by decide +kernel) rfl rfl dX2_takeVarint_67 (fun H locs hp => ?_)
      obtain ⟨st_4, est_4, hf⟩ := nam_some hf
      rw [← est_4] at hp
      have hk_3 : qk st_4 h0 = 5 := by rw [est_4]; exact hk_3
      refine lv_lload_n hx hb dX2_takeVarint_70 rfl (lv_at hl 3 rfl) ?_
      refine lv_iload hx hb dX2_takeVarint_71 (lv_at hl 5 rfl) ?_
      refine lv_i2l (v := l6.toInt64) hx hb dX2_takeVarint_73 rfl ?_
      refine lv_ldc2 hx hb hown (hts (.constantLong RX2 54 (127)) (by decide +kernel)) dX2_takeVarint_74 ?_
      refine lv_land hx hb dX2_takeVarint_77 ?_
      refine lv_bipush (v := 7) hx hb dX2_takeVarint_78 (by decide) ?_
      refine lv_iload hx hb dX2_takeVarint_80 (lv_at hl 4 rfl) ?_
      refine lv_imul hx hb dX2_takeVarint_82 ?_
      refine lv_lshl (v := (l6.toInt64 &&& 127) <<< ((7 * l5).toInt64 &&& 63)) hx hb dX2_takeVarint_83 rfl ?_
      refine lv_lor hx hb dX2_takeVarint_84 ?_
      obtain ⟨v_5, ev_5, hf⟩ := nam_some hf
      refine W_tol (y := v_5) ev_5.symm ?_
      refine lv_lstore_n (i := 3) (lv' := [(3, .long v_5), (0, .ref (ad h0)), (1, va_rf (Option.map ad l1)), (2, .int l2), (5, .int l5), (6, .int l6)]) hx hb dX2_takeVarint_85 rfl hl (by decide) rfl (fun ls hl => ?_)
      refine lv_iload hx hb dX2_takeVarint_86 (lv_at hl 5 rfl) ?_
      refine lv_sipush (v := 128) hx hb dX2_takeVarint_88 (by decide) ?_
      refine lv_icmp_ge (tgt := 96) hx hb dX2_takeVarint_91 (by decide) (fun c_6 => ?_) (fun c_6 => ?_)
      · have hf := pif_t c_6 hf
        obtain ⟨v_7, ev_7, hf⟩ := nam_some hf
        refine lv_iinc (v := v_7) (lv' := [(5, .int v_7), (3, .long v_5), (0, .ref (ad h0)), (1, va_rf (Option.map ad l1)), (2, .int l2), (6, .int l6)]) hx hb dX2_takeVarint_96 hl (k := 4) rfl ev_7.symm (by decide) rfl (fun ls hl => ?_)
        refine lv_goto (tgt := 5) hx hb dX2_takeVarint_99 (by decide) ?_
        exact ih5 (l1, l2, v_5, v_7, st_4) _ _ _ ⟨hf, hp, (lv_sub hl [2, 3, 4, 1, 0] rfl)⟩
      · have hf := pif_f c_6 hf
        refine lv_lload_n hx hb dX2_takeVarint_94 rfl (lv_at hl 0 rfl) ?_
        obtain ⟨e1, e2⟩ := pr_some hf
        exact W.lret (v := v_5) hx hb hr (fun t ht hW => ⟨⟨v_5, (), rfl, e1, Cp.end e2 hp ht⟩, hp.2.1.F ht⟩) hp.2.1.2.2 dX2_takeVarint_95
    refine W_blk (fun (u : (Option Nat) × Int32 × Int64 × Int32 × Int32 × CS) H locs ls => match u with | (l1, l2, l3, l5, s0, gs) => fX2_takeVarint_32 h0 (fX2_takeVarint_5 h0 n5) l1 l2 l3 l5 s0 gs = some (r, st') ∧ Cp (dC, dI) ka ad ct A s.heap gs H locs ∧ lv_has ls 7 [(0, .ref (ad h0)), (1, va_rf (Option.map ad l1)), (2, .int l2), (3, .long l3), (5, .int l5)]) (fun (u : (Option Nat) × Int32 × Int64 × Int32 × Int32 × CS) ls => match u with | (l1, l2, l3, l5, s0, gs) => F0 m 32 ls [.int s0]) ?_ (fun J32 => ?_)
    · intro u H locs ls hu
      obtain ⟨l1, l2, l3, l5, s0, gs⟩ := u
      obtain ⟨hf, hp, hl⟩ := hu
      show W p l e _ s m _ below meth c _ _ _ _ _ (F0 m 32 ls [.int s0])
      unfold fX2_takeVarint_32 at hf
      refine lv_istore (i := 6) (lv' := [(6, .int s0), (0, .ref (ad h0)), (1, va_rf (Option.map ad l1)), (2, .int l2), (3, .long l3), (5, .int l5)]) hx hb dX2_takeVarint_32 hl (by decide) rfl (fun ls hl => ?_)
      refine lv_iload hx hb dX2_takeVarint_34 (lv_at hl 0 rfl) ?_
      refine lv_iconst (v := (-1)) hx hb dX2_takeVarint_36 (by decide) ?_
      refine lv_icmp_eq (tgt := 53) hx hb dX2_takeVarint_37 (by decide) (fun c_8 => ?_) (fun c_8 => ?_)
      · have hf := pif_t c_8 hf
        exact J53 gs _ _ _ ⟨hf, hp, (lv_sub hl [1] rfl)⟩
      · have hf := pif_f c_8 hf
        refine lv_iload hx hb dX2_takeVarint_40 (lv_at hl 5 rfl) ?_
        refine lv_bipush (v := 9) hx hb dX2_takeVarint_42 (by decide) ?_
        refine lv_icmp_ne (tgt := 60) hx hb dX2_takeVarint_44 (by decide) (fun c_9 => ?_) (fun c_9 => ?_)
        · have hf := pif_f c_9 hf
          exact J60 (l1, l2, l3, l5, s0, gs) _ _ _ ⟨hf, hp, (lv_sub hl [1, 2, 3, 4, 5, 0] rfl)⟩
        · have hf := pif_t c_9 hf
          refine lv_iload hx hb dX2_takeVarint_47 (lv_at hl 0 rfl) ?_
          refine lv_iconst (v := 1) hx hb dX2_takeVarint_49 (by decide) ?_
          refine lv_icmp_le (tgt := 60) hx hb dX2_takeVarint_50 (by decide) (fun c_10 => ?_) (fun c_10 => ?_)
          · have hf := pif_t c_10 hf
            exact J60 (l1, l2, l3, l5, s0, gs) _ _ _ ⟨hf, hp, (lv_sub hl [1, 2, 3, 4, 5, 0] rfl)⟩
          · have hf := pif_f c_10 hf
            exact J53 gs _ _ _ ⟨hf, hp, (lv_sub hl [1] rfl)⟩
    rw [fX2_takeVarint_5_s] at hf
    refine lv_iload hx hb dX2_takeVarint_5 (lv_at hl 4 rfl) ?_
    refine lv_bipush (v := 10) hx hb dX2_takeVarint_7 (by decide) ?_
    refine lv_icmp_ge (tgt := 102) hx hb dX2_takeVarint_9 (by decide) (fun c_11 => ?_) (fun c_11 => ?_)
    · have hf := pif_t c_11 hf
      refine lv_aload_n hx hb dX2_takeVarint_102 rfl (lv_at hl 0 rfl) ?_
      refine lv_iconst (v := 1) hx hb dX2_takeVarint_103 (by decide) ?_
      obtain ⟨hk_12, hf⟩ := gd_some hf
      refine q_pi (ci := 4) (C := RX2) (T := TX2) (N := 8) (k := 7) (v := 1) (ty := .boolean) hx hb hts iRX2 tyX2 tyX2_ok nmX2 hown hK hp hk_12 (by decide) rfl rfl (by decide) rfl (Or.inl (hts (.fieldLink RX2 35 "RecordBench$Piece" "broken" "Z") (by decide +kernel))) (fun _ h9 => h9) rfl (by decide +kernel) rfl rfl dX2_takeVarint_104 (fun H locs hp => ?_)
      obtain ⟨st_13, est_13, hf⟩ := nam_some hf
      rw [← est_13] at hp
      have hk_12 : qk st_13 h0 = 5 := by rw [est_13]; exact hk_12
      refine lv_lconst (v := 0) hx hb dX2_takeVarint_107 (by decide) ?_
      obtain ⟨e1, e2⟩ := pr_some hf
      exact W.lret (v := 0) hx hb hr (fun t ht hW => ⟨⟨0, (), rfl, e1, Cp.end e2 hp ht⟩, hp.2.1.F ht⟩) hp.2.1.2.2 dX2_takeVarint_108
    · have hf := pif_f c_11 hf
      refine lv_aload_n hx hb dX2_takeVarint_12 rfl (lv_at hl 0 rfl) ?_
      obtain ⟨hk_14, hf⟩ := gd_some hf
      refine q_gi (ci := 4) (C := RX2) (T := TX2) (N := 8) (k := 6) hx hb hts iRX2 hown hK hp hk_14 (by decide) rfl rfl (by decide) rfl (Or.inl (hts (.fieldLink RX2 32 "RecordBench$Piece" "pos" "I") (by decide +kernel))) (fun _ h9 => h9) dX2_takeVarint_13 ?_
      refine lv_iload_n hx hb dX2_takeVarint_16 rfl (lv_at hl 2 rfl) ?_
      refine lv_icmp_ge (tgt := 31) hx hb dX2_takeVarint_17 (by decide) (fun c_15 => ?_) (fun c_15 => ?_)
      · have hf := pif_t c_15 hf
        refine lv_iconst (v := (-1)) hx hb dX2_takeVarint_31 (by decide) ?_
        exact J32 (l1, l2, l3, l5, (-1), gs) _ _ _ ⟨hf, hp, (lv_sub hl [0, 1, 2, 3, 4] rfl)⟩
      · have hf := pif_f c_15 hf
        refine o_aload_n hx hb dX2_takeVarint_20 rfl (lv_at hl 1 rfl) ?_
        refine lv_aload_n hx hb dX2_takeVarint_21 rfl (lv_at hl 0 rfl) ?_
        refine q_gi (ci := 4) (C := RX2) (T := TX2) (N := 8) (k := 6) hx hb hts iRX2 hown hK hp hk_14 (by decide) rfl rfl (by decide) rfl (Or.inl (hts (.fieldLink RX2 32 "RecordBench$Piece" "pos" "I") (by decide +kernel))) (fun _ h9 => h9) dX2_takeVarint_22 ?_
        obtain ⟨a_16, ha_17, hf⟩ := ono_some hf
        refine o_at1 ha_17 ?_
        obtain ⟨hk_18, hf⟩ := gd_some hf
        obtain ⟨r_21, st_19, hc_20, hf⟩ := bnd_some hf
        refine q_ci hp hA (va_runV (As := [.int (qI gs h0 6)]) (rest := []) ⟨hx, hb, hml, hown, hts⟩ (c_X5_byteAt l dC dI ka ad ct a_16 (qI gs h0 6) _ _ _ hc_20 _) (cwV 1 hts gq_X2_takeVarint_X5_byteAt_48 rfl rfl rfl (by decide +kernel) ⟨Nat.le_of_ble_eq_true rfl, Nat.le_of_ble_eq_true rfl⟩) ⟨PrC.blind _, q_rv7 hK hp hC hk_18, q_pre hp hK hN hZ hC hR hL hA⟩ rfl rfl hl.1 rfl (lv_room (Nat.le_of_ble_eq_true rfl)) dX2_takeVarint_25 ⟨Nat.le_of_ble_eq_true rfl, Nat.le_of_ble_eq_true rfl⟩) (fun H locs hp => ?_)
        have hk_14 : qk st_19 h0 = 5 := by rw [(mo_X5_byteAt a_16 (qI gs h0 6) _ _ _ hc_20).2.2.1]; exact hk_14
        have hk_18 : qk st_19 a_16 = 8 := by rw [(mo_X5_byteAt a_16 (qI gs h0 6) _ _ _ hc_20).2.2.1]; exact hk_18
        refine lv_goto (tgt := 32) hx hb dX2_takeVarint_28 (by decide) ?_
        exact J32 (l1, l2, l3, l5, r_21, st_19) _ _ _ ⟨hf, hp, (lv_sub hl [0, 1, 2, 3, 4] rfl)⟩
  unfold fX2_takeVarint at hf
  refine lv_lconst (v := 0) hx hb dX2_takeVarint_0 (by decide) ?_
  refine lv_lstore_n (i := 3) (lv' := [(3, .long 0), (0, .ref (ad h0)), (1, va_rf (Option.map ad p0)), (2, .int p1)]) hx hb dX2_takeVarint_1 rfl hl (by decide) rfl (fun ls hl => ?_)
  refine lv_iconst (v := 0) hx hb dX2_takeVarint_2 (by decide) ?_
  refine lv_istore (i := 5) (lv' := [(5, .int 0), (3, .long 0), (0, .ref (ad h0)), (1, va_rf (Option.map ad p0)), (2, .int p1)]) hx hb dX2_takeVarint_3 hl (by decide) rfl (fun ls hl => ?_)
  exact J5 fuel (p0, p1, 0, 0, st) _ _ _ ⟨hf, hp, (lv_sub hl [2, 3, 4, 1, 0] rfl)⟩
noncomputable def fX2_place_99 (h0 : Nat)  (gs : CS) : Option (CS) := gd (qk gs h0 = 5) (nam (wI gs h0 5 3) (fun st_2 => some st_2))
set_option maxHeartbeats 1000000 in
theorem mo_X2_place_99 (h0 : Nat)   (gs : CS) (st' : CS) (hf : fX2_place_99 h0 gs = some st') : Ke gs st' := by
  unfold fX2_place_99 at hf
  have hm : Ke gs gs := Ke.rf
  obtain ⟨hk_1, hf⟩ := gd_some hf
  obtain ⟨st_2, est_2, hf⟩ := nam_some hf
  have hm := hm.wI est_2
  have e2 := Option.some.inj hf
  exact e2 ▸ hm
noncomputable def fX2_place_48 (h0 : Nat)  (l3 : Int32) (s0 : Int32) (gs : CS) : Option (CS) := gd (qk gs h0 = 5) (gd (narrow .boolean (.int s0) = .int s0 ∧ fits .boolean (.int s0) = true) (nam (wI gs h0 1 s0) (fun st_5 => nam (wI st_5 h0 3 (qI st_5 h0 6)) (fun st_6 => nam (wI st_6 h0 4 (qI st_6 h0 6)) (fun st_7 => pif ((qI st_7 h0 1) = 0) (some st_7) (pif ((lg_cmp (qJ st_7 h0 2) (0 : Int64)) < 0) (fX2_place_99 h0 st_7) (pif ((lg_cmp (qJ st_7 h0 2) ((l3 - (qI st_7 h0 6)).toInt64)) ≤ 0) (nam (wI st_7 h0 4 ((qI st_7 h0 6) + ((qJ st_7 h0 2).toInt32))) (fun st_11 => some st_11)) (fX2_place_99 h0 st_7))))))))
set_option maxHeartbeats 1000000 in
theorem mo_X2_place_48 (h0 : Nat)   (l3 : Int32) (s0 : Int32) (gs : CS) (st' : CS) (hf : fX2_place_48 h0 l3 s0 gs = some st') : Ke gs st' := by
  unfold fX2_place_48 at hf
  have hm : Ke gs gs := Ke.rf
  obtain ⟨hk_3, hf⟩ := gd_some hf
  obtain ⟨g_4, hf⟩ := gd_some hf
  obtain ⟨st_5, est_5, hf⟩ := nam_some hf
  have hm := hm.wI est_5
  obtain ⟨st_6, est_6, hf⟩ := nam_some hf
  have hm := hm.wI est_6
  obtain ⟨st_7, est_7, hf⟩ := nam_some hf
  have hm := hm.wI est_7
  rcases pif_or hf with ⟨c_8, hf⟩ | ⟨c_8, hf⟩
  · have e2 := Option.some.inj hf
    exact e2 ▸ hm
  · rcases pif_or hf with ⟨c_9, hf⟩ | ⟨c_9, hf⟩
    · exact hm.tr (mo_X2_place_99 h0 st_7 _ hf)
    · rcases pif_or hf with ⟨c_10, hf⟩ | ⟨c_10, hf⟩
      · obtain ⟨st_11, est_11, hf⟩ := nam_some hf
        have hm := hm.wI est_11
        have e2 := Option.some.inj hf
        exact e2 ▸ hm
      · exact hm.tr (mo_X2_place_99 h0 st_7 _ hf)
noncomputable def fX2_place_21 (h0 : Nat)  (gs : CS) : Option (CS) := gd (qk gs h0 = 5) (nam (wI gs h0 5 2) (fun st_13 => some st_13))
set_option maxHeartbeats 1000000 in
theorem mo_X2_place_21 (h0 : Nat)   (gs : CS) (st' : CS) (hf : fX2_place_21 h0 gs = some st') : Ke gs st' := by
  unfold fX2_place_21 at hf
  have hm : Ke gs gs := Ke.rf
  obtain ⟨hk_12, hf⟩ := gd_some hf
  obtain ⟨st_13, est_13, hf⟩ := nam_some hf
  have hm := hm.wI est_13
  have e2 := Option.some.inj hf
  exact e2 ▸ hm
noncomputable def fX2_place (h0 : Nat) (p0 : Int64) (p1 : Int32) (st : CS) : Option (CS) := nam ((p0.toUInt64 >>> ((1 : Int32).toInt64.toUInt64 &&& Int64.toUInt64 63)).toInt64) (fun v_14 => pif ((lg_cmp v_14 (1 : Int64)) < 0) (fX2_place_21 h0 st) (pif ((lg_cmp v_14 (30 : Int64)) ≤ 0) (gd (qk st h0 = 5) (nam (wI st h0 0 v_14.toInt32) (fun st_18 => pif ((lg_cmp (p0 &&& 1) (0 : Int64)) = 0) (fX2_place_48 h0 p1 0 st_18) (fX2_place_48 h0 p1 1 st_18)))) (fX2_place_21 h0 st)))
set_option maxHeartbeats 1000000 in
theorem mo_X2_place (h0 : Nat) (p0 : Int64) (p1 : Int32) (st : CS) (st' : CS) (hf : fX2_place h0 p0 p1 st = some st') : Ke st st' := by
  unfold fX2_place at hf
  have hm : Ke st st := Ke.rf
  obtain ⟨v_14, ev_14, hf⟩ := nam_some hf
  rcases pif_or hf with ⟨c_15, hf⟩ | ⟨c_15, hf⟩
  · exact hm.tr (mo_X2_place_21 h0 st _ hf)
  · rcases pif_or hf with ⟨c_16, hf⟩ | ⟨c_16, hf⟩
    · obtain ⟨hk_17, hf⟩ := gd_some hf
      obtain ⟨st_18, est_18, hf⟩ := nam_some hf
      have hm := hm.wI est_18
      rcases pif_or hf with ⟨c_19, hf⟩ | ⟨c_19, hf⟩
      · exact hm.tr (mo_X2_place_48 h0 p1 0 st_18 _ hf)
      · exact hm.tr (mo_X2_place_48 h0 p1 1 st_18 _ hf)
    · exact hm.tr (mo_X2_place_21 h0 st _ hf)
def wq_X2_place : List Cond := .code yX2_place cX2_place 6 none :: (([.constantLong RX2 46 (30), .fieldLink RX2 9 "RecordBench$Piece" "number" "I", .fieldLink RX2 15 "RecordBench$Piece" "withLength" "Z", .fieldLink RX2 32 "RecordBench$Piece" "pos" "I", .fieldLink RX2 23 "RecordBench$Piece" "body" "I", .fieldLink RX2 26 "RecordBench$Piece" "end" "I", .fieldLink RX2 19 "RecordBench$Piece" "raw" "J", .fieldLink RX2 29 "RecordBench$Piece" "fault" "I"] : List Cond) ++ wsX20)
set_option maxHeartbeats 4000000 in
set_option maxRecDepth 100000 in
theorem c_X2_place (l : Launch) (dC : Nat → ClassId) (dI : Nat → Nat → Nat) (ka ad : Nat → Nat) (ct : Nat → ClassId) (h0 : Nat) (p0 : Int64) (p1 : Int32) (st st' : CS) (hf : fX2_place h0 p0 p1 st = some st') (sz : Nat) : Met l yX2_place wq_X2_place ({ frames := 0, cells := 0, slots := 0, locals := 0 }) (va_Pc [.ref (ad h0), .long p0, .int p1] (PrC (dC, dI) ct ka ad st sz)) (va_Qv (fun (_ : Unit) => True) (fun _ => CB (dC, dI) ct ka ad st' (aC ad st sz)) (aC ad st sz)) 0 0 (aC ad st sz) := by
  refine Met.ofW (cc := cX2_place) (maxL := 6) (ret := none) (by decide) rfl ?_
  intro p e s m args below meth c s₁ B hml hv
  obtain ⟨rfl, hsz, hw0, hK, hN, hZ, hC, hR, hL, hw1, hw2⟩ := hv
  have hx := B.exec
  have hb := B.bytes
  have hr := B.returns
  have hts := atoms_spec (ws := wq_X2_place) B.pre
  have hown : s.vm.findClass RX2 = some m.cls := findClass_of_methodNamed B.named
  have iRX2 : ∀ w ∈ u_ws RX2 TX2 8, w ∈ wq_X2_place := fun w h => List.mem_cons_of_mem _ (List.mem_append_right _ h)
  subst hsz
  have hp : Cp (dC, dI) ka ad ct (aC ad st s.heap.size) s.heap st s.heap [] := ⟨fun i a b => ⟨hw0 i a b, Or.inl ⟨i, a, b, rfl⟩⟩, va_S.rf, hw1, hw2⟩
  generalize hAe : aC ad st s.heap.size = A at hp hZ hC ⊢
  have hA : ∀ q : Nat, s.heap.size ≤ q → A q := fun q h => by rw [← hAe]; exact Or.inr h
  have hl := lv_entry ([.ref (ad h0), .long p0, .int p1]) (n := 6) (Nat.le_of_ble_eq_true rfl)
  rw [lg_entry_eq]
  generalize (lg_sl ([.ref (ad h0), .long p0, .int p1]) ++ List.replicate (6 - (lg_sl ([.ref (ad h0), .long p0, .int p1])).length) Slot.unset).toArray = ls at hl ⊢
  have hl : lv_has ls 6 [(0, .ref (ad h0)), (1, .long p0), (3, .int p1)] := hl
  refine W_blk (fun (gs : CS) H locs ls => fX2_place_99 h0 gs = some st' ∧ Cp (dC, dI) ka ad ct A s.heap gs H locs ∧ lv_has ls 6 [(0, .ref (ad h0))]) (fun (gs : CS) ls => F0 m 99 ls []) ?_ (fun J99 => ?_)
  · intro u H locs ls hu
    obtain ⟨gs, rfl⟩ : ∃ z, z = u := ⟨_, rfl⟩
    obtain ⟨hf, hp, hl⟩ := hu
    show W p l e _ s m _ below meth c _ _ _ _ _ (F0 m 99 ls [])
    unfold fX2_place_99 at hf
    refine lv_aload_n hx hb dX2_place_99 rfl (lv_at hl 0 rfl) ?_
    refine lv_iconst (v := 3) hx hb dX2_place_100 (by decide) ?_
    obtain ⟨hk_1, hf⟩ := gd_some hf
    refine q_pi (ci := 4) (C := RX2) (T := TX2) (N := 8) (k := 5) (v := 3) (ty := .int) hx hb hts iRX2 tyX2 tyX2_ok nmX2 hown hK hp hk_1 (by decide) rfl rfl (by decide) rfl (Or.inl (hts (.fieldLink RX2 29 "RecordBench$Piece" "fault" "I") (by decide +kernel))) (fun _ h9 => h9) rfl (by decide +kernel) rfl rfl dX2_place_101 (fun H locs hp => ?_)
    obtain ⟨st_2, est_2, hf⟩ := nam_some hf
    rw [← est_2] at hp
    have hk_1 : qk st_2 h0 = 5 := by rw [est_2]; exact hk_1
    have e2 := Option.some.inj hf
    exact W.vret hx hb hr (fun t ht hW => ⟨⟨(), rfl, trivial, Cp.end e2 hp ht⟩, hp.2.1.F ht⟩) hp.2.1.2.2 dX2_place_104
  refine W_blk (fun (u : Int32 × Int32 × CS) H locs ls => match u with | (l3, s0, gs) => fX2_place_48 h0 l3 s0 gs = some st' ∧ Cp (dC, dI) ka ad ct A s.heap gs H locs ∧ lv_has ls 6 [(0, .ref (ad h0)), (3, .int l3)]) (fun (u : Int32 × Int32 × CS) ls => match u with | (l3, s0, gs) => F0 m 48 ls [.int s0, .ref (ad h0)]) ?_ (fun J48 => ?_)
  · intro u H locs ls hu
    obtain ⟨l3, s0, gs⟩ := u
    obtain ⟨hf, hp, hl⟩ := hu
    show W p l e _ s m _ below meth c _ _ _ _ _ (F0 m 48 ls [.int s0, .ref (ad h0)])
    unfold fX2_place_48 at hf
    obtain ⟨hk_3, hf⟩ := gd_some hf
    obtain ⟨g_4, hf⟩ := gd_some hf
    refine q_pi (ci := 4) (C := RX2) (T := TX2) (N := 8) (k := 1) (v := s0) (ty := .boolean) hx hb hts iRX2 tyX2 tyX2_ok nmX2 hown hK hp hk_3 (by decide) rfl rfl (by decide) rfl (Or.inl (hts (.fieldLink RX2 15 "RecordBench$Piece" "withLength" "Z") (by decide +kernel))) (fun _ h9 => h9) rfl (by decide +kernel) g_4.1 g_4.2 dX2_place_48 (fun H locs hp => ?_)
    obtain ⟨st_5, est_5, hf⟩ := nam_some hf
    rw [← est_5] at hp
    have hk_3 : qk st_5 h0 = 5 := by rw [est_5]; exact hk_3
    refine lv_aload_n hx hb dX2_place_51 rfl (lv_at hl 0 rfl) ?_
    refine lv_aload_n hx hb dX2_place_52 rfl (lv_at hl 0 rfl) ?_
    refine q_gi (ci := 4) (C := RX2) (T := TX2) (N := 8) (k := 6) hx hb hts iRX2 hown hK hp hk_3 (by decide) rfl rfl (by decide) rfl (Or.inl (hts (.fieldLink RX2 32 "RecordBench$Piece" "pos" "I") (by decide +kernel))) (fun _ h9 => h9) dX2_place_53 ?_
    refine q_pi (ci := 4) (C := RX2) (T := TX2) (N := 8) (k := 3) (v := qI st_5 h0 6) (ty := .int) hx hb hts iRX2 tyX2 tyX2_ok nmX2 hown hK hp hk_3 (by decide) rfl rfl (by decide) rfl (Or.inl (hts (.fieldLink RX2 23 "RecordBench$Piece" "body" "I") (by decide +kernel))) (fun _ h9 => h9) rfl (by decide +kernel) rfl rfl dX2_place_56 (fun H locs hp => ?_)
    obtain ⟨st_6, est_6, hf⟩ := nam_some hf
    rw [← est_6] at hp
    have hk_3 : qk st_6 h0 = 5 := by rw [est_6]; exact hk_3
    refine lv_aload_n hx hb dX2_place_59 rfl (lv_at hl 0 rfl) ?_
    refine lv_aload_n hx hb dX2_place_60 rfl (lv_at hl 0 rfl) ?_
    refine q_gi (ci := 4) (C := RX2) (T := TX2) (N := 8) (k := 6) hx hb hts iRX2 hown hK hp hk_3 (by decide) rfl rfl (by decide) rfl (Or.inl (hts (.fieldLink RX2 32 "RecordBench$Piece" "pos" "I") (by decide +kernel))) (fun _ h9 => h9) dX2_place_61 ?_
    refine q_pi (ci := 4) (C := RX2) (T := TX2) (N := 8) (k := 4) (v := qI st_6 h0 6) (ty := .int) hx hb hts iRX2 tyX2 tyX2_ok nmX2 hown hK hp hk_3 (by decide) rfl rfl (by decide) rfl (Or.inl (hts (.fieldLink RX2 26 "RecordBench$Piece" "end" "I") (by decide +kernel))) (fun _ h9 => h9) rfl (by decide +kernel) rfl rfl dX2_place_64 (fun H locs hp => ?_)
    obtain ⟨st_7, est_7, hf⟩ := nam_some hf
    rw [← est_7] at hp
    have hk_3 : qk st_7 h0 = 5 := by rw [est_7]; exact hk_3
    refine lv_aload_n hx hb dX2_place_67 rfl (lv_at hl 0 rfl) ?_
    refine q_gi (ci := 4) (C := RX2) (T := TX2) (N := 8) (k := 1) hx hb hts iRX2 hown hK hp hk_3 (by decide) rfl rfl (by decide) rfl (Or.inl (hts (.fieldLink RX2 15 "RecordBench$Piece" "withLength" "Z") (by decide +kernel))) (fun _ h9 => h9) dX2_place_68 ?_
    refine lv_if_ne (tgt := 75) hx hb dX2_place_71 (by decide) (fun c_8 => ?_) (fun c_8 => ?_)
    · have hf := pif_f c_8 hf
      refine lv_aload_n hx hb dX2_place_75 rfl (lv_at hl 0 rfl) ?_
      refine q_gj (ci := 4) (C := RX2) (T := TX2) (N := 8) (k := 2) hx hb hts iRX2 hown hK hp hk_3 (by decide) rfl rfl (by decide) rfl (Or.inl (hts (.fieldLink RX2 19 "RecordBench$Piece" "raw" "J") (by decide +kernel))) (fun _ h9 => h9) dX2_place_76 ?_
      refine lv_lconst (v := 0) hx hb dX2_place_79 (by decide) ?_
      refine W.lcmp hx hb dX2_place_80 ?_
      refine lv_if_lt (tgt := 99) hx hb dX2_place_81 (by decide) (fun c_9 => ?_) (fun c_9 => ?_)
      · have hf := pif_t c_9 hf
        exact J99 st_7 _ _ _ ⟨hf, hp, (lv_sub hl [0] rfl)⟩
      · have hf := pif_f c_9 hf
        refine lv_aload_n hx hb dX2_place_84 rfl (lv_at hl 0 rfl) ?_
        refine q_gj (ci := 4) (C := RX2) (T := TX2) (N := 8) (k := 2) hx hb hts iRX2 hown hK hp hk_3 (by decide) rfl rfl (by decide) rfl (Or.inl (hts (.fieldLink RX2 19 "RecordBench$Piece" "raw" "J") (by decide +kernel))) (fun _ h9 => h9) dX2_place_85 ?_
        refine lv_iload_n hx hb dX2_place_88 rfl (lv_at hl 1 rfl) ?_
        refine lv_aload_n hx hb dX2_place_89 rfl (lv_at hl 0 rfl) ?_
        refine q_gi (ci := 4) (C := RX2) (T := TX2) (N := 8) (k := 6) hx hb hts iRX2 hown hK hp hk_3 (by decide) rfl rfl (by decide) rfl (Or.inl (hts (.fieldLink RX2 32 "RecordBench$Piece" "pos" "I") (by decide +kernel))) (fun _ h9 => h9) dX2_place_90 ?_
        refine lv_isub hx hb dX2_place_93 ?_
        refine lv_i2l (v := (l3 - (qI st_7 h0 6)).toInt64) hx hb dX2_place_94 rfl ?_
        refine W.lcmp hx hb dX2_place_95 ?_
        refine lv_if_le (tgt := 105) hx hb dX2_place_96 (by decide) (fun c_10 => ?_) (fun c_10 => ?_)
        · have hf := pif_t c_10 hf
          refine lv_aload_n hx hb dX2_place_105 rfl (lv_at hl 0 rfl) ?_
          refine lv_aload_n hx hb dX2_place_106 rfl (lv_at hl 0 rfl) ?_
          refine q_gi (ci := 4) (C := RX2) (T := TX2) (N := 8) (k := 6) hx hb hts iRX2 hown hK hp hk_3 (by decide) rfl rfl (by decide) rfl (Or.inl (hts (.fieldLink RX2 32 "RecordBench$Piece" "pos" "I") (by decide +kernel))) (fun _ h9 => h9) dX2_place_107 ?_
          refine lv_aload_n hx hb dX2_place_110 rfl (lv_at hl 0 rfl) ?_
          refine q_gj (ci := 4) (C := RX2) (T := TX2) (N := 8) (k := 2) hx hb hts iRX2 hown hK hp hk_3 (by decide) rfl rfl (by decide) rfl (Or.inl (hts (.fieldLink RX2 19 "RecordBench$Piece" "raw" "J") (by decide +kernel))) (fun _ h9 => h9) dX2_place_111 ?_
          refine lv_l2i (v := (qJ st_7 h0 2).toInt32) hx hb dX2_place_114 rfl ?_
          refine lv_iadd hx hb dX2_place_115 ?_
          refine q_pi (ci := 4) (C := RX2) (T := TX2) (N := 8) (k := 4) (v := (qI st_7 h0 6) + ((qJ st_7 h0 2).toInt32)) (ty := .int) hx hb hts iRX2 tyX2 tyX2_ok nmX2 hown hK hp hk_3 (by decide) rfl rfl (by decide) rfl (Or.inl (hts (.fieldLink RX2 26 "RecordBench$Piece" "end" "I") (by decide +kernel))) (fun _ h9 => h9) rfl (by decide +kernel) rfl rfl dX2_place_116 (fun H locs hp => ?_)
          obtain ⟨st_11, est_11, hf⟩ := nam_some hf
          rw [← est_11] at hp
          have hk_3 : qk st_11 h0 = 5 := by rw [est_11]; exact hk_3
          have e2 := Option.some.inj hf
          exact W.vret hx hb hr (fun t ht hW => ⟨⟨(), rfl, trivial, Cp.end e2 hp ht⟩, hp.2.1.F ht⟩) hp.2.1.2.2 dX2_place_119
        · have hf := pif_f c_10 hf
          exact J99 st_7 _ _ _ ⟨hf, hp, (lv_sub hl [0] rfl)⟩
    · have hf := pif_t c_8 hf
      have e2 := Option.some.inj hf
      exact W.vret hx hb hr (fun t ht hW => ⟨⟨(), rfl, trivial, Cp.end e2 hp ht⟩, hp.2.1.F ht⟩) hp.2.1.2.2 dX2_place_74
  refine W_blk (fun (gs : CS) H locs ls => fX2_place_21 h0 gs = some st' ∧ Cp (dC, dI) ka ad ct A s.heap gs H locs ∧ lv_has ls 6 [(0, .ref (ad h0))]) (fun (gs : CS) ls => F0 m 21 ls []) ?_ (fun J21 => ?_)
  · intro u H locs ls hu
    obtain ⟨gs, rfl⟩ : ∃ z, z = u := ⟨_, rfl⟩
    obtain ⟨hf, hp, hl⟩ := hu
    show W p l e _ s m _ below meth c _ _ _ _ _ (F0 m 21 ls [])
    unfold fX2_place_21 at hf
    refine lv_aload_n hx hb dX2_place_21 rfl (lv_at hl 0 rfl) ?_
    refine lv_iconst (v := 2) hx hb dX2_place_22 (by decide) ?_
    obtain ⟨hk_12, hf⟩ := gd_some hf
    refine q_pi (ci := 4) (C := RX2) (T := TX2) (N := 8) (k := 5) (v := 2) (ty := .int) hx hb hts iRX2 tyX2 tyX2_ok nmX2 hown hK hp hk_12 (by decide) rfl rfl (by decide) rfl (Or.inl (hts (.fieldLink RX2 29 "RecordBench$Piece" "fault" "I") (by decide +kernel))) (fun _ h9 => h9) rfl (by decide +kernel) rfl rfl dX2_place_23 (fun H locs hp => ?_)
    obtain ⟨st_13, est_13, hf⟩ := nam_some hf
    rw [← est_13] at hp
    have hk_12 : qk st_13 h0 = 5 := by rw [est_13]; exact hk_12
    have e2 := Option.some.inj hf
    exact W.vret hx hb hr (fun t ht hW => ⟨⟨(), rfl, trivial, Cp.end e2 hp ht⟩, hp.2.1.F ht⟩) hp.2.1.2.2 dX2_place_26
  unfold fX2_place at hf
  refine lv_lload_n hx hb dX2_place_0 rfl (lv_at hl 1 rfl) ?_
  refine lv_iconst (v := 1) hx hb dX2_place_1 (by decide) ?_
  refine lv_lushr (v := (p0.toUInt64 >>> ((1 : Int32).toInt64.toUInt64 &&& Int64.toUInt64 63)).toInt64) hx hb dX2_place_2 rfl ?_
  obtain ⟨v_14, ev_14, hf⟩ := nam_some hf
  refine W_tol (y := v_14) ev_14.symm ?_
  refine lv_lstore (i := 4) (lv' := [(4, .long v_14), (0, .ref (ad h0)), (1, .long p0), (3, .int p1)]) hx hb dX2_place_3 hl (by decide) rfl (fun ls hl => ?_)
  refine lv_lload hx hb dX2_place_5 (lv_at hl 0 rfl) ?_
  refine lv_lconst (v := 1) hx hb dX2_place_7 (by decide) ?_
  refine W.lcmp hx hb dX2_place_8 ?_
  refine lv_if_lt (tgt := 21) hx hb dX2_place_9 (by decide) (fun c_15 => ?_) (fun c_15 => ?_)
  · have hf := pif_t c_15 hf
    exact J21 st _ _ _ ⟨hf, hp, (lv_sub hl [1] rfl)⟩
  · have hf := pif_f c_15 hf
    refine lv_lload hx hb dX2_place_12 (lv_at hl 0 rfl) ?_
    refine lv_ldc2 hx hb hown (hts (.constantLong RX2 46 (30)) (by decide +kernel)) dX2_place_14 ?_
    refine W.lcmp hx hb dX2_place_17 ?_
    refine lv_if_le (tgt := 27) hx hb dX2_place_18 (by decide) (fun c_16 => ?_) (fun c_16 => ?_)
    · have hf := pif_t c_16 hf
      refine lv_aload_n hx hb dX2_place_27 rfl (lv_at hl 1 rfl) ?_
      refine lv_lload hx hb dX2_place_28 (lv_at hl 0 rfl) ?_
      refine lv_l2i (v := v_14.toInt32) hx hb dX2_place_30 rfl ?_
      obtain ⟨hk_17, hf⟩ := gd_some hf
      refine q_pi (ci := 4) (C := RX2) (T := TX2) (N := 8) (k := 0) (v := v_14.toInt32) (ty := .int) hx hb hts iRX2 tyX2 tyX2_ok nmX2 hown hK hp hk_17 (by decide) rfl rfl (by decide) rfl (Or.inl (hts (.fieldLink RX2 9 "RecordBench$Piece" "number" "I") (by decide +kernel))) (fun _ h9 => h9) rfl (by decide +kernel) rfl rfl dX2_place_31 (fun H locs hp => ?_)
      obtain ⟨st_18, est_18, hf⟩ := nam_some hf
      rw [← est_18] at hp
      have hk_17 : qk st_18 h0 = 5 := by rw [est_18]; exact hk_17
      refine lv_aload_n hx hb dX2_place_34 rfl (lv_at hl 1 rfl) ?_
      refine lv_lload_n hx hb dX2_place_35 rfl (lv_at hl 2 rfl) ?_
      refine lv_lconst (v := 1) hx hb dX2_place_36 (by decide) ?_
      refine lv_land hx hb dX2_place_37 ?_
      refine lv_lconst (v := 0) hx hb dX2_place_38 (by decide) ?_
      refine W.lcmp hx hb dX2_place_39 ?_
      refine lv_if_eq (tgt := 47) hx hb dX2_place_40 (by decide) (fun c_19 => ?_) (fun c_19 => ?_)
      · have hf := pif_t c_19 hf
        refine lv_iconst (v := 0) hx hb dX2_place_47 (by decide) ?_
        exact J48 (p1, 0, st_18) _ _ _ ⟨hf, hp, (lv_sub hl [1, 3] rfl)⟩
      · have hf := pif_f c_19 hf
        refine lv_iconst (v := 1) hx hb dX2_place_43 (by decide) ?_
        refine lv_goto (tgt := 48) hx hb dX2_place_44 (by decide) ?_
        exact J48 (p1, 1, st_18) _ _ _ ⟨hf, hp, (lv_sub hl [1, 3] rfl)⟩
    · have hf := pif_f c_16 hf
      exact J21 st _ _ _ ⟨hf, hp, (lv_sub hl [1] rfl)⟩
noncomputable def fX2_look_65 (h0 : Nat)  (l3 : Int32) (l4 : Int64) (gs : CS) : Option (CS) := gd (qk gs h0 = 5) (pif ((qI gs h0 7) = 0) (bnv (fX2_place h0 l4 l3 gs) (fun st_3 => some st_3)) (nam (wI gs h0 5 1) (fun st_6 => some st_6)))
set_option maxHeartbeats 1000000 in
theorem mo_X2_look_65 (h0 : Nat)   (l3 : Int32) (l4 : Int64) (gs : CS) (st' : CS) (hf : fX2_look_65 h0 l3 l4 gs = some st') : Ke gs st' := by
  unfold fX2_look_65 at hf
  have hm : Ke gs gs := Ke.rf
  obtain ⟨hk_1, hf⟩ := gd_some hf
  rcases pif_or hf with ⟨c_2, hf⟩ | ⟨c_2, hf⟩
  · obtain ⟨st_3, hc_4, hf⟩ := bnv_some hf
    have hm := hm.tr (mo_X2_place h0 l4 l3 _ _ hc_4)
    have e2 := Option.some.inj hf
    exact e2 ▸ hm
  · obtain ⟨st_6, est_6, hf⟩ := nam_some hf
    have hm := hm.wI est_6
    have e2 := Option.some.inj hf
    exact e2 ▸ hm
noncomputable def fX2_look (h0 : Nat) (p0 : Option Nat) (p1 : Int32) (p2 : Int32) (st : CS) : Option (CS) := gd (qk st h0 = 5) (nam (wI st h0 0 0) (fun st_8 => nam (wI st_8 h0 1 0) (fun st_9 => nam (wJ st_9 h0 2 0) (fun st_10 => nam (wI st_10 h0 3 p1) (fun st_11 => nam (wI st_11 h0 4 p2) (fun st_12 => nam (wI st_12 h0 5 0) (fun st_13 => nam (wI st_13 h0 6 p1) (fun st_14 => nam (wI st_14 h0 7 0) (fun st_15 => bnd (fX2_takeVarint h0 p0 p2 st_15) (fun r_18 st_16 => pif ((qI st_16 h0 7) = 0) (bnd (fX2_takeVarint h0 p0 p2 st_16) (fun r_22 st_20 => nam (wJ st_20 h0 2 r_22) (fun st_23 => fX2_look_65 h0 p2 r_18 st_23))) (fX2_look_65 h0 p2 r_18 st_16)))))))))))
set_option maxHeartbeats 1000000 in
theorem mo_X2_look (h0 : Nat) (p0 : Option Nat) (p1 : Int32) (p2 : Int32) (st : CS) (st' : CS) (hf : fX2_look h0 p0 p1 p2 st = some st') : Ke st st' := by
  unfold fX2_look at hf
  have hm : Ke st st := Ke.rf
  obtain ⟨hk_7, hf⟩ := gd_some hf
  obtain ⟨st_8, est_8, hf⟩ := nam_some hf
  have hm := hm.wI est_8
  obtain ⟨st_9, est_9, hf⟩ := nam_some hf
  have hm := hm.wI est_9
  obtain ⟨st_10, est_10, hf⟩ := nam_some hf
  have hm := hm.wJ est_10
  obtain ⟨st_11, est_11, hf⟩ := nam_some hf
  have hm := hm.wI est_11
  obtain ⟨st_12, est_12, hf⟩ := nam_some hf
  have hm := hm.wI est_12
  obtain ⟨st_13, est_13, hf⟩ := nam_some hf
  have hm := hm.wI est_13
  obtain ⟨st_14, est_14, hf⟩ := nam_some hf
  have hm := hm.wI est_14
  obtain ⟨st_15, est_15, hf⟩ := nam_some hf
  have hm := hm.wI est_15
  obtain ⟨r_18, st_16, hc_17, hf⟩ := bnd_some hf
  have hm := hm.tr (mo_X2_takeVarint h0 p0 p2 _ _ _ hc_17)
  rcases pif_or hf with ⟨c_19, hf⟩ | ⟨c_19, hf⟩
  · obtain ⟨r_22, st_20, hc_21, hf⟩ := bnd_some hf
    have hm := hm.tr (mo_X2_takeVarint h0 p0 p2 _ _ _ hc_21)
    obtain ⟨st_23, est_23, hf⟩ := nam_some hf
    have hm := hm.wJ est_23
    exact hm.tr (mo_X2_look_65 h0 p2 r_18 st_23 _ hf)
  · exact hm.tr (mo_X2_look_65 h0 p2 r_18 st_16 _ hf)
def wq_X2_look : List Cond := .code yX2_look cX2_look 6 none :: (([.fieldLink RX2 9 "RecordBench$Piece" "number" "I", .fieldLink RX2 15 "RecordBench$Piece" "withLength" "Z", .fieldLink RX2 19 "RecordBench$Piece" "raw" "J", .fieldLink RX2 23 "RecordBench$Piece" "body" "I", .fieldLink RX2 26 "RecordBench$Piece" "end" "I", .fieldLink RX2 29 "RecordBench$Piece" "fault" "I", .fieldLink RX2 32 "RecordBench$Piece" "pos" "I", .fieldLink RX2 35 "RecordBench$Piece" "broken" "Z", .methodLink RX2 42 yX2_place, .instanceMethod yX2_place, .selects RX2 yX2_place yX2_place, .initialized RX2, .methodLink RX2 38 yX2_takeVarint, .instanceMethod yX2_takeVarint, .selects RX2 yX2_takeVarint yX2_takeVarint, .code yX2_place cX2_place 6 none, .constantLong RX2 46 (30), .code yX2_takeVarint cX2_takeVarint 7 (some .long), .constantLong RX2 54 (127), .methodLink RX2 48 yX5_byteAt, .instanceMethod yX5_byteAt, .selects RX5 yX5_byteAt yX5_byteAt, .initialized RX5, .code yX5_byteAt cX5_byteAt 2 (some .int), .fieldLink RX5 21 "RecordBench$Row" "size" "I", .fieldLink RX5 15 "RecordBench$Row" "bytes" "[I"] : List Cond) ++ wsX20 ++ wsX50)
theorem gs_wq_X2_look_wsX20 : GoodIn wq_X2_look wsX20 := fun w h => ⟨List.mem_cons_of_mem _ (List.mem_append_left _ (List.mem_append_right _ h)), (gt_wsX20 w h).2⟩
set_option maxRecDepth 20000 in
theorem gq_X2_look_X2_place_42 : GoodIn wq_X2_look (wsV RX2 42 RX2 yX2_place wq_X2_place) := goodIn_app (goodIn_r _ [9, 10, 11, 12] rfl rfl) (goodIn_ca (goodIn_r _ [16, 17, 1, 2, 7, 4, 5, 3, 6] rfl rfl) gs_wq_X2_look_wsX20)
theorem gs_wq_X2_look_wsX50 : GoodIn wq_X2_look wsX50 := fun w h => ⟨List.mem_cons_of_mem _ (List.mem_append_right _ h), (gt_wsX50 w h).2⟩
set_option maxRecDepth 20000 in
theorem gq_X2_look_X2_takeVarint_38 : GoodIn wq_X2_look (wsV RX2 38 RX2 yX2_takeVarint wq_X2_takeVarint) := goodIn_app (goodIn_r _ [13, 14, 15, 12] rfl rfl) (goodIn_ca (goodIn_ca (goodIn_r _ [18, 8, 7, 19, 20, 21, 22, 23, 24, 25, 26] rfl rfl) gs_wq_X2_look_wsX20) gs_wq_X2_look_wsX50)
set_option maxHeartbeats 4000000 in
set_option maxRecDepth 100000 in
theorem c_X2_look (l : Launch) (dC : Nat → ClassId) (dI : Nat → Nat → Nat) (ka ad : Nat → Nat) (ct : Nat → ClassId) (h0 : Nat) (p0 : Option Nat) (p1 : Int32) (p2 : Int32) (st st' : CS) (hf : fX2_look h0 p0 p1 p2 st = some st') (sz : Nat) : Met l yX2_look wq_X2_look ({ frames := 2, cells := 0, slots := 0, locals := 55 }) (va_Pc [.ref (ad h0), va_rf (Option.map ad p0), .int p1, .int p2] (PrC (dC, dI) ct ka ad st sz)) (va_Qv (fun (_ : Unit) => True) (fun _ => CB (dC, dI) ct ka ad st' (aC ad st sz)) (aC ad st sz)) 0 0 (aC ad st sz) := by
  refine Met.ofW (cc := cX2_look) (maxL := 6) (ret := none) (by decide) rfl ?_
  intro p e s m args below meth c s₁ B hml hv
  obtain ⟨rfl, hsz, hw0, hK, hN, hZ, hC, hR, hL, hw1, hw2⟩ := hv
  have hx := B.exec
  have hb := B.bytes
  have hr := B.returns
  have hts := atoms_spec (ws := wq_X2_look) B.pre
  have hown : s.vm.findClass RX2 = some m.cls := findClass_of_methodNamed B.named
  have iRX2 : ∀ w ∈ u_ws RX2 TX2 8, w ∈ wq_X2_look := fun w h => List.mem_cons_of_mem _ (List.mem_append_left _ (List.mem_append_right _ h))
  subst hsz
  have hp : Cp (dC, dI) ka ad ct (aC ad st s.heap.size) s.heap st s.heap [] := ⟨fun i a b => ⟨hw0 i a b, Or.inl ⟨i, a, b, rfl⟩⟩, va_S.rf, hw1, hw2⟩
  generalize hAe : aC ad st s.heap.size = A at hp hZ hC ⊢
  have hA : ∀ q : Nat, s.heap.size ≤ q → A q := fun q h => by rw [← hAe]; exact Or.inr h
  have hl := lv_entry ([.ref (ad h0), va_rf (Option.map ad p0), .int p1, .int p2]) (n := 6) (by simp [lg_sl, rf_cat, vc_i, vc_l, vc_r, vc_n])
  rw [lg_entry_eq]
  generalize (lg_sl ([.ref (ad h0), va_rf (Option.map ad p0), .int p1, .int p2]) ++ List.replicate (6 - (lg_sl ([.ref (ad h0), va_rf (Option.map ad p0), .int p1, .int p2])).length) Slot.unset).toArray = ls at hl ⊢
  have hl : lv_has ls 6 [(0, .ref (ad h0)), (1, va_rf (Option.map ad p0)), (2, .int p1), (3, .int p2)] := by simpa [lv_args, rf_cat, vc_i, vc_l, vc_r, vc_n] using hl
  refine W_blk (fun (u : Int32 × Int64 × CS) H locs ls => match u with | (l3, l4, gs) => fX2_look_65 h0 l3 l4 gs = some st' ∧ Cp (dC, dI) ka ad ct A s.heap gs H locs ∧ lv_has ls 6 [(0, .ref (ad h0)), (3, .int l3), (4, .long l4)]) (fun (u : Int32 × Int64 × CS) ls => match u with | (l3, l4, gs) => F0 m 65 ls []) ?_ (fun J65 => ?_)
  · intro u H locs ls hu
    obtain ⟨l3, l4, gs⟩ := u
    obtain ⟨hf, hp, hl⟩ := hu
    show W p l e _ s m _ below meth c _ _ _ _ _ (F0 m 65 ls [])
    unfold fX2_look_65 at hf
    refine lv_aload_n hx hb dX2_look_65 rfl (lv_at hl 0 rfl) ?_
    obtain ⟨hk_1, hf⟩ := gd_some hf
    refine q_gi (ci := 4) (C := RX2) (T := TX2) (N := 8) (k := 7) hx hb hts iRX2 hown hK hp hk_1 (by decide) rfl rfl (by decide) rfl (Or.inl (hts (.fieldLink RX2 35 "RecordBench$Piece" "broken" "Z") (by decide +kernel))) (fun _ h9 => h9) dX2_look_66 ?_
    refine lv_if_eq (tgt := 78) hx hb dX2_look_69 (by decide) (fun c_2 => ?_) (fun c_2 => ?_)
    · have hf := pif_t c_2 hf
      refine lv_aload_n hx hb dX2_look_78 rfl (lv_at hl 0 rfl) ?_
      refine lv_lload hx hb dX2_look_79 (lv_at hl 2 rfl) ?_
      refine lv_iload_n hx hb dX2_look_81 rfl (lv_at hl 1 rfl) ?_
      obtain ⟨st_3, hc_4, hf⟩ := bnv_some hf
      refine q_cv hp hA (va_runV (As := [.long l4, .int l3]) (rest := []) ⟨hx, hb, hml, hown, hts⟩ (c_X2_place l dC dI ka ad ct h0 l4 l3 _ _ hc_4 _) (cwV 2 hts gq_X2_look_X2_place_42 rfl rfl rfl (by decide +kernel) ⟨Nat.le_of_ble_eq_true rfl, Nat.le_of_ble_eq_true rfl⟩) ⟨PrC.blind _, q_rv4 hK hp hC hk_1, q_pre hp hK hN hZ hC hR hL hA⟩ rfl rfl hl.1 rfl (lv_room (Nat.le_of_ble_eq_true rfl)) dX2_look_82 ⟨Nat.le_of_ble_eq_true rfl, Nat.le_of_ble_eq_true rfl⟩) (fun H locs hp => ?_)
      have hk_1 : qk st_3 h0 = 5 := by rw [(mo_X2_place h0 l4 l3 _ _ hc_4).2.2.1]; exact hk_1
      have e2 := Option.some.inj hf
      exact W.vret hx hb hr (fun t ht hW => ⟨⟨(), rfl, trivial, Cp.end e2 hp ht⟩, hp.2.1.F ht⟩) hp.2.1.2.2 dX2_look_85
    · have hf := pif_f c_2 hf
      refine lv_aload_n hx hb dX2_look_72 rfl (lv_at hl 0 rfl) ?_
      refine lv_iconst (v := 1) hx hb dX2_look_73 (by decide) ?_
      refine q_pi (ci := 4) (C := RX2) (T := TX2) (N := 8) (k := 5) (v := 1) (ty := .int) hx hb hts iRX2 tyX2 tyX2_ok nmX2 hown hK hp hk_1 (by decide) rfl rfl (by decide) rfl (Or.inl (hts (.fieldLink RX2 29 "RecordBench$Piece" "fault" "I") (by decide +kernel))) (fun _ h9 => h9) rfl (by decide +kernel) rfl rfl dX2_look_74 (fun H locs hp => ?_)
      obtain ⟨st_6, est_6, hf⟩ := nam_some hf
      rw [← est_6] at hp
      have hk_1 : qk st_6 h0 = 5 := by rw [est_6]; exact hk_1
      have e2 := Option.some.inj hf
      exact W.vret hx hb hr (fun t ht hW => ⟨⟨(), rfl, trivial, Cp.end e2 hp ht⟩, hp.2.1.F ht⟩) hp.2.1.2.2 dX2_look_77
  unfold fX2_look at hf
  refine lv_aload_n hx hb dX2_look_0 rfl (lv_at hl 0 rfl) ?_
  refine lv_iconst (v := 0) hx hb dX2_look_1 (by decide) ?_
  obtain ⟨hk_7, hf⟩ := gd_some hf
  refine q_pi (ci := 4) (C := RX2) (T := TX2) (N := 8) (k := 0) (v := 0) (ty := .int) hx hb hts iRX2 tyX2 tyX2_ok nmX2 hown hK hp hk_7 (by decide) rfl rfl (by decide) rfl (Or.inl (hts (.fieldLink RX2 9 "RecordBench$Piece" "number" "I") (by decide +kernel))) (fun _ h9 => h9) rfl (by decide +kernel) rfl rfl dX2_look_2 (fun H locs hp => ?_)
  obtain ⟨st_8, est_8, hf⟩ := nam_some hf
  rw [← est_8] at hp
  have hk_7 : qk st_8 h0 = 5 := by rw [est_8]; exact hk_7
  refine lv_aload_n hx hb dX2_look_5 rfl (lv_at hl 0 rfl) ?_
  refine lv_iconst (v := 0) hx hb dX2_look_6 (by decide) ?_
  refine q_pi (ci := 4) (C := RX2) (T := TX2) (N := 8) (k := 1) (v := 0) (ty := .boolean) hx hb hts iRX2 tyX2 tyX2_ok nmX2 hown hK hp hk_7 (by decide) rfl rfl (by decide) rfl (Or.inl (hts (.fieldLink RX2 15 "RecordBench$Piece" "withLength" "Z") (by decide +kernel))) (fun _ h9 => h9) rfl (by decide +kernel) rfl rfl dX2_look_7 (fun H locs hp => ?_)
  obtain ⟨st_9, est_9, hf⟩ := nam_some hf
  rw [← est_9] at hp
  have hk_7 : qk st_9 h0 = 5 := by rw [est_9]; exact hk_7
  refine lv_aload_n hx hb dX2_look_10 rfl (lv_at hl 0 rfl) ?_
  refine lv_lconst (v := 0) hx hb dX2_look_11 (by decide) ?_
  refine q_pj (ci := 4) (C := RX2) (T := TX2) (N := 8) (k := 2) (v := 0) (ty := .long) hx hb hts iRX2 tyX2 tyX2_ok nmX2 hown hK hp hk_7 (by decide) rfl rfl (by decide) rfl (Or.inl (hts (.fieldLink RX2 19 "RecordBench$Piece" "raw" "J") (by decide +kernel))) (fun _ h9 => h9) rfl (by decide +kernel) rfl rfl dX2_look_12 (fun H locs hp => ?_)
  obtain ⟨st_10, est_10, hf⟩ := nam_some hf
  rw [← est_10] at hp
  have hk_7 : qk st_10 h0 = 5 := by rw [est_10]; exact hk_7
  refine lv_aload_n hx hb dX2_look_15 rfl (lv_at hl 0 rfl) ?_
  refine lv_iload_n hx hb dX2_look_16 rfl (lv_at hl 2 rfl) ?_
  refine q_pi (ci := 4) (C := RX2) (T := TX2) (N := 8) (k := 3) (v := p1) (ty := .int) hx hb hts iRX2 tyX2 tyX2_ok nmX2 hown hK hp hk_7 (by decide) rfl rfl (by decide) rfl (Or.inl (hts (.fieldLink RX2 23 "RecordBench$Piece" "body" "I") (by decide +kernel))) (fun _ h9 => h9) rfl (by decide +kernel) rfl rfl dX2_look_17 (fun H locs hp => ?_)
  obtain ⟨st_11, est_11, hf⟩ := nam_some hf
  rw [← est_11] at hp
  have hk_7 : qk st_11 h0 = 5 := by rw [est_11]; exact hk_7
  refine lv_aload_n hx hb dX2_look_20 rfl (lv_at hl 0 rfl) ?_
  refine lv_iload_n hx hb dX2_look_21 rfl (lv_at hl 3 rfl) ?_
  refine q_pi (ci := 4) (C := RX2) (T := TX2) (N := 8) (k := 4) (v := p2) (ty := .int) hx hb hts iRX2 tyX2 tyX2_ok nmX2 hown hK hp hk_7 (by decide) rfl rfl (by decide) rfl (Or.inl (hts (.fieldLink RX2 26 "RecordBench$Piece" "end" "I") (by decide +kernel))) (fun _ h9 => h9) rfl (by decide +kernel) rfl rfl dX2_look_22 (fun H locs hp => ?_)
  obtain ⟨st_12, est_12, hf⟩ := nam_some hf
  rw [← est_12] at hp
  have hk_7 : qk st_12 h0 = 5 := by rw [est_12]; exact hk_7
  refine lv_aload_n hx hb dX2_look_25 rfl (lv_at hl 0 rfl) ?_
  refine lv_iconst (v := 0) hx hb dX2_look_26 (by decide) ?_
  refine q_pi (ci := 4) (C := RX2) (T := TX2) (N := 8) (k := 5) (v := 0) (ty := .int) hx hb hts iRX2 tyX2 tyX2_ok nmX2 hown hK hp hk_7 (by decide) rfl rfl (by decide) rfl (Or.inl (hts (.fieldLink RX2 29 "RecordBench$Piece" "fault" "I") (by decide +kernel))) (fun _ h9 => h9) rfl (by decide +kernel) rfl rfl dX2_look_27 (fun H locs hp => ?_)
  obtain ⟨st_13, est_13, hf⟩ := nam_some hf
  rw [← est_13] at hp
  have hk_7 : qk st_13 h0 = 5 := by rw [est_13]; exact hk_7
  refine lv_aload_n hx hb dX2_look_30 rfl (lv_at hl 0 rfl) ?_
  refine lv_iload_n hx hb dX2_look_31 rfl (lv_at hl 2 rfl) ?_
  refine q_pi (ci := 4) (C := RX2) (T := TX2) (N := 8) (k := 6) (v := p1) (ty := .int) hx hb hts iRX2 tyX2 tyX2_ok nmX2 hown hK hp hk_7 (by decide) rfl rfl (by decide) rfl (Or.inl (hts (.fieldLink RX2 32 "RecordBench$Piece" "pos" "I") (by decide +kernel))) (fun _ h9 => h9) rfl (by decide +kernel) rfl rfl dX2_look_32 (fun H locs hp => ?_)
  obtain ⟨st_14, est_14, hf⟩ := nam_some hf
  rw [← est_14] at hp
  have hk_7 : qk st_14 h0 = 5 := by rw [est_14]; exact hk_7
  refine lv_aload_n hx hb dX2_look_35 rfl (lv_at hl 0 rfl) ?_
  refine lv_iconst (v := 0) hx hb dX2_look_36 (by decide) ?_
  refine q_pi (ci := 4) (C := RX2) (T := TX2) (N := 8) (k := 7) (v := 0) (ty := .boolean) hx hb hts iRX2 tyX2 tyX2_ok nmX2 hown hK hp hk_7 (by decide) rfl rfl (by decide) rfl (Or.inl (hts (.fieldLink RX2 35 "RecordBench$Piece" "broken" "Z") (by decide +kernel))) (fun _ h9 => h9) rfl (by decide +kernel) rfl rfl dX2_look_37 (fun H locs hp => ?_)
  obtain ⟨st_15, est_15, hf⟩ := nam_some hf
  rw [← est_15] at hp
  have hk_7 : qk st_15 h0 = 5 := by rw [est_15]; exact hk_7
  refine lv_aload_n hx hb dX2_look_40 rfl (lv_at hl 0 rfl) ?_
  refine o_aload_n hx hb dX2_look_41 rfl (lv_at hl 1 rfl) ?_
  refine lv_iload_n hx hb dX2_look_42 rfl (lv_at hl 3 rfl) ?_
  obtain ⟨r_18, st_16, hc_17, hf⟩ := bnd_some hf
  refine q_cl hp hA (va_runV (As := [va_rf (Option.map ad p0), .int p2]) (rest := []) ⟨hx, hb, hml, hown, hts⟩ (c_X2_takeVarint l dC dI ka ad ct h0 p0 p2 _ _ _ hc_17 _) (cwV 2 hts gq_X2_look_X2_takeVarint_38 rfl rfl rfl (by decide +kernel) ⟨Nat.le_of_ble_eq_true rfl, Nat.le_of_ble_eq_true rfl⟩) ⟨PrC.blind _, q_rv4 hK hp hC hk_7, q_pre hp hK hN hZ hC hR hL hA⟩ rfl rfl hl.1 rfl (lv_room (Nat.le_of_ble_eq_true rfl)) dX2_look_43 ⟨Nat.le_of_ble_eq_true rfl, Nat.le_of_ble_eq_true rfl⟩) (fun H locs hp => ?_)
  have hk_7 : qk st_16 h0 = 5 := by rw [(mo_X2_takeVarint h0 p0 p2 _ _ _ hc_17).2.2.1]; exact hk_7
  refine lv_lstore (i := 4) (lv' := [(4, .long r_18), (0, .ref (ad h0)), (1, va_rf (Option.map ad p0)), (2, .int p1), (3, .int p2)]) hx hb dX2_look_46 hl (by decide) rfl (fun ls hl => ?_)
  refine lv_aload_n hx hb dX2_look_48 rfl (lv_at hl 1 rfl) ?_
  refine q_gi (ci := 4) (C := RX2) (T := TX2) (N := 8) (k := 7) hx hb hts iRX2 hown hK hp hk_7 (by decide) rfl rfl (by decide) rfl (Or.inl (hts (.fieldLink RX2 35 "RecordBench$Piece" "broken" "Z") (by decide +kernel))) (fun _ h9 => h9) dX2_look_49 ?_
  refine lv_if_ne (tgt := 65) hx hb dX2_look_52 (by decide) (fun c_19 => ?_) (fun c_19 => ?_)
  · have hf := pif_f c_19 hf
    exact J65 (p2, r_18, st_16) _ _ _ ⟨hf, hp, (lv_sub hl [1, 4, 0] rfl)⟩
  · have hf := pif_t c_19 hf
    refine lv_aload_n hx hb dX2_look_55 rfl (lv_at hl 1 rfl) ?_
    refine lv_aload_n hx hb dX2_look_56 rfl (lv_at hl 1 rfl) ?_
    refine o_aload_n hx hb dX2_look_57 rfl (lv_at hl 2 rfl) ?_
    refine lv_iload_n hx hb dX2_look_58 rfl (lv_at hl 4 rfl) ?_
    obtain ⟨r_22, st_20, hc_21, hf⟩ := bnd_some hf
    refine q_cl hp hA (va_runV (As := [va_rf (Option.map ad p0), .int p2]) (rest := [.ref (ad h0)]) ⟨hx, hb, hml, hown, hts⟩ (c_X2_takeVarint l dC dI ka ad ct h0 p0 p2 _ _ _ hc_21 _) (cwV 2 hts gq_X2_look_X2_takeVarint_38 rfl rfl rfl (by decide +kernel) ⟨Nat.le_of_ble_eq_true rfl, Nat.le_of_ble_eq_true rfl⟩) ⟨PrC.blind _, q_rv4 hK hp hC hk_7, q_pre hp hK hN hZ hC hR hL hA⟩ rfl rfl hl.1 rfl (lv_room (Nat.le_of_ble_eq_true rfl)) dX2_look_59 ⟨Nat.le_of_ble_eq_true rfl, Nat.le_of_ble_eq_true rfl⟩) (fun H locs hp => ?_)
    have hk_7 : qk st_20 h0 = 5 := by rw [(mo_X2_takeVarint h0 p0 p2 _ _ _ hc_21).2.2.1]; exact hk_7
    refine q_pj (ci := 4) (C := RX2) (T := TX2) (N := 8) (k := 2) (v := r_22) (ty := .long) hx hb hts iRX2 tyX2 tyX2_ok nmX2 hown hK hp hk_7 (by decide) rfl rfl (by decide) rfl (Or.inl (hts (.fieldLink RX2 19 "RecordBench$Piece" "raw" "J") (by decide +kernel))) (fun _ h9 => h9) rfl (by decide +kernel) rfl rfl dX2_look_62 (fun H locs hp => ?_)
    obtain ⟨st_23, est_23, hf⟩ := nam_some hf
    rw [← est_23] at hp
    have hk_7 : qk st_23 h0 = 5 := by rw [est_23]; exact hk_7
    exact J65 (p2, r_18, st_23) _ _ _ ⟨hf, hp, (lv_sub hl [1, 4, 0] rfl)⟩
