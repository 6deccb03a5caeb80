/-! ===== BEGIN printed: names, fields, word lists, decode rows ===== -/
theorem dX0_init_0 : decode cX0_init 0 = .ok (.aload_n 0, 1) := by decide +kernel
theorem dX0_init_1 : decode cX0_init 1 = .ok (.invokespecial 3, 3) := by decide +kernel
theorem dX0_init_4 : decode cX0_init 4 = .ok (.aload_n 0, 1) := by decide +kernel
theorem dX0_init_5 : decode cX0_init 5 = .ok (.sipush 200, 3) := by decide +kernel
theorem dX0_init_8 : decode cX0_init 8 = .ok (.newarray .int, 2) := by decide +kernel
theorem dX0_init_10 : decode cX0_init 10 = .ok (.putfield 11, 3) := by decide +kernel
theorem dX0_init_13 : decode cX0_init 13 = .ok (.aload_n 0, 1) := by decide +kernel
theorem dX0_init_14 : decode cX0_init 14 = .ok (.iconst 0, 1) := by decide +kernel
theorem dX0_init_15 : decode cX0_init 15 = .ok (.putfield 17, 3) := by decide +kernel
theorem dX0_init_18 : decode cX0_init 18 = .ok (.return_, 1) := by decide +kernel
theorem dX0_total_0 : decode cX0_total 0 = .ok (.aload_n 0, 1) := by decide +kernel
theorem dX0_total_1 : decode cX0_total 1 = .ok (.getfield 17, 3) := by decide +kernel
theorem dX0_total_4 : decode cX0_total 4 = .ok (.ireturn, 1) := by decide +kernel
theorem dX0_note_0 : decode cX0_note 0 = .ok (.iload_n 2, 1) := by decide +kernel
theorem dX0_note_1 : decode cX0_note 1 = .ok (.ifCond .lt 10, 3) := by decide +kernel
theorem dX0_note_4 : decode cX0_note 4 = .ok (.iload_n 2, 1) := by decide +kernel
theorem dX0_note_5 : decode cX0_note 5 = .ok (.sipush 200, 3) := by decide +kernel
theorem dX0_note_8 : decode cX0_note 8 = .ok (.if_icmp .lt 4, 3) := by decide +kernel
theorem dX0_note_11 : decode cX0_note 11 = .ok (.return_, 1) := by decide +kernel
theorem dX0_note_12 : decode cX0_note 12 = .ok (.iconst 0, 1) := by decide +kernel
theorem dX0_note_13 : decode cX0_note 13 = .ok (.istore_n 3, 1) := by decide +kernel
theorem dX0_note_14 : decode cX0_note 14 = .ok (.iconst 0, 1) := by decide +kernel
theorem dX0_note_15 : decode cX0_note 15 = .ok (.istore 4, 2) := by decide +kernel
theorem dX0_note_17 : decode cX0_note 17 = .ok (.iload 4, 2) := by decide +kernel
theorem dX0_note_19 : decode cX0_note 19 = .ok (.iload_n 2, 1) := by decide +kernel
theorem dX0_note_20 : decode cX0_note 20 = .ok (.if_icmp .ge 22, 3) := by decide +kernel
theorem dX0_note_23 : decode cX0_note 23 = .ok (.aload_n 1, 1) := by decide +kernel
theorem dX0_note_24 : decode cX0_note 24 = .ok (.iload_n 2, 1) := by decide +kernel
theorem dX0_note_25 : decode cX0_note 25 = .ok (.iload 4, 2) := by decide +kernel
theorem dX0_note_27 : decode cX0_note 27 = .ok (.invokestatic 21, 3) := by decide +kernel
theorem dX0_note_30 : decode cX0_note 30 = .ok (.ifCond .eq 6, 3) := by decide +kernel
theorem dX0_note_33 : decode cX0_note 33 = .ok (.iinc 3 1, 3) := by decide +kernel
theorem dX0_note_36 : decode cX0_note 36 = .ok (.iinc 4 1, 3) := by decide +kernel
theorem dX0_note_39 : decode cX0_note 39 = .ok (.goto (-22), 3) := by decide +kernel
theorem dX0_note_42 : decode cX0_note 42 = .ok (.aload_n 0, 1) := by decide +kernel
theorem dX0_note_43 : decode cX0_note 43 = .ok (.getfield 11, 3) := by decide +kernel
theorem dX0_note_46 : decode cX0_note 46 = .ok (.iload_n 2, 1) := by decide +kernel
theorem dX0_note_47 : decode cX0_note 47 = .ok (.iload_n 3, 1) := by decide +kernel
theorem dX0_note_48 : decode cX0_note 48 = .ok (.iastore, 1) := by decide +kernel
theorem dX0_note_49 : decode cX0_note 49 = .ok (.aload_n 0, 1) := by decide +kernel
theorem dX0_note_50 : decode cX0_note 50 = .ok (.dup, 1) := by decide +kernel
theorem dX0_note_51 : decode cX0_note 51 = .ok (.getfield 17, 3) := by decide +kernel
theorem dX0_note_54 : decode cX0_note 54 = .ok (.iload_n 3, 1) := by decide +kernel
theorem dX0_note_55 : decode cX0_note 55 = .ok (.iadd, 1) := by decide +kernel
theorem dX0_note_56 : decode cX0_note 56 = .ok (.putfield 17, 3) := by decide +kernel
theorem dX0_note_59 : decode cX0_note 59 = .ok (.return_, 1) := by decide +kernel
theorem dX0_laterOf_0 : decode cX0_laterOf 0 = .ok (.iconst 0, 1) := by decide +kernel
theorem dX0_laterOf_1 : decode cX0_laterOf 1 = .ok (.istore_n 2, 1) := by decide +kernel
theorem dX0_laterOf_2 : decode cX0_laterOf 2 = .ok (.iconst 0, 1) := by decide +kernel
theorem dX0_laterOf_3 : decode cX0_laterOf 3 = .ok (.istore_n 3, 1) := by decide +kernel
theorem dX0_laterOf_4 : decode cX0_laterOf 4 = .ok (.iload_n 3, 1) := by decide +kernel
theorem dX0_laterOf_5 : decode cX0_laterOf 5 = .ok (.sipush 200, 3) := by decide +kernel
theorem dX0_laterOf_8 : decode cX0_laterOf 8 = .ok (.if_icmp .ge 25, 3) := by decide +kernel
theorem dX0_laterOf_11 : decode cX0_laterOf 11 = .ok (.iload_n 2, 1) := by decide +kernel
theorem dX0_laterOf_12 : decode cX0_laterOf 12 = .ok (.aload_n 0, 1) := by decide +kernel
theorem dX0_laterOf_13 : decode cX0_laterOf 13 = .ok (.getfield 11, 3) := by decide +kernel
theorem dX0_laterOf_16 : decode cX0_laterOf 16 = .ok (.iload_n 3, 1) := by decide +kernel
theorem dX0_laterOf_17 : decode cX0_laterOf 17 = .ok (.iaload, 1) := by decide +kernel
theorem dX0_laterOf_18 : decode cX0_laterOf 18 = .ok (.iadd, 1) := by decide +kernel
theorem dX0_laterOf_19 : decode cX0_laterOf 19 = .ok (.istore_n 2, 1) := by decide +kernel
theorem dX0_laterOf_20 : decode cX0_laterOf 20 = .ok (.iload_n 2, 1) := by decide +kernel
theorem dX0_laterOf_21 : decode cX0_laterOf 21 = .ok (.iload_n 1, 1) := by decide +kernel
theorem dX0_laterOf_22 : decode cX0_laterOf 22 = .ok (.if_icmp .le 5, 3) := by decide +kernel
theorem dX0_laterOf_25 : decode cX0_laterOf 25 = .ok (.iload_n 3, 1) := by decide +kernel
theorem dX0_laterOf_26 : decode cX0_laterOf 26 = .ok (.ireturn, 1) := by decide +kernel
theorem dX0_laterOf_27 : decode cX0_laterOf 27 = .ok (.iinc 3 1, 3) := by decide +kernel
theorem dX0_laterOf_30 : decode cX0_laterOf 30 = .ok (.goto (-26), 3) := by decide +kernel
theorem dX0_laterOf_33 : decode cX0_laterOf 33 = .ok (.iconst (-1), 1) := by decide +kernel
theorem dX0_laterOf_34 : decode cX0_laterOf 34 = .ok (.ireturn, 1) := by decide +kernel
theorem dX0_earlierOf_0 : decode cX0_earlierOf 0 = .ok (.iload_n 2, 1) := by decide +kernel
theorem dX0_earlierOf_1 : decode cX0_earlierOf 1 = .ok (.istore 4, 2) := by decide +kernel
theorem dX0_earlierOf_3 : decode cX0_earlierOf 3 = .ok (.iconst 0, 1) := by decide +kernel
theorem dX0_earlierOf_4 : decode cX0_earlierOf 4 = .ok (.istore 5, 2) := by decide +kernel
theorem dX0_earlierOf_6 : decode cX0_earlierOf 6 = .ok (.iload 5, 2) := by decide +kernel
theorem dX0_earlierOf_8 : decode cX0_earlierOf 8 = .ok (.iload_n 3, 1) := by decide +kernel
theorem dX0_earlierOf_9 : decode cX0_earlierOf 9 = .ok (.if_icmp .ge 29, 3) := by decide +kernel
theorem dX0_earlierOf_12 : decode cX0_earlierOf 12 = .ok (.iload 5, 2) := by decide +kernel
theorem dX0_earlierOf_14 : decode cX0_earlierOf 14 = .ok (.sipush 200, 3) := by decide +kernel
theorem dX0_earlierOf_17 : decode cX0_earlierOf 17 = .ok (.if_icmp .ge 21, 3) := by decide +kernel
theorem dX0_earlierOf_20 : decode cX0_earlierOf 20 = .ok (.iload 4, 2) := by decide +kernel
theorem dX0_earlierOf_22 : decode cX0_earlierOf 22 = .ok (.aload_n 0, 1) := by decide +kernel
theorem dX0_earlierOf_23 : decode cX0_earlierOf 23 = .ok (.getfield 11, 3) := by decide +kernel
theorem dX0_earlierOf_26 : decode cX0_earlierOf 26 = .ok (.iload 5, 2) := by decide +kernel
theorem dX0_earlierOf_28 : decode cX0_earlierOf 28 = .ok (.iaload, 1) := by decide +kernel
theorem dX0_earlierOf_29 : decode cX0_earlierOf 29 = .ok (.isub, 1) := by decide +kernel
theorem dX0_earlierOf_30 : decode cX0_earlierOf 30 = .ok (.istore 4, 2) := by decide +kernel
theorem dX0_earlierOf_32 : decode cX0_earlierOf 32 = .ok (.iinc 5 1, 3) := by decide +kernel
theorem dX0_earlierOf_35 : decode cX0_earlierOf 35 = .ok (.goto (-29), 3) := by decide +kernel
theorem dX0_earlierOf_38 : decode cX0_earlierOf 38 = .ok (.iconst 0, 1) := by decide +kernel
theorem dX0_earlierOf_39 : decode cX0_earlierOf 39 = .ok (.istore 5, 2) := by decide +kernel
theorem dX0_earlierOf_41 : decode cX0_earlierOf 41 = .ok (.iload 5, 2) := by decide +kernel
theorem dX0_earlierOf_43 : decode cX0_earlierOf 43 = .ok (.iload_n 3, 1) := by decide +kernel
theorem dX0_earlierOf_44 : decode cX0_earlierOf 44 = .ok (.if_icmp .ge 30, 3) := by decide +kernel
theorem dX0_earlierOf_47 : decode cX0_earlierOf 47 = .ok (.aload_n 1, 1) := by decide +kernel
theorem dX0_earlierOf_48 : decode cX0_earlierOf 48 = .ok (.iload_n 3, 1) := by decide +kernel
theorem dX0_earlierOf_49 : decode cX0_earlierOf 49 = .ok (.iload 5, 2) := by decide +kernel
theorem dX0_earlierOf_51 : decode cX0_earlierOf 51 = .ok (.invokestatic 21, 3) := by decide +kernel
theorem dX0_earlierOf_54 : decode cX0_earlierOf 54 = .ok (.ifCond .eq 14, 3) := by decide +kernel
theorem dX0_earlierOf_57 : decode cX0_earlierOf 57 = .ok (.iload 4, 2) := by decide +kernel
theorem dX0_earlierOf_59 : decode cX0_earlierOf 59 = .ok (.ifCond .ne 6, 3) := by decide +kernel
theorem dX0_earlierOf_62 : decode cX0_earlierOf 62 = .ok (.iload 5, 2) := by decide +kernel
theorem dX0_earlierOf_64 : decode cX0_earlierOf 64 = .ok (.ireturn, 1) := by decide +kernel
theorem dX0_earlierOf_65 : decode cX0_earlierOf 65 = .ok (.iinc 4 (-1), 3) := by decide +kernel
theorem dX0_earlierOf_68 : decode cX0_earlierOf 68 = .ok (.iinc 5 1, 3) := by decide +kernel
theorem dX0_earlierOf_71 : decode cX0_earlierOf 71 = .ok (.goto (-30), 3) := by decide +kernel
theorem dX0_earlierOf_74 : decode cX0_earlierOf 74 = .ok (.iconst (-1), 1) := by decide +kernel
theorem dX0_earlierOf_75 : decode cX0_earlierOf 75 = .ok (.ireturn, 1) := by decide +kernel
theorem dX0_doClash_0 : decode cX0_doClash 0 = .ok (.aload_n 0, 1) := by decide +kernel
theorem dX0_doClash_1 : decode cX0_doClash 1 = .ok (.iload_n 2, 1) := by decide +kernel
theorem dX0_doClash_2 : decode cX0_doClash 2 = .ok (.iconst 0, 1) := by decide +kernel
theorem dX0_doClash_3 : decode cX0_doClash 3 = .ok (.invokevirtual 25, 3) := by decide +kernel
theorem dX0_doClash_6 : decode cX0_doClash 6 = .ok (.iconst 5, 1) := by decide +kernel
theorem dX0_doClash_7 : decode cX0_doClash 7 = .ok (.if_icmp .ne 33, 3) := by decide +kernel
theorem dX0_doClash_10 : decode cX0_doClash 10 = .ok (.aload_n 0, 1) := by decide +kernel
theorem dX0_doClash_11 : decode cX0_doClash 11 = .ok (.iload_n 2, 1) := by decide +kernel
theorem dX0_doClash_12 : decode cX0_doClash 12 = .ok (.iconst 4, 1) := by decide +kernel
theorem dX0_doClash_13 : decode cX0_doClash 13 = .ok (.invokevirtual 25, 3) := by decide +kernel
theorem dX0_doClash_16 : decode cX0_doClash 16 = .ok (.aload_n 0, 1) := by decide +kernel
theorem dX0_doClash_17 : decode cX0_doClash 17 = .ok (.iload_n 1, 1) := by decide +kernel
theorem dX0_doClash_18 : decode cX0_doClash 18 = .ok (.iconst 4, 1) := by decide +kernel
theorem dX0_doClash_19 : decode cX0_doClash 19 = .ok (.invokevirtual 25, 3) := by decide +kernel
theorem dX0_doClash_22 : decode cX0_doClash 22 = .ok (.if_icmp .ne 18, 3) := by decide +kernel
theorem dX0_doClash_25 : decode cX0_doClash 25 = .ok (.aload_n 0, 1) := by decide +kernel
theorem dX0_doClash_26 : decode cX0_doClash 26 = .ok (.iload_n 2, 1) := by decide +kernel
theorem dX0_doClash_27 : decode cX0_doClash 27 = .ok (.iconst 1, 1) := by decide +kernel
theorem dX0_doClash_28 : decode cX0_doClash 28 = .ok (.invokevirtual 25, 3) := by decide +kernel
theorem dX0_doClash_31 : decode cX0_doClash 31 = .ok (.aload_n 0, 1) := by decide +kernel
theorem dX0_doClash_32 : decode cX0_doClash 32 = .ok (.iload_n 1, 1) := by decide +kernel
theorem dX0_doClash_33 : decode cX0_doClash 33 = .ok (.iconst 1, 1) := by decide +kernel
theorem dX0_doClash_34 : decode cX0_doClash 34 = .ok (.invokevirtual 25, 3) := by decide +kernel
theorem dX0_doClash_37 : decode cX0_doClash 37 = .ok (.if_icmp .ne 5, 3) := by decide +kernel
theorem dX0_doClash_40 : decode cX0_doClash 40 = .ok (.iconst 0, 1) := by decide +kernel
theorem dX0_doClash_41 : decode cX0_doClash 41 = .ok (.ireturn, 1) := by decide +kernel
theorem dX0_doClash_42 : decode cX0_doClash 42 = .ok (.aload_n 0, 1) := by decide +kernel
theorem dX0_doClash_43 : decode cX0_doClash 43 = .ok (.iload_n 2, 1) := by decide +kernel
theorem dX0_doClash_44 : decode cX0_doClash 44 = .ok (.iconst 3, 1) := by decide +kernel
theorem dX0_doClash_45 : decode cX0_doClash 45 = .ok (.invokevirtual 25, 3) := by decide +kernel
theorem dX0_doClash_48 : decode cX0_doClash 48 = .ok (.aload_n 0, 1) := by decide +kernel
theorem dX0_doClash_49 : decode cX0_doClash 49 = .ok (.iload_n 2, 1) := by decide +kernel
theorem dX0_doClash_50 : decode cX0_doClash 50 = .ok (.iconst 5, 1) := by decide +kernel
theorem dX0_doClash_51 : decode cX0_doClash 51 = .ok (.invokevirtual 25, 3) := by decide +kernel
theorem dX0_doClash_54 : decode cX0_doClash 54 = .ok (.bipush 60, 2) := by decide +kernel
theorem dX0_doClash_56 : decode cX0_doClash 56 = .ok (.imul, 1) := by decide +kernel
theorem dX0_doClash_57 : decode cX0_doClash 57 = .ok (.iadd, 1) := by decide +kernel
theorem dX0_doClash_58 : decode cX0_doClash 58 = .ok (.istore_n 3, 1) := by decide +kernel
theorem dX0_doClash_59 : decode cX0_doClash 59 = .ok (.aload_n 0, 1) := by decide +kernel
theorem dX0_doClash_60 : decode cX0_doClash 60 = .ok (.iload_n 1, 1) := by decide +kernel
theorem dX0_doClash_61 : decode cX0_doClash 61 = .ok (.iconst 3, 1) := by decide +kernel
theorem dX0_doClash_62 : decode cX0_doClash 62 = .ok (.invokevirtual 25, 3) := by decide +kernel
theorem dX0_doClash_65 : decode cX0_doClash 65 = .ok (.iload_n 3, 1) := by decide +kernel
theorem dX0_doClash_66 : decode cX0_doClash 66 = .ok (.if_icmp .ge 7, 3) := by decide +kernel
theorem dX0_doClash_69 : decode cX0_doClash 69 = .ok (.iconst 1, 1) := by decide +kernel
theorem dX0_doClash_70 : decode cX0_doClash 70 = .ok (.goto 4, 3) := by decide +kernel
theorem dX0_doClash_73 : decode cX0_doClash 73 = .ok (.iconst 0, 1) := by decide +kernel
theorem dX0_doClash_74 : decode cX0_doClash 74 = .ok (.ireturn, 1) := by decide +kernel
theorem dX1_init_0 : decode cX1_init 0 = .ok (.aload_n 0, 1) := by decide +kernel
theorem dX1_init_1 : decode cX1_init 1 = .ok (.invokespecial 3, 3) := by decide +kernel
theorem dX1_init_4 : decode cX1_init 4 = .ok (.aload_n 0, 1) := by decide +kernel
theorem dX1_init_5 : decode cX1_init 5 = .ok (.sipush 300, 3) := by decide +kernel
theorem dX1_init_8 : decode cX1_init 8 = .ok (.newarray .byte, 2) := by decide +kernel
theorem dX1_init_10 : decode cX1_init 10 = .ok (.putfield 11, 3) := by decide +kernel
theorem dX1_init_13 : decode cX1_init 13 = .ok (.aload_n 0, 1) := by decide +kernel
theorem dX1_init_14 : decode cX1_init 14 = .ok (.iconst 0, 1) := by decide +kernel
theorem dX1_init_15 : decode cX1_init 15 = .ok (.putfield 15, 3) := by decide +kernel
theorem dX1_init_18 : decode cX1_init 18 = .ok (.aload_n 0, 1) := by decide +kernel
theorem dX1_init_19 : decode cX1_init 19 = .ok (.iconst 0, 1) := by decide +kernel
theorem dX1_init_20 : decode cX1_init 20 = .ok (.putfield 19, 3) := by decide +kernel
theorem dX1_init_23 : decode cX1_init 23 = .ok (.aload_n 0, 1) := by decide +kernel
theorem dX1_init_24 : decode cX1_init 24 = .ok (.iconst (-1), 1) := by decide +kernel
theorem dX1_init_25 : decode cX1_init 25 = .ok (.putfield 22, 3) := by decide +kernel
theorem dX1_init_28 : decode cX1_init 28 = .ok (.aload_n 0, 1) := by decide +kernel
theorem dX1_init_29 : decode cX1_init 29 = .ok (.iconst 0, 1) := by decide +kernel
theorem dX1_init_30 : decode cX1_init 30 = .ok (.putfield 25, 3) := by decide +kernel
theorem dX1_init_33 : decode cX1_init 33 = .ok (.aload_n 0, 1) := by decide +kernel
theorem dX1_init_34 : decode cX1_init 34 = .ok (.iconst 0, 1) := by decide +kernel
theorem dX1_init_35 : decode cX1_init 35 = .ok (.putfield 28, 3) := by decide +kernel
theorem dX1_init_38 : decode cX1_init 38 = .ok (.return_, 1) := by decide +kernel
theorem dX1_torn_0 : decode cX1_torn 0 = .ok (.aload_n 0, 1) := by decide +kernel
theorem dX1_torn_1 : decode cX1_torn 1 = .ok (.getfield 25, 3) := by decide +kernel
theorem dX1_torn_4 : decode cX1_torn 4 = .ok (.ireturn, 1) := by decide +kernel
theorem dX1_bitsPut_0 : decode cX1_bitsPut 0 = .ok (.aload_n 0, 1) := by decide +kernel
theorem dX1_bitsPut_1 : decode cX1_bitsPut 1 = .ok (.getfield 22, 3) := by decide +kernel
theorem dX1_bitsPut_4 : decode cX1_bitsPut 4 = .ok (.ireturn, 1) := by decide +kernel
theorem dX1_frameBits_0 : decode cX1_frameBits 0 = .ok (.aload_n 0, 1) := by decide +kernel
theorem dX1_frameBits_1 : decode cX1_frameBits 1 = .ok (.getfield 28, 3) := by decide +kernel
theorem dX1_frameBits_4 : decode cX1_frameBits 4 = .ok (.ireturn, 1) := by decide +kernel
theorem dX1_takeLevel_0 : decode cX1_takeLevel 0 = .ok (.iload_n 1, 1) := by decide +kernel
theorem dX1_takeLevel_1 : decode cX1_takeLevel 1 = .ok (.aload_n 0, 1) := by decide +kernel
theorem dX1_takeLevel_2 : decode cX1_takeLevel 2 = .ok (.getfield 15, 3) := by decide +kernel
theorem dX1_takeLevel_5 : decode cX1_takeLevel 5 = .ok (.if_icmp .ne 7, 3) := by decide +kernel
theorem dX1_takeLevel_8 : decode cX1_takeLevel 8 = .ok (.iconst 1, 1) := by decide +kernel
theorem dX1_takeLevel_9 : decode cX1_takeLevel 9 = .ok (.goto 4, 3) := by decide +kernel
theorem dX1_takeLevel_12 : decode cX1_takeLevel 12 = .ok (.iconst 0, 1) := by decide +kernel
theorem dX1_takeLevel_13 : decode cX1_takeLevel 13 = .ok (.istore_n 2, 1) := by decide +kernel
theorem dX1_takeLevel_14 : decode cX1_takeLevel 14 = .ok (.aload_n 0, 1) := by decide +kernel
theorem dX1_takeLevel_15 : decode cX1_takeLevel 15 = .ok (.iload_n 1, 1) := by decide +kernel
theorem dX1_takeLevel_16 : decode cX1_takeLevel 16 = .ok (.putfield 15, 3) := by decide +kernel
theorem dX1_takeLevel_19 : decode cX1_takeLevel 19 = .ok (.iload_n 2, 1) := by decide +kernel
theorem dX1_takeLevel_20 : decode cX1_takeLevel 20 = .ok (.ifCond .eq 9, 3) := by decide +kernel
theorem dX1_takeLevel_23 : decode cX1_takeLevel 23 = .ok (.aload_n 0, 1) := by decide +kernel
theorem dX1_takeLevel_24 : decode cX1_takeLevel 24 = .ok (.invokevirtual 31, 3) := by decide +kernel
theorem dX1_takeLevel_27 : decode cX1_takeLevel 27 = .ok (.iconst 0, 1) := by decide +kernel
theorem dX1_takeLevel_28 : decode cX1_takeLevel 28 = .ok (.ireturn, 1) := by decide +kernel
theorem dX1_takeLevel_29 : decode cX1_takeLevel 29 = .ok (.aload_n 0, 1) := by decide +kernel
theorem dX1_takeLevel_30 : decode cX1_takeLevel 30 = .ok (.getfield 19, 3) := by decide +kernel
theorem dX1_takeLevel_33 : decode cX1_takeLevel 33 = .ok (.istore_n 3, 1) := by decide +kernel
theorem dX1_takeLevel_34 : decode cX1_takeLevel 34 = .ok (.aload_n 0, 1) := by decide +kernel
theorem dX1_takeLevel_35 : decode cX1_takeLevel 35 = .ok (.iconst 0, 1) := by decide +kernel
theorem dX1_takeLevel_36 : decode cX1_takeLevel 36 = .ok (.putfield 19, 3) := by decide +kernel
theorem dX1_takeLevel_39 : decode cX1_takeLevel 39 = .ok (.iload_n 3, 1) := by decide +kernel
theorem dX1_takeLevel_40 : decode cX1_takeLevel 40 = .ok (.bipush 6, 2) := by decide +kernel
theorem dX1_takeLevel_42 : decode cX1_takeLevel 42 = .ok (.if_icmp .ne 8, 3) := by decide +kernel
theorem dX1_takeLevel_45 : decode cX1_takeLevel 45 = .ok (.aload_n 0, 1) := by decide +kernel
theorem dX1_takeLevel_46 : decode cX1_takeLevel 46 = .ok (.invokevirtual 34, 3) := by decide +kernel
theorem dX1_takeLevel_49 : decode cX1_takeLevel 49 = .ok (.ireturn, 1) := by decide +kernel
theorem dX1_takeLevel_50 : decode cX1_takeLevel 50 = .ok (.iload_n 3, 1) := by decide +kernel
theorem dX1_takeLevel_51 : decode cX1_takeLevel 51 = .ok (.iconst 5, 1) := by decide +kernel
theorem dX1_takeLevel_52 : decode cX1_takeLevel 52 = .ok (.if_icmp .ge 8, 3) := by decide +kernel
theorem dX1_takeLevel_55 : decode cX1_takeLevel 55 = .ok (.aload_n 0, 1) := by decide +kernel
theorem dX1_takeLevel_56 : decode cX1_takeLevel 56 = .ok (.iconst 0, 1) := by decide +kernel
theorem dX1_takeLevel_57 : decode cX1_takeLevel 57 = .ok (.invokevirtual 38, 3) := by decide +kernel
theorem dX1_takeLevel_60 : decode cX1_takeLevel 60 = .ok (.iconst 0, 1) := by decide +kernel
theorem dX1_takeLevel_61 : decode cX1_takeLevel 61 = .ok (.ireturn, 1) := by decide +kernel
theorem dX1_number_0 : decode cX1_number 0 = .ok (.iconst 0, 1) := by decide +kernel
theorem dX1_number_1 : decode cX1_number 1 = .ok (.istore_n 3, 1) := by decide +kernel
theorem dX1_number_2 : decode cX1_number 2 = .ok (.iload_n 1, 1) := by decide +kernel
theorem dX1_number_3 : decode cX1_number 3 = .ok (.istore 4, 2) := by decide +kernel
theorem dX1_number_5 : decode cX1_number 5 = .ok (.iload 4, 2) := by decide +kernel
theorem dX1_number_7 : decode cX1_number 7 = .ok (.iload_n 1, 1) := by decide +kernel
theorem dX1_number_8 : decode cX1_number 8 = .ok (.iload_n 2, 1) := by decide +kernel
theorem dX1_number_9 : decode cX1_number 9 = .ok (.iadd, 1) := by decide +kernel
theorem dX1_number_10 : decode cX1_number 10 = .ok (.if_icmp .ge 20, 3) := by decide +kernel
theorem dX1_number_13 : decode cX1_number 13 = .ok (.iload_n 3, 1) := by decide +kernel
theorem dX1_number_14 : decode cX1_number 14 = .ok (.iconst 1, 1) := by decide +kernel
theorem dX1_number_15 : decode cX1_number 15 = .ok (.ishl, 1) := by decide +kernel
theorem dX1_number_16 : decode cX1_number 16 = .ok (.aload_n 0, 1) := by decide +kernel
theorem dX1_number_17 : decode cX1_number 17 = .ok (.iload 4, 2) := by decide +kernel
theorem dX1_number_19 : decode cX1_number 19 = .ok (.invokevirtual 42, 3) := by decide +kernel
theorem dX1_number_22 : decode cX1_number 22 = .ok (.ior, 1) := by decide +kernel
theorem dX1_number_23 : decode cX1_number 23 = .ok (.istore_n 3, 1) := by decide +kernel
theorem dX1_number_24 : decode cX1_number 24 = .ok (.iinc 4 1, 3) := by decide +kernel
theorem dX1_number_27 : decode cX1_number 27 = .ok (.goto (-22), 3) := by decide +kernel
theorem dX1_number_30 : decode cX1_number 30 = .ok (.iload_n 3, 1) := by decide +kernel
theorem dX1_number_31 : decode cX1_number 31 = .ok (.ireturn, 1) := by decide +kernel
theorem dX1_bitAt_0 : decode cX1_bitAt 0 = .ok (.iload_n 1, 1) := by decide +kernel
theorem dX1_bitAt_1 : decode cX1_bitAt 1 = .ok (.ifCond .lt 19, 3) := by decide +kernel
theorem dX1_bitAt_4 : decode cX1_bitAt 4 = .ok (.iload_n 1, 1) := by decide +kernel
theorem dX1_bitAt_5 : decode cX1_bitAt 5 = .ok (.sipush 300, 3) := by decide +kernel
theorem dX1_bitAt_8 : decode cX1_bitAt 8 = .ok (.if_icmp .ge 12, 3) := by decide +kernel
theorem dX1_bitAt_11 : decode cX1_bitAt 11 = .ok (.aload_n 0, 1) := by decide +kernel
theorem dX1_bitAt_12 : decode cX1_bitAt 12 = .ok (.getfield 11, 3) := by decide +kernel
theorem dX1_bitAt_15 : decode cX1_bitAt 15 = .ok (.iload_n 1, 1) := by decide +kernel
theorem dX1_bitAt_16 : decode cX1_bitAt 16 = .ok (.baload, 1) := by decide +kernel
theorem dX1_bitAt_17 : decode cX1_bitAt 17 = .ok (.goto 4, 3) := by decide +kernel
theorem dX1_bitAt_20 : decode cX1_bitAt 20 = .ok (.iconst 0, 1) := by decide +kernel
theorem dX1_bitAt_21 : decode cX1_bitAt 21 = .ok (.ireturn, 1) := by decide +kernel
theorem dX1_takeOne_0 : decode cX1_takeOne 0 = .ok (.aload_n 0, 1) := by decide +kernel
theorem dX1_takeOne_1 : decode cX1_takeOne 1 = .ok (.getfield 19, 3) := by decide +kernel
theorem dX1_takeOne_4 : decode cX1_takeOne 4 = .ok (.bipush 7, 2) := by decide +kernel
theorem dX1_takeOne_6 : decode cX1_takeOne 6 = .ok (.if_icmp .ge 13, 3) := by decide +kernel
theorem dX1_takeOne_9 : decode cX1_takeOne 9 = .ok (.aload_n 0, 1) := by decide +kernel
theorem dX1_takeOne_10 : decode cX1_takeOne 10 = .ok (.dup, 1) := by decide +kernel
theorem dX1_takeOne_11 : decode cX1_takeOne 11 = .ok (.getfield 19, 3) := by decide +kernel
theorem dX1_takeOne_14 : decode cX1_takeOne 14 = .ok (.iconst 1, 1) := by decide +kernel
theorem dX1_takeOne_15 : decode cX1_takeOne 15 = .ok (.iadd, 1) := by decide +kernel
theorem dX1_takeOne_16 : decode cX1_takeOne 16 = .ok (.putfield 19, 3) := by decide +kernel
theorem dX1_takeOne_19 : decode cX1_takeOne 19 = .ok (.aload_n 0, 1) := by decide +kernel
theorem dX1_takeOne_20 : decode cX1_takeOne 20 = .ok (.getfield 19, 3) := by decide +kernel
theorem dX1_takeOne_23 : decode cX1_takeOne 23 = .ok (.iconst 5, 1) := by decide +kernel
theorem dX1_takeOne_24 : decode cX1_takeOne 24 = .ok (.if_icmp .gt 11, 3) := by decide +kernel
theorem dX1_takeOne_27 : decode cX1_takeOne 27 = .ok (.aload_n 0, 1) := by decide +kernel
theorem dX1_takeOne_28 : decode cX1_takeOne 28 = .ok (.iconst 1, 1) := by decide +kernel
theorem dX1_takeOne_29 : decode cX1_takeOne 29 = .ok (.invokevirtual 38, 3) := by decide +kernel
theorem dX1_takeOne_32 : decode cX1_takeOne 32 = .ok (.goto 16, 3) := by decide +kernel
theorem dX1_takeOne_35 : decode cX1_takeOne 35 = .ok (.aload_n 0, 1) := by decide +kernel
theorem dX1_takeOne_36 : decode cX1_takeOne 36 = .ok (.getfield 19, 3) := by decide +kernel
theorem dX1_takeOne_39 : decode cX1_takeOne 39 = .ok (.bipush 7, 2) := by decide +kernel
theorem dX1_takeOne_41 : decode cX1_takeOne 41 = .ok (.if_icmp .ne 7, 3) := by decide +kernel
theorem dX1_takeOne_44 : decode cX1_takeOne 44 = .ok (.aload_n 0, 1) := by decide +kernel
theorem dX1_takeOne_45 : decode cX1_takeOne 45 = .ok (.invokevirtual 46, 3) := by decide +kernel
theorem dX1_takeOne_48 : decode cX1_takeOne 48 = .ok (.return_, 1) := by decide +kernel
theorem dX1_putBit_0 : decode cX1_putBit 0 = .ok (.aload_n 0, 1) := by decide +kernel
theorem dX1_putBit_1 : decode cX1_putBit 1 = .ok (.getfield 22, 3) := by decide +kernel
theorem dX1_putBit_4 : decode cX1_putBit 4 = .ok (.iconst (-1), 1) := by decide +kernel
theorem dX1_putBit_5 : decode cX1_putBit 5 = .ok (.if_icmp .ne 4, 3) := by decide +kernel
theorem dX1_putBit_8 : decode cX1_putBit 8 = .ok (.return_, 1) := by decide +kernel
theorem dX1_putBit_9 : decode cX1_putBit 9 = .ok (.aload_n 0, 1) := by decide +kernel
theorem dX1_putBit_10 : decode cX1_putBit 10 = .ok (.getfield 22, 3) := by decide +kernel
theorem dX1_putBit_13 : decode cX1_putBit 13 = .ok (.sipush 300, 3) := by decide +kernel
theorem dX1_putBit_16 : decode cX1_putBit 16 = .ok (.if_icmp .lt 8, 3) := by decide +kernel
theorem dX1_putBit_19 : decode cX1_putBit 19 = .ok (.aload_n 0, 1) := by decide +kernel
theorem dX1_putBit_20 : decode cX1_putBit 20 = .ok (.invokevirtual 46, 3) := by decide +kernel
theorem dX1_putBit_23 : decode cX1_putBit 23 = .ok (.return_, 1) := by decide +kernel
theorem dX1_putBit_24 : decode cX1_putBit 24 = .ok (.aload_n 0, 1) := by decide +kernel
theorem dX1_putBit_25 : decode cX1_putBit 25 = .ok (.getfield 11, 3) := by decide +kernel
theorem dX1_putBit_28 : decode cX1_putBit 28 = .ok (.aload_n 0, 1) := by decide +kernel
theorem dX1_putBit_29 : decode cX1_putBit 29 = .ok (.getfield 22, 3) := by decide +kernel
theorem dX1_putBit_32 : decode cX1_putBit 32 = .ok (.iload_n 1, 1) := by decide +kernel
theorem dX1_putBit_33 : decode cX1_putBit 33 = .ok (.i2b, 1) := by decide +kernel
theorem dX1_putBit_34 : decode cX1_putBit 34 = .ok (.bastore, 1) := by decide +kernel
theorem dX1_putBit_35 : decode cX1_putBit 35 = .ok (.aload_n 0, 1) := by decide +kernel
theorem dX1_putBit_36 : decode cX1_putBit 36 = .ok (.dup, 1) := by decide +kernel
theorem dX1_putBit_37 : decode cX1_putBit 37 = .ok (.getfield 22, 3) := by decide +kernel
theorem dX1_putBit_40 : decode cX1_putBit 40 = .ok (.iconst 1, 1) := by decide +kernel
theorem dX1_putBit_41 : decode cX1_putBit 41 = .ok (.iadd, 1) := by decide +kernel
theorem dX1_putBit_42 : decode cX1_putBit 42 = .ok (.putfield 22, 3) := by decide +kernel
theorem dX1_putBit_45 : decode cX1_putBit 45 = .ok (.return_, 1) := by decide +kernel
theorem dX1_lose_0 : decode cX1_lose 0 = .ok (.aload_n 0, 1) := by decide +kernel
theorem dX1_lose_1 : decode cX1_lose 1 = .ok (.getfield 22, 3) := by decide +kernel
theorem dX1_lose_4 : decode cX1_lose 4 = .ok (.bipush 30, 2) := by decide +kernel
theorem dX1_lose_6 : decode cX1_lose 6 = .ok (.if_icmp .lt 13, 3) := by decide +kernel
theorem dX1_lose_9 : decode cX1_lose 9 = .ok (.aload_n 0, 1) := by decide +kernel
theorem dX1_lose_10 : decode cX1_lose 10 = .ok (.dup, 1) := by decide +kernel
theorem dX1_lose_11 : decode cX1_lose 11 = .ok (.getfield 25, 3) := by decide +kernel
theorem dX1_lose_14 : decode cX1_lose 14 = .ok (.iconst 1, 1) := by decide +kernel
theorem dX1_lose_15 : decode cX1_lose 15 = .ok (.iadd, 1) := by decide +kernel
theorem dX1_lose_16 : decode cX1_lose 16 = .ok (.putfield 25, 3) := by decide +kernel
theorem dX1_lose_19 : decode cX1_lose 19 = .ok (.aload_n 0, 1) := by decide +kernel
theorem dX1_lose_20 : decode cX1_lose 20 = .ok (.iconst (-1), 1) := by decide +kernel
theorem dX1_lose_21 : decode cX1_lose 21 = .ok (.putfield 22, 3) := by decide +kernel
theorem dX1_lose_24 : decode cX1_lose 24 = .ok (.return_, 1) := by decide +kernel
theorem dX1_endPiece_0 : decode cX1_endPiece 0 = .ok (.aload_n 0, 1) := by decide +kernel
theorem dX1_endPiece_1 : decode cX1_endPiece 1 = .ok (.getfield 22, 3) := by decide +kernel
theorem dX1_endPiece_4 : decode cX1_endPiece 4 = .ok (.bipush 6, 2) := by decide +kernel
theorem dX1_endPiece_6 : decode cX1_endPiece 6 = .ok (.isub, 1) := by decide +kernel
theorem dX1_endPiece_7 : decode cX1_endPiece 7 = .ok (.istore_n 1, 1) := by decide +kernel
theorem dX1_endPiece_8 : decode cX1_endPiece 8 = .ok (.aload_n 0, 1) := by decide +kernel
theorem dX1_endPiece_9 : decode cX1_endPiece 9 = .ok (.iconst 0, 1) := by decide +kernel
theorem dX1_endPiece_10 : decode cX1_endPiece 10 = .ok (.putfield 22, 3) := by decide +kernel
theorem dX1_endPiece_13 : decode cX1_endPiece 13 = .ok (.iload_n 1, 1) := by decide +kernel
theorem dX1_endPiece_14 : decode cX1_endPiece 14 = .ok (.bipush 24, 2) := by decide +kernel
theorem dX1_endPiece_16 : decode cX1_endPiece 16 = .ok (.if_icmp .ge 5, 3) := by decide +kernel
theorem dX1_endPiece_19 : decode cX1_endPiece 19 = .ok (.iconst 0, 1) := by decide +kernel
theorem dX1_endPiece_20 : decode cX1_endPiece 20 = .ok (.ireturn, 1) := by decide +kernel
theorem dX1_endPiece_21 : decode cX1_endPiece 21 = .ok (.aload_n 0, 1) := by decide +kernel
theorem dX1_endPiece_22 : decode cX1_endPiece 22 = .ok (.iload_n 1, 1) := by decide +kernel
theorem dX1_endPiece_23 : decode cX1_endPiece 23 = .ok (.bipush 16, 2) := by decide +kernel
theorem dX1_endPiece_25 : decode cX1_endPiece 25 = .ok (.isub, 1) := by decide +kernel
theorem dX1_endPiece_26 : decode cX1_endPiece 26 = .ok (.putfield 28, 3) := by decide +kernel
theorem dX1_endPiece_29 : decode cX1_endPiece 29 = .ok (.aload_n 0, 1) := by decide +kernel
theorem dX1_endPiece_30 : decode cX1_endPiece 30 = .ok (.invokevirtual 49, 3) := by decide +kernel
theorem dX1_endPiece_33 : decode cX1_endPiece 33 = .ok (.ifCond .eq 5, 3) := by decide +kernel
theorem dX1_endPiece_36 : decode cX1_endPiece 36 = .ok (.iconst 1, 1) := by decide +kernel
theorem dX1_endPiece_37 : decode cX1_endPiece 37 = .ok (.ireturn, 1) := by decide +kernel
theorem dX1_endPiece_38 : decode cX1_endPiece 38 = .ok (.aload_n 0, 1) := by decide +kernel
theorem dX1_endPiece_39 : decode cX1_endPiece 39 = .ok (.dup, 1) := by decide +kernel
theorem dX1_endPiece_40 : decode cX1_endPiece 40 = .ok (.getfield 25, 3) := by decide +kernel
theorem dX1_endPiece_43 : decode cX1_endPiece 43 = .ok (.iconst 1, 1) := by decide +kernel
theorem dX1_endPiece_44 : decode cX1_endPiece 44 = .ok (.iadd, 1) := by decide +kernel
theorem dX1_endPiece_45 : decode cX1_endPiece 45 = .ok (.putfield 25, 3) := by decide +kernel
theorem dX1_endPiece_48 : decode cX1_endPiece 48 = .ok (.iconst 0, 1) := by decide +kernel
theorem dX1_endPiece_49 : decode cX1_endPiece 49 = .ok (.ireturn, 1) := by decide +kernel
theorem dX1_isChecked_0 : decode cX1_isChecked 0 = .ok (.ldc 52, 2) := by decide +kernel
theorem dX1_isChecked_2 : decode cX1_isChecked 2 = .ok (.istore_n 1, 1) := by decide +kernel
theorem dX1_isChecked_3 : decode cX1_isChecked 3 = .ok (.iconst 0, 1) := by decide +kernel
theorem dX1_isChecked_4 : decode cX1_isChecked 4 = .ok (.istore_n 2, 1) := by decide +kernel
theorem dX1_isChecked_5 : decode cX1_isChecked 5 = .ok (.iload_n 2, 1) := by decide +kernel
theorem dX1_isChecked_6 : decode cX1_isChecked 6 = .ok (.aload_n 0, 1) := by decide +kernel
theorem dX1_isChecked_7 : decode cX1_isChecked 7 = .ok (.getfield 28, 3) := by decide +kernel
theorem dX1_isChecked_10 : decode cX1_isChecked 10 = .ok (.if_icmp .ge 19, 3) := by decide +kernel
theorem dX1_isChecked_13 : decode cX1_isChecked 13 = .ok (.iload_n 1, 1) := by decide +kernel
theorem dX1_isChecked_14 : decode cX1_isChecked 14 = .ok (.aload_n 0, 1) := by decide +kernel
theorem dX1_isChecked_15 : decode cX1_isChecked 15 = .ok (.iload_n 2, 1) := by decide +kernel
theorem dX1_isChecked_16 : decode cX1_isChecked 16 = .ok (.invokevirtual 42, 3) := by decide +kernel
theorem dX1_isChecked_19 : decode cX1_isChecked 19 = .ok (.invokestatic 53, 3) := by decide +kernel
theorem dX1_isChecked_22 : decode cX1_isChecked 22 = .ok (.istore_n 1, 1) := by decide +kernel
theorem dX1_isChecked_23 : decode cX1_isChecked 23 = .ok (.iinc 2 1, 3) := by decide +kernel
theorem dX1_isChecked_26 : decode cX1_isChecked 26 = .ok (.goto (-21), 3) := by decide +kernel
theorem dX1_isChecked_29 : decode cX1_isChecked 29 = .ok (.iload_n 1, 1) := by decide +kernel
theorem dX1_isChecked_30 : decode cX1_isChecked 30 = .ok (.ldc 52, 2) := by decide +kernel
theorem dX1_isChecked_32 : decode cX1_isChecked 32 = .ok (.ixor, 1) := by decide +kernel
theorem dX1_isChecked_33 : decode cX1_isChecked 33 = .ok (.aload_n 0, 1) := by decide +kernel
theorem dX1_isChecked_34 : decode cX1_isChecked 34 = .ok (.aload_n 0, 1) := by decide +kernel
theorem dX1_isChecked_35 : decode cX1_isChecked 35 = .ok (.getfield 28, 3) := by decide +kernel
theorem dX1_isChecked_38 : decode cX1_isChecked 38 = .ok (.bipush 16, 2) := by decide +kernel
theorem dX1_isChecked_40 : decode cX1_isChecked 40 = .ok (.invokevirtual 57, 3) := by decide +kernel
theorem dX1_isChecked_43 : decode cX1_isChecked 43 = .ok (.if_icmp .ne 7, 3) := by decide +kernel
theorem dX1_isChecked_46 : decode cX1_isChecked 46 = .ok (.iconst 1, 1) := by decide +kernel
theorem dX1_isChecked_47 : decode cX1_isChecked 47 = .ok (.goto 4, 3) := by decide +kernel
theorem dX1_isChecked_50 : decode cX1_isChecked 50 = .ok (.iconst 0, 1) := by decide +kernel
theorem dX1_isChecked_51 : decode cX1_isChecked 51 = .ok (.ireturn, 1) := by decide +kernel
theorem dX2_init_0 : decode cX2_init 0 = .ok (.aload_n 0, 1) := by decide +kernel
theorem dX2_init_1 : decode cX2_init 1 = .ok (.invokespecial 3, 3) := by decide +kernel
theorem dX2_init_4 : decode cX2_init 4 = .ok (.aload_n 0, 1) := by decide +kernel
theorem dX2_init_5 : decode cX2_init 5 = .ok (.sipush 1600, 3) := by decide +kernel
theorem dX2_init_8 : decode cX2_init 8 = .ok (.newarray .int, 2) := by decide +kernel
theorem dX2_init_10 : decode cX2_init 10 = .ok (.putfield 11, 3) := by decide +kernel
theorem dX2_init_13 : decode cX2_init 13 = .ok (.aload_n 0, 1) := by decide +kernel
theorem dX2_init_14 : decode cX2_init 14 = .ok (.iconst 0, 1) := by decide +kernel
theorem dX2_init_15 : decode cX2_init 15 = .ok (.putfield 15, 3) := by decide +kernel
theorem dX2_init_18 : decode cX2_init 18 = .ok (.return_, 1) := by decide +kernel
theorem dX2_entries_0 : decode cX2_entries 0 = .ok (.aload_n 0, 1) := by decide +kernel
theorem dX2_entries_1 : decode cX2_entries 1 = .ok (.getfield 15, 3) := by decide +kernel
theorem dX2_entries_4 : decode cX2_entries 4 = .ok (.ireturn, 1) := by decide +kernel
theorem dX2_has_0 : decode cX2_has 0 = .ok (.iload_n 1, 1) := by decide +kernel
theorem dX2_has_1 : decode cX2_has 1 = .ok (.ifCond .lt 15, 3) := by decide +kernel
theorem dX2_has_4 : decode cX2_has 4 = .ok (.iload_n 1, 1) := by decide +kernel
theorem dX2_has_5 : decode cX2_has 5 = .ok (.aload_n 0, 1) := by decide +kernel
theorem dX2_has_6 : decode cX2_has 6 = .ok (.getfield 15, 3) := by decide +kernel
theorem dX2_has_9 : decode cX2_has 9 = .ok (.if_icmp .ge 7, 3) := by decide +kernel
theorem dX2_has_12 : decode cX2_has 12 = .ok (.iconst 1, 1) := by decide +kernel
theorem dX2_has_13 : decode cX2_has 13 = .ok (.goto 4, 3) := by decide +kernel
theorem dX2_has_16 : decode cX2_has 16 = .ok (.iconst 0, 1) := by decide +kernel
theorem dX2_has_17 : decode cX2_has 17 = .ok (.ireturn, 1) := by decide +kernel
theorem dX2_cell_0 : decode cX2_cell 0 = .ok (.aload_n 0, 1) := by decide +kernel
theorem dX2_cell_1 : decode cX2_cell 1 = .ok (.iload_n 1, 1) := by decide +kernel
theorem dX2_cell_2 : decode cX2_cell 2 = .ok (.invokevirtual 19, 3) := by decide +kernel
theorem dX2_cell_5 : decode cX2_cell 5 = .ok (.ifCond .eq 27, 3) := by decide +kernel
theorem dX2_cell_8 : decode cX2_cell 8 = .ok (.iload_n 2, 1) := by decide +kernel
theorem dX2_cell_9 : decode cX2_cell 9 = .ok (.ifCond .lt 23, 3) := by decide +kernel
theorem dX2_cell_12 : decode cX2_cell 12 = .ok (.iload_n 2, 1) := by decide +kernel
theorem dX2_cell_13 : decode cX2_cell 13 = .ok (.bipush 8, 2) := by decide +kernel
theorem dX2_cell_15 : decode cX2_cell 15 = .ok (.if_icmp .ge 17, 3) := by decide +kernel
theorem dX2_cell_18 : decode cX2_cell 18 = .ok (.aload_n 0, 1) := by decide +kernel
theorem dX2_cell_19 : decode cX2_cell 19 = .ok (.getfield 11, 3) := by decide +kernel
theorem dX2_cell_22 : decode cX2_cell 22 = .ok (.iload_n 1, 1) := by decide +kernel
theorem dX2_cell_23 : decode cX2_cell 23 = .ok (.bipush 8, 2) := by decide +kernel
theorem dX2_cell_25 : decode cX2_cell 25 = .ok (.imul, 1) := by decide +kernel
theorem dX2_cell_26 : decode cX2_cell 26 = .ok (.iload_n 2, 1) := by decide +kernel
theorem dX2_cell_27 : decode cX2_cell 27 = .ok (.iadd, 1) := by decide +kernel
theorem dX2_cell_28 : decode cX2_cell 28 = .ok (.iaload, 1) := by decide +kernel
theorem dX2_cell_29 : decode cX2_cell 29 = .ok (.goto 4, 3) := by decide +kernel
theorem dX2_cell_32 : decode cX2_cell 32 = .ok (.iconst (-1), 1) := by decide +kernel
theorem dX2_cell_33 : decode cX2_cell 33 = .ok (.ireturn, 1) := by decide +kernel
theorem dX2_add_0 : decode cX2_add 0 = .ok (.aload_n 0, 1) := by decide +kernel
theorem dX2_add_1 : decode cX2_add 1 = .ok (.getfield 15, 3) := by decide +kernel
theorem dX2_add_4 : decode cX2_add 4 = .ok (.sipush 200, 3) := by decide +kernel
theorem dX2_add_7 : decode cX2_add 7 = .ok (.if_icmp .lt 5, 3) := by decide +kernel
theorem dX2_add_10 : decode cX2_add 10 = .ok (.iconst (-1), 1) := by decide +kernel
theorem dX2_add_11 : decode cX2_add 11 = .ok (.ireturn, 1) := by decide +kernel
theorem dX2_add_12 : decode cX2_add 12 = .ok (.aload_n 0, 1) := by decide +kernel
theorem dX2_add_13 : decode cX2_add 13 = .ok (.getfield 15, 3) := by decide +kernel
theorem dX2_add_16 : decode cX2_add 16 = .ok (.bipush 8, 2) := by decide +kernel
theorem dX2_add_18 : decode cX2_add 18 = .ok (.imul, 1) := by decide +kernel
theorem dX2_add_19 : decode cX2_add 19 = .ok (.istore 4, 2) := by decide +kernel
theorem dX2_add_21 : decode cX2_add 21 = .ok (.aload_n 0, 1) := by decide +kernel
theorem dX2_add_22 : decode cX2_add 22 = .ok (.getfield 11, 3) := by decide +kernel
theorem dX2_add_25 : decode cX2_add 25 = .ok (.iload 4, 2) := by decide +kernel
theorem dX2_add_27 : decode cX2_add 27 = .ok (.iconst 0, 1) := by decide +kernel
theorem dX2_add_28 : decode cX2_add 28 = .ok (.iadd, 1) := by decide +kernel
theorem dX2_add_29 : decode cX2_add 29 = .ok (.aload_n 1, 1) := by decide +kernel
theorem dX2_add_30 : decode cX2_add 30 = .ok (.invokevirtual 23, 3) := by decide +kernel
theorem dX2_add_33 : decode cX2_add 33 = .ok (.iastore, 1) := by decide +kernel
theorem dX2_add_34 : decode cX2_add 34 = .ok (.aload_n 0, 1) := by decide +kernel
theorem dX2_add_35 : decode cX2_add 35 = .ok (.getfield 11, 3) := by decide +kernel
theorem dX2_add_38 : decode cX2_add 38 = .ok (.iload 4, 2) := by decide +kernel
theorem dX2_add_40 : decode cX2_add 40 = .ok (.iconst 1, 1) := by decide +kernel
theorem dX2_add_41 : decode cX2_add 41 = .ok (.iadd, 1) := by decide +kernel
theorem dX2_add_42 : decode cX2_add 42 = .ok (.aload_n 1, 1) := by decide +kernel
theorem dX2_add_43 : decode cX2_add 43 = .ok (.invokevirtual 29, 3) := by decide +kernel
theorem dX2_add_46 : decode cX2_add 46 = .ok (.iastore, 1) := by decide +kernel
theorem dX2_add_47 : decode cX2_add 47 = .ok (.aload_n 0, 1) := by decide +kernel
theorem dX2_add_48 : decode cX2_add 48 = .ok (.getfield 11, 3) := by decide +kernel
theorem dX2_add_51 : decode cX2_add 51 = .ok (.iload 4, 2) := by decide +kernel
theorem dX2_add_53 : decode cX2_add 53 = .ok (.iconst 2, 1) := by decide +kernel
theorem dX2_add_54 : decode cX2_add 54 = .ok (.iadd, 1) := by decide +kernel
theorem dX2_add_55 : decode cX2_add 55 = .ok (.iload_n 2, 1) := by decide +kernel
theorem dX2_add_56 : decode cX2_add 56 = .ok (.iastore, 1) := by decide +kernel
theorem dX2_add_57 : decode cX2_add 57 = .ok (.aload_n 0, 1) := by decide +kernel
theorem dX2_add_58 : decode cX2_add 58 = .ok (.getfield 11, 3) := by decide +kernel
theorem dX2_add_61 : decode cX2_add 61 = .ok (.iload 4, 2) := by decide +kernel
theorem dX2_add_63 : decode cX2_add 63 = .ok (.iconst 3, 1) := by decide +kernel
theorem dX2_add_64 : decode cX2_add 64 = .ok (.iadd, 1) := by decide +kernel
theorem dX2_add_65 : decode cX2_add 65 = .ok (.iload_n 3, 1) := by decide +kernel
theorem dX2_add_66 : decode cX2_add 66 = .ok (.iastore, 1) := by decide +kernel
theorem dX2_add_67 : decode cX2_add 67 = .ok (.iconst 0, 1) := by decide +kernel
theorem dX2_add_68 : decode cX2_add 68 = .ok (.istore 5, 2) := by decide +kernel
theorem dX2_add_70 : decode cX2_add 70 = .ok (.iload 5, 2) := by decide +kernel
theorem dX2_add_72 : decode cX2_add 72 = .ok (.iconst 4, 1) := by decide +kernel
theorem dX2_add_73 : decode cX2_add 73 = .ok (.if_icmp .ge 27, 3) := by decide +kernel
theorem dX2_add_76 : decode cX2_add 76 = .ok (.aload_n 0, 1) := by decide +kernel
theorem dX2_add_77 : decode cX2_add 77 = .ok (.getfield 11, 3) := by decide +kernel
theorem dX2_add_80 : decode cX2_add 80 = .ok (.iload 4, 2) := by decide +kernel
theorem dX2_add_82 : decode cX2_add 82 = .ok (.iconst 4, 1) := by decide +kernel
theorem dX2_add_83 : decode cX2_add 83 = .ok (.iadd, 1) := by decide +kernel
theorem dX2_add_84 : decode cX2_add 84 = .ok (.iload 5, 2) := by decide +kernel
theorem dX2_add_86 : decode cX2_add 86 = .ok (.iadd, 1) := by decide +kernel
theorem dX2_add_87 : decode cX2_add 87 = .ok (.aload_n 1, 1) := by decide +kernel
theorem dX2_add_88 : decode cX2_add 88 = .ok (.iload 5, 2) := by decide +kernel
theorem dX2_add_90 : decode cX2_add 90 = .ok (.invokevirtual 32, 3) := by decide +kernel
theorem dX2_add_93 : decode cX2_add 93 = .ok (.iastore, 1) := by decide +kernel
theorem dX2_add_94 : decode cX2_add 94 = .ok (.iinc 5 1, 3) := by decide +kernel
theorem dX2_add_97 : decode cX2_add 97 = .ok (.goto (-27), 3) := by decide +kernel
theorem dX2_add_100 : decode cX2_add 100 = .ok (.aload_n 0, 1) := by decide +kernel
theorem dX2_add_101 : decode cX2_add 101 = .ok (.dup, 1) := by decide +kernel
theorem dX2_add_102 : decode cX2_add 102 = .ok (.getfield 15, 3) := by decide +kernel
theorem dX2_add_105 : decode cX2_add 105 = .ok (.iconst 1, 1) := by decide +kernel
theorem dX2_add_106 : decode cX2_add 106 = .ok (.iadd, 1) := by decide +kernel
theorem dX2_add_107 : decode cX2_add 107 = .ok (.putfield 15, 3) := by decide +kernel
theorem dX2_add_110 : decode cX2_add 110 = .ok (.aload_n 0, 1) := by decide +kernel
theorem dX2_add_111 : decode cX2_add 111 = .ok (.getfield 15, 3) := by decide +kernel
theorem dX2_add_114 : decode cX2_add 114 = .ok (.iconst 1, 1) := by decide +kernel
theorem dX2_add_115 : decode cX2_add 115 = .ok (.isub, 1) := by decide +kernel
theorem dX2_add_116 : decode cX2_add 116 = .ok (.ireturn, 1) := by decide +kernel
theorem dX2_isOf_0 : decode cX2_isOf 0 = .ok (.aload_n 0, 1) := by decide +kernel
theorem dX2_isOf_1 : decode cX2_isOf 1 = .ok (.iload_n 1, 1) := by decide +kernel
theorem dX2_isOf_2 : decode cX2_isOf 2 = .ok (.iconst 0, 1) := by decide +kernel
theorem dX2_isOf_3 : decode cX2_isOf 3 = .ok (.invokevirtual 36, 3) := by decide +kernel
theorem dX2_isOf_6 : decode cX2_isOf 6 = .ok (.iload_n 2, 1) := by decide +kernel
theorem dX2_isOf_7 : decode cX2_isOf 7 = .ok (.if_icmp .ne 17, 3) := by decide +kernel
theorem dX2_isOf_10 : decode cX2_isOf 10 = .ok (.aload_n 0, 1) := by decide +kernel
theorem dX2_isOf_11 : decode cX2_isOf 11 = .ok (.iload_n 1, 1) := by decide +kernel
theorem dX2_isOf_12 : decode cX2_isOf 12 = .ok (.iconst 1, 1) := by decide +kernel
theorem dX2_isOf_13 : decode cX2_isOf 13 = .ok (.invokevirtual 36, 3) := by decide +kernel
theorem dX2_isOf_16 : decode cX2_isOf 16 = .ok (.iload_n 3, 1) := by decide +kernel
theorem dX2_isOf_17 : decode cX2_isOf 17 = .ok (.if_icmp .ne 7, 3) := by decide +kernel
theorem dX2_isOf_20 : decode cX2_isOf 20 = .ok (.iconst 1, 1) := by decide +kernel
theorem dX2_isOf_21 : decode cX2_isOf 21 = .ok (.goto 4, 3) := by decide +kernel
theorem dX2_isOf_24 : decode cX2_isOf 24 = .ok (.iconst 0, 1) := by decide +kernel
theorem dX2_isOf_25 : decode cX2_isOf 25 = .ok (.ireturn, 1) := by decide +kernel
theorem dX2_latest_0 : decode cX2_latest 0 = .ok (.aload_n 0, 1) := by decide +kernel
theorem dX2_latest_1 : decode cX2_latest 1 = .ok (.getfield 15, 3) := by decide +kernel
theorem dX2_latest_4 : decode cX2_latest 4 = .ok (.iconst 1, 1) := by decide +kernel
theorem dX2_latest_5 : decode cX2_latest 5 = .ok (.isub, 1) := by decide +kernel
theorem dX2_latest_6 : decode cX2_latest 6 = .ok (.istore_n 3, 1) := by decide +kernel
theorem dX2_latest_7 : decode cX2_latest 7 = .ok (.iload_n 3, 1) := by decide +kernel
theorem dX2_latest_8 : decode cX2_latest 8 = .ok (.ifCond .lt 21, 3) := by decide +kernel
theorem dX2_latest_11 : decode cX2_latest 11 = .ok (.aload_n 0, 1) := by decide +kernel
theorem dX2_latest_12 : decode cX2_latest 12 = .ok (.iload_n 3, 1) := by decide +kernel
theorem dX2_latest_13 : decode cX2_latest 13 = .ok (.iload_n 1, 1) := by decide +kernel
theorem dX2_latest_14 : decode cX2_latest 14 = .ok (.iload_n 2, 1) := by decide +kernel
theorem dX2_latest_15 : decode cX2_latest 15 = .ok (.invokevirtual 40, 3) := by decide +kernel
theorem dX2_latest_18 : decode cX2_latest 18 = .ok (.ifCond .eq 5, 3) := by decide +kernel
theorem dX2_latest_21 : decode cX2_latest 21 = .ok (.iload_n 3, 1) := by decide +kernel
theorem dX2_latest_22 : decode cX2_latest 22 = .ok (.ireturn, 1) := by decide +kernel
theorem dX2_latest_23 : decode cX2_latest 23 = .ok (.iinc 3 (-1), 3) := by decide +kernel
theorem dX2_latest_26 : decode cX2_latest 26 = .ok (.goto (-19), 3) := by decide +kernel
theorem dX2_latest_29 : decode cX2_latest 29 = .ok (.iconst (-1), 1) := by decide +kernel
theorem dX2_latest_30 : decode cX2_latest 30 = .ok (.ireturn, 1) := by decide +kernel
theorem dX2_howMany_0 : decode cX2_howMany 0 = .ok (.iconst 0, 1) := by decide +kernel
theorem dX2_howMany_1 : decode cX2_howMany 1 = .ok (.istore_n 3, 1) := by decide +kernel
theorem dX2_howMany_2 : decode cX2_howMany 2 = .ok (.iconst 0, 1) := by decide +kernel
theorem dX2_howMany_3 : decode cX2_howMany 3 = .ok (.istore 4, 2) := by decide +kernel
theorem dX2_howMany_5 : decode cX2_howMany 5 = .ok (.iload 4, 2) := by decide +kernel
theorem dX2_howMany_7 : decode cX2_howMany 7 = .ok (.aload_n 0, 1) := by decide +kernel
theorem dX2_howMany_8 : decode cX2_howMany 8 = .ok (.getfield 15, 3) := by decide +kernel
theorem dX2_howMany_11 : decode cX2_howMany 11 = .ok (.if_icmp .ge 23, 3) := by decide +kernel
theorem dX2_howMany_14 : decode cX2_howMany 14 = .ok (.aload_n 0, 1) := by decide +kernel
theorem dX2_howMany_15 : decode cX2_howMany 15 = .ok (.iload 4, 2) := by decide +kernel
theorem dX2_howMany_17 : decode cX2_howMany 17 = .ok (.iload_n 1, 1) := by decide +kernel
theorem dX2_howMany_18 : decode cX2_howMany 18 = .ok (.iload_n 2, 1) := by decide +kernel
theorem dX2_howMany_19 : decode cX2_howMany 19 = .ok (.invokevirtual 40, 3) := by decide +kernel
theorem dX2_howMany_22 : decode cX2_howMany 22 = .ok (.ifCond .eq 6, 3) := by decide +kernel
theorem dX2_howMany_25 : decode cX2_howMany 25 = .ok (.iinc 3 1, 3) := by decide +kernel
theorem dX2_howMany_28 : decode cX2_howMany 28 = .ok (.iinc 4 1, 3) := by decide +kernel
theorem dX2_howMany_31 : decode cX2_howMany 31 = .ok (.goto (-26), 3) := by decide +kernel
theorem dX2_howMany_34 : decode cX2_howMany 34 = .ok (.iload_n 3, 1) := by decide +kernel
theorem dX2_howMany_35 : decode cX2_howMany 35 = .ok (.ireturn, 1) := by decide +kernel
theorem dX3_init_0 : decode cX3_init 0 = .ok (.aload_n 0, 1) := by decide +kernel
theorem dX3_init_1 : decode cX3_init 1 = .ok (.invokespecial 7, 3) := by decide +kernel
theorem dX3_init_4 : decode cX3_init 4 = .ok (.aload_n 0, 1) := by decide +kernel
theorem dX3_init_5 : decode cX3_init 5 = .ok (.sipush 256, 3) := by decide +kernel
theorem dX3_init_8 : decode cX3_init 8 = .ok (.newarray .long, 2) := by decide +kernel
theorem dX3_init_10 : decode cX3_init 10 = .ok (.putfield 13, 3) := by decide +kernel
theorem dX3_init_13 : decode cX3_init 13 = .ok (.aload_n 0, 1) := by decide +kernel
theorem dX3_init_14 : decode cX3_init 14 = .ok (.bipush 32, 2) := by decide +kernel
theorem dX3_init_16 : decode cX3_init 16 = .ok (.newarray .long, 2) := by decide +kernel
theorem dX3_init_18 : decode cX3_init 18 = .ok (.putfield 17, 3) := by decide +kernel
theorem dX3_init_21 : decode cX3_init 21 = .ok (.aload_n 0, 1) := by decide +kernel
theorem dX3_init_22 : decode cX3_init 22 = .ok (.bipush 32, 2) := by decide +kernel
theorem dX3_init_24 : decode cX3_init 24 = .ok (.newarray .long, 2) := by decide +kernel
theorem dX3_init_26 : decode cX3_init 26 = .ok (.putfield 20, 3) := by decide +kernel
theorem dX3_init_29 : decode cX3_init 29 = .ok (.aload_n 0, 1) := by decide +kernel
theorem dX3_init_30 : decode cX3_init 30 = .ok (.bipush 32, 2) := by decide +kernel
theorem dX3_init_32 : decode cX3_init 32 = .ok (.newarray .long, 2) := by decide +kernel
theorem dX3_init_34 : decode cX3_init 34 = .ok (.putfield 23, 3) := by decide +kernel
theorem dX3_init_37 : decode cX3_init 37 = .ok (.aload_n 0, 1) := by decide +kernel
theorem dX3_init_38 : decode cX3_init 38 = .ok (.bipush 32, 2) := by decide +kernel
theorem dX3_init_40 : decode cX3_init 40 = .ok (.newarray .int, 2) := by decide +kernel
theorem dX3_init_42 : decode cX3_init 42 = .ok (.putfield 26, 3) := by decide +kernel
theorem dX3_init_45 : decode cX3_init 45 = .ok (.aload_n 0, 1) := by decide +kernel
theorem dX3_init_46 : decode cX3_init 46 = .ok (.bipush 32, 2) := by decide +kernel
theorem dX3_init_48 : decode cX3_init 48 = .ok (.newarray .int, 2) := by decide +kernel
theorem dX3_init_50 : decode cX3_init 50 = .ok (.putfield 30, 3) := by decide +kernel
theorem dX3_init_53 : decode cX3_init 53 = .ok (.aload_n 0, 1) := by decide +kernel
theorem dX3_init_54 : decode cX3_init 54 = .ok (.bipush 32, 2) := by decide +kernel
theorem dX3_init_56 : decode cX3_init 56 = .ok (.newarray .int, 2) := by decide +kernel
theorem dX3_init_58 : decode cX3_init 58 = .ok (.putfield 33, 3) := by decide +kernel
theorem dX3_init_61 : decode cX3_init 61 = .ok (.aload_n 0, 1) := by decide +kernel
theorem dX3_init_62 : decode cX3_init 62 = .ok (.bipush 32, 2) := by decide +kernel
theorem dX3_init_64 : decode cX3_init 64 = .ok (.newarray .int, 2) := by decide +kernel
theorem dX3_init_66 : decode cX3_init 66 = .ok (.putfield 36, 3) := by decide +kernel
theorem dX3_init_69 : decode cX3_init 69 = .ok (.aload_n 0, 1) := by decide +kernel
theorem dX3_init_70 : decode cX3_init 70 = .ok (.bipush 32, 2) := by decide +kernel
theorem dX3_init_72 : decode cX3_init 72 = .ok (.newarray .boolean, 2) := by decide +kernel
theorem dX3_init_74 : decode cX3_init 74 = .ok (.putfield 39, 3) := by decide +kernel
theorem dX3_init_77 : decode cX3_init 77 = .ok (.aload_n 0, 1) := by decide +kernel
theorem dX3_init_78 : decode cX3_init 78 = .ok (.iconst 0, 1) := by decide +kernel
theorem dX3_init_79 : decode cX3_init 79 = .ok (.putfield 43, 3) := by decide +kernel
theorem dX3_init_82 : decode cX3_init 82 = .ok (.aload_n 0, 1) := by decide +kernel
theorem dX3_init_83 : decode cX3_init 83 = .ok (.iconst 0, 1) := by decide +kernel
theorem dX3_init_84 : decode cX3_init 84 = .ok (.putfield 47, 3) := by decide +kernel
theorem dX3_init_87 : decode cX3_init 87 = .ok (.return_, 1) := by decide +kernel
theorem dX3_begin_0 : decode cX3_begin 0 = .ok (.aload_n 0, 1) := by decide +kernel
theorem dX3_begin_1 : decode cX3_begin 1 = .ok (.iconst 0, 1) := by decide +kernel
theorem dX3_begin_2 : decode cX3_begin 2 = .ok (.iload_n 1, 1) := by decide +kernel
theorem dX3_begin_3 : decode cX3_begin 3 = .ok (.bipush 16, 2) := by decide +kernel
theorem dX3_begin_5 : decode cX3_begin 5 = .ok (.invokestatic 50, 3) := by decide +kernel
theorem dX3_begin_8 : decode cX3_begin 8 = .ok (.invokestatic 56, 3) := by decide +kernel
theorem dX3_begin_11 : decode cX3_begin 11 = .ok (.putfield 43, 3) := by decide +kernel
theorem dX3_begin_14 : decode cX3_begin 14 = .ok (.aload_n 0, 1) := by decide +kernel
theorem dX3_begin_15 : decode cX3_begin 15 = .ok (.iconst 2, 1) := by decide +kernel
theorem dX3_begin_16 : decode cX3_begin 16 = .ok (.aload_n 0, 1) := by decide +kernel
theorem dX3_begin_17 : decode cX3_begin 17 = .ok (.getfield 43, 3) := by decide +kernel
theorem dX3_begin_20 : decode cX3_begin 20 = .ok (.imul, 1) := by decide +kernel
theorem dX3_begin_21 : decode cX3_begin 21 = .ok (.putfield 47, 3) := by decide +kernel
theorem dX3_begin_24 : decode cX3_begin 24 = .ok (.iconst 0, 1) := by decide +kernel
theorem dX3_begin_25 : decode cX3_begin 25 = .ok (.istore_n 2, 1) := by decide +kernel
theorem dX3_begin_26 : decode cX3_begin 26 = .ok (.iload_n 2, 1) := by decide +kernel
theorem dX3_begin_27 : decode cX3_begin 27 = .ok (.sipush 256, 3) := by decide +kernel
theorem dX3_begin_30 : decode cX3_begin 30 = .ok (.if_icmp .ge 18, 3) := by decide +kernel
theorem dX3_begin_33 : decode cX3_begin 33 = .ok (.aload_n 0, 1) := by decide +kernel
theorem dX3_begin_34 : decode cX3_begin 34 = .ok (.getfield 13, 3) := by decide +kernel
theorem dX3_begin_37 : decode cX3_begin 37 = .ok (.iload_n 2, 1) := by decide +kernel
theorem dX3_begin_38 : decode cX3_begin 38 = .ok (.ldc2_w 59, 3) := by decide +kernel
theorem dX3_begin_41 : decode cX3_begin 41 = .ok (.lastore, 1) := by decide +kernel
theorem dX3_begin_42 : decode cX3_begin 42 = .ok (.iinc 2 1, 3) := by decide +kernel
theorem dX3_begin_45 : decode cX3_begin 45 = .ok (.goto (-19), 3) := by decide +kernel
theorem dX3_begin_48 : decode cX3_begin 48 = .ok (.iconst 0, 1) := by decide +kernel
theorem dX3_begin_49 : decode cX3_begin 49 = .ok (.istore_n 2, 1) := by decide +kernel
theorem dX3_begin_50 : decode cX3_begin 50 = .ok (.iload_n 2, 1) := by decide +kernel
theorem dX3_begin_51 : decode cX3_begin 51 = .ok (.aload_n 0, 1) := by decide +kernel
theorem dX3_begin_52 : decode cX3_begin 52 = .ok (.getfield 47, 3) := by decide +kernel
theorem dX3_begin_55 : decode cX3_begin 55 = .ok (.if_icmp .ge 37, 3) := by decide +kernel
theorem dX3_begin_58 : decode cX3_begin 58 = .ok (.aload_n 0, 1) := by decide +kernel
theorem dX3_begin_59 : decode cX3_begin 59 = .ok (.getfield 17, 3) := by decide +kernel
theorem dX3_begin_62 : decode cX3_begin 62 = .ok (.iload_n 2, 1) := by decide +kernel
theorem dX3_begin_63 : decode cX3_begin 63 = .ok (.lconst 0, 1) := by decide +kernel
theorem dX3_begin_64 : decode cX3_begin 64 = .ok (.lastore, 1) := by decide +kernel
theorem dX3_begin_65 : decode cX3_begin 65 = .ok (.aload_n 0, 1) := by decide +kernel
theorem dX3_begin_66 : decode cX3_begin 66 = .ok (.getfield 20, 3) := by decide +kernel
theorem dX3_begin_69 : decode cX3_begin 69 = .ok (.iload_n 2, 1) := by decide +kernel
theorem dX3_begin_70 : decode cX3_begin 70 = .ok (.lconst 0, 1) := by decide +kernel
theorem dX3_begin_71 : decode cX3_begin 71 = .ok (.lastore, 1) := by decide +kernel
theorem dX3_begin_72 : decode cX3_begin 72 = .ok (.aload_n 0, 1) := by decide +kernel
theorem dX3_begin_73 : decode cX3_begin 73 = .ok (.getfield 26, 3) := by decide +kernel
theorem dX3_begin_76 : decode cX3_begin 76 = .ok (.iload_n 2, 1) := by decide +kernel
theorem dX3_begin_77 : decode cX3_begin 77 = .ok (.iconst (-1), 1) := by decide +kernel
theorem dX3_begin_78 : decode cX3_begin 78 = .ok (.iastore, 1) := by decide +kernel
theorem dX3_begin_79 : decode cX3_begin 79 = .ok (.aload_n 0, 1) := by decide +kernel
theorem dX3_begin_80 : decode cX3_begin 80 = .ok (.getfield 30, 3) := by decide +kernel
theorem dX3_begin_83 : decode cX3_begin 83 = .ok (.iload_n 2, 1) := by decide +kernel
theorem dX3_begin_84 : decode cX3_begin 84 = .ok (.iconst (-1), 1) := by decide +kernel
theorem dX3_begin_85 : decode cX3_begin 85 = .ok (.iastore, 1) := by decide +kernel
theorem dX3_begin_86 : decode cX3_begin 86 = .ok (.iinc 2 1, 3) := by decide +kernel
theorem dX3_begin_89 : decode cX3_begin 89 = .ok (.goto (-39), 3) := by decide +kernel
theorem dX3_begin_92 : decode cX3_begin 92 = .ok (.return_, 1) := by decide +kernel
theorem dX3_allow_0 : decode cX3_allow 0 = .ok (.aload_n 0, 1) := by decide +kernel
theorem dX3_allow_1 : decode cX3_allow 1 = .ok (.iload_n 1, 1) := by decide +kernel
theorem dX3_allow_2 : decode cX3_allow 2 = .ok (.invokevirtual 61, 3) := by decide +kernel
theorem dX3_allow_5 : decode cX3_allow 5 = .ok (.ifCond .eq 23, 3) := by decide +kernel
theorem dX3_allow_8 : decode cX3_allow 8 = .ok (.aload_n 0, 1) := by decide +kernel
theorem dX3_allow_9 : decode cX3_allow 9 = .ok (.iload_n 2, 1) := by decide +kernel
theorem dX3_allow_10 : decode cX3_allow 10 = .ok (.invokevirtual 61, 3) := by decide +kernel
theorem dX3_allow_13 : decode cX3_allow 13 = .ok (.ifCond .eq 15, 3) := by decide +kernel
theorem dX3_allow_16 : decode cX3_allow 16 = .ok (.aload_n 0, 1) := by decide +kernel
theorem dX3_allow_17 : decode cX3_allow 17 = .ok (.getfield 13, 3) := by decide +kernel
theorem dX3_allow_20 : decode cX3_allow 20 = .ok (.iload_n 1, 1) := by decide +kernel
theorem dX3_allow_21 : decode cX3_allow 21 = .ok (.bipush 16, 2) := by decide +kernel
theorem dX3_allow_23 : decode cX3_allow 23 = .ok (.imul, 1) := by decide +kernel
theorem dX3_allow_24 : decode cX3_allow 24 = .ok (.iload_n 2, 1) := by decide +kernel
theorem dX3_allow_25 : decode cX3_allow 25 = .ok (.iadd, 1) := by decide +kernel
theorem dX3_allow_26 : decode cX3_allow 26 = .ok (.lload_n 3, 1) := by decide +kernel
theorem dX3_allow_27 : decode cX3_allow 27 = .ok (.lastore, 1) := by decide +kernel
theorem dX3_allow_28 : decode cX3_allow 28 = .ok (.return_, 1) := by decide +kernel
theorem dX3_squareOf_0 : decode cX3_squareOf 0 = .ok (.aload_n 0, 1) := by decide +kernel
theorem dX3_squareOf_1 : decode cX3_squareOf 1 = .ok (.iload_n 1, 1) := by decide +kernel
theorem dX3_squareOf_2 : decode cX3_squareOf 2 = .ok (.invokevirtual 61, 3) := by decide +kernel
theorem dX3_squareOf_5 : decode cX3_squareOf 5 = .ok (.ifCond .eq 25, 3) := by decide +kernel
theorem dX3_squareOf_8 : decode cX3_squareOf 8 = .ok (.aload_n 0, 1) := by decide +kernel
theorem dX3_squareOf_9 : decode cX3_squareOf 9 = .ok (.iload_n 2, 1) := by decide +kernel
theorem dX3_squareOf_10 : decode cX3_squareOf 10 = .ok (.invokevirtual 61, 3) := by decide +kernel
theorem dX3_squareOf_13 : decode cX3_squareOf 13 = .ok (.ifCond .eq 17, 3) := by decide +kernel
theorem dX3_squareOf_16 : decode cX3_squareOf 16 = .ok (.aload_n 0, 1) := by decide +kernel
theorem dX3_squareOf_17 : decode cX3_squareOf 17 = .ok (.getfield 13, 3) := by decide +kernel
theorem dX3_squareOf_20 : decode cX3_squareOf 20 = .ok (.iload_n 1, 1) := by decide +kernel
theorem dX3_squareOf_21 : decode cX3_squareOf 21 = .ok (.bipush 16, 2) := by decide +kernel
theorem dX3_squareOf_23 : decode cX3_squareOf 23 = .ok (.imul, 1) := by decide +kernel
theorem dX3_squareOf_24 : decode cX3_squareOf 24 = .ok (.iload_n 2, 1) := by decide +kernel
theorem dX3_squareOf_25 : decode cX3_squareOf 25 = .ok (.iadd, 1) := by decide +kernel
theorem dX3_squareOf_26 : decode cX3_squareOf 26 = .ok (.laload, 1) := by decide +kernel
theorem dX3_squareOf_27 : decode cX3_squareOf 27 = .ok (.goto 4, 3) := by decide +kernel
theorem dX3_squareOf_30 : decode cX3_squareOf 30 = .ok (.lconst 0, 1) := by decide +kernel
theorem dX3_squareOf_31 : decode cX3_squareOf 31 = .ok (.lreturn, 1) := by decide +kernel
theorem dX3_followedBy_0 : decode cX3_followedBy 0 = .ok (.aload_n 0, 1) := by decide +kernel
theorem dX3_followedBy_1 : decode cX3_followedBy 1 = .ok (.iload_n 1, 1) := by decide +kernel
theorem dX3_followedBy_2 : decode cX3_followedBy 2 = .ok (.invokevirtual 61, 3) := by decide +kernel
theorem dX3_followedBy_5 : decode cX3_followedBy 5 = .ok (.ifCond .eq 25, 3) := by decide +kernel
theorem dX3_followedBy_8 : decode cX3_followedBy 8 = .ok (.aload_n 0, 1) := by decide +kernel
theorem dX3_followedBy_9 : decode cX3_followedBy 9 = .ok (.aload_n 0, 1) := by decide +kernel
theorem dX3_followedBy_10 : decode cX3_followedBy 10 = .ok (.getfield 26, 3) := by decide +kernel
theorem dX3_followedBy_13 : decode cX3_followedBy 13 = .ok (.iload_n 1, 1) := by decide +kernel
theorem dX3_followedBy_14 : decode cX3_followedBy 14 = .ok (.iaload, 1) := by decide +kernel
theorem dX3_followedBy_15 : decode cX3_followedBy 15 = .ok (.invokevirtual 61, 3) := by decide +kernel
theorem dX3_followedBy_18 : decode cX3_followedBy 18 = .ok (.ifCond .eq 12, 3) := by decide +kernel
theorem dX3_followedBy_21 : decode cX3_followedBy 21 = .ok (.aload_n 0, 1) := by decide +kernel
theorem dX3_followedBy_22 : decode cX3_followedBy 22 = .ok (.getfield 26, 3) := by decide +kernel
theorem dX3_followedBy_25 : decode cX3_followedBy 25 = .ok (.iload_n 1, 1) := by decide +kernel
theorem dX3_followedBy_26 : decode cX3_followedBy 26 = .ok (.iaload, 1) := by decide +kernel
theorem dX3_followedBy_27 : decode cX3_followedBy 27 = .ok (.goto 4, 3) := by decide +kernel
theorem dX3_followedBy_30 : decode cX3_followedBy 30 = .ok (.iconst (-1), 1) := by decide +kernel
theorem dX3_followedBy_31 : decode cX3_followedBy 31 = .ok (.ireturn, 1) := by decide +kernel
theorem dX3_solve_0 : decode cX3_solve 0 = .ok (.iconst 0, 1) := by decide +kernel
theorem dX3_solve_1 : decode cX3_solve 1 = .ok (.istore_n 1, 1) := by decide +kernel
theorem dX3_solve_2 : decode cX3_solve 2 = .ok (.iload_n 1, 1) := by decide +kernel
theorem dX3_solve_3 : decode cX3_solve 3 = .ok (.aload_n 0, 1) := by decide +kernel
theorem dX3_solve_4 : decode cX3_solve 4 = .ok (.getfield 43, 3) := by decide +kernel
theorem dX3_solve_7 : decode cX3_solve 7 = .ok (.if_icmp .ge 14, 3) := by decide +kernel
theorem dX3_solve_10 : decode cX3_solve 10 = .ok (.aload_n 0, 1) := by decide +kernel
theorem dX3_solve_11 : decode cX3_solve 11 = .ok (.iload_n 1, 1) := by decide +kernel
theorem dX3_solve_12 : decode cX3_solve 12 = .ok (.invokevirtual 65, 3) := by decide +kernel
theorem dX3_solve_15 : decode cX3_solve 15 = .ok (.iinc 1 1, 3) := by decide +kernel
theorem dX3_solve_18 : decode cX3_solve 18 = .ok (.goto (-16), 3) := by decide +kernel
theorem dX3_solve_21 : decode cX3_solve 21 = .ok (.aload_n 0, 1) := by decide +kernel
theorem dX3_solve_22 : decode cX3_solve 22 = .ok (.invokevirtual 69, 3) := by decide +kernel
theorem dX3_solve_25 : decode cX3_solve 25 = .ok (.iconst 0, 1) := by decide +kernel
theorem dX3_solve_26 : decode cX3_solve 26 = .ok (.istore_n 1, 1) := by decide +kernel
theorem dX3_solve_27 : decode cX3_solve 27 = .ok (.iload_n 1, 1) := by decide +kernel
theorem dX3_solve_28 : decode cX3_solve 28 = .ok (.aload_n 0, 1) := by decide +kernel
theorem dX3_solve_29 : decode cX3_solve 29 = .ok (.getfield 43, 3) := by decide +kernel
theorem dX3_solve_32 : decode cX3_solve 32 = .ok (.if_icmp .ge 14, 3) := by decide +kernel
theorem dX3_solve_35 : decode cX3_solve 35 = .ok (.aload_n 0, 1) := by decide +kernel
theorem dX3_solve_36 : decode cX3_solve 36 = .ok (.iload_n 1, 1) := by decide +kernel
theorem dX3_solve_37 : decode cX3_solve 37 = .ok (.invokevirtual 72, 3) := by decide +kernel
theorem dX3_solve_40 : decode cX3_solve 40 = .ok (.iinc 1 1, 3) := by decide +kernel
theorem dX3_solve_43 : decode cX3_solve 43 = .ok (.goto (-16), 3) := by decide +kernel
theorem dX3_solve_46 : decode cX3_solve 46 = .ok (.return_, 1) := by decide +kernel
theorem dX3_isPosition_0 : decode cX3_isPosition 0 = .ok (.iload_n 1, 1) := by decide +kernel
theorem dX3_isPosition_1 : decode cX3_isPosition 1 = .ok (.ifCond .lt 15, 3) := by decide +kernel
theorem dX3_isPosition_4 : decode cX3_isPosition 4 = .ok (.iload_n 1, 1) := by decide +kernel
theorem dX3_isPosition_5 : decode cX3_isPosition 5 = .ok (.aload_n 0, 1) := by decide +kernel
theorem dX3_isPosition_6 : decode cX3_isPosition 6 = .ok (.getfield 43, 3) := by decide +kernel
theorem dX3_isPosition_9 : decode cX3_isPosition 9 = .ok (.if_icmp .ge 7, 3) := by decide +kernel
theorem dX3_isPosition_12 : decode cX3_isPosition 12 = .ok (.iconst 1, 1) := by decide +kernel
theorem dX3_isPosition_13 : decode cX3_isPosition 13 = .ok (.goto 4, 3) := by decide +kernel
theorem dX3_isPosition_16 : decode cX3_isPosition 16 = .ok (.iconst 0, 1) := by decide +kernel
theorem dX3_isPosition_17 : decode cX3_isPosition 17 = .ok (.ireturn, 1) := by decide +kernel
theorem dX3_isColumn_0 : decode cX3_isColumn 0 = .ok (.iload_n 1, 1) := by decide +kernel
theorem dX3_isColumn_1 : decode cX3_isColumn 1 = .ok (.ifCond .lt 15, 3) := by decide +kernel
theorem dX3_isColumn_4 : decode cX3_isColumn 4 = .ok (.iload_n 1, 1) := by decide +kernel
theorem dX3_isColumn_5 : decode cX3_isColumn 5 = .ok (.aload_n 0, 1) := by decide +kernel
theorem dX3_isColumn_6 : decode cX3_isColumn 6 = .ok (.getfield 47, 3) := by decide +kernel
theorem dX3_isColumn_9 : decode cX3_isColumn 9 = .ok (.if_icmp .ge 7, 3) := by decide +kernel
theorem dX3_isColumn_12 : decode cX3_isColumn 12 = .ok (.iconst 1, 1) := by decide +kernel
theorem dX3_isColumn_13 : decode cX3_isColumn 13 = .ok (.goto 4, 3) := by decide +kernel
theorem dX3_isColumn_16 : decode cX3_isColumn 16 = .ok (.iconst 0, 1) := by decide +kernel
theorem dX3_isColumn_17 : decode cX3_isColumn 17 = .ok (.ireturn, 1) := by decide +kernel
theorem dX3_price_0 : decode cX3_price 0 = .ok (.iload_n 1, 1) := by decide +kernel
theorem dX3_price_1 : decode cX3_price 1 = .ok (.aload_n 0, 1) := by decide +kernel
theorem dX3_price_2 : decode cX3_price 2 = .ok (.getfield 43, 3) := by decide +kernel
theorem dX3_price_5 : decode cX3_price 5 = .ok (.if_icmp .lt 5, 3) := by decide +kernel
theorem dX3_price_8 : decode cX3_price 8 = .ok (.lconst 0, 1) := by decide +kernel
theorem dX3_price_9 : decode cX3_price 9 = .ok (.lreturn, 1) := by decide +kernel
theorem dX3_price_10 : decode cX3_price 10 = .ok (.iload_n 2, 1) := by decide +kernel
theorem dX3_price_11 : decode cX3_price 11 = .ok (.aload_n 0, 1) := by decide +kernel
theorem dX3_price_12 : decode cX3_price 12 = .ok (.getfield 43, 3) := by decide +kernel
theorem dX3_price_15 : decode cX3_price 15 = .ok (.if_icmp .ge 17, 3) := by decide +kernel
theorem dX3_price_18 : decode cX3_price 18 = .ok (.aload_n 0, 1) := by decide +kernel
theorem dX3_price_19 : decode cX3_price 19 = .ok (.getfield 13, 3) := by decide +kernel
theorem dX3_price_22 : decode cX3_price 22 = .ok (.iload_n 1, 1) := by decide +kernel
theorem dX3_price_23 : decode cX3_price 23 = .ok (.bipush 16, 2) := by decide +kernel
theorem dX3_price_25 : decode cX3_price 25 = .ok (.imul, 1) := by decide +kernel
theorem dX3_price_26 : decode cX3_price 26 = .ok (.iload_n 2, 1) := by decide +kernel
theorem dX3_price_27 : decode cX3_price 27 = .ok (.iadd, 1) := by decide +kernel
theorem dX3_price_28 : decode cX3_price 28 = .ok (.laload, 1) := by decide +kernel
theorem dX3_price_29 : decode cX3_price 29 = .ok (.goto 6, 3) := by decide +kernel
theorem dX3_price_32 : decode cX3_price 32 = .ok (.ldc2_w 75, 3) := by decide +kernel
theorem dX3_price_35 : decode cX3_price 35 = .ok (.lreturn, 1) := by decide +kernel
theorem dX3_isTight_0 : decode cX3_isTight 0 = .ok (.aload_n 0, 1) := by decide +kernel
theorem dX3_isTight_1 : decode cX3_isTight 1 = .ok (.iload_n 1, 1) := by decide +kernel
theorem dX3_isTight_2 : decode cX3_isTight 2 = .ok (.iload_n 2, 1) := by decide +kernel
theorem dX3_isTight_3 : decode cX3_isTight 3 = .ok (.invokevirtual 77, 3) := by decide +kernel
theorem dX3_isTight_6 : decode cX3_isTight 6 = .ok (.lstore_n 3, 1) := by decide +kernel
theorem dX3_isTight_7 : decode cX3_isTight 7 = .ok (.lload_n 3, 1) := by decide +kernel
theorem dX3_isTight_8 : decode cX3_isTight 8 = .ok (.ldc2_w 59, 3) := by decide +kernel
theorem dX3_isTight_11 : decode cX3_isTight 11 = .ok (.lcmp, 1) := by decide +kernel
theorem dX3_isTight_12 : decode cX3_isTight 12 = .ok (.ifCond .ge 25, 3) := by decide +kernel
theorem dX3_isTight_15 : decode cX3_isTight 15 = .ok (.lload_n 3, 1) := by decide +kernel
theorem dX3_isTight_16 : decode cX3_isTight 16 = .ok (.aload_n 0, 1) := by decide +kernel
theorem dX3_isTight_17 : decode cX3_isTight 17 = .ok (.getfield 17, 3) := by decide +kernel
theorem dX3_isTight_20 : decode cX3_isTight 20 = .ok (.iload_n 1, 1) := by decide +kernel
theorem dX3_isTight_21 : decode cX3_isTight 21 = .ok (.laload, 1) := by decide +kernel
theorem dX3_isTight_22 : decode cX3_isTight 22 = .ok (.aload_n 0, 1) := by decide +kernel
theorem dX3_isTight_23 : decode cX3_isTight 23 = .ok (.getfield 20, 3) := by decide +kernel
theorem dX3_isTight_26 : decode cX3_isTight 26 = .ok (.iload_n 2, 1) := by decide +kernel
theorem dX3_isTight_27 : decode cX3_isTight 27 = .ok (.laload, 1) := by decide +kernel
theorem dX3_isTight_28 : decode cX3_isTight 28 = .ok (.ladd, 1) := by decide +kernel
theorem dX3_isTight_29 : decode cX3_isTight 29 = .ok (.lcmp, 1) := by decide +kernel
theorem dX3_isTight_30 : decode cX3_isTight 30 = .ok (.ifCond .ne 7, 3) := by decide +kernel
theorem dX3_isTight_33 : decode cX3_isTight 33 = .ok (.iconst 1, 1) := by decide +kernel
theorem dX3_isTight_34 : decode cX3_isTight 34 = .ok (.goto 4, 3) := by decide +kernel
theorem dX3_isTight_37 : decode cX3_isTight 37 = .ok (.iconst 0, 1) := by decide +kernel
theorem dX3_isTight_38 : decode cX3_isTight 38 = .ok (.ireturn, 1) := by decide +kernel
theorem dX3_admit_0 : decode cX3_admit 0 = .ok (.iconst 0, 1) := by decide +kernel
theorem dX3_admit_1 : decode cX3_admit 1 = .ok (.istore_n 2, 1) := by decide +kernel
theorem dX3_admit_2 : decode cX3_admit 2 = .ok (.iload_n 2, 1) := by decide +kernel
theorem dX3_admit_3 : decode cX3_admit 3 = .ok (.aload_n 0, 1) := by decide +kernel
theorem dX3_admit_4 : decode cX3_admit 4 = .ok (.getfield 47, 3) := by decide +kernel
theorem dX3_admit_7 : decode cX3_admit 7 = .ok (.if_icmp .ge 32, 3) := by decide +kernel
theorem dX3_admit_10 : decode cX3_admit 10 = .ok (.aload_n 0, 1) := by decide +kernel
theorem dX3_admit_11 : decode cX3_admit 11 = .ok (.getfield 23, 3) := by decide +kernel
theorem dX3_admit_14 : decode cX3_admit 14 = .ok (.iload_n 2, 1) := by decide +kernel
theorem dX3_admit_15 : decode cX3_admit 15 = .ok (.ldc2_w 81, 3) := by decide +kernel
theorem dX3_admit_18 : decode cX3_admit 18 = .ok (.lastore, 1) := by decide +kernel
theorem dX3_admit_19 : decode cX3_admit 19 = .ok (.aload_n 0, 1) := by decide +kernel
theorem dX3_admit_20 : decode cX3_admit 20 = .ok (.getfield 33, 3) := by decide +kernel
theorem dX3_admit_23 : decode cX3_admit 23 = .ok (.iload_n 2, 1) := by decide +kernel
theorem dX3_admit_24 : decode cX3_admit 24 = .ok (.iconst (-1), 1) := by decide +kernel
theorem dX3_admit_25 : decode cX3_admit 25 = .ok (.iastore, 1) := by decide +kernel
theorem dX3_admit_26 : decode cX3_admit 26 = .ok (.aload_n 0, 1) := by decide +kernel
theorem dX3_admit_27 : decode cX3_admit 27 = .ok (.getfield 39, 3) := by decide +kernel
theorem dX3_admit_30 : decode cX3_admit 30 = .ok (.iload_n 2, 1) := by decide +kernel
theorem dX3_admit_31 : decode cX3_admit 31 = .ok (.iconst 0, 1) := by decide +kernel
theorem dX3_admit_32 : decode cX3_admit 32 = .ok (.bastore, 1) := by decide +kernel
theorem dX3_admit_33 : decode cX3_admit 33 = .ok (.iinc 2 1, 3) := by decide +kernel
theorem dX3_admit_36 : decode cX3_admit 36 = .ok (.goto (-34), 3) := by decide +kernel
theorem dX3_admit_39 : decode cX3_admit 39 = .ok (.iload_n 1, 1) := by decide +kernel
theorem dX3_admit_40 : decode cX3_admit 40 = .ok (.istore_n 2, 1) := by decide +kernel
theorem dX3_admit_41 : decode cX3_admit 41 = .ok (.iconst (-1), 1) := by decide +kernel
theorem dX3_admit_42 : decode cX3_admit 42 = .ok (.istore_n 3, 1) := by decide +kernel
theorem dX3_admit_43 : decode cX3_admit 43 = .ok (.iconst 0, 1) := by decide +kernel
theorem dX3_admit_44 : decode cX3_admit 44 = .ok (.istore 4, 2) := by decide +kernel
theorem dX3_admit_46 : decode cX3_admit 46 = .ok (.iload 4, 2) := by decide +kernel
theorem dX3_admit_48 : decode cX3_admit 48 = .ok (.aload_n 0, 1) := by decide +kernel
theorem dX3_admit_49 : decode cX3_admit 49 = .ok (.getfield 47, 3) := by decide +kernel
theorem dX3_admit_52 : decode cX3_admit 52 = .ok (.if_icmp .ge 74, 3) := by decide +kernel
theorem dX3_admit_55 : decode cX3_admit 55 = .ok (.aload_n 0, 1) := by decide +kernel
theorem dX3_admit_56 : decode cX3_admit 56 = .ok (.iload_n 2, 1) := by decide +kernel
theorem dX3_admit_57 : decode cX3_admit 57 = .ok (.iload_n 3, 1) := by decide +kernel
theorem dX3_admit_58 : decode cX3_admit 58 = .ok (.invokevirtual 83, 3) := by decide +kernel
theorem dX3_admit_61 : decode cX3_admit 61 = .ok (.istore 5, 2) := by decide +kernel
theorem dX3_admit_63 : decode cX3_admit 63 = .ok (.aload_n 0, 1) := by decide +kernel
theorem dX3_admit_64 : decode cX3_admit 64 = .ok (.iload 5, 2) := by decide +kernel
theorem dX3_admit_66 : decode cX3_admit 66 = .ok (.invokevirtual 86, 3) := by decide +kernel
theorem dX3_admit_69 : decode cX3_admit 69 = .ok (.ifCond .ne 4, 3) := by decide +kernel
theorem dX3_admit_72 : decode cX3_admit 72 = .ok (.return_, 1) := by decide +kernel
theorem dX3_admit_73 : decode cX3_admit 73 = .ok (.aload_n 0, 1) := by decide +kernel
theorem dX3_admit_74 : decode cX3_admit 74 = .ok (.iload_n 1, 1) := by decide +kernel
theorem dX3_admit_75 : decode cX3_admit 75 = .ok (.aload_n 0, 1) := by decide +kernel
theorem dX3_admit_76 : decode cX3_admit 76 = .ok (.getfield 23, 3) := by decide +kernel
theorem dX3_admit_79 : decode cX3_admit 79 = .ok (.iload 5, 2) := by decide +kernel
theorem dX3_admit_81 : decode cX3_admit 81 = .ok (.laload, 1) := by decide +kernel
theorem dX3_admit_82 : decode cX3_admit 82 = .ok (.invokevirtual 89, 3) := by decide +kernel
theorem dX3_admit_85 : decode cX3_admit 85 = .ok (.aload_n 0, 1) := by decide +kernel
theorem dX3_admit_86 : decode cX3_admit 86 = .ok (.getfield 39, 3) := by decide +kernel
theorem dX3_admit_89 : decode cX3_admit 89 = .ok (.iload 5, 2) := by decide +kernel
theorem dX3_admit_91 : decode cX3_admit 91 = .ok (.iconst 1, 1) := by decide +kernel
theorem dX3_admit_92 : decode cX3_admit 92 = .ok (.bastore, 1) := by decide +kernel
theorem dX3_admit_93 : decode cX3_admit 93 = .ok (.aload_n 0, 1) := by decide +kernel
theorem dX3_admit_94 : decode cX3_admit 94 = .ok (.getfield 30, 3) := by decide +kernel
theorem dX3_admit_97 : decode cX3_admit 97 = .ok (.iload 5, 2) := by decide +kernel
theorem dX3_admit_99 : decode cX3_admit 99 = .ok (.iaload, 1) := by decide +kernel
theorem dX3_admit_100 : decode cX3_admit 100 = .ok (.istore_n 2, 1) := by decide +kernel
theorem dX3_admit_101 : decode cX3_admit 101 = .ok (.iload 5, 2) := by decide +kernel
theorem dX3_admit_103 : decode cX3_admit 103 = .ok (.istore_n 3, 1) := by decide +kernel
theorem dX3_admit_104 : decode cX3_admit 104 = .ok (.aload_n 0, 1) := by decide +kernel
theorem dX3_admit_105 : decode cX3_admit 105 = .ok (.iload_n 2, 1) := by decide +kernel
theorem dX3_admit_106 : decode cX3_admit 106 = .ok (.invokevirtual 61, 3) := by decide +kernel
theorem dX3_admit_109 : decode cX3_admit 109 = .ok (.ifCond .ne 11, 3) := by decide +kernel
theorem dX3_admit_112 : decode cX3_admit 112 = .ok (.aload_n 0, 1) := by decide +kernel
theorem dX3_admit_113 : decode cX3_admit 113 = .ok (.iload_n 1, 1) := by decide +kernel
theorem dX3_admit_114 : decode cX3_admit 114 = .ok (.iload 5, 2) := by decide +kernel
theorem dX3_admit_116 : decode cX3_admit 116 = .ok (.invokevirtual 93, 3) := by decide +kernel
theorem dX3_admit_119 : decode cX3_admit 119 = .ok (.return_, 1) := by decide +kernel
theorem dX3_admit_120 : decode cX3_admit 120 = .ok (.iinc 4 1, 3) := by decide +kernel
theorem dX3_admit_123 : decode cX3_admit 123 = .ok (.goto (-77), 3) := by decide +kernel
theorem dX3_admit_126 : decode cX3_admit 126 = .ok (.return_, 1) := by decide +kernel
theorem dX3_lookFrom_0 : decode cX3_lookFrom 0 = .ok (.iconst (-1), 1) := by decide +kernel
theorem dX3_lookFrom_1 : decode cX3_lookFrom 1 = .ok (.istore_n 3, 1) := by decide +kernel
theorem dX3_lookFrom_2 : decode cX3_lookFrom 2 = .ok (.iconst 0, 1) := by decide +kernel
theorem dX3_lookFrom_3 : decode cX3_lookFrom 3 = .ok (.istore 4, 2) := by decide +kernel
theorem dX3_lookFrom_5 : decode cX3_lookFrom 5 = .ok (.iload 4, 2) := by decide +kernel
theorem dX3_lookFrom_7 : decode cX3_lookFrom 7 = .ok (.aload_n 0, 1) := by decide +kernel
theorem dX3_lookFrom_8 : decode cX3_lookFrom 8 = .ok (.getfield 47, 3) := by decide +kernel
theorem dX3_lookFrom_11 : decode cX3_lookFrom 11 = .ok (.if_icmp .ge 101, 3) := by decide +kernel
theorem dX3_lookFrom_14 : decode cX3_lookFrom 14 = .ok (.aload_n 0, 1) := by decide +kernel
theorem dX3_lookFrom_15 : decode cX3_lookFrom 15 = .ok (.getfield 39, 3) := by decide +kernel
theorem dX3_lookFrom_18 : decode cX3_lookFrom 18 = .ok (.iload 4, 2) := by decide +kernel
theorem dX3_lookFrom_20 : decode cX3_lookFrom 20 = .ok (.baload, 1) := by decide +kernel
theorem dX3_lookFrom_21 : decode cX3_lookFrom 21 = .ok (.ifCond .eq 6, 3) := by decide +kernel
theorem dX3_lookFrom_24 : decode cX3_lookFrom 24 = .ok (.goto 82, 3) := by decide +kernel
theorem dX3_lookFrom_27 : decode cX3_lookFrom 27 = .ok (.aload_n 0, 1) := by decide +kernel
theorem dX3_lookFrom_28 : decode cX3_lookFrom 28 = .ok (.iload_n 1, 1) := by decide +kernel
theorem dX3_lookFrom_29 : decode cX3_lookFrom 29 = .ok (.iload 4, 2) := by decide +kernel
theorem dX3_lookFrom_31 : decode cX3_lookFrom 31 = .ok (.invokevirtual 77, 3) := by decide +kernel
theorem dX3_lookFrom_34 : decode cX3_lookFrom 34 = .ok (.aload_n 0, 1) := by decide +kernel
theorem dX3_lookFrom_35 : decode cX3_lookFrom 35 = .ok (.getfield 17, 3) := by decide +kernel
theorem dX3_lookFrom_38 : decode cX3_lookFrom 38 = .ok (.iload_n 1, 1) := by decide +kernel
theorem dX3_lookFrom_39 : decode cX3_lookFrom 39 = .ok (.laload, 1) := by decide +kernel
theorem dX3_lookFrom_40 : decode cX3_lookFrom 40 = .ok (.lsub, 1) := by decide +kernel
theorem dX3_lookFrom_41 : decode cX3_lookFrom 41 = .ok (.aload_n 0, 1) := by decide +kernel
theorem dX3_lookFrom_42 : decode cX3_lookFrom 42 = .ok (.getfield 20, 3) := by decide +kernel
theorem dX3_lookFrom_45 : decode cX3_lookFrom 45 = .ok (.iload 4, 2) := by decide +kernel
theorem dX3_lookFrom_47 : decode cX3_lookFrom 47 = .ok (.laload, 1) := by decide +kernel
theorem dX3_lookFrom_48 : decode cX3_lookFrom 48 = .ok (.lsub, 1) := by decide +kernel
theorem dX3_lookFrom_49 : decode cX3_lookFrom 49 = .ok (.lstore 5, 2) := by decide +kernel
theorem dX3_lookFrom_51 : decode cX3_lookFrom 51 = .ok (.lload 5, 2) := by decide +kernel
theorem dX3_lookFrom_53 : decode cX3_lookFrom 53 = .ok (.aload_n 0, 1) := by decide +kernel
theorem dX3_lookFrom_54 : decode cX3_lookFrom 54 = .ok (.getfield 23, 3) := by decide +kernel
theorem dX3_lookFrom_57 : decode cX3_lookFrom 57 = .ok (.iload 4, 2) := by decide +kernel
theorem dX3_lookFrom_59 : decode cX3_lookFrom 59 = .ok (.laload, 1) := by decide +kernel
theorem dX3_lookFrom_60 : decode cX3_lookFrom 60 = .ok (.lcmp, 1) := by decide +kernel
theorem dX3_lookFrom_61 : decode cX3_lookFrom 61 = .ok (.ifCond .ge 20, 3) := by decide +kernel
theorem dX3_lookFrom_64 : decode cX3_lookFrom 64 = .ok (.aload_n 0, 1) := by decide +kernel
theorem dX3_lookFrom_65 : decode cX3_lookFrom 65 = .ok (.getfield 23, 3) := by decide +kernel
theorem dX3_lookFrom_68 : decode cX3_lookFrom 68 = .ok (.iload 4, 2) := by decide +kernel
theorem dX3_lookFrom_70 : decode cX3_lookFrom 70 = .ok (.lload 5, 2) := by decide +kernel
theorem dX3_lookFrom_72 : decode cX3_lookFrom 72 = .ok (.lastore, 1) := by decide +kernel
theorem dX3_lookFrom_73 : decode cX3_lookFrom 73 = .ok (.aload_n 0, 1) := by decide +kernel
theorem dX3_lookFrom_74 : decode cX3_lookFrom 74 = .ok (.getfield 33, 3) := by decide +kernel
theorem dX3_lookFrom_77 : decode cX3_lookFrom 77 = .ok (.iload 4, 2) := by decide +kernel
theorem dX3_lookFrom_79 : decode cX3_lookFrom 79 = .ok (.iload_n 2, 1) := by decide +kernel
theorem dX3_lookFrom_80 : decode cX3_lookFrom 80 = .ok (.iastore, 1) := by decide +kernel
theorem dX3_lookFrom_81 : decode cX3_lookFrom 81 = .ok (.iload_n 3, 1) := by decide +kernel
theorem dX3_lookFrom_82 : decode cX3_lookFrom 82 = .ok (.iconst (-1), 1) := by decide +kernel
theorem dX3_lookFrom_83 : decode cX3_lookFrom 83 = .ok (.if_icmp .eq 20, 3) := by decide +kernel
theorem dX3_lookFrom_86 : decode cX3_lookFrom 86 = .ok (.aload_n 0, 1) := by decide +kernel
theorem dX3_lookFrom_87 : decode cX3_lookFrom 87 = .ok (.getfield 23, 3) := by decide +kernel
theorem dX3_lookFrom_90 : decode cX3_lookFrom 90 = .ok (.iload 4, 2) := by decide +kernel
theorem dX3_lookFrom_92 : decode cX3_lookFrom 92 = .ok (.laload, 1) := by decide +kernel
theorem dX3_lookFrom_93 : decode cX3_lookFrom 93 = .ok (.aload_n 0, 1) := by decide +kernel
theorem dX3_lookFrom_94 : decode cX3_lookFrom 94 = .ok (.getfield 23, 3) := by decide +kernel
theorem dX3_lookFrom_97 : decode cX3_lookFrom 97 = .ok (.iload_n 3, 1) := by decide +kernel
theorem dX3_lookFrom_98 : decode cX3_lookFrom 98 = .ok (.laload, 1) := by decide +kernel
theorem dX3_lookFrom_99 : decode cX3_lookFrom 99 = .ok (.lcmp, 1) := by decide +kernel
theorem dX3_lookFrom_100 : decode cX3_lookFrom 100 = .ok (.ifCond .ge 6, 3) := by decide +kernel
theorem dX3_lookFrom_103 : decode cX3_lookFrom 103 = .ok (.iload 4, 2) := by decide +kernel
theorem dX3_lookFrom_105 : decode cX3_lookFrom 105 = .ok (.istore_n 3, 1) := by decide +kernel
theorem dX3_lookFrom_106 : decode cX3_lookFrom 106 = .ok (.iinc 4 1, 3) := by decide +kernel
theorem dX3_lookFrom_109 : decode cX3_lookFrom 109 = .ok (.goto (-104), 3) := by decide +kernel
theorem dX3_lookFrom_112 : decode cX3_lookFrom 112 = .ok (.iload_n 3, 1) := by decide +kernel
theorem dX3_lookFrom_113 : decode cX3_lookFrom 113 = .ok (.ireturn, 1) := by decide +kernel
theorem dX3_shiftDuals_0 : decode cX3_shiftDuals 0 = .ok (.aload_n 0, 1) := by decide +kernel
theorem dX3_shiftDuals_1 : decode cX3_shiftDuals 1 = .ok (.getfield 17, 3) := by decide +kernel
theorem dX3_shiftDuals_4 : decode cX3_shiftDuals 4 = .ok (.iload_n 1, 1) := by decide +kernel
theorem dX3_shiftDuals_5 : decode cX3_shiftDuals 5 = .ok (.dup2, 1) := by decide +kernel
theorem dX3_shiftDuals_6 : decode cX3_shiftDuals 6 = .ok (.laload, 1) := by decide +kernel
theorem dX3_shiftDuals_7 : decode cX3_shiftDuals 7 = .ok (.lload_n 2, 1) := by decide +kernel
theorem dX3_shiftDuals_8 : decode cX3_shiftDuals 8 = .ok (.ladd, 1) := by decide +kernel
theorem dX3_shiftDuals_9 : decode cX3_shiftDuals 9 = .ok (.lastore, 1) := by decide +kernel
theorem dX3_shiftDuals_10 : decode cX3_shiftDuals 10 = .ok (.iconst 0, 1) := by decide +kernel
theorem dX3_shiftDuals_11 : decode cX3_shiftDuals 11 = .ok (.istore 4, 2) := by decide +kernel
theorem dX3_shiftDuals_13 : decode cX3_shiftDuals 13 = .ok (.iload 4, 2) := by decide +kernel
theorem dX3_shiftDuals_15 : decode cX3_shiftDuals 15 = .ok (.aload_n 0, 1) := by decide +kernel
theorem dX3_shiftDuals_16 : decode cX3_shiftDuals 16 = .ok (.getfield 47, 3) := by decide +kernel
theorem dX3_shiftDuals_19 : decode cX3_shiftDuals 19 = .ok (.if_icmp .ge 74, 3) := by decide +kernel
theorem dX3_shiftDuals_22 : decode cX3_shiftDuals 22 = .ok (.aload_n 0, 1) := by decide +kernel
theorem dX3_shiftDuals_23 : decode cX3_shiftDuals 23 = .ok (.getfield 39, 3) := by decide +kernel
theorem dX3_shiftDuals_26 : decode cX3_shiftDuals 26 = .ok (.iload 4, 2) := by decide +kernel
theorem dX3_shiftDuals_28 : decode cX3_shiftDuals 28 = .ok (.baload, 1) := by decide +kernel
theorem dX3_shiftDuals_29 : decode cX3_shiftDuals 29 = .ok (.ifCond .ne 17, 3) := by decide +kernel
theorem dX3_shiftDuals_32 : decode cX3_shiftDuals 32 = .ok (.aload_n 0, 1) := by decide +kernel
theorem dX3_shiftDuals_33 : decode cX3_shiftDuals 33 = .ok (.getfield 23, 3) := by decide +kernel
theorem dX3_shiftDuals_36 : decode cX3_shiftDuals 36 = .ok (.iload 4, 2) := by decide +kernel
theorem dX3_shiftDuals_38 : decode cX3_shiftDuals 38 = .ok (.dup2, 1) := by decide +kernel
theorem dX3_shiftDuals_39 : decode cX3_shiftDuals 39 = .ok (.laload, 1) := by decide +kernel
theorem dX3_shiftDuals_40 : decode cX3_shiftDuals 40 = .ok (.lload_n 2, 1) := by decide +kernel
theorem dX3_shiftDuals_41 : decode cX3_shiftDuals 41 = .ok (.lsub, 1) := by decide +kernel
theorem dX3_shiftDuals_42 : decode cX3_shiftDuals 42 = .ok (.lastore, 1) := by decide +kernel
theorem dX3_shiftDuals_43 : decode cX3_shiftDuals 43 = .ok (.goto 44, 3) := by decide +kernel
theorem dX3_shiftDuals_46 : decode cX3_shiftDuals 46 = .ok (.aload_n 0, 1) := by decide +kernel
theorem dX3_shiftDuals_47 : decode cX3_shiftDuals 47 = .ok (.aload_n 0, 1) := by decide +kernel
theorem dX3_shiftDuals_48 : decode cX3_shiftDuals 48 = .ok (.getfield 30, 3) := by decide +kernel
theorem dX3_shiftDuals_51 : decode cX3_shiftDuals 51 = .ok (.iload 4, 2) := by decide +kernel
theorem dX3_shiftDuals_53 : decode cX3_shiftDuals 53 = .ok (.iaload, 1) := by decide +kernel
theorem dX3_shiftDuals_54 : decode cX3_shiftDuals 54 = .ok (.invokevirtual 61, 3) := by decide +kernel
theorem dX3_shiftDuals_57 : decode cX3_shiftDuals 57 = .ok (.ifCond .eq 30, 3) := by decide +kernel
theorem dX3_shiftDuals_60 : decode cX3_shiftDuals 60 = .ok (.aload_n 0, 1) := by decide +kernel
theorem dX3_shiftDuals_61 : decode cX3_shiftDuals 61 = .ok (.getfield 20, 3) := by decide +kernel
theorem dX3_shiftDuals_64 : decode cX3_shiftDuals 64 = .ok (.iload 4, 2) := by decide +kernel
theorem dX3_shiftDuals_66 : decode cX3_shiftDuals 66 = .ok (.dup2, 1) := by decide +kernel
theorem dX3_shiftDuals_67 : decode cX3_shiftDuals 67 = .ok (.laload, 1) := by decide +kernel
theorem dX3_shiftDuals_68 : decode cX3_shiftDuals 68 = .ok (.lload_n 2, 1) := by decide +kernel
theorem dX3_shiftDuals_69 : decode cX3_shiftDuals 69 = .ok (.lsub, 1) := by decide +kernel
theorem dX3_shiftDuals_70 : decode cX3_shiftDuals 70 = .ok (.lastore, 1) := by decide +kernel
theorem dX3_shiftDuals_71 : decode cX3_shiftDuals 71 = .ok (.aload_n 0, 1) := by decide +kernel
theorem dX3_shiftDuals_72 : decode cX3_shiftDuals 72 = .ok (.getfield 17, 3) := by decide +kernel
theorem dX3_shiftDuals_75 : decode cX3_shiftDuals 75 = .ok (.aload_n 0, 1) := by decide +kernel
theorem dX3_shiftDuals_76 : decode cX3_shiftDuals 76 = .ok (.getfield 30, 3) := by decide +kernel
theorem dX3_shiftDuals_79 : decode cX3_shiftDuals 79 = .ok (.iload 4, 2) := by decide +kernel
theorem dX3_shiftDuals_81 : decode cX3_shiftDuals 81 = .ok (.iaload, 1) := by decide +kernel
theorem dX3_shiftDuals_82 : decode cX3_shiftDuals 82 = .ok (.dup2, 1) := by decide +kernel
theorem dX3_shiftDuals_83 : decode cX3_shiftDuals 83 = .ok (.laload, 1) := by decide +kernel
theorem dX3_shiftDuals_84 : decode cX3_shiftDuals 84 = .ok (.lload_n 2, 1) := by decide +kernel
theorem dX3_shiftDuals_85 : decode cX3_shiftDuals 85 = .ok (.ladd, 1) := by decide +kernel
theorem dX3_shiftDuals_86 : decode cX3_shiftDuals 86 = .ok (.lastore, 1) := by decide +kernel
theorem dX3_shiftDuals_87 : decode cX3_shiftDuals 87 = .ok (.iinc 4 1, 3) := by decide +kernel
theorem dX3_shiftDuals_90 : decode cX3_shiftDuals 90 = .ok (.goto (-77), 3) := by decide +kernel
theorem dX3_shiftDuals_93 : decode cX3_shiftDuals 93 = .ok (.return_, 1) := by decide +kernel
theorem dX3_moveAlong_0 : decode cX3_moveAlong 0 = .ok (.iload_n 2, 1) := by decide +kernel
theorem dX3_moveAlong_1 : decode cX3_moveAlong 1 = .ok (.istore_n 3, 1) := by decide +kernel
theorem dX3_moveAlong_2 : decode cX3_moveAlong 2 = .ok (.iconst 0, 1) := by decide +kernel
theorem dX3_moveAlong_3 : decode cX3_moveAlong 3 = .ok (.istore 4, 2) := by decide +kernel
theorem dX3_moveAlong_5 : decode cX3_moveAlong 5 = .ok (.iload 4, 2) := by decide +kernel
theorem dX3_moveAlong_7 : decode cX3_moveAlong 7 = .ok (.aload_n 0, 1) := by decide +kernel
theorem dX3_moveAlong_8 : decode cX3_moveAlong 8 = .ok (.getfield 47, 3) := by decide +kernel
theorem dX3_moveAlong_11 : decode cX3_moveAlong 11 = .ok (.if_icmp .ge 45, 3) := by decide +kernel
theorem dX3_moveAlong_14 : decode cX3_moveAlong 14 = .ok (.aload_n 0, 1) := by decide +kernel
theorem dX3_moveAlong_15 : decode cX3_moveAlong 15 = .ok (.aload_n 0, 1) := by decide +kernel
theorem dX3_moveAlong_16 : decode cX3_moveAlong 16 = .ok (.getfield 33, 3) := by decide +kernel
theorem dX3_moveAlong_19 : decode cX3_moveAlong 19 = .ok (.iload_n 3, 1) := by decide +kernel
theorem dX3_moveAlong_20 : decode cX3_moveAlong 20 = .ok (.iaload, 1) := by decide +kernel
theorem dX3_moveAlong_21 : decode cX3_moveAlong 21 = .ok (.invokevirtual 86, 3) := by decide +kernel
theorem dX3_moveAlong_24 : decode cX3_moveAlong 24 = .ok (.ifCond .eq 32, 3) := by decide +kernel
theorem dX3_moveAlong_27 : decode cX3_moveAlong 27 = .ok (.aload_n 0, 1) := by decide +kernel
theorem dX3_moveAlong_28 : decode cX3_moveAlong 28 = .ok (.aload_n 0, 1) := by decide +kernel
theorem dX3_moveAlong_29 : decode cX3_moveAlong 29 = .ok (.getfield 30, 3) := by decide +kernel
theorem dX3_moveAlong_32 : decode cX3_moveAlong 32 = .ok (.aload_n 0, 1) := by decide +kernel
theorem dX3_moveAlong_33 : decode cX3_moveAlong 33 = .ok (.getfield 33, 3) := by decide +kernel
theorem dX3_moveAlong_36 : decode cX3_moveAlong 36 = .ok (.iload_n 3, 1) := by decide +kernel
theorem dX3_moveAlong_37 : decode cX3_moveAlong 37 = .ok (.iaload, 1) := by decide +kernel
theorem dX3_moveAlong_38 : decode cX3_moveAlong 38 = .ok (.iaload, 1) := by decide +kernel
theorem dX3_moveAlong_39 : decode cX3_moveAlong 39 = .ok (.iload_n 3, 1) := by decide +kernel
theorem dX3_moveAlong_40 : decode cX3_moveAlong 40 = .ok (.invokevirtual 97, 3) := by decide +kernel
theorem dX3_moveAlong_43 : decode cX3_moveAlong 43 = .ok (.aload_n 0, 1) := by decide +kernel
theorem dX3_moveAlong_44 : decode cX3_moveAlong 44 = .ok (.getfield 33, 3) := by decide +kernel
theorem dX3_moveAlong_47 : decode cX3_moveAlong 47 = .ok (.iload_n 3, 1) := by decide +kernel
theorem dX3_moveAlong_48 : decode cX3_moveAlong 48 = .ok (.iaload, 1) := by decide +kernel
theorem dX3_moveAlong_49 : decode cX3_moveAlong 49 = .ok (.istore_n 3, 1) := by decide +kernel
theorem dX3_moveAlong_50 : decode cX3_moveAlong 50 = .ok (.iinc 4 1, 3) := by decide +kernel
theorem dX3_moveAlong_53 : decode cX3_moveAlong 53 = .ok (.goto (-48), 3) := by decide +kernel
theorem dX3_moveAlong_56 : decode cX3_moveAlong 56 = .ok (.aload_n 0, 1) := by decide +kernel
theorem dX3_moveAlong_57 : decode cX3_moveAlong 57 = .ok (.iload_n 1, 1) := by decide +kernel
theorem dX3_moveAlong_58 : decode cX3_moveAlong 58 = .ok (.iload_n 3, 1) := by decide +kernel
theorem dX3_moveAlong_59 : decode cX3_moveAlong 59 = .ok (.invokevirtual 97, 3) := by decide +kernel
theorem dX3_moveAlong_62 : decode cX3_moveAlong 62 = .ok (.return_, 1) := by decide +kernel
theorem dX3_place_0 : decode cX3_place 0 = .ok (.aload_n 0, 1) := by decide +kernel
theorem dX3_place_1 : decode cX3_place 1 = .ok (.iload_n 1, 1) := by decide +kernel
theorem dX3_place_2 : decode cX3_place 2 = .ok (.invokevirtual 86, 3) := by decide +kernel
theorem dX3_place_5 : decode cX3_place 5 = .ok (.ifCond .eq 25, 3) := by decide +kernel
theorem dX3_place_8 : decode cX3_place 8 = .ok (.aload_n 0, 1) := by decide +kernel
theorem dX3_place_9 : decode cX3_place 9 = .ok (.iload_n 2, 1) := by decide +kernel
theorem dX3_place_10 : decode cX3_place 10 = .ok (.invokevirtual 86, 3) := by decide +kernel
theorem dX3_place_13 : decode cX3_place 13 = .ok (.ifCond .eq 17, 3) := by decide +kernel
theorem dX3_place_16 : decode cX3_place 16 = .ok (.aload_n 0, 1) := by decide +kernel
theorem dX3_place_17 : decode cX3_place 17 = .ok (.getfield 30, 3) := by decide +kernel
theorem dX3_place_20 : decode cX3_place 20 = .ok (.iload_n 2, 1) := by decide +kernel
theorem dX3_place_21 : decode cX3_place 21 = .ok (.iload_n 1, 1) := by decide +kernel
theorem dX3_place_22 : decode cX3_place 22 = .ok (.iastore, 1) := by decide +kernel
theorem dX3_place_23 : decode cX3_place 23 = .ok (.aload_n 0, 1) := by decide +kernel
theorem dX3_place_24 : decode cX3_place 24 = .ok (.getfield 26, 3) := by decide +kernel
theorem dX3_place_27 : decode cX3_place 27 = .ok (.iload_n 1, 1) := by decide +kernel
theorem dX3_place_28 : decode cX3_place 28 = .ok (.iload_n 2, 1) := by decide +kernel
theorem dX3_place_29 : decode cX3_place 29 = .ok (.iastore, 1) := by decide +kernel
theorem dX3_place_30 : decode cX3_place 30 = .ok (.return_, 1) := by decide +kernel
theorem dX3_fillSpareRows_0 : decode cX3_fillSpareRows 0 = .ok (.aload_n 0, 1) := by decide +kernel
theorem dX3_fillSpareRows_1 : decode cX3_fillSpareRows 1 = .ok (.getfield 43, 3) := by decide +kernel
theorem dX3_fillSpareRows_4 : decode cX3_fillSpareRows 4 = .ok (.istore_n 1, 1) := by decide +kernel
theorem dX3_fillSpareRows_5 : decode cX3_fillSpareRows 5 = .ok (.iconst 0, 1) := by decide +kernel
theorem dX3_fillSpareRows_6 : decode cX3_fillSpareRows 6 = .ok (.istore_n 2, 1) := by decide +kernel
theorem dX3_fillSpareRows_7 : decode cX3_fillSpareRows 7 = .ok (.iload_n 2, 1) := by decide +kernel
theorem dX3_fillSpareRows_8 : decode cX3_fillSpareRows 8 = .ok (.aload_n 0, 1) := by decide +kernel
theorem dX3_fillSpareRows_9 : decode cX3_fillSpareRows 9 = .ok (.getfield 47, 3) := by decide +kernel
theorem dX3_fillSpareRows_12 : decode cX3_fillSpareRows 12 = .ok (.if_icmp .ge 28, 3) := by decide +kernel
theorem dX3_fillSpareRows_15 : decode cX3_fillSpareRows 15 = .ok (.aload_n 0, 1) := by decide +kernel
theorem dX3_fillSpareRows_16 : decode cX3_fillSpareRows 16 = .ok (.getfield 30, 3) := by decide +kernel
theorem dX3_fillSpareRows_19 : decode cX3_fillSpareRows 19 = .ok (.iload_n 2, 1) := by decide +kernel
theorem dX3_fillSpareRows_20 : decode cX3_fillSpareRows 20 = .ok (.iaload, 1) := by decide +kernel
theorem dX3_fillSpareRows_21 : decode cX3_fillSpareRows 21 = .ok (.iconst (-1), 1) := by decide +kernel
theorem dX3_fillSpareRows_22 : decode cX3_fillSpareRows 22 = .ok (.if_icmp .ne 12, 3) := by decide +kernel
theorem dX3_fillSpareRows_25 : decode cX3_fillSpareRows 25 = .ok (.aload_n 0, 1) := by decide +kernel
theorem dX3_fillSpareRows_26 : decode cX3_fillSpareRows 26 = .ok (.iload_n 1, 1) := by decide +kernel
theorem dX3_fillSpareRows_27 : decode cX3_fillSpareRows 27 = .ok (.iload_n 2, 1) := by decide +kernel
theorem dX3_fillSpareRows_28 : decode cX3_fillSpareRows 28 = .ok (.invokevirtual 97, 3) := by decide +kernel
theorem dX3_fillSpareRows_31 : decode cX3_fillSpareRows 31 = .ok (.iinc 1 1, 3) := by decide +kernel
theorem dX3_fillSpareRows_34 : decode cX3_fillSpareRows 34 = .ok (.iinc 2 1, 3) := by decide +kernel
theorem dX3_fillSpareRows_37 : decode cX3_fillSpareRows 37 = .ok (.goto (-30), 3) := by decide +kernel
theorem dX3_fillSpareRows_40 : decode cX3_fillSpareRows 40 = .ok (.return_, 1) := by decide +kernel
theorem dX3_settle_0 : decode cX3_settle 0 = .ok (.iconst 0, 1) := by decide +kernel
theorem dX3_settle_1 : decode cX3_settle 1 = .ok (.istore_n 2, 1) := by decide +kernel
theorem dX3_settle_2 : decode cX3_settle 2 = .ok (.iload_n 2, 1) := by decide +kernel
theorem dX3_settle_3 : decode cX3_settle 3 = .ok (.aload_n 0, 1) := by decide +kernel
theorem dX3_settle_4 : decode cX3_settle 4 = .ok (.getfield 43, 3) := by decide +kernel
theorem dX3_settle_7 : decode cX3_settle 7 = .ok (.if_icmp .ge 49, 3) := by decide +kernel
theorem dX3_settle_10 : decode cX3_settle 10 = .ok (.aload_n 0, 1) := by decide +kernel
theorem dX3_settle_11 : decode cX3_settle 11 = .ok (.getfield 26, 3) := by decide +kernel
theorem dX3_settle_14 : decode cX3_settle 14 = .ok (.iload_n 1, 1) := by decide +kernel
theorem dX3_settle_15 : decode cX3_settle 15 = .ok (.iaload, 1) := by decide +kernel
theorem dX3_settle_16 : decode cX3_settle 16 = .ok (.iload_n 2, 1) := by decide +kernel
theorem dX3_settle_17 : decode cX3_settle 17 = .ok (.if_icmp .ne 4, 3) := by decide +kernel
theorem dX3_settle_20 : decode cX3_settle 20 = .ok (.return_, 1) := by decide +kernel
theorem dX3_settle_21 : decode cX3_settle 21 = .ok (.aload_n 0, 1) := by decide +kernel
theorem dX3_settle_22 : decode cX3_settle 22 = .ok (.getfield 30, 3) := by decide +kernel
theorem dX3_settle_25 : decode cX3_settle 25 = .ok (.iload_n 2, 1) := by decide +kernel
theorem dX3_settle_26 : decode cX3_settle 26 = .ok (.iaload, 1) := by decide +kernel
theorem dX3_settle_27 : decode cX3_settle 27 = .ok (.iload_n 1, 1) := by decide +kernel
theorem dX3_settle_28 : decode cX3_settle 28 = .ok (.if_icmp .le 22, 3) := by decide +kernel
theorem dX3_settle_31 : decode cX3_settle 31 = .ok (.aload_n 0, 1) := by decide +kernel
theorem dX3_settle_32 : decode cX3_settle 32 = .ok (.iload_n 1, 1) := by decide +kernel
theorem dX3_settle_33 : decode cX3_settle 33 = .ok (.iload_n 2, 1) := by decide +kernel
theorem dX3_settle_34 : decode cX3_settle 34 = .ok (.invokevirtual 100, 3) := by decide +kernel
theorem dX3_settle_37 : decode cX3_settle 37 = .ok (.ifCond .eq 13, 3) := by decide +kernel
theorem dX3_settle_40 : decode cX3_settle 40 = .ok (.aload_n 0, 1) := by decide +kernel
theorem dX3_settle_41 : decode cX3_settle 41 = .ok (.iload_n 1, 1) := by decide +kernel
theorem dX3_settle_42 : decode cX3_settle 42 = .ok (.iload_n 2, 1) := by decide +kernel
theorem dX3_settle_43 : decode cX3_settle 43 = .ok (.invokevirtual 104, 3) := by decide +kernel
theorem dX3_settle_46 : decode cX3_settle 46 = .ok (.ifCond .eq 4, 3) := by decide +kernel
theorem dX3_settle_49 : decode cX3_settle 49 = .ok (.return_, 1) := by decide +kernel
theorem dX3_settle_50 : decode cX3_settle 50 = .ok (.iinc 2 1, 3) := by decide +kernel
theorem dX3_settle_53 : decode cX3_settle 53 = .ok (.goto (-51), 3) := by decide +kernel
theorem dX3_settle_56 : decode cX3_settle 56 = .ok (.return_, 1) := by decide +kernel
theorem dX3_giveColumn_0 : decode cX3_giveColumn 0 = .ok (.aload_n 0, 1) := by decide +kernel
theorem dX3_giveColumn_1 : decode cX3_giveColumn 1 = .ok (.getfield 26, 3) := by decide +kernel
theorem dX3_giveColumn_4 : decode cX3_giveColumn 4 = .ok (.iload_n 1, 1) := by decide +kernel
theorem dX3_giveColumn_5 : decode cX3_giveColumn 5 = .ok (.iaload, 1) := by decide +kernel
theorem dX3_giveColumn_6 : decode cX3_giveColumn 6 = .ok (.istore_n 3, 1) := by decide +kernel
theorem dX3_giveColumn_7 : decode cX3_giveColumn 7 = .ok (.iconst 0, 1) := by decide +kernel
theorem dX3_giveColumn_8 : decode cX3_giveColumn 8 = .ok (.istore 4, 2) := by decide +kernel
theorem dX3_giveColumn_10 : decode cX3_giveColumn 10 = .ok (.iload 4, 2) := by decide +kernel
theorem dX3_giveColumn_12 : decode cX3_giveColumn 12 = .ok (.aload_n 0, 1) := by decide +kernel
theorem dX3_giveColumn_13 : decode cX3_giveColumn 13 = .ok (.getfield 47, 3) := by decide +kernel
theorem dX3_giveColumn_16 : decode cX3_giveColumn 16 = .ok (.if_icmp .ge 25, 3) := by decide +kernel
theorem dX3_giveColumn_19 : decode cX3_giveColumn 19 = .ok (.aload_n 0, 1) := by decide +kernel
theorem dX3_giveColumn_20 : decode cX3_giveColumn 20 = .ok (.getfield 33, 3) := by decide +kernel
theorem dX3_giveColumn_23 : decode cX3_giveColumn 23 = .ok (.iload 4, 2) := by decide +kernel
theorem dX3_giveColumn_25 : decode cX3_giveColumn 25 = .ok (.iconst (-1), 1) := by decide +kernel
theorem dX3_giveColumn_26 : decode cX3_giveColumn 26 = .ok (.iastore, 1) := by decide +kernel
theorem dX3_giveColumn_27 : decode cX3_giveColumn 27 = .ok (.aload_n 0, 1) := by decide +kernel
theorem dX3_giveColumn_28 : decode cX3_giveColumn 28 = .ok (.getfield 39, 3) := by decide +kernel
theorem dX3_giveColumn_31 : decode cX3_giveColumn 31 = .ok (.iload 4, 2) := by decide +kernel
theorem dX3_giveColumn_33 : decode cX3_giveColumn 33 = .ok (.iconst 0, 1) := by decide +kernel
theorem dX3_giveColumn_34 : decode cX3_giveColumn 34 = .ok (.bastore, 1) := by decide +kernel
theorem dX3_giveColumn_35 : decode cX3_giveColumn 35 = .ok (.iinc 4 1, 3) := by decide +kernel
theorem dX3_giveColumn_38 : decode cX3_giveColumn 38 = .ok (.goto (-28), 3) := by decide +kernel
theorem dX3_giveColumn_41 : decode cX3_giveColumn 41 = .ok (.aload_n 0, 1) := by decide +kernel
theorem dX3_giveColumn_42 : decode cX3_giveColumn 42 = .ok (.getfield 39, 3) := by decide +kernel
theorem dX3_giveColumn_45 : decode cX3_giveColumn 45 = .ok (.iload_n 2, 1) := by decide +kernel
theorem dX3_giveColumn_46 : decode cX3_giveColumn 46 = .ok (.iconst 1, 1) := by decide +kernel
theorem dX3_giveColumn_47 : decode cX3_giveColumn 47 = .ok (.bastore, 1) := by decide +kernel
theorem dX3_giveColumn_48 : decode cX3_giveColumn 48 = .ok (.aload_n 0, 1) := by decide +kernel
theorem dX3_giveColumn_49 : decode cX3_giveColumn 49 = .ok (.getfield 36, 3) := by decide +kernel
theorem dX3_giveColumn_52 : decode cX3_giveColumn 52 = .ok (.iconst 0, 1) := by decide +kernel
theorem dX3_giveColumn_53 : decode cX3_giveColumn 53 = .ok (.iload_n 2, 1) := by decide +kernel
theorem dX3_giveColumn_54 : decode cX3_giveColumn 54 = .ok (.iastore, 1) := by decide +kernel
theorem dX3_giveColumn_55 : decode cX3_giveColumn 55 = .ok (.iconst 1, 1) := by decide +kernel
theorem dX3_giveColumn_56 : decode cX3_giveColumn 56 = .ok (.istore 4, 2) := by decide +kernel
theorem dX3_giveColumn_58 : decode cX3_giveColumn 58 = .ok (.iconst 0, 1) := by decide +kernel
theorem dX3_giveColumn_59 : decode cX3_giveColumn 59 = .ok (.istore 5, 2) := by decide +kernel
theorem dX3_giveColumn_61 : decode cX3_giveColumn 61 = .ok (.iload 5, 2) := by decide +kernel
theorem dX3_giveColumn_63 : decode cX3_giveColumn 63 = .ok (.iload 4, 2) := by decide +kernel
theorem dX3_giveColumn_65 : decode cX3_giveColumn 65 = .ok (.if_icmp .ge 59, 3) := by decide +kernel
theorem dX3_giveColumn_68 : decode cX3_giveColumn 68 = .ok (.iload 5, 2) := by decide +kernel
theorem dX3_giveColumn_70 : decode cX3_giveColumn 70 = .ok (.aload_n 0, 1) := by decide +kernel
theorem dX3_giveColumn_71 : decode cX3_giveColumn 71 = .ok (.getfield 47, 3) := by decide +kernel
theorem dX3_giveColumn_74 : decode cX3_giveColumn 74 = .ok (.if_icmp .ge 50, 3) := by decide +kernel
theorem dX3_giveColumn_77 : decode cX3_giveColumn 77 = .ok (.aload_n 0, 1) := by decide +kernel
theorem dX3_giveColumn_78 : decode cX3_giveColumn 78 = .ok (.iload_n 1, 1) := by decide +kernel
theorem dX3_giveColumn_79 : decode cX3_giveColumn 79 = .ok (.aload_n 0, 1) := by decide +kernel
theorem dX3_giveColumn_80 : decode cX3_giveColumn 80 = .ok (.getfield 36, 3) := by decide +kernel
theorem dX3_giveColumn_83 : decode cX3_giveColumn 83 = .ok (.iload 5, 2) := by decide +kernel
theorem dX3_giveColumn_85 : decode cX3_giveColumn 85 = .ok (.iaload, 1) := by decide +kernel
theorem dX3_giveColumn_86 : decode cX3_giveColumn 86 = .ok (.iload 4, 2) := by decide +kernel
theorem dX3_giveColumn_88 : decode cX3_giveColumn 88 = .ok (.invokevirtual 107, 3) := by decide +kernel
theorem dX3_giveColumn_91 : decode cX3_giveColumn 91 = .ok (.istore 4, 2) := by decide +kernel
theorem dX3_giveColumn_93 : decode cX3_giveColumn 93 = .ok (.aload_n 0, 1) := by decide +kernel
theorem dX3_giveColumn_94 : decode cX3_giveColumn 94 = .ok (.iload_n 3, 1) := by decide +kernel
theorem dX3_giveColumn_95 : decode cX3_giveColumn 95 = .ok (.invokevirtual 86, 3) := by decide +kernel
theorem dX3_giveColumn_98 : decode cX3_giveColumn 98 = .ok (.ifCond .eq 20, 3) := by decide +kernel
theorem dX3_giveColumn_101 : decode cX3_giveColumn 101 = .ok (.aload_n 0, 1) := by decide +kernel
theorem dX3_giveColumn_102 : decode cX3_giveColumn 102 = .ok (.getfield 39, 3) := by decide +kernel
theorem dX3_giveColumn_105 : decode cX3_giveColumn 105 = .ok (.iload_n 3, 1) := by decide +kernel
theorem dX3_giveColumn_106 : decode cX3_giveColumn 106 = .ok (.baload, 1) := by decide +kernel
theorem dX3_giveColumn_107 : decode cX3_giveColumn 107 = .ok (.ifCond .eq 11, 3) := by decide +kernel
theorem dX3_giveColumn_110 : decode cX3_giveColumn 110 = .ok (.aload_n 0, 1) := by decide +kernel
theorem dX3_giveColumn_111 : decode cX3_giveColumn 111 = .ok (.iload_n 1, 1) := by decide +kernel
theorem dX3_giveColumn_112 : decode cX3_giveColumn 112 = .ok (.iload_n 3, 1) := by decide +kernel
theorem dX3_giveColumn_113 : decode cX3_giveColumn 113 = .ok (.invokevirtual 93, 3) := by decide +kernel
theorem dX3_giveColumn_116 : decode cX3_giveColumn 116 = .ok (.iconst 1, 1) := by decide +kernel
theorem dX3_giveColumn_117 : decode cX3_giveColumn 117 = .ok (.ireturn, 1) := by decide +kernel
theorem dX3_giveColumn_118 : decode cX3_giveColumn 118 = .ok (.iinc 5 1, 3) := by decide +kernel
theorem dX3_giveColumn_121 : decode cX3_giveColumn 121 = .ok (.goto (-60), 3) := by decide +kernel
theorem dX3_giveColumn_124 : decode cX3_giveColumn 124 = .ok (.iconst 0, 1) := by decide +kernel
theorem dX3_giveColumn_125 : decode cX3_giveColumn 125 = .ok (.ireturn, 1) := by decide +kernel
theorem dX3_lookOnFrom_0 : decode cX3_lookOnFrom 0 = .ok (.iload_n 3, 1) := by decide +kernel
theorem dX3_lookOnFrom_1 : decode cX3_lookOnFrom 1 = .ok (.istore 4, 2) := by decide +kernel
theorem dX3_lookOnFrom_3 : decode cX3_lookOnFrom 3 = .ok (.aload_n 0, 1) := by decide +kernel
theorem dX3_lookOnFrom_4 : decode cX3_lookOnFrom 4 = .ok (.iload_n 2, 1) := by decide +kernel
theorem dX3_lookOnFrom_5 : decode cX3_lookOnFrom 5 = .ok (.invokevirtual 86, 3) := by decide +kernel
theorem dX3_lookOnFrom_8 : decode cX3_lookOnFrom 8 = .ok (.ifCond .eq 12, 3) := by decide +kernel
theorem dX3_lookOnFrom_11 : decode cX3_lookOnFrom 11 = .ok (.aload_n 0, 1) := by decide +kernel
theorem dX3_lookOnFrom_12 : decode cX3_lookOnFrom 12 = .ok (.getfield 30, 3) := by decide +kernel
theorem dX3_lookOnFrom_15 : decode cX3_lookOnFrom 15 = .ok (.iload_n 2, 1) := by decide +kernel
theorem dX3_lookOnFrom_16 : decode cX3_lookOnFrom 16 = .ok (.iaload, 1) := by decide +kernel
theorem dX3_lookOnFrom_17 : decode cX3_lookOnFrom 17 = .ok (.goto 4, 3) := by decide +kernel
theorem dX3_lookOnFrom_20 : decode cX3_lookOnFrom 20 = .ok (.iconst (-1), 1) := by decide +kernel
theorem dX3_lookOnFrom_21 : decode cX3_lookOnFrom 21 = .ok (.istore 5, 2) := by decide +kernel
theorem dX3_lookOnFrom_23 : decode cX3_lookOnFrom 23 = .ok (.aload_n 0, 1) := by decide +kernel
theorem dX3_lookOnFrom_24 : decode cX3_lookOnFrom 24 = .ok (.iload 5, 2) := by decide +kernel
theorem dX3_lookOnFrom_26 : decode cX3_lookOnFrom 26 = .ok (.invokevirtual 86, 3) := by decide +kernel
theorem dX3_lookOnFrom_29 : decode cX3_lookOnFrom 29 = .ok (.ifCond .ne 6, 3) := by decide +kernel
theorem dX3_lookOnFrom_32 : decode cX3_lookOnFrom 32 = .ok (.iload 4, 2) := by decide +kernel
theorem dX3_lookOnFrom_34 : decode cX3_lookOnFrom 34 = .ok (.ireturn, 1) := by decide +kernel
theorem dX3_lookOnFrom_35 : decode cX3_lookOnFrom 35 = .ok (.iconst 0, 1) := by decide +kernel
theorem dX3_lookOnFrom_36 : decode cX3_lookOnFrom 36 = .ok (.istore 6, 2) := by decide +kernel
theorem dX3_lookOnFrom_38 : decode cX3_lookOnFrom 38 = .ok (.iload 6, 2) := by decide +kernel
theorem dX3_lookOnFrom_40 : decode cX3_lookOnFrom 40 = .ok (.aload_n 0, 1) := by decide +kernel
theorem dX3_lookOnFrom_41 : decode cX3_lookOnFrom 41 = .ok (.getfield 47, 3) := by decide +kernel
theorem dX3_lookOnFrom_44 : decode cX3_lookOnFrom 44 = .ok (.if_icmp .ge 76, 3) := by decide +kernel
theorem dX3_lookOnFrom_47 : decode cX3_lookOnFrom 47 = .ok (.aload_n 0, 1) := by decide +kernel
theorem dX3_lookOnFrom_48 : decode cX3_lookOnFrom 48 = .ok (.getfield 39, 3) := by decide +kernel
theorem dX3_lookOnFrom_51 : decode cX3_lookOnFrom 51 = .ok (.iload 6, 2) := by decide +kernel
theorem dX3_lookOnFrom_53 : decode cX3_lookOnFrom 53 = .ok (.baload, 1) := by decide +kernel
theorem dX3_lookOnFrom_54 : decode cX3_lookOnFrom 54 = .ok (.ifCond .ne 60, 3) := by decide +kernel
theorem dX3_lookOnFrom_57 : decode cX3_lookOnFrom 57 = .ok (.aload_n 0, 1) := by decide +kernel
theorem dX3_lookOnFrom_58 : decode cX3_lookOnFrom 58 = .ok (.getfield 30, 3) := by decide +kernel
theorem dX3_lookOnFrom_61 : decode cX3_lookOnFrom 61 = .ok (.iload 6, 2) := by decide +kernel
theorem dX3_lookOnFrom_63 : decode cX3_lookOnFrom 63 = .ok (.iaload, 1) := by decide +kernel
theorem dX3_lookOnFrom_64 : decode cX3_lookOnFrom 64 = .ok (.iload_n 1, 1) := by decide +kernel
theorem dX3_lookOnFrom_65 : decode cX3_lookOnFrom 65 = .ok (.if_icmp .lt 49, 3) := by decide +kernel
theorem dX3_lookOnFrom_68 : decode cX3_lookOnFrom 68 = .ok (.aload_n 0, 1) := by decide +kernel
theorem dX3_lookOnFrom_69 : decode cX3_lookOnFrom 69 = .ok (.iload 5, 2) := by decide +kernel
theorem dX3_lookOnFrom_71 : decode cX3_lookOnFrom 71 = .ok (.iload 6, 2) := by decide +kernel
theorem dX3_lookOnFrom_73 : decode cX3_lookOnFrom 73 = .ok (.invokevirtual 100, 3) := by decide +kernel
theorem dX3_lookOnFrom_76 : decode cX3_lookOnFrom 76 = .ok (.ifCond .eq 38, 3) := by decide +kernel
theorem dX3_lookOnFrom_79 : decode cX3_lookOnFrom 79 = .ok (.iload 4, 2) := by decide +kernel
theorem dX3_lookOnFrom_81 : decode cX3_lookOnFrom 81 = .ok (.bipush 32, 2) := by decide +kernel
theorem dX3_lookOnFrom_83 : decode cX3_lookOnFrom 83 = .ok (.if_icmp .ge 31, 3) := by decide +kernel
theorem dX3_lookOnFrom_86 : decode cX3_lookOnFrom 86 = .ok (.aload_n 0, 1) := by decide +kernel
theorem dX3_lookOnFrom_87 : decode cX3_lookOnFrom 87 = .ok (.getfield 39, 3) := by decide +kernel
theorem dX3_lookOnFrom_90 : decode cX3_lookOnFrom 90 = .ok (.iload 6, 2) := by decide +kernel
theorem dX3_lookOnFrom_92 : decode cX3_lookOnFrom 92 = .ok (.iconst 1, 1) := by decide +kernel
theorem dX3_lookOnFrom_93 : decode cX3_lookOnFrom 93 = .ok (.bastore, 1) := by decide +kernel
theorem dX3_lookOnFrom_94 : decode cX3_lookOnFrom 94 = .ok (.aload_n 0, 1) := by decide +kernel
theorem dX3_lookOnFrom_95 : decode cX3_lookOnFrom 95 = .ok (.getfield 33, 3) := by decide +kernel
theorem dX3_lookOnFrom_98 : decode cX3_lookOnFrom 98 = .ok (.iload 6, 2) := by decide +kernel
theorem dX3_lookOnFrom_100 : decode cX3_lookOnFrom 100 = .ok (.iload_n 2, 1) := by decide +kernel
theorem dX3_lookOnFrom_101 : decode cX3_lookOnFrom 101 = .ok (.iastore, 1) := by decide +kernel
theorem dX3_lookOnFrom_102 : decode cX3_lookOnFrom 102 = .ok (.aload_n 0, 1) := by decide +kernel
theorem dX3_lookOnFrom_103 : decode cX3_lookOnFrom 103 = .ok (.getfield 36, 3) := by decide +kernel
theorem dX3_lookOnFrom_106 : decode cX3_lookOnFrom 106 = .ok (.iload 4, 2) := by decide +kernel
theorem dX3_lookOnFrom_108 : decode cX3_lookOnFrom 108 = .ok (.iload 6, 2) := by decide +kernel
theorem dX3_lookOnFrom_110 : decode cX3_lookOnFrom 110 = .ok (.iastore, 1) := by decide +kernel
theorem dX3_lookOnFrom_111 : decode cX3_lookOnFrom 111 = .ok (.iinc 4 1, 3) := by decide +kernel
theorem dX3_lookOnFrom_114 : decode cX3_lookOnFrom 114 = .ok (.iinc 6 1, 3) := by decide +kernel
theorem dX3_lookOnFrom_117 : decode cX3_lookOnFrom 117 = .ok (.goto (-79), 3) := by decide +kernel
theorem dX3_lookOnFrom_120 : decode cX3_lookOnFrom 120 = .ok (.iload 4, 2) := by decide +kernel
theorem dX3_lookOnFrom_122 : decode cX3_lookOnFrom 122 = .ok (.ireturn, 1) := by decide +kernel
theorem dX4_init_0 : decode cX4_init 0 = .ok (.aload_n 0, 1) := by decide +kernel
theorem dX4_init_1 : decode cX4_init 1 = .ok (.invokespecial 3, 3) := by decide +kernel
theorem dX4_init_4 : decode cX4_init 4 = .ok (.aload_n 0, 1) := by decide +kernel
theorem dX4_init_5 : decode cX4_init 5 = .ok (.iconst (-1), 1) := by decide +kernel
theorem dX4_init_6 : decode cX4_init 6 = .ok (.putfield 9, 3) := by decide +kernel
theorem dX4_init_9 : decode cX4_init 9 = .ok (.return_, 1) := by decide +kernel
theorem dX4_second_0 : decode cX4_second 0 = .ok (.aload_n 0, 1) := by decide +kernel
theorem dX4_second_1 : decode cX4_second 1 = .ok (.getfield 9, 3) := by decide +kernel
theorem dX4_second_4 : decode cX4_second 4 = .ok (.ireturn, 1) := by decide +kernel
theorem dX4_find_0 : decode cX4_find 0 = .ok (.aload_n 1, 1) := by decide +kernel
theorem dX4_find_1 : decode cX4_find 1 = .ok (.iload_n 2, 1) := by decide +kernel
theorem dX4_find_2 : decode cX4_find 2 = .ok (.iconst 4, 1) := by decide +kernel
theorem dX4_find_3 : decode cX4_find 3 = .ok (.bipush 6, 2) := by decide +kernel
theorem dX4_find_5 : decode cX4_find 5 = .ok (.iload 4, 2) := by decide +kernel
theorem dX4_find_7 : decode cX4_find 7 = .ok (.invokestatic 17, 3) := by decide +kernel
theorem dX4_find_10 : decode cX4_find 10 = .ok (.aload_n 1, 1) := by decide +kernel
theorem dX4_find_11 : decode cX4_find 11 = .ok (.iload_n 3, 1) := by decide +kernel
theorem dX4_find_12 : decode cX4_find 12 = .ok (.iconst 4, 1) := by decide +kernel
theorem dX4_find_13 : decode cX4_find 13 = .ok (.bipush 6, 2) := by decide +kernel
theorem dX4_find_15 : decode cX4_find 15 = .ok (.iload 4, 2) := by decide +kernel
theorem dX4_find_17 : decode cX4_find 17 = .ok (.invokestatic 17, 3) := by decide +kernel
theorem dX4_find_20 : decode cX4_find 20 = .ok (.lsub, 1) := by decide +kernel
theorem dX4_find_21 : decode cX4_find 21 = .ok (.lstore 5, 2) := by decide +kernel
theorem dX4_find_23 : decode cX4_find 23 = .ok (.aload_n 1, 1) := by decide +kernel
theorem dX4_find_24 : decode cX4_find 24 = .ok (.iload_n 2, 1) := by decide +kernel
theorem dX4_find_25 : decode cX4_find 25 = .ok (.iconst 5, 1) := by decide +kernel
theorem dX4_find_26 : decode cX4_find 26 = .ok (.bipush 7, 2) := by decide +kernel
theorem dX4_find_28 : decode cX4_find 28 = .ok (.iload 4, 2) := by decide +kernel
theorem dX4_find_30 : decode cX4_find 30 = .ok (.invokestatic 17, 3) := by decide +kernel
theorem dX4_find_33 : decode cX4_find 33 = .ok (.aload_n 1, 1) := by decide +kernel
theorem dX4_find_34 : decode cX4_find 34 = .ok (.iload_n 3, 1) := by decide +kernel
theorem dX4_find_35 : decode cX4_find 35 = .ok (.iconst 5, 1) := by decide +kernel
theorem dX4_find_36 : decode cX4_find 36 = .ok (.bipush 7, 2) := by decide +kernel
theorem dX4_find_38 : decode cX4_find 38 = .ok (.iload 4, 2) := by decide +kernel
theorem dX4_find_40 : decode cX4_find 40 = .ok (.invokestatic 17, 3) := by decide +kernel
theorem dX4_find_43 : decode cX4_find 43 = .ok (.lsub, 1) := by decide +kernel
theorem dX4_find_44 : decode cX4_find 44 = .ok (.lstore 7, 2) := by decide +kernel
theorem dX4_find_46 : decode cX4_find 46 = .ok (.aload_n 1, 1) := by decide +kernel
theorem dX4_find_47 : decode cX4_find 47 = .ok (.iload_n 2, 1) := by decide +kernel
theorem dX4_find_48 : decode cX4_find 48 = .ok (.bipush 6, 2) := by decide +kernel
theorem dX4_find_50 : decode cX4_find 50 = .ok (.invokevirtual 21, 3) := by decide +kernel
theorem dX4_find_53 : decode cX4_find 53 = .ok (.aload_n 1, 1) := by decide +kernel
theorem dX4_find_54 : decode cX4_find 54 = .ok (.iload_n 3, 1) := by decide +kernel
theorem dX4_find_55 : decode cX4_find 55 = .ok (.bipush 6, 2) := by decide +kernel
theorem dX4_find_57 : decode cX4_find 57 = .ok (.invokevirtual 21, 3) := by decide +kernel
theorem dX4_find_60 : decode cX4_find 60 = .ok (.isub, 1) := by decide +kernel
theorem dX4_find_61 : decode cX4_find 61 = .ok (.i2l, 1) := by decide +kernel
theorem dX4_find_62 : decode cX4_find 62 = .ok (.lstore 9, 2) := by decide +kernel
theorem dX4_find_64 : decode cX4_find 64 = .ok (.aload_n 1, 1) := by decide +kernel
theorem dX4_find_65 : decode cX4_find 65 = .ok (.iload_n 2, 1) := by decide +kernel
theorem dX4_find_66 : decode cX4_find 66 = .ok (.bipush 7, 2) := by decide +kernel
theorem dX4_find_68 : decode cX4_find 68 = .ok (.invokevirtual 21, 3) := by decide +kernel
theorem dX4_find_71 : decode cX4_find 71 = .ok (.aload_n 1, 1) := by decide +kernel
theorem dX4_find_72 : decode cX4_find 72 = .ok (.iload_n 3, 1) := by decide +kernel
theorem dX4_find_73 : decode cX4_find 73 = .ok (.bipush 7, 2) := by decide +kernel
theorem dX4_find_75 : decode cX4_find 75 = .ok (.invokevirtual 21, 3) := by decide +kernel
theorem dX4_find_78 : decode cX4_find 78 = .ok (.isub, 1) := by decide +kernel
theorem dX4_find_79 : decode cX4_find 79 = .ok (.i2l, 1) := by decide +kernel
theorem dX4_find_80 : decode cX4_find 80 = .ok (.lstore 11, 2) := by decide +kernel
theorem dX4_find_82 : decode cX4_find 82 = .ok (.lload 5, 2) := by decide +kernel
theorem dX4_find_84 : decode cX4_find 84 = .ok (.lload 7, 2) := by decide +kernel
theorem dX4_find_86 : decode cX4_find 86 = .ok (.lload 9, 2) := by decide +kernel
theorem dX4_find_88 : decode cX4_find 88 = .ok (.lload 11, 2) := by decide +kernel
theorem dX4_find_90 : decode cX4_find 90 = .ok (.invokestatic 25, 3) := by decide +kernel
theorem dX4_find_93 : decode cX4_find 93 = .ok (.lstore 13, 2) := by decide +kernel
theorem dX4_find_95 : decode cX4_find 95 = .ok (.lload 5, 2) := by decide +kernel
theorem dX4_find_97 : decode cX4_find 97 = .ok (.lload 9, 2) := by decide +kernel
theorem dX4_find_99 : decode cX4_find 99 = .ok (.lload 13, 2) := by decide +kernel
theorem dX4_find_101 : decode cX4_find 101 = .ok (.lmul, 1) := by decide +kernel
theorem dX4_find_102 : decode cX4_find 102 = .ok (.ladd, 1) := by decide +kernel
theorem dX4_find_103 : decode cX4_find 103 = .ok (.lload 7, 2) := by decide +kernel
theorem dX4_find_105 : decode cX4_find 105 = .ok (.lload 11, 2) := by decide +kernel
theorem dX4_find_107 : decode cX4_find 107 = .ok (.lload 13, 2) := by decide +kernel
theorem dX4_find_109 : decode cX4_find 109 = .ok (.lmul, 1) := by decide +kernel
theorem dX4_find_110 : decode cX4_find 110 = .ok (.ladd, 1) := by decide +kernel
theorem dX4_find_111 : decode cX4_find 111 = .ok (.invokestatic 29, 3) := by decide +kernel
theorem dX4_find_114 : decode cX4_find 114 = .ok (.lstore 15, 2) := by decide +kernel
theorem dX4_find_116 : decode cX4_find 116 = .ok (.lload 13, 2) := by decide +kernel
theorem dX4_find_118 : decode cX4_find 118 = .ok (.ldc2_w 33, 3) := by decide +kernel
theorem dX4_find_121 : decode cX4_find 121 = .ok (.lcmp, 1) := by decide +kernel
theorem dX4_find_122 : decode cX4_find 122 = .ok (.ifCond .ge 46, 3) := by decide +kernel
theorem dX4_find_125 : decode cX4_find 125 = .ok (.lload 5, 2) := by decide +kernel
theorem dX4_find_127 : decode cX4_find 127 = .ok (.lload 9, 2) := by decide +kernel
theorem dX4_find_129 : decode cX4_find 129 = .ok (.lload 13, 2) := by decide +kernel
theorem dX4_find_131 : decode cX4_find 131 = .ok (.lconst 1, 1) := by decide +kernel
theorem dX4_find_132 : decode cX4_find 132 = .ok (.ladd, 1) := by decide +kernel
theorem dX4_find_133 : decode cX4_find 133 = .ok (.lmul, 1) := by decide +kernel
theorem dX4_find_134 : decode cX4_find 134 = .ok (.ladd, 1) := by decide +kernel
theorem dX4_find_135 : decode cX4_find 135 = .ok (.lload 7, 2) := by decide +kernel
theorem dX4_find_137 : decode cX4_find 137 = .ok (.lload 11, 2) := by decide +kernel
theorem dX4_find_139 : decode cX4_find 139 = .ok (.lload 13, 2) := by decide +kernel
theorem dX4_find_141 : decode cX4_find 141 = .ok (.lconst 1, 1) := by decide +kernel
theorem dX4_find_142 : decode cX4_find 142 = .ok (.ladd, 1) := by decide +kernel
theorem dX4_find_143 : decode cX4_find 143 = .ok (.lmul, 1) := by decide +kernel
theorem dX4_find_144 : decode cX4_find 144 = .ok (.ladd, 1) := by decide +kernel
theorem dX4_find_145 : decode cX4_find 145 = .ok (.invokestatic 29, 3) := by decide +kernel
theorem dX4_find_148 : decode cX4_find 148 = .ok (.lstore 17, 2) := by decide +kernel
theorem dX4_find_150 : decode cX4_find 150 = .ok (.lload 17, 2) := by decide +kernel
theorem dX4_find_152 : decode cX4_find 152 = .ok (.lload 15, 2) := by decide +kernel
theorem dX4_find_154 : decode cX4_find 154 = .ok (.lcmp, 1) := by decide +kernel
theorem dX4_find_155 : decode cX4_find 155 = .ok (.ifCond .ge 13, 3) := by decide +kernel
theorem dX4_find_158 : decode cX4_find 158 = .ok (.lload 17, 2) := by decide +kernel
theorem dX4_find_160 : decode cX4_find 160 = .ok (.lstore 15, 2) := by decide +kernel
theorem dX4_find_162 : decode cX4_find 162 = .ok (.lload 13, 2) := by decide +kernel
theorem dX4_find_164 : decode cX4_find 164 = .ok (.lconst 1, 1) := by decide +kernel
theorem dX4_find_165 : decode cX4_find 165 = .ok (.ladd, 1) := by decide +kernel
theorem dX4_find_166 : decode cX4_find 166 = .ok (.lstore 13, 2) := by decide +kernel
theorem dX4_find_168 : decode cX4_find 168 = .ok (.aload_n 0, 1) := by decide +kernel
theorem dX4_find_169 : decode cX4_find 169 = .ok (.iload 4, 2) := by decide +kernel
theorem dX4_find_171 : decode cX4_find 171 = .ok (.lload 13, 2) := by decide +kernel
theorem dX4_find_173 : decode cX4_find 173 = .ok (.l2i, 1) := by decide +kernel
theorem dX4_find_174 : decode cX4_find 174 = .ok (.iadd, 1) := by decide +kernel
theorem dX4_find_175 : decode cX4_find 175 = .ok (.putfield 9, 3) := by decide +kernel
theorem dX4_find_178 : decode cX4_find 178 = .ok (.lload 15, 2) := by decide +kernel
theorem dX4_find_180 : decode cX4_find 180 = .ok (.lreturn, 1) := by decide +kernel
theorem dX4_nearestAfter_0 : decode cX4_nearestAfter 0 = .ok (.lload 4, 2) := by decide +kernel
theorem dX4_nearestAfter_2 : decode cX4_nearestAfter 2 = .ok (.lload 6, 2) := by decide +kernel
theorem dX4_nearestAfter_4 : decode cX4_nearestAfter 4 = .ok (.invokestatic 29, 3) := by decide +kernel
theorem dX4_nearestAfter_7 : decode cX4_nearestAfter 7 = .ok (.lstore 8, 2) := by decide +kernel
theorem dX4_nearestAfter_9 : decode cX4_nearestAfter 9 = .ok (.lload 8, 2) := by decide +kernel
theorem dX4_nearestAfter_11 : decode cX4_nearestAfter 11 = .ok (.lconst 0, 1) := by decide +kernel
theorem dX4_nearestAfter_12 : decode cX4_nearestAfter 12 = .ok (.lcmp, 1) := by decide +kernel
theorem dX4_nearestAfter_13 : decode cX4_nearestAfter 13 = .ok (.ifCond .ne 5, 3) := by decide +kernel
theorem dX4_nearestAfter_16 : decode cX4_nearestAfter 16 = .ok (.lconst 0, 1) := by decide +kernel
theorem dX4_nearestAfter_17 : decode cX4_nearestAfter 17 = .ok (.lreturn, 1) := by decide +kernel
theorem dX4_nearestAfter_18 : decode cX4_nearestAfter 18 = .ok (.lload_n 0, 1) := by decide +kernel
theorem dX4_nearestAfter_19 : decode cX4_nearestAfter 19 = .ok (.lload 4, 2) := by decide +kernel
theorem dX4_nearestAfter_21 : decode cX4_nearestAfter 21 = .ok (.lmul, 1) := by decide +kernel
theorem dX4_nearestAfter_22 : decode cX4_nearestAfter 22 = .ok (.lload_n 2, 1) := by decide +kernel
theorem dX4_nearestAfter_23 : decode cX4_nearestAfter 23 = .ok (.lload 6, 2) := by decide +kernel
theorem dX4_nearestAfter_25 : decode cX4_nearestAfter 25 = .ok (.lmul, 1) := by decide +kernel
theorem dX4_nearestAfter_26 : decode cX4_nearestAfter 26 = .ok (.ladd, 1) := by decide +kernel
theorem dX4_nearestAfter_27 : decode cX4_nearestAfter 27 = .ok (.lneg, 1) := by decide +kernel
theorem dX4_nearestAfter_28 : decode cX4_nearestAfter 28 = .ok (.lload 8, 2) := by decide +kernel
theorem dX4_nearestAfter_30 : decode cX4_nearestAfter 30 = .ok (.invokestatic 35, 3) := by decide +kernel
theorem dX4_nearestAfter_33 : decode cX4_nearestAfter 33 = .ok (.lstore 10, 2) := by decide +kernel
theorem dX4_nearestAfter_35 : decode cX4_nearestAfter 35 = .ok (.lconst 0, 1) := by decide +kernel
theorem dX4_nearestAfter_36 : decode cX4_nearestAfter 36 = .ok (.lload 10, 2) := by decide +kernel
theorem dX4_nearestAfter_38 : decode cX4_nearestAfter 38 = .ok (.ldc2_w 33, 3) := by decide +kernel
theorem dX4_nearestAfter_41 : decode cX4_nearestAfter 41 = .ok (.invokestatic 40, 3) := by decide +kernel
theorem dX4_nearestAfter_44 : decode cX4_nearestAfter 44 = .ok (.invokestatic 43, 3) := by decide +kernel
theorem dX4_nearestAfter_47 : decode cX4_nearestAfter 47 = .ok (.lreturn, 1) := by decide +kernel
theorem dX4_along_0 : decode cX4_along 0 = .ok (.iload 4, 2) := by decide +kernel
theorem dX4_along_2 : decode cX4_along 2 = .ok (.aload_n 0, 1) := by decide +kernel
theorem dX4_along_3 : decode cX4_along 3 = .ok (.iload_n 1, 1) := by decide +kernel
theorem dX4_along_4 : decode cX4_along 4 = .ok (.iconst 3, 1) := by decide +kernel
theorem dX4_along_5 : decode cX4_along 5 = .ok (.invokevirtual 21, 3) := by decide +kernel
theorem dX4_along_8 : decode cX4_along 8 = .ok (.isub, 1) := by decide +kernel
theorem dX4_along_9 : decode cX4_along 9 = .ok (.i2l, 1) := by decide +kernel
theorem dX4_along_10 : decode cX4_along 10 = .ok (.lstore 5, 2) := by decide +kernel
theorem dX4_along_12 : decode cX4_along 12 = .ok (.aload_n 0, 1) := by decide +kernel
theorem dX4_along_13 : decode cX4_along 13 = .ok (.iload_n 1, 1) := by decide +kernel
theorem dX4_along_14 : decode cX4_along 14 = .ok (.iload_n 2, 1) := by decide +kernel
theorem dX4_along_15 : decode cX4_along 15 = .ok (.invokevirtual 21, 3) := by decide +kernel
theorem dX4_along_18 : decode cX4_along 18 = .ok (.i2l, 1) := by decide +kernel
theorem dX4_along_19 : decode cX4_along 19 = .ok (.lload 5, 2) := by decide +kernel
theorem dX4_along_21 : decode cX4_along 21 = .ok (.aload_n 0, 1) := by decide +kernel
theorem dX4_along_22 : decode cX4_along 22 = .ok (.iload_n 1, 1) := by decide +kernel
theorem dX4_along_23 : decode cX4_along 23 = .ok (.iload_n 3, 1) := by decide +kernel
theorem dX4_along_24 : decode cX4_along 24 = .ok (.invokevirtual 21, 3) := by decide +kernel
theorem dX4_along_27 : decode cX4_along 27 = .ok (.i2l, 1) := by decide +kernel
theorem dX4_along_28 : decode cX4_along 28 = .ok (.lmul, 1) := by decide +kernel
theorem dX4_along_29 : decode cX4_along 29 = .ok (.ladd, 1) := by decide +kernel
theorem dX4_along_30 : decode cX4_along 30 = .ok (.lreturn, 1) := by decide +kernel
theorem dX4_square_0 : decode cX4_square 0 = .ok (.lload_n 0, 1) := by decide +kernel
theorem dX4_square_1 : decode cX4_square 1 = .ok (.lload_n 0, 1) := by decide +kernel
theorem dX4_square_2 : decode cX4_square 2 = .ok (.lmul, 1) := by decide +kernel
theorem dX4_square_3 : decode cX4_square 3 = .ok (.lload_n 2, 1) := by decide +kernel
theorem dX4_square_4 : decode cX4_square 4 = .ok (.lload_n 2, 1) := by decide +kernel
theorem dX4_square_5 : decode cX4_square 5 = .ok (.lmul, 1) := by decide +kernel
theorem dX4_square_6 : decode cX4_square 6 = .ok (.ladd, 1) := by decide +kernel
theorem dX4_square_7 : decode cX4_square 7 = .ok (.lreturn, 1) := by decide +kernel
theorem dX5_init_0 : decode cX5_init 0 = .ok (.aload_n 0, 1) := by decide +kernel
theorem dX5_init_1 : decode cX5_init 1 = .ok (.invokespecial 3, 3) := by decide +kernel
theorem dX5_init_4 : decode cX5_init 4 = .ok (.aload_n 0, 1) := by decide +kernel
theorem dX5_init_5 : decode cX5_init 5 = .ok (.new 9, 3) := by decide +kernel
theorem dX5_init_8 : decode cX5_init 8 = .ok (.dup, 1) := by decide +kernel
theorem dX5_init_9 : decode cX5_init 9 = .ok (.invokespecial 11, 3) := by decide +kernel
theorem dX5_init_12 : decode cX5_init 12 = .ok (.putfield 12, 3) := by decide +kernel
theorem dX5_init_15 : decode cX5_init 15 = .ok (.aload_n 0, 1) := by decide +kernel
theorem dX5_init_16 : decode cX5_init 16 = .ok (.bipush 16, 2) := by decide +kernel
theorem dX5_init_18 : decode cX5_init 18 = .ok (.newarray .int, 2) := by decide +kernel
theorem dX5_init_20 : decode cX5_init 20 = .ok (.putfield 18, 3) := by decide +kernel
theorem dX5_init_23 : decode cX5_init 23 = .ok (.aload_n 0, 1) := by decide +kernel
theorem dX5_init_24 : decode cX5_init 24 = .ok (.bipush 16, 2) := by decide +kernel
theorem dX5_init_26 : decode cX5_init 26 = .ok (.newarray .int, 2) := by decide +kernel
theorem dX5_init_28 : decode cX5_init 28 = .ok (.putfield 22, 3) := by decide +kernel
theorem dX5_init_31 : decode cX5_init 31 = .ok (.aload_n 0, 1) := by decide +kernel
theorem dX5_init_32 : decode cX5_init 32 = .ok (.bipush 16, 2) := by decide +kernel
theorem dX5_init_34 : decode cX5_init 34 = .ok (.newarray .int, 2) := by decide +kernel
theorem dX5_init_36 : decode cX5_init 36 = .ok (.putfield 25, 3) := by decide +kernel
theorem dX5_init_39 : decode cX5_init 39 = .ok (.aload_n 0, 1) := by decide +kernel
theorem dX5_init_40 : decode cX5_init 40 = .ok (.iconst 0, 1) := by decide +kernel
theorem dX5_init_41 : decode cX5_init 41 = .ok (.putfield 28, 3) := by decide +kernel
theorem dX5_init_44 : decode cX5_init 44 = .ok (.aload_n 0, 1) := by decide +kernel
theorem dX5_init_45 : decode cX5_init 45 = .ok (.iconst 0, 1) := by decide +kernel
theorem dX5_init_46 : decode cX5_init 46 = .ok (.putfield 32, 3) := by decide +kernel
theorem dX5_init_49 : decode cX5_init 49 = .ok (.aload_n 0, 1) := by decide +kernel
theorem dX5_init_50 : decode cX5_init 50 = .ok (.lconst 0, 1) := by decide +kernel
theorem dX5_init_51 : decode cX5_init 51 = .ok (.putfield 35, 3) := by decide +kernel
theorem dX5_init_54 : decode cX5_init 54 = .ok (.return_, 1) := by decide +kernel
theorem dX5_together_0 : decode cX5_together 0 = .ok (.aload_n 0, 1) := by decide +kernel
theorem dX5_together_1 : decode cX5_together 1 = .ok (.getfield 35, 3) := by decide +kernel
theorem dX5_together_4 : decode cX5_together 4 = .ok (.lreturn, 1) := by decide +kernel
theorem dX5_tellOf_0 : decode cX5_tellOf 0 = .ok (.iload_n 1, 1) := by decide +kernel
theorem dX5_tellOf_1 : decode cX5_tellOf 1 = .ok (.ifCond .lt 17, 3) := by decide +kernel
theorem dX5_tellOf_4 : decode cX5_tellOf 4 = .ok (.iload_n 1, 1) := by decide +kernel
theorem dX5_tellOf_5 : decode cX5_tellOf 5 = .ok (.aload_n 0, 1) := by decide +kernel
theorem dX5_tellOf_6 : decode cX5_tellOf 6 = .ok (.getfield 28, 3) := by decide +kernel
theorem dX5_tellOf_9 : decode cX5_tellOf 9 = .ok (.if_icmp .ge 9, 3) := by decide +kernel
theorem dX5_tellOf_12 : decode cX5_tellOf 12 = .ok (.iload_n 1, 1) := by decide +kernel
theorem dX5_tellOf_13 : decode cX5_tellOf 13 = .ok (.bipush 16, 2) := by decide +kernel
theorem dX5_tellOf_15 : decode cX5_tellOf 15 = .ok (.if_icmp .lt 5, 3) := by decide +kernel
theorem dX5_tellOf_18 : decode cX5_tellOf 18 = .ok (.iconst (-1), 1) := by decide +kernel
theorem dX5_tellOf_19 : decode cX5_tellOf 19 = .ok (.ireturn, 1) := by decide +kernel
theorem dX5_tellOf_20 : decode cX5_tellOf 20 = .ok (.iload_n 2, 1) := by decide +kernel
theorem dX5_tellOf_21 : decode cX5_tellOf 21 = .ok (.tableswitch 48 0 2 #[27, 34, 41], 27) := by decide +kernel
theorem dX5_tellOf_48 : decode cX5_tellOf 48 = .ok (.aload_n 0, 1) := by decide +kernel
theorem dX5_tellOf_49 : decode cX5_tellOf 49 = .ok (.getfield 18, 3) := by decide +kernel
theorem dX5_tellOf_52 : decode cX5_tellOf 52 = .ok (.iload_n 1, 1) := by decide +kernel
theorem dX5_tellOf_53 : decode cX5_tellOf 53 = .ok (.iaload, 1) := by decide +kernel
theorem dX5_tellOf_54 : decode cX5_tellOf 54 = .ok (.ireturn, 1) := by decide +kernel
theorem dX5_tellOf_55 : decode cX5_tellOf 55 = .ok (.aload_n 0, 1) := by decide +kernel
theorem dX5_tellOf_56 : decode cX5_tellOf 56 = .ok (.getfield 22, 3) := by decide +kernel
theorem dX5_tellOf_59 : decode cX5_tellOf 59 = .ok (.iload_n 1, 1) := by decide +kernel
theorem dX5_tellOf_60 : decode cX5_tellOf 60 = .ok (.iaload, 1) := by decide +kernel
theorem dX5_tellOf_61 : decode cX5_tellOf 61 = .ok (.ireturn, 1) := by decide +kernel
theorem dX5_tellOf_62 : decode cX5_tellOf 62 = .ok (.aload_n 0, 1) := by decide +kernel
theorem dX5_tellOf_63 : decode cX5_tellOf 63 = .ok (.getfield 25, 3) := by decide +kernel
theorem dX5_tellOf_66 : decode cX5_tellOf 66 = .ok (.iload_n 1, 1) := by decide +kernel
theorem dX5_tellOf_67 : decode cX5_tellOf 67 = .ok (.iaload, 1) := by decide +kernel
theorem dX5_tellOf_68 : decode cX5_tellOf 68 = .ok (.ireturn, 1) := by decide +kernel
theorem dX5_tellOf_69 : decode cX5_tellOf 69 = .ok (.iconst (-1), 1) := by decide +kernel
theorem dX5_tellOf_70 : decode cX5_tellOf 70 = .ok (.ireturn, 1) := by decide +kernel
theorem dX5_make_0 : decode cX5_make 0 = .ok (.aload_n 1, 1) := by decide +kernel
theorem dX5_make_1 : decode cX5_make 1 = .ok (.iconst 1, 1) := by decide +kernel
theorem dX5_make_2 : decode cX5_make 2 = .ok (.iload_n 2, 1) := by decide +kernel
theorem dX5_make_3 : decode cX5_make 3 = .ok (.invokevirtual 39, 3) := by decide +kernel
theorem dX5_make_6 : decode cX5_make 6 = .ok (.istore 4, 2) := by decide +kernel
theorem dX5_make_8 : decode cX5_make 8 = .ok (.iload 4, 2) := by decide +kernel
theorem dX5_make_10 : decode cX5_make 10 = .ok (.iconst 1, 1) := by decide +kernel
theorem dX5_make_11 : decode cX5_make 11 = .ok (.if_icmp .lt 10, 3) := by decide +kernel
theorem dX5_make_14 : decode cX5_make 14 = .ok (.iload 4, 2) := by decide +kernel
theorem dX5_make_16 : decode cX5_make 16 = .ok (.bipush 16, 2) := by decide +kernel
theorem dX5_make_18 : decode cX5_make 18 = .ok (.if_icmp .le 5, 3) := by decide +kernel
theorem dX5_make_21 : decode cX5_make 21 = .ok (.iconst (-1), 1) := by decide +kernel
theorem dX5_make_22 : decode cX5_make 22 = .ok (.ireturn, 1) := by decide +kernel
theorem dX5_make_23 : decode cX5_make 23 = .ok (.aload_n 0, 1) := by decide +kernel
theorem dX5_make_24 : decode cX5_make 24 = .ok (.aload_n 1, 1) := by decide +kernel
theorem dX5_make_25 : decode cX5_make 25 = .ok (.iload_n 2, 1) := by decide +kernel
theorem dX5_make_26 : decode cX5_make 26 = .ok (.invokevirtual 45, 3) := by decide +kernel
theorem dX5_make_29 : decode cX5_make 29 = .ok (.aload_n 0, 1) := by decide +kernel
theorem dX5_make_30 : decode cX5_make 30 = .ok (.getfield 12, 3) := by decide +kernel
theorem dX5_make_33 : decode cX5_make 33 = .ok (.aload_n 0, 1) := by decide +kernel
theorem dX5_make_34 : decode cX5_make 34 = .ok (.getfield 28, 3) := by decide +kernel
theorem dX5_make_37 : decode cX5_make 37 = .ok (.invokevirtual 49, 3) := by decide +kernel
theorem dX5_make_40 : decode cX5_make 40 = .ok (.iconst 0, 1) := by decide +kernel
theorem dX5_make_41 : decode cX5_make 41 = .ok (.istore 5, 2) := by decide +kernel
theorem dX5_make_43 : decode cX5_make 43 = .ok (.iload 5, 2) := by decide +kernel
theorem dX5_make_45 : decode cX5_make 45 = .ok (.aload_n 0, 1) := by decide +kernel
theorem dX5_make_46 : decode cX5_make 46 = .ok (.getfield 28, 3) := by decide +kernel
theorem dX5_make_49 : decode cX5_make 49 = .ok (.if_icmp .ge 35, 3) := by decide +kernel
theorem dX5_make_52 : decode cX5_make 52 = .ok (.iconst 0, 1) := by decide +kernel
theorem dX5_make_53 : decode cX5_make 53 = .ok (.istore 6, 2) := by decide +kernel
theorem dX5_make_55 : decode cX5_make 55 = .ok (.iload 6, 2) := by decide +kernel
theorem dX5_make_57 : decode cX5_make 57 = .ok (.iload 5, 2) := by decide +kernel
theorem dX5_make_59 : decode cX5_make 59 = .ok (.if_icmp .ge 19, 3) := by decide +kernel
theorem dX5_make_62 : decode cX5_make 62 = .ok (.aload_n 0, 1) := by decide +kernel
theorem dX5_make_63 : decode cX5_make 63 = .ok (.aload_n 1, 1) := by decide +kernel
theorem dX5_make_64 : decode cX5_make 64 = .ok (.iload 5, 2) := by decide +kernel
theorem dX5_make_66 : decode cX5_make 66 = .ok (.iload 6, 2) := by decide +kernel
theorem dX5_make_68 : decode cX5_make 68 = .ok (.iload_n 3, 1) := by decide +kernel
theorem dX5_make_69 : decode cX5_make 69 = .ok (.invokevirtual 53, 3) := by decide +kernel
theorem dX5_make_72 : decode cX5_make 72 = .ok (.iinc 6 1, 3) := by decide +kernel
theorem dX5_make_75 : decode cX5_make 75 = .ok (.goto (-20), 3) := by decide +kernel
theorem dX5_make_78 : decode cX5_make 78 = .ok (.iinc 5 1, 3) := by decide +kernel
theorem dX5_make_81 : decode cX5_make 81 = .ok (.goto (-38), 3) := by decide +kernel
theorem dX5_make_84 : decode cX5_make 84 = .ok (.aload_n 0, 1) := by decide +kernel
theorem dX5_make_85 : decode cX5_make 85 = .ok (.getfield 12, 3) := by decide +kernel
theorem dX5_make_88 : decode cX5_make 88 = .ok (.invokevirtual 57, 3) := by decide +kernel
theorem dX5_make_91 : decode cX5_make 91 = .ok (.aload_n 0, 1) := by decide +kernel
theorem dX5_make_92 : decode cX5_make 92 = .ok (.invokevirtual 60, 3) := by decide +kernel
theorem dX5_make_95 : decode cX5_make 95 = .ok (.aload_n 0, 1) := by decide +kernel
theorem dX5_make_96 : decode cX5_make 96 = .ok (.getfield 32, 3) := by decide +kernel
theorem dX5_make_99 : decode cX5_make 99 = .ok (.ireturn, 1) := by decide +kernel
theorem dX5_gather_0 : decode cX5_gather 0 = .ok (.aload_n 0, 1) := by decide +kernel
theorem dX5_gather_1 : decode cX5_gather 1 = .ok (.iconst 0, 1) := by decide +kernel
theorem dX5_gather_2 : decode cX5_gather 2 = .ok (.putfield 28, 3) := by decide +kernel
theorem dX5_gather_5 : decode cX5_gather 5 = .ok (.aload_n 1, 1) := by decide +kernel
theorem dX5_gather_6 : decode cX5_gather 6 = .ok (.invokevirtual 63, 3) := by decide +kernel
theorem dX5_gather_9 : decode cX5_gather 9 = .ok (.istore_n 3, 1) := by decide +kernel
theorem dX5_gather_10 : decode cX5_gather 10 = .ok (.iconst 0, 1) := by decide +kernel
theorem dX5_gather_11 : decode cX5_gather 11 = .ok (.istore 4, 2) := by decide +kernel
theorem dX5_gather_13 : decode cX5_gather 13 = .ok (.iload 4, 2) := by decide +kernel
theorem dX5_gather_15 : decode cX5_gather 15 = .ok (.iload_n 3, 1) := by decide +kernel
theorem dX5_gather_16 : decode cX5_gather 16 = .ok (.if_icmp .ge 36, 3) := by decide +kernel
theorem dX5_gather_19 : decode cX5_gather 19 = .ok (.aload_n 0, 1) := by decide +kernel
theorem dX5_gather_20 : decode cX5_gather 20 = .ok (.getfield 28, 3) := by decide +kernel
theorem dX5_gather_23 : decode cX5_gather 23 = .ok (.bipush 16, 2) := by decide +kernel
theorem dX5_gather_25 : decode cX5_gather 25 = .ok (.if_icmp .ge 21, 3) := by decide +kernel
theorem dX5_gather_28 : decode cX5_gather 28 = .ok (.aload_n 1, 1) := by decide +kernel
theorem dX5_gather_29 : decode cX5_gather 29 = .ok (.iload 4, 2) := by decide +kernel
theorem dX5_gather_31 : decode cX5_gather 31 = .ok (.iconst 1, 1) := by decide +kernel
theorem dX5_gather_32 : decode cX5_gather 32 = .ok (.iload_n 2, 1) := by decide +kernel
theorem dX5_gather_33 : decode cX5_gather 33 = .ok (.invokevirtual 67, 3) := by decide +kernel
theorem dX5_gather_36 : decode cX5_gather 36 = .ok (.ifCond .eq 10, 3) := by decide +kernel
theorem dX5_gather_39 : decode cX5_gather 39 = .ok (.aload_n 0, 1) := by decide +kernel
theorem dX5_gather_40 : decode cX5_gather 40 = .ok (.aload_n 1, 1) := by decide +kernel
theorem dX5_gather_41 : decode cX5_gather 41 = .ok (.iload 4, 2) := by decide +kernel
theorem dX5_gather_43 : decode cX5_gather 43 = .ok (.invokevirtual 71, 3) := by decide +kernel
theorem dX5_gather_46 : decode cX5_gather 46 = .ok (.iinc 4 1, 3) := by decide +kernel
theorem dX5_gather_49 : decode cX5_gather 49 = .ok (.goto (-36), 3) := by decide +kernel
theorem dX5_gather_52 : decode cX5_gather 52 = .ok (.return_, 1) := by decide +kernel
theorem dX5_insert_0 : decode cX5_insert 0 = .ok (.aload_n 0, 1) := by decide +kernel
theorem dX5_insert_1 : decode cX5_insert 1 = .ok (.getfield 28, 3) := by decide +kernel
theorem dX5_insert_4 : decode cX5_insert 4 = .ok (.istore_n 3, 1) := by decide +kernel
theorem dX5_insert_5 : decode cX5_insert 5 = .ok (.iload_n 3, 1) := by decide +kernel
theorem dX5_insert_6 : decode cX5_insert 6 = .ok (.ifCond .le 39, 3) := by decide +kernel
theorem dX5_insert_9 : decode cX5_insert 9 = .ok (.aload_n 1, 1) := by decide +kernel
theorem dX5_insert_10 : decode cX5_insert 10 = .ok (.iload_n 2, 1) := by decide +kernel
theorem dX5_insert_11 : decode cX5_insert 11 = .ok (.aload_n 0, 1) := by decide +kernel
theorem dX5_insert_12 : decode cX5_insert 12 = .ok (.getfield 18, 3) := by decide +kernel
theorem dX5_insert_15 : decode cX5_insert 15 = .ok (.iload_n 3, 1) := by decide +kernel
theorem dX5_insert_16 : decode cX5_insert 16 = .ok (.iconst 1, 1) := by decide +kernel
theorem dX5_insert_17 : decode cX5_insert 17 = .ok (.isub, 1) := by decide +kernel
theorem dX5_insert_18 : decode cX5_insert 18 = .ok (.iaload, 1) := by decide +kernel
theorem dX5_insert_19 : decode cX5_insert 19 = .ok (.invokestatic 74, 3) := by decide +kernel
theorem dX5_insert_22 : decode cX5_insert 22 = .ok (.ifCond .eq 23, 3) := by decide +kernel
theorem dX5_insert_25 : decode cX5_insert 25 = .ok (.aload_n 0, 1) := by decide +kernel
theorem dX5_insert_26 : decode cX5_insert 26 = .ok (.getfield 18, 3) := by decide +kernel
theorem dX5_insert_29 : decode cX5_insert 29 = .ok (.iload_n 3, 1) := by decide +kernel
theorem dX5_insert_30 : decode cX5_insert 30 = .ok (.aload_n 0, 1) := by decide +kernel
theorem dX5_insert_31 : decode cX5_insert 31 = .ok (.getfield 18, 3) := by decide +kernel
theorem dX5_insert_34 : decode cX5_insert 34 = .ok (.iload_n 3, 1) := by decide +kernel
theorem dX5_insert_35 : decode cX5_insert 35 = .ok (.iconst 1, 1) := by decide +kernel
theorem dX5_insert_36 : decode cX5_insert 36 = .ok (.isub, 1) := by decide +kernel
theorem dX5_insert_37 : decode cX5_insert 37 = .ok (.iaload, 1) := by decide +kernel
theorem dX5_insert_38 : decode cX5_insert 38 = .ok (.iastore, 1) := by decide +kernel
theorem dX5_insert_39 : decode cX5_insert 39 = .ok (.iinc 3 (-1), 3) := by decide +kernel
theorem dX5_insert_42 : decode cX5_insert 42 = .ok (.goto (-37), 3) := by decide +kernel
theorem dX5_insert_45 : decode cX5_insert 45 = .ok (.aload_n 0, 1) := by decide +kernel
theorem dX5_insert_46 : decode cX5_insert 46 = .ok (.getfield 18, 3) := by decide +kernel
theorem dX5_insert_49 : decode cX5_insert 49 = .ok (.iload_n 3, 1) := by decide +kernel
theorem dX5_insert_50 : decode cX5_insert 50 = .ok (.iload_n 2, 1) := by decide +kernel
theorem dX5_insert_51 : decode cX5_insert 51 = .ok (.iastore, 1) := by decide +kernel
theorem dX5_insert_52 : decode cX5_insert 52 = .ok (.aload_n 0, 1) := by decide +kernel
theorem dX5_insert_53 : decode cX5_insert 53 = .ok (.dup, 1) := by decide +kernel
theorem dX5_insert_54 : decode cX5_insert 54 = .ok (.getfield 28, 3) := by decide +kernel
theorem dX5_insert_57 : decode cX5_insert 57 = .ok (.iconst 1, 1) := by decide +kernel
theorem dX5_insert_58 : decode cX5_insert 58 = .ok (.iadd, 1) := by decide +kernel
theorem dX5_insert_59 : decode cX5_insert 59 = .ok (.putfield 28, 3) := by decide +kernel
theorem dX5_insert_62 : decode cX5_insert 62 = .ok (.return_, 1) := by decide +kernel
theorem dX5_isAhead_0 : decode cX5_isAhead 0 = .ok (.iconst 3, 1) := by decide +kernel
theorem dX5_isAhead_1 : decode cX5_isAhead 1 = .ok (.istore_n 3, 1) := by decide +kernel
theorem dX5_isAhead_2 : decode cX5_isAhead 2 = .ok (.iload_n 3, 1) := by decide +kernel
theorem dX5_isAhead_3 : decode cX5_isAhead 3 = .ok (.iconst 5, 1) := by decide +kernel
theorem dX5_isAhead_4 : decode cX5_isAhead 4 = .ok (.if_icmp .gt 42, 3) := by decide +kernel
theorem dX5_isAhead_7 : decode cX5_isAhead 7 = .ok (.aload_n 0, 1) := by decide +kernel
theorem dX5_isAhead_8 : decode cX5_isAhead 8 = .ok (.iload_n 1, 1) := by decide +kernel
theorem dX5_isAhead_9 : decode cX5_isAhead 9 = .ok (.iload_n 3, 1) := by decide +kernel
theorem dX5_isAhead_10 : decode cX5_isAhead 10 = .ok (.invokevirtual 78, 3) := by decide +kernel
theorem dX5_isAhead_13 : decode cX5_isAhead 13 = .ok (.aload_n 0, 1) := by decide +kernel
theorem dX5_isAhead_14 : decode cX5_isAhead 14 = .ok (.iload_n 2, 1) := by decide +kernel
theorem dX5_isAhead_15 : decode cX5_isAhead 15 = .ok (.iload_n 3, 1) := by decide +kernel
theorem dX5_isAhead_16 : decode cX5_isAhead 16 = .ok (.invokevirtual 78, 3) := by decide +kernel
theorem dX5_isAhead_19 : decode cX5_isAhead 19 = .ok (.invokestatic 81, 3) := by decide +kernel
theorem dX5_isAhead_22 : decode cX5_isAhead 22 = .ok (.istore 4, 2) := by decide +kernel
theorem dX5_isAhead_24 : decode cX5_isAhead 24 = .ok (.iload 4, 2) := by decide +kernel
theorem dX5_isAhead_26 : decode cX5_isAhead 26 = .ok (.ifCond .eq 14, 3) := by decide +kernel
theorem dX5_isAhead_29 : decode cX5_isAhead 29 = .ok (.iload 4, 2) := by decide +kernel
theorem dX5_isAhead_31 : decode cX5_isAhead 31 = .ok (.ifCond .ge 7, 3) := by decide +kernel
theorem dX5_isAhead_34 : decode cX5_isAhead 34 = .ok (.iconst 1, 1) := by decide +kernel
theorem dX5_isAhead_35 : decode cX5_isAhead 35 = .ok (.goto 4, 3) := by decide +kernel
theorem dX5_isAhead_38 : decode cX5_isAhead 38 = .ok (.iconst 0, 1) := by decide +kernel
theorem dX5_isAhead_39 : decode cX5_isAhead 39 = .ok (.ireturn, 1) := by decide +kernel
theorem dX5_isAhead_40 : decode cX5_isAhead 40 = .ok (.iinc 3 1, 3) := by decide +kernel
theorem dX5_isAhead_43 : decode cX5_isAhead 43 = .ok (.goto (-41), 3) := by decide +kernel
theorem dX5_isAhead_46 : decode cX5_isAhead 46 = .ok (.iconst 0, 1) := by decide +kernel
theorem dX5_isAhead_47 : decode cX5_isAhead 47 = .ok (.ireturn, 1) := by decide +kernel
theorem dX5_allowIfNear_0 : decode cX5_allowIfNear 0 = .ok (.aload_n 0, 1) := by decide +kernel
theorem dX5_allowIfNear_1 : decode cX5_allowIfNear 1 = .ok (.getfield 18, 3) := by decide +kernel
theorem dX5_allowIfNear_4 : decode cX5_allowIfNear 4 = .ok (.iload_n 2, 1) := by decide +kernel
theorem dX5_allowIfNear_5 : decode cX5_allowIfNear 5 = .ok (.iaload, 1) := by decide +kernel
theorem dX5_allowIfNear_6 : decode cX5_allowIfNear 6 = .ok (.istore 5, 2) := by decide +kernel
theorem dX5_allowIfNear_8 : decode cX5_allowIfNear 8 = .ok (.aload_n 0, 1) := by decide +kernel
theorem dX5_allowIfNear_9 : decode cX5_allowIfNear 9 = .ok (.getfield 18, 3) := by decide +kernel
theorem dX5_allowIfNear_12 : decode cX5_allowIfNear 12 = .ok (.iload_n 3, 1) := by decide +kernel
theorem dX5_allowIfNear_13 : decode cX5_allowIfNear 13 = .ok (.iaload, 1) := by decide +kernel
theorem dX5_allowIfNear_14 : decode cX5_allowIfNear 14 = .ok (.istore 6, 2) := by decide +kernel
theorem dX5_allowIfNear_16 : decode cX5_allowIfNear 16 = .ok (.aload_n 1, 1) := by decide +kernel
theorem dX5_allowIfNear_17 : decode cX5_allowIfNear 17 = .ok (.iload 5, 2) := by decide +kernel
theorem dX5_allowIfNear_19 : decode cX5_allowIfNear 19 = .ok (.iconst 3, 1) := by decide +kernel
theorem dX5_allowIfNear_20 : decode cX5_allowIfNear 20 = .ok (.invokevirtual 78, 3) := by decide +kernel
theorem dX5_allowIfNear_23 : decode cX5_allowIfNear 23 = .ok (.aload_n 1, 1) := by decide +kernel
theorem dX5_allowIfNear_24 : decode cX5_allowIfNear 24 = .ok (.iload 6, 2) := by decide +kernel
theorem dX5_allowIfNear_26 : decode cX5_allowIfNear 26 = .ok (.iconst 3, 1) := by decide +kernel
theorem dX5_allowIfNear_27 : decode cX5_allowIfNear 27 = .ok (.invokevirtual 78, 3) := by decide +kernel
theorem dX5_allowIfNear_30 : decode cX5_allowIfNear 30 = .ok (.isub, 1) := by decide +kernel
theorem dX5_allowIfNear_31 : decode cX5_allowIfNear 31 = .ok (.i2l, 1) := by decide +kernel
theorem dX5_allowIfNear_32 : decode cX5_allowIfNear 32 = .ok (.lstore 7, 2) := by decide +kernel
theorem dX5_allowIfNear_34 : decode cX5_allowIfNear 34 = .ok (.aload_n 1, 1) := by decide +kernel
theorem dX5_allowIfNear_35 : decode cX5_allowIfNear 35 = .ok (.iload 5, 2) := by decide +kernel
theorem dX5_allowIfNear_37 : decode cX5_allowIfNear 37 = .ok (.iconst 4, 1) := by decide +kernel
theorem dX5_allowIfNear_38 : decode cX5_allowIfNear 38 = .ok (.invokevirtual 78, 3) := by decide +kernel
theorem dX5_allowIfNear_41 : decode cX5_allowIfNear 41 = .ok (.aload_n 1, 1) := by decide +kernel
theorem dX5_allowIfNear_42 : decode cX5_allowIfNear 42 = .ok (.iload 6, 2) := by decide +kernel
theorem dX5_allowIfNear_44 : decode cX5_allowIfNear 44 = .ok (.iconst 4, 1) := by decide +kernel
theorem dX5_allowIfNear_45 : decode cX5_allowIfNear 45 = .ok (.invokevirtual 78, 3) := by decide +kernel
theorem dX5_allowIfNear_48 : decode cX5_allowIfNear 48 = .ok (.isub, 1) := by decide +kernel
theorem dX5_allowIfNear_49 : decode cX5_allowIfNear 49 = .ok (.i2l, 1) := by decide +kernel
theorem dX5_allowIfNear_50 : decode cX5_allowIfNear 50 = .ok (.lstore 9, 2) := by decide +kernel
theorem dX5_allowIfNear_52 : decode cX5_allowIfNear 52 = .ok (.aload_n 1, 1) := by decide +kernel
theorem dX5_allowIfNear_53 : decode cX5_allowIfNear 53 = .ok (.iload 5, 2) := by decide +kernel
theorem dX5_allowIfNear_55 : decode cX5_allowIfNear 55 = .ok (.iconst 5, 1) := by decide +kernel
theorem dX5_allowIfNear_56 : decode cX5_allowIfNear 56 = .ok (.invokevirtual 78, 3) := by decide +kernel
theorem dX5_allowIfNear_59 : decode cX5_allowIfNear 59 = .ok (.aload_n 1, 1) := by decide +kernel
theorem dX5_allowIfNear_60 : decode cX5_allowIfNear 60 = .ok (.iload 6, 2) := by decide +kernel
theorem dX5_allowIfNear_62 : decode cX5_allowIfNear 62 = .ok (.iconst 5, 1) := by decide +kernel
theorem dX5_allowIfNear_63 : decode cX5_allowIfNear 63 = .ok (.invokevirtual 78, 3) := by decide +kernel
theorem dX5_allowIfNear_66 : decode cX5_allowIfNear 66 = .ok (.isub, 1) := by decide +kernel
theorem dX5_allowIfNear_67 : decode cX5_allowIfNear 67 = .ok (.i2l, 1) := by decide +kernel
theorem dX5_allowIfNear_68 : decode cX5_allowIfNear 68 = .ok (.lstore 11, 2) := by decide +kernel
theorem dX5_allowIfNear_70 : decode cX5_allowIfNear 70 = .ok (.lload 9, 2) := by decide +kernel
theorem dX5_allowIfNear_72 : decode cX5_allowIfNear 72 = .ok (.lload 9, 2) := by decide +kernel
theorem dX5_allowIfNear_74 : decode cX5_allowIfNear 74 = .ok (.lmul, 1) := by decide +kernel
theorem dX5_allowIfNear_75 : decode cX5_allowIfNear 75 = .ok (.lload 11, 2) := by decide +kernel
theorem dX5_allowIfNear_77 : decode cX5_allowIfNear 77 = .ok (.lload 11, 2) := by decide +kernel
theorem dX5_allowIfNear_79 : decode cX5_allowIfNear 79 = .ok (.lmul, 1) := by decide +kernel
theorem dX5_allowIfNear_80 : decode cX5_allowIfNear 80 = .ok (.ladd, 1) := by decide +kernel
theorem dX5_allowIfNear_81 : decode cX5_allowIfNear 81 = .ok (.lstore 13, 2) := by decide +kernel
theorem dX5_allowIfNear_83 : decode cX5_allowIfNear 83 = .ok (.lload 7, 2) := by decide +kernel
theorem dX5_allowIfNear_85 : decode cX5_allowIfNear 85 = .ok (.iload 4, 2) := by decide +kernel
theorem dX5_allowIfNear_87 : decode cX5_allowIfNear 87 = .ok (.i2l, 1) := by decide +kernel
theorem dX5_allowIfNear_88 : decode cX5_allowIfNear 88 = .ok (.lmul, 1) := by decide +kernel
theorem dX5_allowIfNear_89 : decode cX5_allowIfNear 89 = .ok (.lstore 15, 2) := by decide +kernel
theorem dX5_allowIfNear_91 : decode cX5_allowIfNear 91 = .ok (.lload 7, 2) := by decide +kernel
theorem dX5_allowIfNear_93 : decode cX5_allowIfNear 93 = .ok (.lconst 0, 1) := by decide +kernel
theorem dX5_allowIfNear_94 : decode cX5_allowIfNear 94 = .ok (.lcmp, 1) := by decide +kernel
theorem dX5_allowIfNear_95 : decode cX5_allowIfNear 95 = .ok (.ifCond .le 25, 3) := by decide +kernel
theorem dX5_allowIfNear_98 : decode cX5_allowIfNear 98 = .ok (.lload 13, 2) := by decide +kernel
theorem dX5_allowIfNear_100 : decode cX5_allowIfNear 100 = .ok (.lload 15, 2) := by decide +kernel
theorem dX5_allowIfNear_102 : decode cX5_allowIfNear 102 = .ok (.lload 15, 2) := by decide +kernel
theorem dX5_allowIfNear_104 : decode cX5_allowIfNear 104 = .ok (.lmul, 1) := by decide +kernel
theorem dX5_allowIfNear_105 : decode cX5_allowIfNear 105 = .ok (.lcmp, 1) := by decide +kernel
theorem dX5_allowIfNear_106 : decode cX5_allowIfNear 106 = .ok (.ifCond .gt 14, 3) := by decide +kernel
theorem dX5_allowIfNear_109 : decode cX5_allowIfNear 109 = .ok (.aload_n 0, 1) := by decide +kernel
theorem dX5_allowIfNear_110 : decode cX5_allowIfNear 110 = .ok (.getfield 12, 3) := by decide +kernel
theorem dX5_allowIfNear_113 : decode cX5_allowIfNear 113 = .ok (.iload_n 2, 1) := by decide +kernel
theorem dX5_allowIfNear_114 : decode cX5_allowIfNear 114 = .ok (.iload_n 3, 1) := by decide +kernel
theorem dX5_allowIfNear_115 : decode cX5_allowIfNear 115 = .ok (.lload 13, 2) := by decide +kernel
theorem dX5_allowIfNear_117 : decode cX5_allowIfNear 117 = .ok (.invokevirtual 86, 3) := by decide +kernel
theorem dX5_allowIfNear_120 : decode cX5_allowIfNear 120 = .ok (.return_, 1) := by decide +kernel
theorem dX5_drawTracks_0 : decode cX5_drawTracks 0 = .ok (.aload_n 0, 1) := by decide +kernel
theorem dX5_drawTracks_1 : decode cX5_drawTracks 1 = .ok (.iconst 0, 1) := by decide +kernel
theorem dX5_drawTracks_2 : decode cX5_drawTracks 2 = .ok (.putfield 32, 3) := by decide +kernel
theorem dX5_drawTracks_5 : decode cX5_drawTracks 5 = .ok (.aload_n 0, 1) := by decide +kernel
theorem dX5_drawTracks_6 : decode cX5_drawTracks 6 = .ok (.lconst 0, 1) := by decide +kernel
theorem dX5_drawTracks_7 : decode cX5_drawTracks 7 = .ok (.putfield 35, 3) := by decide +kernel
theorem dX5_drawTracks_10 : decode cX5_drawTracks 10 = .ok (.iconst 0, 1) := by decide +kernel
theorem dX5_drawTracks_11 : decode cX5_drawTracks 11 = .ok (.istore_n 1, 1) := by decide +kernel
theorem dX5_drawTracks_12 : decode cX5_drawTracks 12 = .ok (.iload_n 1, 1) := by decide +kernel
theorem dX5_drawTracks_13 : decode cX5_drawTracks 13 = .ok (.aload_n 0, 1) := by decide +kernel
theorem dX5_drawTracks_14 : decode cX5_drawTracks 14 = .ok (.getfield 28, 3) := by decide +kernel
theorem dX5_drawTracks_17 : decode cX5_drawTracks 17 = .ok (.if_icmp .ge 87, 3) := by decide +kernel
theorem dX5_drawTracks_20 : decode cX5_drawTracks 20 = .ok (.aload_n 0, 1) := by decide +kernel
theorem dX5_drawTracks_21 : decode cX5_drawTracks 21 = .ok (.getfield 12, 3) := by decide +kernel
theorem dX5_drawTracks_24 : decode cX5_drawTracks 24 = .ok (.iload_n 1, 1) := by decide +kernel
theorem dX5_drawTracks_25 : decode cX5_drawTracks 25 = .ok (.invokevirtual 90, 3) := by decide +kernel
theorem dX5_drawTracks_28 : decode cX5_drawTracks 28 = .ok (.istore_n 2, 1) := by decide +kernel
theorem dX5_drawTracks_29 : decode cX5_drawTracks 29 = .ok (.aload_n 0, 1) := by decide +kernel
theorem dX5_drawTracks_30 : decode cX5_drawTracks 30 = .ok (.getfield 22, 3) := by decide +kernel
theorem dX5_drawTracks_33 : decode cX5_drawTracks 33 = .ok (.iload_n 1, 1) := by decide +kernel
theorem dX5_drawTracks_34 : decode cX5_drawTracks 34 = .ok (.iload_n 2, 1) := by decide +kernel
theorem dX5_drawTracks_35 : decode cX5_drawTracks 35 = .ok (.iastore, 1) := by decide +kernel
theorem dX5_drawTracks_36 : decode cX5_drawTracks 36 = .ok (.iload_n 2, 1) := by decide +kernel
theorem dX5_drawTracks_37 : decode cX5_drawTracks 37 = .ok (.ifCond .lt 41, 3) := by decide +kernel
theorem dX5_drawTracks_40 : decode cX5_drawTracks 40 = .ok (.iload_n 2, 1) := by decide +kernel
theorem dX5_drawTracks_41 : decode cX5_drawTracks 41 = .ok (.iload_n 1, 1) := by decide +kernel
theorem dX5_drawTracks_42 : decode cX5_drawTracks 42 = .ok (.if_icmp .ge 36, 3) := by decide +kernel
theorem dX5_drawTracks_45 : decode cX5_drawTracks 45 = .ok (.aload_n 0, 1) := by decide +kernel
theorem dX5_drawTracks_46 : decode cX5_drawTracks 46 = .ok (.getfield 25, 3) := by decide +kernel
theorem dX5_drawTracks_49 : decode cX5_drawTracks 49 = .ok (.iload_n 1, 1) := by decide +kernel
theorem dX5_drawTracks_50 : decode cX5_drawTracks 50 = .ok (.aload_n 0, 1) := by decide +kernel
theorem dX5_drawTracks_51 : decode cX5_drawTracks 51 = .ok (.getfield 25, 3) := by decide +kernel
theorem dX5_drawTracks_54 : decode cX5_drawTracks 54 = .ok (.iload_n 2, 1) := by decide +kernel
theorem dX5_drawTracks_55 : decode cX5_drawTracks 55 = .ok (.iaload, 1) := by decide +kernel
theorem dX5_drawTracks_56 : decode cX5_drawTracks 56 = .ok (.iastore, 1) := by decide +kernel
theorem dX5_drawTracks_57 : decode cX5_drawTracks 57 = .ok (.aload_n 0, 1) := by decide +kernel
theorem dX5_drawTracks_58 : decode cX5_drawTracks 58 = .ok (.dup, 1) := by decide +kernel
theorem dX5_drawTracks_59 : decode cX5_drawTracks 59 = .ok (.getfield 35, 3) := by decide +kernel
theorem dX5_drawTracks_62 : decode cX5_drawTracks 62 = .ok (.aload_n 0, 1) := by decide +kernel
theorem dX5_drawTracks_63 : decode cX5_drawTracks 63 = .ok (.getfield 12, 3) := by decide +kernel
theorem dX5_drawTracks_66 : decode cX5_drawTracks 66 = .ok (.iload_n 1, 1) := by decide +kernel
theorem dX5_drawTracks_67 : decode cX5_drawTracks 67 = .ok (.iload_n 2, 1) := by decide +kernel
theorem dX5_drawTracks_68 : decode cX5_drawTracks 68 = .ok (.invokevirtual 94, 3) := by decide +kernel
theorem dX5_drawTracks_71 : decode cX5_drawTracks 71 = .ok (.ladd, 1) := by decide +kernel
theorem dX5_drawTracks_72 : decode cX5_drawTracks 72 = .ok (.putfield 35, 3) := by decide +kernel
theorem dX5_drawTracks_75 : decode cX5_drawTracks 75 = .ok (.goto 23, 3) := by decide +kernel
theorem dX5_drawTracks_78 : decode cX5_drawTracks 78 = .ok (.aload_n 0, 1) := by decide +kernel
theorem dX5_drawTracks_79 : decode cX5_drawTracks 79 = .ok (.getfield 25, 3) := by decide +kernel
theorem dX5_drawTracks_82 : decode cX5_drawTracks 82 = .ok (.iload_n 1, 1) := by decide +kernel
theorem dX5_drawTracks_83 : decode cX5_drawTracks 83 = .ok (.aload_n 0, 1) := by decide +kernel
theorem dX5_drawTracks_84 : decode cX5_drawTracks 84 = .ok (.getfield 32, 3) := by decide +kernel
theorem dX5_drawTracks_87 : decode cX5_drawTracks 87 = .ok (.iastore, 1) := by decide +kernel
theorem dX5_drawTracks_88 : decode cX5_drawTracks 88 = .ok (.aload_n 0, 1) := by decide +kernel
theorem dX5_drawTracks_89 : decode cX5_drawTracks 89 = .ok (.dup, 1) := by decide +kernel
theorem dX5_drawTracks_90 : decode cX5_drawTracks 90 = .ok (.getfield 32, 3) := by decide +kernel
theorem dX5_drawTracks_93 : decode cX5_drawTracks 93 = .ok (.iconst 1, 1) := by decide +kernel
theorem dX5_drawTracks_94 : decode cX5_drawTracks 94 = .ok (.iadd, 1) := by decide +kernel
theorem dX5_drawTracks_95 : decode cX5_drawTracks 95 = .ok (.putfield 32, 3) := by decide +kernel
theorem dX5_drawTracks_98 : decode cX5_drawTracks 98 = .ok (.iinc 1 1, 3) := by decide +kernel
theorem dX5_drawTracks_101 : decode cX5_drawTracks 101 = .ok (.goto (-89), 3) := by decide +kernel
theorem dX5_drawTracks_104 : decode cX5_drawTracks 104 = .ok (.return_, 1) := by decide +kernel
theorem dX6_init_0 : decode cX6_init 0 = .ok (.aload_n 0, 1) := by decide +kernel
theorem dX6_init_1 : decode cX6_init 1 = .ok (.invokespecial 3, 3) := by decide +kernel
theorem dX6_init_4 : decode cX6_init 4 = .ok (.aload_n 0, 1) := by decide +kernel
theorem dX6_init_5 : decode cX6_init 5 = .ok (.bipush 16, 2) := by decide +kernel
theorem dX6_init_7 : decode cX6_init 7 = .ok (.newarray .byte, 2) := by decide +kernel
theorem dX6_init_9 : decode cX6_init 9 = .ok (.putfield 11, 3) := by decide +kernel
theorem dX6_init_12 : decode cX6_init 12 = .ok (.aload_n 0, 1) := by decide +kernel
theorem dX6_init_13 : decode cX6_init 13 = .ok (.iconst 0, 1) := by decide +kernel
theorem dX6_init_14 : decode cX6_init 14 = .ok (.putfield 15, 3) := by decide +kernel
theorem dX6_init_17 : decode cX6_init 17 = .ok (.aload_n 0, 1) := by decide +kernel
theorem dX6_init_18 : decode cX6_init 18 = .ok (.iconst 0, 1) := by decide +kernel
theorem dX6_init_19 : decode cX6_init 19 = .ok (.putfield 19, 3) := by decide +kernel
theorem dX6_init_22 : decode cX6_init 22 = .ok (.aload_n 0, 1) := by decide +kernel
theorem dX6_init_23 : decode cX6_init 23 = .ok (.iconst 0, 1) := by decide +kernel
theorem dX6_init_24 : decode cX6_init 24 = .ok (.putfield 22, 3) := by decide +kernel
theorem dX6_init_27 : decode cX6_init 27 = .ok (.aload_n 0, 1) := by decide +kernel
theorem dX6_init_28 : decode cX6_init 28 = .ok (.ldc 25, 2) := by decide +kernel
theorem dX6_init_30 : decode cX6_init 30 = .ok (.putfield 26, 3) := by decide +kernel
theorem dX6_init_33 : decode cX6_init 33 = .ok (.return_, 1) := by decide +kernel
theorem dX6_bytes_0 : decode cX6_bytes 0 = .ok (.aload_n 0, 1) := by decide +kernel
theorem dX6_bytes_1 : decode cX6_bytes 1 = .ok (.getfield 15, 3) := by decide +kernel
theorem dX6_bytes_4 : decode cX6_bytes 4 = .ok (.iconst 3, 1) := by decide +kernel
theorem dX6_bytes_5 : decode cX6_bytes 5 = .ok (.ishr, 1) := by decide +kernel
theorem dX6_bytes_6 : decode cX6_bytes 6 = .ok (.ireturn, 1) := by decide +kernel
theorem dX6_byteAt_0 : decode cX6_byteAt 0 = .ok (.iload_n 1, 1) := by decide +kernel
theorem dX6_byteAt_1 : decode cX6_byteAt 1 = .ok (.ifCond .lt 30, 3) := by decide +kernel
theorem dX6_byteAt_4 : decode cX6_byteAt 4 = .ok (.iload_n 1, 1) := by decide +kernel
theorem dX6_byteAt_5 : decode cX6_byteAt 5 = .ok (.aload_n 0, 1) := by decide +kernel
theorem dX6_byteAt_6 : decode cX6_byteAt 6 = .ok (.invokevirtual 29, 3) := by decide +kernel
theorem dX6_byteAt_9 : decode cX6_byteAt 9 = .ok (.if_icmp .ge 22, 3) := by decide +kernel
theorem dX6_byteAt_12 : decode cX6_byteAt 12 = .ok (.iload_n 1, 1) := by decide +kernel
theorem dX6_byteAt_13 : decode cX6_byteAt 13 = .ok (.bipush 16, 2) := by decide +kernel
theorem dX6_byteAt_15 : decode cX6_byteAt 15 = .ok (.if_icmp .ge 16, 3) := by decide +kernel
theorem dX6_byteAt_18 : decode cX6_byteAt 18 = .ok (.aload_n 0, 1) := by decide +kernel
theorem dX6_byteAt_19 : decode cX6_byteAt 19 = .ok (.getfield 11, 3) := by decide +kernel
theorem dX6_byteAt_22 : decode cX6_byteAt 22 = .ok (.iload_n 1, 1) := by decide +kernel
theorem dX6_byteAt_23 : decode cX6_byteAt 23 = .ok (.baload, 1) := by decide +kernel
theorem dX6_byteAt_24 : decode cX6_byteAt 24 = .ok (.sipush 255, 3) := by decide +kernel
theorem dX6_byteAt_27 : decode cX6_byteAt 27 = .ok (.iand, 1) := by decide +kernel
theorem dX6_byteAt_28 : decode cX6_byteAt 28 = .ok (.goto 4, 3) := by decide +kernel
theorem dX6_byteAt_31 : decode cX6_byteAt 31 = .ok (.iconst 0, 1) := by decide +kernel
theorem dX6_byteAt_32 : decode cX6_byteAt 32 = .ok (.ireturn, 1) := by decide +kernel
theorem dX6_tell_0 : decode cX6_tell 0 = .ok (.aload_n 0, 1) := by decide +kernel
theorem dX6_tell_1 : decode cX6_tell 1 = .ok (.iconst 0, 1) := by decide +kernel
theorem dX6_tell_2 : decode cX6_tell 2 = .ok (.putfield 15, 3) := by decide +kernel
theorem dX6_tell_5 : decode cX6_tell 5 = .ok (.aload_n 0, 1) := by decide +kernel
theorem dX6_tell_6 : decode cX6_tell 6 = .ok (.iconst 0, 1) := by decide +kernel
theorem dX6_tell_7 : decode cX6_tell 7 = .ok (.putfield 19, 3) := by decide +kernel
theorem dX6_tell_10 : decode cX6_tell 10 = .ok (.aload_n 0, 1) := by decide +kernel
theorem dX6_tell_11 : decode cX6_tell 11 = .ok (.iconst 0, 1) := by decide +kernel
theorem dX6_tell_12 : decode cX6_tell 12 = .ok (.invokevirtual 33, 3) := by decide +kernel
theorem dX6_tell_15 : decode cX6_tell 15 = .ok (.aload_n 0, 1) := by decide +kernel
theorem dX6_tell_16 : decode cX6_tell 16 = .ok (.invokevirtual 37, 3) := by decide +kernel
theorem dX6_tell_19 : decode cX6_tell 19 = .ok (.aload_n 0, 1) := by decide +kernel
theorem dX6_tell_20 : decode cX6_tell 20 = .ok (.iconst 0, 1) := by decide +kernel
theorem dX6_tell_21 : decode cX6_tell 21 = .ok (.putfield 22, 3) := by decide +kernel
theorem dX6_tell_24 : decode cX6_tell 24 = .ok (.aload_n 0, 1) := by decide +kernel
theorem dX6_tell_25 : decode cX6_tell 25 = .ok (.ldc 25, 2) := by decide +kernel
theorem dX6_tell_27 : decode cX6_tell 27 = .ok (.putfield 26, 3) := by decide +kernel
theorem dX6_tell_30 : decode cX6_tell 30 = .ok (.aload_n 0, 1) := by decide +kernel
theorem dX6_tell_31 : decode cX6_tell 31 = .ok (.aload_n 1, 1) := by decide +kernel
theorem dX6_tell_32 : decode cX6_tell 32 = .ok (.invokevirtual 40, 3) := by decide +kernel
theorem dX6_tell_35 : decode cX6_tell 35 = .ok (.iconst 4, 1) := by decide +kernel
theorem dX6_tell_36 : decode cX6_tell 36 = .ok (.invokevirtual 45, 3) := by decide +kernel
theorem dX6_tell_39 : decode cX6_tell 39 = .ok (.aload_n 0, 1) := by decide +kernel
theorem dX6_tell_40 : decode cX6_tell 40 = .ok (.aload_n 1, 1) := by decide +kernel
theorem dX6_tell_41 : decode cX6_tell 41 = .ok (.invokevirtual 49, 3) := by decide +kernel
theorem dX6_tell_44 : decode cX6_tell 44 = .ok (.bipush 20, 2) := by decide +kernel
theorem dX6_tell_46 : decode cX6_tell 46 = .ok (.invokevirtual 45, 3) := by decide +kernel
theorem dX6_tell_49 : decode cX6_tell 49 = .ok (.iconst 0, 1) := by decide +kernel
theorem dX6_tell_50 : decode cX6_tell 50 = .ok (.istore_n 2, 1) := by decide +kernel
theorem dX6_tell_51 : decode cX6_tell 51 = .ok (.iload_n 2, 1) := by decide +kernel
theorem dX6_tell_52 : decode cX6_tell 52 = .ok (.iconst 4, 1) := by decide +kernel
theorem dX6_tell_53 : decode cX6_tell 53 = .ok (.if_icmp .ge 23, 3) := by decide +kernel
theorem dX6_tell_56 : decode cX6_tell 56 = .ok (.aload_n 0, 1) := by decide +kernel
theorem dX6_tell_57 : decode cX6_tell 57 = .ok (.aload_n 1, 1) := by decide +kernel
theorem dX6_tell_58 : decode cX6_tell 58 = .ok (.iload_n 2, 1) := by decide +kernel
theorem dX6_tell_59 : decode cX6_tell 59 = .ok (.invokevirtual 52, 3) := by decide +kernel
theorem dX6_tell_62 : decode cX6_tell 62 = .ok (.aload_n 1, 1) := by decide +kernel
theorem dX6_tell_63 : decode cX6_tell 63 = .ok (.iload_n 2, 1) := by decide +kernel
theorem dX6_tell_64 : decode cX6_tell 64 = .ok (.invokevirtual 56, 3) := by decide +kernel
theorem dX6_tell_67 : decode cX6_tell 67 = .ok (.invokevirtual 45, 3) := by decide +kernel
theorem dX6_tell_70 : decode cX6_tell 70 = .ok (.iinc 2 1, 3) := by decide +kernel
theorem dX6_tell_73 : decode cX6_tell 73 = .ok (.goto (-22), 3) := by decide +kernel
theorem dX6_tell_76 : decode cX6_tell 76 = .ok (.aload_n 0, 1) := by decide +kernel
theorem dX6_tell_77 : decode cX6_tell 77 = .ok (.aload_n 0, 1) := by decide +kernel
theorem dX6_tell_78 : decode cX6_tell 78 = .ok (.getfield 26, 3) := by decide +kernel
theorem dX6_tell_81 : decode cX6_tell 81 = .ok (.ldc 25, 2) := by decide +kernel
theorem dX6_tell_83 : decode cX6_tell 83 = .ok (.ixor, 1) := by decide +kernel
theorem dX6_tell_84 : decode cX6_tell 84 = .ok (.bipush 16, 2) := by decide +kernel
theorem dX6_tell_86 : decode cX6_tell 86 = .ok (.invokevirtual 45, 3) := by decide +kernel
theorem dX6_tell_89 : decode cX6_tell 89 = .ok (.aload_n 0, 1) := by decide +kernel
theorem dX6_tell_90 : decode cX6_tell 90 = .ok (.invokevirtual 37, 3) := by decide +kernel
theorem dX6_tell_93 : decode cX6_tell 93 = .ok (.iconst 0, 1) := by decide +kernel
theorem dX6_tell_94 : decode cX6_tell 94 = .ok (.istore_n 2, 1) := by decide +kernel
theorem dX6_tell_95 : decode cX6_tell 95 = .ok (.iload_n 2, 1) := by decide +kernel
theorem dX6_tell_96 : decode cX6_tell 96 = .ok (.bipush 8, 2) := by decide +kernel
theorem dX6_tell_98 : decode cX6_tell 98 = .ok (.if_icmp .ge 24, 3) := by decide +kernel
theorem dX6_tell_101 : decode cX6_tell 101 = .ok (.aload_n 0, 1) := by decide +kernel
theorem dX6_tell_102 : decode cX6_tell 102 = .ok (.getfield 15, 3) := by decide +kernel
theorem dX6_tell_105 : decode cX6_tell 105 = .ok (.bipush 7, 2) := by decide +kernel
theorem dX6_tell_107 : decode cX6_tell 107 = .ok (.iand, 1) := by decide +kernel
theorem dX6_tell_108 : decode cX6_tell 108 = .ok (.ifCond .eq 14, 3) := by decide +kernel
theorem dX6_tell_111 : decode cX6_tell 111 = .ok (.aload_n 0, 1) := by decide +kernel
theorem dX6_tell_112 : decode cX6_tell 112 = .ok (.iconst 0, 1) := by decide +kernel
theorem dX6_tell_113 : decode cX6_tell 113 = .ok (.invokevirtual 33, 3) := by decide +kernel
theorem dX6_tell_116 : decode cX6_tell 116 = .ok (.iinc 2 1, 3) := by decide +kernel
theorem dX6_tell_119 : decode cX6_tell 119 = .ok (.goto (-24), 3) := by decide +kernel
theorem dX6_tell_122 : decode cX6_tell 122 = .ok (.return_, 1) := by decide +kernel
theorem dX6_addMark_0 : decode cX6_addMark 0 = .ok (.aload_n 0, 1) := by decide +kernel
theorem dX6_addMark_1 : decode cX6_addMark 1 = .ok (.iconst 0, 1) := by decide +kernel
theorem dX6_addMark_2 : decode cX6_addMark 2 = .ok (.invokevirtual 33, 3) := by decide +kernel
theorem dX6_addMark_5 : decode cX6_addMark 5 = .ok (.iconst 0, 1) := by decide +kernel
theorem dX6_addMark_6 : decode cX6_addMark 6 = .ok (.istore_n 1, 1) := by decide +kernel
theorem dX6_addMark_7 : decode cX6_addMark 7 = .ok (.iload_n 1, 1) := by decide +kernel
theorem dX6_addMark_8 : decode cX6_addMark 8 = .ok (.bipush 6, 2) := by decide +kernel
theorem dX6_addMark_10 : decode cX6_addMark 10 = .ok (.if_icmp .ge 14, 3) := by decide +kernel
theorem dX6_addMark_13 : decode cX6_addMark 13 = .ok (.aload_n 0, 1) := by decide +kernel
theorem dX6_addMark_14 : decode cX6_addMark 14 = .ok (.iconst 1, 1) := by decide +kernel
theorem dX6_addMark_15 : decode cX6_addMark 15 = .ok (.invokevirtual 33, 3) := by decide +kernel
theorem dX6_addMark_18 : decode cX6_addMark 18 = .ok (.iinc 1 1, 3) := by decide +kernel
theorem dX6_addMark_21 : decode cX6_addMark 21 = .ok (.goto (-14), 3) := by decide +kernel
theorem dX6_addMark_24 : decode cX6_addMark 24 = .ok (.aload_n 0, 1) := by decide +kernel
theorem dX6_addMark_25 : decode cX6_addMark 25 = .ok (.iconst 0, 1) := by decide +kernel
theorem dX6_addMark_26 : decode cX6_addMark 26 = .ok (.invokevirtual 33, 3) := by decide +kernel
theorem dX6_addMark_29 : decode cX6_addMark 29 = .ok (.return_, 1) := by decide +kernel
theorem dX6_addNumber_0 : decode cX6_addNumber 0 = .ok (.iload_n 2, 1) := by decide +kernel
theorem dX6_addNumber_1 : decode cX6_addNumber 1 = .ok (.iconst 1, 1) := by decide +kernel
theorem dX6_addNumber_2 : decode cX6_addNumber 2 = .ok (.isub, 1) := by decide +kernel
theorem dX6_addNumber_3 : decode cX6_addNumber 3 = .ok (.istore_n 3, 1) := by decide +kernel
theorem dX6_addNumber_4 : decode cX6_addNumber 4 = .ok (.iload_n 3, 1) := by decide +kernel
theorem dX6_addNumber_5 : decode cX6_addNumber 5 = .ok (.ifCond .lt 18, 3) := by decide +kernel
theorem dX6_addNumber_8 : decode cX6_addNumber 8 = .ok (.aload_n 0, 1) := by decide +kernel
theorem dX6_addNumber_9 : decode cX6_addNumber 9 = .ok (.iload_n 1, 1) := by decide +kernel
theorem dX6_addNumber_10 : decode cX6_addNumber 10 = .ok (.iload_n 3, 1) := by decide +kernel
theorem dX6_addNumber_11 : decode cX6_addNumber 11 = .ok (.ishr, 1) := by decide +kernel
theorem dX6_addNumber_12 : decode cX6_addNumber 12 = .ok (.iconst 1, 1) := by decide +kernel
theorem dX6_addNumber_13 : decode cX6_addNumber 13 = .ok (.iand, 1) := by decide +kernel
theorem dX6_addNumber_14 : decode cX6_addNumber 14 = .ok (.invokevirtual 61, 3) := by decide +kernel
theorem dX6_addNumber_17 : decode cX6_addNumber 17 = .ok (.iinc 3 (-1), 3) := by decide +kernel
theorem dX6_addNumber_20 : decode cX6_addNumber 20 = .ok (.goto (-16), 3) := by decide +kernel
theorem dX6_addNumber_23 : decode cX6_addNumber 23 = .ok (.return_, 1) := by decide +kernel
theorem dX6_addStuffed_0 : decode cX6_addStuffed 0 = .ok (.aload_n 0, 1) := by decide +kernel
theorem dX6_addStuffed_1 : decode cX6_addStuffed 1 = .ok (.aload_n 0, 1) := by decide +kernel
theorem dX6_addStuffed_2 : decode cX6_addStuffed 2 = .ok (.getfield 26, 3) := by decide +kernel
theorem dX6_addStuffed_5 : decode cX6_addStuffed 5 = .ok (.iload_n 1, 1) := by decide +kernel
theorem dX6_addStuffed_6 : decode cX6_addStuffed 6 = .ok (.invokestatic 64, 3) := by decide +kernel
theorem dX6_addStuffed_9 : decode cX6_addStuffed 9 = .ok (.putfield 26, 3) := by decide +kernel
theorem dX6_addStuffed_12 : decode cX6_addStuffed 12 = .ok (.aload_n 0, 1) := by decide +kernel
theorem dX6_addStuffed_13 : decode cX6_addStuffed 13 = .ok (.iload_n 1, 1) := by decide +kernel
theorem dX6_addStuffed_14 : decode cX6_addStuffed 14 = .ok (.invokevirtual 33, 3) := by decide +kernel
theorem dX6_addStuffed_17 : decode cX6_addStuffed 17 = .ok (.aload_n 0, 1) := by decide +kernel
theorem dX6_addStuffed_18 : decode cX6_addStuffed 18 = .ok (.iload_n 1, 1) := by decide +kernel
theorem dX6_addStuffed_19 : decode cX6_addStuffed 19 = .ok (.iconst 1, 1) := by decide +kernel
theorem dX6_addStuffed_20 : decode cX6_addStuffed 20 = .ok (.if_icmp .ne 12, 3) := by decide +kernel
theorem dX6_addStuffed_23 : decode cX6_addStuffed 23 = .ok (.aload_n 0, 1) := by decide +kernel
theorem dX6_addStuffed_24 : decode cX6_addStuffed 24 = .ok (.getfield 22, 3) := by decide +kernel
theorem dX6_addStuffed_27 : decode cX6_addStuffed 27 = .ok (.iconst 1, 1) := by decide +kernel
theorem dX6_addStuffed_28 : decode cX6_addStuffed 28 = .ok (.iadd, 1) := by decide +kernel
theorem dX6_addStuffed_29 : decode cX6_addStuffed 29 = .ok (.goto 4, 3) := by decide +kernel
theorem dX6_addStuffed_32 : decode cX6_addStuffed 32 = .ok (.iconst 0, 1) := by decide +kernel
theorem dX6_addStuffed_33 : decode cX6_addStuffed 33 = .ok (.putfield 22, 3) := by decide +kernel
theorem dX6_addStuffed_36 : decode cX6_addStuffed 36 = .ok (.aload_n 0, 1) := by decide +kernel
theorem dX6_addStuffed_37 : decode cX6_addStuffed 37 = .ok (.getfield 22, 3) := by decide +kernel
theorem dX6_addStuffed_40 : decode cX6_addStuffed 40 = .ok (.iconst 5, 1) := by decide +kernel
theorem dX6_addStuffed_41 : decode cX6_addStuffed 41 = .ok (.if_icmp .ne 13, 3) := by decide +kernel
theorem dX6_addStuffed_44 : decode cX6_addStuffed 44 = .ok (.aload_n 0, 1) := by decide +kernel
theorem dX6_addStuffed_45 : decode cX6_addStuffed 45 = .ok (.iconst 0, 1) := by decide +kernel
theorem dX6_addStuffed_46 : decode cX6_addStuffed 46 = .ok (.invokevirtual 33, 3) := by decide +kernel
theorem dX6_addStuffed_49 : decode cX6_addStuffed 49 = .ok (.aload_n 0, 1) := by decide +kernel
theorem dX6_addStuffed_50 : decode cX6_addStuffed 50 = .ok (.iconst 0, 1) := by decide +kernel
theorem dX6_addStuffed_51 : decode cX6_addStuffed 51 = .ok (.putfield 22, 3) := by decide +kernel
theorem dX6_addStuffed_54 : decode cX6_addStuffed 54 = .ok (.return_, 1) := by decide +kernel
theorem dX6_addBit_0 : decode cX6_addBit 0 = .ok (.aload_n 0, 1) := by decide +kernel
theorem dX6_addBit_1 : decode cX6_addBit 1 = .ok (.getfield 15, 3) := by decide +kernel
theorem dX6_addBit_4 : decode cX6_addBit 4 = .ok (.iconst 3, 1) := by decide +kernel
theorem dX6_addBit_5 : decode cX6_addBit 5 = .ok (.ishr, 1) := by decide +kernel
theorem dX6_addBit_6 : decode cX6_addBit 6 = .ok (.istore_n 2, 1) := by decide +kernel
theorem dX6_addBit_7 : decode cX6_addBit 7 = .ok (.iload_n 2, 1) := by decide +kernel
theorem dX6_addBit_8 : decode cX6_addBit 8 = .ok (.bipush 16, 2) := by decide +kernel
theorem dX6_addBit_10 : decode cX6_addBit 10 = .ok (.if_icmp .lt 4, 3) := by decide +kernel
theorem dX6_addBit_13 : decode cX6_addBit 13 = .ok (.return_, 1) := by decide +kernel
theorem dX6_addBit_14 : decode cX6_addBit 14 = .ok (.aload_n 0, 1) := by decide +kernel
theorem dX6_addBit_15 : decode cX6_addBit 15 = .ok (.iload_n 1, 1) := by decide +kernel
theorem dX6_addBit_16 : decode cX6_addBit 16 = .ok (.iconst 1, 1) := by decide +kernel
theorem dX6_addBit_17 : decode cX6_addBit 17 = .ok (.if_icmp .ne 10, 3) := by decide +kernel
theorem dX6_addBit_20 : decode cX6_addBit 20 = .ok (.aload_n 0, 1) := by decide +kernel
theorem dX6_addBit_21 : decode cX6_addBit 21 = .ok (.getfield 19, 3) := by decide +kernel
theorem dX6_addBit_24 : decode cX6_addBit 24 = .ok (.goto 9, 3) := by decide +kernel
theorem dX6_addBit_27 : decode cX6_addBit 27 = .ok (.iconst 1, 1) := by decide +kernel
theorem dX6_addBit_28 : decode cX6_addBit 28 = .ok (.aload_n 0, 1) := by decide +kernel
theorem dX6_addBit_29 : decode cX6_addBit 29 = .ok (.getfield 19, 3) := by decide +kernel
theorem dX6_addBit_32 : decode cX6_addBit 32 = .ok (.isub, 1) := by decide +kernel
theorem dX6_addBit_33 : decode cX6_addBit 33 = .ok (.putfield 19, 3) := by decide +kernel
theorem dX6_addBit_36 : decode cX6_addBit 36 = .ok (.aload_n 0, 1) := by decide +kernel
theorem dX6_addBit_37 : decode cX6_addBit 37 = .ok (.getfield 15, 3) := by decide +kernel
theorem dX6_addBit_40 : decode cX6_addBit 40 = .ok (.bipush 7, 2) := by decide +kernel
theorem dX6_addBit_42 : decode cX6_addBit 42 = .ok (.iand, 1) := by decide +kernel
theorem dX6_addBit_43 : decode cX6_addBit 43 = .ok (.ifCond .ne 7, 3) := by decide +kernel
theorem dX6_addBit_46 : decode cX6_addBit 46 = .ok (.iconst 0, 1) := by decide +kernel
theorem dX6_addBit_47 : decode cX6_addBit 47 = .ok (.goto 9, 3) := by decide +kernel
theorem dX6_addBit_50 : decode cX6_addBit 50 = .ok (.aload_n 0, 1) := by decide +kernel
theorem dX6_addBit_51 : decode cX6_addBit 51 = .ok (.getfield 11, 3) := by decide +kernel
theorem dX6_addBit_54 : decode cX6_addBit 54 = .ok (.iload_n 2, 1) := by decide +kernel
theorem dX6_addBit_55 : decode cX6_addBit 55 = .ok (.baload, 1) := by decide +kernel
theorem dX6_addBit_56 : decode cX6_addBit 56 = .ok (.istore_n 3, 1) := by decide +kernel
theorem dX6_addBit_57 : decode cX6_addBit 57 = .ok (.aload_n 0, 1) := by decide +kernel
theorem dX6_addBit_58 : decode cX6_addBit 58 = .ok (.getfield 11, 3) := by decide +kernel
theorem dX6_addBit_61 : decode cX6_addBit 61 = .ok (.iload_n 2, 1) := by decide +kernel
theorem dX6_addBit_62 : decode cX6_addBit 62 = .ok (.iload_n 3, 1) := by decide +kernel
theorem dX6_addBit_63 : decode cX6_addBit 63 = .ok (.aload_n 0, 1) := by decide +kernel
theorem dX6_addBit_64 : decode cX6_addBit 64 = .ok (.getfield 19, 3) := by decide +kernel
theorem dX6_addBit_67 : decode cX6_addBit 67 = .ok (.bipush 7, 2) := by decide +kernel
theorem dX6_addBit_69 : decode cX6_addBit 69 = .ok (.aload_n 0, 1) := by decide +kernel
theorem dX6_addBit_70 : decode cX6_addBit 70 = .ok (.getfield 15, 3) := by decide +kernel
theorem dX6_addBit_73 : decode cX6_addBit 73 = .ok (.bipush 7, 2) := by decide +kernel
theorem dX6_addBit_75 : decode cX6_addBit 75 = .ok (.iand, 1) := by decide +kernel
theorem dX6_addBit_76 : decode cX6_addBit 76 = .ok (.isub, 1) := by decide +kernel
theorem dX6_addBit_77 : decode cX6_addBit 77 = .ok (.ishl, 1) := by decide +kernel
theorem dX6_addBit_78 : decode cX6_addBit 78 = .ok (.ior, 1) := by decide +kernel
theorem dX6_addBit_79 : decode cX6_addBit 79 = .ok (.i2b, 1) := by decide +kernel
theorem dX6_addBit_80 : decode cX6_addBit 80 = .ok (.bastore, 1) := by decide +kernel
theorem dX6_addBit_81 : decode cX6_addBit 81 = .ok (.aload_n 0, 1) := by decide +kernel
theorem dX6_addBit_82 : decode cX6_addBit 82 = .ok (.dup, 1) := by decide +kernel
theorem dX6_addBit_83 : decode cX6_addBit 83 = .ok (.getfield 15, 3) := by decide +kernel
theorem dX6_addBit_86 : decode cX6_addBit 86 = .ok (.iconst 1, 1) := by decide +kernel
theorem dX6_addBit_87 : decode cX6_addBit 87 = .ok (.iadd, 1) := by decide +kernel
theorem dX6_addBit_88 : decode cX6_addBit 88 = .ok (.putfield 15, 3) := by decide +kernel
theorem dX6_addBit_91 : decode cX6_addBit 91 = .ok (.return_, 1) := by decide +kernel
theorem dX7_init_0 : decode cX7_init 0 = .ok (.aload_n 0, 1) := by decide +kernel
theorem dX7_init_1 : decode cX7_init 1 = .ok (.invokespecial 1, 3) := by decide +kernel
theorem dX7_init_4 : decode cX7_init 4 = .ok (.aload_n 0, 1) := by decide +kernel
theorem dX7_init_5 : decode cX7_init 5 = .ok (.sipush 400, 3) := by decide +kernel
theorem dX7_init_8 : decode cX7_init 8 = .ok (.newarray .byte, 2) := by decide +kernel
theorem dX7_init_10 : decode cX7_init 10 = .ok (.putfield 9, 3) := by decide +kernel
theorem dX7_init_13 : decode cX7_init 13 = .ok (.aload_n 0, 1) := by decide +kernel
theorem dX7_init_14 : decode cX7_init 14 = .ok (.iconst 0, 1) := by decide +kernel
theorem dX7_init_15 : decode cX7_init 15 = .ok (.putfield 13, 3) := by decide +kernel
theorem dX7_init_18 : decode cX7_init 18 = .ok (.return_, 1) := by decide +kernel
theorem dX7_length_0 : decode cX7_length 0 = .ok (.aload_n 0, 1) := by decide +kernel
theorem dX7_length_1 : decode cX7_length 1 = .ok (.getfield 13, 3) := by decide +kernel
theorem dX7_length_4 : decode cX7_length 4 = .ok (.ireturn, 1) := by decide +kernel
theorem dX7_hasRoomFor_0 : decode cX7_hasRoomFor 0 = .ok (.aload_n 0, 1) := by decide +kernel
theorem dX7_hasRoomFor_1 : decode cX7_hasRoomFor 1 = .ok (.getfield 13, 3) := by decide +kernel
theorem dX7_hasRoomFor_4 : decode cX7_hasRoomFor 4 = .ok (.iload_n 1, 1) := by decide +kernel
theorem dX7_hasRoomFor_5 : decode cX7_hasRoomFor 5 = .ok (.iadd, 1) := by decide +kernel
theorem dX7_hasRoomFor_6 : decode cX7_hasRoomFor 6 = .ok (.sipush 400, 3) := by decide +kernel
theorem dX7_hasRoomFor_9 : decode cX7_hasRoomFor 9 = .ok (.if_icmp .gt 7, 3) := by decide +kernel
theorem dX7_hasRoomFor_12 : decode cX7_hasRoomFor 12 = .ok (.iconst 1, 1) := by decide +kernel
theorem dX7_hasRoomFor_13 : decode cX7_hasRoomFor 13 = .ok (.goto 4, 3) := by decide +kernel
theorem dX7_hasRoomFor_16 : decode cX7_hasRoomFor 16 = .ok (.iconst 0, 1) := by decide +kernel
theorem dX7_hasRoomFor_17 : decode cX7_hasRoomFor 17 = .ok (.ireturn, 1) := by decide +kernel
theorem dX7_addNumber_0 : decode cX7_addNumber 0 = .ok (.bipush 24, 2) := by decide +kernel
theorem dX7_addNumber_2 : decode cX7_addNumber 2 = .ok (.istore_n 2, 1) := by decide +kernel
theorem dX7_addNumber_3 : decode cX7_addNumber 3 = .ok (.iload_n 2, 1) := by decide +kernel
theorem dX7_addNumber_4 : decode cX7_addNumber 4 = .ok (.ifCond .lt 42, 3) := by decide +kernel
theorem dX7_addNumber_7 : decode cX7_addNumber 7 = .ok (.aload_n 0, 1) := by decide +kernel
theorem dX7_addNumber_8 : decode cX7_addNumber 8 = .ok (.getfield 13, 3) := by decide +kernel
theorem dX7_addNumber_11 : decode cX7_addNumber 11 = .ok (.sipush 400, 3) := by decide +kernel
theorem dX7_addNumber_14 : decode cX7_addNumber 14 = .ok (.if_icmp .ge 26, 3) := by decide +kernel
theorem dX7_addNumber_17 : decode cX7_addNumber 17 = .ok (.aload_n 0, 1) := by decide +kernel
theorem dX7_addNumber_18 : decode cX7_addNumber 18 = .ok (.getfield 9, 3) := by decide +kernel
theorem dX7_addNumber_21 : decode cX7_addNumber 21 = .ok (.aload_n 0, 1) := by decide +kernel
theorem dX7_addNumber_22 : decode cX7_addNumber 22 = .ok (.getfield 13, 3) := by decide +kernel
theorem dX7_addNumber_25 : decode cX7_addNumber 25 = .ok (.iload_n 1, 1) := by decide +kernel
theorem dX7_addNumber_26 : decode cX7_addNumber 26 = .ok (.iload_n 2, 1) := by decide +kernel
theorem dX7_addNumber_27 : decode cX7_addNumber 27 = .ok (.ishr, 1) := by decide +kernel
theorem dX7_addNumber_28 : decode cX7_addNumber 28 = .ok (.i2b, 1) := by decide +kernel
theorem dX7_addNumber_29 : decode cX7_addNumber 29 = .ok (.bastore, 1) := by decide +kernel
theorem dX7_addNumber_30 : decode cX7_addNumber 30 = .ok (.aload_n 0, 1) := by decide +kernel
theorem dX7_addNumber_31 : decode cX7_addNumber 31 = .ok (.dup, 1) := by decide +kernel
theorem dX7_addNumber_32 : decode cX7_addNumber 32 = .ok (.getfield 13, 3) := by decide +kernel
theorem dX7_addNumber_35 : decode cX7_addNumber 35 = .ok (.iconst 1, 1) := by decide +kernel
theorem dX7_addNumber_36 : decode cX7_addNumber 36 = .ok (.iadd, 1) := by decide +kernel
theorem dX7_addNumber_37 : decode cX7_addNumber 37 = .ok (.putfield 13, 3) := by decide +kernel
theorem dX7_addNumber_40 : decode cX7_addNumber 40 = .ok (.iinc 2 (-8), 3) := by decide +kernel
theorem dX7_addNumber_43 : decode cX7_addNumber 43 = .ok (.goto (-40), 3) := by decide +kernel
theorem dX7_addNumber_46 : decode cX7_addNumber 46 = .ok (.return_, 1) := by decide +kernel
theorem dX7_cutTo_0 : decode cX7_cutTo 0 = .ok (.iload_n 1, 1) := by decide +kernel
theorem dX7_cutTo_1 : decode cX7_cutTo 1 = .ok (.ifCond .lt 11, 3) := by decide +kernel
theorem dX7_cutTo_4 : decode cX7_cutTo 4 = .ok (.iload_n 1, 1) := by decide +kernel
theorem dX7_cutTo_5 : decode cX7_cutTo 5 = .ok (.aload_n 0, 1) := by decide +kernel
theorem dX7_cutTo_6 : decode cX7_cutTo 6 = .ok (.getfield 13, 3) := by decide +kernel
theorem dX7_cutTo_9 : decode cX7_cutTo 9 = .ok (.if_icmp .le 5, 3) := by decide +kernel
theorem dX7_cutTo_12 : decode cX7_cutTo 12 = .ok (.iconst 0, 1) := by decide +kernel
theorem dX7_cutTo_13 : decode cX7_cutTo 13 = .ok (.ireturn, 1) := by decide +kernel
theorem dX7_cutTo_14 : decode cX7_cutTo 14 = .ok (.aload_n 0, 1) := by decide +kernel
theorem dX7_cutTo_15 : decode cX7_cutTo 15 = .ok (.iload_n 1, 1) := by decide +kernel
theorem dX7_cutTo_16 : decode cX7_cutTo 16 = .ok (.putfield 13, 3) := by decide +kernel
theorem dX7_cutTo_19 : decode cX7_cutTo 19 = .ok (.iconst 1, 1) := by decide +kernel
theorem dX7_cutTo_20 : decode cX7_cutTo 20 = .ok (.ireturn, 1) := by decide +kernel
theorem dX7_levelAt_0 : decode cX7_levelAt 0 = .ok (.iload_n 1, 1) := by decide +kernel
theorem dX7_levelAt_1 : decode cX7_levelAt 1 = .ok (.iconst 3, 1) := by decide +kernel
theorem dX7_levelAt_2 : decode cX7_levelAt 2 = .ok (.ishr, 1) := by decide +kernel
theorem dX7_levelAt_3 : decode cX7_levelAt 3 = .ok (.istore_n 2, 1) := by decide +kernel
theorem dX7_levelAt_4 : decode cX7_levelAt 4 = .ok (.iload_n 2, 1) := by decide +kernel
theorem dX7_levelAt_5 : decode cX7_levelAt 5 = .ok (.ifCond .lt 30, 3) := by decide +kernel
theorem dX7_levelAt_8 : decode cX7_levelAt 8 = .ok (.iload_n 2, 1) := by decide +kernel
theorem dX7_levelAt_9 : decode cX7_levelAt 9 = .ok (.aload_n 0, 1) := by decide +kernel
theorem dX7_levelAt_10 : decode cX7_levelAt 10 = .ok (.getfield 13, 3) := by decide +kernel
theorem dX7_levelAt_13 : decode cX7_levelAt 13 = .ok (.if_icmp .ge 22, 3) := by decide +kernel
theorem dX7_levelAt_16 : decode cX7_levelAt 16 = .ok (.aload_n 0, 1) := by decide +kernel
theorem dX7_levelAt_17 : decode cX7_levelAt 17 = .ok (.getfield 9, 3) := by decide +kernel
theorem dX7_levelAt_20 : decode cX7_levelAt 20 = .ok (.iload_n 2, 1) := by decide +kernel
theorem dX7_levelAt_21 : decode cX7_levelAt 21 = .ok (.baload, 1) := by decide +kernel
theorem dX7_levelAt_22 : decode cX7_levelAt 22 = .ok (.bipush 7, 2) := by decide +kernel
theorem dX7_levelAt_24 : decode cX7_levelAt 24 = .ok (.iload_n 1, 1) := by decide +kernel
theorem dX7_levelAt_25 : decode cX7_levelAt 25 = .ok (.bipush 7, 2) := by decide +kernel
theorem dX7_levelAt_27 : decode cX7_levelAt 27 = .ok (.iand, 1) := by decide +kernel
theorem dX7_levelAt_28 : decode cX7_levelAt 28 = .ok (.isub, 1) := by decide +kernel
theorem dX7_levelAt_29 : decode cX7_levelAt 29 = .ok (.ishr, 1) := by decide +kernel
theorem dX7_levelAt_30 : decode cX7_levelAt 30 = .ok (.iconst 1, 1) := by decide +kernel
theorem dX7_levelAt_31 : decode cX7_levelAt 31 = .ok (.iand, 1) := by decide +kernel
theorem dX7_levelAt_32 : decode cX7_levelAt 32 = .ok (.goto 4, 3) := by decide +kernel
theorem dX7_levelAt_35 : decode cX7_levelAt 35 = .ok (.iconst 0, 1) := by decide +kernel
theorem dX7_levelAt_36 : decode cX7_levelAt 36 = .ok (.ireturn, 1) := by decide +kernel
theorem dX8_init_0 : decode cX8_init 0 = .ok (.aload_n 0, 1) := by decide +kernel
theorem dX8_init_1 : decode cX8_init 1 = .ok (.invokespecial 3, 3) := by decide +kernel
theorem dX8_init_4 : decode cX8_init 4 = .ok (.aload_n 0, 1) := by decide +kernel
theorem dX8_init_5 : decode cX8_init 5 = .ok (.iconst 4, 1) := by decide +kernel
theorem dX8_init_6 : decode cX8_init 6 = .ok (.newarray .int, 2) := by decide +kernel
theorem dX8_init_8 : decode cX8_init 8 = .ok (.putfield 11, 3) := by decide +kernel
theorem dX8_init_11 : decode cX8_init 11 = .ok (.aload_n 0, 1) := by decide +kernel
theorem dX8_init_12 : decode cX8_init 12 = .ok (.iconst 0, 1) := by decide +kernel
theorem dX8_init_13 : decode cX8_init 13 = .ok (.putfield 15, 3) := by decide +kernel
theorem dX8_init_16 : decode cX8_init 16 = .ok (.aload_n 0, 1) := by decide +kernel
theorem dX8_init_17 : decode cX8_init 17 = .ok (.iconst (-1), 1) := by decide +kernel
theorem dX8_init_18 : decode cX8_init 18 = .ok (.putfield 19, 3) := by decide +kernel
theorem dX8_init_21 : decode cX8_init 21 = .ok (.return_, 1) := by decide +kernel
theorem dX8_kind_0 : decode cX8_kind 0 = .ok (.aload_n 0, 1) := by decide +kernel
theorem dX8_kind_1 : decode cX8_kind 1 = .ok (.getfield 15, 3) := by decide +kernel
theorem dX8_kind_4 : decode cX8_kind 4 = .ok (.ireturn, 1) := by decide +kernel
theorem dX8_ship_0 : decode cX8_ship 0 = .ok (.aload_n 0, 1) := by decide +kernel
theorem dX8_ship_1 : decode cX8_ship 1 = .ok (.getfield 19, 3) := by decide +kernel
theorem dX8_ship_4 : decode cX8_ship 4 = .ok (.ireturn, 1) := by decide +kernel
theorem dX8_number_0 : decode cX8_number 0 = .ok (.iload_n 1, 1) := by decide +kernel
theorem dX8_number_1 : decode cX8_number 1 = .ok (.ifCond .lt 17, 3) := by decide +kernel
theorem dX8_number_4 : decode cX8_number 4 = .ok (.iload_n 1, 1) := by decide +kernel
theorem dX8_number_5 : decode cX8_number 5 = .ok (.iconst 4, 1) := by decide +kernel
theorem dX8_number_6 : decode cX8_number 6 = .ok (.if_icmp .ge 12, 3) := by decide +kernel
theorem dX8_number_9 : decode cX8_number 9 = .ok (.aload_n 0, 1) := by decide +kernel
theorem dX8_number_10 : decode cX8_number 10 = .ok (.getfield 11, 3) := by decide +kernel
theorem dX8_number_13 : decode cX8_number 13 = .ok (.iload_n 1, 1) := by decide +kernel
theorem dX8_number_14 : decode cX8_number 14 = .ok (.iaload, 1) := by decide +kernel
theorem dX8_number_15 : decode cX8_number 15 = .ok (.goto 4, 3) := by decide +kernel
theorem dX8_number_18 : decode cX8_number 18 = .ok (.iconst (-1), 1) := by decide +kernel
theorem dX8_number_19 : decode cX8_number 19 = .ok (.ireturn, 1) := by decide +kernel
theorem dX8_width_0 : decode cX8_width 0 = .ok (.aload_n 0, 1) := by decide +kernel
theorem dX8_width_1 : decode cX8_width 1 = .ok (.getfield 15, 3) := by decide +kernel
theorem dX8_width_4 : decode cX8_width 4 = .ok (.iconst 1, 1) := by decide +kernel
theorem dX8_width_5 : decode cX8_width 5 = .ok (.isub, 1) := by decide +kernel
theorem dX8_width_6 : decode cX8_width 6 = .ok (.iconst 4, 1) := by decide +kernel
theorem dX8_width_7 : decode cX8_width 7 = .ok (.imul, 1) := by decide +kernel
theorem dX8_width_8 : decode cX8_width 8 = .ok (.iload_n 1, 1) := by decide +kernel
theorem dX8_width_9 : decode cX8_width 9 = .ok (.iadd, 1) := by decide +kernel
theorem dX8_width_10 : decode cX8_width 10 = .ok (.istore_n 2, 1) := by decide +kernel
theorem dX8_width_11 : decode cX8_width 11 = .ok (.iload_n 1, 1) := by decide +kernel
theorem dX8_width_12 : decode cX8_width 12 = .ok (.ifCond .lt 28, 3) := by decide +kernel
theorem dX8_width_15 : decode cX8_width 15 = .ok (.iload_n 1, 1) := by decide +kernel
theorem dX8_width_16 : decode cX8_width 16 = .ok (.iconst 4, 1) := by decide +kernel
theorem dX8_width_17 : decode cX8_width 17 = .ok (.if_icmp .ge 23, 3) := by decide +kernel
theorem dX8_width_20 : decode cX8_width 20 = .ok (.iload_n 2, 1) := by decide +kernel
theorem dX8_width_21 : decode cX8_width 21 = .ok (.ifCond .lt 19, 3) := by decide +kernel
theorem dX8_width_24 : decode cX8_width 24 = .ok (.iload_n 2, 1) := by decide +kernel
theorem dX8_width_25 : decode cX8_width 25 = .ok (.getstatic 22, 3) := by decide +kernel
theorem dX8_width_28 : decode cX8_width 28 = .ok (.arraylength, 1) := by decide +kernel
theorem dX8_width_29 : decode cX8_width 29 = .ok (.if_icmp .ge 11, 3) := by decide +kernel
theorem dX8_width_32 : decode cX8_width 32 = .ok (.getstatic 22, 3) := by decide +kernel
theorem dX8_width_35 : decode cX8_width 35 = .ok (.iload_n 2, 1) := by decide +kernel
theorem dX8_width_36 : decode cX8_width 36 = .ok (.iaload, 1) := by decide +kernel
theorem dX8_width_37 : decode cX8_width 37 = .ok (.goto 4, 3) := by decide +kernel
theorem dX8_width_40 : decode cX8_width 40 = .ok (.iconst 0, 1) := by decide +kernel
theorem dX8_width_41 : decode cX8_width 41 = .ok (.ireturn, 1) := by decide +kernel
theorem dX8_readFrom_0 : decode cX8_readFrom 0 = .ok (.aload_n 0, 1) := by decide +kernel
theorem dX8_readFrom_1 : decode cX8_readFrom 1 = .ok (.aload_n 1, 1) := by decide +kernel
theorem dX8_readFrom_2 : decode cX8_readFrom 2 = .ok (.invokevirtual 25, 3) := by decide +kernel
theorem dX8_readFrom_5 : decode cX8_readFrom 5 = .ok (.ifCond .ne 21, 3) := by decide +kernel
theorem dX8_readFrom_8 : decode cX8_readFrom 8 = .ok (.aload_n 0, 1) := by decide +kernel
theorem dX8_readFrom_9 : decode cX8_readFrom 9 = .ok (.iconst 0, 1) := by decide +kernel
theorem dX8_readFrom_10 : decode cX8_readFrom 10 = .ok (.putfield 15, 3) := by decide +kernel
theorem dX8_readFrom_13 : decode cX8_readFrom 13 = .ok (.aload_n 0, 1) := by decide +kernel
theorem dX8_readFrom_14 : decode cX8_readFrom 14 = .ok (.iconst (-1), 1) := by decide +kernel
theorem dX8_readFrom_15 : decode cX8_readFrom 15 = .ok (.putfield 19, 3) := by decide +kernel
theorem dX8_readFrom_18 : decode cX8_readFrom 18 = .ok (.aload_n 0, 1) := by decide +kernel
theorem dX8_readFrom_19 : decode cX8_readFrom 19 = .ok (.iconst (-1), 1) := by decide +kernel
theorem dX8_readFrom_20 : decode cX8_readFrom 20 = .ok (.iconst (-1), 1) := by decide +kernel
theorem dX8_readFrom_21 : decode cX8_readFrom 21 = .ok (.iconst (-1), 1) := by decide +kernel
theorem dX8_readFrom_22 : decode cX8_readFrom 22 = .ok (.iconst (-1), 1) := by decide +kernel
theorem dX8_readFrom_23 : decode cX8_readFrom 23 = .ok (.invokevirtual 29, 3) := by decide +kernel
theorem dX8_readFrom_26 : decode cX8_readFrom 26 = .ok (.return_, 1) := by decide +kernel
theorem dX8_readAll_0 : decode cX8_readAll 0 = .ok (.bipush 24, 2) := by decide +kernel
theorem dX8_readAll_2 : decode cX8_readAll 2 = .ok (.istore_n 2, 1) := by decide +kernel
theorem dX8_readAll_3 : decode cX8_readAll 3 = .ok (.aload_n 1, 1) := by decide +kernel
theorem dX8_readAll_4 : decode cX8_readAll 4 = .ok (.invokevirtual 33, 3) := by decide +kernel
theorem dX8_readAll_7 : decode cX8_readAll 7 = .ok (.iload_n 2, 1) := by decide +kernel
theorem dX8_readAll_8 : decode cX8_readAll 8 = .ok (.if_icmp .ge 5, 3) := by decide +kernel
theorem dX8_readAll_11 : decode cX8_readAll 11 = .ok (.iconst 0, 1) := by decide +kernel
theorem dX8_readAll_12 : decode cX8_readAll 12 = .ok (.ireturn, 1) := by decide +kernel
theorem dX8_readAll_13 : decode cX8_readAll 13 = .ok (.aload_n 0, 1) := by decide +kernel
theorem dX8_readAll_14 : decode cX8_readAll 14 = .ok (.aload_n 1, 1) := by decide +kernel
theorem dX8_readAll_15 : decode cX8_readAll 15 = .ok (.iconst 0, 1) := by decide +kernel
theorem dX8_readAll_16 : decode cX8_readAll 16 = .ok (.iconst 4, 1) := by decide +kernel
theorem dX8_readAll_17 : decode cX8_readAll 17 = .ok (.invokevirtual 39, 3) := by decide +kernel
theorem dX8_readAll_20 : decode cX8_readAll 20 = .ok (.putfield 15, 3) := by decide +kernel
theorem dX8_readAll_23 : decode cX8_readAll 23 = .ok (.aload_n 0, 1) := by decide +kernel
theorem dX8_readAll_24 : decode cX8_readAll 24 = .ok (.aload_n 1, 1) := by decide +kernel
theorem dX8_readAll_25 : decode cX8_readAll 25 = .ok (.iconst 4, 1) := by decide +kernel
theorem dX8_readAll_26 : decode cX8_readAll 26 = .ok (.bipush 20, 2) := by decide +kernel
theorem dX8_readAll_28 : decode cX8_readAll 28 = .ok (.invokevirtual 39, 3) := by decide +kernel
theorem dX8_readAll_31 : decode cX8_readAll 31 = .ok (.putfield 19, 3) := by decide +kernel
theorem dX8_readAll_34 : decode cX8_readAll 34 = .ok (.aload_n 0, 1) := by decide +kernel
theorem dX8_readAll_35 : decode cX8_readAll 35 = .ok (.getfield 15, 3) := by decide +kernel
theorem dX8_readAll_38 : decode cX8_readAll 38 = .ok (.invokestatic 43, 3) := by decide +kernel
theorem dX8_readAll_41 : decode cX8_readAll 41 = .ok (.ifCond .eq 16, 3) := by decide +kernel
theorem dX8_readAll_44 : decode cX8_readAll 44 = .ok (.aload_n 1, 1) := by decide +kernel
theorem dX8_readAll_45 : decode cX8_readAll 45 = .ok (.invokevirtual 33, 3) := by decide +kernel
theorem dX8_readAll_48 : decode cX8_readAll 48 = .ok (.iload_n 2, 1) := by decide +kernel
theorem dX8_readAll_49 : decode cX8_readAll 49 = .ok (.aload_n 0, 1) := by decide +kernel
theorem dX8_readAll_50 : decode cX8_readAll 50 = .ok (.invokevirtual 47, 3) := by decide +kernel
theorem dX8_readAll_53 : decode cX8_readAll 53 = .ok (.iadd, 1) := by decide +kernel
theorem dX8_readAll_54 : decode cX8_readAll 54 = .ok (.if_icmp .eq 5, 3) := by decide +kernel
theorem dX8_readAll_57 : decode cX8_readAll 57 = .ok (.iconst 0, 1) := by decide +kernel
theorem dX8_readAll_58 : decode cX8_readAll 58 = .ok (.ireturn, 1) := by decide +kernel
theorem dX8_readAll_59 : decode cX8_readAll 59 = .ok (.iconst 0, 1) := by decide +kernel
theorem dX8_readAll_60 : decode cX8_readAll 60 = .ok (.istore_n 3, 1) := by decide +kernel
theorem dX8_readAll_61 : decode cX8_readAll 61 = .ok (.iload_n 3, 1) := by decide +kernel
theorem dX8_readAll_62 : decode cX8_readAll 62 = .ok (.iconst 4, 1) := by decide +kernel
theorem dX8_readAll_63 : decode cX8_readAll 63 = .ok (.if_icmp .ge 49, 3) := by decide +kernel
theorem dX8_readAll_66 : decode cX8_readAll 66 = .ok (.aload_n 0, 1) := by decide +kernel
theorem dX8_readAll_67 : decode cX8_readAll 67 = .ok (.iload_n 3, 1) := by decide +kernel
theorem dX8_readAll_68 : decode cX8_readAll 68 = .ok (.invokevirtual 50, 3) := by decide +kernel
theorem dX8_readAll_71 : decode cX8_readAll 71 = .ok (.istore 4, 2) := by decide +kernel
theorem dX8_readAll_73 : decode cX8_readAll 73 = .ok (.aload_n 0, 1) := by decide +kernel
theorem dX8_readAll_74 : decode cX8_readAll 74 = .ok (.getfield 11, 3) := by decide +kernel
theorem dX8_readAll_77 : decode cX8_readAll 77 = .ok (.iload_n 3, 1) := by decide +kernel
theorem dX8_readAll_78 : decode cX8_readAll 78 = .ok (.iload 4, 2) := by decide +kernel
theorem dX8_readAll_80 : decode cX8_readAll 80 = .ok (.ifCond .ne 7, 3) := by decide +kernel
theorem dX8_readAll_83 : decode cX8_readAll 83 = .ok (.iconst (-1), 1) := by decide +kernel
theorem dX8_readAll_84 : decode cX8_readAll 84 = .ok (.goto 16, 3) := by decide +kernel
theorem dX8_readAll_87 : decode cX8_readAll 87 = .ok (.aload_n 0, 1) := by decide +kernel
theorem dX8_readAll_88 : decode cX8_readAll 88 = .ok (.aload_n 1, 1) := by decide +kernel
theorem dX8_readAll_89 : decode cX8_readAll 89 = .ok (.iload_n 2, 1) := by decide +kernel
theorem dX8_readAll_90 : decode cX8_readAll 90 = .ok (.iload 4, 2) := by decide +kernel
theorem dX8_readAll_92 : decode cX8_readAll 92 = .ok (.invokevirtual 39, 3) := by decide +kernel
theorem dX8_readAll_95 : decode cX8_readAll 95 = .ok (.iload 4, 2) := by decide +kernel
theorem dX8_readAll_97 : decode cX8_readAll 97 = .ok (.invokevirtual 54, 3) := by decide +kernel
theorem dX8_readAll_100 : decode cX8_readAll 100 = .ok (.iastore, 1) := by decide +kernel
theorem dX8_readAll_101 : decode cX8_readAll 101 = .ok (.iload_n 2, 1) := by decide +kernel
theorem dX8_readAll_102 : decode cX8_readAll 102 = .ok (.iload 4, 2) := by decide +kernel
theorem dX8_readAll_104 : decode cX8_readAll 104 = .ok (.iadd, 1) := by decide +kernel
theorem dX8_readAll_105 : decode cX8_readAll 105 = .ok (.istore_n 2, 1) := by decide +kernel
theorem dX8_readAll_106 : decode cX8_readAll 106 = .ok (.iinc 3 1, 3) := by decide +kernel
theorem dX8_readAll_109 : decode cX8_readAll 109 = .ok (.goto (-48), 3) := by decide +kernel
theorem dX8_readAll_112 : decode cX8_readAll 112 = .ok (.aload_n 0, 1) := by decide +kernel
theorem dX8_readAll_113 : decode cX8_readAll 113 = .ok (.invokevirtual 57, 3) := by decide +kernel
theorem dX8_readAll_116 : decode cX8_readAll 116 = .ok (.ireturn, 1) := by decide +kernel
theorem dX8_compose_0 : decode cX8_compose 0 = .ok (.iload_n 1, 1) := by decide +kernel
theorem dX8_compose_1 : decode cX8_compose 1 = .ok (.invokestatic 43, 3) := by decide +kernel
theorem dX8_compose_4 : decode cX8_compose 4 = .ok (.ifCond .eq 13, 3) := by decide +kernel
theorem dX8_compose_7 : decode cX8_compose 7 = .ok (.iload_n 2, 1) := by decide +kernel
theorem dX8_compose_8 : decode cX8_compose 8 = .ok (.ifCond .lt 9, 3) := by decide +kernel
theorem dX8_compose_11 : decode cX8_compose 11 = .ok (.iload_n 2, 1) := by decide +kernel
theorem dX8_compose_12 : decode cX8_compose 12 = .ok (.ldc 61, 2) := by decide +kernel
theorem dX8_compose_14 : decode cX8_compose 14 = .ok (.if_icmp .lt 5, 3) := by decide +kernel
theorem dX8_compose_17 : decode cX8_compose 17 = .ok (.iconst 0, 1) := by decide +kernel
theorem dX8_compose_18 : decode cX8_compose 18 = .ok (.ireturn, 1) := by decide +kernel
theorem dX8_compose_19 : decode cX8_compose 19 = .ok (.aload_n 0, 1) := by decide +kernel
theorem dX8_compose_20 : decode cX8_compose 20 = .ok (.iload_n 1, 1) := by decide +kernel
theorem dX8_compose_21 : decode cX8_compose 21 = .ok (.putfield 15, 3) := by decide +kernel
theorem dX8_compose_24 : decode cX8_compose 24 = .ok (.aload_n 0, 1) := by decide +kernel
theorem dX8_compose_25 : decode cX8_compose 25 = .ok (.iload_n 2, 1) := by decide +kernel
theorem dX8_compose_26 : decode cX8_compose 26 = .ok (.putfield 19, 3) := by decide +kernel
theorem dX8_compose_29 : decode cX8_compose 29 = .ok (.iload_n 1, 1) := by decide +kernel
theorem dX8_compose_30 : decode cX8_compose 30 = .ok (.iconst 4, 1) := by decide +kernel
theorem dX8_compose_31 : decode cX8_compose 31 = .ok (.if_icmp .ne 57, 3) := by decide +kernel
theorem dX8_compose_34 : decode cX8_compose 34 = .ok (.iload_n 3, 1) := by decide +kernel
theorem dX8_compose_35 : decode cX8_compose 35 = .ok (.bipush 9, 2) := by decide +kernel
theorem dX8_compose_37 : decode cX8_compose 37 = .ok (.iushr, 1) := by decide +kernel
theorem dX8_compose_38 : decode cX8_compose 38 = .ok (.ifCond .ne 19, 3) := by decide +kernel
theorem dX8_compose_41 : decode cX8_compose 41 = .ok (.iload 4, 2) := by decide +kernel
theorem dX8_compose_43 : decode cX8_compose 43 = .ok (.bipush 10, 2) := by decide +kernel
theorem dX8_compose_45 : decode cX8_compose 45 = .ok (.iushr, 1) := by decide +kernel
theorem dX8_compose_46 : decode cX8_compose 46 = .ok (.ifCond .ne 11, 3) := by decide +kernel
theorem dX8_compose_49 : decode cX8_compose 49 = .ok (.iload 5, 2) := by decide +kernel
theorem dX8_compose_51 : decode cX8_compose 51 = .ok (.bipush 10, 2) := by decide +kernel
theorem dX8_compose_53 : decode cX8_compose 53 = .ok (.iushr, 1) := by decide +kernel
theorem dX8_compose_54 : decode cX8_compose 54 = .ok (.ifCond .eq 5, 3) := by decide +kernel
theorem dX8_compose_57 : decode cX8_compose 57 = .ok (.iconst 0, 1) := by decide +kernel
theorem dX8_compose_58 : decode cX8_compose 58 = .ok (.ireturn, 1) := by decide +kernel
theorem dX8_compose_59 : decode cX8_compose 59 = .ok (.aload_n 0, 1) := by decide +kernel
theorem dX8_compose_60 : decode cX8_compose 60 = .ok (.iload_n 3, 1) := by decide +kernel
theorem dX8_compose_61 : decode cX8_compose 61 = .ok (.bipush 6, 2) := by decide +kernel
theorem dX8_compose_63 : decode cX8_compose 63 = .ok (.ishr, 1) := by decide +kernel
theorem dX8_compose_64 : decode cX8_compose 64 = .ok (.iload_n 3, 1) := by decide +kernel
theorem dX8_compose_65 : decode cX8_compose 65 = .ok (.iconst 3, 1) := by decide +kernel
theorem dX8_compose_66 : decode cX8_compose 66 = .ok (.ishr, 1) := by decide +kernel
theorem dX8_compose_67 : decode cX8_compose 67 = .ok (.bipush 7, 2) := by decide +kernel
theorem dX8_compose_69 : decode cX8_compose 69 = .ok (.iand, 1) := by decide +kernel
theorem dX8_compose_70 : decode cX8_compose 70 = .ok (.iload_n 3, 1) := by decide +kernel
theorem dX8_compose_71 : decode cX8_compose 71 = .ok (.bipush 7, 2) := by decide +kernel
theorem dX8_compose_73 : decode cX8_compose 73 = .ok (.iand, 1) := by decide +kernel
theorem dX8_compose_74 : decode cX8_compose 74 = .ok (.iload 4, 2) := by decide +kernel
theorem dX8_compose_76 : decode cX8_compose 76 = .ok (.bipush 10, 2) := by decide +kernel
theorem dX8_compose_78 : decode cX8_compose 78 = .ok (.ishl, 1) := by decide +kernel
theorem dX8_compose_79 : decode cX8_compose 79 = .ok (.iload 5, 2) := by decide +kernel
theorem dX8_compose_81 : decode cX8_compose 81 = .ok (.ior, 1) := by decide +kernel
theorem dX8_compose_82 : decode cX8_compose 82 = .ok (.invokevirtual 29, 3) := by decide +kernel
theorem dX8_compose_85 : decode cX8_compose 85 = .ok (.goto 14, 3) := by decide +kernel
theorem dX8_compose_88 : decode cX8_compose 88 = .ok (.aload_n 0, 1) := by decide +kernel
theorem dX8_compose_89 : decode cX8_compose 89 = .ok (.iload_n 3, 1) := by decide +kernel
theorem dX8_compose_90 : decode cX8_compose 90 = .ok (.iload 4, 2) := by decide +kernel
theorem dX8_compose_92 : decode cX8_compose 92 = .ok (.iload 5, 2) := by decide +kernel
theorem dX8_compose_94 : decode cX8_compose 94 = .ok (.iload 6, 2) := by decide +kernel
theorem dX8_compose_96 : decode cX8_compose 96 = .ok (.invokevirtual 29, 3) := by decide +kernel
theorem dX8_compose_99 : decode cX8_compose 99 = .ok (.aload_n 0, 1) := by decide +kernel
theorem dX8_compose_100 : decode cX8_compose 100 = .ok (.invokevirtual 62, 3) := by decide +kernel
theorem dX8_compose_103 : decode cX8_compose 103 = .ok (.ifCond .eq 14, 3) := by decide +kernel
theorem dX8_compose_106 : decode cX8_compose 106 = .ok (.aload_n 0, 1) := by decide +kernel
theorem dX8_compose_107 : decode cX8_compose 107 = .ok (.invokevirtual 57, 3) := by decide +kernel
theorem dX8_compose_110 : decode cX8_compose 110 = .ok (.ifCond .eq 7, 3) := by decide +kernel
theorem dX8_compose_113 : decode cX8_compose 113 = .ok (.iconst 1, 1) := by decide +kernel
theorem dX8_compose_114 : decode cX8_compose 114 = .ok (.goto 4, 3) := by decide +kernel
theorem dX8_compose_117 : decode cX8_compose 117 = .ok (.iconst 0, 1) := by decide +kernel
theorem dX8_compose_118 : decode cX8_compose 118 = .ok (.ireturn, 1) := by decide +kernel
theorem dX8_isKind_0 : decode cX8_isKind 0 = .ok (.iload_n 0, 1) := by decide +kernel
theorem dX8_isKind_1 : decode cX8_isKind 1 = .ok (.iconst 1, 1) := by decide +kernel
theorem dX8_isKind_2 : decode cX8_isKind 2 = .ok (.if_icmp .lt 12, 3) := by decide +kernel
theorem dX8_isKind_5 : decode cX8_isKind 5 = .ok (.iload_n 0, 1) := by decide +kernel
theorem dX8_isKind_6 : decode cX8_isKind 6 = .ok (.iconst 5, 1) := by decide +kernel
theorem dX8_isKind_7 : decode cX8_isKind 7 = .ok (.if_icmp .gt 7, 3) := by decide +kernel
theorem dX8_isKind_10 : decode cX8_isKind 10 = .ok (.iconst 1, 1) := by decide +kernel
theorem dX8_isKind_11 : decode cX8_isKind 11 = .ok (.goto 4, 3) := by decide +kernel
theorem dX8_isKind_14 : decode cX8_isKind 14 = .ok (.iconst 0, 1) := by decide +kernel
theorem dX8_isKind_15 : decode cX8_isKind 15 = .ok (.ireturn, 1) := by decide +kernel
theorem dX8_bodyBits_0 : decode cX8_bodyBits 0 = .ok (.iconst 0, 1) := by decide +kernel
theorem dX8_bodyBits_1 : decode cX8_bodyBits 1 = .ok (.istore_n 1, 1) := by decide +kernel
theorem dX8_bodyBits_2 : decode cX8_bodyBits 2 = .ok (.iconst 0, 1) := by decide +kernel
theorem dX8_bodyBits_3 : decode cX8_bodyBits 3 = .ok (.istore_n 2, 1) := by decide +kernel
theorem dX8_bodyBits_4 : decode cX8_bodyBits 4 = .ok (.iload_n 2, 1) := by decide +kernel
theorem dX8_bodyBits_5 : decode cX8_bodyBits 5 = .ok (.iconst 4, 1) := by decide +kernel
theorem dX8_bodyBits_6 : decode cX8_bodyBits 6 = .ok (.if_icmp .ge 17, 3) := by decide +kernel
theorem dX8_bodyBits_9 : decode cX8_bodyBits 9 = .ok (.iload_n 1, 1) := by decide +kernel
theorem dX8_bodyBits_10 : decode cX8_bodyBits 10 = .ok (.aload_n 0, 1) := by decide +kernel
theorem dX8_bodyBits_11 : decode cX8_bodyBits 11 = .ok (.iload_n 2, 1) := by decide +kernel
theorem dX8_bodyBits_12 : decode cX8_bodyBits 12 = .ok (.invokevirtual 50, 3) := by decide +kernel
theorem dX8_bodyBits_15 : decode cX8_bodyBits 15 = .ok (.iadd, 1) := by decide +kernel
theorem dX8_bodyBits_16 : decode cX8_bodyBits 16 = .ok (.istore_n 1, 1) := by decide +kernel
theorem dX8_bodyBits_17 : decode cX8_bodyBits 17 = .ok (.iinc 2 1, 3) := by decide +kernel
theorem dX8_bodyBits_20 : decode cX8_bodyBits 20 = .ok (.goto (-16), 3) := by decide +kernel
theorem dX8_bodyBits_23 : decode cX8_bodyBits 23 = .ok (.iload_n 1, 1) := by decide +kernel
theorem dX8_bodyBits_24 : decode cX8_bodyBits 24 = .ok (.ireturn, 1) := by decide +kernel
theorem dX8_setNumbers_0 : decode cX8_setNumbers 0 = .ok (.aload_n 0, 1) := by decide +kernel
theorem dX8_setNumbers_1 : decode cX8_setNumbers 1 = .ok (.getfield 11, 3) := by decide +kernel
theorem dX8_setNumbers_4 : decode cX8_setNumbers 4 = .ok (.iconst 0, 1) := by decide +kernel
theorem dX8_setNumbers_5 : decode cX8_setNumbers 5 = .ok (.iload_n 1, 1) := by decide +kernel
theorem dX8_setNumbers_6 : decode cX8_setNumbers 6 = .ok (.iastore, 1) := by decide +kernel
theorem dX8_setNumbers_7 : decode cX8_setNumbers 7 = .ok (.aload_n 0, 1) := by decide +kernel
theorem dX8_setNumbers_8 : decode cX8_setNumbers 8 = .ok (.getfield 11, 3) := by decide +kernel
theorem dX8_setNumbers_11 : decode cX8_setNumbers 11 = .ok (.iconst 1, 1) := by decide +kernel
theorem dX8_setNumbers_12 : decode cX8_setNumbers 12 = .ok (.iload_n 2, 1) := by decide +kernel
theorem dX8_setNumbers_13 : decode cX8_setNumbers 13 = .ok (.iastore, 1) := by decide +kernel
theorem dX8_setNumbers_14 : decode cX8_setNumbers 14 = .ok (.aload_n 0, 1) := by decide +kernel
theorem dX8_setNumbers_15 : decode cX8_setNumbers 15 = .ok (.getfield 11, 3) := by decide +kernel
theorem dX8_setNumbers_18 : decode cX8_setNumbers 18 = .ok (.iconst 2, 1) := by decide +kernel
theorem dX8_setNumbers_19 : decode cX8_setNumbers 19 = .ok (.iload_n 3, 1) := by decide +kernel
theorem dX8_setNumbers_20 : decode cX8_setNumbers 20 = .ok (.iastore, 1) := by decide +kernel
theorem dX8_setNumbers_21 : decode cX8_setNumbers 21 = .ok (.aload_n 0, 1) := by decide +kernel
theorem dX8_setNumbers_22 : decode cX8_setNumbers 22 = .ok (.getfield 11, 3) := by decide +kernel
theorem dX8_setNumbers_25 : decode cX8_setNumbers 25 = .ok (.iconst 3, 1) := by decide +kernel
theorem dX8_setNumbers_26 : decode cX8_setNumbers 26 = .ok (.iload 4, 2) := by decide +kernel
theorem dX8_setNumbers_28 : decode cX8_setNumbers 28 = .ok (.iastore, 1) := by decide +kernel
theorem dX8_setNumbers_29 : decode cX8_setNumbers 29 = .ok (.return_, 1) := by decide +kernel
theorem dX8_signed_0 : decode cX8_signed 0 = .ok (.aload_n 0, 1) := by decide +kernel
theorem dX8_signed_1 : decode cX8_signed 1 = .ok (.getfield 15, 3) := by decide +kernel
theorem dX8_signed_4 : decode cX8_signed 4 = .ok (.iconst 1, 1) := by decide +kernel
theorem dX8_signed_5 : decode cX8_signed 5 = .ok (.if_icmp .ne 18, 3) := by decide +kernel
theorem dX8_signed_8 : decode cX8_signed 8 = .ok (.iload_n 1, 1) := by decide +kernel
theorem dX8_signed_9 : decode cX8_signed 9 = .ok (.iload_n 2, 1) := by decide +kernel
theorem dX8_signed_10 : decode cX8_signed 10 = .ok (.iconst 1, 1) := by decide +kernel
theorem dX8_signed_11 : decode cX8_signed 11 = .ok (.isub, 1) := by decide +kernel
theorem dX8_signed_12 : decode cX8_signed 12 = .ok (.ishr, 1) := by decide +kernel
theorem dX8_signed_13 : decode cX8_signed 13 = .ok (.iconst 1, 1) := by decide +kernel
theorem dX8_signed_14 : decode cX8_signed 14 = .ok (.iand, 1) := by decide +kernel
theorem dX8_signed_15 : decode cX8_signed 15 = .ok (.iconst 1, 1) := by decide +kernel
theorem dX8_signed_16 : decode cX8_signed 16 = .ok (.if_icmp .ne 7, 3) := by decide +kernel
theorem dX8_signed_19 : decode cX8_signed 19 = .ok (.iconst 1, 1) := by decide +kernel
theorem dX8_signed_20 : decode cX8_signed 20 = .ok (.goto 4, 3) := by decide +kernel
theorem dX8_signed_23 : decode cX8_signed 23 = .ok (.iconst 0, 1) := by decide +kernel
theorem dX8_signed_24 : decode cX8_signed 24 = .ok (.istore_n 3, 1) := by decide +kernel
theorem dX8_signed_25 : decode cX8_signed 25 = .ok (.iload_n 3, 1) := by decide +kernel
theorem dX8_signed_26 : decode cX8_signed 26 = .ok (.ifCond .eq 11, 3) := by decide +kernel
theorem dX8_signed_29 : decode cX8_signed 29 = .ok (.iload_n 1, 1) := by decide +kernel
theorem dX8_signed_30 : decode cX8_signed 30 = .ok (.iconst 1, 1) := by decide +kernel
theorem dX8_signed_31 : decode cX8_signed 31 = .ok (.iload_n 2, 1) := by decide +kernel
theorem dX8_signed_32 : decode cX8_signed 32 = .ok (.ishl, 1) := by decide +kernel
theorem dX8_signed_33 : decode cX8_signed 33 = .ok (.isub, 1) := by decide +kernel
theorem dX8_signed_34 : decode cX8_signed 34 = .ok (.goto 4, 3) := by decide +kernel
theorem dX8_signed_37 : decode cX8_signed 37 = .ok (.iload_n 1, 1) := by decide +kernel
theorem dX8_signed_38 : decode cX8_signed 38 = .ok (.ireturn, 1) := by decide +kernel
theorem dX8_areInFields_0 : decode cX8_areInFields 0 = .ok (.iconst 0, 1) := by decide +kernel
theorem dX8_areInFields_1 : decode cX8_areInFields 1 = .ok (.istore_n 1, 1) := by decide +kernel
theorem dX8_areInFields_2 : decode cX8_areInFields 2 = .ok (.iload_n 1, 1) := by decide +kernel
theorem dX8_areInFields_3 : decode cX8_areInFields 3 = .ok (.iconst 4, 1) := by decide +kernel
theorem dX8_areInFields_4 : decode cX8_areInFields 4 = .ok (.if_icmp .ge 35, 3) := by decide +kernel
theorem dX8_areInFields_7 : decode cX8_areInFields 7 = .ok (.aload_n 0, 1) := by decide +kernel
theorem dX8_areInFields_8 : decode cX8_areInFields 8 = .ok (.iload_n 1, 1) := by decide +kernel
theorem dX8_areInFields_9 : decode cX8_areInFields 9 = .ok (.invokevirtual 50, 3) := by decide +kernel
theorem dX8_areInFields_12 : decode cX8_areInFields 12 = .ok (.istore_n 2, 1) := by decide +kernel
theorem dX8_areInFields_13 : decode cX8_areInFields 13 = .ok (.iload_n 2, 1) := by decide +kernel
theorem dX8_areInFields_14 : decode cX8_areInFields 14 = .ok (.ifCond .le 19, 3) := by decide +kernel
theorem dX8_areInFields_17 : decode cX8_areInFields 17 = .ok (.aload_n 0, 1) := by decide +kernel
theorem dX8_areInFields_18 : decode cX8_areInFields 18 = .ok (.aload_n 0, 1) := by decide +kernel
theorem dX8_areInFields_19 : decode cX8_areInFields 19 = .ok (.getfield 11, 3) := by decide +kernel
theorem dX8_areInFields_22 : decode cX8_areInFields 22 = .ok (.iload_n 1, 1) := by decide +kernel
theorem dX8_areInFields_23 : decode cX8_areInFields 23 = .ok (.iaload, 1) := by decide +kernel
theorem dX8_areInFields_24 : decode cX8_areInFields 24 = .ok (.iload_n 2, 1) := by decide +kernel
theorem dX8_areInFields_25 : decode cX8_areInFields 25 = .ok (.invokevirtual 65, 3) := by decide +kernel
theorem dX8_areInFields_28 : decode cX8_areInFields 28 = .ok (.ifCond .ne 5, 3) := by decide +kernel
theorem dX8_areInFields_31 : decode cX8_areInFields 31 = .ok (.iconst 0, 1) := by decide +kernel
theorem dX8_areInFields_32 : decode cX8_areInFields 32 = .ok (.ireturn, 1) := by decide +kernel
theorem dX8_areInFields_33 : decode cX8_areInFields 33 = .ok (.iinc 1 1, 3) := by decide +kernel
theorem dX8_areInFields_36 : decode cX8_areInFields 36 = .ok (.goto (-34), 3) := by decide +kernel
theorem dX8_areInFields_39 : decode cX8_areInFields 39 = .ok (.iconst 1, 1) := by decide +kernel
theorem dX8_areInFields_40 : decode cX8_areInFields 40 = .ok (.ireturn, 1) := by decide +kernel
theorem dX8_fits_0 : decode cX8_fits 0 = .ok (.aload_n 0, 1) := by decide +kernel
theorem dX8_fits_1 : decode cX8_fits 1 = .ok (.getfield 15, 3) := by decide +kernel
theorem dX8_fits_4 : decode cX8_fits 4 = .ok (.iconst 1, 1) := by decide +kernel
theorem dX8_fits_5 : decode cX8_fits 5 = .ok (.if_icmp .ne 26, 3) := by decide +kernel
theorem dX8_fits_8 : decode cX8_fits 8 = .ok (.iconst 1, 1) := by decide +kernel
theorem dX8_fits_9 : decode cX8_fits 9 = .ok (.iload_n 2, 1) := by decide +kernel
theorem dX8_fits_10 : decode cX8_fits 10 = .ok (.iconst 1, 1) := by decide +kernel
theorem dX8_fits_11 : decode cX8_fits 11 = .ok (.isub, 1) := by decide +kernel
theorem dX8_fits_12 : decode cX8_fits 12 = .ok (.ishl, 1) := by decide +kernel
theorem dX8_fits_13 : decode cX8_fits 13 = .ok (.istore_n 3, 1) := by decide +kernel
theorem dX8_fits_14 : decode cX8_fits 14 = .ok (.iload_n 1, 1) := by decide +kernel
theorem dX8_fits_15 : decode cX8_fits 15 = .ok (.iload_n 3, 1) := by decide +kernel
theorem dX8_fits_16 : decode cX8_fits 16 = .ok (.ineg, 1) := by decide +kernel
theorem dX8_fits_17 : decode cX8_fits 17 = .ok (.if_icmp .lt 12, 3) := by decide +kernel
theorem dX8_fits_20 : decode cX8_fits 20 = .ok (.iload_n 1, 1) := by decide +kernel
theorem dX8_fits_21 : decode cX8_fits 21 = .ok (.iload_n 3, 1) := by decide +kernel
theorem dX8_fits_22 : decode cX8_fits 22 = .ok (.if_icmp .ge 7, 3) := by decide +kernel
theorem dX8_fits_25 : decode cX8_fits 25 = .ok (.iconst 1, 1) := by decide +kernel
theorem dX8_fits_26 : decode cX8_fits 26 = .ok (.goto 4, 3) := by decide +kernel
theorem dX8_fits_29 : decode cX8_fits 29 = .ok (.iconst 0, 1) := by decide +kernel
theorem dX8_fits_30 : decode cX8_fits 30 = .ok (.ireturn, 1) := by decide +kernel
theorem dX8_fits_31 : decode cX8_fits 31 = .ok (.iload_n 1, 1) := by decide +kernel
theorem dX8_fits_32 : decode cX8_fits 32 = .ok (.iload_n 2, 1) := by decide +kernel
theorem dX8_fits_33 : decode cX8_fits 33 = .ok (.iushr, 1) := by decide +kernel
theorem dX8_fits_34 : decode cX8_fits 34 = .ok (.ifCond .ne 7, 3) := by decide +kernel
