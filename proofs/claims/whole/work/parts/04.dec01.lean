theorem dX8_fits_37 : decode cX8_fits 37 = .ok (.iconst 1, 1) := by decide +kernel
theorem dX8_fits_38 : decode cX8_fits 38 = .ok (.goto 4, 3) := by decide +kernel
theorem dX8_fits_41 : decode cX8_fits 41 = .ok (.iconst 0, 1) := by decide +kernel
theorem dX8_fits_42 : decode cX8_fits 42 = .ok (.ireturn, 1) := by decide +kernel
theorem dX8_isAsTold_0 : decode cX8_isAsTold 0 = .ok (.aload_n 0, 1) := by decide +kernel
theorem dX8_isAsTold_1 : decode cX8_isAsTold 1 = .ok (.getfield 15, 3) := by decide +kernel
theorem dX8_isAsTold_4 : decode cX8_isAsTold 4 = .ok (.tableswitch 145 2 5 #[32, 145, 64, 118], 32) := by decide +kernel
theorem dX8_isAsTold_36 : decode cX8_isAsTold 36 = .ok (.aload_n 0, 1) := by decide +kernel
theorem dX8_isAsTold_37 : decode cX8_isAsTold 37 = .ok (.getfield 11, 3) := by decide +kernel
theorem dX8_isAsTold_40 : decode cX8_isAsTold 40 = .ok (.iconst 0, 1) := by decide +kernel
theorem dX8_isAsTold_41 : decode cX8_isAsTold 41 = .ok (.iaload, 1) := by decide +kernel
theorem dX8_isAsTold_42 : decode cX8_isAsTold 42 = .ok (.iconst 3, 1) := by decide +kernel
theorem dX8_isAsTold_43 : decode cX8_isAsTold 43 = .ok (.invokestatic 69, 3) := by decide +kernel
theorem dX8_isAsTold_46 : decode cX8_isAsTold 46 = .ok (.ifCond .eq 20, 3) := by decide +kernel
theorem dX8_isAsTold_49 : decode cX8_isAsTold 49 = .ok (.aload_n 0, 1) := by decide +kernel
theorem dX8_isAsTold_50 : decode cX8_isAsTold 50 = .ok (.getfield 11, 3) := by decide +kernel
theorem dX8_isAsTold_53 : decode cX8_isAsTold 53 = .ok (.iconst 1, 1) := by decide +kernel
theorem dX8_isAsTold_54 : decode cX8_isAsTold 54 = .ok (.iaload, 1) := by decide +kernel
theorem dX8_isAsTold_55 : decode cX8_isAsTold 55 = .ok (.iconst 3, 1) := by decide +kernel
theorem dX8_isAsTold_56 : decode cX8_isAsTold 56 = .ok (.invokestatic 69, 3) := by decide +kernel
theorem dX8_isAsTold_59 : decode cX8_isAsTold 59 = .ok (.ifCond .eq 7, 3) := by decide +kernel
theorem dX8_isAsTold_62 : decode cX8_isAsTold 62 = .ok (.iconst 1, 1) := by decide +kernel
theorem dX8_isAsTold_63 : decode cX8_isAsTold 63 = .ok (.goto 4, 3) := by decide +kernel
theorem dX8_isAsTold_66 : decode cX8_isAsTold 66 = .ok (.iconst 0, 1) := by decide +kernel
theorem dX8_isAsTold_67 : decode cX8_isAsTold 67 = .ok (.ireturn, 1) := by decide +kernel
theorem dX8_isAsTold_68 : decode cX8_isAsTold 68 = .ok (.aload_n 0, 1) := by decide +kernel
theorem dX8_isAsTold_69 : decode cX8_isAsTold 69 = .ok (.getfield 11, 3) := by decide +kernel
theorem dX8_isAsTold_72 : decode cX8_isAsTold 72 = .ok (.iconst 2, 1) := by decide +kernel
theorem dX8_isAsTold_73 : decode cX8_isAsTold 73 = .ok (.iaload, 1) := by decide +kernel
theorem dX8_isAsTold_74 : decode cX8_isAsTold 74 = .ok (.iconst 2, 1) := by decide +kernel
theorem dX8_isAsTold_75 : decode cX8_isAsTold 75 = .ok (.if_icmp .lt 45, 3) := by decide +kernel
theorem dX8_isAsTold_78 : decode cX8_isAsTold 78 = .ok (.aload_n 0, 1) := by decide +kernel
theorem dX8_isAsTold_79 : decode cX8_isAsTold 79 = .ok (.getfield 11, 3) := by decide +kernel
theorem dX8_isAsTold_82 : decode cX8_isAsTold 82 = .ok (.iconst 2, 1) := by decide +kernel
theorem dX8_isAsTold_83 : decode cX8_isAsTold 83 = .ok (.iaload, 1) := by decide +kernel
theorem dX8_isAsTold_84 : decode cX8_isAsTold 84 = .ok (.iconst 5, 1) := by decide +kernel
theorem dX8_isAsTold_85 : decode cX8_isAsTold 85 = .ok (.if_icmp .gt 35, 3) := by decide +kernel
theorem dX8_isAsTold_88 : decode cX8_isAsTold 88 = .ok (.aload_n 0, 1) := by decide +kernel
theorem dX8_isAsTold_89 : decode cX8_isAsTold 89 = .ok (.getfield 11, 3) := by decide +kernel
theorem dX8_isAsTold_92 : decode cX8_isAsTold 92 = .ok (.iconst 1, 1) := by decide +kernel
theorem dX8_isAsTold_93 : decode cX8_isAsTold 93 = .ok (.iaload, 1) := by decide +kernel
theorem dX8_isAsTold_94 : decode cX8_isAsTold 94 = .ok (.aload_n 0, 1) := by decide +kernel
theorem dX8_isAsTold_95 : decode cX8_isAsTold 95 = .ok (.getfield 11, 3) := by decide +kernel
theorem dX8_isAsTold_98 : decode cX8_isAsTold 98 = .ok (.iconst 2, 1) := by decide +kernel
theorem dX8_isAsTold_99 : decode cX8_isAsTold 99 = .ok (.iaload, 1) := by decide +kernel
theorem dX8_isAsTold_100 : decode cX8_isAsTold 100 = .ok (.if_icmp .ge 20, 3) := by decide +kernel
theorem dX8_isAsTold_103 : decode cX8_isAsTold 103 = .ok (.aload_n 0, 1) := by decide +kernel
theorem dX8_isAsTold_104 : decode cX8_isAsTold 104 = .ok (.getfield 11, 3) := by decide +kernel
theorem dX8_isAsTold_107 : decode cX8_isAsTold 107 = .ok (.iconst 3, 1) := by decide +kernel
theorem dX8_isAsTold_108 : decode cX8_isAsTold 108 = .ok (.iaload, 1) := by decide +kernel
theorem dX8_isAsTold_109 : decode cX8_isAsTold 109 = .ok (.iconst 4, 1) := by decide +kernel
theorem dX8_isAsTold_110 : decode cX8_isAsTold 110 = .ok (.invokestatic 69, 3) := by decide +kernel
theorem dX8_isAsTold_113 : decode cX8_isAsTold 113 = .ok (.ifCond .eq 7, 3) := by decide +kernel
theorem dX8_isAsTold_116 : decode cX8_isAsTold 116 = .ok (.iconst 1, 1) := by decide +kernel
theorem dX8_isAsTold_117 : decode cX8_isAsTold 117 = .ok (.goto 4, 3) := by decide +kernel
theorem dX8_isAsTold_120 : decode cX8_isAsTold 120 = .ok (.iconst 0, 1) := by decide +kernel
theorem dX8_isAsTold_121 : decode cX8_isAsTold 121 = .ok (.ireturn, 1) := by decide +kernel
theorem dX8_isAsTold_122 : decode cX8_isAsTold 122 = .ok (.aload_n 0, 1) := by decide +kernel
theorem dX8_isAsTold_123 : decode cX8_isAsTold 123 = .ok (.getfield 11, 3) := by decide +kernel
theorem dX8_isAsTold_126 : decode cX8_isAsTold 126 = .ok (.iconst 0, 1) := by decide +kernel
theorem dX8_isAsTold_127 : decode cX8_isAsTold 127 = .ok (.iaload, 1) := by decide +kernel
theorem dX8_isAsTold_128 : decode cX8_isAsTold 128 = .ok (.sipush 2250, 3) := by decide +kernel
theorem dX8_isAsTold_131 : decode cX8_isAsTold 131 = .ok (.if_icmp .ge 16, 3) := by decide +kernel
theorem dX8_isAsTold_134 : decode cX8_isAsTold 134 = .ok (.aload_n 0, 1) := by decide +kernel
theorem dX8_isAsTold_135 : decode cX8_isAsTold 135 = .ok (.getfield 11, 3) := by decide +kernel
theorem dX8_isAsTold_138 : decode cX8_isAsTold 138 = .ok (.iconst 1, 1) := by decide +kernel
theorem dX8_isAsTold_139 : decode cX8_isAsTold 139 = .ok (.iaload, 1) := by decide +kernel
theorem dX8_isAsTold_140 : decode cX8_isAsTold 140 = .ok (.ifCond .le 7, 3) := by decide +kernel
theorem dX8_isAsTold_143 : decode cX8_isAsTold 143 = .ok (.iconst 1, 1) := by decide +kernel
theorem dX8_isAsTold_144 : decode cX8_isAsTold 144 = .ok (.goto 4, 3) := by decide +kernel
theorem dX8_isAsTold_147 : decode cX8_isAsTold 147 = .ok (.iconst 0, 1) := by decide +kernel
theorem dX8_isAsTold_148 : decode cX8_isAsTold 148 = .ok (.ireturn, 1) := by decide +kernel
theorem dX8_isAsTold_149 : decode cX8_isAsTold 149 = .ok (.iconst 1, 1) := by decide +kernel
theorem dX8_isAsTold_150 : decode cX8_isAsTold 150 = .ok (.ireturn, 1) := by decide +kernel
theorem dX8_areLetters_0 : decode cX8_areLetters 0 = .ok (.iconst 0, 1) := by decide +kernel
theorem dX8_areLetters_1 : decode cX8_areLetters 1 = .ok (.istore_n 2, 1) := by decide +kernel
theorem dX8_areLetters_2 : decode cX8_areLetters 2 = .ok (.iload_n 2, 1) := by decide +kernel
theorem dX8_areLetters_3 : decode cX8_areLetters 3 = .ok (.iload_n 1, 1) := by decide +kernel
theorem dX8_areLetters_4 : decode cX8_areLetters 4 = .ok (.if_icmp .ge 24, 3) := by decide +kernel
theorem dX8_areLetters_7 : decode cX8_areLetters 7 = .ok (.iload_n 0, 1) := by decide +kernel
theorem dX8_areLetters_8 : decode cX8_areLetters 8 = .ok (.iload_n 2, 1) := by decide +kernel
theorem dX8_areLetters_9 : decode cX8_areLetters 9 = .ok (.iconst 5, 1) := by decide +kernel
theorem dX8_areLetters_10 : decode cX8_areLetters 10 = .ok (.imul, 1) := by decide +kernel
theorem dX8_areLetters_11 : decode cX8_areLetters 11 = .ok (.ishr, 1) := by decide +kernel
theorem dX8_areLetters_12 : decode cX8_areLetters 12 = .ok (.bipush 31, 2) := by decide +kernel
theorem dX8_areLetters_14 : decode cX8_areLetters 14 = .ok (.iand, 1) := by decide +kernel
theorem dX8_areLetters_15 : decode cX8_areLetters 15 = .ok (.bipush 26, 2) := by decide +kernel
theorem dX8_areLetters_17 : decode cX8_areLetters 17 = .ok (.if_icmp .le 5, 3) := by decide +kernel
theorem dX8_areLetters_20 : decode cX8_areLetters 20 = .ok (.iconst 0, 1) := by decide +kernel
theorem dX8_areLetters_21 : decode cX8_areLetters 21 = .ok (.ireturn, 1) := by decide +kernel
theorem dX8_areLetters_22 : decode cX8_areLetters 22 = .ok (.iinc 2 1, 3) := by decide +kernel
theorem dX8_areLetters_25 : decode cX8_areLetters 25 = .ok (.goto (-23), 3) := by decide +kernel
theorem dX8_areLetters_28 : decode cX8_areLetters 28 = .ok (.iconst 1, 1) := by decide +kernel
theorem dX8_areLetters_29 : decode cX8_areLetters 29 = .ok (.ireturn, 1) := by decide +kernel
theorem dX9_init_0 : decode cX9_init 0 = .ok (.aload_n 0, 1) := by decide +kernel
theorem dX9_init_1 : decode cX9_init 1 = .ok (.invokespecial 7, 3) := by decide +kernel
theorem dX9_init_4 : decode cX9_init 4 = .ok (.aload_n 0, 1) := by decide +kernel
theorem dX9_init_5 : decode cX9_init 5 = .ok (.sipush 200, 3) := by decide +kernel
theorem dX9_init_8 : decode cX9_init 8 = .ok (.newarray .boolean, 2) := by decide +kernel
theorem dX9_init_10 : decode cX9_init 10 = .ok (.putfield 13, 3) := by decide +kernel
theorem dX9_init_13 : decode cX9_init 13 = .ok (.aload_n 0, 1) := by decide +kernel
theorem dX9_init_14 : decode cX9_init 14 = .ok (.sipush 500, 3) := by decide +kernel
theorem dX9_init_17 : decode cX9_init 17 = .ok (.newarray .int, 2) := by decide +kernel
theorem dX9_init_19 : decode cX9_init 19 = .ok (.putfield 19, 3) := by decide +kernel
theorem dX9_init_22 : decode cX9_init 22 = .ok (.aload_n 0, 1) := by decide +kernel
theorem dX9_init_23 : decode cX9_init 23 = .ok (.bipush 100, 2) := by decide +kernel
theorem dX9_init_25 : decode cX9_init 25 = .ok (.newarray .int, 2) := by decide +kernel
theorem dX9_init_27 : decode cX9_init 27 = .ok (.putfield 23, 3) := by decide +kernel
theorem dX9_init_30 : decode cX9_init 30 = .ok (.aload_n 0, 1) := by decide +kernel
theorem dX9_init_31 : decode cX9_init 31 = .ok (.iconst 5, 1) := by decide +kernel
theorem dX9_init_32 : decode cX9_init 32 = .ok (.newarray .int, 2) := by decide +kernel
theorem dX9_init_34 : decode cX9_init 34 = .ok (.putfield 26, 3) := by decide +kernel
theorem dX9_init_37 : decode cX9_init 37 = .ok (.aload_n 0, 1) := by decide +kernel
theorem dX9_init_38 : decode cX9_init 38 = .ok (.iconst 0, 1) := by decide +kernel
theorem dX9_init_39 : decode cX9_init 39 = .ok (.putfield 29, 3) := by decide +kernel
theorem dX9_init_42 : decode cX9_init 42 = .ok (.return_, 1) := by decide +kernel
theorem dX9_joined_0 : decode cX9_joined 0 = .ok (.aload_n 0, 1) := by decide +kernel
theorem dX9_joined_1 : decode cX9_joined 1 = .ok (.getfield 29, 3) := by decide +kernel
theorem dX9_joined_4 : decode cX9_joined 4 = .ok (.ireturn, 1) := by decide +kernel
theorem dX9_wholeWith_0 : decode cX9_wholeWith 0 = .ok (.iload_n 1, 1) := by decide +kernel
theorem dX9_wholeWith_1 : decode cX9_wholeWith 1 = .ok (.ifCond .lt 26, 3) := by decide +kernel
theorem dX9_wholeWith_4 : decode cX9_wholeWith 4 = .ok (.iload_n 1, 1) := by decide +kernel
theorem dX9_wholeWith_5 : decode cX9_wholeWith 5 = .ok (.aload_n 0, 1) := by decide +kernel
theorem dX9_wholeWith_6 : decode cX9_wholeWith 6 = .ok (.getfield 29, 3) := by decide +kernel
theorem dX9_wholeWith_9 : decode cX9_wholeWith 9 = .ok (.if_icmp .ge 18, 3) := by decide +kernel
theorem dX9_wholeWith_12 : decode cX9_wholeWith 12 = .ok (.iload_n 1, 1) := by decide +kernel
theorem dX9_wholeWith_13 : decode cX9_wholeWith 13 = .ok (.bipush 100, 2) := by decide +kernel
theorem dX9_wholeWith_15 : decode cX9_wholeWith 15 = .ok (.if_icmp .ge 12, 3) := by decide +kernel
theorem dX9_wholeWith_18 : decode cX9_wholeWith 18 = .ok (.aload_n 0, 1) := by decide +kernel
theorem dX9_wholeWith_19 : decode cX9_wholeWith 19 = .ok (.getfield 23, 3) := by decide +kernel
theorem dX9_wholeWith_22 : decode cX9_wholeWith 22 = .ok (.iload_n 1, 1) := by decide +kernel
theorem dX9_wholeWith_23 : decode cX9_wholeWith 23 = .ok (.iaload, 1) := by decide +kernel
theorem dX9_wholeWith_24 : decode cX9_wholeWith 24 = .ok (.goto 4, 3) := by decide +kernel
theorem dX9_wholeWith_27 : decode cX9_wholeWith 27 = .ok (.iconst (-1), 1) := by decide +kernel
theorem dX9_wholeWith_28 : decode cX9_wholeWith 28 = .ok (.ireturn, 1) := by decide +kernel
theorem dX9_lettersIn_0 : decode cX9_lettersIn 0 = .ok (.aload_n 1, 1) := by decide +kernel
theorem dX9_lettersIn_1 : decode cX9_lettersIn 1 = .ok (.aload_n 0, 1) := by decide +kernel
theorem dX9_lettersIn_2 : decode cX9_lettersIn 2 = .ok (.iload_n 2, 1) := by decide +kernel
theorem dX9_lettersIn_3 : decode cX9_lettersIn 3 = .ok (.invokevirtual 33, 3) := by decide +kernel
theorem dX9_lettersIn_6 : decode cX9_lettersIn 6 = .ok (.bipush 6, 2) := by decide +kernel
theorem dX9_lettersIn_8 : decode cX9_lettersIn 8 = .ok (.invokevirtual 37, 3) := by decide +kernel
theorem dX9_lettersIn_11 : decode cX9_lettersIn 11 = .ok (.iconst 4, 1) := by decide +kernel
theorem dX9_lettersIn_12 : decode cX9_lettersIn 12 = .ok (.imul, 1) := by decide +kernel
theorem dX9_lettersIn_13 : decode cX9_lettersIn 13 = .ok (.ireturn, 1) := by decide +kernel
theorem dX9_letterOf_0 : decode cX9_letterOf 0 = .ok (.iload_n 2, 1) := by decide +kernel
theorem dX9_letterOf_1 : decode cX9_letterOf 1 = .ok (.iconst 5, 1) := by decide +kernel
theorem dX9_letterOf_2 : decode cX9_letterOf 2 = .ok (.imul, 1) := by decide +kernel
theorem dX9_letterOf_3 : decode cX9_letterOf 3 = .ok (.iload_n 3, 1) := by decide +kernel
theorem dX9_letterOf_4 : decode cX9_letterOf 4 = .ok (.iconst 4, 1) := by decide +kernel
theorem dX9_letterOf_5 : decode cX9_letterOf 5 = .ok (.idiv, 1) := by decide +kernel
theorem dX9_letterOf_6 : decode cX9_letterOf 6 = .ok (.iadd, 1) := by decide +kernel
theorem dX9_letterOf_7 : decode cX9_letterOf 7 = .ok (.istore 4, 2) := by decide +kernel
theorem dX9_letterOf_9 : decode cX9_letterOf 9 = .ok (.iload_n 3, 1) := by decide +kernel
theorem dX9_letterOf_10 : decode cX9_letterOf 10 = .ok (.ifCond .lt 18, 3) := by decide +kernel
theorem dX9_letterOf_13 : decode cX9_letterOf 13 = .ok (.iload 4, 2) := by decide +kernel
theorem dX9_letterOf_15 : decode cX9_letterOf 15 = .ok (.ifCond .lt 13, 3) := by decide +kernel
theorem dX9_letterOf_18 : decode cX9_letterOf 18 = .ok (.iload 4, 2) := by decide +kernel
theorem dX9_letterOf_20 : decode cX9_letterOf 20 = .ok (.aload_n 0, 1) := by decide +kernel
theorem dX9_letterOf_21 : decode cX9_letterOf 21 = .ok (.getfield 19, 3) := by decide +kernel
theorem dX9_letterOf_24 : decode cX9_letterOf 24 = .ok (.arraylength, 1) := by decide +kernel
theorem dX9_letterOf_25 : decode cX9_letterOf 25 = .ok (.if_icmp .lt 5, 3) := by decide +kernel
theorem dX9_letterOf_28 : decode cX9_letterOf 28 = .ok (.iconst (-1), 1) := by decide +kernel
theorem dX9_letterOf_29 : decode cX9_letterOf 29 = .ok (.ireturn, 1) := by decide +kernel
theorem dX9_letterOf_30 : decode cX9_letterOf 30 = .ok (.iconst 3, 1) := by decide +kernel
theorem dX9_letterOf_31 : decode cX9_letterOf 31 = .ok (.iload_n 3, 1) := by decide +kernel
theorem dX9_letterOf_32 : decode cX9_letterOf 32 = .ok (.iconst 4, 1) := by decide +kernel
theorem dX9_letterOf_33 : decode cX9_letterOf 33 = .ok (.irem, 1) := by decide +kernel
theorem dX9_letterOf_34 : decode cX9_letterOf 34 = .ok (.isub, 1) := by decide +kernel
theorem dX9_letterOf_35 : decode cX9_letterOf 35 = .ok (.istore 5, 2) := by decide +kernel
theorem dX9_letterOf_37 : decode cX9_letterOf 37 = .ok (.aload_n 1, 1) := by decide +kernel
theorem dX9_letterOf_38 : decode cX9_letterOf 38 = .ok (.aload_n 0, 1) := by decide +kernel
theorem dX9_letterOf_39 : decode cX9_letterOf 39 = .ok (.getfield 19, 3) := by decide +kernel
theorem dX9_letterOf_42 : decode cX9_letterOf 42 = .ok (.iload 4, 2) := by decide +kernel
theorem dX9_letterOf_44 : decode cX9_letterOf 44 = .ok (.iaload, 1) := by decide +kernel
theorem dX9_letterOf_45 : decode cX9_letterOf 45 = .ok (.bipush 7, 2) := by decide +kernel
theorem dX9_letterOf_47 : decode cX9_letterOf 47 = .ok (.invokevirtual 37, 3) := by decide +kernel
theorem dX9_letterOf_50 : decode cX9_letterOf 50 = .ok (.iload 5, 2) := by decide +kernel
theorem dX9_letterOf_52 : decode cX9_letterOf 52 = .ok (.iconst 5, 1) := by decide +kernel
theorem dX9_letterOf_53 : decode cX9_letterOf 53 = .ok (.imul, 1) := by decide +kernel
theorem dX9_letterOf_54 : decode cX9_letterOf 54 = .ok (.ishr, 1) := by decide +kernel
theorem dX9_letterOf_55 : decode cX9_letterOf 55 = .ok (.bipush 31, 2) := by decide +kernel
theorem dX9_letterOf_57 : decode cX9_letterOf 57 = .ok (.iand, 1) := by decide +kernel
theorem dX9_letterOf_58 : decode cX9_letterOf 58 = .ok (.ireturn, 1) := by decide +kernel
theorem dX9_note_0 : decode cX9_note 0 = .ok (.aload_n 1, 1) := by decide +kernel
theorem dX9_note_1 : decode cX9_note 1 = .ok (.iload_n 2, 1) := by decide +kernel
theorem dX9_note_2 : decode cX9_note 2 = .ok (.bipush 6, 2) := by decide +kernel
theorem dX9_note_4 : decode cX9_note 4 = .ok (.invokevirtual 37, 3) := by decide +kernel
theorem dX9_note_7 : decode cX9_note 7 = .ok (.istore_n 3, 1) := by decide +kernel
theorem dX9_note_8 : decode cX9_note 8 = .ok (.aload_n 0, 1) := by decide +kernel
theorem dX9_note_9 : decode cX9_note 9 = .ok (.getfield 29, 3) := by decide +kernel
theorem dX9_note_12 : decode cX9_note 12 = .ok (.bipush 100, 2) := by decide +kernel
theorem dX9_note_14 : decode cX9_note 14 = .ok (.if_icmp .ge 25, 3) := by decide +kernel
theorem dX9_note_17 : decode cX9_note 17 = .ok (.iload_n 3, 1) := by decide +kernel
theorem dX9_note_18 : decode cX9_note 18 = .ok (.iconst 5, 1) := by decide +kernel
theorem dX9_note_19 : decode cX9_note 19 = .ok (.if_icmp .gt 20, 3) := by decide +kernel
theorem dX9_note_22 : decode cX9_note 22 = .ok (.aload_n 0, 1) := by decide +kernel
theorem dX9_note_23 : decode cX9_note 23 = .ok (.aload_n 1, 1) := by decide +kernel
theorem dX9_note_24 : decode cX9_note 24 = .ok (.iload_n 2, 1) := by decide +kernel
theorem dX9_note_25 : decode cX9_note 25 = .ok (.iload_n 3, 1) := by decide +kernel
theorem dX9_note_26 : decode cX9_note 26 = .ok (.invokevirtual 41, 3) := by decide +kernel
theorem dX9_note_29 : decode cX9_note 29 = .ok (.ifCond .eq 10, 3) := by decide +kernel
theorem dX9_note_32 : decode cX9_note 32 = .ok (.aload_n 0, 1) := by decide +kernel
theorem dX9_note_33 : decode cX9_note 33 = .ok (.aload_n 1, 1) := by decide +kernel
theorem dX9_note_34 : decode cX9_note 34 = .ok (.iload_n 2, 1) := by decide +kernel
theorem dX9_note_35 : decode cX9_note 35 = .ok (.iload_n 3, 1) := by decide +kernel
theorem dX9_note_36 : decode cX9_note 36 = .ok (.invokevirtual 45, 3) := by decide +kernel
theorem dX9_note_39 : decode cX9_note 39 = .ok (.return_, 1) := by decide +kernel
theorem dX9_findNewest_0 : decode cX9_findNewest 0 = .ok (.iconst 0, 1) := by decide +kernel
theorem dX9_findNewest_1 : decode cX9_findNewest 1 = .ok (.istore 4, 2) := by decide +kernel
theorem dX9_findNewest_3 : decode cX9_findNewest 3 = .ok (.iload 4, 2) := by decide +kernel
theorem dX9_findNewest_5 : decode cX9_findNewest 5 = .ok (.iconst 5, 1) := by decide +kernel
theorem dX9_findNewest_6 : decode cX9_findNewest 6 = .ok (.if_icmp .ge 17, 3) := by decide +kernel
theorem dX9_findNewest_9 : decode cX9_findNewest 9 = .ok (.aload_n 0, 1) := by decide +kernel
theorem dX9_findNewest_10 : decode cX9_findNewest 10 = .ok (.getfield 26, 3) := by decide +kernel
theorem dX9_findNewest_13 : decode cX9_findNewest 13 = .ok (.iload 4, 2) := by decide +kernel
theorem dX9_findNewest_15 : decode cX9_findNewest 15 = .ok (.iconst (-1), 1) := by decide +kernel
theorem dX9_findNewest_16 : decode cX9_findNewest 16 = .ok (.iastore, 1) := by decide +kernel
theorem dX9_findNewest_17 : decode cX9_findNewest 17 = .ok (.iinc 4 1, 3) := by decide +kernel
theorem dX9_findNewest_20 : decode cX9_findNewest 20 = .ok (.goto (-17), 3) := by decide +kernel
theorem dX9_findNewest_23 : decode cX9_findNewest 23 = .ok (.iconst 0, 1) := by decide +kernel
theorem dX9_findNewest_24 : decode cX9_findNewest 24 = .ok (.istore 4, 2) := by decide +kernel
theorem dX9_findNewest_26 : decode cX9_findNewest 26 = .ok (.iconst 0, 1) := by decide +kernel
theorem dX9_findNewest_27 : decode cX9_findNewest 27 = .ok (.istore 5, 2) := by decide +kernel
theorem dX9_findNewest_29 : decode cX9_findNewest 29 = .ok (.iload 5, 2) := by decide +kernel
theorem dX9_findNewest_31 : decode cX9_findNewest 31 = .ok (.iload_n 2, 1) := by decide +kernel
theorem dX9_findNewest_32 : decode cX9_findNewest 32 = .ok (.if_icmp .gt 87, 3) := by decide +kernel
theorem dX9_findNewest_35 : decode cX9_findNewest 35 = .ok (.iload 5, 2) := by decide +kernel
theorem dX9_findNewest_37 : decode cX9_findNewest 37 = .ok (.sipush 200, 3) := by decide +kernel
theorem dX9_findNewest_40 : decode cX9_findNewest 40 = .ok (.if_icmp .ge 79, 3) := by decide +kernel
theorem dX9_findNewest_43 : decode cX9_findNewest 43 = .ok (.aload_n 1, 1) := by decide +kernel
theorem dX9_findNewest_44 : decode cX9_findNewest 44 = .ok (.iload 5, 2) := by decide +kernel
theorem dX9_findNewest_46 : decode cX9_findNewest 46 = .ok (.iconst 5, 1) := by decide +kernel
theorem dX9_findNewest_47 : decode cX9_findNewest 47 = .ok (.invokevirtual 37, 3) := by decide +kernel
theorem dX9_findNewest_50 : decode cX9_findNewest 50 = .ok (.istore 6, 2) := by decide +kernel
theorem dX9_findNewest_52 : decode cX9_findNewest 52 = .ok (.aload_n 0, 1) := by decide +kernel
theorem dX9_findNewest_53 : decode cX9_findNewest 53 = .ok (.getfield 13, 3) := by decide +kernel
theorem dX9_findNewest_56 : decode cX9_findNewest 56 = .ok (.iload 5, 2) := by decide +kernel
theorem dX9_findNewest_58 : decode cX9_findNewest 58 = .ok (.baload, 1) := by decide +kernel
theorem dX9_findNewest_59 : decode cX9_findNewest 59 = .ok (.ifCond .ne 54, 3) := by decide +kernel
theorem dX9_findNewest_62 : decode cX9_findNewest 62 = .ok (.aload_n 1, 1) := by decide +kernel
theorem dX9_findNewest_63 : decode cX9_findNewest 63 = .ok (.iload 5, 2) := by decide +kernel
theorem dX9_findNewest_65 : decode cX9_findNewest 65 = .ok (.iload_n 2, 1) := by decide +kernel
theorem dX9_findNewest_66 : decode cX9_findNewest 66 = .ok (.invokestatic 49, 3) := by decide +kernel
theorem dX9_findNewest_69 : decode cX9_findNewest 69 = .ok (.ifCond .eq 44, 3) := by decide +kernel
theorem dX9_findNewest_72 : decode cX9_findNewest 72 = .ok (.iload 6, 2) := by decide +kernel
theorem dX9_findNewest_74 : decode cX9_findNewest 74 = .ok (.ifCond .lt 39, 3) := by decide +kernel
theorem dX9_findNewest_77 : decode cX9_findNewest 77 = .ok (.iload 6, 2) := by decide +kernel
theorem dX9_findNewest_79 : decode cX9_findNewest 79 = .ok (.iload_n 3, 1) := by decide +kernel
theorem dX9_findNewest_80 : decode cX9_findNewest 80 = .ok (.if_icmp .ge 33, 3) := by decide +kernel
theorem dX9_findNewest_83 : decode cX9_findNewest 83 = .ok (.iload 4, 2) := by decide +kernel
theorem dX9_findNewest_85 : decode cX9_findNewest 85 = .ok (.aload_n 0, 1) := by decide +kernel
theorem dX9_findNewest_86 : decode cX9_findNewest 86 = .ok (.getfield 26, 3) := by decide +kernel
theorem dX9_findNewest_89 : decode cX9_findNewest 89 = .ok (.iload 6, 2) := by decide +kernel
theorem dX9_findNewest_91 : decode cX9_findNewest 91 = .ok (.iaload, 1) := by decide +kernel
theorem dX9_findNewest_92 : decode cX9_findNewest 92 = .ok (.iconst (-1), 1) := by decide +kernel
theorem dX9_findNewest_93 : decode cX9_findNewest 93 = .ok (.if_icmp .ne 7, 3) := by decide +kernel
theorem dX9_findNewest_96 : decode cX9_findNewest 96 = .ok (.iconst 1, 1) := by decide +kernel
theorem dX9_findNewest_97 : decode cX9_findNewest 97 = .ok (.goto 4, 3) := by decide +kernel
theorem dX9_findNewest_100 : decode cX9_findNewest 100 = .ok (.iconst 0, 1) := by decide +kernel
theorem dX9_findNewest_101 : decode cX9_findNewest 101 = .ok (.iadd, 1) := by decide +kernel
theorem dX9_findNewest_102 : decode cX9_findNewest 102 = .ok (.istore 4, 2) := by decide +kernel
theorem dX9_findNewest_104 : decode cX9_findNewest 104 = .ok (.aload_n 0, 1) := by decide +kernel
theorem dX9_findNewest_105 : decode cX9_findNewest 105 = .ok (.getfield 26, 3) := by decide +kernel
theorem dX9_findNewest_108 : decode cX9_findNewest 108 = .ok (.iload 6, 2) := by decide +kernel
theorem dX9_findNewest_110 : decode cX9_findNewest 110 = .ok (.iload 5, 2) := by decide +kernel
theorem dX9_findNewest_112 : decode cX9_findNewest 112 = .ok (.iastore, 1) := by decide +kernel
theorem dX9_findNewest_113 : decode cX9_findNewest 113 = .ok (.iinc 5 1, 3) := by decide +kernel
theorem dX9_findNewest_116 : decode cX9_findNewest 116 = .ok (.goto (-87), 3) := by decide +kernel
theorem dX9_findNewest_119 : decode cX9_findNewest 119 = .ok (.iload 4, 2) := by decide +kernel
theorem dX9_findNewest_121 : decode cX9_findNewest 121 = .ok (.iload_n 3, 1) := by decide +kernel
theorem dX9_findNewest_122 : decode cX9_findNewest 122 = .ok (.if_icmp .ne 7, 3) := by decide +kernel
theorem dX9_findNewest_125 : decode cX9_findNewest 125 = .ok (.iconst 1, 1) := by decide +kernel
theorem dX9_findNewest_126 : decode cX9_findNewest 126 = .ok (.goto 4, 3) := by decide +kernel
theorem dX9_findNewest_129 : decode cX9_findNewest 129 = .ok (.iconst 0, 1) := by decide +kernel
theorem dX9_findNewest_130 : decode cX9_findNewest 130 = .ok (.ireturn, 1) := by decide +kernel
theorem dX9_join_0 : decode cX9_join 0 = .ok (.iconst 0, 1) := by decide +kernel
theorem dX9_join_1 : decode cX9_join 1 = .ok (.istore 4, 2) := by decide +kernel
theorem dX9_join_3 : decode cX9_join 3 = .ok (.iload 4, 2) := by decide +kernel
theorem dX9_join_5 : decode cX9_join 5 = .ok (.iload_n 3, 1) := by decide +kernel
theorem dX9_join_6 : decode cX9_join 6 = .ok (.if_icmp .ge 30, 3) := by decide +kernel
theorem dX9_join_9 : decode cX9_join 9 = .ok (.aload_n 0, 1) := by decide +kernel
theorem dX9_join_10 : decode cX9_join 10 = .ok (.getfield 19, 3) := by decide +kernel
theorem dX9_join_13 : decode cX9_join 13 = .ok (.aload_n 0, 1) := by decide +kernel
theorem dX9_join_14 : decode cX9_join 14 = .ok (.getfield 29, 3) := by decide +kernel
theorem dX9_join_17 : decode cX9_join 17 = .ok (.iconst 5, 1) := by decide +kernel
theorem dX9_join_18 : decode cX9_join 18 = .ok (.imul, 1) := by decide +kernel
theorem dX9_join_19 : decode cX9_join 19 = .ok (.iload 4, 2) := by decide +kernel
theorem dX9_join_21 : decode cX9_join 21 = .ok (.iadd, 1) := by decide +kernel
theorem dX9_join_22 : decode cX9_join 22 = .ok (.aload_n 0, 1) := by decide +kernel
theorem dX9_join_23 : decode cX9_join 23 = .ok (.getfield 26, 3) := by decide +kernel
theorem dX9_join_26 : decode cX9_join 26 = .ok (.iload 4, 2) := by decide +kernel
theorem dX9_join_28 : decode cX9_join 28 = .ok (.iaload, 1) := by decide +kernel
theorem dX9_join_29 : decode cX9_join 29 = .ok (.iastore, 1) := by decide +kernel
theorem dX9_join_30 : decode cX9_join 30 = .ok (.iinc 4 1, 3) := by decide +kernel
theorem dX9_join_33 : decode cX9_join 33 = .ok (.goto (-30), 3) := by decide +kernel
theorem dX9_join_36 : decode cX9_join 36 = .ok (.aload_n 0, 1) := by decide +kernel
theorem dX9_join_37 : decode cX9_join 37 = .ok (.getfield 23, 3) := by decide +kernel
theorem dX9_join_40 : decode cX9_join 40 = .ok (.aload_n 0, 1) := by decide +kernel
theorem dX9_join_41 : decode cX9_join 41 = .ok (.getfield 29, 3) := by decide +kernel
theorem dX9_join_44 : decode cX9_join 44 = .ok (.iload_n 2, 1) := by decide +kernel
theorem dX9_join_45 : decode cX9_join 45 = .ok (.iastore, 1) := by decide +kernel
theorem dX9_join_46 : decode cX9_join 46 = .ok (.aload_n 0, 1) := by decide +kernel
theorem dX9_join_47 : decode cX9_join 47 = .ok (.dup, 1) := by decide +kernel
theorem dX9_join_48 : decode cX9_join 48 = .ok (.getfield 29, 3) := by decide +kernel
theorem dX9_join_51 : decode cX9_join 51 = .ok (.iconst 1, 1) := by decide +kernel
theorem dX9_join_52 : decode cX9_join 52 = .ok (.iadd, 1) := by decide +kernel
theorem dX9_join_53 : decode cX9_join 53 = .ok (.putfield 29, 3) := by decide +kernel
theorem dX9_join_56 : decode cX9_join 56 = .ok (.iconst 0, 1) := by decide +kernel
theorem dX9_join_57 : decode cX9_join 57 = .ok (.istore 4, 2) := by decide +kernel
theorem dX9_join_59 : decode cX9_join 59 = .ok (.iload 4, 2) := by decide +kernel
theorem dX9_join_61 : decode cX9_join 61 = .ok (.iload_n 2, 1) := by decide +kernel
theorem dX9_join_62 : decode cX9_join 62 = .ok (.if_icmp .gt 35, 3) := by decide +kernel
theorem dX9_join_65 : decode cX9_join 65 = .ok (.iload 4, 2) := by decide +kernel
theorem dX9_join_67 : decode cX9_join 67 = .ok (.sipush 200, 3) := by decide +kernel
theorem dX9_join_70 : decode cX9_join 70 = .ok (.if_icmp .ge 27, 3) := by decide +kernel
theorem dX9_join_73 : decode cX9_join 73 = .ok (.aload_n 1, 1) := by decide +kernel
theorem dX9_join_74 : decode cX9_join 74 = .ok (.iload 4, 2) := by decide +kernel
theorem dX9_join_76 : decode cX9_join 76 = .ok (.iload_n 2, 1) := by decide +kernel
theorem dX9_join_77 : decode cX9_join 77 = .ok (.invokestatic 49, 3) := by decide +kernel
theorem dX9_join_80 : decode cX9_join 80 = .ok (.ifCond .eq 11, 3) := by decide +kernel
theorem dX9_join_83 : decode cX9_join 83 = .ok (.aload_n 0, 1) := by decide +kernel
theorem dX9_join_84 : decode cX9_join 84 = .ok (.getfield 13, 3) := by decide +kernel
theorem dX9_join_87 : decode cX9_join 87 = .ok (.iload 4, 2) := by decide +kernel
theorem dX9_join_89 : decode cX9_join 89 = .ok (.iconst 1, 1) := by decide +kernel
theorem dX9_join_90 : decode cX9_join 90 = .ok (.bastore, 1) := by decide +kernel
theorem dX9_join_91 : decode cX9_join 91 = .ok (.iinc 4 1, 3) := by decide +kernel
theorem dX9_join_94 : decode cX9_join 94 = .ok (.goto (-35), 3) := by decide +kernel
theorem dX9_join_97 : decode cX9_join 97 = .ok (.return_, 1) := by decide +kernel
theorem dX9_areOfOneText_0 : decode cX9_areOfOneText 0 = .ok (.aload_n 0, 1) := by decide +kernel
theorem dX9_areOfOneText_1 : decode cX9_areOfOneText 1 = .ok (.iload_n 1, 1) := by decide +kernel
theorem dX9_areOfOneText_2 : decode cX9_areOfOneText 2 = .ok (.iconst 4, 1) := by decide +kernel
theorem dX9_areOfOneText_3 : decode cX9_areOfOneText 3 = .ok (.aload_n 0, 1) := by decide +kernel
theorem dX9_areOfOneText_4 : decode cX9_areOfOneText 4 = .ok (.iload_n 2, 1) := by decide +kernel
theorem dX9_areOfOneText_5 : decode cX9_areOfOneText 5 = .ok (.iconst 1, 1) := by decide +kernel
theorem dX9_areOfOneText_6 : decode cX9_areOfOneText 6 = .ok (.invokevirtual 37, 3) := by decide +kernel
theorem dX9_areOfOneText_9 : decode cX9_areOfOneText 9 = .ok (.invokevirtual 52, 3) := by decide +kernel
theorem dX9_areOfOneText_12 : decode cX9_areOfOneText 12 = .ok (.ifCond .eq 39, 3) := by decide +kernel
theorem dX9_areOfOneText_15 : decode cX9_areOfOneText 15 = .ok (.aload_n 0, 1) := by decide +kernel
theorem dX9_areOfOneText_16 : decode cX9_areOfOneText 16 = .ok (.iload_n 1, 1) := by decide +kernel
theorem dX9_areOfOneText_17 : decode cX9_areOfOneText 17 = .ok (.iconst 4, 1) := by decide +kernel
theorem dX9_areOfOneText_18 : decode cX9_areOfOneText 18 = .ok (.invokevirtual 37, 3) := by decide +kernel
theorem dX9_areOfOneText_21 : decode cX9_areOfOneText 21 = .ok (.aload_n 0, 1) := by decide +kernel
theorem dX9_areOfOneText_22 : decode cX9_areOfOneText 22 = .ok (.iload_n 2, 1) := by decide +kernel
theorem dX9_areOfOneText_23 : decode cX9_areOfOneText 23 = .ok (.iconst 4, 1) := by decide +kernel
theorem dX9_areOfOneText_24 : decode cX9_areOfOneText 24 = .ok (.invokevirtual 37, 3) := by decide +kernel
theorem dX9_areOfOneText_27 : decode cX9_areOfOneText 27 = .ok (.if_icmp .ne 24, 3) := by decide +kernel
theorem dX9_areOfOneText_30 : decode cX9_areOfOneText 30 = .ok (.aload_n 0, 1) := by decide +kernel
theorem dX9_areOfOneText_31 : decode cX9_areOfOneText 31 = .ok (.iload_n 1, 1) := by decide +kernel
theorem dX9_areOfOneText_32 : decode cX9_areOfOneText 32 = .ok (.bipush 6, 2) := by decide +kernel
theorem dX9_areOfOneText_34 : decode cX9_areOfOneText 34 = .ok (.invokevirtual 37, 3) := by decide +kernel
theorem dX9_areOfOneText_37 : decode cX9_areOfOneText 37 = .ok (.aload_n 0, 1) := by decide +kernel
theorem dX9_areOfOneText_38 : decode cX9_areOfOneText 38 = .ok (.iload_n 2, 1) := by decide +kernel
theorem dX9_areOfOneText_39 : decode cX9_areOfOneText 39 = .ok (.bipush 6, 2) := by decide +kernel
theorem dX9_areOfOneText_41 : decode cX9_areOfOneText 41 = .ok (.invokevirtual 37, 3) := by decide +kernel
theorem dX9_areOfOneText_44 : decode cX9_areOfOneText 44 = .ok (.if_icmp .ne 7, 3) := by decide +kernel
theorem dX9_areOfOneText_47 : decode cX9_areOfOneText 47 = .ok (.iconst 1, 1) := by decide +kernel
theorem dX9_areOfOneText_48 : decode cX9_areOfOneText 48 = .ok (.goto 4, 3) := by decide +kernel
theorem dX9_areOfOneText_51 : decode cX9_areOfOneText 51 = .ok (.iconst 0, 1) := by decide +kernel
theorem dX9_areOfOneText_52 : decode cX9_areOfOneText 52 = .ok (.ireturn, 1) := by decide +kernel
theorem dX10_init_0 : decode cX10_init 0 = .ok (.aload_n 0, 1) := by decide +kernel
theorem dX10_init_1 : decode cX10_init 1 = .ok (.invokespecial 1, 3) := by decide +kernel
theorem dX10_init_4 : decode cX10_init 4 = .ok (.aload_n 0, 1) := by decide +kernel
theorem dX10_init_5 : decode cX10_init 5 = .ok (.new 7, 3) := by decide +kernel
theorem dX10_init_8 : decode cX10_init 8 = .ok (.dup, 1) := by decide +kernel
theorem dX10_init_9 : decode cX10_init 9 = .ok (.invokespecial 9, 3) := by decide +kernel
theorem dX10_init_12 : decode cX10_init 12 = .ok (.putfield 10, 3) := by decide +kernel
theorem dX10_init_15 : decode cX10_init 15 = .ok (.aload_n 0, 1) := by decide +kernel
theorem dX10_init_16 : decode cX10_init 16 = .ok (.new 16, 3) := by decide +kernel
theorem dX10_init_19 : decode cX10_init 19 = .ok (.dup, 1) := by decide +kernel
theorem dX10_init_20 : decode cX10_init 20 = .ok (.invokespecial 18, 3) := by decide +kernel
theorem dX10_init_23 : decode cX10_init 23 = .ok (.putfield 19, 3) := by decide +kernel
theorem dX10_init_26 : decode cX10_init 26 = .ok (.aload_n 0, 1) := by decide +kernel
theorem dX10_init_27 : decode cX10_init 27 = .ok (.new 16, 3) := by decide +kernel
theorem dX10_init_30 : decode cX10_init 30 = .ok (.dup, 1) := by decide +kernel
theorem dX10_init_31 : decode cX10_init 31 = .ok (.invokespecial 18, 3) := by decide +kernel
theorem dX10_init_34 : decode cX10_init 34 = .ok (.putfield 23, 3) := by decide +kernel
theorem dX10_init_37 : decode cX10_init 37 = .ok (.aload_n 0, 1) := by decide +kernel
theorem dX10_init_38 : decode cX10_init 38 = .ok (.new 26, 3) := by decide +kernel
theorem dX10_init_41 : decode cX10_init 41 = .ok (.dup, 1) := by decide +kernel
theorem dX10_init_42 : decode cX10_init 42 = .ok (.invokespecial 28, 3) := by decide +kernel
theorem dX10_init_45 : decode cX10_init 45 = .ok (.putfield 29, 3) := by decide +kernel
theorem dX10_init_48 : decode cX10_init 48 = .ok (.aload_n 0, 1) := by decide +kernel
theorem dX10_init_49 : decode cX10_init 49 = .ok (.new 33, 3) := by decide +kernel
theorem dX10_init_52 : decode cX10_init 52 = .ok (.dup, 1) := by decide +kernel
theorem dX10_init_53 : decode cX10_init 53 = .ok (.invokespecial 35, 3) := by decide +kernel
theorem dX10_init_56 : decode cX10_init 56 = .ok (.putfield 36, 3) := by decide +kernel
theorem dX10_init_59 : decode cX10_init 59 = .ok (.aload_n 0, 1) := by decide +kernel
theorem dX10_init_60 : decode cX10_init 60 = .ok (.new 40, 3) := by decide +kernel
theorem dX10_init_63 : decode cX10_init 63 = .ok (.dup, 1) := by decide +kernel
theorem dX10_init_64 : decode cX10_init 64 = .ok (.invokespecial 42, 3) := by decide +kernel
theorem dX10_init_67 : decode cX10_init 67 = .ok (.putfield 43, 3) := by decide +kernel
theorem dX10_init_70 : decode cX10_init 70 = .ok (.aload_n 0, 1) := by decide +kernel
theorem dX10_init_71 : decode cX10_init 71 = .ok (.new 47, 3) := by decide +kernel
theorem dX10_init_74 : decode cX10_init 74 = .ok (.dup, 1) := by decide +kernel
theorem dX10_init_75 : decode cX10_init 75 = .ok (.invokespecial 49, 3) := by decide +kernel
theorem dX10_init_78 : decode cX10_init 78 = .ok (.putfield 50, 3) := by decide +kernel
theorem dX10_init_81 : decode cX10_init 81 = .ok (.aload_n 0, 1) := by decide +kernel
theorem dX10_init_82 : decode cX10_init 82 = .ok (.new 54, 3) := by decide +kernel
theorem dX10_init_85 : decode cX10_init 85 = .ok (.dup, 1) := by decide +kernel
theorem dX10_init_86 : decode cX10_init 86 = .ok (.invokespecial 56, 3) := by decide +kernel
theorem dX10_init_89 : decode cX10_init 89 = .ok (.putfield 57, 3) := by decide +kernel
theorem dX10_init_92 : decode cX10_init 92 = .ok (.aload_n 0, 1) := by decide +kernel
theorem dX10_init_93 : decode cX10_init 93 = .ok (.new 61, 3) := by decide +kernel
theorem dX10_init_96 : decode cX10_init 96 = .ok (.dup, 1) := by decide +kernel
theorem dX10_init_97 : decode cX10_init 97 = .ok (.invokespecial 63, 3) := by decide +kernel
theorem dX10_init_100 : decode cX10_init 100 = .ok (.putfield 64, 3) := by decide +kernel
theorem dX10_init_103 : decode cX10_init 103 = .ok (.aload_n 0, 1) := by decide +kernel
theorem dX10_init_104 : decode cX10_init 104 = .ok (.new 68, 3) := by decide +kernel
theorem dX10_init_107 : decode cX10_init 107 = .ok (.dup, 1) := by decide +kernel
theorem dX10_init_108 : decode cX10_init 108 = .ok (.invokespecial 70, 3) := by decide +kernel
theorem dX10_init_111 : decode cX10_init 111 = .ok (.putfield 71, 3) := by decide +kernel
theorem dX10_init_114 : decode cX10_init 114 = .ok (.aload_n 0, 1) := by decide +kernel
theorem dX10_init_115 : decode cX10_init 115 = .ok (.iconst 0, 1) := by decide +kernel
theorem dX10_init_116 : decode cX10_init 116 = .ok (.putfield 75, 3) := by decide +kernel
theorem dX10_init_119 : decode cX10_init 119 = .ok (.aload_n 0, 1) := by decide +kernel
theorem dX10_init_120 : decode cX10_init 120 = .ok (.iconst 0, 1) := by decide +kernel
theorem dX10_init_121 : decode cX10_init 121 = .ok (.putfield 79, 3) := by decide +kernel
theorem dX10_init_124 : decode cX10_init 124 = .ok (.aload_n 0, 1) := by decide +kernel
theorem dX10_init_125 : decode cX10_init 125 = .ok (.iconst 0, 1) := by decide +kernel
theorem dX10_init_126 : decode cX10_init 126 = .ok (.putfield 82, 3) := by decide +kernel
theorem dX10_init_129 : decode cX10_init 129 = .ok (.return_, 1) := by decide +kernel
theorem dX10_feed_0 : decode cX10_feed 0 = .ok (.aload_n 0, 1) := by decide +kernel
theorem dX10_feed_1 : decode cX10_feed 1 = .ok (.getfield 10, 3) := by decide +kernel
theorem dX10_feed_4 : decode cX10_feed 4 = .ok (.bipush 20, 2) := by decide +kernel
theorem dX10_feed_6 : decode cX10_feed 6 = .ok (.invokevirtual 85, 3) := by decide +kernel
theorem dX10_feed_9 : decode cX10_feed 9 = .ok (.ifCond .ne 5, 3) := by decide +kernel
theorem dX10_feed_12 : decode cX10_feed 12 = .ok (.iconst (-1), 1) := by decide +kernel
theorem dX10_feed_13 : decode cX10_feed 13 = .ok (.ireturn, 1) := by decide +kernel
theorem dX10_feed_14 : decode cX10_feed 14 = .ok (.aload_n 0, 1) := by decide +kernel
theorem dX10_feed_15 : decode cX10_feed 15 = .ok (.getfield 10, 3) := by decide +kernel
theorem dX10_feed_18 : decode cX10_feed 18 = .ok (.iload_n 1, 1) := by decide +kernel
theorem dX10_feed_19 : decode cX10_feed 19 = .ok (.invokevirtual 89, 3) := by decide +kernel
theorem dX10_feed_22 : decode cX10_feed 22 = .ok (.aload_n 0, 1) := by decide +kernel
theorem dX10_feed_23 : decode cX10_feed 23 = .ok (.getfield 10, 3) := by decide +kernel
theorem dX10_feed_26 : decode cX10_feed 26 = .ok (.iload_n 2, 1) := by decide +kernel
theorem dX10_feed_27 : decode cX10_feed 27 = .ok (.invokevirtual 89, 3) := by decide +kernel
theorem dX10_feed_30 : decode cX10_feed 30 = .ok (.aload_n 0, 1) := by decide +kernel
theorem dX10_feed_31 : decode cX10_feed 31 = .ok (.getfield 10, 3) := by decide +kernel
theorem dX10_feed_34 : decode cX10_feed 34 = .ok (.iload_n 3, 1) := by decide +kernel
theorem dX10_feed_35 : decode cX10_feed 35 = .ok (.invokevirtual 89, 3) := by decide +kernel
theorem dX10_feed_38 : decode cX10_feed 38 = .ok (.aload_n 0, 1) := by decide +kernel
theorem dX10_feed_39 : decode cX10_feed 39 = .ok (.getfield 10, 3) := by decide +kernel
theorem dX10_feed_42 : decode cX10_feed 42 = .ok (.iload 4, 2) := by decide +kernel
theorem dX10_feed_44 : decode cX10_feed 44 = .ok (.invokevirtual 89, 3) := by decide +kernel
theorem dX10_feed_47 : decode cX10_feed 47 = .ok (.aload_n 0, 1) := by decide +kernel
theorem dX10_feed_48 : decode cX10_feed 48 = .ok (.getfield 10, 3) := by decide +kernel
theorem dX10_feed_51 : decode cX10_feed 51 = .ok (.iload 5, 2) := by decide +kernel
theorem dX10_feed_53 : decode cX10_feed 53 = .ok (.invokevirtual 89, 3) := by decide +kernel
theorem dX10_feed_56 : decode cX10_feed 56 = .ok (.aload_n 0, 1) := by decide +kernel
theorem dX10_feed_57 : decode cX10_feed 57 = .ok (.getfield 10, 3) := by decide +kernel
theorem dX10_feed_60 : decode cX10_feed 60 = .ok (.invokevirtual 93, 3) := by decide +kernel
theorem dX10_feed_63 : decode cX10_feed 63 = .ok (.ireturn, 1) := by decide +kernel
theorem dX10_end_0 : decode cX10_end 0 = .ok (.aload_n 0, 1) := by decide +kernel
theorem dX10_end_1 : decode cX10_end 1 = .ok (.getfield 10, 3) := by decide +kernel
theorem dX10_end_4 : decode cX10_end 4 = .ok (.iload_n 1, 1) := by decide +kernel
theorem dX10_end_5 : decode cX10_end 5 = .ok (.invokevirtual 97, 3) := by decide +kernel
theorem dX10_end_8 : decode cX10_end 8 = .ok (.ireturn, 1) := by decide +kernel
theorem dX10_hear_0 : decode cX10_hear 0 = .ok (.iload_n 1, 1) := by decide +kernel
theorem dX10_hear_1 : decode cX10_hear 1 = .ok (.ifCond .eq 10, 3) := by decide +kernel
theorem dX10_hear_4 : decode cX10_hear 4 = .ok (.iload_n 1, 1) := by decide +kernel
theorem dX10_hear_5 : decode cX10_hear 5 = .ok (.iconst 1, 1) := by decide +kernel
theorem dX10_hear_6 : decode cX10_hear 6 = .ok (.if_icmp .eq 5, 3) := by decide +kernel
theorem dX10_hear_9 : decode cX10_hear 9 = .ok (.iconst (-1), 1) := by decide +kernel
theorem dX10_hear_10 : decode cX10_hear 10 = .ok (.ireturn, 1) := by decide +kernel
theorem dX10_hear_11 : decode cX10_hear 11 = .ok (.aload_n 0, 1) := by decide +kernel
theorem dX10_hear_12 : decode cX10_hear 12 = .ok (.getfield 79, 3) := by decide +kernel
theorem dX10_hear_15 : decode cX10_hear 15 = .ok (.istore_n 2, 1) := by decide +kernel
theorem dX10_hear_16 : decode cX10_hear 16 = .ok (.iload_n 1, 1) := by decide +kernel
theorem dX10_hear_17 : decode cX10_hear 17 = .ok (.ifCond .ne 10, 3) := by decide +kernel
theorem dX10_hear_20 : decode cX10_hear 20 = .ok (.aload_n 0, 1) := by decide +kernel
theorem dX10_hear_21 : decode cX10_hear 21 = .ok (.getfield 19, 3) := by decide +kernel
theorem dX10_hear_24 : decode cX10_hear 24 = .ok (.goto 7, 3) := by decide +kernel
theorem dX10_hear_27 : decode cX10_hear 27 = .ok (.aload_n 0, 1) := by decide +kernel
theorem dX10_hear_28 : decode cX10_hear 28 = .ok (.getfield 23, 3) := by decide +kernel
theorem dX10_hear_31 : decode cX10_hear 31 = .ok (.astore_n 3, 1) := by decide +kernel
theorem dX10_hear_32 : decode cX10_hear 32 = .ok (.aload_n 0, 1) := by decide +kernel
theorem dX10_hear_33 : decode cX10_hear 33 = .ok (.getfield 10, 3) := by decide +kernel
theorem dX10_hear_36 : decode cX10_hear 36 = .ok (.invokevirtual 93, 3) := by decide +kernel
theorem dX10_hear_39 : decode cX10_hear 39 = .ok (.bipush 8, 2) := by decide +kernel
theorem dX10_hear_41 : decode cX10_hear 41 = .ok (.imul, 1) := by decide +kernel
theorem dX10_hear_42 : decode cX10_hear 42 = .ok (.istore 4, 2) := by decide +kernel
theorem dX10_hear_44 : decode cX10_hear 44 = .ok (.iconst 0, 1) := by decide +kernel
theorem dX10_hear_45 : decode cX10_hear 45 = .ok (.istore 5, 2) := by decide +kernel
theorem dX10_hear_47 : decode cX10_hear 47 = .ok (.iload 5, 2) := by decide +kernel
theorem dX10_hear_49 : decode cX10_hear 49 = .ok (.iload 4, 2) := by decide +kernel
theorem dX10_hear_51 : decode cX10_hear 51 = .ok (.if_icmp .ge 31, 3) := by decide +kernel
theorem dX10_hear_54 : decode cX10_hear 54 = .ok (.aload_n 3, 1) := by decide +kernel
theorem dX10_hear_55 : decode cX10_hear 55 = .ok (.aload_n 0, 1) := by decide +kernel
theorem dX10_hear_56 : decode cX10_hear 56 = .ok (.getfield 10, 3) := by decide +kernel
theorem dX10_hear_59 : decode cX10_hear 59 = .ok (.iload 5, 2) := by decide +kernel
theorem dX10_hear_61 : decode cX10_hear 61 = .ok (.invokevirtual 100, 3) := by decide +kernel
theorem dX10_hear_64 : decode cX10_hear 64 = .ok (.invokevirtual 104, 3) := by decide +kernel
theorem dX10_hear_67 : decode cX10_hear 67 = .ok (.ifCond .eq 9, 3) := by decide +kernel
theorem dX10_hear_70 : decode cX10_hear 70 = .ok (.aload_n 0, 1) := by decide +kernel
theorem dX10_hear_71 : decode cX10_hear 71 = .ok (.aload_n 3, 1) := by decide +kernel
theorem dX10_hear_72 : decode cX10_hear 72 = .ok (.iload_n 1, 1) := by decide +kernel
theorem dX10_hear_73 : decode cX10_hear 73 = .ok (.invokevirtual 107, 3) := by decide +kernel
theorem dX10_hear_76 : decode cX10_hear 76 = .ok (.iinc 5 1, 3) := by decide +kernel
theorem dX10_hear_79 : decode cX10_hear 79 = .ok (.goto (-32), 3) := by decide +kernel
theorem dX10_hear_82 : decode cX10_hear 82 = .ok (.aload_n 0, 1) := by decide +kernel
theorem dX10_hear_83 : decode cX10_hear 83 = .ok (.getfield 10, 3) := by decide +kernel
theorem dX10_hear_86 : decode cX10_hear 86 = .ok (.iconst 0, 1) := by decide +kernel
theorem dX10_hear_87 : decode cX10_hear 87 = .ok (.invokevirtual 97, 3) := by decide +kernel
theorem dX10_hear_90 : decode cX10_hear 90 = .ok (.pop, 1) := by decide +kernel
theorem dX10_hear_91 : decode cX10_hear 91 = .ok (.aload_n 0, 1) := by decide +kernel
theorem dX10_hear_92 : decode cX10_hear 92 = .ok (.getfield 79, 3) := by decide +kernel
theorem dX10_hear_95 : decode cX10_hear 95 = .ok (.iload_n 2, 1) := by decide +kernel
theorem dX10_hear_96 : decode cX10_hear 96 = .ok (.isub, 1) := by decide +kernel
theorem dX10_hear_97 : decode cX10_hear 97 = .ok (.ireturn, 1) := by decide +kernel
theorem dX10_wait_0 : decode cX10_wait 0 = .ok (.iload_n 1, 1) := by decide +kernel
theorem dX10_wait_1 : decode cX10_wait 1 = .ok (.ifCond .lt 20, 3) := by decide +kernel
theorem dX10_wait_4 : decode cX10_wait 4 = .ok (.iload_n 1, 1) := by decide +kernel
theorem dX10_wait_5 : decode cX10_wait 5 = .ok (.ldc 111, 2) := by decide +kernel
theorem dX10_wait_7 : decode cX10_wait 7 = .ok (.if_icmp .gt 14, 3) := by decide +kernel
theorem dX10_wait_10 : decode cX10_wait 10 = .ok (.iload_n 1, 1) := by decide +kernel
theorem dX10_wait_11 : decode cX10_wait 11 = .ok (.ldc 112, 2) := by decide +kernel
theorem dX10_wait_13 : decode cX10_wait 13 = .ok (.aload_n 0, 1) := by decide +kernel
theorem dX10_wait_14 : decode cX10_wait 14 = .ok (.getfield 75, 3) := by decide +kernel
theorem dX10_wait_17 : decode cX10_wait 17 = .ok (.isub, 1) := by decide +kernel
theorem dX10_wait_18 : decode cX10_wait 18 = .ok (.if_icmp .le 5, 3) := by decide +kernel
theorem dX10_wait_21 : decode cX10_wait 21 = .ok (.iconst 0, 1) := by decide +kernel
theorem dX10_wait_22 : decode cX10_wait 22 = .ok (.ireturn, 1) := by decide +kernel
theorem dX10_wait_23 : decode cX10_wait 23 = .ok (.aload_n 0, 1) := by decide +kernel
theorem dX10_wait_24 : decode cX10_wait 24 = .ok (.dup, 1) := by decide +kernel
theorem dX10_wait_25 : decode cX10_wait 25 = .ok (.getfield 75, 3) := by decide +kernel
theorem dX10_wait_28 : decode cX10_wait 28 = .ok (.iload_n 1, 1) := by decide +kernel
theorem dX10_wait_29 : decode cX10_wait 29 = .ok (.iadd, 1) := by decide +kernel
theorem dX10_wait_30 : decode cX10_wait 30 = .ok (.putfield 75, 3) := by decide +kernel
theorem dX10_wait_33 : decode cX10_wait 33 = .ok (.iconst 1, 1) := by decide +kernel
theorem dX10_wait_34 : decode cX10_wait 34 = .ok (.ireturn, 1) := by decide +kernel
theorem dX10_build_0 : decode cX10_build 0 = .ok (.aload_n 0, 1) := by decide +kernel
theorem dX10_build_1 : decode cX10_build 1 = .ok (.getfield 29, 3) := by decide +kernel
theorem dX10_build_4 : decode cX10_build 4 = .ok (.iload_n 1, 1) := by decide +kernel
theorem dX10_build_5 : decode cX10_build 5 = .ok (.iload_n 2, 1) := by decide +kernel
theorem dX10_build_6 : decode cX10_build 6 = .ok (.iload_n 3, 1) := by decide +kernel
theorem dX10_build_7 : decode cX10_build 7 = .ok (.iload 4, 2) := by decide +kernel
theorem dX10_build_9 : decode cX10_build 9 = .ok (.iload 5, 2) := by decide +kernel
theorem dX10_build_11 : decode cX10_build 11 = .ok (.iload 6, 2) := by decide +kernel
theorem dX10_build_13 : decode cX10_build 13 = .ok (.invokevirtual 113, 3) := by decide +kernel
theorem dX10_build_16 : decode cX10_build 16 = .ok (.ifCond .ne 5, 3) := by decide +kernel
theorem dX10_build_19 : decode cX10_build 19 = .ok (.iconst (-1), 1) := by decide +kernel
theorem dX10_build_20 : decode cX10_build 20 = .ok (.ireturn, 1) := by decide +kernel
theorem dX10_build_21 : decode cX10_build 21 = .ok (.aload_n 0, 1) := by decide +kernel
theorem dX10_build_22 : decode cX10_build 22 = .ok (.getfield 36, 3) := by decide +kernel
theorem dX10_build_25 : decode cX10_build 25 = .ok (.aload_n 0, 1) := by decide +kernel
theorem dX10_build_26 : decode cX10_build 26 = .ok (.getfield 29, 3) := by decide +kernel
theorem dX10_build_29 : decode cX10_build 29 = .ok (.invokevirtual 117, 3) := by decide +kernel
theorem dX10_build_32 : decode cX10_build 32 = .ok (.aload_n 0, 1) := by decide +kernel
theorem dX10_build_33 : decode cX10_build 33 = .ok (.getfield 36, 3) := by decide +kernel
theorem dX10_build_36 : decode cX10_build 36 = .ok (.invokevirtual 121, 3) := by decide +kernel
theorem dX10_build_39 : decode cX10_build 39 = .ok (.ireturn, 1) := by decide +kernel
theorem dX10_octet_0 : decode cX10_octet 0 = .ok (.iload_n 1, 1) := by decide +kernel
theorem dX10_octet_1 : decode cX10_octet 1 = .ok (.ifCond .lt 14, 3) := by decide +kernel
theorem dX10_octet_4 : decode cX10_octet 4 = .ok (.iload_n 1, 1) := by decide +kernel
theorem dX10_octet_5 : decode cX10_octet 5 = .ok (.aload_n 0, 1) := by decide +kernel
theorem dX10_octet_6 : decode cX10_octet 6 = .ok (.getfield 36, 3) := by decide +kernel
theorem dX10_octet_9 : decode cX10_octet 9 = .ok (.invokevirtual 121, 3) := by decide +kernel
theorem dX10_octet_12 : decode cX10_octet 12 = .ok (.if_icmp .lt 13, 3) := by decide +kernel
theorem dX10_octet_15 : decode cX10_octet 15 = .ok (.new 124, 3) := by decide +kernel
theorem dX10_octet_18 : decode cX10_octet 18 = .ok (.dup, 1) := by decide +kernel
theorem dX10_octet_19 : decode cX10_octet 19 = .ok (.ldc 126, 2) := by decide +kernel
theorem dX10_octet_21 : decode cX10_octet 21 = .ok (.invokespecial 128, 3) := by decide +kernel
theorem dX10_octet_24 : decode cX10_octet 24 = .ok (.athrow, 1) := by decide +kernel
theorem dX10_octet_25 : decode cX10_octet 25 = .ok (.aload_n 0, 1) := by decide +kernel
theorem dX10_octet_26 : decode cX10_octet 26 = .ok (.getfield 36, 3) := by decide +kernel
theorem dX10_octet_29 : decode cX10_octet 29 = .ok (.iload_n 1, 1) := by decide +kernel
theorem dX10_octet_30 : decode cX10_octet 30 = .ok (.invokevirtual 131, 3) := by decide +kernel
theorem dX10_octet_33 : decode cX10_octet 33 = .ok (.ireturn, 1) := by decide +kernel
theorem dX10_message_0 : decode cX10_message 0 = .ok (.aload_n 0, 1) := by decide +kernel
theorem dX10_message_1 : decode cX10_message 1 = .ok (.getfield 43, 3) := by decide +kernel
theorem dX10_message_4 : decode cX10_message 4 = .ok (.iload_n 1, 1) := by decide +kernel
theorem dX10_message_5 : decode cX10_message 5 = .ok (.invokevirtual 134, 3) := by decide +kernel
theorem dX10_message_8 : decode cX10_message 8 = .ok (.ifCond .eq 13, 3) := by decide +kernel
theorem dX10_message_11 : decode cX10_message 11 = .ok (.iload_n 2, 1) := by decide +kernel
theorem dX10_message_12 : decode cX10_message 12 = .ok (.ifCond .lt 9, 3) := by decide +kernel
theorem dX10_message_15 : decode cX10_message 15 = .ok (.iload_n 2, 1) := by decide +kernel
theorem dX10_message_16 : decode cX10_message 16 = .ok (.bipush 8, 2) := by decide +kernel
theorem dX10_message_18 : decode cX10_message 18 = .ok (.if_icmp .lt 13, 3) := by decide +kernel
theorem dX10_message_21 : decode cX10_message 21 = .ok (.new 124, 3) := by decide +kernel
theorem dX10_message_24 : decode cX10_message 24 = .ok (.dup, 1) := by decide +kernel
theorem dX10_message_25 : decode cX10_message 25 = .ok (.ldc 137, 2) := by decide +kernel
theorem dX10_message_27 : decode cX10_message 27 = .ok (.invokespecial 128, 3) := by decide +kernel
theorem dX10_message_30 : decode cX10_message 30 = .ok (.athrow, 1) := by decide +kernel
theorem dX10_message_31 : decode cX10_message 31 = .ok (.aload_n 0, 1) := by decide +kernel
theorem dX10_message_32 : decode cX10_message 32 = .ok (.getfield 43, 3) := by decide +kernel
theorem dX10_message_35 : decode cX10_message 35 = .ok (.iload_n 1, 1) := by decide +kernel
theorem dX10_message_36 : decode cX10_message 36 = .ok (.iload_n 2, 1) := by decide +kernel
theorem dX10_message_37 : decode cX10_message 37 = .ok (.invokevirtual 139, 3) := by decide +kernel
theorem dX10_message_40 : decode cX10_message 40 = .ok (.ireturn, 1) := by decide +kernel
theorem dX10_part_0 : decode cX10_part 0 = .ok (.iload_n 2, 1) := by decide +kernel
theorem dX10_part_1 : decode cX10_part 1 = .ok (.iconst 1, 1) := by decide +kernel
theorem dX10_part_2 : decode cX10_part 2 = .ok (.if_icmp .lt 10, 3) := by decide +kernel
theorem dX10_part_5 : decode cX10_part 5 = .ok (.iload_n 2, 1) := by decide +kernel
theorem dX10_part_6 : decode cX10_part 6 = .ok (.sipush 1000, 3) := by decide +kernel
theorem dX10_part_9 : decode cX10_part 9 = .ok (.if_icmp .le 5, 3) := by decide +kernel
theorem dX10_part_12 : decode cX10_part 12 = .ok (.iconst (-1), 1) := by decide +kernel
theorem dX10_part_13 : decode cX10_part 13 = .ok (.ireturn, 1) := by decide +kernel
theorem dX10_part_14 : decode cX10_part 14 = .ok (.aload_n 0, 1) := by decide +kernel
theorem dX10_part_15 : decode cX10_part 15 = .ok (.getfield 64, 3) := by decide +kernel
theorem dX10_part_18 : decode cX10_part 18 = .ok (.aload_n 0, 1) := by decide +kernel
theorem dX10_part_19 : decode cX10_part 19 = .ok (.getfield 43, 3) := by decide +kernel
theorem dX10_part_22 : decode cX10_part 22 = .ok (.iload_n 1, 1) := by decide +kernel
theorem dX10_part_23 : decode cX10_part 23 = .ok (.iload_n 2, 1) := by decide +kernel
theorem dX10_part_24 : decode cX10_part 24 = .ok (.invokevirtual 143, 3) := by decide +kernel
theorem dX10_part_27 : decode cX10_part 27 = .ok (.ireturn, 1) := by decide +kernel
theorem dX10_cost_0 : decode cX10_cost 0 = .ok (.aload_n 0, 1) := by decide +kernel
theorem dX10_cost_1 : decode cX10_cost 1 = .ok (.getfield 64, 3) := by decide +kernel
theorem dX10_cost_4 : decode cX10_cost 4 = .ok (.invokevirtual 147, 3) := by decide +kernel
theorem dX10_cost_7 : decode cX10_cost 7 = .ok (.lreturn, 1) := by decide +kernel
theorem dX10_parted_0 : decode cX10_parted 0 = .ok (.aload_n 0, 1) := by decide +kernel
theorem dX10_parted_1 : decode cX10_parted 1 = .ok (.getfield 64, 3) := by decide +kernel
theorem dX10_parted_4 : decode cX10_parted 4 = .ok (.iload_n 1, 1) := by decide +kernel
theorem dX10_parted_5 : decode cX10_parted 5 = .ok (.iload_n 2, 1) := by decide +kernel
theorem dX10_parted_6 : decode cX10_parted 6 = .ok (.invokevirtual 151, 3) := by decide +kernel
theorem dX10_parted_9 : decode cX10_parted 9 = .ok (.ireturn, 1) := by decide +kernel
theorem dX10_clashes_0 : decode cX10_clashes 0 = .ok (.aload_n 0, 1) := by decide +kernel
theorem dX10_clashes_1 : decode cX10_clashes 1 = .ok (.getfield 50, 3) := by decide +kernel
theorem dX10_clashes_4 : decode cX10_clashes 4 = .ok (.invokevirtual 154, 3) := by decide +kernel
theorem dX10_clashes_7 : decode cX10_clashes 7 = .ok (.ireturn, 1) := by decide +kernel
theorem dX10_clash_0 : decode cX10_clash 0 = .ok (.iload_n 1, 1) := by decide +kernel
theorem dX10_clash_1 : decode cX10_clash 1 = .ok (.ifCond .lt 23, 3) := by decide +kernel
theorem dX10_clash_4 : decode cX10_clash 4 = .ok (.iload_n 1, 1) := by decide +kernel
theorem dX10_clash_5 : decode cX10_clash 5 = .ok (.aload_n 0, 1) := by decide +kernel
theorem dX10_clash_6 : decode cX10_clash 6 = .ok (.getfield 50, 3) := by decide +kernel
theorem dX10_clash_9 : decode cX10_clash 9 = .ok (.invokevirtual 154, 3) := by decide +kernel
theorem dX10_clash_12 : decode cX10_clash 12 = .ok (.if_icmp .ge 12, 3) := by decide +kernel
theorem dX10_clash_15 : decode cX10_clash 15 = .ok (.iload_n 2, 1) := by decide +kernel
theorem dX10_clash_16 : decode cX10_clash 16 = .ok (.ifCond .lt 8, 3) := by decide +kernel
theorem dX10_clash_19 : decode cX10_clash 19 = .ok (.iload_n 2, 1) := by decide +kernel
theorem dX10_clash_20 : decode cX10_clash 20 = .ok (.iconst 1, 1) := by decide +kernel
theorem dX10_clash_21 : decode cX10_clash 21 = .ok (.if_icmp .le 13, 3) := by decide +kernel
theorem dX10_clash_24 : decode cX10_clash 24 = .ok (.new 124, 3) := by decide +kernel
theorem dX10_clash_27 : decode cX10_clash 27 = .ok (.dup, 1) := by decide +kernel
theorem dX10_clash_28 : decode cX10_clash 28 = .ok (.ldc 157, 2) := by decide +kernel
theorem dX10_clash_30 : decode cX10_clash 30 = .ok (.invokespecial 128, 3) := by decide +kernel
theorem dX10_clash_33 : decode cX10_clash 33 = .ok (.athrow, 1) := by decide +kernel
theorem dX10_clash_34 : decode cX10_clash 34 = .ok (.aload_n 0, 1) := by decide +kernel
theorem dX10_clash_35 : decode cX10_clash 35 = .ok (.getfield 50, 3) := by decide +kernel
theorem dX10_clash_38 : decode cX10_clash 38 = .ok (.iload_n 1, 1) := by decide +kernel
theorem dX10_clash_39 : decode cX10_clash 39 = .ok (.invokevirtual 159, 3) := by decide +kernel
theorem dX10_clash_42 : decode cX10_clash 42 = .ok (.istore_n 3, 1) := by decide +kernel
theorem dX10_clash_43 : decode cX10_clash 43 = .ok (.iload_n 2, 1) := by decide +kernel
theorem dX10_clash_44 : decode cX10_clash 44 = .ok (.ifCond .ne 7, 3) := by decide +kernel
theorem dX10_clash_47 : decode cX10_clash 47 = .ok (.iload_n 3, 1) := by decide +kernel
theorem dX10_clash_48 : decode cX10_clash 48 = .ok (.goto 16, 3) := by decide +kernel
theorem dX10_clash_51 : decode cX10_clash 51 = .ok (.aload_n 0, 1) := by decide +kernel
theorem dX10_clash_52 : decode cX10_clash 52 = .ok (.getfield 50, 3) := by decide +kernel
theorem dX10_clash_55 : decode cX10_clash 55 = .ok (.aload_n 0, 1) := by decide +kernel
theorem dX10_clash_56 : decode cX10_clash 56 = .ok (.getfield 43, 3) := by decide +kernel
theorem dX10_clash_59 : decode cX10_clash 59 = .ok (.iload_n 1, 1) := by decide +kernel
theorem dX10_clash_60 : decode cX10_clash 60 = .ok (.iload_n 3, 1) := by decide +kernel
theorem dX10_clash_61 : decode cX10_clash 61 = .ok (.invokevirtual 162, 3) := by decide +kernel
theorem dX10_clash_64 : decode cX10_clash 64 = .ok (.ireturn, 1) := by decide +kernel
theorem dX10_texts_0 : decode cX10_texts 0 = .ok (.aload_n 0, 1) := by decide +kernel
theorem dX10_texts_1 : decode cX10_texts 1 = .ok (.getfield 57, 3) := by decide +kernel
theorem dX10_texts_4 : decode cX10_texts 4 = .ok (.invokevirtual 165, 3) := by decide +kernel
theorem dX10_texts_7 : decode cX10_texts 7 = .ok (.ireturn, 1) := by decide +kernel
theorem dX10_text_0 : decode cX10_text 0 = .ok (.iload_n 1, 1) := by decide +kernel
theorem dX10_text_1 : decode cX10_text 1 = .ok (.ifCond .lt 23, 3) := by decide +kernel
theorem dX10_text_4 : decode cX10_text 4 = .ok (.iload_n 1, 1) := by decide +kernel
theorem dX10_text_5 : decode cX10_text 5 = .ok (.aload_n 0, 1) := by decide +kernel
theorem dX10_text_6 : decode cX10_text 6 = .ok (.getfield 57, 3) := by decide +kernel
theorem dX10_text_9 : decode cX10_text 9 = .ok (.invokevirtual 165, 3) := by decide +kernel
theorem dX10_text_12 : decode cX10_text 12 = .ok (.if_icmp .ge 12, 3) := by decide +kernel
theorem dX10_text_15 : decode cX10_text 15 = .ok (.iload_n 2, 1) := by decide +kernel
theorem dX10_text_16 : decode cX10_text 16 = .ok (.ifCond .lt 8, 3) := by decide +kernel
theorem dX10_text_19 : decode cX10_text 19 = .ok (.iload_n 2, 1) := by decide +kernel
theorem dX10_text_20 : decode cX10_text 20 = .ok (.iconst 3, 1) := by decide +kernel
theorem dX10_text_21 : decode cX10_text 21 = .ok (.if_icmp .le 13, 3) := by decide +kernel
theorem dX10_text_24 : decode cX10_text 24 = .ok (.new 124, 3) := by decide +kernel
theorem dX10_text_27 : decode cX10_text 27 = .ok (.dup, 1) := by decide +kernel
theorem dX10_text_28 : decode cX10_text 28 = .ok (.ldc 168, 2) := by decide +kernel
theorem dX10_text_30 : decode cX10_text 30 = .ok (.invokespecial 128, 3) := by decide +kernel
theorem dX10_text_33 : decode cX10_text 33 = .ok (.athrow, 1) := by decide +kernel
theorem dX10_text_34 : decode cX10_text 34 = .ok (.aload_n 0, 1) := by decide +kernel
theorem dX10_text_35 : decode cX10_text 35 = .ok (.getfield 57, 3) := by decide +kernel
theorem dX10_text_38 : decode cX10_text 38 = .ok (.iload_n 1, 1) := by decide +kernel
theorem dX10_text_39 : decode cX10_text 39 = .ok (.invokevirtual 170, 3) := by decide +kernel
theorem dX10_text_42 : decode cX10_text 42 = .ok (.istore_n 3, 1) := by decide +kernel
theorem dX10_text_43 : decode cX10_text 43 = .ok (.iload_n 2, 1) := by decide +kernel
theorem dX10_text_44 : decode cX10_text 44 = .ok (.tableswitch 61 0 2 #[28, 38, 48], 28) := by decide +kernel
theorem dX10_text_72 : decode cX10_text 72 = .ok (.aload_n 0, 1) := by decide +kernel
theorem dX10_text_73 : decode cX10_text 73 = .ok (.getfield 43, 3) := by decide +kernel
theorem dX10_text_76 : decode cX10_text 76 = .ok (.iload_n 3, 1) := by decide +kernel
theorem dX10_text_77 : decode cX10_text 77 = .ok (.iconst 1, 1) := by decide +kernel
theorem dX10_text_78 : decode cX10_text 78 = .ok (.invokevirtual 139, 3) := by decide +kernel
theorem dX10_text_81 : decode cX10_text 81 = .ok (.ireturn, 1) := by decide +kernel
theorem dX10_text_82 : decode cX10_text 82 = .ok (.aload_n 0, 1) := by decide +kernel
theorem dX10_text_83 : decode cX10_text 83 = .ok (.getfield 43, 3) := by decide +kernel
theorem dX10_text_86 : decode cX10_text 86 = .ok (.iload_n 3, 1) := by decide +kernel
theorem dX10_text_87 : decode cX10_text 87 = .ok (.iconst 4, 1) := by decide +kernel
theorem dX10_text_88 : decode cX10_text 88 = .ok (.invokevirtual 139, 3) := by decide +kernel
theorem dX10_text_91 : decode cX10_text 91 = .ok (.ireturn, 1) := by decide +kernel
theorem dX10_text_92 : decode cX10_text 92 = .ok (.aload_n 0, 1) := by decide +kernel
theorem dX10_text_93 : decode cX10_text 93 = .ok (.getfield 57, 3) := by decide +kernel
theorem dX10_text_96 : decode cX10_text 96 = .ok (.aload_n 0, 1) := by decide +kernel
theorem dX10_text_97 : decode cX10_text 97 = .ok (.getfield 43, 3) := by decide +kernel
theorem dX10_text_100 : decode cX10_text 100 = .ok (.iload_n 1, 1) := by decide +kernel
theorem dX10_text_101 : decode cX10_text 101 = .ok (.invokevirtual 173, 3) := by decide +kernel
theorem dX10_text_104 : decode cX10_text 104 = .ok (.ireturn, 1) := by decide +kernel
theorem dX10_text_105 : decode cX10_text 105 = .ok (.iload_n 3, 1) := by decide +kernel
theorem dX10_text_106 : decode cX10_text 106 = .ok (.ireturn, 1) := by decide +kernel
theorem dX10_letter_0 : decode cX10_letter 0 = .ok (.iload_n 1, 1) := by decide +kernel
theorem dX10_letter_1 : decode cX10_letter 1 = .ok (.ifCond .lt 34, 3) := by decide +kernel
theorem dX10_letter_4 : decode cX10_letter 4 = .ok (.iload_n 1, 1) := by decide +kernel
theorem dX10_letter_5 : decode cX10_letter 5 = .ok (.aload_n 0, 1) := by decide +kernel
theorem dX10_letter_6 : decode cX10_letter 6 = .ok (.getfield 57, 3) := by decide +kernel
theorem dX10_letter_9 : decode cX10_letter 9 = .ok (.invokevirtual 165, 3) := by decide +kernel
theorem dX10_letter_12 : decode cX10_letter 12 = .ok (.if_icmp .ge 23, 3) := by decide +kernel
theorem dX10_letter_15 : decode cX10_letter 15 = .ok (.iload_n 2, 1) := by decide +kernel
theorem dX10_letter_16 : decode cX10_letter 16 = .ok (.ifCond .lt 19, 3) := by decide +kernel
theorem dX10_letter_19 : decode cX10_letter 19 = .ok (.iload_n 2, 1) := by decide +kernel
theorem dX10_letter_20 : decode cX10_letter 20 = .ok (.aload_n 0, 1) := by decide +kernel
theorem dX10_letter_21 : decode cX10_letter 21 = .ok (.getfield 57, 3) := by decide +kernel
theorem dX10_letter_24 : decode cX10_letter 24 = .ok (.aload_n 0, 1) := by decide +kernel
theorem dX10_letter_25 : decode cX10_letter 25 = .ok (.getfield 43, 3) := by decide +kernel
theorem dX10_letter_28 : decode cX10_letter 28 = .ok (.iload_n 1, 1) := by decide +kernel
theorem dX10_letter_29 : decode cX10_letter 29 = .ok (.invokevirtual 173, 3) := by decide +kernel
theorem dX10_letter_32 : decode cX10_letter 32 = .ok (.if_icmp .lt 13, 3) := by decide +kernel
theorem dX10_letter_35 : decode cX10_letter 35 = .ok (.new 124, 3) := by decide +kernel
theorem dX10_letter_38 : decode cX10_letter 38 = .ok (.dup, 1) := by decide +kernel
theorem dX10_letter_39 : decode cX10_letter 39 = .ok (.ldc 177, 2) := by decide +kernel
theorem dX10_letter_41 : decode cX10_letter 41 = .ok (.invokespecial 128, 3) := by decide +kernel
theorem dX10_letter_44 : decode cX10_letter 44 = .ok (.athrow, 1) := by decide +kernel
theorem dX10_letter_45 : decode cX10_letter 45 = .ok (.aload_n 0, 1) := by decide +kernel
theorem dX10_letter_46 : decode cX10_letter 46 = .ok (.getfield 57, 3) := by decide +kernel
theorem dX10_letter_49 : decode cX10_letter 49 = .ok (.aload_n 0, 1) := by decide +kernel
theorem dX10_letter_50 : decode cX10_letter 50 = .ok (.getfield 43, 3) := by decide +kernel
theorem dX10_letter_53 : decode cX10_letter 53 = .ok (.iload_n 1, 1) := by decide +kernel
theorem dX10_letter_54 : decode cX10_letter 54 = .ok (.iload_n 2, 1) := by decide +kernel
theorem dX10_letter_55 : decode cX10_letter 55 = .ok (.invokevirtual 179, 3) := by decide +kernel
theorem dX10_letter_58 : decode cX10_letter 58 = .ok (.ireturn, 1) := by decide +kernel
theorem dX10_meet_0 : decode cX10_meet 0 = .ok (.iload_n 1, 1) := by decide +kernel
theorem dX10_meet_1 : decode cX10_meet 1 = .ok (.iload_n 2, 1) := by decide +kernel
theorem dX10_meet_2 : decode cX10_meet 2 = .ok (.if_icmp .ne 7, 3) := by decide +kernel
theorem dX10_meet_5 : decode cX10_meet 5 = .ok (.ldc2_w 182, 3) := by decide +kernel
theorem dX10_meet_8 : decode cX10_meet 8 = .ok (.lreturn, 1) := by decide +kernel
theorem dX10_meet_9 : decode cX10_meet 9 = .ok (.aload_n 0, 1) := by decide +kernel
theorem dX10_meet_10 : decode cX10_meet 10 = .ok (.getfield 43, 3) := by decide +kernel
theorem dX10_meet_13 : decode cX10_meet 13 = .ok (.iconst 1, 1) := by decide +kernel
theorem dX10_meet_14 : decode cX10_meet 14 = .ok (.iload_n 1, 1) := by decide +kernel
theorem dX10_meet_15 : decode cX10_meet 15 = .ok (.invokevirtual 184, 3) := by decide +kernel
theorem dX10_meet_18 : decode cX10_meet 18 = .ok (.istore_n 3, 1) := by decide +kernel
theorem dX10_meet_19 : decode cX10_meet 19 = .ok (.aload_n 0, 1) := by decide +kernel
theorem dX10_meet_20 : decode cX10_meet 20 = .ok (.getfield 43, 3) := by decide +kernel
theorem dX10_meet_23 : decode cX10_meet 23 = .ok (.iconst 1, 1) := by decide +kernel
theorem dX10_meet_24 : decode cX10_meet 24 = .ok (.iload_n 2, 1) := by decide +kernel
theorem dX10_meet_25 : decode cX10_meet 25 = .ok (.invokevirtual 184, 3) := by decide +kernel
theorem dX10_meet_28 : decode cX10_meet 28 = .ok (.istore 4, 2) := by decide +kernel
theorem dX10_meet_30 : decode cX10_meet 30 = .ok (.iload_n 3, 1) := by decide +kernel
theorem dX10_meet_31 : decode cX10_meet 31 = .ok (.iconst (-1), 1) := by decide +kernel
theorem dX10_meet_32 : decode cX10_meet 32 = .ok (.if_icmp .eq 9, 3) := by decide +kernel
theorem dX10_meet_35 : decode cX10_meet 35 = .ok (.iload 4, 2) := by decide +kernel
theorem dX10_meet_37 : decode cX10_meet 37 = .ok (.iconst (-1), 1) := by decide +kernel
theorem dX10_meet_38 : decode cX10_meet 38 = .ok (.if_icmp .ne 7, 3) := by decide +kernel
theorem dX10_meet_41 : decode cX10_meet 41 = .ok (.ldc2_w 182, 3) := by decide +kernel
theorem dX10_meet_44 : decode cX10_meet 44 = .ok (.lreturn, 1) := by decide +kernel
theorem dX10_meet_45 : decode cX10_meet 45 = .ok (.aload_n 0, 1) := by decide +kernel
theorem dX10_meet_46 : decode cX10_meet 46 = .ok (.getfield 71, 3) := by decide +kernel
theorem dX10_meet_49 : decode cX10_meet 49 = .ok (.aload_n 0, 1) := by decide +kernel
theorem dX10_meet_50 : decode cX10_meet 50 = .ok (.getfield 43, 3) := by decide +kernel
theorem dX10_meet_53 : decode cX10_meet 53 = .ok (.iload_n 3, 1) := by decide +kernel
theorem dX10_meet_54 : decode cX10_meet 54 = .ok (.iload 4, 2) := by decide +kernel
theorem dX10_meet_56 : decode cX10_meet 56 = .ok (.aload_n 0, 1) := by decide +kernel
theorem dX10_meet_57 : decode cX10_meet 57 = .ok (.getfield 75, 3) := by decide +kernel
theorem dX10_meet_60 : decode cX10_meet 60 = .ok (.invokevirtual 187, 3) := by decide +kernel
theorem dX10_meet_63 : decode cX10_meet 63 = .ok (.lreturn, 1) := by decide +kernel
theorem dX10_when_0 : decode cX10_when 0 = .ok (.aload_n 0, 1) := by decide +kernel
theorem dX10_when_1 : decode cX10_when 1 = .ok (.getfield 71, 3) := by decide +kernel
theorem dX10_when_4 : decode cX10_when 4 = .ok (.invokevirtual 191, 3) := by decide +kernel
theorem dX10_when_7 : decode cX10_when 7 = .ok (.ireturn, 1) := by decide +kernel
theorem dX10_size_0 : decode cX10_size 0 = .ok (.aload_n 0, 1) := by decide +kernel
theorem dX10_size_1 : decode cX10_size 1 = .ok (.getfield 43, 3) := by decide +kernel
theorem dX10_size_4 : decode cX10_size 4 = .ok (.iconst 2, 1) := by decide +kernel
theorem dX10_size_5 : decode cX10_size 5 = .ok (.iload_n 1, 1) := by decide +kernel
theorem dX10_size_6 : decode cX10_size 6 = .ok (.invokevirtual 184, 3) := by decide +kernel
theorem dX10_size_9 : decode cX10_size 9 = .ok (.istore_n 2, 1) := by decide +kernel
theorem dX10_size_10 : decode cX10_size 10 = .ok (.iload_n 2, 1) := by decide +kernel
theorem dX10_size_11 : decode cX10_size 11 = .ok (.iconst (-1), 1) := by decide +kernel
theorem dX10_size_12 : decode cX10_size 12 = .ok (.if_icmp .ne 7, 3) := by decide +kernel
theorem dX10_size_15 : decode cX10_size 15 = .ok (.iconst (-1), 1) := by decide +kernel
theorem dX10_size_16 : decode cX10_size 16 = .ok (.goto 13, 3) := by decide +kernel
theorem dX10_size_19 : decode cX10_size 19 = .ok (.aload_n 0, 1) := by decide +kernel
theorem dX10_size_20 : decode cX10_size 20 = .ok (.getfield 43, 3) := by decide +kernel
theorem dX10_size_23 : decode cX10_size 23 = .ok (.iload_n 2, 1) := by decide +kernel
theorem dX10_size_24 : decode cX10_size 24 = .ok (.bipush 6, 2) := by decide +kernel
theorem dX10_size_26 : decode cX10_size 26 = .ok (.invokevirtual 139, 3) := by decide +kernel
theorem dX10_size_29 : decode cX10_size 29 = .ok (.ireturn, 1) := by decide +kernel
theorem dX10_count_0 : decode cX10_count 0 = .ok (.iload_n 1, 1) := by decide +kernel
theorem dX10_count_1 : decode cX10_count 1 = .ok (.tableswitch 122 0 8 #[51, 56, 61, 69, 74, 90, 98, 106, 114], 51) := by decide +kernel
theorem dX10_count_52 : decode cX10_count 52 = .ok (.aload_n 0, 1) := by decide +kernel
theorem dX10_count_53 : decode cX10_count 53 = .ok (.getfield 75, 3) := by decide +kernel
theorem dX10_count_56 : decode cX10_count 56 = .ok (.ireturn, 1) := by decide +kernel
theorem dX10_count_57 : decode cX10_count 57 = .ok (.aload_n 0, 1) := by decide +kernel
theorem dX10_count_58 : decode cX10_count 58 = .ok (.getfield 79, 3) := by decide +kernel
theorem dX10_count_61 : decode cX10_count 61 = .ok (.ireturn, 1) := by decide +kernel
theorem dX10_count_62 : decode cX10_count 62 = .ok (.aload_n 0, 1) := by decide +kernel
theorem dX10_count_63 : decode cX10_count 63 = .ok (.getfield 43, 3) := by decide +kernel
theorem dX10_count_66 : decode cX10_count 66 = .ok (.invokevirtual 194, 3) := by decide +kernel
theorem dX10_count_69 : decode cX10_count 69 = .ok (.ireturn, 1) := by decide +kernel
theorem dX10_count_70 : decode cX10_count 70 = .ok (.aload_n 0, 1) := by decide +kernel
theorem dX10_count_71 : decode cX10_count 71 = .ok (.getfield 82, 3) := by decide +kernel
theorem dX10_count_74 : decode cX10_count 74 = .ok (.ireturn, 1) := by decide +kernel
theorem dX10_count_75 : decode cX10_count 75 = .ok (.aload_n 0, 1) := by decide +kernel
theorem dX10_count_76 : decode cX10_count 76 = .ok (.getfield 19, 3) := by decide +kernel
theorem dX10_count_79 : decode cX10_count 79 = .ok (.invokevirtual 197, 3) := by decide +kernel
theorem dX10_count_82 : decode cX10_count 82 = .ok (.aload_n 0, 1) := by decide +kernel
theorem dX10_count_83 : decode cX10_count 83 = .ok (.getfield 23, 3) := by decide +kernel
theorem dX10_count_86 : decode cX10_count 86 = .ok (.invokevirtual 197, 3) := by decide +kernel
theorem dX10_count_89 : decode cX10_count 89 = .ok (.iadd, 1) := by decide +kernel
theorem dX10_count_90 : decode cX10_count 90 = .ok (.ireturn, 1) := by decide +kernel
theorem dX10_count_91 : decode cX10_count 91 = .ok (.aload_n 0, 1) := by decide +kernel
theorem dX10_count_92 : decode cX10_count 92 = .ok (.getfield 10, 3) := by decide +kernel
theorem dX10_count_95 : decode cX10_count 95 = .ok (.invokevirtual 93, 3) := by decide +kernel
theorem dX10_count_98 : decode cX10_count 98 = .ok (.ireturn, 1) := by decide +kernel
theorem dX10_count_99 : decode cX10_count 99 = .ok (.aload_n 0, 1) := by decide +kernel
theorem dX10_count_100 : decode cX10_count 100 = .ok (.getfield 36, 3) := by decide +kernel
theorem dX10_count_103 : decode cX10_count 103 = .ok (.invokevirtual 121, 3) := by decide +kernel
theorem dX10_count_106 : decode cX10_count 106 = .ok (.ireturn, 1) := by decide +kernel
theorem dX10_count_107 : decode cX10_count 107 = .ok (.aload_n 0, 1) := by decide +kernel
theorem dX10_count_108 : decode cX10_count 108 = .ok (.getfield 19, 3) := by decide +kernel
theorem dX10_count_111 : decode cX10_count 111 = .ok (.invokevirtual 200, 3) := by decide +kernel
theorem dX10_count_114 : decode cX10_count 114 = .ok (.ireturn, 1) := by decide +kernel
theorem dX10_count_115 : decode cX10_count 115 = .ok (.aload_n 0, 1) := by decide +kernel
theorem dX10_count_116 : decode cX10_count 116 = .ok (.getfield 23, 3) := by decide +kernel
theorem dX10_count_119 : decode cX10_count 119 = .ok (.invokevirtual 200, 3) := by decide +kernel
theorem dX10_count_122 : decode cX10_count 122 = .ok (.ireturn, 1) := by decide +kernel
theorem dX10_count_123 : decode cX10_count 123 = .ok (.iconst (-1), 1) := by decide +kernel
theorem dX10_count_124 : decode cX10_count 124 = .ok (.ireturn, 1) := by decide +kernel
theorem dX10_readFrame_0 : decode cX10_readFrame 0 = .ok (.aload_n 0, 1) := by decide +kernel
theorem dX10_readFrame_1 : decode cX10_readFrame 1 = .ok (.getfield 29, 3) := by decide +kernel
theorem dX10_readFrame_4 : decode cX10_readFrame 4 = .ok (.aload_n 1, 1) := by decide +kernel
theorem dX10_readFrame_5 : decode cX10_readFrame 5 = .ok (.invokevirtual 203, 3) := by decide +kernel
theorem dX10_readFrame_8 : decode cX10_readFrame 8 = .ok (.aload_n 0, 1) := by decide +kernel
theorem dX10_readFrame_9 : decode cX10_readFrame 9 = .ok (.dup, 1) := by decide +kernel
theorem dX10_readFrame_10 : decode cX10_readFrame 10 = .ok (.getfield 79, 3) := by decide +kernel
theorem dX10_readFrame_13 : decode cX10_readFrame 13 = .ok (.iconst 1, 1) := by decide +kernel
theorem dX10_readFrame_14 : decode cX10_readFrame 14 = .ok (.iadd, 1) := by decide +kernel
theorem dX10_readFrame_15 : decode cX10_readFrame 15 = .ok (.putfield 79, 3) := by decide +kernel
theorem dX10_readFrame_18 : decode cX10_readFrame 18 = .ok (.aload_n 0, 1) := by decide +kernel
theorem dX10_readFrame_19 : decode cX10_readFrame 19 = .ok (.getfield 29, 3) := by decide +kernel
theorem dX10_readFrame_22 : decode cX10_readFrame 22 = .ok (.invokevirtual 207, 3) := by decide +kernel
theorem dX10_readFrame_25 : decode cX10_readFrame 25 = .ok (.ifCond .ne 13, 3) := by decide +kernel
theorem dX10_readFrame_28 : decode cX10_readFrame 28 = .ok (.aload_n 0, 1) := by decide +kernel
theorem dX10_readFrame_29 : decode cX10_readFrame 29 = .ok (.dup, 1) := by decide +kernel
theorem dX10_readFrame_30 : decode cX10_readFrame 30 = .ok (.getfield 82, 3) := by decide +kernel
theorem dX10_readFrame_33 : decode cX10_readFrame 33 = .ok (.iconst 1, 1) := by decide +kernel
theorem dX10_readFrame_34 : decode cX10_readFrame 34 = .ok (.iadd, 1) := by decide +kernel
theorem dX10_readFrame_35 : decode cX10_readFrame 35 = .ok (.putfield 82, 3) := by decide +kernel
theorem dX10_readFrame_38 : decode cX10_readFrame 38 = .ok (.aload_n 0, 1) := by decide +kernel
theorem dX10_readFrame_39 : decode cX10_readFrame 39 = .ok (.getfield 43, 3) := by decide +kernel
theorem dX10_readFrame_42 : decode cX10_readFrame 42 = .ok (.aload_n 0, 1) := by decide +kernel
theorem dX10_readFrame_43 : decode cX10_readFrame 43 = .ok (.getfield 29, 3) := by decide +kernel
theorem dX10_readFrame_46 : decode cX10_readFrame 46 = .ok (.iload_n 2, 1) := by decide +kernel
theorem dX10_readFrame_47 : decode cX10_readFrame 47 = .ok (.aload_n 0, 1) := by decide +kernel
theorem dX10_readFrame_48 : decode cX10_readFrame 48 = .ok (.getfield 75, 3) := by decide +kernel
theorem dX10_readFrame_51 : decode cX10_readFrame 51 = .ok (.invokevirtual 210, 3) := by decide +kernel
theorem dX10_readFrame_54 : decode cX10_readFrame 54 = .ok (.istore_n 3, 1) := by decide +kernel
theorem dX10_readFrame_55 : decode cX10_readFrame 55 = .ok (.iload_n 3, 1) := by decide +kernel
theorem dX10_readFrame_56 : decode cX10_readFrame 56 = .ok (.iconst (-1), 1) := by decide +kernel
theorem dX10_readFrame_57 : decode cX10_readFrame 57 = .ok (.if_icmp .ne 4, 3) := by decide +kernel
theorem dX10_readFrame_60 : decode cX10_readFrame 60 = .ok (.return_, 1) := by decide +kernel
theorem dX10_readFrame_61 : decode cX10_readFrame 61 = .ok (.aload_n 0, 1) := by decide +kernel
theorem dX10_readFrame_62 : decode cX10_readFrame 62 = .ok (.getfield 29, 3) := by decide +kernel
theorem dX10_readFrame_65 : decode cX10_readFrame 65 = .ok (.invokevirtual 207, 3) := by decide +kernel
theorem dX10_readFrame_68 : decode cX10_readFrame 68 = .ok (.iconst 5, 1) := by decide +kernel
theorem dX10_readFrame_69 : decode cX10_readFrame 69 = .ok (.if_icmp .ne 18, 3) := by decide +kernel
theorem dX10_readFrame_72 : decode cX10_readFrame 72 = .ok (.aload_n 0, 1) := by decide +kernel
theorem dX10_readFrame_73 : decode cX10_readFrame 73 = .ok (.getfield 50, 3) := by decide +kernel
theorem dX10_readFrame_76 : decode cX10_readFrame 76 = .ok (.aload_n 0, 1) := by decide +kernel
theorem dX10_readFrame_77 : decode cX10_readFrame 77 = .ok (.getfield 43, 3) := by decide +kernel
theorem dX10_readFrame_80 : decode cX10_readFrame 80 = .ok (.iload_n 3, 1) := by decide +kernel
theorem dX10_readFrame_81 : decode cX10_readFrame 81 = .ok (.invokevirtual 214, 3) := by decide +kernel
theorem dX10_readFrame_84 : decode cX10_readFrame 84 = .ok (.goto 26, 3) := by decide +kernel
theorem dX10_readFrame_87 : decode cX10_readFrame 87 = .ok (.aload_n 0, 1) := by decide +kernel
theorem dX10_readFrame_88 : decode cX10_readFrame 88 = .ok (.getfield 29, 3) := by decide +kernel
theorem dX10_readFrame_91 : decode cX10_readFrame 91 = .ok (.invokevirtual 207, 3) := by decide +kernel
theorem dX10_readFrame_94 : decode cX10_readFrame 94 = .ok (.iconst 4, 1) := by decide +kernel
theorem dX10_readFrame_95 : decode cX10_readFrame 95 = .ok (.if_icmp .ne 15, 3) := by decide +kernel
theorem dX10_readFrame_98 : decode cX10_readFrame 98 = .ok (.aload_n 0, 1) := by decide +kernel
theorem dX10_readFrame_99 : decode cX10_readFrame 99 = .ok (.getfield 57, 3) := by decide +kernel
theorem dX10_readFrame_102 : decode cX10_readFrame 102 = .ok (.aload_n 0, 1) := by decide +kernel
theorem dX10_readFrame_103 : decode cX10_readFrame 103 = .ok (.getfield 43, 3) := by decide +kernel
theorem dX10_readFrame_106 : decode cX10_readFrame 106 = .ok (.iload_n 3, 1) := by decide +kernel
theorem dX10_readFrame_107 : decode cX10_readFrame 107 = .ok (.invokevirtual 218, 3) := by decide +kernel
theorem dX10_readFrame_110 : decode cX10_readFrame 110 = .ok (.return_, 1) := by decide +kernel
theorem dX10_checkAfter_0 : decode cX10_checkAfter 0 = .ok (.iload_n 0, 1) := by decide +kernel
theorem dX10_checkAfter_1 : decode cX10_checkAfter 1 = .ok (.iconst 1, 1) := by decide +kernel
theorem dX10_checkAfter_2 : decode cX10_checkAfter 2 = .ok (.ishl, 1) := by decide +kernel
theorem dX10_checkAfter_3 : decode cX10_checkAfter 3 = .ok (.ldc 219, 2) := by decide +kernel
theorem dX10_checkAfter_5 : decode cX10_checkAfter 5 = .ok (.iand, 1) := by decide +kernel
theorem dX10_checkAfter_6 : decode cX10_checkAfter 6 = .ok (.istore_n 2, 1) := by decide +kernel
theorem dX10_checkAfter_7 : decode cX10_checkAfter 7 = .ok (.iload_n 0, 1) := by decide +kernel
theorem dX10_checkAfter_8 : decode cX10_checkAfter 8 = .ok (.bipush 15, 2) := by decide +kernel
theorem dX10_checkAfter_10 : decode cX10_checkAfter 10 = .ok (.ishr, 1) := by decide +kernel
theorem dX10_checkAfter_11 : decode cX10_checkAfter 11 = .ok (.iconst 1, 1) := by decide +kernel
theorem dX10_checkAfter_12 : decode cX10_checkAfter 12 = .ok (.iand, 1) := by decide +kernel
theorem dX10_checkAfter_13 : decode cX10_checkAfter 13 = .ok (.iload_n 1, 1) := by decide +kernel
theorem dX10_checkAfter_14 : decode cX10_checkAfter 14 = .ok (.if_icmp .eq 11, 3) := by decide +kernel
theorem dX10_checkAfter_17 : decode cX10_checkAfter 17 = .ok (.iload_n 2, 1) := by decide +kernel
theorem dX10_checkAfter_18 : decode cX10_checkAfter 18 = .ok (.sipush 4129, 3) := by decide +kernel
theorem dX10_checkAfter_21 : decode cX10_checkAfter 21 = .ok (.ixor, 1) := by decide +kernel
theorem dX10_checkAfter_22 : decode cX10_checkAfter 22 = .ok (.goto 4, 3) := by decide +kernel
theorem dX10_checkAfter_25 : decode cX10_checkAfter 25 = .ok (.iload_n 2, 1) := by decide +kernel
theorem dX10_checkAfter_26 : decode cX10_checkAfter 26 = .ok (.ireturn, 1) := by decide +kernel
theorem dX11_init_0 : decode cX11_init 0 = .ok (.aload_n 0, 1) := by decide +kernel
theorem dX11_init_1 : decode cX11_init 1 = .ok (.invokespecial 1, 3) := by decide +kernel
theorem dX11_init_4 : decode cX11_init 4 = .ok (.aload_n 0, 1) := by decide +kernel
theorem dX11_init_5 : decode cX11_init 5 = .ok (.sipush 400, 3) := by decide +kernel
theorem dX11_init_8 : decode cX11_init 8 = .ok (.newarray .int, 2) := by decide +kernel
theorem dX11_init_10 : decode cX11_init 10 = .ok (.putfield 7, 3) := by decide +kernel
theorem dX11_init_13 : decode cX11_init 13 = .ok (.aload_n 0, 1) := by decide +kernel
theorem dX11_init_14 : decode cX11_init 14 = .ok (.iconst 2, 1) := by decide +kernel
theorem dX11_init_15 : decode cX11_init 15 = .ok (.newarray .int, 2) := by decide +kernel
theorem dX11_init_17 : decode cX11_init 17 = .ok (.putfield 13, 3) := by decide +kernel
theorem dX11_init_20 : decode cX11_init 20 = .ok (.aload_n 0, 1) := by decide +kernel
theorem dX11_init_21 : decode cX11_init 21 = .ok (.iconst 2, 1) := by decide +kernel
theorem dX11_init_22 : decode cX11_init 22 = .ok (.newarray .int, 2) := by decide +kernel
theorem dX11_init_24 : decode cX11_init 24 = .ok (.putfield 16, 3) := by decide +kernel
theorem dX11_init_27 : decode cX11_init 27 = .ok (.aload_n 0, 1) := by decide +kernel
theorem dX11_init_28 : decode cX11_init 28 = .ok (.iconst 2, 1) := by decide +kernel
theorem dX11_init_29 : decode cX11_init 29 = .ok (.newarray .int, 2) := by decide +kernel
theorem dX11_init_31 : decode cX11_init 31 = .ok (.dup, 1) := by decide +kernel
theorem dX11_init_32 : decode cX11_init 32 = .ok (.iconst 0, 1) := by decide +kernel
theorem dX11_init_33 : decode cX11_init 33 = .ok (.iconst (-1), 1) := by decide +kernel
theorem dX11_init_34 : decode cX11_init 34 = .ok (.iastore, 1) := by decide +kernel
theorem dX11_init_35 : decode cX11_init 35 = .ok (.dup, 1) := by decide +kernel
theorem dX11_init_36 : decode cX11_init 36 = .ok (.iconst 1, 1) := by decide +kernel
theorem dX11_init_37 : decode cX11_init 37 = .ok (.iconst (-1), 1) := by decide +kernel
theorem dX11_init_38 : decode cX11_init 38 = .ok (.iastore, 1) := by decide +kernel
theorem dX11_init_39 : decode cX11_init 39 = .ok (.putfield 19, 3) := by decide +kernel
theorem dX11_init_42 : decode cX11_init 42 = .ok (.aload_n 0, 1) := by decide +kernel
theorem dX11_init_43 : decode cX11_init 43 = .ok (.sipush 600, 3) := by decide +kernel
theorem dX11_init_46 : decode cX11_init 46 = .ok (.newarray .int, 2) := by decide +kernel
theorem dX11_init_48 : decode cX11_init 48 = .ok (.putfield 22, 3) := by decide +kernel
theorem dX11_init_51 : decode cX11_init 51 = .ok (.aload_n 0, 1) := by decide +kernel
theorem dX11_init_52 : decode cX11_init 52 = .ok (.sipush 1600, 3) := by decide +kernel
theorem dX11_init_55 : decode cX11_init 55 = .ok (.newarray .int, 2) := by decide +kernel
theorem dX11_init_57 : decode cX11_init 57 = .ok (.putfield 25, 3) := by decide +kernel
theorem dX11_init_60 : decode cX11_init 60 = .ok (.aload_n 0, 1) := by decide +kernel
theorem dX11_init_61 : decode cX11_init 61 = .ok (.sipush 200, 3) := by decide +kernel
theorem dX11_init_64 : decode cX11_init 64 = .ok (.newarray .boolean, 2) := by decide +kernel
theorem dX11_init_66 : decode cX11_init 66 = .ok (.putfield 28, 3) := by decide +kernel
theorem dX11_init_69 : decode cX11_init 69 = .ok (.aload_n 0, 1) := by decide +kernel
theorem dX11_init_70 : decode cX11_init 70 = .ok (.iconst 4, 1) := by decide +kernel
theorem dX11_init_71 : decode cX11_init 71 = .ok (.newarray .int, 2) := by decide +kernel
theorem dX11_init_73 : decode cX11_init 73 = .ok (.putfield 32, 3) := by decide +kernel
theorem dX11_init_76 : decode cX11_init 76 = .ok (.aload_n 0, 1) := by decide +kernel
theorem dX11_init_77 : decode cX11_init 77 = .ok (.bipush 100, 2) := by decide +kernel
theorem dX11_init_79 : decode cX11_init 79 = .ok (.newarray .int, 2) := by decide +kernel
theorem dX11_init_81 : decode cX11_init 81 = .ok (.putfield 35, 3) := by decide +kernel
theorem dX11_init_84 : decode cX11_init 84 = .ok (.aload_n 0, 1) := by decide +kernel
theorem dX11_init_85 : decode cX11_init 85 = .ok (.bipush 100, 2) := by decide +kernel
theorem dX11_init_87 : decode cX11_init 87 = .ok (.newarray .int, 2) := by decide +kernel
theorem dX11_init_89 : decode cX11_init 89 = .ok (.putfield 38, 3) := by decide +kernel
theorem dX11_init_92 : decode cX11_init 92 = .ok (.aload_n 0, 1) := by decide +kernel
theorem dX11_init_93 : decode cX11_init 93 = .ok (.bipush 100, 2) := by decide +kernel
theorem dX11_init_95 : decode cX11_init 95 = .ok (.newarray .int, 2) := by decide +kernel
theorem dX11_init_97 : decode cX11_init 97 = .ok (.putfield 41, 3) := by decide +kernel
theorem dX11_init_100 : decode cX11_init 100 = .ok (.aload_n 0, 1) := by decide +kernel
theorem dX11_init_101 : decode cX11_init 101 = .ok (.bipush 100, 2) := by decide +kernel
theorem dX11_init_103 : decode cX11_init 103 = .ok (.newarray .int, 2) := by decide +kernel
theorem dX11_init_105 : decode cX11_init 105 = .ok (.putfield 44, 3) := by decide +kernel
theorem dX11_init_108 : decode cX11_init 108 = .ok (.aload_n 0, 1) := by decide +kernel
theorem dX11_init_109 : decode cX11_init 109 = .ok (.sipush 500, 3) := by decide +kernel
theorem dX11_init_112 : decode cX11_init 112 = .ok (.newarray .int, 2) := by decide +kernel
theorem dX11_init_114 : decode cX11_init 114 = .ok (.putfield 47, 3) := by decide +kernel
theorem dX11_init_117 : decode cX11_init 117 = .ok (.aload_n 0, 1) := by decide +kernel
theorem dX11_init_118 : decode cX11_init 118 = .ok (.bipush 60, 2) := by decide +kernel
theorem dX11_init_120 : decode cX11_init 120 = .ok (.newarray .int, 2) := by decide +kernel
theorem dX11_init_122 : decode cX11_init 122 = .ok (.putfield 50, 3) := by decide +kernel
theorem dX11_init_125 : decode cX11_init 125 = .ok (.aload_n 0, 1) := by decide +kernel
theorem dX11_init_126 : decode cX11_init 126 = .ok (.bipush 120, 2) := by decide +kernel
theorem dX11_init_128 : decode cX11_init 128 = .ok (.newarray .int, 2) := by decide +kernel
theorem dX11_init_130 : decode cX11_init 130 = .ok (.putfield 53, 3) := by decide +kernel
theorem dX11_init_133 : decode cX11_init 133 = .ok (.aload_n 0, 1) := by decide +kernel
theorem dX11_init_134 : decode cX11_init 134 = .ok (.bipush 16, 2) := by decide +kernel
theorem dX11_init_136 : decode cX11_init 136 = .ok (.newarray .int, 2) := by decide +kernel
theorem dX11_init_138 : decode cX11_init 138 = .ok (.putfield 56, 3) := by decide +kernel
theorem dX11_init_141 : decode cX11_init 141 = .ok (.aload_n 0, 1) := by decide +kernel
theorem dX11_init_142 : decode cX11_init 142 = .ok (.bipush 16, 2) := by decide +kernel
theorem dX11_init_144 : decode cX11_init 144 = .ok (.newarray .int, 2) := by decide +kernel
theorem dX11_init_146 : decode cX11_init 146 = .ok (.putfield 59, 3) := by decide +kernel
theorem dX11_init_149 : decode cX11_init 149 = .ok (.aload_n 0, 1) := by decide +kernel
theorem dX11_init_150 : decode cX11_init 150 = .ok (.bipush 16, 2) := by decide +kernel
theorem dX11_init_152 : decode cX11_init 152 = .ok (.newarray .int, 2) := by decide +kernel
theorem dX11_init_154 : decode cX11_init 154 = .ok (.putfield 62, 3) := by decide +kernel
theorem dX11_init_157 : decode cX11_init 157 = .ok (.aload_n 0, 1) := by decide +kernel
theorem dX11_init_158 : decode cX11_init 158 = .ok (.bipush 16, 2) := by decide +kernel
theorem dX11_init_160 : decode cX11_init 160 = .ok (.newarray .int, 2) := by decide +kernel
theorem dX11_init_162 : decode cX11_init 162 = .ok (.putfield 65, 3) := by decide +kernel
theorem dX11_init_165 : decode cX11_init 165 = .ok (.aload_n 0, 1) := by decide +kernel
theorem dX11_init_166 : decode cX11_init 166 = .ok (.bipush 16, 2) := by decide +kernel
theorem dX11_init_168 : decode cX11_init 168 = .ok (.newarray .int, 2) := by decide +kernel
theorem dX11_init_170 : decode cX11_init 170 = .ok (.putfield 68, 3) := by decide +kernel
theorem dX11_init_173 : decode cX11_init 173 = .ok (.aload_n 0, 1) := by decide +kernel
theorem dX11_init_174 : decode cX11_init 174 = .ok (.bipush 16, 2) := by decide +kernel
theorem dX11_init_176 : decode cX11_init 176 = .ok (.newarray .int, 2) := by decide +kernel
theorem dX11_init_178 : decode cX11_init 178 = .ok (.putfield 71, 3) := by decide +kernel
theorem dX11_init_181 : decode cX11_init 181 = .ok (.aload_n 0, 1) := by decide +kernel
theorem dX11_init_182 : decode cX11_init 182 = .ok (.sipush 256, 3) := by decide +kernel
theorem dX11_init_185 : decode cX11_init 185 = .ok (.newarray .long, 2) := by decide +kernel
theorem dX11_init_187 : decode cX11_init 187 = .ok (.putfield 74, 3) := by decide +kernel
theorem dX11_init_190 : decode cX11_init 190 = .ok (.aload_n 0, 1) := by decide +kernel
theorem dX11_init_191 : decode cX11_init 191 = .ok (.sipush 256, 3) := by decide +kernel
theorem dX11_init_194 : decode cX11_init 194 = .ok (.newarray .boolean, 2) := by decide +kernel
theorem dX11_init_196 : decode cX11_init 196 = .ok (.putfield 78, 3) := by decide +kernel
theorem dX11_init_199 : decode cX11_init 199 = .ok (.aload_n 0, 1) := by decide +kernel
theorem dX11_init_200 : decode cX11_init 200 = .ok (.bipush 16, 2) := by decide +kernel
theorem dX11_init_202 : decode cX11_init 202 = .ok (.newarray .boolean, 2) := by decide +kernel
theorem dX11_init_204 : decode cX11_init 204 = .ok (.putfield 81, 3) := by decide +kernel
theorem dX11_init_207 : decode cX11_init 207 = .ok (.aload_n 0, 1) := by decide +kernel
theorem dX11_init_208 : decode cX11_init 208 = .ok (.bipush 16, 2) := by decide +kernel
theorem dX11_init_210 : decode cX11_init 210 = .ok (.newarray .long, 2) := by decide +kernel
theorem dX11_init_212 : decode cX11_init 212 = .ok (.putfield 84, 3) := by decide +kernel
theorem dX11_init_215 : decode cX11_init 215 = .ok (.aload_n 0, 1) := by decide +kernel
theorem dX11_init_216 : decode cX11_init 216 = .ok (.bipush 16, 2) := by decide +kernel
theorem dX11_init_218 : decode cX11_init 218 = .ok (.newarray .int, 2) := by decide +kernel
theorem dX11_init_220 : decode cX11_init 220 = .ok (.putfield 87, 3) := by decide +kernel
theorem dX11_init_223 : decode cX11_init 223 = .ok (.aload_n 0, 1) := by decide +kernel
theorem dX11_init_224 : decode cX11_init 224 = .ok (.iconst (-1), 1) := by decide +kernel
theorem dX11_init_225 : decode cX11_init 225 = .ok (.putfield 90, 3) := by decide +kernel
theorem dX11_init_228 : decode cX11_init 228 = .ok (.return_, 1) := by decide +kernel
theorem dX11_thrown_0 : decode cX11_thrown 0 = .ok (.aload_n 0, 1) := by decide +kernel
theorem dX11_thrown_1 : decode cX11_thrown 1 = .ok (.getfield 94, 3) := by decide +kernel
theorem dX11_thrown_4 : decode cX11_thrown 4 = .ok (.ireturn, 1) := by decide +kernel
theorem dX11_refuse_0 : decode cX11_refuse 0 = .ok (.aload_n 0, 1) := by decide +kernel
theorem dX11_refuse_1 : decode cX11_refuse 1 = .ok (.iconst 1, 1) := by decide +kernel
theorem dX11_refuse_2 : decode cX11_refuse 2 = .ok (.putfield 94, 3) := by decide +kernel
theorem dX11_refuse_5 : decode cX11_refuse 5 = .ok (.iconst 0, 1) := by decide +kernel
theorem dX11_refuse_6 : decode cX11_refuse 6 = .ok (.ireturn, 1) := by decide +kernel
theorem dX11_come_0 : decode cX11_come 0 = .ok (.bipush 24, 2) := by decide +kernel
theorem dX11_come_2 : decode cX11_come 2 = .ok (.istore_n 2, 1) := by decide +kernel
theorem dX11_come_3 : decode cX11_come 3 = .ok (.iload_n 2, 1) := by decide +kernel
theorem dX11_come_4 : decode cX11_come 4 = .ok (.ifCond .lt 35, 3) := by decide +kernel
theorem dX11_come_7 : decode cX11_come 7 = .ok (.aload_n 0, 1) := by decide +kernel
theorem dX11_come_8 : decode cX11_come 8 = .ok (.getfield 7, 3) := by decide +kernel
theorem dX11_come_11 : decode cX11_come 11 = .ok (.aload_n 0, 1) := by decide +kernel
theorem dX11_come_12 : decode cX11_come 12 = .ok (.getfield 97, 3) := by decide +kernel
theorem dX11_come_15 : decode cX11_come 15 = .ok (.iload_n 1, 1) := by decide +kernel
theorem dX11_come_16 : decode cX11_come 16 = .ok (.iload_n 2, 1) := by decide +kernel
theorem dX11_come_17 : decode cX11_come 17 = .ok (.iushr, 1) := by decide +kernel
theorem dX11_come_18 : decode cX11_come 18 = .ok (.sipush 255, 3) := by decide +kernel
theorem dX11_come_21 : decode cX11_come 21 = .ok (.iand, 1) := by decide +kernel
theorem dX11_come_22 : decode cX11_come 22 = .ok (.iastore, 1) := by decide +kernel
theorem dX11_come_23 : decode cX11_come 23 = .ok (.aload_n 0, 1) := by decide +kernel
theorem dX11_come_24 : decode cX11_come 24 = .ok (.dup, 1) := by decide +kernel
theorem dX11_come_25 : decode cX11_come 25 = .ok (.getfield 97, 3) := by decide +kernel
theorem dX11_come_28 : decode cX11_come 28 = .ok (.iconst 1, 1) := by decide +kernel
theorem dX11_come_29 : decode cX11_come 29 = .ok (.iadd, 1) := by decide +kernel
theorem dX11_come_30 : decode cX11_come 30 = .ok (.putfield 97, 3) := by decide +kernel
theorem dX11_come_33 : decode cX11_come 33 = .ok (.iinc 2 (-8), 3) := by decide +kernel
theorem dX11_come_36 : decode cX11_come 36 = .ok (.goto (-33), 3) := by decide +kernel
theorem dX11_come_39 : decode cX11_come 39 = .ok (.return_, 1) := by decide +kernel
theorem dX11_feed_0 : decode cX11_feed 0 = .ok (.aload_n 0, 1) := by decide +kernel
theorem dX11_feed_1 : decode cX11_feed 1 = .ok (.iconst 0, 1) := by decide +kernel
theorem dX11_feed_2 : decode cX11_feed 2 = .ok (.putfield 94, 3) := by decide +kernel
theorem dX11_feed_5 : decode cX11_feed 5 = .ok (.aload_n 0, 1) := by decide +kernel
theorem dX11_feed_6 : decode cX11_feed 6 = .ok (.getfield 97, 3) := by decide +kernel
theorem dX11_feed_9 : decode cX11_feed 9 = .ok (.bipush 20, 2) := by decide +kernel
theorem dX11_feed_11 : decode cX11_feed 11 = .ok (.iadd, 1) := by decide +kernel
theorem dX11_feed_12 : decode cX11_feed 12 = .ok (.sipush 400, 3) := by decide +kernel
theorem dX11_feed_15 : decode cX11_feed 15 = .ok (.if_icmp .le 5, 3) := by decide +kernel
theorem dX11_feed_18 : decode cX11_feed 18 = .ok (.iconst (-1), 1) := by decide +kernel
theorem dX11_feed_19 : decode cX11_feed 19 = .ok (.ireturn, 1) := by decide +kernel
theorem dX11_feed_20 : decode cX11_feed 20 = .ok (.aload_n 0, 1) := by decide +kernel
theorem dX11_feed_21 : decode cX11_feed 21 = .ok (.iload_n 1, 1) := by decide +kernel
theorem dX11_feed_22 : decode cX11_feed 22 = .ok (.invokevirtual 100, 3) := by decide +kernel
theorem dX11_feed_25 : decode cX11_feed 25 = .ok (.aload_n 0, 1) := by decide +kernel
theorem dX11_feed_26 : decode cX11_feed 26 = .ok (.iload_n 2, 1) := by decide +kernel
theorem dX11_feed_27 : decode cX11_feed 27 = .ok (.invokevirtual 100, 3) := by decide +kernel
theorem dX11_feed_30 : decode cX11_feed 30 = .ok (.aload_n 0, 1) := by decide +kernel
theorem dX11_feed_31 : decode cX11_feed 31 = .ok (.iload_n 3, 1) := by decide +kernel
theorem dX11_feed_32 : decode cX11_feed 32 = .ok (.invokevirtual 100, 3) := by decide +kernel
theorem dX11_feed_35 : decode cX11_feed 35 = .ok (.aload_n 0, 1) := by decide +kernel
theorem dX11_feed_36 : decode cX11_feed 36 = .ok (.iload 4, 2) := by decide +kernel
theorem dX11_feed_38 : decode cX11_feed 38 = .ok (.invokevirtual 100, 3) := by decide +kernel
theorem dX11_feed_41 : decode cX11_feed 41 = .ok (.aload_n 0, 1) := by decide +kernel
theorem dX11_feed_42 : decode cX11_feed 42 = .ok (.iload 5, 2) := by decide +kernel
theorem dX11_feed_44 : decode cX11_feed 44 = .ok (.invokevirtual 100, 3) := by decide +kernel
theorem dX11_feed_47 : decode cX11_feed 47 = .ok (.aload_n 0, 1) := by decide +kernel
theorem dX11_feed_48 : decode cX11_feed 48 = .ok (.getfield 97, 3) := by decide +kernel
theorem dX11_feed_51 : decode cX11_feed 51 = .ok (.ireturn, 1) := by decide +kernel
theorem dX11_end_0 : decode cX11_end 0 = .ok (.aload_n 0, 1) := by decide +kernel
theorem dX11_end_1 : decode cX11_end 1 = .ok (.iconst 0, 1) := by decide +kernel
theorem dX11_end_2 : decode cX11_end 2 = .ok (.putfield 94, 3) := by decide +kernel
theorem dX11_end_5 : decode cX11_end 5 = .ok (.iload_n 1, 1) := by decide +kernel
theorem dX11_end_6 : decode cX11_end 6 = .ok (.ifCond .lt 11, 3) := by decide +kernel
theorem dX11_end_9 : decode cX11_end 9 = .ok (.iload_n 1, 1) := by decide +kernel
theorem dX11_end_10 : decode cX11_end 10 = .ok (.aload_n 0, 1) := by decide +kernel
theorem dX11_end_11 : decode cX11_end 11 = .ok (.getfield 97, 3) := by decide +kernel
theorem dX11_end_14 : decode cX11_end 14 = .ok (.if_icmp .le 5, 3) := by decide +kernel
theorem dX11_end_17 : decode cX11_end 17 = .ok (.iconst 0, 1) := by decide +kernel
theorem dX11_end_18 : decode cX11_end 18 = .ok (.ireturn, 1) := by decide +kernel
theorem dX11_end_19 : decode cX11_end 19 = .ok (.aload_n 0, 1) := by decide +kernel
theorem dX11_end_20 : decode cX11_end 20 = .ok (.iload_n 1, 1) := by decide +kernel
theorem dX11_end_21 : decode cX11_end 21 = .ok (.putfield 97, 3) := by decide +kernel
theorem dX11_end_24 : decode cX11_end 24 = .ok (.iconst 1, 1) := by decide +kernel
theorem dX11_end_25 : decode cX11_end 25 = .ok (.ireturn, 1) := by decide +kernel
theorem dX11_doubled_0 : decode cX11_doubled 0 = .ok (.iload_n 0, 1) := by decide +kernel
theorem dX11_doubled_1 : decode cX11_doubled 1 = .ok (.iconst 1, 1) := by decide +kernel
theorem dX11_doubled_2 : decode cX11_doubled 2 = .ok (.ishl, 1) := by decide +kernel
theorem dX11_doubled_3 : decode cX11_doubled 3 = .ok (.ldc 104, 2) := by decide +kernel
theorem dX11_doubled_5 : decode cX11_doubled 5 = .ok (.iand, 1) := by decide +kernel
theorem dX11_doubled_6 : decode cX11_doubled 6 = .ok (.istore_n 2, 1) := by decide +kernel
theorem dX11_doubled_7 : decode cX11_doubled 7 = .ok (.iload_n 0, 1) := by decide +kernel
theorem dX11_doubled_8 : decode cX11_doubled 8 = .ok (.bipush 15, 2) := by decide +kernel
theorem dX11_doubled_10 : decode cX11_doubled 10 = .ok (.ishr, 1) := by decide +kernel
theorem dX11_doubled_11 : decode cX11_doubled 11 = .ok (.iconst 1, 1) := by decide +kernel
theorem dX11_doubled_12 : decode cX11_doubled 12 = .ok (.iand, 1) := by decide +kernel
theorem dX11_doubled_13 : decode cX11_doubled 13 = .ok (.iload_n 1, 1) := by decide +kernel
theorem dX11_doubled_14 : decode cX11_doubled 14 = .ok (.if_icmp .eq 11, 3) := by decide +kernel
theorem dX11_doubled_17 : decode cX11_doubled 17 = .ok (.iload_n 2, 1) := by decide +kernel
theorem dX11_doubled_18 : decode cX11_doubled 18 = .ok (.sipush 4129, 3) := by decide +kernel
theorem dX11_doubled_21 : decode cX11_doubled 21 = .ok (.ixor, 1) := by decide +kernel
theorem dX11_doubled_22 : decode cX11_doubled 22 = .ok (.goto 4, 3) := by decide +kernel
theorem dX11_doubled_25 : decode cX11_doubled 25 = .ok (.iload_n 2, 1) := by decide +kernel
theorem dX11_doubled_26 : decode cX11_doubled 26 = .ok (.ireturn, 1) := by decide +kernel
theorem dX11_read_0 : decode cX11_read 0 = .ok (.iconst 0, 1) := by decide +kernel
theorem dX11_read_1 : decode cX11_read 1 = .ok (.istore_n 3, 1) := by decide +kernel
theorem dX11_read_2 : decode cX11_read 2 = .ok (.iconst 0, 1) := by decide +kernel
theorem dX11_read_3 : decode cX11_read 3 = .ok (.istore 4, 2) := by decide +kernel
theorem dX11_read_5 : decode cX11_read 5 = .ok (.iload 4, 2) := by decide +kernel
theorem dX11_read_7 : decode cX11_read 7 = .ok (.iload_n 2, 1) := by decide +kernel
theorem dX11_read_8 : decode cX11_read 8 = .ok (.if_icmp .ge 23, 3) := by decide +kernel
theorem dX11_read_11 : decode cX11_read 11 = .ok (.iload_n 3, 1) := by decide +kernel
theorem dX11_read_12 : decode cX11_read 12 = .ok (.iconst 1, 1) := by decide +kernel
theorem dX11_read_13 : decode cX11_read 13 = .ok (.ishl, 1) := by decide +kernel
theorem dX11_read_14 : decode cX11_read 14 = .ok (.aload_n 0, 1) := by decide +kernel
theorem dX11_read_15 : decode cX11_read 15 = .ok (.getfield 22, 3) := by decide +kernel
theorem dX11_read_18 : decode cX11_read 18 = .ok (.iload_n 1, 1) := by decide +kernel
theorem dX11_read_19 : decode cX11_read 19 = .ok (.iload 4, 2) := by decide +kernel
theorem dX11_read_21 : decode cX11_read 21 = .ok (.iadd, 1) := by decide +kernel
theorem dX11_read_22 : decode cX11_read 22 = .ok (.iaload, 1) := by decide +kernel
theorem dX11_read_23 : decode cX11_read 23 = .ok (.ior, 1) := by decide +kernel
theorem dX11_read_24 : decode cX11_read 24 = .ok (.istore_n 3, 1) := by decide +kernel
theorem dX11_read_25 : decode cX11_read 25 = .ok (.iinc 4 1, 3) := by decide +kernel
theorem dX11_read_28 : decode cX11_read 28 = .ok (.goto (-23), 3) := by decide +kernel
theorem dX11_read_31 : decode cX11_read 31 = .ok (.iload_n 3, 1) := by decide +kernel
theorem dX11_read_32 : decode cX11_read 32 = .ok (.ireturn, 1) := by decide +kernel
theorem dX11_lose_0 : decode cX11_lose 0 = .ok (.aload_n 0, 1) := by decide +kernel
theorem dX11_lose_1 : decode cX11_lose 1 = .ok (.getfield 19, 3) := by decide +kernel
theorem dX11_lose_4 : decode cX11_lose 4 = .ok (.iload_n 1, 1) := by decide +kernel
theorem dX11_lose_5 : decode cX11_lose 5 = .ok (.iaload, 1) := by decide +kernel
theorem dX11_lose_6 : decode cX11_lose 6 = .ok (.bipush 30, 2) := by decide +kernel
theorem dX11_lose_8 : decode cX11_lose 8 = .ok (.if_icmp .lt 13, 3) := by decide +kernel
theorem dX11_lose_11 : decode cX11_lose 11 = .ok (.aload_n 0, 1) := by decide +kernel
theorem dX11_lose_12 : decode cX11_lose 12 = .ok (.dup, 1) := by decide +kernel
theorem dX11_lose_13 : decode cX11_lose 13 = .ok (.getfield 105, 3) := by decide +kernel
theorem dX11_lose_16 : decode cX11_lose 16 = .ok (.iconst 1, 1) := by decide +kernel
theorem dX11_lose_17 : decode cX11_lose 17 = .ok (.iadd, 1) := by decide +kernel
theorem dX11_lose_18 : decode cX11_lose 18 = .ok (.putfield 105, 3) := by decide +kernel
theorem dX11_lose_21 : decode cX11_lose 21 = .ok (.aload_n 0, 1) := by decide +kernel
theorem dX11_lose_22 : decode cX11_lose 22 = .ok (.getfield 19, 3) := by decide +kernel
theorem dX11_lose_25 : decode cX11_lose 25 = .ok (.iload_n 1, 1) := by decide +kernel
theorem dX11_lose_26 : decode cX11_lose 26 = .ok (.iconst (-1), 1) := by decide +kernel
theorem dX11_lose_27 : decode cX11_lose 27 = .ok (.iastore, 1) := by decide +kernel
theorem dX11_lose_28 : decode cX11_lose 28 = .ok (.return_, 1) := by decide +kernel
theorem dX11_put_0 : decode cX11_put 0 = .ok (.aload_n 0, 1) := by decide +kernel
theorem dX11_put_1 : decode cX11_put 1 = .ok (.getfield 19, 3) := by decide +kernel
theorem dX11_put_4 : decode cX11_put 4 = .ok (.iload_n 1, 1) := by decide +kernel
theorem dX11_put_5 : decode cX11_put 5 = .ok (.iaload, 1) := by decide +kernel
theorem dX11_put_6 : decode cX11_put 6 = .ok (.iconst (-1), 1) := by decide +kernel
theorem dX11_put_7 : decode cX11_put 7 = .ok (.if_icmp .ne 4, 3) := by decide +kernel
theorem dX11_put_10 : decode cX11_put 10 = .ok (.return_, 1) := by decide +kernel
theorem dX11_put_11 : decode cX11_put 11 = .ok (.aload_n 0, 1) := by decide +kernel
theorem dX11_put_12 : decode cX11_put 12 = .ok (.getfield 19, 3) := by decide +kernel
theorem dX11_put_15 : decode cX11_put 15 = .ok (.iload_n 1, 1) := by decide +kernel
theorem dX11_put_16 : decode cX11_put 16 = .ok (.iaload, 1) := by decide +kernel
theorem dX11_put_17 : decode cX11_put 17 = .ok (.sipush 300, 3) := by decide +kernel
theorem dX11_put_20 : decode cX11_put 20 = .ok (.if_icmp .ne 9, 3) := by decide +kernel
theorem dX11_put_23 : decode cX11_put 23 = .ok (.aload_n 0, 1) := by decide +kernel
theorem dX11_put_24 : decode cX11_put 24 = .ok (.iload_n 1, 1) := by decide +kernel
theorem dX11_put_25 : decode cX11_put 25 = .ok (.invokevirtual 108, 3) := by decide +kernel
theorem dX11_put_28 : decode cX11_put 28 = .ok (.return_, 1) := by decide +kernel
theorem dX11_put_29 : decode cX11_put 29 = .ok (.aload_n 0, 1) := by decide +kernel
theorem dX11_put_30 : decode cX11_put 30 = .ok (.getfield 22, 3) := by decide +kernel
theorem dX11_put_33 : decode cX11_put 33 = .ok (.sipush 300, 3) := by decide +kernel
theorem dX11_put_36 : decode cX11_put 36 = .ok (.iload_n 1, 1) := by decide +kernel
theorem dX11_put_37 : decode cX11_put 37 = .ok (.imul, 1) := by decide +kernel
theorem dX11_put_38 : decode cX11_put 38 = .ok (.aload_n 0, 1) := by decide +kernel
theorem dX11_put_39 : decode cX11_put 39 = .ok (.getfield 19, 3) := by decide +kernel
theorem dX11_put_42 : decode cX11_put 42 = .ok (.iload_n 1, 1) := by decide +kernel
theorem dX11_put_43 : decode cX11_put 43 = .ok (.iaload, 1) := by decide +kernel
theorem dX11_put_44 : decode cX11_put 44 = .ok (.iadd, 1) := by decide +kernel
theorem dX11_put_45 : decode cX11_put 45 = .ok (.iload_n 2, 1) := by decide +kernel
theorem dX11_put_46 : decode cX11_put 46 = .ok (.iastore, 1) := by decide +kernel
theorem dX11_put_47 : decode cX11_put 47 = .ok (.aload_n 0, 1) := by decide +kernel
theorem dX11_put_48 : decode cX11_put 48 = .ok (.getfield 19, 3) := by decide +kernel
theorem dX11_put_51 : decode cX11_put 51 = .ok (.iload_n 1, 1) := by decide +kernel
theorem dX11_put_52 : decode cX11_put 52 = .ok (.dup2, 1) := by decide +kernel
theorem dX11_put_53 : decode cX11_put 53 = .ok (.iaload, 1) := by decide +kernel
theorem dX11_put_54 : decode cX11_put 54 = .ok (.iconst 1, 1) := by decide +kernel
theorem dX11_put_55 : decode cX11_put 55 = .ok (.iadd, 1) := by decide +kernel
theorem dX11_put_56 : decode cX11_put 56 = .ok (.iastore, 1) := by decide +kernel
theorem dX11_put_57 : decode cX11_put 57 = .ok (.return_, 1) := by decide +kernel
theorem dX11_hears_0 : decode cX11_hears 0 = .ok (.iload_n 2, 1) := by decide +kernel
theorem dX11_hears_1 : decode cX11_hears 1 = .ok (.iconst 1, 1) := by decide +kernel
theorem dX11_hears_2 : decode cX11_hears 2 = .ok (.if_icmp .ne 47, 3) := by decide +kernel
theorem dX11_hears_5 : decode cX11_hears 5 = .ok (.aload_n 0, 1) := by decide +kernel
theorem dX11_hears_6 : decode cX11_hears 6 = .ok (.getfield 16, 3) := by decide +kernel
theorem dX11_hears_9 : decode cX11_hears 9 = .ok (.iload_n 1, 1) := by decide +kernel
theorem dX11_hears_10 : decode cX11_hears 10 = .ok (.dup2, 1) := by decide +kernel
theorem dX11_hears_11 : decode cX11_hears 11 = .ok (.iaload, 1) := by decide +kernel
theorem dX11_hears_12 : decode cX11_hears 12 = .ok (.iconst 1, 1) := by decide +kernel
theorem dX11_hears_13 : decode cX11_hears 13 = .ok (.iadd, 1) := by decide +kernel
theorem dX11_hears_14 : decode cX11_hears 14 = .ok (.iastore, 1) := by decide +kernel
theorem dX11_hears_15 : decode cX11_hears 15 = .ok (.aload_n 0, 1) := by decide +kernel
theorem dX11_hears_16 : decode cX11_hears 16 = .ok (.getfield 16, 3) := by decide +kernel
theorem dX11_hears_19 : decode cX11_hears 19 = .ok (.iload_n 1, 1) := by decide +kernel
theorem dX11_hears_20 : decode cX11_hears 20 = .ok (.iaload, 1) := by decide +kernel
theorem dX11_hears_21 : decode cX11_hears 21 = .ok (.iconst 5, 1) := by decide +kernel
theorem dX11_hears_22 : decode cX11_hears 22 = .ok (.if_icmp .gt 9, 3) := by decide +kernel
theorem dX11_hears_25 : decode cX11_hears 25 = .ok (.aload_n 0, 1) := by decide +kernel
theorem dX11_hears_26 : decode cX11_hears 26 = .ok (.iload_n 1, 1) := by decide +kernel
theorem dX11_hears_27 : decode cX11_hears 27 = .ok (.iconst 1, 1) := by decide +kernel
theorem dX11_hears_28 : decode cX11_hears 28 = .ok (.invokevirtual 111, 3) := by decide +kernel
theorem dX11_hears_31 : decode cX11_hears 31 = .ok (.aload_n 0, 1) := by decide +kernel
theorem dX11_hears_32 : decode cX11_hears 32 = .ok (.getfield 16, 3) := by decide +kernel
theorem dX11_hears_35 : decode cX11_hears 35 = .ok (.iload_n 1, 1) := by decide +kernel
theorem dX11_hears_36 : decode cX11_hears 36 = .ok (.iaload, 1) := by decide +kernel
theorem dX11_hears_37 : decode cX11_hears 37 = .ok (.bipush 7, 2) := by decide +kernel
theorem dX11_hears_39 : decode cX11_hears 39 = .ok (.if_icmp .ne 8, 3) := by decide +kernel
theorem dX11_hears_42 : decode cX11_hears 42 = .ok (.aload_n 0, 1) := by decide +kernel
theorem dX11_hears_43 : decode cX11_hears 43 = .ok (.iload_n 1, 1) := by decide +kernel
theorem dX11_hears_44 : decode cX11_hears 44 = .ok (.invokevirtual 108, 3) := by decide +kernel
theorem dX11_hears_47 : decode cX11_hears 47 = .ok (.iconst 0, 1) := by decide +kernel
theorem dX11_hears_48 : decode cX11_hears 48 = .ok (.ireturn, 1) := by decide +kernel
theorem dX11_hears_49 : decode cX11_hears 49 = .ok (.aload_n 0, 1) := by decide +kernel
theorem dX11_hears_50 : decode cX11_hears 50 = .ok (.getfield 16, 3) := by decide +kernel
theorem dX11_hears_53 : decode cX11_hears 53 = .ok (.iload_n 1, 1) := by decide +kernel
theorem dX11_hears_54 : decode cX11_hears 54 = .ok (.iaload, 1) := by decide +kernel
theorem dX11_hears_55 : decode cX11_hears 55 = .ok (.istore_n 3, 1) := by decide +kernel
theorem dX11_hears_56 : decode cX11_hears 56 = .ok (.aload_n 0, 1) := by decide +kernel
theorem dX11_hears_57 : decode cX11_hears 57 = .ok (.getfield 16, 3) := by decide +kernel
theorem dX11_hears_60 : decode cX11_hears 60 = .ok (.iload_n 1, 1) := by decide +kernel
theorem dX11_hears_61 : decode cX11_hears 61 = .ok (.iconst 0, 1) := by decide +kernel
theorem dX11_hears_62 : decode cX11_hears 62 = .ok (.iastore, 1) := by decide +kernel
theorem dX11_hears_63 : decode cX11_hears 63 = .ok (.iload_n 3, 1) := by decide +kernel
theorem dX11_hears_64 : decode cX11_hears 64 = .ok (.iconst 5, 1) := by decide +kernel
theorem dX11_hears_65 : decode cX11_hears 65 = .ok (.if_icmp .ge 9, 3) := by decide +kernel
theorem dX11_hears_68 : decode cX11_hears 68 = .ok (.aload_n 0, 1) := by decide +kernel
theorem dX11_hears_69 : decode cX11_hears 69 = .ok (.iload_n 1, 1) := by decide +kernel
theorem dX11_hears_70 : decode cX11_hears 70 = .ok (.iconst 0, 1) := by decide +kernel
theorem dX11_hears_71 : decode cX11_hears 71 = .ok (.invokevirtual 111, 3) := by decide +kernel
theorem dX11_hears_74 : decode cX11_hears 74 = .ok (.iload_n 3, 1) := by decide +kernel
theorem dX11_hears_75 : decode cX11_hears 75 = .ok (.bipush 6, 2) := by decide +kernel
theorem dX11_hears_77 : decode cX11_hears 77 = .ok (.if_icmp .eq 5, 3) := by decide +kernel
theorem dX11_hears_80 : decode cX11_hears 80 = .ok (.iconst 0, 1) := by decide +kernel
theorem dX11_hears_81 : decode cX11_hears 81 = .ok (.ireturn, 1) := by decide +kernel
theorem dX11_hears_82 : decode cX11_hears 82 = .ok (.aload_n 0, 1) := by decide +kernel
theorem dX11_hears_83 : decode cX11_hears 83 = .ok (.iload_n 1, 1) := by decide +kernel
theorem dX11_hears_84 : decode cX11_hears 84 = .ok (.aload_n 0, 1) := by decide +kernel
theorem dX11_hears_85 : decode cX11_hears 85 = .ok (.getfield 19, 3) := by decide +kernel
theorem dX11_hears_88 : decode cX11_hears 88 = .ok (.iload_n 1, 1) := by decide +kernel
theorem dX11_hears_89 : decode cX11_hears 89 = .ok (.iaload, 1) := by decide +kernel
theorem dX11_hears_90 : decode cX11_hears 90 = .ok (.bipush 6, 2) := by decide +kernel
theorem dX11_hears_92 : decode cX11_hears 92 = .ok (.isub, 1) := by decide +kernel
theorem dX11_hears_93 : decode cX11_hears 93 = .ok (.invokevirtual 115, 3) := by decide +kernel
theorem dX11_hears_96 : decode cX11_hears 96 = .ok (.istore 4, 2) := by decide +kernel
theorem dX11_hears_98 : decode cX11_hears 98 = .ok (.aload_n 0, 1) := by decide +kernel
theorem dX11_hears_99 : decode cX11_hears 99 = .ok (.getfield 19, 3) := by decide +kernel
theorem dX11_hears_102 : decode cX11_hears 102 = .ok (.iload_n 1, 1) := by decide +kernel
theorem dX11_hears_103 : decode cX11_hears 103 = .ok (.iconst 0, 1) := by decide +kernel
theorem dX11_hears_104 : decode cX11_hears 104 = .ok (.iastore, 1) := by decide +kernel
theorem dX11_hears_105 : decode cX11_hears 105 = .ok (.iload 4, 2) := by decide +kernel
theorem dX11_hears_107 : decode cX11_hears 107 = .ok (.ireturn, 1) := by decide +kernel
theorem dX11_ends_0 : decode cX11_ends 0 = .ok (.iload_n 2, 1) := by decide +kernel
theorem dX11_ends_1 : decode cX11_ends 1 = .ok (.bipush 24, 2) := by decide +kernel
theorem dX11_ends_3 : decode cX11_ends 3 = .ok (.if_icmp .ge 5, 3) := by decide +kernel
theorem dX11_ends_6 : decode cX11_ends 6 = .ok (.iconst 0, 1) := by decide +kernel
theorem dX11_ends_7 : decode cX11_ends 7 = .ok (.ireturn, 1) := by decide +kernel
theorem dX11_ends_8 : decode cX11_ends 8 = .ok (.ldc 104, 2) := by decide +kernel
theorem dX11_ends_10 : decode cX11_ends 10 = .ok (.istore_n 3, 1) := by decide +kernel
theorem dX11_ends_11 : decode cX11_ends 11 = .ok (.iconst 0, 1) := by decide +kernel
theorem dX11_ends_12 : decode cX11_ends 12 = .ok (.istore 4, 2) := by decide +kernel
theorem dX11_ends_14 : decode cX11_ends 14 = .ok (.iload 4, 2) := by decide +kernel
theorem dX11_ends_16 : decode cX11_ends 16 = .ok (.iload_n 2, 1) := by decide +kernel
theorem dX11_ends_17 : decode cX11_ends 17 = .ok (.bipush 16, 2) := by decide +kernel
theorem dX11_ends_19 : decode cX11_ends 19 = .ok (.isub, 1) := by decide +kernel
theorem dX11_ends_20 : decode cX11_ends 20 = .ok (.if_icmp .ge 27, 3) := by decide +kernel
theorem dX11_ends_23 : decode cX11_ends 23 = .ok (.iload_n 3, 1) := by decide +kernel
theorem dX11_ends_24 : decode cX11_ends 24 = .ok (.aload_n 0, 1) := by decide +kernel
theorem dX11_ends_25 : decode cX11_ends 25 = .ok (.getfield 22, 3) := by decide +kernel
theorem dX11_ends_28 : decode cX11_ends 28 = .ok (.sipush 300, 3) := by decide +kernel
theorem dX11_ends_31 : decode cX11_ends 31 = .ok (.iload_n 1, 1) := by decide +kernel
theorem dX11_ends_32 : decode cX11_ends 32 = .ok (.imul, 1) := by decide +kernel
theorem dX11_ends_33 : decode cX11_ends 33 = .ok (.iload 4, 2) := by decide +kernel
theorem dX11_ends_35 : decode cX11_ends 35 = .ok (.iadd, 1) := by decide +kernel
theorem dX11_ends_36 : decode cX11_ends 36 = .ok (.iaload, 1) := by decide +kernel
theorem dX11_ends_37 : decode cX11_ends 37 = .ok (.invokestatic 119, 3) := by decide +kernel
theorem dX11_ends_40 : decode cX11_ends 40 = .ok (.istore_n 3, 1) := by decide +kernel
theorem dX11_ends_41 : decode cX11_ends 41 = .ok (.iinc 4 1, 3) := by decide +kernel
theorem dX11_ends_44 : decode cX11_ends 44 = .ok (.goto (-30), 3) := by decide +kernel
theorem dX11_ends_47 : decode cX11_ends 47 = .ok (.iload_n 3, 1) := by decide +kernel
theorem dX11_ends_48 : decode cX11_ends 48 = .ok (.ldc 104, 2) := by decide +kernel
theorem dX11_ends_50 : decode cX11_ends 50 = .ok (.ixor, 1) := by decide +kernel
theorem dX11_ends_51 : decode cX11_ends 51 = .ok (.aload_n 0, 1) := by decide +kernel
theorem dX11_ends_52 : decode cX11_ends 52 = .ok (.sipush 300, 3) := by decide +kernel
theorem dX11_ends_55 : decode cX11_ends 55 = .ok (.iload_n 1, 1) := by decide +kernel
theorem dX11_ends_56 : decode cX11_ends 56 = .ok (.imul, 1) := by decide +kernel
theorem dX11_ends_57 : decode cX11_ends 57 = .ok (.iload_n 2, 1) := by decide +kernel
theorem dX11_ends_58 : decode cX11_ends 58 = .ok (.iadd, 1) := by decide +kernel
theorem dX11_ends_59 : decode cX11_ends 59 = .ok (.bipush 16, 2) := by decide +kernel
theorem dX11_ends_61 : decode cX11_ends 61 = .ok (.isub, 1) := by decide +kernel
theorem dX11_ends_62 : decode cX11_ends 62 = .ok (.bipush 16, 2) := by decide +kernel
theorem dX11_ends_64 : decode cX11_ends 64 = .ok (.invokevirtual 123, 3) := by decide +kernel
theorem dX11_ends_67 : decode cX11_ends 67 = .ok (.if_icmp .eq 15, 3) := by decide +kernel
theorem dX11_ends_70 : decode cX11_ends 70 = .ok (.aload_n 0, 1) := by decide +kernel
theorem dX11_ends_71 : decode cX11_ends 71 = .ok (.dup, 1) := by decide +kernel
theorem dX11_ends_72 : decode cX11_ends 72 = .ok (.getfield 105, 3) := by decide +kernel
theorem dX11_ends_75 : decode cX11_ends 75 = .ok (.iconst 1, 1) := by decide +kernel
theorem dX11_ends_76 : decode cX11_ends 76 = .ok (.iadd, 1) := by decide +kernel
theorem dX11_ends_77 : decode cX11_ends 77 = .ok (.putfield 105, 3) := by decide +kernel
theorem dX11_ends_80 : decode cX11_ends 80 = .ok (.iconst 0, 1) := by decide +kernel
theorem dX11_ends_81 : decode cX11_ends 81 = .ok (.ireturn, 1) := by decide +kernel
theorem dX11_ends_82 : decode cX11_ends 82 = .ok (.aload_n 0, 1) := by decide +kernel
theorem dX11_ends_83 : decode cX11_ends 83 = .ok (.iload_n 1, 1) := by decide +kernel
theorem dX11_ends_84 : decode cX11_ends 84 = .ok (.iload_n 2, 1) := by decide +kernel
theorem dX11_ends_85 : decode cX11_ends 85 = .ok (.bipush 16, 2) := by decide +kernel
theorem dX11_ends_87 : decode cX11_ends 87 = .ok (.isub, 1) := by decide +kernel
theorem dX11_ends_88 : decode cX11_ends 88 = .ok (.invokevirtual 126, 3) := by decide +kernel
theorem dX11_ends_91 : decode cX11_ends 91 = .ok (.iconst 1, 1) := by decide +kernel
theorem dX11_ends_92 : decode cX11_ends 92 = .ok (.ireturn, 1) := by decide +kernel
theorem dX11_hear_0 : decode cX11_hear 0 = .ok (.aload_n 0, 1) := by decide +kernel
theorem dX11_hear_1 : decode cX11_hear 1 = .ok (.iconst 0, 1) := by decide +kernel
theorem dX11_hear_2 : decode cX11_hear 2 = .ok (.putfield 94, 3) := by decide +kernel
theorem dX11_hear_5 : decode cX11_hear 5 = .ok (.iload_n 1, 1) := by decide +kernel
theorem dX11_hear_6 : decode cX11_hear 6 = .ok (.ifCond .lt 8, 3) := by decide +kernel
theorem dX11_hear_9 : decode cX11_hear 9 = .ok (.iload_n 1, 1) := by decide +kernel
theorem dX11_hear_10 : decode cX11_hear 10 = .ok (.iconst 1, 1) := by decide +kernel
theorem dX11_hear_11 : decode cX11_hear 11 = .ok (.if_icmp .le 5, 3) := by decide +kernel
theorem dX11_hear_14 : decode cX11_hear 14 = .ok (.iconst (-1), 1) := by decide +kernel
theorem dX11_hear_15 : decode cX11_hear 15 = .ok (.ireturn, 1) := by decide +kernel
theorem dX11_hear_16 : decode cX11_hear 16 = .ok (.aload_n 0, 1) := by decide +kernel
theorem dX11_hear_17 : decode cX11_hear 17 = .ok (.getfield 97, 3) := by decide +kernel
theorem dX11_hear_20 : decode cX11_hear 20 = .ok (.istore_n 2, 1) := by decide +kernel
theorem dX11_hear_21 : decode cX11_hear 21 = .ok (.aload_n 0, 1) := by decide +kernel
theorem dX11_hear_22 : decode cX11_hear 22 = .ok (.iconst 0, 1) := by decide +kernel
theorem dX11_hear_23 : decode cX11_hear 23 = .ok (.putfield 97, 3) := by decide +kernel
theorem dX11_hear_26 : decode cX11_hear 26 = .ok (.iconst 0, 1) := by decide +kernel
theorem dX11_hear_27 : decode cX11_hear 27 = .ok (.istore_n 3, 1) := by decide +kernel
theorem dX11_hear_28 : decode cX11_hear 28 = .ok (.iconst 0, 1) := by decide +kernel
theorem dX11_hear_29 : decode cX11_hear 29 = .ok (.istore 4, 2) := by decide +kernel
theorem dX11_hear_31 : decode cX11_hear 31 = .ok (.iload 4, 2) := by decide +kernel
theorem dX11_hear_33 : decode cX11_hear 33 = .ok (.bipush 8, 2) := by decide +kernel
theorem dX11_hear_35 : decode cX11_hear 35 = .ok (.iload_n 2, 1) := by decide +kernel
theorem dX11_hear_36 : decode cX11_hear 36 = .ok (.imul, 1) := by decide +kernel
theorem dX11_hear_37 : decode cX11_hear 37 = .ok (.if_icmp .ge 71, 3) := by decide +kernel
theorem dX11_hear_40 : decode cX11_hear 40 = .ok (.aload_n 0, 1) := by decide +kernel
theorem dX11_hear_41 : decode cX11_hear 41 = .ok (.getfield 7, 3) := by decide +kernel
theorem dX11_hear_44 : decode cX11_hear 44 = .ok (.iload 4, 2) := by decide +kernel
theorem dX11_hear_46 : decode cX11_hear 46 = .ok (.bipush 8, 2) := by decide +kernel
theorem dX11_hear_48 : decode cX11_hear 48 = .ok (.idiv, 1) := by decide +kernel
theorem dX11_hear_49 : decode cX11_hear 49 = .ok (.iaload, 1) := by decide +kernel
theorem dX11_hear_50 : decode cX11_hear 50 = .ok (.bipush 7, 2) := by decide +kernel
theorem dX11_hear_52 : decode cX11_hear 52 = .ok (.iload 4, 2) := by decide +kernel
theorem dX11_hear_54 : decode cX11_hear 54 = .ok (.bipush 8, 2) := by decide +kernel
theorem dX11_hear_56 : decode cX11_hear 56 = .ok (.irem, 1) := by decide +kernel
theorem dX11_hear_57 : decode cX11_hear 57 = .ok (.isub, 1) := by decide +kernel
theorem dX11_hear_58 : decode cX11_hear 58 = .ok (.ishr, 1) := by decide +kernel
theorem dX11_hear_59 : decode cX11_hear 59 = .ok (.iconst 1, 1) := by decide +kernel
theorem dX11_hear_60 : decode cX11_hear 60 = .ok (.iand, 1) := by decide +kernel
theorem dX11_hear_61 : decode cX11_hear 61 = .ok (.istore 5, 2) := by decide +kernel
theorem dX11_hear_63 : decode cX11_hear 63 = .ok (.iload 5, 2) := by decide +kernel
theorem dX11_hear_65 : decode cX11_hear 65 = .ok (.aload_n 0, 1) := by decide +kernel
theorem dX11_hear_66 : decode cX11_hear 66 = .ok (.getfield 13, 3) := by decide +kernel
theorem dX11_hear_69 : decode cX11_hear 69 = .ok (.iload_n 1, 1) := by decide +kernel
theorem dX11_hear_70 : decode cX11_hear 70 = .ok (.iaload, 1) := by decide +kernel
theorem dX11_hear_71 : decode cX11_hear 71 = .ok (.if_icmp .ne 7, 3) := by decide +kernel
theorem dX11_hear_74 : decode cX11_hear 74 = .ok (.iconst 1, 1) := by decide +kernel
theorem dX11_hear_75 : decode cX11_hear 75 = .ok (.goto 4, 3) := by decide +kernel
theorem dX11_hear_78 : decode cX11_hear 78 = .ok (.iconst 0, 1) := by decide +kernel
theorem dX11_hear_79 : decode cX11_hear 79 = .ok (.istore 6, 2) := by decide +kernel
theorem dX11_hear_81 : decode cX11_hear 81 = .ok (.aload_n 0, 1) := by decide +kernel
theorem dX11_hear_82 : decode cX11_hear 82 = .ok (.getfield 13, 3) := by decide +kernel
theorem dX11_hear_85 : decode cX11_hear 85 = .ok (.iload_n 1, 1) := by decide +kernel
theorem dX11_hear_86 : decode cX11_hear 86 = .ok (.iload 5, 2) := by decide +kernel
theorem dX11_hear_88 : decode cX11_hear 88 = .ok (.iastore, 1) := by decide +kernel
theorem dX11_hear_89 : decode cX11_hear 89 = .ok (.aload_n 0, 1) := by decide +kernel
theorem dX11_hear_90 : decode cX11_hear 90 = .ok (.iload_n 1, 1) := by decide +kernel
theorem dX11_hear_91 : decode cX11_hear 91 = .ok (.iload 6, 2) := by decide +kernel
theorem dX11_hear_93 : decode cX11_hear 93 = .ok (.invokevirtual 129, 3) := by decide +kernel
theorem dX11_hear_96 : decode cX11_hear 96 = .ok (.ifCond .eq 6, 3) := by decide +kernel
theorem dX11_hear_99 : decode cX11_hear 99 = .ok (.iinc 3 1, 3) := by decide +kernel
theorem dX11_hear_102 : decode cX11_hear 102 = .ok (.iinc 4 1, 3) := by decide +kernel
theorem dX11_hear_105 : decode cX11_hear 105 = .ok (.goto (-74), 3) := by decide +kernel
theorem dX11_hear_108 : decode cX11_hear 108 = .ok (.iload_n 3, 1) := by decide +kernel
theorem dX11_hear_109 : decode cX11_hear 109 = .ok (.ireturn, 1) := by decide +kernel
theorem dX11_wait_0 : decode cX11_wait 0 = .ok (.aload_n 0, 1) := by decide +kernel
theorem dX11_wait_1 : decode cX11_wait 1 = .ok (.iconst 0, 1) := by decide +kernel
theorem dX11_wait_2 : decode cX11_wait 2 = .ok (.putfield 94, 3) := by decide +kernel
theorem dX11_wait_5 : decode cX11_wait 5 = .ok (.iload_n 1, 1) := by decide +kernel
theorem dX11_wait_6 : decode cX11_wait 6 = .ok (.ifCond .lt 20, 3) := by decide +kernel
theorem dX11_wait_9 : decode cX11_wait 9 = .ok (.iload_n 1, 1) := by decide +kernel
theorem dX11_wait_10 : decode cX11_wait 10 = .ok (.ldc 132, 2) := by decide +kernel
theorem dX11_wait_12 : decode cX11_wait 12 = .ok (.if_icmp .gt 14, 3) := by decide +kernel
theorem dX11_wait_15 : decode cX11_wait 15 = .ok (.aload_n 0, 1) := by decide +kernel
theorem dX11_wait_16 : decode cX11_wait 16 = .ok (.getfield 133, 3) := by decide +kernel
theorem dX11_wait_19 : decode cX11_wait 19 = .ok (.iload_n 1, 1) := by decide +kernel
theorem dX11_wait_20 : decode cX11_wait 20 = .ok (.iadd, 1) := by decide +kernel
theorem dX11_wait_21 : decode cX11_wait 21 = .ok (.ldc 136, 2) := by decide +kernel
theorem dX11_wait_23 : decode cX11_wait 23 = .ok (.if_icmp .le 5, 3) := by decide +kernel
theorem dX11_wait_26 : decode cX11_wait 26 = .ok (.iconst 0, 1) := by decide +kernel
theorem dX11_wait_27 : decode cX11_wait 27 = .ok (.ireturn, 1) := by decide +kernel
theorem dX11_wait_28 : decode cX11_wait 28 = .ok (.aload_n 0, 1) := by decide +kernel
theorem dX11_wait_29 : decode cX11_wait 29 = .ok (.dup, 1) := by decide +kernel
theorem dX11_wait_30 : decode cX11_wait 30 = .ok (.getfield 133, 3) := by decide +kernel
theorem dX11_wait_33 : decode cX11_wait 33 = .ok (.iload_n 1, 1) := by decide +kernel
theorem dX11_wait_34 : decode cX11_wait 34 = .ok (.iadd, 1) := by decide +kernel
theorem dX11_wait_35 : decode cX11_wait 35 = .ok (.putfield 133, 3) := by decide +kernel
theorem dX11_wait_38 : decode cX11_wait 38 = .ok (.iconst 1, 1) := by decide +kernel
theorem dX11_wait_39 : decode cX11_wait 39 = .ok (.ireturn, 1) := by decide +kernel
theorem dX11_signed_0 : decode cX11_signed 0 = .ok (.iload_n 0, 1) := by decide +kernel
theorem dX11_signed_1 : decode cX11_signed 1 = .ok (.iload_n 1, 1) := by decide +kernel
theorem dX11_signed_2 : decode cX11_signed 2 = .ok (.iconst 1, 1) := by decide +kernel
theorem dX11_signed_3 : decode cX11_signed 3 = .ok (.isub, 1) := by decide +kernel
theorem dX11_signed_4 : decode cX11_signed 4 = .ok (.ishr, 1) := by decide +kernel
theorem dX11_signed_5 : decode cX11_signed 5 = .ok (.iconst 1, 1) := by decide +kernel
theorem dX11_signed_6 : decode cX11_signed 6 = .ok (.if_icmp .ne 11, 3) := by decide +kernel
theorem dX11_signed_9 : decode cX11_signed 9 = .ok (.iload_n 0, 1) := by decide +kernel
theorem dX11_signed_10 : decode cX11_signed 10 = .ok (.iconst 1, 1) := by decide +kernel
theorem dX11_signed_11 : decode cX11_signed 11 = .ok (.iload_n 1, 1) := by decide +kernel
theorem dX11_signed_12 : decode cX11_signed 12 = .ok (.ishl, 1) := by decide +kernel
theorem dX11_signed_13 : decode cX11_signed 13 = .ok (.isub, 1) := by decide +kernel
theorem dX11_signed_14 : decode cX11_signed 14 = .ok (.goto 4, 3) := by decide +kernel
theorem dX11_signed_17 : decode cX11_signed 17 = .ok (.iload_n 0, 1) := by decide +kernel
theorem dX11_signed_18 : decode cX11_signed 18 = .ok (.ireturn, 1) := by decide +kernel
theorem dX11_areLetters_0 : decode cX11_areLetters 0 = .ok (.iconst 0, 1) := by decide +kernel
theorem dX11_areLetters_1 : decode cX11_areLetters 1 = .ok (.istore_n 2, 1) := by decide +kernel
theorem dX11_areLetters_2 : decode cX11_areLetters 2 = .ok (.iload_n 2, 1) := by decide +kernel
theorem dX11_areLetters_3 : decode cX11_areLetters 3 = .ok (.iload_n 1, 1) := by decide +kernel
theorem dX11_areLetters_4 : decode cX11_areLetters 4 = .ok (.if_icmp .ge 24, 3) := by decide +kernel
theorem dX11_areLetters_7 : decode cX11_areLetters 7 = .ok (.iload_n 0, 1) := by decide +kernel
theorem dX11_areLetters_8 : decode cX11_areLetters 8 = .ok (.iconst 5, 1) := by decide +kernel
theorem dX11_areLetters_9 : decode cX11_areLetters 9 = .ok (.iload_n 2, 1) := by decide +kernel
theorem dX11_areLetters_10 : decode cX11_areLetters 10 = .ok (.imul, 1) := by decide +kernel
theorem dX11_areLetters_11 : decode cX11_areLetters 11 = .ok (.ishr, 1) := by decide +kernel
theorem dX11_areLetters_12 : decode cX11_areLetters 12 = .ok (.bipush 31, 2) := by decide +kernel
theorem dX11_areLetters_14 : decode cX11_areLetters 14 = .ok (.iand, 1) := by decide +kernel
theorem dX11_areLetters_15 : decode cX11_areLetters 15 = .ok (.bipush 26, 2) := by decide +kernel
theorem dX11_areLetters_17 : decode cX11_areLetters 17 = .ok (.if_icmp .le 5, 3) := by decide +kernel
theorem dX11_areLetters_20 : decode cX11_areLetters 20 = .ok (.iconst 0, 1) := by decide +kernel
theorem dX11_areLetters_21 : decode cX11_areLetters 21 = .ok (.ireturn, 1) := by decide +kernel
theorem dX11_areLetters_22 : decode cX11_areLetters 22 = .ok (.iinc 2 1, 3) := by decide +kernel
theorem dX11_areLetters_25 : decode cX11_areLetters 25 = .ok (.goto (-23), 3) := by decide +kernel
theorem dX11_areLetters_28 : decode cX11_areLetters 28 = .ok (.iconst 1, 1) := by decide +kernel
theorem dX11_areLetters_29 : decode cX11_areLetters 29 = .ok (.ireturn, 1) := by decide +kernel
theorem dX11_fields_0 : decode cX11_fields 0 = .ok (.iconst 0, 1) := by decide +kernel
theorem dX11_fields_1 : decode cX11_fields 1 = .ok (.istore 4, 2) := by decide +kernel
theorem dX11_fields_3 : decode cX11_fields 3 = .ok (.iload 4, 2) := by decide +kernel
theorem dX11_fields_5 : decode cX11_fields 5 = .ok (.iconst 4, 1) := by decide +kernel
theorem dX11_fields_6 : decode cX11_fields 6 = .ok (.if_icmp .ge 17, 3) := by decide +kernel
theorem dX11_fields_9 : decode cX11_fields 9 = .ok (.aload_n 0, 1) := by decide +kernel
theorem dX11_fields_10 : decode cX11_fields 10 = .ok (.getfield 32, 3) := by decide +kernel
theorem dX11_fields_13 : decode cX11_fields 13 = .ok (.iload 4, 2) := by decide +kernel
theorem dX11_fields_15 : decode cX11_fields 15 = .ok (.iconst (-1), 1) := by decide +kernel
theorem dX11_fields_16 : decode cX11_fields 16 = .ok (.iastore, 1) := by decide +kernel
theorem dX11_fields_17 : decode cX11_fields 17 = .ok (.iinc 4 1, 3) := by decide +kernel
theorem dX11_fields_20 : decode cX11_fields 20 = .ok (.goto (-17), 3) := by decide +kernel
theorem dX11_fields_23 : decode cX11_fields 23 = .ok (.iload_n 1, 1) := by decide +kernel
theorem dX11_fields_24 : decode cX11_fields 24 = .ok (.tableswitch 418 1 5 #[36, 127, 212, 235, 355], 36) := by decide +kernel
theorem dX11_fields_60 : decode cX11_fields 60 = .ok (.iload_n 3, 1) := by decide +kernel
theorem dX11_fields_61 : decode cX11_fields 61 = .ok (.bipush 48, 2) := by decide +kernel
theorem dX11_fields_63 : decode cX11_fields 63 = .ok (.if_icmp .eq 5, 3) := by decide +kernel
theorem dX11_fields_66 : decode cX11_fields 66 = .ok (.iconst 0, 1) := by decide +kernel
theorem dX11_fields_67 : decode cX11_fields 67 = .ok (.ireturn, 1) := by decide +kernel
theorem dX11_fields_68 : decode cX11_fields 68 = .ok (.aload_n 0, 1) := by decide +kernel
theorem dX11_fields_69 : decode cX11_fields 69 = .ok (.getfield 32, 3) := by decide +kernel
theorem dX11_fields_72 : decode cX11_fields 72 = .ok (.iconst 0, 1) := by decide +kernel
theorem dX11_fields_73 : decode cX11_fields 73 = .ok (.aload_n 0, 1) := by decide +kernel
theorem dX11_fields_74 : decode cX11_fields 74 = .ok (.iload_n 2, 1) := by decide +kernel
theorem dX11_fields_75 : decode cX11_fields 75 = .ok (.bipush 16, 2) := by decide +kernel
theorem dX11_fields_77 : decode cX11_fields 77 = .ok (.invokevirtual 123, 3) := by decide +kernel
theorem dX11_fields_80 : decode cX11_fields 80 = .ok (.bipush 16, 2) := by decide +kernel
theorem dX11_fields_82 : decode cX11_fields 82 = .ok (.invokestatic 137, 3) := by decide +kernel
theorem dX11_fields_85 : decode cX11_fields 85 = .ok (.iastore, 1) := by decide +kernel
theorem dX11_fields_86 : decode cX11_fields 86 = .ok (.aload_n 0, 1) := by decide +kernel
theorem dX11_fields_87 : decode cX11_fields 87 = .ok (.getfield 32, 3) := by decide +kernel
theorem dX11_fields_90 : decode cX11_fields 90 = .ok (.iconst 1, 1) := by decide +kernel
theorem dX11_fields_91 : decode cX11_fields 91 = .ok (.aload_n 0, 1) := by decide +kernel
theorem dX11_fields_92 : decode cX11_fields 92 = .ok (.iload_n 2, 1) := by decide +kernel
theorem dX11_fields_93 : decode cX11_fields 93 = .ok (.bipush 16, 2) := by decide +kernel
theorem dX11_fields_95 : decode cX11_fields 95 = .ok (.iadd, 1) := by decide +kernel
theorem dX11_fields_96 : decode cX11_fields 96 = .ok (.bipush 16, 2) := by decide +kernel
theorem dX11_fields_98 : decode cX11_fields 98 = .ok (.invokevirtual 123, 3) := by decide +kernel
theorem dX11_fields_101 : decode cX11_fields 101 = .ok (.bipush 16, 2) := by decide +kernel
theorem dX11_fields_103 : decode cX11_fields 103 = .ok (.invokestatic 137, 3) := by decide +kernel
theorem dX11_fields_106 : decode cX11_fields 106 = .ok (.iastore, 1) := by decide +kernel
theorem dX11_fields_107 : decode cX11_fields 107 = .ok (.aload_n 0, 1) := by decide +kernel
theorem dX11_fields_108 : decode cX11_fields 108 = .ok (.getfield 32, 3) := by decide +kernel
theorem dX11_fields_111 : decode cX11_fields 111 = .ok (.iconst 2, 1) := by decide +kernel
theorem dX11_fields_112 : decode cX11_fields 112 = .ok (.aload_n 0, 1) := by decide +kernel
theorem dX11_fields_113 : decode cX11_fields 113 = .ok (.iload_n 2, 1) := by decide +kernel
theorem dX11_fields_114 : decode cX11_fields 114 = .ok (.bipush 32, 2) := by decide +kernel
theorem dX11_fields_116 : decode cX11_fields 116 = .ok (.iadd, 1) := by decide +kernel
theorem dX11_fields_117 : decode cX11_fields 117 = .ok (.bipush 8, 2) := by decide +kernel
theorem dX11_fields_119 : decode cX11_fields 119 = .ok (.invokevirtual 123, 3) := by decide +kernel
theorem dX11_fields_122 : decode cX11_fields 122 = .ok (.bipush 8, 2) := by decide +kernel
theorem dX11_fields_124 : decode cX11_fields 124 = .ok (.invokestatic 137, 3) := by decide +kernel
theorem dX11_fields_127 : decode cX11_fields 127 = .ok (.iastore, 1) := by decide +kernel
theorem dX11_fields_128 : decode cX11_fields 128 = .ok (.aload_n 0, 1) := by decide +kernel
theorem dX11_fields_129 : decode cX11_fields 129 = .ok (.getfield 32, 3) := by decide +kernel
theorem dX11_fields_132 : decode cX11_fields 132 = .ok (.iconst 3, 1) := by decide +kernel
theorem dX11_fields_133 : decode cX11_fields 133 = .ok (.aload_n 0, 1) := by decide +kernel
theorem dX11_fields_134 : decode cX11_fields 134 = .ok (.iload_n 2, 1) := by decide +kernel
theorem dX11_fields_135 : decode cX11_fields 135 = .ok (.bipush 40, 2) := by decide +kernel
theorem dX11_fields_137 : decode cX11_fields 137 = .ok (.iadd, 1) := by decide +kernel
theorem dX11_fields_138 : decode cX11_fields 138 = .ok (.bipush 8, 2) := by decide +kernel
theorem dX11_fields_140 : decode cX11_fields 140 = .ok (.invokevirtual 123, 3) := by decide +kernel
theorem dX11_fields_143 : decode cX11_fields 143 = .ok (.bipush 8, 2) := by decide +kernel
theorem dX11_fields_145 : decode cX11_fields 145 = .ok (.invokestatic 137, 3) := by decide +kernel
theorem dX11_fields_148 : decode cX11_fields 148 = .ok (.iastore, 1) := by decide +kernel
theorem dX11_fields_149 : decode cX11_fields 149 = .ok (.iconst 1, 1) := by decide +kernel
theorem dX11_fields_150 : decode cX11_fields 150 = .ok (.ireturn, 1) := by decide +kernel
theorem dX11_fields_151 : decode cX11_fields 151 = .ok (.iload_n 3, 1) := by decide +kernel
theorem dX11_fields_152 : decode cX11_fields 152 = .ok (.bipush 38, 2) := by decide +kernel
theorem dX11_fields_154 : decode cX11_fields 154 = .ok (.if_icmp .eq 5, 3) := by decide +kernel
theorem dX11_fields_157 : decode cX11_fields 157 = .ok (.iconst 0, 1) := by decide +kernel
theorem dX11_fields_158 : decode cX11_fields 158 = .ok (.ireturn, 1) := by decide +kernel
theorem dX11_fields_159 : decode cX11_fields 159 = .ok (.aload_n 0, 1) := by decide +kernel
theorem dX11_fields_160 : decode cX11_fields 160 = .ok (.getfield 32, 3) := by decide +kernel
theorem dX11_fields_163 : decode cX11_fields 163 = .ok (.iconst 0, 1) := by decide +kernel
theorem dX11_fields_164 : decode cX11_fields 164 = .ok (.aload_n 0, 1) := by decide +kernel
theorem dX11_fields_165 : decode cX11_fields 165 = .ok (.iload_n 2, 1) := by decide +kernel
theorem dX11_fields_166 : decode cX11_fields 166 = .ok (.bipush 15, 2) := by decide +kernel
theorem dX11_fields_168 : decode cX11_fields 168 = .ok (.invokevirtual 123, 3) := by decide +kernel
theorem dX11_fields_171 : decode cX11_fields 171 = .ok (.iastore, 1) := by decide +kernel
theorem dX11_fields_172 : decode cX11_fields 172 = .ok (.aload_n 0, 1) := by decide +kernel
theorem dX11_fields_173 : decode cX11_fields 173 = .ok (.getfield 32, 3) := by decide +kernel
theorem dX11_fields_176 : decode cX11_fields 176 = .ok (.iconst 1, 1) := by decide +kernel
theorem dX11_fields_177 : decode cX11_fields 177 = .ok (.aload_n 0, 1) := by decide +kernel
theorem dX11_fields_178 : decode cX11_fields 178 = .ok (.iload_n 2, 1) := by decide +kernel
theorem dX11_fields_179 : decode cX11_fields 179 = .ok (.bipush 15, 2) := by decide +kernel
theorem dX11_fields_181 : decode cX11_fields 181 = .ok (.iadd, 1) := by decide +kernel
theorem dX11_fields_182 : decode cX11_fields 182 = .ok (.bipush 15, 2) := by decide +kernel
theorem dX11_fields_184 : decode cX11_fields 184 = .ok (.invokevirtual 123, 3) := by decide +kernel
theorem dX11_fields_187 : decode cX11_fields 187 = .ok (.iastore, 1) := by decide +kernel
theorem dX11_fields_188 : decode cX11_fields 188 = .ok (.aload_n 0, 1) := by decide +kernel
theorem dX11_fields_189 : decode cX11_fields 189 = .ok (.getfield 32, 3) := by decide +kernel
theorem dX11_fields_192 : decode cX11_fields 192 = .ok (.iconst 2, 1) := by decide +kernel
theorem dX11_fields_193 : decode cX11_fields 193 = .ok (.aload_n 0, 1) := by decide +kernel
theorem dX11_fields_194 : decode cX11_fields 194 = .ok (.iload_n 2, 1) := by decide +kernel
theorem dX11_fields_195 : decode cX11_fields 195 = .ok (.bipush 30, 2) := by decide +kernel
theorem dX11_fields_197 : decode cX11_fields 197 = .ok (.iadd, 1) := by decide +kernel
theorem dX11_fields_198 : decode cX11_fields 198 = .ok (.bipush 8, 2) := by decide +kernel
theorem dX11_fields_200 : decode cX11_fields 200 = .ok (.invokevirtual 123, 3) := by decide +kernel
theorem dX11_fields_203 : decode cX11_fields 203 = .ok (.iastore, 1) := by decide +kernel
theorem dX11_fields_204 : decode cX11_fields 204 = .ok (.aload_n 0, 1) := by decide +kernel
theorem dX11_fields_205 : decode cX11_fields 205 = .ok (.getfield 32, 3) := by decide +kernel
theorem dX11_fields_208 : decode cX11_fields 208 = .ok (.iconst 0, 1) := by decide +kernel
theorem dX11_fields_209 : decode cX11_fields 209 = .ok (.iaload, 1) := by decide +kernel
theorem dX11_fields_210 : decode cX11_fields 210 = .ok (.iconst 3, 1) := by decide +kernel
theorem dX11_fields_211 : decode cX11_fields 211 = .ok (.invokestatic 140, 3) := by decide +kernel
theorem dX11_fields_214 : decode cX11_fields 214 = .ok (.ifCond .eq 20, 3) := by decide +kernel
theorem dX11_fields_217 : decode cX11_fields 217 = .ok (.aload_n 0, 1) := by decide +kernel
theorem dX11_fields_218 : decode cX11_fields 218 = .ok (.getfield 32, 3) := by decide +kernel
theorem dX11_fields_221 : decode cX11_fields 221 = .ok (.iconst 1, 1) := by decide +kernel
theorem dX11_fields_222 : decode cX11_fields 222 = .ok (.iaload, 1) := by decide +kernel
theorem dX11_fields_223 : decode cX11_fields 223 = .ok (.iconst 3, 1) := by decide +kernel
theorem dX11_fields_224 : decode cX11_fields 224 = .ok (.invokestatic 140, 3) := by decide +kernel
theorem dX11_fields_227 : decode cX11_fields 227 = .ok (.ifCond .eq 7, 3) := by decide +kernel
theorem dX11_fields_230 : decode cX11_fields 230 = .ok (.iconst 1, 1) := by decide +kernel
theorem dX11_fields_231 : decode cX11_fields 231 = .ok (.goto 4, 3) := by decide +kernel
theorem dX11_fields_234 : decode cX11_fields 234 = .ok (.iconst 0, 1) := by decide +kernel
theorem dX11_fields_235 : decode cX11_fields 235 = .ok (.ireturn, 1) := by decide +kernel
theorem dX11_fields_236 : decode cX11_fields 236 = .ok (.iload_n 3, 1) := by decide +kernel
theorem dX11_fields_237 : decode cX11_fields 237 = .ok (.bipush 31, 2) := by decide +kernel
theorem dX11_fields_239 : decode cX11_fields 239 = .ok (.if_icmp .eq 5, 3) := by decide +kernel
theorem dX11_fields_242 : decode cX11_fields 242 = .ok (.iconst 0, 1) := by decide +kernel
theorem dX11_fields_243 : decode cX11_fields 243 = .ok (.ireturn, 1) := by decide +kernel
theorem dX11_fields_244 : decode cX11_fields 244 = .ok (.aload_n 0, 1) := by decide +kernel
theorem dX11_fields_245 : decode cX11_fields 245 = .ok (.getfield 32, 3) := by decide +kernel
theorem dX11_fields_248 : decode cX11_fields 248 = .ok (.iconst 0, 1) := by decide +kernel
theorem dX11_fields_249 : decode cX11_fields 249 = .ok (.aload_n 0, 1) := by decide +kernel
theorem dX11_fields_250 : decode cX11_fields 250 = .ok (.iload_n 2, 1) := by decide +kernel
theorem dX11_fields_251 : decode cX11_fields 251 = .ok (.bipush 31, 2) := by decide +kernel
theorem dX11_fields_253 : decode cX11_fields 253 = .ok (.invokevirtual 123, 3) := by decide +kernel
theorem dX11_fields_256 : decode cX11_fields 256 = .ok (.iastore, 1) := by decide +kernel
theorem dX11_fields_257 : decode cX11_fields 257 = .ok (.iconst 1, 1) := by decide +kernel
theorem dX11_fields_258 : decode cX11_fields 258 = .ok (.ireturn, 1) := by decide +kernel
theorem dX11_fields_259 : decode cX11_fields 259 = .ok (.iload_n 3, 1) := by decide +kernel
theorem dX11_fields_260 : decode cX11_fields 260 = .ok (.bipush 29, 2) := by decide +kernel
theorem dX11_fields_262 : decode cX11_fields 262 = .ok (.if_icmp .eq 5, 3) := by decide +kernel
theorem dX11_fields_265 : decode cX11_fields 265 = .ok (.iconst 0, 1) := by decide +kernel
theorem dX11_fields_266 : decode cX11_fields 266 = .ok (.ireturn, 1) := by decide +kernel
theorem dX11_fields_267 : decode cX11_fields 267 = .ok (.aload_n 0, 1) := by decide +kernel
theorem dX11_fields_268 : decode cX11_fields 268 = .ok (.getfield 32, 3) := by decide +kernel
theorem dX11_fields_271 : decode cX11_fields 271 = .ok (.iconst 0, 1) := by decide +kernel
theorem dX11_fields_272 : decode cX11_fields 272 = .ok (.aload_n 0, 1) := by decide +kernel
theorem dX11_fields_273 : decode cX11_fields 273 = .ok (.iload_n 2, 1) := by decide +kernel
theorem dX11_fields_274 : decode cX11_fields 274 = .ok (.iconst 3, 1) := by decide +kernel
theorem dX11_fields_275 : decode cX11_fields 275 = .ok (.invokevirtual 123, 3) := by decide +kernel
theorem dX11_fields_278 : decode cX11_fields 278 = .ok (.iastore, 1) := by decide +kernel
theorem dX11_fields_279 : decode cX11_fields 279 = .ok (.aload_n 0, 1) := by decide +kernel
theorem dX11_fields_280 : decode cX11_fields 280 = .ok (.getfield 32, 3) := by decide +kernel
theorem dX11_fields_283 : decode cX11_fields 283 = .ok (.iconst 1, 1) := by decide +kernel
theorem dX11_fields_284 : decode cX11_fields 284 = .ok (.aload_n 0, 1) := by decide +kernel
theorem dX11_fields_285 : decode cX11_fields 285 = .ok (.iload_n 2, 1) := by decide +kernel
theorem dX11_fields_286 : decode cX11_fields 286 = .ok (.iconst 3, 1) := by decide +kernel
theorem dX11_fields_287 : decode cX11_fields 287 = .ok (.iadd, 1) := by decide +kernel
theorem dX11_fields_288 : decode cX11_fields 288 = .ok (.iconst 3, 1) := by decide +kernel
theorem dX11_fields_289 : decode cX11_fields 289 = .ok (.invokevirtual 123, 3) := by decide +kernel
theorem dX11_fields_292 : decode cX11_fields 292 = .ok (.iastore, 1) := by decide +kernel
theorem dX11_fields_293 : decode cX11_fields 293 = .ok (.aload_n 0, 1) := by decide +kernel
theorem dX11_fields_294 : decode cX11_fields 294 = .ok (.getfield 32, 3) := by decide +kernel
theorem dX11_fields_297 : decode cX11_fields 297 = .ok (.iconst 2, 1) := by decide +kernel
theorem dX11_fields_298 : decode cX11_fields 298 = .ok (.aload_n 0, 1) := by decide +kernel
theorem dX11_fields_299 : decode cX11_fields 299 = .ok (.iload_n 2, 1) := by decide +kernel
theorem dX11_fields_300 : decode cX11_fields 300 = .ok (.bipush 6, 2) := by decide +kernel
theorem dX11_fields_302 : decode cX11_fields 302 = .ok (.iadd, 1) := by decide +kernel
theorem dX11_fields_303 : decode cX11_fields 303 = .ok (.iconst 3, 1) := by decide +kernel
theorem dX11_fields_304 : decode cX11_fields 304 = .ok (.invokevirtual 123, 3) := by decide +kernel
theorem dX11_fields_307 : decode cX11_fields 307 = .ok (.iastore, 1) := by decide +kernel
theorem dX11_fields_308 : decode cX11_fields 308 = .ok (.aload_n 0, 1) := by decide +kernel
theorem dX11_fields_309 : decode cX11_fields 309 = .ok (.getfield 32, 3) := by decide +kernel
theorem dX11_fields_312 : decode cX11_fields 312 = .ok (.iconst 3, 1) := by decide +kernel
theorem dX11_fields_313 : decode cX11_fields 313 = .ok (.aload_n 0, 1) := by decide +kernel
theorem dX11_fields_314 : decode cX11_fields 314 = .ok (.iload_n 2, 1) := by decide +kernel
theorem dX11_fields_315 : decode cX11_fields 315 = .ok (.bipush 9, 2) := by decide +kernel
theorem dX11_fields_317 : decode cX11_fields 317 = .ok (.iadd, 1) := by decide +kernel
theorem dX11_fields_318 : decode cX11_fields 318 = .ok (.bipush 20, 2) := by decide +kernel
theorem dX11_fields_320 : decode cX11_fields 320 = .ok (.invokevirtual 123, 3) := by decide +kernel
theorem dX11_fields_323 : decode cX11_fields 323 = .ok (.iastore, 1) := by decide +kernel
theorem dX11_fields_324 : decode cX11_fields 324 = .ok (.aload_n 0, 1) := by decide +kernel
theorem dX11_fields_325 : decode cX11_fields 325 = .ok (.getfield 32, 3) := by decide +kernel
theorem dX11_fields_328 : decode cX11_fields 328 = .ok (.iconst 2, 1) := by decide +kernel
theorem dX11_fields_329 : decode cX11_fields 329 = .ok (.iaload, 1) := by decide +kernel
theorem dX11_fields_330 : decode cX11_fields 330 = .ok (.iconst 1, 1) := by decide +kernel
theorem dX11_fields_331 : decode cX11_fields 331 = .ok (.if_icmp .le 46, 3) := by decide +kernel
theorem dX11_fields_334 : decode cX11_fields 334 = .ok (.aload_n 0, 1) := by decide +kernel
theorem dX11_fields_335 : decode cX11_fields 335 = .ok (.getfield 32, 3) := by decide +kernel
theorem dX11_fields_338 : decode cX11_fields 338 = .ok (.iconst 2, 1) := by decide +kernel
theorem dX11_fields_339 : decode cX11_fields 339 = .ok (.iaload, 1) := by decide +kernel
theorem dX11_fields_340 : decode cX11_fields 340 = .ok (.bipush 6, 2) := by decide +kernel
theorem dX11_fields_342 : decode cX11_fields 342 = .ok (.if_icmp .ge 35, 3) := by decide +kernel
theorem dX11_fields_345 : decode cX11_fields 345 = .ok (.aload_n 0, 1) := by decide +kernel
theorem dX11_fields_346 : decode cX11_fields 346 = .ok (.getfield 32, 3) := by decide +kernel
theorem dX11_fields_349 : decode cX11_fields 349 = .ok (.iconst 1, 1) := by decide +kernel
theorem dX11_fields_350 : decode cX11_fields 350 = .ok (.iaload, 1) := by decide +kernel
theorem dX11_fields_351 : decode cX11_fields 351 = .ok (.aload_n 0, 1) := by decide +kernel
theorem dX11_fields_352 : decode cX11_fields 352 = .ok (.getfield 32, 3) := by decide +kernel
theorem dX11_fields_355 : decode cX11_fields 355 = .ok (.iconst 2, 1) := by decide +kernel
theorem dX11_fields_356 : decode cX11_fields 356 = .ok (.iaload, 1) := by decide +kernel
theorem dX11_fields_357 : decode cX11_fields 357 = .ok (.if_icmp .ge 20, 3) := by decide +kernel
theorem dX11_fields_360 : decode cX11_fields 360 = .ok (.aload_n 0, 1) := by decide +kernel
theorem dX11_fields_361 : decode cX11_fields 361 = .ok (.getfield 32, 3) := by decide +kernel
theorem dX11_fields_364 : decode cX11_fields 364 = .ok (.iconst 3, 1) := by decide +kernel
theorem dX11_fields_365 : decode cX11_fields 365 = .ok (.iaload, 1) := by decide +kernel
theorem dX11_fields_366 : decode cX11_fields 366 = .ok (.iconst 4, 1) := by decide +kernel
theorem dX11_fields_367 : decode cX11_fields 367 = .ok (.invokestatic 140, 3) := by decide +kernel
theorem dX11_fields_370 : decode cX11_fields 370 = .ok (.ifCond .eq 7, 3) := by decide +kernel
theorem dX11_fields_373 : decode cX11_fields 373 = .ok (.iconst 1, 1) := by decide +kernel
theorem dX11_fields_374 : decode cX11_fields 374 = .ok (.goto 4, 3) := by decide +kernel
theorem dX11_fields_377 : decode cX11_fields 377 = .ok (.iconst 0, 1) := by decide +kernel
theorem dX11_fields_378 : decode cX11_fields 378 = .ok (.ireturn, 1) := by decide +kernel
theorem dX11_fields_379 : decode cX11_fields 379 = .ok (.iload_n 3, 1) := by decide +kernel
theorem dX11_fields_380 : decode cX11_fields 380 = .ok (.bipush 15, 2) := by decide +kernel
theorem dX11_fields_382 : decode cX11_fields 382 = .ok (.if_icmp .eq 5, 3) := by decide +kernel
theorem dX11_fields_385 : decode cX11_fields 385 = .ok (.iconst 0, 1) := by decide +kernel
theorem dX11_fields_386 : decode cX11_fields 386 = .ok (.ireturn, 1) := by decide +kernel
theorem dX11_fields_387 : decode cX11_fields 387 = .ok (.aload_n 0, 1) := by decide +kernel
theorem dX11_fields_388 : decode cX11_fields 388 = .ok (.getfield 32, 3) := by decide +kernel
theorem dX11_fields_391 : decode cX11_fields 391 = .ok (.iconst 0, 1) := by decide +kernel
theorem dX11_fields_392 : decode cX11_fields 392 = .ok (.aload_n 0, 1) := by decide +kernel
theorem dX11_fields_393 : decode cX11_fields 393 = .ok (.iload_n 2, 1) := by decide +kernel
theorem dX11_fields_394 : decode cX11_fields 394 = .ok (.bipush 12, 2) := by decide +kernel
theorem dX11_fields_396 : decode cX11_fields 396 = .ok (.invokevirtual 123, 3) := by decide +kernel
theorem dX11_fields_399 : decode cX11_fields 399 = .ok (.iastore, 1) := by decide +kernel
theorem dX11_fields_400 : decode cX11_fields 400 = .ok (.aload_n 0, 1) := by decide +kernel
theorem dX11_fields_401 : decode cX11_fields 401 = .ok (.getfield 32, 3) := by decide +kernel
theorem dX11_fields_404 : decode cX11_fields 404 = .ok (.iconst 1, 1) := by decide +kernel
theorem dX11_fields_405 : decode cX11_fields 405 = .ok (.aload_n 0, 1) := by decide +kernel
theorem dX11_fields_406 : decode cX11_fields 406 = .ok (.iload_n 2, 1) := by decide +kernel
theorem dX11_fields_407 : decode cX11_fields 407 = .ok (.bipush 12, 2) := by decide +kernel
theorem dX11_fields_409 : decode cX11_fields 409 = .ok (.iadd, 1) := by decide +kernel
theorem dX11_fields_410 : decode cX11_fields 410 = .ok (.iconst 3, 1) := by decide +kernel
theorem dX11_fields_411 : decode cX11_fields 411 = .ok (.invokevirtual 123, 3) := by decide +kernel
theorem dX11_fields_414 : decode cX11_fields 414 = .ok (.iastore, 1) := by decide +kernel
theorem dX11_fields_415 : decode cX11_fields 415 = .ok (.aload_n 0, 1) := by decide +kernel
theorem dX11_fields_416 : decode cX11_fields 416 = .ok (.getfield 32, 3) := by decide +kernel
theorem dX11_fields_419 : decode cX11_fields 419 = .ok (.iconst 0, 1) := by decide +kernel
theorem dX11_fields_420 : decode cX11_fields 420 = .ok (.iaload, 1) := by decide +kernel
theorem dX11_fields_421 : decode cX11_fields 421 = .ok (.sipush 2250, 3) := by decide +kernel
theorem dX11_fields_424 : decode cX11_fields 424 = .ok (.if_icmp .ge 16, 3) := by decide +kernel
theorem dX11_fields_427 : decode cX11_fields 427 = .ok (.aload_n 0, 1) := by decide +kernel
theorem dX11_fields_428 : decode cX11_fields 428 = .ok (.getfield 32, 3) := by decide +kernel
theorem dX11_fields_431 : decode cX11_fields 431 = .ok (.iconst 1, 1) := by decide +kernel
theorem dX11_fields_432 : decode cX11_fields 432 = .ok (.iaload, 1) := by decide +kernel
theorem dX11_fields_433 : decode cX11_fields 433 = .ok (.ifCond .le 7, 3) := by decide +kernel
theorem dX11_fields_436 : decode cX11_fields 436 = .ok (.iconst 1, 1) := by decide +kernel
theorem dX11_fields_437 : decode cX11_fields 437 = .ok (.goto 4, 3) := by decide +kernel
theorem dX11_fields_440 : decode cX11_fields 440 = .ok (.iconst 0, 1) := by decide +kernel
theorem dX11_fields_441 : decode cX11_fields 441 = .ok (.ireturn, 1) := by decide +kernel
theorem dX11_fields_442 : decode cX11_fields 442 = .ok (.iconst 0, 1) := by decide +kernel
theorem dX11_fields_443 : decode cX11_fields 443 = .ok (.ireturn, 1) := by decide +kernel
theorem dX11_note_0 : decode cX11_note 0 = .ok (.aload_n 0, 1) := by decide +kernel
theorem dX11_note_1 : decode cX11_note 1 = .ok (.dup, 1) := by decide +kernel
theorem dX11_note_2 : decode cX11_note 2 = .ok (.getfield 143, 3) := by decide +kernel
theorem dX11_note_5 : decode cX11_note 5 = .ok (.iconst 1, 1) := by decide +kernel
theorem dX11_note_6 : decode cX11_note 6 = .ok (.iadd, 1) := by decide +kernel
theorem dX11_note_7 : decode cX11_note 7 = .ok (.putfield 143, 3) := by decide +kernel
theorem dX11_note_10 : decode cX11_note 10 = .ok (.sipush 300, 3) := by decide +kernel
theorem dX11_note_13 : decode cX11_note 13 = .ok (.iload_n 1, 1) := by decide +kernel
theorem dX11_note_14 : decode cX11_note 14 = .ok (.imul, 1) := by decide +kernel
theorem dX11_note_15 : decode cX11_note 15 = .ok (.istore_n 3, 1) := by decide +kernel
theorem dX11_note_16 : decode cX11_note 16 = .ok (.aload_n 0, 1) := by decide +kernel
theorem dX11_note_17 : decode cX11_note 17 = .ok (.iload_n 3, 1) := by decide +kernel
theorem dX11_note_18 : decode cX11_note 18 = .ok (.iconst 4, 1) := by decide +kernel
theorem dX11_note_19 : decode cX11_note 19 = .ok (.invokevirtual 123, 3) := by decide +kernel
theorem dX11_note_22 : decode cX11_note 22 = .ok (.istore 4, 2) := by decide +kernel
theorem dX11_note_24 : decode cX11_note 24 = .ok (.iload_n 2, 1) := by decide +kernel
theorem dX11_note_25 : decode cX11_note 25 = .ok (.bipush 24, 2) := by decide +kernel
theorem dX11_note_27 : decode cX11_note 27 = .ok (.if_icmp .lt 24, 3) := by decide +kernel
theorem dX11_note_30 : decode cX11_note 30 = .ok (.aload_n 0, 1) := by decide +kernel
theorem dX11_note_31 : decode cX11_note 31 = .ok (.iload 4, 2) := by decide +kernel
theorem dX11_note_33 : decode cX11_note 33 = .ok (.iload_n 3, 1) := by decide +kernel
theorem dX11_note_34 : decode cX11_note 34 = .ok (.bipush 24, 2) := by decide +kernel
theorem dX11_note_36 : decode cX11_note 36 = .ok (.iadd, 1) := by decide +kernel
theorem dX11_note_37 : decode cX11_note 37 = .ok (.iload_n 2, 1) := by decide +kernel
theorem dX11_note_38 : decode cX11_note 38 = .ok (.bipush 24, 2) := by decide +kernel
theorem dX11_note_40 : decode cX11_note 40 = .ok (.isub, 1) := by decide +kernel
theorem dX11_note_41 : decode cX11_note 41 = .ok (.invokevirtual 146, 3) := by decide +kernel
theorem dX11_note_44 : decode cX11_note 44 = .ok (.ifCond .eq 7, 3) := by decide +kernel
theorem dX11_note_47 : decode cX11_note 47 = .ok (.iconst 1, 1) := by decide +kernel
theorem dX11_note_48 : decode cX11_note 48 = .ok (.goto 4, 3) := by decide +kernel
theorem dX11_note_51 : decode cX11_note 51 = .ok (.iconst 0, 1) := by decide +kernel
theorem dX11_note_52 : decode cX11_note 52 = .ok (.istore 5, 2) := by decide +kernel
theorem dX11_note_54 : decode cX11_note 54 = .ok (.iload 5, 2) := by decide +kernel
theorem dX11_note_56 : decode cX11_note 56 = .ok (.ifCond .ne 13, 3) := by decide +kernel
theorem dX11_note_59 : decode cX11_note 59 = .ok (.aload_n 0, 1) := by decide +kernel
theorem dX11_note_60 : decode cX11_note 60 = .ok (.dup, 1) := by decide +kernel
theorem dX11_note_61 : decode cX11_note 61 = .ok (.getfield 150, 3) := by decide +kernel
theorem dX11_note_64 : decode cX11_note 64 = .ok (.iconst 1, 1) := by decide +kernel
theorem dX11_note_65 : decode cX11_note 65 = .ok (.iadd, 1) := by decide +kernel
theorem dX11_note_66 : decode cX11_note 66 = .ok (.putfield 150, 3) := by decide +kernel
theorem dX11_note_69 : decode cX11_note 69 = .ok (.aload_n 0, 1) := by decide +kernel
theorem dX11_note_70 : decode cX11_note 70 = .ok (.getfield 153, 3) := by decide +kernel
theorem dX11_note_73 : decode cX11_note 73 = .ok (.sipush 200, 3) := by decide +kernel
theorem dX11_note_76 : decode cX11_note 76 = .ok (.if_icmp .ne 4, 3) := by decide +kernel
theorem dX11_note_79 : decode cX11_note 79 = .ok (.return_, 1) := by decide +kernel
theorem dX11_note_80 : decode cX11_note 80 = .ok (.bipush 8, 2) := by decide +kernel
theorem dX11_note_82 : decode cX11_note 82 = .ok (.aload_n 0, 1) := by decide +kernel
theorem dX11_note_83 : decode cX11_note 83 = .ok (.getfield 153, 3) := by decide +kernel
theorem dX11_note_86 : decode cX11_note 86 = .ok (.imul, 1) := by decide +kernel
theorem dX11_note_87 : decode cX11_note 87 = .ok (.istore 6, 2) := by decide +kernel
theorem dX11_note_89 : decode cX11_note 89 = .ok (.aload_n 0, 1) := by decide +kernel
theorem dX11_note_90 : decode cX11_note 90 = .ok (.getfield 25, 3) := by decide +kernel
theorem dX11_note_93 : decode cX11_note 93 = .ok (.iload 6, 2) := by decide +kernel
theorem dX11_note_95 : decode cX11_note 95 = .ok (.iload 5, 2) := by decide +kernel
theorem dX11_note_97 : decode cX11_note 97 = .ok (.ifCond .eq 8, 3) := by decide +kernel
theorem dX11_note_100 : decode cX11_note 100 = .ok (.iload 4, 2) := by decide +kernel
theorem dX11_note_102 : decode cX11_note 102 = .ok (.goto 4, 3) := by decide +kernel
theorem dX11_note_105 : decode cX11_note 105 = .ok (.iconst 0, 1) := by decide +kernel
theorem dX11_note_106 : decode cX11_note 106 = .ok (.iastore, 1) := by decide +kernel
theorem dX11_note_107 : decode cX11_note 107 = .ok (.aload_n 0, 1) := by decide +kernel
theorem dX11_note_108 : decode cX11_note 108 = .ok (.getfield 25, 3) := by decide +kernel
theorem dX11_note_111 : decode cX11_note 111 = .ok (.iload 6, 2) := by decide +kernel
theorem dX11_note_113 : decode cX11_note 113 = .ok (.iconst 1, 1) := by decide +kernel
theorem dX11_note_114 : decode cX11_note 114 = .ok (.iadd, 1) := by decide +kernel
theorem dX11_note_115 : decode cX11_note 115 = .ok (.iload 5, 2) := by decide +kernel
theorem dX11_note_117 : decode cX11_note 117 = .ok (.ifCond .eq 15, 3) := by decide +kernel
theorem dX11_note_120 : decode cX11_note 120 = .ok (.aload_n 0, 1) := by decide +kernel
theorem dX11_note_121 : decode cX11_note 121 = .ok (.iload_n 3, 1) := by decide +kernel
theorem dX11_note_122 : decode cX11_note 122 = .ok (.iconst 4, 1) := by decide +kernel
theorem dX11_note_123 : decode cX11_note 123 = .ok (.iadd, 1) := by decide +kernel
theorem dX11_note_124 : decode cX11_note 124 = .ok (.bipush 20, 2) := by decide +kernel
theorem dX11_note_126 : decode cX11_note 126 = .ok (.invokevirtual 123, 3) := by decide +kernel
theorem dX11_note_129 : decode cX11_note 129 = .ok (.goto 4, 3) := by decide +kernel
theorem dX11_note_132 : decode cX11_note 132 = .ok (.iconst (-1), 1) := by decide +kernel
theorem dX11_note_133 : decode cX11_note 133 = .ok (.iastore, 1) := by decide +kernel
theorem dX11_note_134 : decode cX11_note 134 = .ok (.aload_n 0, 1) := by decide +kernel
theorem dX11_note_135 : decode cX11_note 135 = .ok (.getfield 25, 3) := by decide +kernel
theorem dX11_note_138 : decode cX11_note 138 = .ok (.iload 6, 2) := by decide +kernel
theorem dX11_note_140 : decode cX11_note 140 = .ok (.iconst 2, 1) := by decide +kernel
theorem dX11_note_141 : decode cX11_note 141 = .ok (.iadd, 1) := by decide +kernel
theorem dX11_note_142 : decode cX11_note 142 = .ok (.iload_n 1, 1) := by decide +kernel
theorem dX11_note_143 : decode cX11_note 143 = .ok (.iastore, 1) := by decide +kernel
theorem dX11_note_144 : decode cX11_note 144 = .ok (.aload_n 0, 1) := by decide +kernel
theorem dX11_note_145 : decode cX11_note 145 = .ok (.getfield 25, 3) := by decide +kernel
theorem dX11_note_148 : decode cX11_note 148 = .ok (.iload 6, 2) := by decide +kernel
theorem dX11_note_150 : decode cX11_note 150 = .ok (.iconst 3, 1) := by decide +kernel
theorem dX11_note_151 : decode cX11_note 151 = .ok (.iadd, 1) := by decide +kernel
theorem dX11_note_152 : decode cX11_note 152 = .ok (.aload_n 0, 1) := by decide +kernel
theorem dX11_note_153 : decode cX11_note 153 = .ok (.getfield 133, 3) := by decide +kernel
theorem dX11_note_156 : decode cX11_note 156 = .ok (.iastore, 1) := by decide +kernel
theorem dX11_note_157 : decode cX11_note 157 = .ok (.iconst 0, 1) := by decide +kernel
theorem dX11_note_158 : decode cX11_note 158 = .ok (.istore 7, 2) := by decide +kernel
theorem dX11_note_160 : decode cX11_note 160 = .ok (.iload 7, 2) := by decide +kernel
theorem dX11_note_162 : decode cX11_note 162 = .ok (.iconst 4, 1) := by decide +kernel
theorem dX11_note_163 : decode cX11_note 163 = .ok (.if_icmp .ge 37, 3) := by decide +kernel
theorem dX11_note_166 : decode cX11_note 166 = .ok (.aload_n 0, 1) := by decide +kernel
theorem dX11_note_167 : decode cX11_note 167 = .ok (.getfield 25, 3) := by decide +kernel
theorem dX11_note_170 : decode cX11_note 170 = .ok (.iload 6, 2) := by decide +kernel
theorem dX11_note_172 : decode cX11_note 172 = .ok (.iconst 4, 1) := by decide +kernel
theorem dX11_note_173 : decode cX11_note 173 = .ok (.iadd, 1) := by decide +kernel
theorem dX11_note_174 : decode cX11_note 174 = .ok (.iload 7, 2) := by decide +kernel
theorem dX11_note_176 : decode cX11_note 176 = .ok (.iadd, 1) := by decide +kernel
theorem dX11_note_177 : decode cX11_note 177 = .ok (.iload 5, 2) := by decide +kernel
theorem dX11_note_179 : decode cX11_note 179 = .ok (.ifCond .eq 13, 3) := by decide +kernel
theorem dX11_note_182 : decode cX11_note 182 = .ok (.aload_n 0, 1) := by decide +kernel
theorem dX11_note_183 : decode cX11_note 183 = .ok (.getfield 32, 3) := by decide +kernel
theorem dX11_note_186 : decode cX11_note 186 = .ok (.iload 7, 2) := by decide +kernel
theorem dX11_note_188 : decode cX11_note 188 = .ok (.iaload, 1) := by decide +kernel
theorem dX11_note_189 : decode cX11_note 189 = .ok (.goto 4, 3) := by decide +kernel
theorem dX11_note_192 : decode cX11_note 192 = .ok (.iconst (-1), 1) := by decide +kernel
theorem dX11_note_193 : decode cX11_note 193 = .ok (.iastore, 1) := by decide +kernel
theorem dX11_note_194 : decode cX11_note 194 = .ok (.iinc 7 1, 3) := by decide +kernel
theorem dX11_note_197 : decode cX11_note 197 = .ok (.goto (-37), 3) := by decide +kernel
theorem dX11_note_200 : decode cX11_note 200 = .ok (.aload_n 0, 1) := by decide +kernel
theorem dX11_note_201 : decode cX11_note 201 = .ok (.getfield 28, 3) := by decide +kernel
theorem dX11_note_204 : decode cX11_note 204 = .ok (.aload_n 0, 1) := by decide +kernel
theorem dX11_note_205 : decode cX11_note 205 = .ok (.getfield 153, 3) := by decide +kernel
theorem dX11_note_208 : decode cX11_note 208 = .ok (.iconst 0, 1) := by decide +kernel
theorem dX11_note_209 : decode cX11_note 209 = .ok (.bastore, 1) := by decide +kernel
theorem dX11_note_210 : decode cX11_note 210 = .ok (.aload_n 0, 1) := by decide +kernel
theorem dX11_note_211 : decode cX11_note 211 = .ok (.dup, 1) := by decide +kernel
theorem dX11_note_212 : decode cX11_note 212 = .ok (.getfield 153, 3) := by decide +kernel
theorem dX11_note_215 : decode cX11_note 215 = .ok (.iconst 1, 1) := by decide +kernel
theorem dX11_note_216 : decode cX11_note 216 = .ok (.iadd, 1) := by decide +kernel
theorem dX11_note_217 : decode cX11_note 217 = .ok (.putfield 153, 3) := by decide +kernel
theorem dX11_note_220 : decode cX11_note 220 = .ok (.iload 5, 2) := by decide +kernel
theorem dX11_note_222 : decode cX11_note 222 = .ok (.ifCond .eq 19, 3) := by decide +kernel
theorem dX11_note_225 : decode cX11_note 225 = .ok (.iload 4, 2) := by decide +kernel
theorem dX11_note_227 : decode cX11_note 227 = .ok (.iconst 4, 1) := by decide +kernel
theorem dX11_note_228 : decode cX11_note 228 = .ok (.if_icmp .ne 13, 3) := by decide +kernel
theorem dX11_note_231 : decode cX11_note 231 = .ok (.aload_n 0, 1) := by decide +kernel
theorem dX11_note_232 : decode cX11_note 232 = .ok (.aload_n 0, 1) := by decide +kernel
theorem dX11_note_233 : decode cX11_note 233 = .ok (.getfield 153, 3) := by decide +kernel
theorem dX11_note_236 : decode cX11_note 236 = .ok (.iconst 1, 1) := by decide +kernel
theorem dX11_note_237 : decode cX11_note 237 = .ok (.isub, 1) := by decide +kernel
theorem dX11_note_238 : decode cX11_note 238 = .ok (.invokevirtual 156, 3) := by decide +kernel
theorem dX11_note_241 : decode cX11_note 241 = .ok (.return_, 1) := by decide +kernel
theorem dX11_message_0 : decode cX11_message 0 = .ok (.iload_n 1, 1) := by decide +kernel
theorem dX11_message_1 : decode cX11_message 1 = .ok (.ifCond .lt 21, 3) := by decide +kernel
theorem dX11_message_4 : decode cX11_message 4 = .ok (.iload_n 1, 1) := by decide +kernel
theorem dX11_message_5 : decode cX11_message 5 = .ok (.aload_n 0, 1) := by decide +kernel
theorem dX11_message_6 : decode cX11_message 6 = .ok (.getfield 153, 3) := by decide +kernel
theorem dX11_message_9 : decode cX11_message 9 = .ok (.if_icmp .ge 13, 3) := by decide +kernel
theorem dX11_message_12 : decode cX11_message 12 = .ok (.iload_n 2, 1) := by decide +kernel
theorem dX11_message_13 : decode cX11_message 13 = .ok (.ifCond .lt 9, 3) := by decide +kernel
theorem dX11_message_16 : decode cX11_message 16 = .ok (.iload_n 2, 1) := by decide +kernel
theorem dX11_message_17 : decode cX11_message 17 = .ok (.bipush 7, 2) := by decide +kernel
theorem dX11_message_19 : decode cX11_message 19 = .ok (.if_icmp .le 8, 3) := by decide +kernel
theorem dX11_message_22 : decode cX11_message 22 = .ok (.aload_n 0, 1) := by decide +kernel
theorem dX11_message_23 : decode cX11_message 23 = .ok (.invokevirtual 159, 3) := by decide +kernel
theorem dX11_message_26 : decode cX11_message 26 = .ok (.ireturn, 1) := by decide +kernel
theorem dX11_message_27 : decode cX11_message 27 = .ok (.aload_n 0, 1) := by decide +kernel
theorem dX11_message_28 : decode cX11_message 28 = .ok (.iconst 0, 1) := by decide +kernel
theorem dX11_message_29 : decode cX11_message 29 = .ok (.putfield 94, 3) := by decide +kernel
theorem dX11_message_32 : decode cX11_message 32 = .ok (.aload_n 0, 1) := by decide +kernel
theorem dX11_message_33 : decode cX11_message 33 = .ok (.getfield 25, 3) := by decide +kernel
theorem dX11_message_36 : decode cX11_message 36 = .ok (.bipush 8, 2) := by decide +kernel
theorem dX11_message_38 : decode cX11_message 38 = .ok (.iload_n 1, 1) := by decide +kernel
theorem dX11_message_39 : decode cX11_message 39 = .ok (.imul, 1) := by decide +kernel
theorem dX11_message_40 : decode cX11_message 40 = .ok (.iload_n 2, 1) := by decide +kernel
theorem dX11_message_41 : decode cX11_message 41 = .ok (.iadd, 1) := by decide +kernel
theorem dX11_message_42 : decode cX11_message 42 = .ok (.iaload, 1) := by decide +kernel
theorem dX11_message_43 : decode cX11_message 43 = .ok (.ireturn, 1) := by decide +kernel
theorem dX11_size_0 : decode cX11_size 0 = .ok (.aload_n 0, 1) := by decide +kernel
theorem dX11_size_1 : decode cX11_size 1 = .ok (.iconst 0, 1) := by decide +kernel
theorem dX11_size_2 : decode cX11_size 2 = .ok (.putfield 94, 3) := by decide +kernel
theorem dX11_size_5 : decode cX11_size 5 = .ok (.aload_n 0, 1) := by decide +kernel
theorem dX11_size_6 : decode cX11_size 6 = .ok (.getfield 153, 3) := by decide +kernel
theorem dX11_size_9 : decode cX11_size 9 = .ok (.iconst 1, 1) := by decide +kernel
theorem dX11_size_10 : decode cX11_size 10 = .ok (.isub, 1) := by decide +kernel
theorem dX11_size_11 : decode cX11_size 11 = .ok (.istore_n 2, 1) := by decide +kernel
theorem dX11_size_12 : decode cX11_size 12 = .ok (.iload_n 2, 1) := by decide +kernel
theorem dX11_size_13 : decode cX11_size 13 = .ok (.ifCond .lt 50, 3) := by decide +kernel
theorem dX11_size_16 : decode cX11_size 16 = .ok (.aload_n 0, 1) := by decide +kernel
theorem dX11_size_17 : decode cX11_size 17 = .ok (.getfield 25, 3) := by decide +kernel
theorem dX11_size_20 : decode cX11_size 20 = .ok (.bipush 8, 2) := by decide +kernel
theorem dX11_size_22 : decode cX11_size 22 = .ok (.iload_n 2, 1) := by decide +kernel
theorem dX11_size_23 : decode cX11_size 23 = .ok (.imul, 1) := by decide +kernel
theorem dX11_size_24 : decode cX11_size 24 = .ok (.iaload, 1) := by decide +kernel
theorem dX11_size_25 : decode cX11_size 25 = .ok (.iconst 2, 1) := by decide +kernel
theorem dX11_size_26 : decode cX11_size 26 = .ok (.if_icmp .ne 31, 3) := by decide +kernel
theorem dX11_size_29 : decode cX11_size 29 = .ok (.aload_n 0, 1) := by decide +kernel
theorem dX11_size_30 : decode cX11_size 30 = .ok (.getfield 25, 3) := by decide +kernel
theorem dX11_size_33 : decode cX11_size 33 = .ok (.bipush 8, 2) := by decide +kernel
theorem dX11_size_35 : decode cX11_size 35 = .ok (.iload_n 2, 1) := by decide +kernel
theorem dX11_size_36 : decode cX11_size 36 = .ok (.imul, 1) := by decide +kernel
theorem dX11_size_37 : decode cX11_size 37 = .ok (.iconst 1, 1) := by decide +kernel
theorem dX11_size_38 : decode cX11_size 38 = .ok (.iadd, 1) := by decide +kernel
theorem dX11_size_39 : decode cX11_size 39 = .ok (.iaload, 1) := by decide +kernel
theorem dX11_size_40 : decode cX11_size 40 = .ok (.iload_n 1, 1) := by decide +kernel
theorem dX11_size_41 : decode cX11_size 41 = .ok (.if_icmp .ne 16, 3) := by decide +kernel
theorem dX11_size_44 : decode cX11_size 44 = .ok (.aload_n 0, 1) := by decide +kernel
theorem dX11_size_45 : decode cX11_size 45 = .ok (.getfield 25, 3) := by decide +kernel
theorem dX11_size_48 : decode cX11_size 48 = .ok (.bipush 8, 2) := by decide +kernel
theorem dX11_size_50 : decode cX11_size 50 = .ok (.iload_n 2, 1) := by decide +kernel
theorem dX11_size_51 : decode cX11_size 51 = .ok (.imul, 1) := by decide +kernel
theorem dX11_size_52 : decode cX11_size 52 = .ok (.bipush 6, 2) := by decide +kernel
theorem dX11_size_54 : decode cX11_size 54 = .ok (.iadd, 1) := by decide +kernel
theorem dX11_size_55 : decode cX11_size 55 = .ok (.iaload, 1) := by decide +kernel
theorem dX11_size_56 : decode cX11_size 56 = .ok (.ireturn, 1) := by decide +kernel
theorem dX11_size_57 : decode cX11_size 57 = .ok (.iinc 2 (-1), 3) := by decide +kernel
theorem dX11_size_60 : decode cX11_size 60 = .ok (.goto (-48), 3) := by decide +kernel
theorem dX11_size_63 : decode cX11_size 63 = .ok (.iconst (-1), 1) := by decide +kernel
theorem dX11_size_64 : decode cX11_size 64 = .ok (.ireturn, 1) := by decide +kernel
theorem dX11_isOf_0 : decode cX11_isOf 0 = .ok (.aload_n 0, 1) := by decide +kernel
theorem dX11_isOf_1 : decode cX11_isOf 1 = .ok (.getfield 25, 3) := by decide +kernel
theorem dX11_isOf_4 : decode cX11_isOf 4 = .ok (.bipush 8, 2) := by decide +kernel
theorem dX11_isOf_6 : decode cX11_isOf 6 = .ok (.iload_n 1, 1) := by decide +kernel
theorem dX11_isOf_7 : decode cX11_isOf 7 = .ok (.imul, 1) := by decide +kernel
theorem dX11_isOf_8 : decode cX11_isOf 8 = .ok (.iaload, 1) := by decide +kernel
theorem dX11_isOf_9 : decode cX11_isOf 9 = .ok (.iconst 4, 1) := by decide +kernel
theorem dX11_isOf_10 : decode cX11_isOf 10 = .ok (.if_icmp .ne 84, 3) := by decide +kernel
theorem dX11_isOf_13 : decode cX11_isOf 13 = .ok (.aload_n 0, 1) := by decide +kernel
theorem dX11_isOf_14 : decode cX11_isOf 14 = .ok (.getfield 25, 3) := by decide +kernel
theorem dX11_isOf_17 : decode cX11_isOf 17 = .ok (.bipush 8, 2) := by decide +kernel
theorem dX11_isOf_19 : decode cX11_isOf 19 = .ok (.iload_n 1, 1) := by decide +kernel
theorem dX11_isOf_20 : decode cX11_isOf 20 = .ok (.imul, 1) := by decide +kernel
theorem dX11_isOf_21 : decode cX11_isOf 21 = .ok (.iconst 1, 1) := by decide +kernel
theorem dX11_isOf_22 : decode cX11_isOf 22 = .ok (.iadd, 1) := by decide +kernel
theorem dX11_isOf_23 : decode cX11_isOf 23 = .ok (.iaload, 1) := by decide +kernel
theorem dX11_isOf_24 : decode cX11_isOf 24 = .ok (.aload_n 0, 1) := by decide +kernel
theorem dX11_isOf_25 : decode cX11_isOf 25 = .ok (.getfield 25, 3) := by decide +kernel
theorem dX11_isOf_28 : decode cX11_isOf 28 = .ok (.bipush 8, 2) := by decide +kernel
theorem dX11_isOf_30 : decode cX11_isOf 30 = .ok (.iload_n 2, 1) := by decide +kernel
theorem dX11_isOf_31 : decode cX11_isOf 31 = .ok (.imul, 1) := by decide +kernel
theorem dX11_isOf_32 : decode cX11_isOf 32 = .ok (.iconst 1, 1) := by decide +kernel
theorem dX11_isOf_33 : decode cX11_isOf 33 = .ok (.iadd, 1) := by decide +kernel
theorem dX11_isOf_34 : decode cX11_isOf 34 = .ok (.iaload, 1) := by decide +kernel
theorem dX11_isOf_35 : decode cX11_isOf 35 = .ok (.if_icmp .ne 59, 3) := by decide +kernel
theorem dX11_isOf_38 : decode cX11_isOf 38 = .ok (.aload_n 0, 1) := by decide +kernel
theorem dX11_isOf_39 : decode cX11_isOf 39 = .ok (.getfield 25, 3) := by decide +kernel
theorem dX11_isOf_42 : decode cX11_isOf 42 = .ok (.bipush 8, 2) := by decide +kernel
theorem dX11_isOf_44 : decode cX11_isOf 44 = .ok (.iload_n 1, 1) := by decide +kernel
theorem dX11_isOf_45 : decode cX11_isOf 45 = .ok (.imul, 1) := by decide +kernel
theorem dX11_isOf_46 : decode cX11_isOf 46 = .ok (.iconst 4, 1) := by decide +kernel
theorem dX11_isOf_47 : decode cX11_isOf 47 = .ok (.iadd, 1) := by decide +kernel
theorem dX11_isOf_48 : decode cX11_isOf 48 = .ok (.iaload, 1) := by decide +kernel
theorem dX11_isOf_49 : decode cX11_isOf 49 = .ok (.aload_n 0, 1) := by decide +kernel
theorem dX11_isOf_50 : decode cX11_isOf 50 = .ok (.getfield 25, 3) := by decide +kernel
theorem dX11_isOf_53 : decode cX11_isOf 53 = .ok (.bipush 8, 2) := by decide +kernel
theorem dX11_isOf_55 : decode cX11_isOf 55 = .ok (.iload_n 2, 1) := by decide +kernel
theorem dX11_isOf_56 : decode cX11_isOf 56 = .ok (.imul, 1) := by decide +kernel
theorem dX11_isOf_57 : decode cX11_isOf 57 = .ok (.iconst 4, 1) := by decide +kernel
theorem dX11_isOf_58 : decode cX11_isOf 58 = .ok (.iadd, 1) := by decide +kernel
theorem dX11_isOf_59 : decode cX11_isOf 59 = .ok (.iaload, 1) := by decide +kernel
theorem dX11_isOf_60 : decode cX11_isOf 60 = .ok (.if_icmp .ne 34, 3) := by decide +kernel
theorem dX11_isOf_63 : decode cX11_isOf 63 = .ok (.aload_n 0, 1) := by decide +kernel
theorem dX11_isOf_64 : decode cX11_isOf 64 = .ok (.getfield 25, 3) := by decide +kernel
theorem dX11_isOf_67 : decode cX11_isOf 67 = .ok (.bipush 8, 2) := by decide +kernel
theorem dX11_isOf_69 : decode cX11_isOf 69 = .ok (.iload_n 1, 1) := by decide +kernel
theorem dX11_isOf_70 : decode cX11_isOf 70 = .ok (.imul, 1) := by decide +kernel
theorem dX11_isOf_71 : decode cX11_isOf 71 = .ok (.bipush 6, 2) := by decide +kernel
theorem dX11_isOf_73 : decode cX11_isOf 73 = .ok (.iadd, 1) := by decide +kernel
theorem dX11_isOf_74 : decode cX11_isOf 74 = .ok (.iaload, 1) := by decide +kernel
theorem dX11_isOf_75 : decode cX11_isOf 75 = .ok (.aload_n 0, 1) := by decide +kernel
theorem dX11_isOf_76 : decode cX11_isOf 76 = .ok (.getfield 25, 3) := by decide +kernel
theorem dX11_isOf_79 : decode cX11_isOf 79 = .ok (.bipush 8, 2) := by decide +kernel
theorem dX11_isOf_81 : decode cX11_isOf 81 = .ok (.iload_n 2, 1) := by decide +kernel
theorem dX11_isOf_82 : decode cX11_isOf 82 = .ok (.imul, 1) := by decide +kernel
theorem dX11_isOf_83 : decode cX11_isOf 83 = .ok (.bipush 6, 2) := by decide +kernel
theorem dX11_isOf_85 : decode cX11_isOf 85 = .ok (.iadd, 1) := by decide +kernel
theorem dX11_isOf_86 : decode cX11_isOf 86 = .ok (.iaload, 1) := by decide +kernel
theorem dX11_isOf_87 : decode cX11_isOf 87 = .ok (.if_icmp .ne 7, 3) := by decide +kernel
theorem dX11_isOf_90 : decode cX11_isOf 90 = .ok (.iconst 1, 1) := by decide +kernel
theorem dX11_isOf_91 : decode cX11_isOf 91 = .ok (.goto 4, 3) := by decide +kernel
theorem dX11_isOf_94 : decode cX11_isOf 94 = .ok (.iconst 0, 1) := by decide +kernel
theorem dX11_isOf_95 : decode cX11_isOf 95 = .ok (.ireturn, 1) := by decide +kernel
theorem dX11_join_0 : decode cX11_join 0 = .ok (.aload_n 0, 1) := by decide +kernel
theorem dX11_join_1 : decode cX11_join 1 = .ok (.getfield 25, 3) := by decide +kernel
theorem dX11_join_4 : decode cX11_join 4 = .ok (.bipush 8, 2) := by decide +kernel
theorem dX11_join_6 : decode cX11_join 6 = .ok (.iload_n 1, 1) := by decide +kernel
theorem dX11_join_7 : decode cX11_join 7 = .ok (.imul, 1) := by decide +kernel
theorem dX11_join_8 : decode cX11_join 8 = .ok (.bipush 6, 2) := by decide +kernel
theorem dX11_join_10 : decode cX11_join 10 = .ok (.iadd, 1) := by decide +kernel
theorem dX11_join_11 : decode cX11_join 11 = .ok (.iaload, 1) := by decide +kernel
theorem dX11_join_12 : decode cX11_join 12 = .ok (.istore_n 2, 1) := by decide +kernel
theorem dX11_join_13 : decode cX11_join 13 = .ok (.iconst 0, 1) := by decide +kernel
theorem dX11_join_14 : decode cX11_join 14 = .ok (.istore_n 3, 1) := by decide +kernel
theorem dX11_join_15 : decode cX11_join 15 = .ok (.iload_n 3, 1) := by decide +kernel
theorem dX11_join_16 : decode cX11_join 16 = .ok (.iload_n 2, 1) := by decide +kernel
theorem dX11_join_17 : decode cX11_join 17 = .ok (.if_icmp .ge 103, 3) := by decide +kernel
theorem dX11_join_20 : decode cX11_join 20 = .ok (.iconst (-1), 1) := by decide +kernel
theorem dX11_join_21 : decode cX11_join 21 = .ok (.istore 4, 2) := by decide +kernel
theorem dX11_join_23 : decode cX11_join 23 = .ok (.iconst 0, 1) := by decide +kernel
theorem dX11_join_24 : decode cX11_join 24 = .ok (.istore 5, 2) := by decide +kernel
theorem dX11_join_26 : decode cX11_join 26 = .ok (.iload 5, 2) := by decide +kernel
theorem dX11_join_28 : decode cX11_join 28 = .ok (.aload_n 0, 1) := by decide +kernel
theorem dX11_join_29 : decode cX11_join 29 = .ok (.getfield 153, 3) := by decide +kernel
theorem dX11_join_32 : decode cX11_join 32 = .ok (.if_icmp .ge 49, 3) := by decide +kernel
theorem dX11_join_35 : decode cX11_join 35 = .ok (.aload_n 0, 1) := by decide +kernel
theorem dX11_join_36 : decode cX11_join 36 = .ok (.getfield 28, 3) := by decide +kernel
theorem dX11_join_39 : decode cX11_join 39 = .ok (.iload 5, 2) := by decide +kernel
theorem dX11_join_41 : decode cX11_join 41 = .ok (.baload, 1) := by decide +kernel
theorem dX11_join_42 : decode cX11_join 42 = .ok (.ifCond .ne 33, 3) := by decide +kernel
theorem dX11_join_45 : decode cX11_join 45 = .ok (.aload_n 0, 1) := by decide +kernel
theorem dX11_join_46 : decode cX11_join 46 = .ok (.iload 5, 2) := by decide +kernel
theorem dX11_join_48 : decode cX11_join 48 = .ok (.iload_n 1, 1) := by decide +kernel
theorem dX11_join_49 : decode cX11_join 49 = .ok (.invokevirtual 163, 3) := by decide +kernel
theorem dX11_join_52 : decode cX11_join 52 = .ok (.ifCond .eq 23, 3) := by decide +kernel
theorem dX11_join_55 : decode cX11_join 55 = .ok (.aload_n 0, 1) := by decide +kernel
theorem dX11_join_56 : decode cX11_join 56 = .ok (.getfield 25, 3) := by decide +kernel
theorem dX11_join_59 : decode cX11_join 59 = .ok (.bipush 8, 2) := by decide +kernel
theorem dX11_join_61 : decode cX11_join 61 = .ok (.iload 5, 2) := by decide +kernel
theorem dX11_join_63 : decode cX11_join 63 = .ok (.imul, 1) := by decide +kernel
theorem dX11_join_64 : decode cX11_join 64 = .ok (.iconst 5, 1) := by decide +kernel
theorem dX11_join_65 : decode cX11_join 65 = .ok (.iadd, 1) := by decide +kernel
theorem dX11_join_66 : decode cX11_join 66 = .ok (.iaload, 1) := by decide +kernel
theorem dX11_join_67 : decode cX11_join 67 = .ok (.iload_n 3, 1) := by decide +kernel
theorem dX11_join_68 : decode cX11_join 68 = .ok (.if_icmp .ne 7, 3) := by decide +kernel
theorem dX11_join_71 : decode cX11_join 71 = .ok (.iload 5, 2) := by decide +kernel
theorem dX11_join_73 : decode cX11_join 73 = .ok (.istore 4, 2) := by decide +kernel
theorem dX11_join_75 : decode cX11_join 75 = .ok (.iinc 5 1, 3) := by decide +kernel
theorem dX11_join_78 : decode cX11_join 78 = .ok (.goto (-52), 3) := by decide +kernel
theorem dX11_join_81 : decode cX11_join 81 = .ok (.iload 4, 2) := by decide +kernel
theorem dX11_join_83 : decode cX11_join 83 = .ok (.iconst (-1), 1) := by decide +kernel
theorem dX11_join_84 : decode cX11_join 84 = .ok (.if_icmp .ne 4, 3) := by decide +kernel
theorem dX11_join_87 : decode cX11_join 87 = .ok (.return_, 1) := by decide +kernel
theorem dX11_join_88 : decode cX11_join 88 = .ok (.aload_n 0, 1) := by decide +kernel
theorem dX11_join_89 : decode cX11_join 89 = .ok (.getfield 47, 3) := by decide +kernel
theorem dX11_join_92 : decode cX11_join 92 = .ok (.iconst 5, 1) := by decide +kernel
theorem dX11_join_93 : decode cX11_join 93 = .ok (.aload_n 0, 1) := by decide +kernel
theorem dX11_join_94 : decode cX11_join 94 = .ok (.getfield 166, 3) := by decide +kernel
theorem dX11_join_97 : decode cX11_join 97 = .ok (.imul, 1) := by decide +kernel
theorem dX11_join_98 : decode cX11_join 98 = .ok (.iload_n 3, 1) := by decide +kernel
theorem dX11_join_99 : decode cX11_join 99 = .ok (.iadd, 1) := by decide +kernel
theorem dX11_join_100 : decode cX11_join 100 = .ok (.aload_n 0, 1) := by decide +kernel
theorem dX11_join_101 : decode cX11_join 101 = .ok (.getfield 25, 3) := by decide +kernel
theorem dX11_join_104 : decode cX11_join 104 = .ok (.bipush 8, 2) := by decide +kernel
theorem dX11_join_106 : decode cX11_join 106 = .ok (.iload 4, 2) := by decide +kernel
theorem dX11_join_108 : decode cX11_join 108 = .ok (.imul, 1) := by decide +kernel
theorem dX11_join_109 : decode cX11_join 109 = .ok (.bipush 7, 2) := by decide +kernel
theorem dX11_join_111 : decode cX11_join 111 = .ok (.iadd, 1) := by decide +kernel
theorem dX11_join_112 : decode cX11_join 112 = .ok (.iaload, 1) := by decide +kernel
theorem dX11_join_113 : decode cX11_join 113 = .ok (.iastore, 1) := by decide +kernel
theorem dX11_join_114 : decode cX11_join 114 = .ok (.iinc 3 1, 3) := by decide +kernel
theorem dX11_join_117 : decode cX11_join 117 = .ok (.goto (-102), 3) := by decide +kernel
theorem dX11_join_120 : decode cX11_join 120 = .ok (.aload_n 0, 1) := by decide +kernel
theorem dX11_join_121 : decode cX11_join 121 = .ok (.getfield 35, 3) := by decide +kernel
theorem dX11_join_124 : decode cX11_join 124 = .ok (.aload_n 0, 1) := by decide +kernel
theorem dX11_join_125 : decode cX11_join 125 = .ok (.getfield 166, 3) := by decide +kernel
theorem dX11_join_128 : decode cX11_join 128 = .ok (.aload_n 0, 1) := by decide +kernel
theorem dX11_join_129 : decode cX11_join 129 = .ok (.getfield 25, 3) := by decide +kernel
theorem dX11_join_132 : decode cX11_join 132 = .ok (.bipush 8, 2) := by decide +kernel
theorem dX11_join_134 : decode cX11_join 134 = .ok (.iload_n 1, 1) := by decide +kernel
theorem dX11_join_135 : decode cX11_join 135 = .ok (.imul, 1) := by decide +kernel
theorem dX11_join_136 : decode cX11_join 136 = .ok (.iconst 1, 1) := by decide +kernel
theorem dX11_join_137 : decode cX11_join 137 = .ok (.iadd, 1) := by decide +kernel
theorem dX11_join_138 : decode cX11_join 138 = .ok (.iaload, 1) := by decide +kernel
theorem dX11_join_139 : decode cX11_join 139 = .ok (.iastore, 1) := by decide +kernel
theorem dX11_join_140 : decode cX11_join 140 = .ok (.aload_n 0, 1) := by decide +kernel
theorem dX11_join_141 : decode cX11_join 141 = .ok (.getfield 38, 3) := by decide +kernel
theorem dX11_join_144 : decode cX11_join 144 = .ok (.aload_n 0, 1) := by decide +kernel
theorem dX11_join_145 : decode cX11_join 145 = .ok (.getfield 166, 3) := by decide +kernel
theorem dX11_join_148 : decode cX11_join 148 = .ok (.aload_n 0, 1) := by decide +kernel
theorem dX11_join_149 : decode cX11_join 149 = .ok (.getfield 25, 3) := by decide +kernel
theorem dX11_join_152 : decode cX11_join 152 = .ok (.bipush 8, 2) := by decide +kernel
theorem dX11_join_154 : decode cX11_join 154 = .ok (.iload_n 1, 1) := by decide +kernel
theorem dX11_join_155 : decode cX11_join 155 = .ok (.imul, 1) := by decide +kernel
theorem dX11_join_156 : decode cX11_join 156 = .ok (.iconst 4, 1) := by decide +kernel
theorem dX11_join_157 : decode cX11_join 157 = .ok (.iadd, 1) := by decide +kernel
theorem dX11_join_158 : decode cX11_join 158 = .ok (.iaload, 1) := by decide +kernel
theorem dX11_join_159 : decode cX11_join 159 = .ok (.iastore, 1) := by decide +kernel
theorem dX11_join_160 : decode cX11_join 160 = .ok (.aload_n 0, 1) := by decide +kernel
theorem dX11_join_161 : decode cX11_join 161 = .ok (.getfield 41, 3) := by decide +kernel
theorem dX11_join_164 : decode cX11_join 164 = .ok (.aload_n 0, 1) := by decide +kernel
theorem dX11_join_165 : decode cX11_join 165 = .ok (.getfield 166, 3) := by decide +kernel
theorem dX11_join_168 : decode cX11_join 168 = .ok (.iconst 4, 1) := by decide +kernel
theorem dX11_join_169 : decode cX11_join 169 = .ok (.iload_n 2, 1) := by decide +kernel
theorem dX11_join_170 : decode cX11_join 170 = .ok (.imul, 1) := by decide +kernel
theorem dX11_join_171 : decode cX11_join 171 = .ok (.iastore, 1) := by decide +kernel
theorem dX11_join_172 : decode cX11_join 172 = .ok (.aload_n 0, 1) := by decide +kernel
theorem dX11_join_173 : decode cX11_join 173 = .ok (.getfield 44, 3) := by decide +kernel
theorem dX11_join_176 : decode cX11_join 176 = .ok (.aload_n 0, 1) := by decide +kernel
theorem dX11_join_177 : decode cX11_join 177 = .ok (.getfield 166, 3) := by decide +kernel
theorem dX11_join_180 : decode cX11_join 180 = .ok (.iload_n 1, 1) := by decide +kernel
theorem dX11_join_181 : decode cX11_join 181 = .ok (.iastore, 1) := by decide +kernel
theorem dX11_join_182 : decode cX11_join 182 = .ok (.aload_n 0, 1) := by decide +kernel
theorem dX11_join_183 : decode cX11_join 183 = .ok (.dup, 1) := by decide +kernel
theorem dX11_join_184 : decode cX11_join 184 = .ok (.getfield 166, 3) := by decide +kernel
theorem dX11_join_187 : decode cX11_join 187 = .ok (.iconst 1, 1) := by decide +kernel
theorem dX11_join_188 : decode cX11_join 188 = .ok (.iadd, 1) := by decide +kernel
theorem dX11_join_189 : decode cX11_join 189 = .ok (.putfield 166, 3) := by decide +kernel
theorem dX11_join_192 : decode cX11_join 192 = .ok (.iconst 0, 1) := by decide +kernel
theorem dX11_join_193 : decode cX11_join 193 = .ok (.istore_n 3, 1) := by decide +kernel
theorem dX11_join_194 : decode cX11_join 194 = .ok (.iload_n 3, 1) := by decide +kernel
theorem dX11_join_195 : decode cX11_join 195 = .ok (.aload_n 0, 1) := by decide +kernel
theorem dX11_join_196 : decode cX11_join 196 = .ok (.getfield 153, 3) := by decide +kernel
theorem dX11_join_199 : decode cX11_join 199 = .ok (.if_icmp .ge 25, 3) := by decide +kernel
theorem dX11_join_202 : decode cX11_join 202 = .ok (.aload_n 0, 1) := by decide +kernel
theorem dX11_join_203 : decode cX11_join 203 = .ok (.iload_n 3, 1) := by decide +kernel
theorem dX11_join_204 : decode cX11_join 204 = .ok (.iload_n 1, 1) := by decide +kernel
theorem dX11_join_205 : decode cX11_join 205 = .ok (.invokevirtual 163, 3) := by decide +kernel
theorem dX11_join_208 : decode cX11_join 208 = .ok (.ifCond .eq 10, 3) := by decide +kernel
theorem dX11_join_211 : decode cX11_join 211 = .ok (.aload_n 0, 1) := by decide +kernel
theorem dX11_join_212 : decode cX11_join 212 = .ok (.getfield 28, 3) := by decide +kernel
theorem dX11_join_215 : decode cX11_join 215 = .ok (.iload_n 3, 1) := by decide +kernel
theorem dX11_join_216 : decode cX11_join 216 = .ok (.iconst 1, 1) := by decide +kernel
theorem dX11_join_217 : decode cX11_join 217 = .ok (.bastore, 1) := by decide +kernel
theorem dX11_join_218 : decode cX11_join 218 = .ok (.iinc 3 1, 3) := by decide +kernel
theorem dX11_join_221 : decode cX11_join 221 = .ok (.goto (-27), 3) := by decide +kernel
theorem dX11_join_224 : decode cX11_join 224 = .ok (.return_, 1) := by decide +kernel
theorem dX11_texts_0 : decode cX11_texts 0 = .ok (.aload_n 0, 1) := by decide +kernel
theorem dX11_texts_1 : decode cX11_texts 1 = .ok (.iconst 0, 1) := by decide +kernel
theorem dX11_texts_2 : decode cX11_texts 2 = .ok (.putfield 94, 3) := by decide +kernel
theorem dX11_texts_5 : decode cX11_texts 5 = .ok (.aload_n 0, 1) := by decide +kernel
theorem dX11_texts_6 : decode cX11_texts 6 = .ok (.getfield 166, 3) := by decide +kernel
theorem dX11_texts_9 : decode cX11_texts 9 = .ok (.ireturn, 1) := by decide +kernel
theorem dX11_text_0 : decode cX11_text 0 = .ok (.iload_n 1, 1) := by decide +kernel
theorem dX11_text_1 : decode cX11_text 1 = .ok (.ifCond .lt 20, 3) := by decide +kernel
theorem dX11_text_4 : decode cX11_text 4 = .ok (.iload_n 1, 1) := by decide +kernel
theorem dX11_text_5 : decode cX11_text 5 = .ok (.aload_n 0, 1) := by decide +kernel
theorem dX11_text_6 : decode cX11_text 6 = .ok (.getfield 166, 3) := by decide +kernel
theorem dX11_text_9 : decode cX11_text 9 = .ok (.if_icmp .ge 12, 3) := by decide +kernel
theorem dX11_text_12 : decode cX11_text 12 = .ok (.iload_n 2, 1) := by decide +kernel
theorem dX11_text_13 : decode cX11_text 13 = .ok (.ifCond .lt 8, 3) := by decide +kernel
theorem dX11_text_16 : decode cX11_text 16 = .ok (.iload_n 2, 1) := by decide +kernel
theorem dX11_text_17 : decode cX11_text 17 = .ok (.iconst 3, 1) := by decide +kernel
theorem dX11_text_18 : decode cX11_text 18 = .ok (.if_icmp .le 8, 3) := by decide +kernel
theorem dX11_text_21 : decode cX11_text 21 = .ok (.aload_n 0, 1) := by decide +kernel
theorem dX11_text_22 : decode cX11_text 22 = .ok (.invokevirtual 159, 3) := by decide +kernel
theorem dX11_text_25 : decode cX11_text 25 = .ok (.ireturn, 1) := by decide +kernel
theorem dX11_text_26 : decode cX11_text 26 = .ok (.aload_n 0, 1) := by decide +kernel
theorem dX11_text_27 : decode cX11_text 27 = .ok (.iconst 0, 1) := by decide +kernel
theorem dX11_text_28 : decode cX11_text 28 = .ok (.putfield 94, 3) := by decide +kernel
theorem dX11_text_31 : decode cX11_text 31 = .ok (.iload_n 2, 1) := by decide +kernel
theorem dX11_text_32 : decode cX11_text 32 = .ok (.ifCond .ne 12, 3) := by decide +kernel
theorem dX11_text_35 : decode cX11_text 35 = .ok (.aload_n 0, 1) := by decide +kernel
theorem dX11_text_36 : decode cX11_text 36 = .ok (.getfield 35, 3) := by decide +kernel
theorem dX11_text_39 : decode cX11_text 39 = .ok (.iload_n 1, 1) := by decide +kernel
theorem dX11_text_40 : decode cX11_text 40 = .ok (.iaload, 1) := by decide +kernel
theorem dX11_text_41 : decode cX11_text 41 = .ok (.goto 37, 3) := by decide +kernel
theorem dX11_text_44 : decode cX11_text 44 = .ok (.iload_n 2, 1) := by decide +kernel
theorem dX11_text_45 : decode cX11_text 45 = .ok (.iconst 1, 1) := by decide +kernel
theorem dX11_text_46 : decode cX11_text 46 = .ok (.if_icmp .ne 12, 3) := by decide +kernel
theorem dX11_text_49 : decode cX11_text 49 = .ok (.aload_n 0, 1) := by decide +kernel
theorem dX11_text_50 : decode cX11_text 50 = .ok (.getfield 38, 3) := by decide +kernel
theorem dX11_text_53 : decode cX11_text 53 = .ok (.iload_n 1, 1) := by decide +kernel
theorem dX11_text_54 : decode cX11_text 54 = .ok (.iaload, 1) := by decide +kernel
theorem dX11_text_55 : decode cX11_text 55 = .ok (.goto 23, 3) := by decide +kernel
theorem dX11_text_58 : decode cX11_text 58 = .ok (.iload_n 2, 1) := by decide +kernel
theorem dX11_text_59 : decode cX11_text 59 = .ok (.iconst 2, 1) := by decide +kernel
theorem dX11_text_60 : decode cX11_text 60 = .ok (.if_icmp .ne 12, 3) := by decide +kernel
theorem dX11_text_63 : decode cX11_text 63 = .ok (.aload_n 0, 1) := by decide +kernel
theorem dX11_text_64 : decode cX11_text 64 = .ok (.getfield 41, 3) := by decide +kernel
theorem dX11_text_67 : decode cX11_text 67 = .ok (.iload_n 1, 1) := by decide +kernel
theorem dX11_text_68 : decode cX11_text 68 = .ok (.iaload, 1) := by decide +kernel
theorem dX11_text_69 : decode cX11_text 69 = .ok (.goto 9, 3) := by decide +kernel
theorem dX11_text_72 : decode cX11_text 72 = .ok (.aload_n 0, 1) := by decide +kernel
theorem dX11_text_73 : decode cX11_text 73 = .ok (.getfield 44, 3) := by decide +kernel
theorem dX11_text_76 : decode cX11_text 76 = .ok (.iload_n 1, 1) := by decide +kernel
theorem dX11_text_77 : decode cX11_text 77 = .ok (.iaload, 1) := by decide +kernel
theorem dX11_text_78 : decode cX11_text 78 = .ok (.ireturn, 1) := by decide +kernel
theorem dX11_letter_0 : decode cX11_letter 0 = .ok (.iload_n 1, 1) := by decide +kernel
theorem dX11_letter_1 : decode cX11_letter 1 = .ok (.ifCond .lt 25, 3) := by decide +kernel
theorem dX11_letter_4 : decode cX11_letter 4 = .ok (.iload_n 1, 1) := by decide +kernel
theorem dX11_letter_5 : decode cX11_letter 5 = .ok (.aload_n 0, 1) := by decide +kernel
theorem dX11_letter_6 : decode cX11_letter 6 = .ok (.getfield 166, 3) := by decide +kernel
theorem dX11_letter_9 : decode cX11_letter 9 = .ok (.if_icmp .ge 17, 3) := by decide +kernel
theorem dX11_letter_12 : decode cX11_letter 12 = .ok (.iload_n 2, 1) := by decide +kernel
theorem dX11_letter_13 : decode cX11_letter 13 = .ok (.ifCond .lt 13, 3) := by decide +kernel
theorem dX11_letter_16 : decode cX11_letter 16 = .ok (.iload_n 2, 1) := by decide +kernel
theorem dX11_letter_17 : decode cX11_letter 17 = .ok (.aload_n 0, 1) := by decide +kernel
theorem dX11_letter_18 : decode cX11_letter 18 = .ok (.getfield 41, 3) := by decide +kernel
theorem dX11_letter_21 : decode cX11_letter 21 = .ok (.iload_n 1, 1) := by decide +kernel
theorem dX11_letter_22 : decode cX11_letter 22 = .ok (.iaload, 1) := by decide +kernel
theorem dX11_letter_23 : decode cX11_letter 23 = .ok (.if_icmp .lt 8, 3) := by decide +kernel
theorem dX11_letter_26 : decode cX11_letter 26 = .ok (.aload_n 0, 1) := by decide +kernel
theorem dX11_letter_27 : decode cX11_letter 27 = .ok (.invokevirtual 159, 3) := by decide +kernel
theorem dX11_letter_30 : decode cX11_letter 30 = .ok (.ireturn, 1) := by decide +kernel
theorem dX11_letter_31 : decode cX11_letter 31 = .ok (.aload_n 0, 1) := by decide +kernel
theorem dX11_letter_32 : decode cX11_letter 32 = .ok (.iconst 0, 1) := by decide +kernel
theorem dX11_letter_33 : decode cX11_letter 33 = .ok (.putfield 94, 3) := by decide +kernel
theorem dX11_letter_36 : decode cX11_letter 36 = .ok (.aload_n 0, 1) := by decide +kernel
theorem dX11_letter_37 : decode cX11_letter 37 = .ok (.getfield 47, 3) := by decide +kernel
theorem dX11_letter_40 : decode cX11_letter 40 = .ok (.iconst 5, 1) := by decide +kernel
theorem dX11_letter_41 : decode cX11_letter 41 = .ok (.iload_n 1, 1) := by decide +kernel
theorem dX11_letter_42 : decode cX11_letter 42 = .ok (.imul, 1) := by decide +kernel
theorem dX11_letter_43 : decode cX11_letter 43 = .ok (.iload_n 2, 1) := by decide +kernel
theorem dX11_letter_44 : decode cX11_letter 44 = .ok (.iconst 4, 1) := by decide +kernel
theorem dX11_letter_45 : decode cX11_letter 45 = .ok (.idiv, 1) := by decide +kernel
theorem dX11_letter_46 : decode cX11_letter 46 = .ok (.iadd, 1) := by decide +kernel
theorem dX11_letter_47 : decode cX11_letter 47 = .ok (.iaload, 1) := by decide +kernel
theorem dX11_letter_48 : decode cX11_letter 48 = .ok (.bipush 15, 2) := by decide +kernel
theorem dX11_letter_50 : decode cX11_letter 50 = .ok (.iconst 5, 1) := by decide +kernel
theorem dX11_letter_51 : decode cX11_letter 51 = .ok (.iload_n 2, 1) := by decide +kernel
theorem dX11_letter_52 : decode cX11_letter 52 = .ok (.iconst 4, 1) := by decide +kernel
theorem dX11_letter_53 : decode cX11_letter 53 = .ok (.irem, 1) := by decide +kernel
theorem dX11_letter_54 : decode cX11_letter 54 = .ok (.imul, 1) := by decide +kernel
theorem dX11_letter_55 : decode cX11_letter 55 = .ok (.isub, 1) := by decide +kernel
theorem dX11_letter_56 : decode cX11_letter 56 = .ok (.ishr, 1) := by decide +kernel
theorem dX11_letter_57 : decode cX11_letter 57 = .ok (.bipush 31, 2) := by decide +kernel
theorem dX11_letter_59 : decode cX11_letter 59 = .ok (.iand, 1) := by decide +kernel
theorem dX11_letter_60 : decode cX11_letter 60 = .ok (.ireturn, 1) := by decide +kernel
theorem dX11_isClash_0 : decode cX11_isClash 0 = .ok (.aload_n 0, 1) := by decide +kernel
theorem dX11_isClash_1 : decode cX11_isClash 1 = .ok (.getfield 25, 3) := by decide +kernel
theorem dX11_isClash_4 : decode cX11_isClash 4 = .ok (.bipush 8, 2) := by decide +kernel
theorem dX11_isClash_6 : decode cX11_isClash 6 = .ok (.iload_n 1, 1) := by decide +kernel
theorem dX11_isClash_7 : decode cX11_isClash 7 = .ok (.imul, 1) := by decide +kernel
theorem dX11_isClash_8 : decode cX11_isClash 8 = .ok (.iaload, 1) := by decide +kernel
theorem dX11_isClash_9 : decode cX11_isClash 9 = .ok (.iconst 5, 1) := by decide +kernel
theorem dX11_isClash_10 : decode cX11_isClash 10 = .ok (.if_icmp .ne 66, 3) := by decide +kernel
theorem dX11_isClash_13 : decode cX11_isClash 13 = .ok (.aload_n 0, 1) := by decide +kernel
theorem dX11_isClash_14 : decode cX11_isClash 14 = .ok (.getfield 25, 3) := by decide +kernel
theorem dX11_isClash_17 : decode cX11_isClash 17 = .ok (.bipush 8, 2) := by decide +kernel
theorem dX11_isClash_19 : decode cX11_isClash 19 = .ok (.iload_n 2, 1) := by decide +kernel
theorem dX11_isClash_20 : decode cX11_isClash 20 = .ok (.imul, 1) := by decide +kernel
theorem dX11_isClash_21 : decode cX11_isClash 21 = .ok (.iaload, 1) := by decide +kernel
theorem dX11_isClash_22 : decode cX11_isClash 22 = .ok (.iconst 5, 1) := by decide +kernel
theorem dX11_isClash_23 : decode cX11_isClash 23 = .ok (.if_icmp .ne 53, 3) := by decide +kernel
theorem dX11_isClash_26 : decode cX11_isClash 26 = .ok (.aload_n 0, 1) := by decide +kernel
theorem dX11_isClash_27 : decode cX11_isClash 27 = .ok (.getfield 25, 3) := by decide +kernel
theorem dX11_isClash_30 : decode cX11_isClash 30 = .ok (.bipush 8, 2) := by decide +kernel
theorem dX11_isClash_32 : decode cX11_isClash 32 = .ok (.iload_n 1, 1) := by decide +kernel
theorem dX11_isClash_33 : decode cX11_isClash 33 = .ok (.imul, 1) := by decide +kernel
theorem dX11_isClash_34 : decode cX11_isClash 34 = .ok (.iconst 1, 1) := by decide +kernel
theorem dX11_isClash_35 : decode cX11_isClash 35 = .ok (.iadd, 1) := by decide +kernel
theorem dX11_isClash_36 : decode cX11_isClash 36 = .ok (.iaload, 1) := by decide +kernel
theorem dX11_isClash_37 : decode cX11_isClash 37 = .ok (.aload_n 0, 1) := by decide +kernel
theorem dX11_isClash_38 : decode cX11_isClash 38 = .ok (.getfield 25, 3) := by decide +kernel
theorem dX11_isClash_41 : decode cX11_isClash 41 = .ok (.bipush 8, 2) := by decide +kernel
theorem dX11_isClash_43 : decode cX11_isClash 43 = .ok (.iload_n 2, 1) := by decide +kernel
theorem dX11_isClash_44 : decode cX11_isClash 44 = .ok (.imul, 1) := by decide +kernel
theorem dX11_isClash_45 : decode cX11_isClash 45 = .ok (.iconst 1, 1) := by decide +kernel
theorem dX11_isClash_46 : decode cX11_isClash 46 = .ok (.iadd, 1) := by decide +kernel
theorem dX11_isClash_47 : decode cX11_isClash 47 = .ok (.iaload, 1) := by decide +kernel
theorem dX11_isClash_48 : decode cX11_isClash 48 = .ok (.if_icmp .eq 28, 3) := by decide +kernel
theorem dX11_isClash_51 : decode cX11_isClash 51 = .ok (.aload_n 0, 1) := by decide +kernel
theorem dX11_isClash_52 : decode cX11_isClash 52 = .ok (.getfield 25, 3) := by decide +kernel
theorem dX11_isClash_55 : decode cX11_isClash 55 = .ok (.bipush 8, 2) := by decide +kernel
theorem dX11_isClash_57 : decode cX11_isClash 57 = .ok (.iload_n 1, 1) := by decide +kernel
theorem dX11_isClash_58 : decode cX11_isClash 58 = .ok (.imul, 1) := by decide +kernel
theorem dX11_isClash_59 : decode cX11_isClash 59 = .ok (.iconst 4, 1) := by decide +kernel
theorem dX11_isClash_60 : decode cX11_isClash 60 = .ok (.iadd, 1) := by decide +kernel
theorem dX11_isClash_61 : decode cX11_isClash 61 = .ok (.iaload, 1) := by decide +kernel
theorem dX11_isClash_62 : decode cX11_isClash 62 = .ok (.aload_n 0, 1) := by decide +kernel
theorem dX11_isClash_63 : decode cX11_isClash 63 = .ok (.getfield 25, 3) := by decide +kernel
theorem dX11_isClash_66 : decode cX11_isClash 66 = .ok (.bipush 8, 2) := by decide +kernel
theorem dX11_isClash_68 : decode cX11_isClash 68 = .ok (.iload_n 2, 1) := by decide +kernel
theorem dX11_isClash_69 : decode cX11_isClash 69 = .ok (.imul, 1) := by decide +kernel
theorem dX11_isClash_70 : decode cX11_isClash 70 = .ok (.iconst 4, 1) := by decide +kernel
theorem dX11_isClash_71 : decode cX11_isClash 71 = .ok (.iadd, 1) := by decide +kernel
theorem dX11_isClash_72 : decode cX11_isClash 72 = .ok (.iaload, 1) := by decide +kernel
theorem dX11_isClash_73 : decode cX11_isClash 73 = .ok (.if_icmp .eq 5, 3) := by decide +kernel
theorem dX11_isClash_76 : decode cX11_isClash 76 = .ok (.iconst 0, 1) := by decide +kernel
theorem dX11_isClash_77 : decode cX11_isClash 77 = .ok (.ireturn, 1) := by decide +kernel
theorem dX11_isClash_78 : decode cX11_isClash 78 = .ok (.aload_n 0, 1) := by decide +kernel
theorem dX11_isClash_79 : decode cX11_isClash 79 = .ok (.getfield 25, 3) := by decide +kernel
theorem dX11_isClash_82 : decode cX11_isClash 82 = .ok (.bipush 8, 2) := by decide +kernel
theorem dX11_isClash_84 : decode cX11_isClash 84 = .ok (.iload_n 1, 1) := by decide +kernel
theorem dX11_isClash_85 : decode cX11_isClash 85 = .ok (.imul, 1) := by decide +kernel
theorem dX11_isClash_86 : decode cX11_isClash 86 = .ok (.iconst 3, 1) := by decide +kernel
theorem dX11_isClash_87 : decode cX11_isClash 87 = .ok (.iadd, 1) := by decide +kernel
theorem dX11_isClash_88 : decode cX11_isClash 88 = .ok (.iaload, 1) := by decide +kernel
theorem dX11_isClash_89 : decode cX11_isClash 89 = .ok (.aload_n 0, 1) := by decide +kernel
theorem dX11_isClash_90 : decode cX11_isClash 90 = .ok (.getfield 25, 3) := by decide +kernel
theorem dX11_isClash_93 : decode cX11_isClash 93 = .ok (.bipush 8, 2) := by decide +kernel
theorem dX11_isClash_95 : decode cX11_isClash 95 = .ok (.iload_n 2, 1) := by decide +kernel
theorem dX11_isClash_96 : decode cX11_isClash 96 = .ok (.imul, 1) := by decide +kernel
theorem dX11_isClash_97 : decode cX11_isClash 97 = .ok (.iconst 3, 1) := by decide +kernel
theorem dX11_isClash_98 : decode cX11_isClash 98 = .ok (.iadd, 1) := by decide +kernel
theorem dX11_isClash_99 : decode cX11_isClash 99 = .ok (.iaload, 1) := by decide +kernel
theorem dX11_isClash_100 : decode cX11_isClash 100 = .ok (.bipush 60, 2) := by decide +kernel
theorem dX11_isClash_102 : decode cX11_isClash 102 = .ok (.aload_n 0, 1) := by decide +kernel
theorem dX11_isClash_103 : decode cX11_isClash 103 = .ok (.getfield 25, 3) := by decide +kernel
theorem dX11_isClash_106 : decode cX11_isClash 106 = .ok (.bipush 8, 2) := by decide +kernel
theorem dX11_isClash_108 : decode cX11_isClash 108 = .ok (.iload_n 2, 1) := by decide +kernel
theorem dX11_isClash_109 : decode cX11_isClash 109 = .ok (.imul, 1) := by decide +kernel
theorem dX11_isClash_110 : decode cX11_isClash 110 = .ok (.iconst 5, 1) := by decide +kernel
theorem dX11_isClash_111 : decode cX11_isClash 111 = .ok (.iadd, 1) := by decide +kernel
theorem dX11_isClash_112 : decode cX11_isClash 112 = .ok (.iaload, 1) := by decide +kernel
theorem dX11_isClash_113 : decode cX11_isClash 113 = .ok (.imul, 1) := by decide +kernel
theorem dX11_isClash_114 : decode cX11_isClash 114 = .ok (.iadd, 1) := by decide +kernel
theorem dX11_isClash_115 : decode cX11_isClash 115 = .ok (.if_icmp .ge 7, 3) := by decide +kernel
theorem dX11_isClash_118 : decode cX11_isClash 118 = .ok (.iconst 1, 1) := by decide +kernel
theorem dX11_isClash_119 : decode cX11_isClash 119 = .ok (.goto 4, 3) := by decide +kernel
theorem dX11_isClash_122 : decode cX11_isClash 122 = .ok (.iconst 0, 1) := by decide +kernel
theorem dX11_isClash_123 : decode cX11_isClash 123 = .ok (.ireturn, 1) := by decide +kernel
theorem dX11_clashOf_0 : decode cX11_clashOf 0 = .ok (.iload_n 1, 1) := by decide +kernel
theorem dX11_clashOf_1 : decode cX11_clashOf 1 = .ok (.istore_n 2, 1) := by decide +kernel
theorem dX11_clashOf_2 : decode cX11_clashOf 2 = .ok (.iconst 0, 1) := by decide +kernel
theorem dX11_clashOf_3 : decode cX11_clashOf 3 = .ok (.istore_n 3, 1) := by decide +kernel
theorem dX11_clashOf_4 : decode cX11_clashOf 4 = .ok (.iload_n 3, 1) := by decide +kernel
theorem dX11_clashOf_5 : decode cX11_clashOf 5 = .ok (.aload_n 0, 1) := by decide +kernel
theorem dX11_clashOf_6 : decode cX11_clashOf 6 = .ok (.getfield 153, 3) := by decide +kernel
theorem dX11_clashOf_9 : decode cX11_clashOf 9 = .ok (.if_icmp .ge 53, 3) := by decide +kernel
theorem dX11_clashOf_12 : decode cX11_clashOf 12 = .ok (.iconst 0, 1) := by decide +kernel
theorem dX11_clashOf_13 : decode cX11_clashOf 13 = .ok (.istore 4, 2) := by decide +kernel
theorem dX11_clashOf_15 : decode cX11_clashOf 15 = .ok (.iload 4, 2) := by decide +kernel
theorem dX11_clashOf_17 : decode cX11_clashOf 17 = .ok (.iload_n 3, 1) := by decide +kernel
theorem dX11_clashOf_18 : decode cX11_clashOf 18 = .ok (.if_icmp .ge 38, 3) := by decide +kernel
theorem dX11_clashOf_21 : decode cX11_clashOf 21 = .ok (.aload_n 0, 1) := by decide +kernel
theorem dX11_clashOf_22 : decode cX11_clashOf 22 = .ok (.iload_n 3, 1) := by decide +kernel
theorem dX11_clashOf_23 : decode cX11_clashOf 23 = .ok (.iload 4, 2) := by decide +kernel
theorem dX11_clashOf_25 : decode cX11_clashOf 25 = .ok (.invokevirtual 169, 3) := by decide +kernel
theorem dX11_clashOf_28 : decode cX11_clashOf 28 = .ok (.ifCond .ne 6, 3) := by decide +kernel
theorem dX11_clashOf_31 : decode cX11_clashOf 31 = .ok (.goto 19, 3) := by decide +kernel
theorem dX11_clashOf_34 : decode cX11_clashOf 34 = .ok (.iload_n 2, 1) := by decide +kernel
theorem dX11_clashOf_35 : decode cX11_clashOf 35 = .ok (.ifCond .ne 12, 3) := by decide +kernel
theorem dX11_clashOf_38 : decode cX11_clashOf 38 = .ok (.sipush 200, 3) := by decide +kernel
theorem dX11_clashOf_41 : decode cX11_clashOf 41 = .ok (.iload_n 3, 1) := by decide +kernel
theorem dX11_clashOf_42 : decode cX11_clashOf 42 = .ok (.imul, 1) := by decide +kernel
theorem dX11_clashOf_43 : decode cX11_clashOf 43 = .ok (.iload 4, 2) := by decide +kernel
theorem dX11_clashOf_45 : decode cX11_clashOf 45 = .ok (.iadd, 1) := by decide +kernel
theorem dX11_clashOf_46 : decode cX11_clashOf 46 = .ok (.ireturn, 1) := by decide +kernel
theorem dX11_clashOf_47 : decode cX11_clashOf 47 = .ok (.iinc 2 (-1), 3) := by decide +kernel
theorem dX11_clashOf_50 : decode cX11_clashOf 50 = .ok (.iinc 4 1, 3) := by decide +kernel
theorem dX11_clashOf_53 : decode cX11_clashOf 53 = .ok (.goto (-38), 3) := by decide +kernel
theorem dX11_clashOf_56 : decode cX11_clashOf 56 = .ok (.iinc 3 1, 3) := by decide +kernel
theorem dX11_clashOf_59 : decode cX11_clashOf 59 = .ok (.goto (-55), 3) := by decide +kernel
theorem dX11_clashOf_62 : decode cX11_clashOf 62 = .ok (.iconst (-1), 1) := by decide +kernel
theorem dX11_clashOf_63 : decode cX11_clashOf 63 = .ok (.ireturn, 1) := by decide +kernel
theorem dX11_clashes_0 : decode cX11_clashes 0 = .ok (.aload_n 0, 1) := by decide +kernel
theorem dX11_clashes_1 : decode cX11_clashes 1 = .ok (.iconst 0, 1) := by decide +kernel
theorem dX11_clashes_2 : decode cX11_clashes 2 = .ok (.putfield 94, 3) := by decide +kernel
theorem dX11_clashes_5 : decode cX11_clashes 5 = .ok (.iconst 0, 1) := by decide +kernel
theorem dX11_clashes_6 : decode cX11_clashes 6 = .ok (.istore_n 1, 1) := by decide +kernel
theorem dX11_clashes_7 : decode cX11_clashes 7 = .ok (.iconst 0, 1) := by decide +kernel
theorem dX11_clashes_8 : decode cX11_clashes 8 = .ok (.istore_n 2, 1) := by decide +kernel
theorem dX11_clashes_9 : decode cX11_clashes 9 = .ok (.iload_n 2, 1) := by decide +kernel
theorem dX11_clashes_10 : decode cX11_clashes 10 = .ok (.aload_n 0, 1) := by decide +kernel
theorem dX11_clashes_11 : decode cX11_clashes 11 = .ok (.getfield 153, 3) := by decide +kernel
theorem dX11_clashes_14 : decode cX11_clashes 14 = .ok (.if_icmp .ge 34, 3) := by decide +kernel
theorem dX11_clashes_17 : decode cX11_clashes 17 = .ok (.iconst 0, 1) := by decide +kernel
theorem dX11_clashes_18 : decode cX11_clashes 18 = .ok (.istore_n 3, 1) := by decide +kernel
theorem dX11_clashes_19 : decode cX11_clashes 19 = .ok (.iload_n 3, 1) := by decide +kernel
theorem dX11_clashes_20 : decode cX11_clashes 20 = .ok (.iload_n 2, 1) := by decide +kernel
theorem dX11_clashes_21 : decode cX11_clashes 21 = .ok (.if_icmp .ge 21, 3) := by decide +kernel
theorem dX11_clashes_24 : decode cX11_clashes 24 = .ok (.aload_n 0, 1) := by decide +kernel
theorem dX11_clashes_25 : decode cX11_clashes 25 = .ok (.iload_n 2, 1) := by decide +kernel
theorem dX11_clashes_26 : decode cX11_clashes 26 = .ok (.iload_n 3, 1) := by decide +kernel
theorem dX11_clashes_27 : decode cX11_clashes 27 = .ok (.invokevirtual 169, 3) := by decide +kernel
theorem dX11_clashes_30 : decode cX11_clashes 30 = .ok (.ifCond .eq 6, 3) := by decide +kernel
theorem dX11_clashes_33 : decode cX11_clashes 33 = .ok (.iinc 1 1, 3) := by decide +kernel
theorem dX11_clashes_36 : decode cX11_clashes 36 = .ok (.iinc 3 1, 3) := by decide +kernel
theorem dX11_clashes_39 : decode cX11_clashes 39 = .ok (.goto (-20), 3) := by decide +kernel
theorem dX11_clashes_42 : decode cX11_clashes 42 = .ok (.iinc 2 1, 3) := by decide +kernel
theorem dX11_clashes_45 : decode cX11_clashes 45 = .ok (.goto (-36), 3) := by decide +kernel
theorem dX11_clashes_48 : decode cX11_clashes 48 = .ok (.iload_n 1, 1) := by decide +kernel
theorem dX11_clashes_49 : decode cX11_clashes 49 = .ok (.ireturn, 1) := by decide +kernel
theorem dX11_clash_0 : decode cX11_clash 0 = .ok (.iload_n 1, 1) := by decide +kernel
theorem dX11_clash_1 : decode cX11_clash 1 = .ok (.ifCond .lt 12, 3) := by decide +kernel
theorem dX11_clash_4 : decode cX11_clash 4 = .ok (.iload_n 2, 1) := by decide +kernel
theorem dX11_clash_5 : decode cX11_clash 5 = .ok (.ifCond .lt 8, 3) := by decide +kernel
theorem dX11_clash_8 : decode cX11_clash 8 = .ok (.iload_n 2, 1) := by decide +kernel
theorem dX11_clash_9 : decode cX11_clash 9 = .ok (.iconst 1, 1) := by decide +kernel
theorem dX11_clash_10 : decode cX11_clash 10 = .ok (.if_icmp .le 7, 3) := by decide +kernel
theorem dX11_clash_13 : decode cX11_clash 13 = .ok (.iconst (-1), 1) := by decide +kernel
theorem dX11_clash_14 : decode cX11_clash 14 = .ok (.goto 8, 3) := by decide +kernel
theorem dX11_clash_17 : decode cX11_clash 17 = .ok (.aload_n 0, 1) := by decide +kernel
theorem dX11_clash_18 : decode cX11_clash 18 = .ok (.iload_n 1, 1) := by decide +kernel
theorem dX11_clash_19 : decode cX11_clash 19 = .ok (.invokevirtual 172, 3) := by decide +kernel
theorem dX11_clash_22 : decode cX11_clash 22 = .ok (.istore_n 3, 1) := by decide +kernel
theorem dX11_clash_23 : decode cX11_clash 23 = .ok (.iload_n 3, 1) := by decide +kernel
theorem dX11_clash_24 : decode cX11_clash 24 = .ok (.iconst (-1), 1) := by decide +kernel
theorem dX11_clash_25 : decode cX11_clash 25 = .ok (.if_icmp .ne 8, 3) := by decide +kernel
theorem dX11_clash_28 : decode cX11_clash 28 = .ok (.aload_n 0, 1) := by decide +kernel
theorem dX11_clash_29 : decode cX11_clash 29 = .ok (.invokevirtual 159, 3) := by decide +kernel
theorem dX11_clash_32 : decode cX11_clash 32 = .ok (.ireturn, 1) := by decide +kernel
theorem dX11_clash_33 : decode cX11_clash 33 = .ok (.aload_n 0, 1) := by decide +kernel
theorem dX11_clash_34 : decode cX11_clash 34 = .ok (.iconst 0, 1) := by decide +kernel
theorem dX11_clash_35 : decode cX11_clash 35 = .ok (.putfield 94, 3) := by decide +kernel
theorem dX11_clash_38 : decode cX11_clash 38 = .ok (.iload_n 2, 1) := by decide +kernel
theorem dX11_clash_39 : decode cX11_clash 39 = .ok (.ifCond .ne 11, 3) := by decide +kernel
theorem dX11_clash_42 : decode cX11_clash 42 = .ok (.iload_n 3, 1) := by decide +kernel
theorem dX11_clash_43 : decode cX11_clash 43 = .ok (.sipush 200, 3) := by decide +kernel
theorem dX11_clash_46 : decode cX11_clash 46 = .ok (.idiv, 1) := by decide +kernel
theorem dX11_clash_47 : decode cX11_clash 47 = .ok (.goto 8, 3) := by decide +kernel
theorem dX11_clash_50 : decode cX11_clash 50 = .ok (.iload_n 3, 1) := by decide +kernel
theorem dX11_clash_51 : decode cX11_clash 51 = .ok (.sipush 200, 3) := by decide +kernel
theorem dX11_clash_54 : decode cX11_clash 54 = .ok (.irem, 1) := by decide +kernel
theorem dX11_clash_55 : decode cX11_clash 55 = .ok (.ireturn, 1) := by decide +kernel
theorem dX11_say_0 : decode cX11_say 0 = .ok (.iload_n 2, 1) := by decide +kernel
theorem dX11_say_1 : decode cX11_say 1 = .ok (.iconst 1, 1) := by decide +kernel
theorem dX11_say_2 : decode cX11_say 2 = .ok (.isub, 1) := by decide +kernel
theorem dX11_say_3 : decode cX11_say 3 = .ok (.istore_n 3, 1) := by decide +kernel
theorem dX11_say_4 : decode cX11_say 4 = .ok (.iload_n 3, 1) := by decide +kernel
theorem dX11_say_5 : decode cX11_say 5 = .ok (.ifCond .lt 33, 3) := by decide +kernel
theorem dX11_say_8 : decode cX11_say 8 = .ok (.aload_n 0, 1) := by decide +kernel
theorem dX11_say_9 : decode cX11_say 9 = .ok (.getfield 53, 3) := by decide +kernel
theorem dX11_say_12 : decode cX11_say 12 = .ok (.aload_n 0, 1) := by decide +kernel
theorem dX11_say_13 : decode cX11_say 13 = .ok (.getfield 176, 3) := by decide +kernel
theorem dX11_say_16 : decode cX11_say 16 = .ok (.iload_n 1, 1) := by decide +kernel
theorem dX11_say_17 : decode cX11_say 17 = .ok (.iload_n 3, 1) := by decide +kernel
theorem dX11_say_18 : decode cX11_say 18 = .ok (.ishr, 1) := by decide +kernel
theorem dX11_say_19 : decode cX11_say 19 = .ok (.iconst 1, 1) := by decide +kernel
theorem dX11_say_20 : decode cX11_say 20 = .ok (.iand, 1) := by decide +kernel
theorem dX11_say_21 : decode cX11_say 21 = .ok (.iastore, 1) := by decide +kernel
theorem dX11_say_22 : decode cX11_say 22 = .ok (.aload_n 0, 1) := by decide +kernel
theorem dX11_say_23 : decode cX11_say 23 = .ok (.dup, 1) := by decide +kernel
theorem dX11_say_24 : decode cX11_say 24 = .ok (.getfield 176, 3) := by decide +kernel
theorem dX11_say_27 : decode cX11_say 27 = .ok (.iconst 1, 1) := by decide +kernel
theorem dX11_say_28 : decode cX11_say 28 = .ok (.iadd, 1) := by decide +kernel
theorem dX11_say_29 : decode cX11_say 29 = .ok (.putfield 176, 3) := by decide +kernel
theorem dX11_say_32 : decode cX11_say 32 = .ok (.iinc 3 (-1), 3) := by decide +kernel
theorem dX11_say_35 : decode cX11_say 35 = .ok (.goto (-31), 3) := by decide +kernel
theorem dX11_say_38 : decode cX11_say 38 = .ok (.return_, 1) := by decide +kernel
theorem dX11_level_0 : decode cX11_level 0 = .ok (.iload_n 1, 1) := by decide +kernel
theorem dX11_level_1 : decode cX11_level 1 = .ok (.ifCond .ne 13, 3) := by decide +kernel
theorem dX11_level_4 : decode cX11_level 4 = .ok (.aload_n 0, 1) := by decide +kernel
theorem dX11_level_5 : decode cX11_level 5 = .ok (.iconst 1, 1) := by decide +kernel
theorem dX11_level_6 : decode cX11_level 6 = .ok (.aload_n 0, 1) := by decide +kernel
theorem dX11_level_7 : decode cX11_level 7 = .ok (.getfield 179, 3) := by decide +kernel
theorem dX11_level_10 : decode cX11_level 10 = .ok (.isub, 1) := by decide +kernel
theorem dX11_level_11 : decode cX11_level 11 = .ok (.putfield 179, 3) := by decide +kernel
