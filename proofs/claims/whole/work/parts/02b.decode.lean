theorem dX6_takeLetters_58 : decode cX6_takeLetters 58 = .ok (.ladd, 1) := by decide +kernel
theorem dX6_takeLetters_59 : decode cX6_takeLetters 59 = .ok (.ldc2_w 43, 3) := by decide +kernel
theorem dX6_takeLetters_62 : decode cX6_takeLetters 62 = .ok (.lsub, 1) := by decide +kernel
theorem dX6_takeLetters_63 : decode cX6_takeLetters 63 = .ok (.lconst 1, 1) := by decide +kernel
theorem dX6_takeLetters_64 : decode cX6_takeLetters 64 = .ok (.ladd, 1) := by decide +kernel
theorem dX6_takeLetters_65 : decode cX6_takeLetters 65 = .ok (.putfield 27, 3) := by decide +kernel
theorem dX6_takeLetters_68 : decode cX6_takeLetters 68 = .ok (.aload_n 0, 1) := by decide +kernel
theorem dX6_takeLetters_69 : decode cX6_takeLetters 69 = .ok (.dup, 1) := by decide +kernel
theorem dX6_takeLetters_70 : decode cX6_takeLetters 70 = .ok (.getfield 34, 3) := by decide +kernel
theorem dX6_takeLetters_73 : decode cX6_takeLetters 73 = .ok (.iconst 1, 1) := by decide +kernel
theorem dX6_takeLetters_74 : decode cX6_takeLetters 74 = .ok (.iadd, 1) := by decide +kernel
theorem dX6_takeLetters_75 : decode cX6_takeLetters 75 = .ok (.putfield 34, 3) := by decide +kernel
theorem dX6_takeLetters_78 : decode cX6_takeLetters 78 = .ok (.goto (-70), 3) := by decide +kernel
theorem dX6_takeLetters_81 : decode cX6_takeLetters 81 = .ok (.aload_n 0, 1) := by decide +kernel
theorem dX6_takeLetters_82 : decode cX6_takeLetters 82 = .ok (.aload_n 0, 1) := by decide +kernel
theorem dX6_takeLetters_83 : decode cX6_takeLetters 83 = .ok (.getfield 34, 3) := by decide +kernel
theorem dX6_takeLetters_86 : decode cX6_takeLetters 86 = .ok (.aload_n 0, 1) := by decide +kernel
theorem dX6_takeLetters_87 : decode cX6_takeLetters 87 = .ok (.getfield 31, 3) := by decide +kernel
theorem dX6_takeLetters_90 : decode cX6_takeLetters 90 = .ok (.isub, 1) := by decide +kernel
theorem dX6_takeLetters_91 : decode cX6_takeLetters 91 = .ok (.bipush 8, 2) := by decide +kernel
theorem dX6_takeLetters_93 : decode cX6_takeLetters 93 = .ok (.if_icmp .le 7, 3) := by decide +kernel
theorem dX6_takeLetters_96 : decode cX6_takeLetters 96 = .ok (.iconst 0, 1) := by decide +kernel
theorem dX6_takeLetters_97 : decode cX6_takeLetters 97 = .ok (.goto 4, 3) := by decide +kernel
theorem dX6_takeLetters_100 : decode cX6_takeLetters 100 = .ok (.iconst 1, 1) := by decide +kernel
theorem dX6_takeLetters_101 : decode cX6_takeLetters 101 = .ok (.putfield 23, 3) := by decide +kernel
theorem dX6_takeLetters_104 : decode cX6_takeLetters 104 = .ok (.iconst 0, 1) := by decide +kernel
theorem dX6_takeLetters_105 : decode cX6_takeLetters 105 = .ok (.istore_n 3, 1) := by decide +kernel
theorem dX6_takeLetters_106 : decode cX6_takeLetters 106 = .ok (.iload_n 3, 1) := by decide +kernel
theorem dX6_takeLetters_107 : decode cX6_takeLetters 107 = .ok (.aload_n 0, 1) := by decide +kernel
theorem dX6_takeLetters_108 : decode cX6_takeLetters 108 = .ok (.getfield 17, 3) := by decide +kernel
theorem dX6_takeLetters_111 : decode cX6_takeLetters 111 = .ok (.arraylength, 1) := by decide +kernel
theorem dX6_takeLetters_112 : decode cX6_takeLetters 112 = .ok (.if_icmp .ge 40, 3) := by decide +kernel
theorem dX6_takeLetters_115 : decode cX6_takeLetters 115 = .ok (.aload_n 0, 1) := by decide +kernel
theorem dX6_takeLetters_116 : decode cX6_takeLetters 116 = .ok (.getfield 23, 3) := by decide +kernel
theorem dX6_takeLetters_119 : decode cX6_takeLetters 119 = .ok (.iconst 1, 1) := by decide +kernel
theorem dX6_takeLetters_120 : decode cX6_takeLetters 120 = .ok (.if_icmp .ne 32, 3) := by decide +kernel
theorem dX6_takeLetters_123 : decode cX6_takeLetters 123 = .ok (.aload_n 0, 1) := by decide +kernel
theorem dX6_takeLetters_124 : decode cX6_takeLetters 124 = .ok (.getfield 17, 3) := by decide +kernel
theorem dX6_takeLetters_127 : decode cX6_takeLetters 127 = .ok (.iload_n 3, 1) := by decide +kernel
theorem dX6_takeLetters_128 : decode cX6_takeLetters 128 = .ok (.laload, 1) := by decide +kernel
theorem dX6_takeLetters_129 : decode cX6_takeLetters 129 = .ok (.aload_n 0, 1) := by decide +kernel
theorem dX6_takeLetters_130 : decode cX6_takeLetters 130 = .ok (.getfield 27, 3) := by decide +kernel
theorem dX6_takeLetters_133 : decode cX6_takeLetters 133 = .ok (.lcmp, 1) := by decide +kernel
theorem dX6_takeLetters_134 : decode cX6_takeLetters 134 = .ok (.ifCond .ne 12, 3) := by decide +kernel
theorem dX6_takeLetters_137 : decode cX6_takeLetters 137 = .ok (.aload_n 0, 1) := by decide +kernel
theorem dX6_takeLetters_138 : decode cX6_takeLetters 138 = .ok (.sipush 128, 3) := by decide +kernel
theorem dX6_takeLetters_141 : decode cX6_takeLetters 141 = .ok (.iload_n 3, 1) := by decide +kernel
theorem dX6_takeLetters_142 : decode cX6_takeLetters 142 = .ok (.iadd, 1) := by decide +kernel
theorem dX6_takeLetters_143 : decode cX6_takeLetters 143 = .ok (.putfield 23, 3) := by decide +kernel
theorem dX6_takeLetters_146 : decode cX6_takeLetters 146 = .ok (.iinc 3 1, 3) := by decide +kernel
theorem dX6_takeLetters_149 : decode cX6_takeLetters 149 = .ok (.goto (-43), 3) := by decide +kernel
theorem dX6_takeLetters_152 : decode cX6_takeLetters 152 = .ok (.return_, 1) := by decide +kernel
theorem dX6_takeDigits_0 : decode cX6_takeDigits 0 = .ok (.aload_n 0, 1) := by decide +kernel
theorem dX6_takeDigits_1 : decode cX6_takeDigits 1 = .ok (.aload_n 0, 1) := by decide +kernel
theorem dX6_takeDigits_2 : decode cX6_takeDigits 2 = .ok (.getfield 31, 3) := by decide +kernel
theorem dX6_takeDigits_5 : decode cX6_takeDigits 5 = .ok (.putfield 34, 3) := by decide +kernel
theorem dX6_takeDigits_8 : decode cX6_takeDigits 8 = .ok (.aload_n 0, 1) := by decide +kernel
theorem dX6_takeDigits_9 : decode cX6_takeDigits 9 = .ok (.getfield 34, 3) := by decide +kernel
theorem dX6_takeDigits_12 : decode cX6_takeDigits 12 = .ok (.iload_n 2, 1) := by decide +kernel
theorem dX6_takeDigits_13 : decode cX6_takeDigits 13 = .ok (.if_icmp .ge 65, 3) := by decide +kernel
theorem dX6_takeDigits_16 : decode cX6_takeDigits 16 = .ok (.aload_n 1, 1) := by decide +kernel
theorem dX6_takeDigits_17 : decode cX6_takeDigits 17 = .ok (.aload_n 0, 1) := by decide +kernel
theorem dX6_takeDigits_18 : decode cX6_takeDigits 18 = .ok (.getfield 34, 3) := by decide +kernel
theorem dX6_takeDigits_21 : decode cX6_takeDigits 21 = .ok (.baload, 1) := by decide +kernel
theorem dX6_takeDigits_22 : decode cX6_takeDigits 22 = .ok (.invokestatic 56, 3) := by decide +kernel
theorem dX6_takeDigits_25 : decode cX6_takeDigits 25 = .ok (.ifCond .eq 53, 3) := by decide +kernel
theorem dX6_takeDigits_28 : decode cX6_takeDigits 28 = .ok (.aload_n 0, 1) := by decide +kernel
theorem dX6_takeDigits_29 : decode cX6_takeDigits 29 = .ok (.getfield 34, 3) := by decide +kernel
theorem dX6_takeDigits_32 : decode cX6_takeDigits 32 = .ok (.aload_n 0, 1) := by decide +kernel
theorem dX6_takeDigits_33 : decode cX6_takeDigits 33 = .ok (.getfield 31, 3) := by decide +kernel
theorem dX6_takeDigits_36 : decode cX6_takeDigits 36 = .ok (.isub, 1) := by decide +kernel
theorem dX6_takeDigits_37 : decode cX6_takeDigits 37 = .ok (.iconst 4, 1) := by decide +kernel
theorem dX6_takeDigits_38 : decode cX6_takeDigits 38 = .ok (.if_icmp .ge 27, 3) := by decide +kernel
theorem dX6_takeDigits_41 : decode cX6_takeDigits 41 = .ok (.aload_n 0, 1) := by decide +kernel
theorem dX6_takeDigits_42 : decode cX6_takeDigits 42 = .ok (.aload_n 0, 1) := by decide +kernel
theorem dX6_takeDigits_43 : decode cX6_takeDigits 43 = .ok (.getfield 27, 3) := by decide +kernel
theorem dX6_takeDigits_46 : decode cX6_takeDigits 46 = .ok (.ldc2_w 68, 3) := by decide +kernel
theorem dX6_takeDigits_49 : decode cX6_takeDigits 49 = .ok (.lmul, 1) := by decide +kernel
theorem dX6_takeDigits_50 : decode cX6_takeDigits 50 = .ok (.aload_n 1, 1) := by decide +kernel
theorem dX6_takeDigits_51 : decode cX6_takeDigits 51 = .ok (.aload_n 0, 1) := by decide +kernel
theorem dX6_takeDigits_52 : decode cX6_takeDigits 52 = .ok (.getfield 34, 3) := by decide +kernel
theorem dX6_takeDigits_55 : decode cX6_takeDigits 55 = .ok (.baload, 1) := by decide +kernel
theorem dX6_takeDigits_56 : decode cX6_takeDigits 56 = .ok (.i2l, 1) := by decide +kernel
theorem dX6_takeDigits_57 : decode cX6_takeDigits 57 = .ok (.ladd, 1) := by decide +kernel
theorem dX6_takeDigits_58 : decode cX6_takeDigits 58 = .ok (.ldc2_w 70, 3) := by decide +kernel
theorem dX6_takeDigits_61 : decode cX6_takeDigits 61 = .ok (.lsub, 1) := by decide +kernel
theorem dX6_takeDigits_62 : decode cX6_takeDigits 62 = .ok (.putfield 27, 3) := by decide +kernel
theorem dX6_takeDigits_65 : decode cX6_takeDigits 65 = .ok (.aload_n 0, 1) := by decide +kernel
theorem dX6_takeDigits_66 : decode cX6_takeDigits 66 = .ok (.dup, 1) := by decide +kernel
theorem dX6_takeDigits_67 : decode cX6_takeDigits 67 = .ok (.getfield 34, 3) := by decide +kernel
theorem dX6_takeDigits_70 : decode cX6_takeDigits 70 = .ok (.iconst 1, 1) := by decide +kernel
theorem dX6_takeDigits_71 : decode cX6_takeDigits 71 = .ok (.iadd, 1) := by decide +kernel
theorem dX6_takeDigits_72 : decode cX6_takeDigits 72 = .ok (.putfield 34, 3) := by decide +kernel
theorem dX6_takeDigits_75 : decode cX6_takeDigits 75 = .ok (.goto (-67), 3) := by decide +kernel
theorem dX6_takeDigits_78 : decode cX6_takeDigits 78 = .ok (.aload_n 0, 1) := by decide +kernel
theorem dX6_takeDigits_79 : decode cX6_takeDigits 79 = .ok (.aload_n 0, 1) := by decide +kernel
theorem dX6_takeDigits_80 : decode cX6_takeDigits 80 = .ok (.getfield 34, 3) := by decide +kernel
theorem dX6_takeDigits_83 : decode cX6_takeDigits 83 = .ok (.aload_n 0, 1) := by decide +kernel
theorem dX6_takeDigits_84 : decode cX6_takeDigits 84 = .ok (.getfield 31, 3) := by decide +kernel
theorem dX6_takeDigits_87 : decode cX6_takeDigits 87 = .ok (.isub, 1) := by decide +kernel
theorem dX6_takeDigits_88 : decode cX6_takeDigits 88 = .ok (.iconst 4, 1) := by decide +kernel
theorem dX6_takeDigits_89 : decode cX6_takeDigits 89 = .ok (.if_icmp .le 7, 3) := by decide +kernel
theorem dX6_takeDigits_92 : decode cX6_takeDigits 92 = .ok (.iconst 0, 1) := by decide +kernel
theorem dX6_takeDigits_93 : decode cX6_takeDigits 93 = .ok (.goto 4, 3) := by decide +kernel
theorem dX6_takeDigits_96 : decode cX6_takeDigits 96 = .ok (.iconst 2, 1) := by decide +kernel
theorem dX6_takeDigits_97 : decode cX6_takeDigits 97 = .ok (.putfield 23, 3) := by decide +kernel
theorem dX6_takeDigits_100 : decode cX6_takeDigits 100 = .ok (.return_, 1) := by decide +kernel
theorem dX6_isBlank_0 : decode cX6_isBlank 0 = .ok (.iload_n 0, 1) := by decide +kernel
theorem dX6_isBlank_1 : decode cX6_isBlank 1 = .ok (.bipush 9, 2) := by decide +kernel
theorem dX6_isBlank_3 : decode cX6_isBlank 3 = .ok (.if_icmp .eq 21, 3) := by decide +kernel
theorem dX6_isBlank_6 : decode cX6_isBlank 6 = .ok (.iload_n 0, 1) := by decide +kernel
theorem dX6_isBlank_7 : decode cX6_isBlank 7 = .ok (.bipush 10, 2) := by decide +kernel
theorem dX6_isBlank_9 : decode cX6_isBlank 9 = .ok (.if_icmp .eq 15, 3) := by decide +kernel
theorem dX6_isBlank_12 : decode cX6_isBlank 12 = .ok (.iload_n 0, 1) := by decide +kernel
theorem dX6_isBlank_13 : decode cX6_isBlank 13 = .ok (.bipush 13, 2) := by decide +kernel
theorem dX6_isBlank_15 : decode cX6_isBlank 15 = .ok (.if_icmp .eq 9, 3) := by decide +kernel
theorem dX6_isBlank_18 : decode cX6_isBlank 18 = .ok (.iload_n 0, 1) := by decide +kernel
theorem dX6_isBlank_19 : decode cX6_isBlank 19 = .ok (.bipush 32, 2) := by decide +kernel
theorem dX6_isBlank_21 : decode cX6_isBlank 21 = .ok (.if_icmp .ne 7, 3) := by decide +kernel
theorem dX6_isBlank_24 : decode cX6_isBlank 24 = .ok (.iconst 1, 1) := by decide +kernel
theorem dX6_isBlank_25 : decode cX6_isBlank 25 = .ok (.goto 4, 3) := by decide +kernel
theorem dX6_isBlank_28 : decode cX6_isBlank 28 = .ok (.iconst 0, 1) := by decide +kernel
theorem dX6_isBlank_29 : decode cX6_isBlank 29 = .ok (.ireturn, 1) := by decide +kernel
theorem dX6_isLetter_0 : decode cX6_isLetter 0 = .ok (.iload_n 0, 1) := by decide +kernel
theorem dX6_isLetter_1 : decode cX6_isLetter 1 = .ok (.bipush 97, 2) := by decide +kernel
theorem dX6_isLetter_3 : decode cX6_isLetter 3 = .ok (.if_icmp .lt 13, 3) := by decide +kernel
theorem dX6_isLetter_6 : decode cX6_isLetter 6 = .ok (.iload_n 0, 1) := by decide +kernel
theorem dX6_isLetter_7 : decode cX6_isLetter 7 = .ok (.bipush 122, 2) := by decide +kernel
theorem dX6_isLetter_9 : decode cX6_isLetter 9 = .ok (.if_icmp .gt 7, 3) := by decide +kernel
theorem dX6_isLetter_12 : decode cX6_isLetter 12 = .ok (.iconst 1, 1) := by decide +kernel
theorem dX6_isLetter_13 : decode cX6_isLetter 13 = .ok (.goto 4, 3) := by decide +kernel
theorem dX6_isLetter_16 : decode cX6_isLetter 16 = .ok (.iconst 0, 1) := by decide +kernel
theorem dX6_isLetter_17 : decode cX6_isLetter 17 = .ok (.ireturn, 1) := by decide +kernel
theorem dX6_isDigit_0 : decode cX6_isDigit 0 = .ok (.iload_n 0, 1) := by decide +kernel
theorem dX6_isDigit_1 : decode cX6_isDigit 1 = .ok (.bipush 48, 2) := by decide +kernel
theorem dX6_isDigit_3 : decode cX6_isDigit 3 = .ok (.if_icmp .lt 13, 3) := by decide +kernel
theorem dX6_isDigit_6 : decode cX6_isDigit 6 = .ok (.iload_n 0, 1) := by decide +kernel
theorem dX6_isDigit_7 : decode cX6_isDigit 7 = .ok (.bipush 57, 2) := by decide +kernel
theorem dX6_isDigit_9 : decode cX6_isDigit 9 = .ok (.if_icmp .gt 7, 3) := by decide +kernel
theorem dX6_isDigit_12 : decode cX6_isDigit 12 = .ok (.iconst 1, 1) := by decide +kernel
theorem dX6_isDigit_13 : decode cX6_isDigit 13 = .ok (.goto 4, 3) := by decide +kernel
theorem dX6_isDigit_16 : decode cX6_isDigit 16 = .ok (.iconst 0, 1) := by decide +kernel
theorem dX6_isDigit_17 : decode cX6_isDigit 17 = .ok (.ireturn, 1) := by decide +kernel
theorem dX7_init_0 : decode cX7_init 0 = .ok (.aload_n 0, 1) := by decide +kernel
theorem dX7_init_1 : decode cX7_init 1 = .ok (.invokespecial 3, 3) := by decide +kernel
theorem dX7_init_4 : decode cX7_init 4 = .ok (.aload_n 0, 1) := by decide +kernel
theorem dX7_init_5 : decode cX7_init 5 = .ok (.bipush 9, 2) := by decide +kernel
theorem dX7_init_7 : decode cX7_init 7 = .ok (.newarray .int, 2) := by decide +kernel
theorem dX7_init_9 : decode cX7_init 9 = .ok (.putfield 9, 3) := by decide +kernel
theorem dX7_init_12 : decode cX7_init 12 = .ok (.aload_n 0, 1) := by decide +kernel
theorem dX7_init_13 : decode cX7_init 13 = .ok (.iconst 0, 1) := by decide +kernel
theorem dX7_init_14 : decode cX7_init 14 = .ok (.putfield 15, 3) := by decide +kernel
theorem dX7_init_17 : decode cX7_init 17 = .ok (.aload_n 0, 1) := by decide +kernel
theorem dX7_init_18 : decode cX7_init 18 = .ok (.iconst 0, 1) := by decide +kernel
theorem dX7_init_19 : decode cX7_init 19 = .ok (.putfield 19, 3) := by decide +kernel
theorem dX7_init_22 : decode cX7_init 22 = .ok (.aload_n 0, 1) := by decide +kernel
theorem dX7_init_23 : decode cX7_init 23 = .ok (.iconst 0, 1) := by decide +kernel
theorem dX7_init_24 : decode cX7_init 24 = .ok (.putfield 22, 3) := by decide +kernel
theorem dX7_init_27 : decode cX7_init 27 = .ok (.aload_n 0, 1) := by decide +kernel
theorem dX7_init_28 : decode cX7_init 28 = .ok (.iconst 0, 1) := by decide +kernel
theorem dX7_init_29 : decode cX7_init 29 = .ok (.putfield 25, 3) := by decide +kernel
theorem dX7_init_32 : decode cX7_init 32 = .ok (.aload_n 0, 1) := by decide +kernel
theorem dX7_init_33 : decode cX7_init 33 = .ok (.iconst 0, 1) := by decide +kernel
theorem dX7_init_34 : decode cX7_init 34 = .ok (.putfield 28, 3) := by decide +kernel
theorem dX7_init_37 : decode cX7_init 37 = .ok (.aload_n 0, 1) := by decide +kernel
theorem dX7_init_38 : decode cX7_init 38 = .ok (.iconst 0, 1) := by decide +kernel
theorem dX7_init_39 : decode cX7_init 39 = .ok (.putfield 31, 3) := by decide +kernel
theorem dX7_init_42 : decode cX7_init 42 = .ok (.aload_n 0, 1) := by decide +kernel
theorem dX7_init_43 : decode cX7_init 43 = .ok (.iconst 0, 1) := by decide +kernel
theorem dX7_init_44 : decode cX7_init 44 = .ok (.putfield 34, 3) := by decide +kernel
theorem dX7_init_47 : decode cX7_init 47 = .ok (.aload_n 0, 1) := by decide +kernel
theorem dX7_init_48 : decode cX7_init 48 = .ok (.iconst 0, 1) := by decide +kernel
theorem dX7_init_49 : decode cX7_init 49 = .ok (.putfield 37, 3) := by decide +kernel
theorem dX7_init_52 : decode cX7_init 52 = .ok (.aload_n 0, 1) := by decide +kernel
theorem dX7_init_53 : decode cX7_init 53 = .ok (.iconst (-1), 1) := by decide +kernel
theorem dX7_init_54 : decode cX7_init 54 = .ok (.putfield 40, 3) := by decide +kernel
theorem dX7_init_57 : decode cX7_init 57 = .ok (.aload_n 0, 1) := by decide +kernel
theorem dX7_init_58 : decode cX7_init 58 = .ok (.aload_n 1, 1) := by decide +kernel
theorem dX7_init_59 : decode cX7_init 59 = .ok (.putfield 43, 3) := by decide +kernel
theorem dX7_init_62 : decode cX7_init 62 = .ok (.return_, 1) := by decide +kernel
theorem dX7_take_0 : decode cX7_take 0 = .ok (.aload_n 0, 1) := by decide +kernel
theorem dX7_take_1 : decode cX7_take 1 = .ok (.iload_n 2, 1) := by decide +kernel
theorem dX7_take_2 : decode cX7_take 2 = .ok (.putfield 15, 3) := by decide +kernel
theorem dX7_take_5 : decode cX7_take 5 = .ok (.aload_n 0, 1) := by decide +kernel
theorem dX7_take_6 : decode cX7_take 6 = .ok (.aload_n 0, 1) := by decide +kernel
theorem dX7_take_7 : decode cX7_take 7 = .ok (.getfield 43, 3) := by decide +kernel
theorem dX7_take_10 : decode cX7_take 10 = .ok (.iload_n 2, 1) := by decide +kernel
theorem dX7_take_11 : decode cX7_take 11 = .ok (.iconst 1, 1) := by decide +kernel
theorem dX7_take_12 : decode cX7_take 12 = .ok (.invokevirtual 49, 3) := by decide +kernel
theorem dX7_take_15 : decode cX7_take 15 = .ok (.putfield 19, 3) := by decide +kernel
theorem dX7_take_18 : decode cX7_take 18 = .ok (.aload_n 0, 1) := by decide +kernel
theorem dX7_take_19 : decode cX7_take 19 = .ok (.aload_n 1, 1) := by decide +kernel
theorem dX7_take_20 : decode cX7_take 20 = .ok (.iload_n 2, 1) := by decide +kernel
theorem dX7_take_21 : decode cX7_take 21 = .ok (.aload_n 0, 1) := by decide +kernel
theorem dX7_take_22 : decode cX7_take 22 = .ok (.getfield 43, 3) := by decide +kernel
theorem dX7_take_25 : decode cX7_take 25 = .ok (.getfield 53, 3) := by decide +kernel
theorem dX7_take_28 : decode cX7_take 28 = .ok (.invokevirtual 56, 3) := by decide +kernel
theorem dX7_take_31 : decode cX7_take 31 = .ok (.putfield 22, 3) := by decide +kernel
theorem dX7_take_34 : decode cX7_take 34 = .ok (.aload_n 0, 1) := by decide +kernel
theorem dX7_take_35 : decode cX7_take 35 = .ok (.aload_n 1, 1) := by decide +kernel
theorem dX7_take_36 : decode cX7_take 36 = .ok (.iload_n 2, 1) := by decide +kernel
theorem dX7_take_37 : decode cX7_take 37 = .ok (.iconst 4, 1) := by decide +kernel
theorem dX7_take_38 : decode cX7_take 38 = .ok (.invokevirtual 61, 3) := by decide +kernel
theorem dX7_take_41 : decode cX7_take 41 = .ok (.putfield 25, 3) := by decide +kernel
theorem dX7_take_44 : decode cX7_take 44 = .ok (.aload_n 0, 1) := by decide +kernel
theorem dX7_take_45 : decode cX7_take 45 = .ok (.iconst 0, 1) := by decide +kernel
theorem dX7_take_46 : decode cX7_take 46 = .ok (.putfield 28, 3) := by decide +kernel
theorem dX7_take_49 : decode cX7_take 49 = .ok (.aload_n 0, 1) := by decide +kernel
theorem dX7_take_50 : decode cX7_take 50 = .ok (.aload_n 1, 1) := by decide +kernel
theorem dX7_take_51 : decode cX7_take 51 = .ok (.iload_n 2, 1) := by decide +kernel
theorem dX7_take_52 : decode cX7_take 52 = .ok (.iconst 5, 1) := by decide +kernel
theorem dX7_take_53 : decode cX7_take 53 = .ok (.invokevirtual 61, 3) := by decide +kernel
theorem dX7_take_56 : decode cX7_take 56 = .ok (.putfield 31, 3) := by decide +kernel
theorem dX7_take_59 : decode cX7_take 59 = .ok (.aload_n 0, 1) := by decide +kernel
theorem dX7_take_60 : decode cX7_take 60 = .ok (.aload_n 1, 1) := by decide +kernel
theorem dX7_take_61 : decode cX7_take 61 = .ok (.invokevirtual 64, 3) := by decide +kernel
theorem dX7_take_64 : decode cX7_take 64 = .ok (.putfield 34, 3) := by decide +kernel
theorem dX7_take_67 : decode cX7_take 67 = .ok (.aload_n 0, 1) := by decide +kernel
theorem dX7_take_68 : decode cX7_take 68 = .ok (.aload_n 1, 1) := by decide +kernel
theorem dX7_take_69 : decode cX7_take 69 = .ok (.iload_n 2, 1) := by decide +kernel
theorem dX7_take_70 : decode cX7_take 70 = .ok (.invokevirtual 67, 3) := by decide +kernel
theorem dX7_take_73 : decode cX7_take 73 = .ok (.ifCond .eq 7, 3) := by decide +kernel
theorem dX7_take_76 : decode cX7_take 76 = .ok (.iconst 1, 1) := by decide +kernel
theorem dX7_take_77 : decode cX7_take 77 = .ok (.goto 4, 3) := by decide +kernel
theorem dX7_take_80 : decode cX7_take 80 = .ok (.iconst 0, 1) := by decide +kernel
theorem dX7_take_81 : decode cX7_take 81 = .ok (.putfield 37, 3) := by decide +kernel
theorem dX7_take_84 : decode cX7_take 84 = .ok (.aload_n 0, 1) := by decide +kernel
theorem dX7_take_85 : decode cX7_take 85 = .ok (.aload_n 1, 1) := by decide +kernel
theorem dX7_take_86 : decode cX7_take 86 = .ok (.iload_n 2, 1) := by decide +kernel
theorem dX7_take_87 : decode cX7_take 87 = .ok (.bipush 8, 2) := by decide +kernel
theorem dX7_take_89 : decode cX7_take 89 = .ok (.invokevirtual 61, 3) := by decide +kernel
theorem dX7_take_92 : decode cX7_take 92 = .ok (.putfield 40, 3) := by decide +kernel
theorem dX7_take_95 : decode cX7_take 95 = .ok (.return_, 1) := by decide +kernel
theorem dX7_goodness_0 : decode cX7_goodness 0 = .ok (.aload_n 0, 1) := by decide +kernel
theorem dX7_goodness_1 : decode cX7_goodness 1 = .ok (.getfield 40, 3) := by decide +kernel
theorem dX7_goodness_4 : decode cX7_goodness 4 = .ok (.iconst (-1), 1) := by decide +kernel
theorem dX7_goodness_5 : decode cX7_goodness 5 = .ok (.if_icmp .eq 8, 3) := by decide +kernel
theorem dX7_goodness_8 : decode cX7_goodness 8 = .ok (.aload_n 0, 1) := by decide +kernel
theorem dX7_goodness_9 : decode cX7_goodness 9 = .ok (.getfield 40, 3) := by decide +kernel
theorem dX7_goodness_12 : decode cX7_goodness 12 = .ok (.ireturn, 1) := by decide +kernel
theorem dX7_goodness_13 : decode cX7_goodness 13 = .ok (.aload_n 0, 1) := by decide +kernel
theorem dX7_goodness_14 : decode cX7_goodness 14 = .ok (.aload_n 0, 1) := by decide +kernel
theorem dX7_goodness_15 : decode cX7_goodness 15 = .ok (.getfield 31, 3) := by decide +kernel
theorem dX7_goodness_18 : decode cX7_goodness 18 = .ok (.iconst 0, 1) := by decide +kernel
theorem dX7_goodness_19 : decode cX7_goodness 19 = .ok (.iconst 0, 1) := by decide +kernel
theorem dX7_goodness_20 : decode cX7_goodness 20 = .ok (.aload_n 0, 1) := by decide +kernel
theorem dX7_goodness_21 : decode cX7_goodness 21 = .ok (.getfield 15, 3) := by decide +kernel
theorem dX7_goodness_24 : decode cX7_goodness 24 = .ok (.invokevirtual 71, 3) := by decide +kernel
theorem dX7_goodness_27 : decode cX7_goodness 27 = .ok (.iconst 0, 1) := by decide +kernel
theorem dX7_goodness_28 : decode cX7_goodness 28 = .ok (.bipush 99, 2) := by decide +kernel
theorem dX7_goodness_30 : decode cX7_goodness 30 = .ok (.aload_n 0, 1) := by decide +kernel
theorem dX7_goodness_31 : decode cX7_goodness 31 = .ok (.getfield 43, 3) := by decide +kernel
theorem dX7_goodness_34 : decode cX7_goodness 34 = .ok (.getfield 75, 3) := by decide +kernel
theorem dX7_goodness_37 : decode cX7_goodness 37 = .ok (.iconst 0, 1) := by decide +kernel
theorem dX7_goodness_38 : decode cX7_goodness 38 = .ok (.aload_n 0, 1) := by decide +kernel
theorem dX7_goodness_39 : decode cX7_goodness 39 = .ok (.getfield 9, 3) := by decide +kernel
theorem dX7_goodness_42 : decode cX7_goodness 42 = .ok (.invokevirtual 79, 3) := by decide +kernel
theorem dX7_goodness_45 : decode cX7_goodness 45 = .ok (.invokestatic 85, 3) := by decide +kernel
theorem dX7_goodness_48 : decode cX7_goodness 48 = .ok (.invokestatic 90, 3) := by decide +kernel
theorem dX7_goodness_51 : decode cX7_goodness 51 = .ok (.ireturn, 1) := by decide +kernel
theorem dX7_markBy_0 : decode cX7_markBy 0 = .ok (.aload_n 0, 1) := by decide +kernel
theorem dX7_markBy_1 : decode cX7_markBy 1 = .ok (.getfield 25, 3) := by decide +kernel
theorem dX7_markBy_4 : decode cX7_markBy 4 = .ok (.iconst 1, 1) := by decide +kernel
theorem dX7_markBy_5 : decode cX7_markBy 5 = .ok (.if_icmp .ne 5, 3) := by decide +kernel
theorem dX7_markBy_8 : decode cX7_markBy 8 = .ok (.iconst 4, 1) := by decide +kernel
theorem dX7_markBy_9 : decode cX7_markBy 9 = .ok (.ireturn, 1) := by decide +kernel
theorem dX7_markBy_10 : decode cX7_markBy 10 = .ok (.aload_n 0, 1) := by decide +kernel
theorem dX7_markBy_11 : decode cX7_markBy 11 = .ok (.aload_n 0, 1) := by decide +kernel
theorem dX7_markBy_12 : decode cX7_markBy 12 = .ok (.getfield 31, 3) := by decide +kernel
theorem dX7_markBy_15 : decode cX7_markBy 15 = .ok (.iload_n 2, 1) := by decide +kernel
theorem dX7_markBy_16 : decode cX7_markBy 16 = .ok (.aload_n 0, 1) := by decide +kernel
theorem dX7_markBy_17 : decode cX7_markBy 17 = .ok (.getfield 43, 3) := by decide +kernel
theorem dX7_markBy_20 : decode cX7_markBy 20 = .ok (.getfield 93, 3) := by decide +kernel
theorem dX7_markBy_23 : decode cX7_markBy 23 = .ok (.iload_n 1, 1) := by decide +kernel
theorem dX7_markBy_24 : decode cX7_markBy 24 = .ok (.iaload, 1) := by decide +kernel
theorem dX7_markBy_25 : decode cX7_markBy 25 = .ok (.aload_n 0, 1) := by decide +kernel
theorem dX7_markBy_26 : decode cX7_markBy 26 = .ok (.getfield 22, 3) := by decide +kernel
theorem dX7_markBy_29 : decode cX7_markBy 29 = .ok (.if_icmp .ne 7, 3) := by decide +kernel
theorem dX7_markBy_32 : decode cX7_markBy 32 = .ok (.iconst 1, 1) := by decide +kernel
theorem dX7_markBy_33 : decode cX7_markBy 33 = .ok (.goto 4, 3) := by decide +kernel
theorem dX7_markBy_36 : decode cX7_markBy 36 = .ok (.iconst 0, 1) := by decide +kernel
theorem dX7_markBy_37 : decode cX7_markBy 37 = .ok (.iload_n 1, 1) := by decide +kernel
theorem dX7_markBy_38 : decode cX7_markBy 38 = .ok (.invokevirtual 71, 3) := by decide +kernel
theorem dX7_markBy_41 : decode cX7_markBy 41 = .ok (.iconst 1, 1) := by decide +kernel
theorem dX7_markBy_42 : decode cX7_markBy 42 = .ok (.bipush 9, 2) := by decide +kernel
theorem dX7_markBy_44 : decode cX7_markBy 44 = .ok (.aload_n 0, 1) := by decide +kernel
theorem dX7_markBy_45 : decode cX7_markBy 45 = .ok (.getfield 43, 3) := by decide +kernel
theorem dX7_markBy_48 : decode cX7_markBy 48 = .ok (.getfield 75, 3) := by decide +kernel
theorem dX7_markBy_51 : decode cX7_markBy 51 = .ok (.iconst 1, 1) := by decide +kernel
theorem dX7_markBy_52 : decode cX7_markBy 52 = .ok (.aload_n 0, 1) := by decide +kernel
theorem dX7_markBy_53 : decode cX7_markBy 53 = .ok (.getfield 9, 3) := by decide +kernel
theorem dX7_markBy_56 : decode cX7_markBy 56 = .ok (.invokevirtual 79, 3) := by decide +kernel
theorem dX7_markBy_59 : decode cX7_markBy 59 = .ok (.invokestatic 85, 3) := by decide +kernel
theorem dX7_markBy_62 : decode cX7_markBy 62 = .ok (.invokestatic 90, 3) := by decide +kernel
theorem dX7_markBy_65 : decode cX7_markBy 65 = .ok (.istore_n 3, 1) := by decide +kernel
theorem dX7_markBy_66 : decode cX7_markBy 66 = .ok (.aload_n 0, 1) := by decide +kernel
theorem dX7_markBy_67 : decode cX7_markBy 67 = .ok (.getfield 25, 3) := by decide +kernel
theorem dX7_markBy_70 : decode cX7_markBy 70 = .ok (.iconst 2, 1) := by decide +kernel
theorem dX7_markBy_71 : decode cX7_markBy 71 = .ok (.if_icmp .ne 23, 3) := by decide +kernel
theorem dX7_markBy_74 : decode cX7_markBy 74 = .ok (.iload_n 3, 1) := by decide +kernel
theorem dX7_markBy_75 : decode cX7_markBy 75 = .ok (.iconst 2, 1) := by decide +kernel
theorem dX7_markBy_76 : decode cX7_markBy 76 = .ok (.irem, 1) := by decide +kernel
theorem dX7_markBy_77 : decode cX7_markBy 77 = .ok (.iconst 1, 1) := by decide +kernel
theorem dX7_markBy_78 : decode cX7_markBy 78 = .ok (.if_icmp .ne 16, 3) := by decide +kernel
theorem dX7_markBy_81 : decode cX7_markBy 81 = .ok (.iload_n 3, 1) := by decide +kernel
theorem dX7_markBy_82 : decode cX7_markBy 82 = .ok (.iconst 1, 1) := by decide +kernel
theorem dX7_markBy_83 : decode cX7_markBy 83 = .ok (.if_icmp .ne 7, 3) := by decide +kernel
theorem dX7_markBy_86 : decode cX7_markBy 86 = .ok (.iconst 2, 1) := by decide +kernel
theorem dX7_markBy_87 : decode cX7_markBy 87 = .ok (.goto 6, 3) := by decide +kernel
theorem dX7_markBy_90 : decode cX7_markBy 90 = .ok (.iload_n 3, 1) := by decide +kernel
theorem dX7_markBy_91 : decode cX7_markBy 91 = .ok (.iconst 1, 1) := by decide +kernel
theorem dX7_markBy_92 : decode cX7_markBy 92 = .ok (.isub, 1) := by decide +kernel
theorem dX7_markBy_93 : decode cX7_markBy 93 = .ok (.ireturn, 1) := by decide +kernel
theorem dX7_markBy_94 : decode cX7_markBy 94 = .ok (.iload_n 3, 1) := by decide +kernel
theorem dX7_markBy_95 : decode cX7_markBy 95 = .ok (.ireturn, 1) := by decide +kernel
theorem dX7_totalAs_0 : decode cX7_totalAs 0 = .ok (.iconst 0, 1) := by decide +kernel
theorem dX7_totalAs_1 : decode cX7_totalAs 1 = .ok (.istore_n 2, 1) := by decide +kernel
theorem dX7_totalAs_2 : decode cX7_totalAs 2 = .ok (.iconst 0, 1) := by decide +kernel
theorem dX7_totalAs_3 : decode cX7_totalAs 3 = .ok (.istore_n 3, 1) := by decide +kernel
theorem dX7_totalAs_4 : decode cX7_totalAs 4 = .ok (.iload_n 3, 1) := by decide +kernel
theorem dX7_totalAs_5 : decode cX7_totalAs 5 = .ok (.aload_n 0, 1) := by decide +kernel
theorem dX7_totalAs_6 : decode cX7_totalAs 6 = .ok (.getfield 43, 3) := by decide +kernel
theorem dX7_totalAs_9 : decode cX7_totalAs 9 = .ok (.getfield 96, 3) := by decide +kernel
theorem dX7_totalAs_12 : decode cX7_totalAs 12 = .ok (.if_icmp .ge 18, 3) := by decide +kernel
theorem dX7_totalAs_15 : decode cX7_totalAs 15 = .ok (.iload_n 2, 1) := by decide +kernel
theorem dX7_totalAs_16 : decode cX7_totalAs 16 = .ok (.aload_n 0, 1) := by decide +kernel
theorem dX7_totalAs_17 : decode cX7_totalAs 17 = .ok (.iload_n 3, 1) := by decide +kernel
theorem dX7_totalAs_18 : decode cX7_totalAs 18 = .ok (.iload_n 1, 1) := by decide +kernel
theorem dX7_totalAs_19 : decode cX7_totalAs 19 = .ok (.invokevirtual 99, 3) := by decide +kernel
theorem dX7_totalAs_22 : decode cX7_totalAs 22 = .ok (.iadd, 1) := by decide +kernel
theorem dX7_totalAs_23 : decode cX7_totalAs 23 = .ok (.istore_n 2, 1) := by decide +kernel
theorem dX7_totalAs_24 : decode cX7_totalAs 24 = .ok (.iinc 3 1, 3) := by decide +kernel
theorem dX7_totalAs_27 : decode cX7_totalAs 27 = .ok (.goto (-23), 3) := by decide +kernel
theorem dX7_totalAs_30 : decode cX7_totalAs 30 = .ok (.iload_n 2, 1) := by decide +kernel
theorem dX7_totalAs_31 : decode cX7_totalAs 31 = .ok (.ireturn, 1) := by decide +kernel
theorem dX7_entry_0 : decode cX7_entry 0 = .ok (.aload_n 0, 1) := by decide +kernel
theorem dX7_entry_1 : decode cX7_entry 1 = .ok (.getfield 22, 3) := by decide +kernel
theorem dX7_entry_4 : decode cX7_entry 4 = .ok (.aload_n 0, 1) := by decide +kernel
theorem dX7_entry_5 : decode cX7_entry 5 = .ok (.aload_n 0, 1) := by decide +kernel
theorem dX7_entry_6 : decode cX7_entry 6 = .ok (.invokevirtual 102, 3) := by decide +kernel
theorem dX7_entry_9 : decode cX7_entry 9 = .ok (.invokevirtual 105, 3) := by decide +kernel
theorem dX7_entry_12 : decode cX7_entry 12 = .ok (.invokestatic 109, 3) := by decide +kernel
theorem dX7_entry_15 : decode cX7_entry 15 = .ok (.lreturn, 1) := by decide +kernel
theorem dX7_fineFor_0 : decode cX7_fineFor 0 = .ok (.aload_n 0, 1) := by decide +kernel
theorem dX7_fineFor_1 : decode cX7_fineFor 1 = .ok (.iconst 0, 1) := by decide +kernel
theorem dX7_fineFor_2 : decode cX7_fineFor 2 = .ok (.aload_n 0, 1) := by decide +kernel
theorem dX7_fineFor_3 : decode cX7_fineFor 3 = .ok (.getfield 43, 3) := by decide +kernel
theorem dX7_fineFor_6 : decode cX7_fineFor 6 = .ok (.getfield 96, 3) := by decide +kernel
theorem dX7_fineFor_9 : decode cX7_fineFor 9 = .ok (.ifCond .le 15, 3) := by decide +kernel
theorem dX7_fineFor_12 : decode cX7_fineFor 12 = .ok (.iload_n 1, 1) := by decide +kernel
theorem dX7_fineFor_13 : decode cX7_fineFor 13 = .ok (.aload_n 0, 1) := by decide +kernel
theorem dX7_fineFor_14 : decode cX7_fineFor 14 = .ok (.getfield 43, 3) := by decide +kernel
theorem dX7_fineFor_17 : decode cX7_fineFor 17 = .ok (.getfield 96, 3) := by decide +kernel
theorem dX7_fineFor_20 : decode cX7_fineFor 20 = .ok (.idiv, 1) := by decide +kernel
theorem dX7_fineFor_21 : decode cX7_fineFor 21 = .ok (.goto 4, 3) := by decide +kernel
theorem dX7_fineFor_24 : decode cX7_fineFor 24 = .ok (.iconst 0, 1) := by decide +kernel
theorem dX7_fineFor_25 : decode cX7_fineFor 25 = .ok (.iconst 0, 1) := by decide +kernel
theorem dX7_fineFor_26 : decode cX7_fineFor 26 = .ok (.aload_n 0, 1) := by decide +kernel
theorem dX7_fineFor_27 : decode cX7_fineFor 27 = .ok (.getfield 15, 3) := by decide +kernel
theorem dX7_fineFor_30 : decode cX7_fineFor 30 = .ok (.invokevirtual 71, 3) := by decide +kernel
theorem dX7_fineFor_33 : decode cX7_fineFor 33 = .ok (.iconst 0, 1) := by decide +kernel
theorem dX7_fineFor_34 : decode cX7_fineFor 34 = .ok (.bipush 99, 2) := by decide +kernel
theorem dX7_fineFor_36 : decode cX7_fineFor 36 = .ok (.aload_n 0, 1) := by decide +kernel
theorem dX7_fineFor_37 : decode cX7_fineFor 37 = .ok (.getfield 43, 3) := by decide +kernel
theorem dX7_fineFor_40 : decode cX7_fineFor 40 = .ok (.getfield 75, 3) := by decide +kernel
theorem dX7_fineFor_43 : decode cX7_fineFor 43 = .ok (.iconst 2, 1) := by decide +kernel
theorem dX7_fineFor_44 : decode cX7_fineFor 44 = .ok (.aload_n 0, 1) := by decide +kernel
theorem dX7_fineFor_45 : decode cX7_fineFor 45 = .ok (.getfield 9, 3) := by decide +kernel
theorem dX7_fineFor_48 : decode cX7_fineFor 48 = .ok (.invokevirtual 79, 3) := by decide +kernel
theorem dX7_fineFor_51 : decode cX7_fineFor 51 = .ok (.invokestatic 85, 3) := by decide +kernel
theorem dX7_fineFor_54 : decode cX7_fineFor 54 = .ok (.invokestatic 90, 3) := by decide +kernel
theorem dX7_fineFor_57 : decode cX7_fineFor 57 = .ok (.ireturn, 1) := by decide +kernel
theorem dX7_setVars_0 : decode cX7_setVars 0 = .ok (.aload_n 0, 1) := by decide +kernel
theorem dX7_setVars_1 : decode cX7_setVars 1 = .ok (.getfield 9, 3) := by decide +kernel
theorem dX7_setVars_4 : decode cX7_setVars 4 = .ok (.iconst 0, 1) := by decide +kernel
theorem dX7_setVars_5 : decode cX7_setVars 5 = .ok (.aload_n 0, 1) := by decide +kernel
theorem dX7_setVars_6 : decode cX7_setVars 6 = .ok (.getfield 19, 3) := by decide +kernel
theorem dX7_setVars_9 : decode cX7_setVars 9 = .ok (.iastore, 1) := by decide +kernel
theorem dX7_setVars_10 : decode cX7_setVars 10 = .ok (.aload_n 0, 1) := by decide +kernel
theorem dX7_setVars_11 : decode cX7_setVars 11 = .ok (.getfield 9, 3) := by decide +kernel
theorem dX7_setVars_14 : decode cX7_setVars 14 = .ok (.iconst 1, 1) := by decide +kernel
theorem dX7_setVars_15 : decode cX7_setVars 15 = .ok (.aload_n 0, 1) := by decide +kernel
theorem dX7_setVars_16 : decode cX7_setVars 16 = .ok (.getfield 25, 3) := by decide +kernel
theorem dX7_setVars_19 : decode cX7_setVars 19 = .ok (.iastore, 1) := by decide +kernel
theorem dX7_setVars_20 : decode cX7_setVars 20 = .ok (.aload_n 0, 1) := by decide +kernel
theorem dX7_setVars_21 : decode cX7_setVars 21 = .ok (.getfield 9, 3) := by decide +kernel
theorem dX7_setVars_24 : decode cX7_setVars 24 = .ok (.iconst 2, 1) := by decide +kernel
theorem dX7_setVars_25 : decode cX7_setVars 25 = .ok (.aload_n 0, 1) := by decide +kernel
theorem dX7_setVars_26 : decode cX7_setVars 26 = .ok (.getfield 28, 3) := by decide +kernel
theorem dX7_setVars_29 : decode cX7_setVars 29 = .ok (.iastore, 1) := by decide +kernel
theorem dX7_setVars_30 : decode cX7_setVars 30 = .ok (.aload_n 0, 1) := by decide +kernel
theorem dX7_setVars_31 : decode cX7_setVars 31 = .ok (.getfield 9, 3) := by decide +kernel
theorem dX7_setVars_34 : decode cX7_setVars 34 = .ok (.iconst 3, 1) := by decide +kernel
theorem dX7_setVars_35 : decode cX7_setVars 35 = .ok (.iload_n 1, 1) := by decide +kernel
theorem dX7_setVars_36 : decode cX7_setVars 36 = .ok (.iastore, 1) := by decide +kernel
theorem dX7_setVars_37 : decode cX7_setVars 37 = .ok (.aload_n 0, 1) := by decide +kernel
theorem dX7_setVars_38 : decode cX7_setVars 38 = .ok (.getfield 9, 3) := by decide +kernel
theorem dX7_setVars_41 : decode cX7_setVars 41 = .ok (.iconst 4, 1) := by decide +kernel
theorem dX7_setVars_42 : decode cX7_setVars 42 = .ok (.aload_n 0, 1) := by decide +kernel
theorem dX7_setVars_43 : decode cX7_setVars 43 = .ok (.getfield 34, 3) := by decide +kernel
theorem dX7_setVars_46 : decode cX7_setVars 46 = .ok (.iastore, 1) := by decide +kernel
theorem dX7_setVars_47 : decode cX7_setVars 47 = .ok (.aload_n 0, 1) := by decide +kernel
theorem dX7_setVars_48 : decode cX7_setVars 48 = .ok (.getfield 9, 3) := by decide +kernel
theorem dX7_setVars_51 : decode cX7_setVars 51 = .ok (.iconst 5, 1) := by decide +kernel
theorem dX7_setVars_52 : decode cX7_setVars 52 = .ok (.iload_n 2, 1) := by decide +kernel
theorem dX7_setVars_53 : decode cX7_setVars 53 = .ok (.iastore, 1) := by decide +kernel
theorem dX7_setVars_54 : decode cX7_setVars 54 = .ok (.aload_n 0, 1) := by decide +kernel
theorem dX7_setVars_55 : decode cX7_setVars 55 = .ok (.getfield 9, 3) := by decide +kernel
theorem dX7_setVars_58 : decode cX7_setVars 58 = .ok (.bipush 6, 2) := by decide +kernel
theorem dX7_setVars_60 : decode cX7_setVars 60 = .ok (.iload_n 3, 1) := by decide +kernel
theorem dX7_setVars_61 : decode cX7_setVars 61 = .ok (.iastore, 1) := by decide +kernel
theorem dX7_setVars_62 : decode cX7_setVars 62 = .ok (.aload_n 0, 1) := by decide +kernel
theorem dX7_setVars_63 : decode cX7_setVars 63 = .ok (.getfield 9, 3) := by decide +kernel
theorem dX7_setVars_66 : decode cX7_setVars 66 = .ok (.bipush 7, 2) := by decide +kernel
theorem dX7_setVars_68 : decode cX7_setVars 68 = .ok (.iload 4, 2) := by decide +kernel
theorem dX7_setVars_70 : decode cX7_setVars 70 = .ok (.iastore, 1) := by decide +kernel
theorem dX7_setVars_71 : decode cX7_setVars 71 = .ok (.aload_n 0, 1) := by decide +kernel
theorem dX7_setVars_72 : decode cX7_setVars 72 = .ok (.getfield 9, 3) := by decide +kernel
theorem dX7_setVars_75 : decode cX7_setVars 75 = .ok (.bipush 8, 2) := by decide +kernel
theorem dX7_setVars_77 : decode cX7_setVars 77 = .ok (.aload_n 0, 1) := by decide +kernel
theorem dX7_setVars_78 : decode cX7_setVars 78 = .ok (.getfield 37, 3) := by decide +kernel
theorem dX7_setVars_81 : decode cX7_setVars 81 = .ok (.iastore, 1) := by decide +kernel
theorem dX7_setVars_82 : decode cX7_setVars 82 = .ok (.return_, 1) := by decide +kernel
theorem dX8_init_0 : decode cX8_init 0 = .ok (.aload_n 0, 1) := by decide +kernel
theorem dX8_init_1 : decode cX8_init 1 = .ok (.invokespecial 5, 3) := by decide +kernel
theorem dX8_init_4 : decode cX8_init 4 = .ok (.aload_n 0, 1) := by decide +kernel
theorem dX8_init_5 : decode cX8_init 5 = .ok (.bipush 77, 2) := by decide +kernel
theorem dX8_init_7 : decode cX8_init 7 = .ok (.newarray .int, 2) := by decide +kernel
theorem dX8_init_9 : decode cX8_init 9 = .ok (.putfield 11, 3) := by decide +kernel
theorem dX8_init_12 : decode cX8_init 12 = .ok (.return_, 1) := by decide +kernel
theorem dX8_begin_0 : decode cX8_begin 0 = .ok (.iconst 0, 1) := by decide +kernel
theorem dX8_begin_1 : decode cX8_begin 1 = .ok (.istore_n 2, 1) := by decide +kernel
theorem dX8_begin_2 : decode cX8_begin 2 = .ok (.iload_n 2, 1) := by decide +kernel
theorem dX8_begin_3 : decode cX8_begin 3 = .ok (.bipush 7, 2) := by decide +kernel
theorem dX8_begin_5 : decode cX8_begin 5 = .ok (.if_icmp .ge 70, 3) := by decide +kernel
theorem dX8_begin_8 : decode cX8_begin 8 = .ok (.aload_n 0, 1) := by decide +kernel
theorem dX8_begin_9 : decode cX8_begin 9 = .ok (.iload_n 2, 1) := by decide +kernel
theorem dX8_begin_10 : decode cX8_begin 10 = .ok (.iconst 0, 1) := by decide +kernel
theorem dX8_begin_11 : decode cX8_begin 11 = .ok (.aload_n 1, 1) := by decide +kernel
theorem dX8_begin_12 : decode cX8_begin 12 = .ok (.iload_n 2, 1) := by decide +kernel
theorem dX8_begin_13 : decode cX8_begin 13 = .ok (.iconst 0, 1) := by decide +kernel
theorem dX8_begin_14 : decode cX8_begin 14 = .ok (.invokevirtual 17, 3) := by decide +kernel
theorem dX8_begin_17 : decode cX8_begin 17 = .ok (.invokevirtual 21, 3) := by decide +kernel
theorem dX8_begin_20 : decode cX8_begin 20 = .ok (.aload_n 0, 1) := by decide +kernel
theorem dX8_begin_21 : decode cX8_begin 21 = .ok (.iload_n 2, 1) := by decide +kernel
theorem dX8_begin_22 : decode cX8_begin 22 = .ok (.iconst 1, 1) := by decide +kernel
theorem dX8_begin_23 : decode cX8_begin 23 = .ok (.bipush (-2), 2) := by decide +kernel
theorem dX8_begin_25 : decode cX8_begin 25 = .ok (.invokevirtual 21, 3) := by decide +kernel
theorem dX8_begin_28 : decode cX8_begin 28 = .ok (.aload_n 0, 1) := by decide +kernel
theorem dX8_begin_29 : decode cX8_begin 29 = .ok (.iload_n 2, 1) := by decide +kernel
theorem dX8_begin_30 : decode cX8_begin 30 = .ok (.iconst 2, 1) := by decide +kernel
theorem dX8_begin_31 : decode cX8_begin 31 = .ok (.aload_n 1, 1) := by decide +kernel
theorem dX8_begin_32 : decode cX8_begin 32 = .ok (.iload_n 2, 1) := by decide +kernel
theorem dX8_begin_33 : decode cX8_begin 33 = .ok (.iconst 3, 1) := by decide +kernel
theorem dX8_begin_34 : decode cX8_begin 34 = .ok (.invokevirtual 17, 3) := by decide +kernel
theorem dX8_begin_37 : decode cX8_begin 37 = .ok (.invokevirtual 21, 3) := by decide +kernel
theorem dX8_begin_40 : decode cX8_begin 40 = .ok (.aload_n 0, 1) := by decide +kernel
theorem dX8_begin_41 : decode cX8_begin 41 = .ok (.iload_n 2, 1) := by decide +kernel
theorem dX8_begin_42 : decode cX8_begin 42 = .ok (.iconst 5, 1) := by decide +kernel
theorem dX8_begin_43 : decode cX8_begin 43 = .ok (.iconst 0, 1) := by decide +kernel
theorem dX8_begin_44 : decode cX8_begin 44 = .ok (.invokevirtual 21, 3) := by decide +kernel
theorem dX8_begin_47 : decode cX8_begin 47 = .ok (.aload_n 0, 1) := by decide +kernel
theorem dX8_begin_48 : decode cX8_begin 48 = .ok (.iload_n 2, 1) := by decide +kernel
theorem dX8_begin_49 : decode cX8_begin 49 = .ok (.bipush 6, 2) := by decide +kernel
theorem dX8_begin_51 : decode cX8_begin 51 = .ok (.bipush (-2), 2) := by decide +kernel
theorem dX8_begin_53 : decode cX8_begin 53 = .ok (.invokevirtual 21, 3) := by decide +kernel
theorem dX8_begin_56 : decode cX8_begin 56 = .ok (.aload_n 0, 1) := by decide +kernel
theorem dX8_begin_57 : decode cX8_begin 57 = .ok (.iload_n 2, 1) := by decide +kernel
theorem dX8_begin_58 : decode cX8_begin 58 = .ok (.bipush 9, 2) := by decide +kernel
theorem dX8_begin_60 : decode cX8_begin 60 = .ok (.iconst 0, 1) := by decide +kernel
theorem dX8_begin_61 : decode cX8_begin 61 = .ok (.invokevirtual 21, 3) := by decide +kernel
theorem dX8_begin_64 : decode cX8_begin 64 = .ok (.aload_n 0, 1) := by decide +kernel
theorem dX8_begin_65 : decode cX8_begin 65 = .ok (.iload_n 2, 1) := by decide +kernel
theorem dX8_begin_66 : decode cX8_begin 66 = .ok (.invokevirtual 25, 3) := by decide +kernel
theorem dX8_begin_69 : decode cX8_begin 69 = .ok (.iinc 2 1, 3) := by decide +kernel
theorem dX8_begin_72 : decode cX8_begin 72 = .ok (.goto (-70), 3) := by decide +kernel
theorem dX8_begin_75 : decode cX8_begin 75 = .ok (.iconst 0, 1) := by decide +kernel
theorem dX8_begin_76 : decode cX8_begin 76 = .ok (.istore_n 2, 1) := by decide +kernel
theorem dX8_begin_77 : decode cX8_begin 77 = .ok (.iload_n 2, 1) := by decide +kernel
theorem dX8_begin_78 : decode cX8_begin 78 = .ok (.iconst 5, 1) := by decide +kernel
theorem dX8_begin_79 : decode cX8_begin 79 = .ok (.if_icmp .ge 20, 3) := by decide +kernel
theorem dX8_begin_82 : decode cX8_begin 82 = .ok (.aload_n 0, 1) := by decide +kernel
theorem dX8_begin_83 : decode cX8_begin 83 = .ok (.getfield 11, 3) := by decide +kernel
theorem dX8_begin_86 : decode cX8_begin 86 = .ok (.bipush 70, 2) := by decide +kernel
theorem dX8_begin_88 : decode cX8_begin 88 = .ok (.iload_n 2, 1) := by decide +kernel
theorem dX8_begin_89 : decode cX8_begin 89 = .ok (.iadd, 1) := by decide +kernel
theorem dX8_begin_90 : decode cX8_begin 90 = .ok (.bipush (-2), 2) := by decide +kernel
theorem dX8_begin_92 : decode cX8_begin 92 = .ok (.iastore, 1) := by decide +kernel
theorem dX8_begin_93 : decode cX8_begin 93 = .ok (.iinc 2 1, 3) := by decide +kernel
theorem dX8_begin_96 : decode cX8_begin 96 = .ok (.goto (-19), 3) := by decide +kernel
theorem dX8_begin_99 : decode cX8_begin 99 = .ok (.aload_n 0, 1) := by decide +kernel
theorem dX8_begin_100 : decode cX8_begin 100 = .ok (.getfield 11, 3) := by decide +kernel
theorem dX8_begin_103 : decode cX8_begin 103 = .ok (.bipush 75, 2) := by decide +kernel
theorem dX8_begin_105 : decode cX8_begin 105 = .ok (.iconst 0, 1) := by decide +kernel
theorem dX8_begin_106 : decode cX8_begin 106 = .ok (.iastore, 1) := by decide +kernel
theorem dX8_begin_107 : decode cX8_begin 107 = .ok (.aload_n 0, 1) := by decide +kernel
theorem dX8_begin_108 : decode cX8_begin 108 = .ok (.getfield 11, 3) := by decide +kernel
theorem dX8_begin_111 : decode cX8_begin 111 = .ok (.bipush 76, 2) := by decide +kernel
theorem dX8_begin_113 : decode cX8_begin 113 = .ok (.iconst 0, 1) := by decide +kernel
theorem dX8_begin_114 : decode cX8_begin 114 = .ok (.iastore, 1) := by decide +kernel
theorem dX8_begin_115 : decode cX8_begin 115 = .ok (.return_, 1) := by decide +kernel
theorem dX8_get_0 : decode cX8_get 0 = .ok (.aload_n 0, 1) := by decide +kernel
theorem dX8_get_1 : decode cX8_get 1 = .ok (.getfield 11, 3) := by decide +kernel
theorem dX8_get_4 : decode cX8_get 4 = .ok (.iload_n 1, 1) := by decide +kernel
theorem dX8_get_5 : decode cX8_get 5 = .ok (.bipush 10, 2) := by decide +kernel
theorem dX8_get_7 : decode cX8_get 7 = .ok (.imul, 1) := by decide +kernel
theorem dX8_get_8 : decode cX8_get 8 = .ok (.iload_n 2, 1) := by decide +kernel
theorem dX8_get_9 : decode cX8_get 9 = .ok (.iadd, 1) := by decide +kernel
theorem dX8_get_10 : decode cX8_get 10 = .ok (.iaload, 1) := by decide +kernel
theorem dX8_get_11 : decode cX8_get 11 = .ok (.ireturn, 1) := by decide +kernel
theorem dX8_set_0 : decode cX8_set 0 = .ok (.aload_n 0, 1) := by decide +kernel
theorem dX8_set_1 : decode cX8_set 1 = .ok (.getfield 11, 3) := by decide +kernel
theorem dX8_set_4 : decode cX8_set 4 = .ok (.iload_n 1, 1) := by decide +kernel
theorem dX8_set_5 : decode cX8_set 5 = .ok (.bipush 10, 2) := by decide +kernel
theorem dX8_set_7 : decode cX8_set 7 = .ok (.imul, 1) := by decide +kernel
theorem dX8_set_8 : decode cX8_set 8 = .ok (.iload_n 2, 1) := by decide +kernel
theorem dX8_set_9 : decode cX8_set 9 = .ok (.iadd, 1) := by decide +kernel
theorem dX8_set_10 : decode cX8_set 10 = .ok (.iload_n 3, 1) := by decide +kernel
theorem dX8_set_11 : decode cX8_set 11 = .ok (.iastore, 1) := by decide +kernel
theorem dX8_set_12 : decode cX8_set 12 = .ok (.return_, 1) := by decide +kernel
theorem dX8_hush_0 : decode cX8_hush 0 = .ok (.aload_n 0, 1) := by decide +kernel
theorem dX8_hush_1 : decode cX8_hush 1 = .ok (.iload_n 1, 1) := by decide +kernel
theorem dX8_hush_2 : decode cX8_hush 2 = .ok (.iconst 3, 1) := by decide +kernel
theorem dX8_hush_3 : decode cX8_hush 3 = .ok (.bipush (-2), 2) := by decide +kernel
theorem dX8_hush_5 : decode cX8_hush 5 = .ok (.invokevirtual 21, 3) := by decide +kernel
theorem dX8_hush_8 : decode cX8_hush 8 = .ok (.aload_n 0, 1) := by decide +kernel
theorem dX8_hush_9 : decode cX8_hush 9 = .ok (.iload_n 1, 1) := by decide +kernel
theorem dX8_hush_10 : decode cX8_hush 10 = .ok (.iconst 4, 1) := by decide +kernel
theorem dX8_hush_11 : decode cX8_hush 11 = .ok (.bipush (-2), 2) := by decide +kernel
theorem dX8_hush_13 : decode cX8_hush 13 = .ok (.invokevirtual 21, 3) := by decide +kernel
theorem dX8_hush_16 : decode cX8_hush 16 = .ok (.aload_n 0, 1) := by decide +kernel
theorem dX8_hush_17 : decode cX8_hush 17 = .ok (.iload_n 1, 1) := by decide +kernel
theorem dX8_hush_18 : decode cX8_hush 18 = .ok (.bipush 7, 2) := by decide +kernel
theorem dX8_hush_20 : decode cX8_hush 20 = .ok (.bipush (-2), 2) := by decide +kernel
theorem dX8_hush_22 : decode cX8_hush 22 = .ok (.invokevirtual 21, 3) := by decide +kernel
theorem dX8_hush_25 : decode cX8_hush 25 = .ok (.aload_n 0, 1) := by decide +kernel
theorem dX8_hush_26 : decode cX8_hush 26 = .ok (.iload_n 1, 1) := by decide +kernel
theorem dX8_hush_27 : decode cX8_hush 27 = .ok (.bipush 8, 2) := by decide +kernel
theorem dX8_hush_29 : decode cX8_hush 29 = .ok (.iconst (-1), 1) := by decide +kernel
theorem dX8_hush_30 : decode cX8_hush 30 = .ok (.invokevirtual 21, 3) := by decide +kernel
theorem dX8_hush_33 : decode cX8_hush 33 = .ok (.return_, 1) := by decide +kernel
theorem dX8_isSworn_0 : decode cX8_isSworn 0 = .ok (.aload_n 0, 1) := by decide +kernel
theorem dX8_isSworn_1 : decode cX8_isSworn 1 = .ok (.iload_n 1, 1) := by decide +kernel
theorem dX8_isSworn_2 : decode cX8_isSworn 2 = .ok (.iconst 1, 1) := by decide +kernel
theorem dX8_isSworn_3 : decode cX8_isSworn 3 = .ok (.invokevirtual 29, 3) := by decide +kernel
theorem dX8_isSworn_6 : decode cX8_isSworn 6 = .ok (.bipush (-2), 2) := by decide +kernel
theorem dX8_isSworn_8 : decode cX8_isSworn 8 = .ok (.if_icmp .eq 7, 3) := by decide +kernel
theorem dX8_isSworn_11 : decode cX8_isSworn 11 = .ok (.iconst 1, 1) := by decide +kernel
theorem dX8_isSworn_12 : decode cX8_isSworn 12 = .ok (.goto 4, 3) := by decide +kernel
theorem dX8_isSworn_15 : decode cX8_isSworn 15 = .ok (.iconst 0, 1) := by decide +kernel
theorem dX8_isSworn_16 : decode cX8_isSworn 16 = .ok (.ireturn, 1) := by decide +kernel
theorem dX8_pleadsFor_0 : decode cX8_pleadsFor 0 = .ok (.aload_n 0, 1) := by decide +kernel
theorem dX8_pleadsFor_1 : decode cX8_pleadsFor 1 = .ok (.iload_n 1, 1) := by decide +kernel
theorem dX8_pleadsFor_2 : decode cX8_pleadsFor 2 = .ok (.iconst 1, 1) := by decide +kernel
theorem dX8_pleadsFor_3 : decode cX8_pleadsFor 3 = .ok (.invokevirtual 29, 3) := by decide +kernel
theorem dX8_pleadsFor_6 : decode cX8_pleadsFor 6 = .ok (.istore_n 3, 1) := by decide +kernel
theorem dX8_pleadsFor_7 : decode cX8_pleadsFor 7 = .ok (.iload_n 3, 1) := by decide +kernel
theorem dX8_pleadsFor_8 : decode cX8_pleadsFor 8 = .ok (.bipush (-2), 2) := by decide +kernel
theorem dX8_pleadsFor_10 : decode cX8_pleadsFor 10 = .ok (.if_icmp .ne 16, 3) := by decide +kernel
theorem dX8_pleadsFor_13 : decode cX8_pleadsFor 13 = .ok (.aload_n 0, 1) := by decide +kernel
theorem dX8_pleadsFor_14 : decode cX8_pleadsFor 14 = .ok (.iload_n 1, 1) := by decide +kernel
theorem dX8_pleadsFor_15 : decode cX8_pleadsFor 15 = .ok (.iconst 0, 1) := by decide +kernel
theorem dX8_pleadsFor_16 : decode cX8_pleadsFor 16 = .ok (.invokevirtual 29, 3) := by decide +kernel
theorem dX8_pleadsFor_19 : decode cX8_pleadsFor 19 = .ok (.iload_n 2, 1) := by decide +kernel
theorem dX8_pleadsFor_20 : decode cX8_pleadsFor 20 = .ok (.invokestatic 32, 3) := by decide +kernel
theorem dX8_pleadsFor_23 : decode cX8_pleadsFor 23 = .ok (.goto 4, 3) := by decide +kernel
theorem dX8_pleadsFor_26 : decode cX8_pleadsFor 26 = .ok (.iload_n 3, 1) := by decide +kernel
theorem dX8_pleadsFor_27 : decode cX8_pleadsFor 27 = .ok (.ireturn, 1) := by decide +kernel
theorem dX8_behind_0 : decode cX8_behind 0 = .ok (.iload_n 0, 1) := by decide +kernel
theorem dX8_behind_1 : decode cX8_behind 1 = .ok (.iconst 1, 1) := by decide +kernel
theorem dX8_behind_2 : decode cX8_behind 2 = .ok (.iadd, 1) := by decide +kernel
theorem dX8_behind_3 : decode cX8_behind 3 = .ok (.iload_n 1, 1) := by decide +kernel
theorem dX8_behind_4 : decode cX8_behind 4 = .ok (.if_icmp .ge 9, 3) := by decide +kernel
theorem dX8_behind_7 : decode cX8_behind 7 = .ok (.iload_n 0, 1) := by decide +kernel
theorem dX8_behind_8 : decode cX8_behind 8 = .ok (.iconst 1, 1) := by decide +kernel
theorem dX8_behind_9 : decode cX8_behind 9 = .ok (.iadd, 1) := by decide +kernel
theorem dX8_behind_10 : decode cX8_behind 10 = .ok (.goto 4, 3) := by decide +kernel
theorem dX8_behind_13 : decode cX8_behind 13 = .ok (.iconst 0, 1) := by decide +kernel
theorem dX8_behind_14 : decode cX8_behind 14 = .ok (.ireturn, 1) := by decide +kernel
theorem dX8_pay_0 : decode cX8_pay 0 = .ok (.aload_n 0, 1) := by decide +kernel
theorem dX8_pay_1 : decode cX8_pay 1 = .ok (.iload_n 1, 1) := by decide +kernel
theorem dX8_pay_2 : decode cX8_pay 2 = .ok (.iconst 2, 1) := by decide +kernel
theorem dX8_pay_3 : decode cX8_pay 3 = .ok (.aload_n 0, 1) := by decide +kernel
theorem dX8_pay_4 : decode cX8_pay 4 = .ok (.iload_n 1, 1) := by decide +kernel
theorem dX8_pay_5 : decode cX8_pay 5 = .ok (.iconst 2, 1) := by decide +kernel
theorem dX8_pay_6 : decode cX8_pay 6 = .ok (.invokevirtual 29, 3) := by decide +kernel
theorem dX8_pay_9 : decode cX8_pay 9 = .ok (.iload_n 2, 1) := by decide +kernel
theorem dX8_pay_10 : decode cX8_pay 10 = .ok (.isub, 1) := by decide +kernel
theorem dX8_pay_11 : decode cX8_pay 11 = .ok (.invokevirtual 21, 3) := by decide +kernel
theorem dX8_pay_14 : decode cX8_pay 14 = .ok (.aload_n 0, 1) := by decide +kernel
theorem dX8_pay_15 : decode cX8_pay 15 = .ok (.getfield 11, 3) := by decide +kernel
theorem dX8_pay_18 : decode cX8_pay 18 = .ok (.bipush 76, 2) := by decide +kernel
theorem dX8_pay_20 : decode cX8_pay 20 = .ok (.dup2, 1) := by decide +kernel
theorem dX8_pay_21 : decode cX8_pay 21 = .ok (.iaload, 1) := by decide +kernel
theorem dX8_pay_22 : decode cX8_pay 22 = .ok (.iload_n 2, 1) := by decide +kernel
theorem dX8_pay_23 : decode cX8_pay 23 = .ok (.iadd, 1) := by decide +kernel
theorem dX8_pay_24 : decode cX8_pay 24 = .ok (.iastore, 1) := by decide +kernel
theorem dX8_pay_25 : decode cX8_pay 25 = .ok (.return_, 1) := by decide +kernel
theorem dX8_paid_0 : decode cX8_paid 0 = .ok (.aload_n 0, 1) := by decide +kernel
theorem dX8_paid_1 : decode cX8_paid 1 = .ok (.getfield 11, 3) := by decide +kernel
theorem dX8_paid_4 : decode cX8_paid 4 = .ok (.bipush 76, 2) := by decide +kernel
theorem dX8_paid_6 : decode cX8_paid 6 = .ok (.iaload, 1) := by decide +kernel
theorem dX8_paid_7 : decode cX8_paid 7 = .ok (.ireturn, 1) := by decide +kernel
theorem dX8_day_0 : decode cX8_day 0 = .ok (.aload_n 0, 1) := by decide +kernel
theorem dX8_day_1 : decode cX8_day 1 = .ok (.getfield 11, 3) := by decide +kernel
theorem dX8_day_4 : decode cX8_day 4 = .ok (.bipush 75, 2) := by decide +kernel
theorem dX8_day_6 : decode cX8_day 6 = .ok (.iaload, 1) := by decide +kernel
theorem dX8_day_7 : decode cX8_day 7 = .ok (.ireturn, 1) := by decide +kernel
theorem dX8_fellTo_0 : decode cX8_fellTo 0 = .ok (.aload_n 0, 1) := by decide +kernel
theorem dX8_fellTo_1 : decode cX8_fellTo 1 = .ok (.getfield 11, 3) := by decide +kernel
theorem dX8_fellTo_4 : decode cX8_fellTo 4 = .ok (.bipush 70, 2) := by decide +kernel
theorem dX8_fellTo_6 : decode cX8_fellTo 6 = .ok (.iload_n 1, 1) := by decide +kernel
theorem dX8_fellTo_7 : decode cX8_fellTo 7 = .ok (.iadd, 1) := by decide +kernel
theorem dX8_fellTo_8 : decode cX8_fellTo 8 = .ok (.iaload, 1) := by decide +kernel
theorem dX8_fellTo_9 : decode cX8_fellTo 9 = .ok (.ireturn, 1) := by decide +kernel
theorem dX8_fall_0 : decode cX8_fall 0 = .ok (.aload_n 0, 1) := by decide +kernel
theorem dX8_fall_1 : decode cX8_fall 1 = .ok (.getfield 11, 3) := by decide +kernel
theorem dX8_fall_4 : decode cX8_fall 4 = .ok (.bipush 70, 2) := by decide +kernel
theorem dX8_fall_6 : decode cX8_fall 6 = .ok (.iload_n 1, 1) := by decide +kernel
theorem dX8_fall_7 : decode cX8_fall 7 = .ok (.iadd, 1) := by decide +kernel
theorem dX8_fall_8 : decode cX8_fall 8 = .ok (.iload_n 2, 1) := by decide +kernel
theorem dX8_fall_9 : decode cX8_fall 9 = .ok (.iastore, 1) := by decide +kernel
theorem dX8_fall_10 : decode cX8_fall 10 = .ok (.aload_n 0, 1) := by decide +kernel
theorem dX8_fall_11 : decode cX8_fall 11 = .ok (.getfield 11, 3) := by decide +kernel
theorem dX8_fall_14 : decode cX8_fall 14 = .ok (.bipush 75, 2) := by decide +kernel
theorem dX8_fall_16 : decode cX8_fall 16 = .ok (.dup2, 1) := by decide +kernel
theorem dX8_fall_17 : decode cX8_fall 17 = .ok (.iaload, 1) := by decide +kernel
theorem dX8_fall_18 : decode cX8_fall 18 = .ok (.iconst 1, 1) := by decide +kernel
theorem dX8_fall_19 : decode cX8_fall 19 = .ok (.iadd, 1) := by decide +kernel
theorem dX8_fall_20 : decode cX8_fall 20 = .ok (.iastore, 1) := by decide +kernel
theorem dX8_fall_21 : decode cX8_fall 21 = .ok (.return_, 1) := by decide +kernel
theorem dX9_part_0 : decode cX9_part 0 = .ok (.sipush 4096, 3) := by decide +kernel
theorem dX9_part_3 : decode cX9_part 3 = .ok (.iload_n 1, 1) := by decide +kernel
theorem dX9_part_4 : decode cX9_part 4 = .ok (.iadd, 1) := by decide +kernel
theorem dX9_part_5 : decode cX9_part 5 = .ok (.i2l, 1) := by decide +kernel
theorem dX9_part_6 : decode cX9_part 6 = .ok (.bipush 16, 2) := by decide +kernel
theorem dX9_part_8 : decode cX9_part 8 = .ok (.iload_n 0, 1) := by decide +kernel
theorem dX9_part_9 : decode cX9_part 9 = .ok (.imul, 1) := by decide +kernel
theorem dX9_part_10 : decode cX9_part 10 = .ok (.lshl, 1) := by decide +kernel
theorem dX9_part_11 : decode cX9_part 11 = .ok (.lreturn, 1) := by decide +kernel
theorem dX9_total_0 : decode cX9_total 0 = .ok (.lload_n 0, 1) := by decide +kernel
theorem dX9_total_1 : decode cX9_total 1 = .ok (.bipush 16, 2) := by decide +kernel
theorem dX9_total_3 : decode cX9_total 3 = .ok (.iload_n 2, 1) := by decide +kernel
theorem dX9_total_4 : decode cX9_total 4 = .ok (.imul, 1) := by decide +kernel
theorem dX9_total_5 : decode cX9_total 5 = .ok (.lushr, 1) := by decide +kernel
theorem dX9_total_6 : decode cX9_total 6 = .ok (.l2i, 1) := by decide +kernel
theorem dX9_total_7 : decode cX9_total 7 = .ok (.sipush 4095, 3) := by decide +kernel
theorem dX9_total_10 : decode cX9_total 10 = .ok (.iand, 1) := by decide +kernel
theorem dX9_total_11 : decode cX9_total 11 = .ok (.ireturn, 1) := by decide +kernel
theorem dX9_speeches_0 : decode cX9_speeches 0 = .ok (.lload_n 0, 1) := by decide +kernel
theorem dX9_speeches_1 : decode cX9_speeches 1 = .ok (.bipush 16, 2) := by decide +kernel
theorem dX9_speeches_3 : decode cX9_speeches 3 = .ok (.iload_n 2, 1) := by decide +kernel
theorem dX9_speeches_4 : decode cX9_speeches 4 = .ok (.imul, 1) := by decide +kernel
theorem dX9_speeches_5 : decode cX9_speeches 5 = .ok (.bipush 12, 2) := by decide +kernel
theorem dX9_speeches_7 : decode cX9_speeches 7 = .ok (.iadd, 1) := by decide +kernel
theorem dX9_speeches_8 : decode cX9_speeches 8 = .ok (.lushr, 1) := by decide +kernel
theorem dX9_speeches_9 : decode cX9_speeches 9 = .ok (.l2i, 1) := by decide +kernel
theorem dX9_speeches_10 : decode cX9_speeches 10 = .ok (.bipush 15, 2) := by decide +kernel
theorem dX9_speeches_12 : decode cX9_speeches 12 = .ok (.iand, 1) := by decide +kernel
theorem dX9_speeches_13 : decode cX9_speeches 13 = .ok (.ireturn, 1) := by decide +kernel
theorem dX9_winner_0 : decode cX9_winner 0 = .ok (.lload_n 0, 1) := by decide +kernel
theorem dX9_winner_1 : decode cX9_winner 1 = .ok (.iconst (-1), 1) := by decide +kernel
theorem dX9_winner_2 : decode cX9_winner 2 = .ok (.invokestatic 11, 3) := by decide +kernel
theorem dX9_winner_5 : decode cX9_winner 5 = .ok (.ireturn, 1) := by decide +kernel
theorem dX9_greatestBut_0 : decode cX9_greatestBut 0 = .ok (.bipush (-2), 2) := by decide +kernel
theorem dX9_greatestBut_2 : decode cX9_greatestBut 2 = .ok (.istore_n 3, 1) := by decide +kernel
theorem dX9_greatestBut_3 : decode cX9_greatestBut 3 = .ok (.iconst 0, 1) := by decide +kernel
theorem dX9_greatestBut_4 : decode cX9_greatestBut 4 = .ok (.istore 4, 2) := by decide +kernel
theorem dX9_greatestBut_6 : decode cX9_greatestBut 6 = .ok (.iconst 1, 1) := by decide +kernel
theorem dX9_greatestBut_7 : decode cX9_greatestBut 7 = .ok (.istore 5, 2) := by decide +kernel
theorem dX9_greatestBut_9 : decode cX9_greatestBut 9 = .ok (.iconst 0, 1) := by decide +kernel
theorem dX9_greatestBut_10 : decode cX9_greatestBut 10 = .ok (.istore 6, 2) := by decide +kernel
theorem dX9_greatestBut_12 : decode cX9_greatestBut 12 = .ok (.iload 6, 2) := by decide +kernel
theorem dX9_greatestBut_14 : decode cX9_greatestBut 14 = .ok (.iconst 3, 1) := by decide +kernel
theorem dX9_greatestBut_15 : decode cX9_greatestBut 15 = .ok (.if_icmp .ge 67, 3) := by decide +kernel
theorem dX9_greatestBut_18 : decode cX9_greatestBut 18 = .ok (.lload_n 0, 1) := by decide +kernel
theorem dX9_greatestBut_19 : decode cX9_greatestBut 19 = .ok (.bipush 16, 2) := by decide +kernel
theorem dX9_greatestBut_21 : decode cX9_greatestBut 21 = .ok (.iload 6, 2) := by decide +kernel
theorem dX9_greatestBut_23 : decode cX9_greatestBut 23 = .ok (.imul, 1) := by decide +kernel
theorem dX9_greatestBut_24 : decode cX9_greatestBut 24 = .ok (.lushr, 1) := by decide +kernel
theorem dX9_greatestBut_25 : decode cX9_greatestBut 25 = .ok (.l2i, 1) := by decide +kernel
theorem dX9_greatestBut_26 : decode cX9_greatestBut 26 = .ok (.istore 7, 2) := by decide +kernel
theorem dX9_greatestBut_28 : decode cX9_greatestBut 28 = .ok (.iload 7, 2) := by decide +kernel
theorem dX9_greatestBut_30 : decode cX9_greatestBut 30 = .ok (.sipush 4095, 3) := by decide +kernel
theorem dX9_greatestBut_33 : decode cX9_greatestBut 33 = .ok (.iand, 1) := by decide +kernel
theorem dX9_greatestBut_34 : decode cX9_greatestBut 34 = .ok (.istore 8, 2) := by decide +kernel
theorem dX9_greatestBut_36 : decode cX9_greatestBut 36 = .ok (.iload 7, 2) := by decide +kernel
theorem dX9_greatestBut_38 : decode cX9_greatestBut 38 = .ok (.bipush 12, 2) := by decide +kernel
theorem dX9_greatestBut_40 : decode cX9_greatestBut 40 = .ok (.iushr, 1) := by decide +kernel
theorem dX9_greatestBut_41 : decode cX9_greatestBut 41 = .ok (.bipush 15, 2) := by decide +kernel
theorem dX9_greatestBut_43 : decode cX9_greatestBut 43 = .ok (.iand, 1) := by decide +kernel
theorem dX9_greatestBut_44 : decode cX9_greatestBut 44 = .ok (.istore 9, 2) := by decide +kernel
theorem dX9_greatestBut_46 : decode cX9_greatestBut 46 = .ok (.iload 6, 2) := by decide +kernel
theorem dX9_greatestBut_48 : decode cX9_greatestBut 48 = .ok (.iload_n 2, 1) := by decide +kernel
theorem dX9_greatestBut_49 : decode cX9_greatestBut 49 = .ok (.if_icmp .eq 27, 3) := by decide +kernel
theorem dX9_greatestBut_52 : decode cX9_greatestBut 52 = .ok (.iload 8, 2) := by decide +kernel
theorem dX9_greatestBut_54 : decode cX9_greatestBut 54 = .ok (.iload 5, 2) := by decide +kernel
theorem dX9_greatestBut_56 : decode cX9_greatestBut 56 = .ok (.imul, 1) := by decide +kernel
theorem dX9_greatestBut_57 : decode cX9_greatestBut 57 = .ok (.iload 4, 2) := by decide +kernel
theorem dX9_greatestBut_59 : decode cX9_greatestBut 59 = .ok (.iload 9, 2) := by decide +kernel
theorem dX9_greatestBut_61 : decode cX9_greatestBut 61 = .ok (.imul, 1) := by decide +kernel
theorem dX9_greatestBut_62 : decode cX9_greatestBut 62 = .ok (.if_icmp .le 14, 3) := by decide +kernel
theorem dX9_greatestBut_65 : decode cX9_greatestBut 65 = .ok (.iload 6, 2) := by decide +kernel
theorem dX9_greatestBut_67 : decode cX9_greatestBut 67 = .ok (.istore_n 3, 1) := by decide +kernel
theorem dX9_greatestBut_68 : decode cX9_greatestBut 68 = .ok (.iload 8, 2) := by decide +kernel
theorem dX9_greatestBut_70 : decode cX9_greatestBut 70 = .ok (.istore 4, 2) := by decide +kernel
theorem dX9_greatestBut_72 : decode cX9_greatestBut 72 = .ok (.iload 9, 2) := by decide +kernel
theorem dX9_greatestBut_74 : decode cX9_greatestBut 74 = .ok (.istore 5, 2) := by decide +kernel
theorem dX9_greatestBut_76 : decode cX9_greatestBut 76 = .ok (.iinc 6 1, 3) := by decide +kernel
theorem dX9_greatestBut_79 : decode cX9_greatestBut 79 = .ok (.goto (-67), 3) := by decide +kernel
theorem dX9_greatestBut_82 : decode cX9_greatestBut 82 = .ok (.iload_n 3, 1) := by decide +kernel
theorem dX9_greatestBut_83 : decode cX9_greatestBut 83 = .ok (.ireturn, 1) := by decide +kernel
theorem dX9_over_0 : decode cX9_over 0 = .ok (.lload_n 0, 1) := by decide +kernel
theorem dX9_over_1 : decode cX9_over 1 = .ok (.iload_n 2, 1) := by decide +kernel
theorem dX9_over_2 : decode cX9_over 2 = .ok (.invokestatic 15, 3) := by decide +kernel
theorem dX9_over_5 : decode cX9_over 5 = .ok (.lload_n 0, 1) := by decide +kernel
theorem dX9_over_6 : decode cX9_over 6 = .ok (.iload_n 3, 1) := by decide +kernel
theorem dX9_over_7 : decode cX9_over 7 = .ok (.invokestatic 18, 3) := by decide +kernel
theorem dX9_over_10 : decode cX9_over 10 = .ok (.imul, 1) := by decide +kernel
theorem dX9_over_11 : decode cX9_over 11 = .ok (.lload_n 0, 1) := by decide +kernel
theorem dX9_over_12 : decode cX9_over 12 = .ok (.iload_n 3, 1) := by decide +kernel
theorem dX9_over_13 : decode cX9_over 13 = .ok (.invokestatic 15, 3) := by decide +kernel
theorem dX9_over_16 : decode cX9_over 16 = .ok (.lload_n 0, 1) := by decide +kernel
theorem dX9_over_17 : decode cX9_over 17 = .ok (.iload_n 2, 1) := by decide +kernel
theorem dX9_over_18 : decode cX9_over 18 = .ok (.invokestatic 18, 3) := by decide +kernel
theorem dX9_over_21 : decode cX9_over 21 = .ok (.imul, 1) := by decide +kernel
theorem dX9_over_22 : decode cX9_over 22 = .ok (.isub, 1) := by decide +kernel
theorem dX9_over_23 : decode cX9_over 23 = .ok (.ireturn, 1) := by decide +kernel
theorem dX9_lead_0 : decode cX9_lead 0 = .ok (.lload_n 0, 1) := by decide +kernel
theorem dX9_lead_1 : decode cX9_lead 1 = .ok (.invokestatic 21, 3) := by decide +kernel
theorem dX9_lead_4 : decode cX9_lead 4 = .ok (.istore_n 2, 1) := by decide +kernel
theorem dX9_lead_5 : decode cX9_lead 5 = .ok (.lload_n 0, 1) := by decide +kernel
theorem dX9_lead_6 : decode cX9_lead 6 = .ok (.iload_n 2, 1) := by decide +kernel
theorem dX9_lead_7 : decode cX9_lead 7 = .ok (.invokestatic 11, 3) := by decide +kernel
theorem dX9_lead_10 : decode cX9_lead 10 = .ok (.istore_n 3, 1) := by decide +kernel
theorem dX9_lead_11 : decode cX9_lead 11 = .ok (.iload_n 2, 1) := by decide +kernel
theorem dX9_lead_12 : decode cX9_lead 12 = .ok (.bipush (-2), 2) := by decide +kernel
theorem dX9_lead_14 : decode cX9_lead 14 = .ok (.if_icmp .eq 9, 3) := by decide +kernel
theorem dX9_lead_17 : decode cX9_lead 17 = .ok (.iload_n 3, 1) := by decide +kernel
theorem dX9_lead_18 : decode cX9_lead 18 = .ok (.bipush (-2), 2) := by decide +kernel
theorem dX9_lead_20 : decode cX9_lead 20 = .ok (.if_icmp .ne 8, 3) := by decide +kernel
theorem dX9_lead_23 : decode cX9_lead 23 = .ok (.bipush (-2), 2) := by decide +kernel
theorem dX9_lead_25 : decode cX9_lead 25 = .ok (.goto 9, 3) := by decide +kernel
theorem dX9_lead_28 : decode cX9_lead 28 = .ok (.lload_n 0, 1) := by decide +kernel
theorem dX9_lead_29 : decode cX9_lead 29 = .ok (.iload_n 2, 1) := by decide +kernel
theorem dX9_lead_30 : decode cX9_lead 30 = .ok (.iload_n 3, 1) := by decide +kernel
theorem dX9_lead_31 : decode cX9_lead 31 = .ok (.invokestatic 25, 3) := by decide +kernel
theorem dX9_lead_34 : decode cX9_lead 34 = .ok (.ireturn, 1) := by decide +kernel
theorem dX9_hundredfold_0 : decode cX9_hundredfold 0 = .ok (.lload_n 0, 1) := by decide +kernel
theorem dX9_hundredfold_1 : decode cX9_hundredfold 1 = .ok (.iload_n 2, 1) := by decide +kernel
theorem dX9_hundredfold_2 : decode cX9_hundredfold 2 = .ok (.invokestatic 18, 3) := by decide +kernel
theorem dX9_hundredfold_5 : decode cX9_hundredfold 5 = .ok (.lload_n 0, 1) := by decide +kernel
theorem dX9_hundredfold_6 : decode cX9_hundredfold 6 = .ok (.iload_n 3, 1) := by decide +kernel
theorem dX9_hundredfold_7 : decode cX9_hundredfold 7 = .ok (.invokestatic 18, 3) := by decide +kernel
theorem dX9_hundredfold_10 : decode cX9_hundredfold 10 = .ok (.imul, 1) := by decide +kernel
theorem dX9_hundredfold_11 : decode cX9_hundredfold 11 = .ok (.istore 4, 2) := by decide +kernel
theorem dX9_hundredfold_13 : decode cX9_hundredfold 13 = .ok (.iload 4, 2) := by decide +kernel
theorem dX9_hundredfold_15 : decode cX9_hundredfold 15 = .ok (.ifCond .ne 7, 3) := by decide +kernel
theorem dX9_hundredfold_18 : decode cX9_hundredfold 18 = .ok (.iconst 0, 1) := by decide +kernel
theorem dX9_hundredfold_19 : decode cX9_hundredfold 19 = .ok (.goto 15, 3) := by decide +kernel
theorem dX9_hundredfold_22 : decode cX9_hundredfold 22 = .ok (.bipush 100, 2) := by decide +kernel
theorem dX9_hundredfold_24 : decode cX9_hundredfold 24 = .ok (.lload_n 0, 1) := by decide +kernel
theorem dX9_hundredfold_25 : decode cX9_hundredfold 25 = .ok (.iload_n 2, 1) := by decide +kernel
theorem dX9_hundredfold_26 : decode cX9_hundredfold 26 = .ok (.iload_n 3, 1) := by decide +kernel
theorem dX9_hundredfold_27 : decode cX9_hundredfold 27 = .ok (.invokestatic 29, 3) := by decide +kernel
theorem dX9_hundredfold_30 : decode cX9_hundredfold 30 = .ok (.imul, 1) := by decide +kernel
theorem dX9_hundredfold_31 : decode cX9_hundredfold 31 = .ok (.iload 4, 2) := by decide +kernel
theorem dX9_hundredfold_33 : decode cX9_hundredfold 33 = .ok (.idiv, 1) := by decide +kernel
theorem dX9_hundredfold_34 : decode cX9_hundredfold 34 = .ok (.ireturn, 1) := by decide +kernel
theorem dX9_least_0 : decode cX9_least 0 = .ok (.bipush (-2), 2) := by decide +kernel
theorem dX9_least_2 : decode cX9_least 2 = .ok (.istore_n 2, 1) := by decide +kernel
theorem dX9_least_3 : decode cX9_least 3 = .ok (.iconst 0, 1) := by decide +kernel
theorem dX9_least_4 : decode cX9_least 4 = .ok (.istore_n 3, 1) := by decide +kernel
theorem dX9_least_5 : decode cX9_least 5 = .ok (.iload_n 3, 1) := by decide +kernel
theorem dX9_least_6 : decode cX9_least 6 = .ok (.iconst 3, 1) := by decide +kernel
theorem dX9_least_7 : decode cX9_least 7 = .ok (.if_icmp .ge 34, 3) := by decide +kernel
theorem dX9_least_10 : decode cX9_least 10 = .ok (.lload_n 0, 1) := by decide +kernel
theorem dX9_least_11 : decode cX9_least 11 = .ok (.iload_n 3, 1) := by decide +kernel
theorem dX9_least_12 : decode cX9_least 12 = .ok (.invokestatic 15, 3) := by decide +kernel
theorem dX9_least_15 : decode cX9_least 15 = .ok (.ifCond .le 20, 3) := by decide +kernel
theorem dX9_least_18 : decode cX9_least 18 = .ok (.iload_n 2, 1) := by decide +kernel
theorem dX9_least_19 : decode cX9_least 19 = .ok (.bipush (-2), 2) := by decide +kernel
theorem dX9_least_21 : decode cX9_least 21 = .ok (.if_icmp .eq 12, 3) := by decide +kernel
theorem dX9_least_24 : decode cX9_least 24 = .ok (.lload_n 0, 1) := by decide +kernel
theorem dX9_least_25 : decode cX9_least 25 = .ok (.iload_n 3, 1) := by decide +kernel
theorem dX9_least_26 : decode cX9_least 26 = .ok (.iload_n 2, 1) := by decide +kernel
theorem dX9_least_27 : decode cX9_least 27 = .ok (.invokestatic 29, 3) := by decide +kernel
theorem dX9_least_30 : decode cX9_least 30 = .ok (.ifCond .ge 5, 3) := by decide +kernel
theorem dX9_least_33 : decode cX9_least 33 = .ok (.iload_n 3, 1) := by decide +kernel
theorem dX9_least_34 : decode cX9_least 34 = .ok (.istore_n 2, 1) := by decide +kernel
theorem dX9_least_35 : decode cX9_least 35 = .ok (.iinc 3 1, 3) := by decide +kernel
theorem dX9_least_38 : decode cX9_least 38 = .ok (.goto (-33), 3) := by decide +kernel
theorem dX9_least_41 : decode cX9_least 41 = .ok (.iload_n 2, 1) := by decide +kernel
theorem dX9_least_42 : decode cX9_least 42 = .ok (.ireturn, 1) := by decide +kernel
theorem dX9_apart_0 : decode cX9_apart 0 = .ok (.lload_n 0, 1) := by decide +kernel
theorem dX9_apart_1 : decode cX9_apart 1 = .ok (.invokestatic 21, 3) := by decide +kernel
theorem dX9_apart_4 : decode cX9_apart 4 = .ok (.istore_n 2, 1) := by decide +kernel
theorem dX9_apart_5 : decode cX9_apart 5 = .ok (.lload_n 0, 1) := by decide +kernel
theorem dX9_apart_6 : decode cX9_apart 6 = .ok (.invokestatic 32, 3) := by decide +kernel
theorem dX9_apart_9 : decode cX9_apart 9 = .ok (.istore_n 3, 1) := by decide +kernel
theorem dX9_apart_10 : decode cX9_apart 10 = .ok (.iload_n 2, 1) := by decide +kernel
theorem dX9_apart_11 : decode cX9_apart 11 = .ok (.bipush (-2), 2) := by decide +kernel
theorem dX9_apart_13 : decode cX9_apart 13 = .ok (.if_icmp .eq 9, 3) := by decide +kernel
theorem dX9_apart_16 : decode cX9_apart 16 = .ok (.iload_n 3, 1) := by decide +kernel
theorem dX9_apart_17 : decode cX9_apart 17 = .ok (.bipush (-2), 2) := by decide +kernel
theorem dX9_apart_19 : decode cX9_apart 19 = .ok (.if_icmp .ne 7, 3) := by decide +kernel
theorem dX9_apart_22 : decode cX9_apart 22 = .ok (.iconst 0, 1) := by decide +kernel
theorem dX9_apart_23 : decode cX9_apart 23 = .ok (.goto 9, 3) := by decide +kernel
theorem dX9_apart_26 : decode cX9_apart 26 = .ok (.lload_n 0, 1) := by decide +kernel
theorem dX9_apart_27 : decode cX9_apart 27 = .ok (.iload_n 2, 1) := by decide +kernel
theorem dX9_apart_28 : decode cX9_apart 28 = .ok (.iload_n 3, 1) := by decide +kernel
theorem dX9_apart_29 : decode cX9_apart 29 = .ok (.invokestatic 25, 3) := by decide +kernel
theorem dX9_apart_32 : decode cX9_apart 32 = .ok (.ireturn, 1) := by decide +kernel
theorem dX9_apartExactly_0 : decode cX9_apartExactly 0 = .ok (.lload_n 0, 1) := by decide +kernel
theorem dX9_apartExactly_1 : decode cX9_apartExactly 1 = .ok (.invokestatic 21, 3) := by decide +kernel
theorem dX9_apartExactly_4 : decode cX9_apartExactly 4 = .ok (.istore_n 2, 1) := by decide +kernel
theorem dX9_apartExactly_5 : decode cX9_apartExactly 5 = .ok (.lload_n 0, 1) := by decide +kernel
theorem dX9_apartExactly_6 : decode cX9_apartExactly 6 = .ok (.invokestatic 32, 3) := by decide +kernel
theorem dX9_apartExactly_9 : decode cX9_apartExactly 9 = .ok (.istore_n 3, 1) := by decide +kernel
theorem dX9_apartExactly_10 : decode cX9_apartExactly 10 = .ok (.iload_n 2, 1) := by decide +kernel
theorem dX9_apartExactly_11 : decode cX9_apartExactly 11 = .ok (.bipush (-2), 2) := by decide +kernel
theorem dX9_apartExactly_13 : decode cX9_apartExactly 13 = .ok (.if_icmp .eq 9, 3) := by decide +kernel
theorem dX9_apartExactly_16 : decode cX9_apartExactly 16 = .ok (.iload_n 3, 1) := by decide +kernel
theorem dX9_apartExactly_17 : decode cX9_apartExactly 17 = .ok (.bipush (-2), 2) := by decide +kernel
theorem dX9_apartExactly_19 : decode cX9_apartExactly 19 = .ok (.if_icmp .ne 5, 3) := by decide +kernel
theorem dX9_apartExactly_22 : decode cX9_apartExactly 22 = .ok (.iconst 0, 1) := by decide +kernel
theorem dX9_apartExactly_23 : decode cX9_apartExactly 23 = .ok (.ireturn, 1) := by decide +kernel
theorem dX9_apartExactly_24 : decode cX9_apartExactly 24 = .ok (.lload_n 0, 1) := by decide +kernel
theorem dX9_apartExactly_25 : decode cX9_apartExactly 25 = .ok (.iload_n 2, 1) := by decide +kernel
theorem dX9_apartExactly_26 : decode cX9_apartExactly 26 = .ok (.invokestatic 18, 3) := by decide +kernel
theorem dX9_apartExactly_29 : decode cX9_apartExactly 29 = .ok (.lload_n 0, 1) := by decide +kernel
theorem dX9_apartExactly_30 : decode cX9_apartExactly 30 = .ok (.iload_n 3, 1) := by decide +kernel
theorem dX9_apartExactly_31 : decode cX9_apartExactly 31 = .ok (.invokestatic 18, 3) := by decide +kernel
theorem dX9_apartExactly_34 : decode cX9_apartExactly 34 = .ok (.imul, 1) := by decide +kernel
theorem dX9_apartExactly_35 : decode cX9_apartExactly 35 = .ok (.istore 4, 2) := by decide +kernel
theorem dX9_apartExactly_37 : decode cX9_apartExactly 37 = .ok (.iconst 1, 1) := by decide +kernel
theorem dX9_apartExactly_38 : decode cX9_apartExactly 38 = .ok (.istore 5, 2) := by decide +kernel
theorem dX9_apartExactly_40 : decode cX9_apartExactly 40 = .ok (.iconst 0, 1) := by decide +kernel
theorem dX9_apartExactly_41 : decode cX9_apartExactly 41 = .ok (.istore 6, 2) := by decide +kernel
theorem dX9_apartExactly_43 : decode cX9_apartExactly 43 = .ok (.iload 6, 2) := by decide +kernel
theorem dX9_apartExactly_45 : decode cX9_apartExactly 45 = .ok (.iconst 3, 1) := by decide +kernel
theorem dX9_apartExactly_46 : decode cX9_apartExactly 46 = .ok (.if_icmp .ge 31, 3) := by decide +kernel
theorem dX9_apartExactly_49 : decode cX9_apartExactly 49 = .ok (.iconst 1, 1) := by decide +kernel
theorem dX9_apartExactly_50 : decode cX9_apartExactly 50 = .ok (.lload_n 0, 1) := by decide +kernel
theorem dX9_apartExactly_51 : decode cX9_apartExactly 51 = .ok (.iload 6, 2) := by decide +kernel
theorem dX9_apartExactly_53 : decode cX9_apartExactly 53 = .ok (.invokestatic 18, 3) := by decide +kernel
theorem dX9_apartExactly_56 : decode cX9_apartExactly 56 = .ok (.invokestatic 35, 3) := by decide +kernel
theorem dX9_apartExactly_59 : decode cX9_apartExactly 59 = .ok (.istore 7, 2) := by decide +kernel
theorem dX9_apartExactly_61 : decode cX9_apartExactly 61 = .ok (.iload 5, 2) := by decide +kernel
theorem dX9_apartExactly_63 : decode cX9_apartExactly 63 = .ok (.iload 7, 2) := by decide +kernel
theorem dX9_apartExactly_65 : decode cX9_apartExactly 65 = .ok (.iload 7, 2) := by decide +kernel
theorem dX9_apartExactly_67 : decode cX9_apartExactly 67 = .ok (.imul, 1) := by decide +kernel
theorem dX9_apartExactly_68 : decode cX9_apartExactly 68 = .ok (.imul, 1) := by decide +kernel
theorem dX9_apartExactly_69 : decode cX9_apartExactly 69 = .ok (.istore 5, 2) := by decide +kernel
theorem dX9_apartExactly_71 : decode cX9_apartExactly 71 = .ok (.iinc 6 1, 3) := by decide +kernel
theorem dX9_apartExactly_74 : decode cX9_apartExactly 74 = .ok (.goto (-31), 3) := by decide +kernel
theorem dX9_apartExactly_77 : decode cX9_apartExactly 77 = .ok (.iload 4, 2) := by decide +kernel
theorem dX9_apartExactly_79 : decode cX9_apartExactly 79 = .ok (.ifCond .ne 7, 3) := by decide +kernel
theorem dX9_apartExactly_82 : decode cX9_apartExactly 82 = .ok (.iconst 0, 1) := by decide +kernel
theorem dX9_apartExactly_83 : decode cX9_apartExactly 83 = .ok (.goto 15, 3) := by decide +kernel
theorem dX9_apartExactly_86 : decode cX9_apartExactly 86 = .ok (.lload_n 0, 1) := by decide +kernel
theorem dX9_apartExactly_87 : decode cX9_apartExactly 87 = .ok (.iload_n 2, 1) := by decide +kernel
theorem dX9_apartExactly_88 : decode cX9_apartExactly 88 = .ok (.iload_n 3, 1) := by decide +kernel
theorem dX9_apartExactly_89 : decode cX9_apartExactly 89 = .ok (.invokestatic 29, 3) := by decide +kernel
theorem dX9_apartExactly_92 : decode cX9_apartExactly 92 = .ok (.iload 5, 2) := by decide +kernel
theorem dX9_apartExactly_94 : decode cX9_apartExactly 94 = .ok (.iload 4, 2) := by decide +kernel
theorem dX9_apartExactly_96 : decode cX9_apartExactly 96 = .ok (.idiv, 1) := by decide +kernel
theorem dX9_apartExactly_97 : decode cX9_apartExactly 97 = .ok (.imul, 1) := by decide +kernel
theorem dX9_apartExactly_98 : decode cX9_apartExactly 98 = .ok (.ireturn, 1) := by decide +kernel
theorem dX10_init_0 : decode cX10_init 0 = .ok (.aload_n 0, 1) := by decide +kernel
theorem dX10_init_1 : decode cX10_init 1 = .ok (.invokespecial 3, 3) := by decide +kernel
theorem dX10_init_4 : decode cX10_init 4 = .ok (.aload_n 0, 1) := by decide +kernel
theorem dX10_init_5 : decode cX10_init 5 = .ok (.sipush 400, 3) := by decide +kernel
theorem dX10_init_8 : decode cX10_init 8 = .ok (.newarray .int, 2) := by decide +kernel
theorem dX10_init_10 : decode cX10_init 10 = .ok (.putfield 9, 3) := by decide +kernel
theorem dX10_init_13 : decode cX10_init 13 = .ok (.aload_n 0, 1) := by decide +kernel
theorem dX10_init_14 : decode cX10_init 14 = .ok (.sipush 400, 3) := by decide +kernel
theorem dX10_init_17 : decode cX10_init 17 = .ok (.newarray .long, 2) := by decide +kernel
theorem dX10_init_19 : decode cX10_init 19 = .ok (.putfield 15, 3) := by decide +kernel
theorem dX10_init_22 : decode cX10_init 22 = .ok (.aload_n 0, 1) := by decide +kernel
theorem dX10_init_23 : decode cX10_init 23 = .ok (.sipush 400, 3) := by decide +kernel
theorem dX10_init_26 : decode cX10_init 26 = .ok (.newarray .int, 2) := by decide +kernel
theorem dX10_init_28 : decode cX10_init 28 = .ok (.putfield 19, 3) := by decide +kernel
theorem dX10_init_31 : decode cX10_init 31 = .ok (.aload_n 0, 1) := by decide +kernel
theorem dX10_init_32 : decode cX10_init 32 = .ok (.iconst 0, 1) := by decide +kernel
theorem dX10_init_33 : decode cX10_init 33 = .ok (.putfield 22, 3) := by decide +kernel
theorem dX10_init_36 : decode cX10_init 36 = .ok (.return_, 1) := by decide +kernel
theorem dX10_add_0 : decode cX10_add 0 = .ok (.aload_n 0, 1) := by decide +kernel
theorem dX10_add_1 : decode cX10_add 1 = .ok (.getfield 22, 3) := by decide +kernel
theorem dX10_add_4 : decode cX10_add 4 = .ok (.sipush 400, 3) := by decide +kernel
theorem dX10_add_7 : decode cX10_add 7 = .ok (.if_icmp .ge 44, 3) := by decide +kernel
theorem dX10_add_10 : decode cX10_add 10 = .ok (.aload_n 0, 1) := by decide +kernel
theorem dX10_add_11 : decode cX10_add 11 = .ok (.getfield 9, 3) := by decide +kernel
theorem dX10_add_14 : decode cX10_add 14 = .ok (.aload_n 0, 1) := by decide +kernel
theorem dX10_add_15 : decode cX10_add 15 = .ok (.getfield 22, 3) := by decide +kernel
theorem dX10_add_18 : decode cX10_add 18 = .ok (.iload_n 1, 1) := by decide +kernel
theorem dX10_add_19 : decode cX10_add 19 = .ok (.iastore, 1) := by decide +kernel
theorem dX10_add_20 : decode cX10_add 20 = .ok (.aload_n 0, 1) := by decide +kernel
theorem dX10_add_21 : decode cX10_add 21 = .ok (.getfield 15, 3) := by decide +kernel
theorem dX10_add_24 : decode cX10_add 24 = .ok (.aload_n 0, 1) := by decide +kernel
theorem dX10_add_25 : decode cX10_add 25 = .ok (.getfield 22, 3) := by decide +kernel
theorem dX10_add_28 : decode cX10_add 28 = .ok (.lload_n 2, 1) := by decide +kernel
theorem dX10_add_29 : decode cX10_add 29 = .ok (.lastore, 1) := by decide +kernel
theorem dX10_add_30 : decode cX10_add 30 = .ok (.aload_n 0, 1) := by decide +kernel
theorem dX10_add_31 : decode cX10_add 31 = .ok (.getfield 19, 3) := by decide +kernel
theorem dX10_add_34 : decode cX10_add 34 = .ok (.aload_n 0, 1) := by decide +kernel
theorem dX10_add_35 : decode cX10_add 35 = .ok (.getfield 22, 3) := by decide +kernel
theorem dX10_add_38 : decode cX10_add 38 = .ok (.iload 4, 2) := by decide +kernel
theorem dX10_add_40 : decode cX10_add 40 = .ok (.iastore, 1) := by decide +kernel
theorem dX10_add_41 : decode cX10_add 41 = .ok (.aload_n 0, 1) := by decide +kernel
theorem dX10_add_42 : decode cX10_add 42 = .ok (.dup, 1) := by decide +kernel
theorem dX10_add_43 : decode cX10_add 43 = .ok (.getfield 22, 3) := by decide +kernel
theorem dX10_add_46 : decode cX10_add 46 = .ok (.iconst 1, 1) := by decide +kernel
theorem dX10_add_47 : decode cX10_add 47 = .ok (.iadd, 1) := by decide +kernel
theorem dX10_add_48 : decode cX10_add 48 = .ok (.putfield 22, 3) := by decide +kernel
theorem dX10_add_51 : decode cX10_add 51 = .ok (.return_, 1) := by decide +kernel
theorem dX10_kindAt_0 : decode cX10_kindAt 0 = .ok (.iload_n 1, 1) := by decide +kernel
theorem dX10_kindAt_1 : decode cX10_kindAt 1 = .ok (.ifCond .lt 20, 3) := by decide +kernel
theorem dX10_kindAt_4 : decode cX10_kindAt 4 = .ok (.iload_n 1, 1) := by decide +kernel
theorem dX10_kindAt_5 : decode cX10_kindAt 5 = .ok (.aload_n 0, 1) := by decide +kernel
theorem dX10_kindAt_6 : decode cX10_kindAt 6 = .ok (.getfield 22, 3) := by decide +kernel
theorem dX10_kindAt_9 : decode cX10_kindAt 9 = .ok (.if_icmp .ge 12, 3) := by decide +kernel
theorem dX10_kindAt_12 : decode cX10_kindAt 12 = .ok (.aload_n 0, 1) := by decide +kernel
theorem dX10_kindAt_13 : decode cX10_kindAt 13 = .ok (.getfield 9, 3) := by decide +kernel
theorem dX10_kindAt_16 : decode cX10_kindAt 16 = .ok (.iload_n 1, 1) := by decide +kernel
theorem dX10_kindAt_17 : decode cX10_kindAt 17 = .ok (.iaload, 1) := by decide +kernel
theorem dX10_kindAt_18 : decode cX10_kindAt 18 = .ok (.goto 4, 3) := by decide +kernel
theorem dX10_kindAt_21 : decode cX10_kindAt 21 = .ok (.iconst 3, 1) := by decide +kernel
theorem dX10_kindAt_22 : decode cX10_kindAt 22 = .ok (.ireturn, 1) := by decide +kernel
theorem dX10_valueAt_0 : decode cX10_valueAt 0 = .ok (.iload_n 1, 1) := by decide +kernel
theorem dX10_valueAt_1 : decode cX10_valueAt 1 = .ok (.ifCond .lt 20, 3) := by decide +kernel
theorem dX10_valueAt_4 : decode cX10_valueAt 4 = .ok (.iload_n 1, 1) := by decide +kernel
theorem dX10_valueAt_5 : decode cX10_valueAt 5 = .ok (.aload_n 0, 1) := by decide +kernel
theorem dX10_valueAt_6 : decode cX10_valueAt 6 = .ok (.getfield 22, 3) := by decide +kernel
theorem dX10_valueAt_9 : decode cX10_valueAt 9 = .ok (.if_icmp .ge 12, 3) := by decide +kernel
theorem dX10_valueAt_12 : decode cX10_valueAt 12 = .ok (.aload_n 0, 1) := by decide +kernel
theorem dX10_valueAt_13 : decode cX10_valueAt 13 = .ok (.getfield 15, 3) := by decide +kernel
theorem dX10_valueAt_16 : decode cX10_valueAt 16 = .ok (.iload_n 1, 1) := by decide +kernel
theorem dX10_valueAt_17 : decode cX10_valueAt 17 = .ok (.laload, 1) := by decide +kernel
theorem dX10_valueAt_18 : decode cX10_valueAt 18 = .ok (.goto 4, 3) := by decide +kernel
theorem dX10_valueAt_21 : decode cX10_valueAt 21 = .ok (.lconst 0, 1) := by decide +kernel
theorem dX10_valueAt_22 : decode cX10_valueAt 22 = .ok (.lreturn, 1) := by decide +kernel
theorem dX10_placeAt_0 : decode cX10_placeAt 0 = .ok (.iload_n 1, 1) := by decide +kernel
theorem dX10_placeAt_1 : decode cX10_placeAt 1 = .ok (.ifCond .lt 20, 3) := by decide +kernel
theorem dX10_placeAt_4 : decode cX10_placeAt 4 = .ok (.iload_n 1, 1) := by decide +kernel
theorem dX10_placeAt_5 : decode cX10_placeAt 5 = .ok (.aload_n 0, 1) := by decide +kernel
theorem dX10_placeAt_6 : decode cX10_placeAt 6 = .ok (.getfield 22, 3) := by decide +kernel
theorem dX10_placeAt_9 : decode cX10_placeAt 9 = .ok (.if_icmp .ge 12, 3) := by decide +kernel
theorem dX10_placeAt_12 : decode cX10_placeAt 12 = .ok (.aload_n 0, 1) := by decide +kernel
theorem dX10_placeAt_13 : decode cX10_placeAt 13 = .ok (.getfield 19, 3) := by decide +kernel
theorem dX10_placeAt_16 : decode cX10_placeAt 16 = .ok (.iload_n 1, 1) := by decide +kernel
theorem dX10_placeAt_17 : decode cX10_placeAt 17 = .ok (.iaload, 1) := by decide +kernel
theorem dX10_placeAt_18 : decode cX10_placeAt 18 = .ok (.goto 4, 3) := by decide +kernel
theorem dX10_placeAt_21 : decode cX10_placeAt 21 = .ok (.iconst (-1), 1) := by decide +kernel
theorem dX10_placeAt_22 : decode cX10_placeAt 22 = .ok (.ireturn, 1) := by decide +kernel
theorem dX10_tellAt_0 : decode cX10_tellAt 0 = .ok (.iload_n 1, 1) := by decide +kernel
theorem dX10_tellAt_1 : decode cX10_tellAt 1 = .ok (.ifCond .eq 15, 3) := by decide +kernel
theorem dX10_tellAt_4 : decode cX10_tellAt 4 = .ok (.aload_n 0, 1) := by decide +kernel
theorem dX10_tellAt_5 : decode cX10_tellAt 5 = .ok (.iload_n 1, 1) := by decide +kernel
theorem dX10_tellAt_6 : decode cX10_tellAt 6 = .ok (.iconst 1, 1) := by decide +kernel
theorem dX10_tellAt_7 : decode cX10_tellAt 7 = .ok (.isub, 1) := by decide +kernel
theorem dX10_tellAt_8 : decode cX10_tellAt 8 = .ok (.invokevirtual 26, 3) := by decide +kernel
theorem dX10_tellAt_11 : decode cX10_tellAt 11 = .ok (.bipush 59, 2) := by decide +kernel
theorem dX10_tellAt_13 : decode cX10_tellAt 13 = .ok (.if_icmp .ne 15, 3) := by decide +kernel
theorem dX10_tellAt_16 : decode cX10_tellAt 16 = .ok (.aload_n 0, 1) := by decide +kernel
theorem dX10_tellAt_17 : decode cX10_tellAt 17 = .ok (.iload_n 1, 1) := by decide +kernel
theorem dX10_tellAt_18 : decode cX10_tellAt 18 = .ok (.invokevirtual 26, 3) := by decide +kernel
theorem dX10_tellAt_21 : decode cX10_tellAt 21 = .ok (.sipush 128, 3) := by decide +kernel
theorem dX10_tellAt_24 : decode cX10_tellAt 24 = .ok (.isub, 1) := by decide +kernel
theorem dX10_tellAt_25 : decode cX10_tellAt 25 = .ok (.goto 4, 3) := by decide +kernel
theorem dX10_tellAt_28 : decode cX10_tellAt 28 = .ok (.iconst (-1), 1) := by decide +kernel
theorem dX10_tellAt_29 : decode cX10_tellAt 29 = .ok (.ireturn, 1) := by decide +kernel
theorem dX10_isNameTwice_0 : decode cX10_isNameTwice 0 = .ok (.iconst 0, 1) := by decide +kernel
theorem dX10_isNameTwice_1 : decode cX10_isNameTwice 1 = .ok (.istore_n 2, 1) := by decide +kernel
theorem dX10_isNameTwice_2 : decode cX10_isNameTwice 2 = .ok (.iload_n 2, 1) := by decide +kernel
theorem dX10_isNameTwice_3 : decode cX10_isNameTwice 3 = .ok (.iload_n 1, 1) := by decide +kernel
theorem dX10_isNameTwice_4 : decode cX10_isNameTwice 4 = .ok (.if_icmp .ge 44, 3) := by decide +kernel
theorem dX10_isNameTwice_7 : decode cX10_isNameTwice 7 = .ok (.iload_n 2, 1) := by decide +kernel
theorem dX10_isNameTwice_8 : decode cX10_isNameTwice 8 = .ok (.aload_n 0, 1) := by decide +kernel
theorem dX10_isNameTwice_9 : decode cX10_isNameTwice 9 = .ok (.getfield 22, 3) := by decide +kernel
theorem dX10_isNameTwice_12 : decode cX10_isNameTwice 12 = .ok (.if_icmp .ge 36, 3) := by decide +kernel
theorem dX10_isNameTwice_15 : decode cX10_isNameTwice 15 = .ok (.aload_n 0, 1) := by decide +kernel
theorem dX10_isNameTwice_16 : decode cX10_isNameTwice 16 = .ok (.getfield 9, 3) := by decide +kernel
theorem dX10_isNameTwice_19 : decode cX10_isNameTwice 19 = .ok (.iload_n 2, 1) := by decide +kernel
theorem dX10_isNameTwice_20 : decode cX10_isNameTwice 20 = .ok (.iaload, 1) := by decide +kernel
theorem dX10_isNameTwice_21 : decode cX10_isNameTwice 21 = .ok (.iconst 1, 1) := by decide +kernel
theorem dX10_isNameTwice_22 : decode cX10_isNameTwice 22 = .ok (.if_icmp .ne 20, 3) := by decide +kernel
theorem dX10_isNameTwice_25 : decode cX10_isNameTwice 25 = .ok (.aload_n 0, 1) := by decide +kernel
theorem dX10_isNameTwice_26 : decode cX10_isNameTwice 26 = .ok (.getfield 15, 3) := by decide +kernel
theorem dX10_isNameTwice_29 : decode cX10_isNameTwice 29 = .ok (.iload_n 2, 1) := by decide +kernel
theorem dX10_isNameTwice_30 : decode cX10_isNameTwice 30 = .ok (.laload, 1) := by decide +kernel
theorem dX10_isNameTwice_31 : decode cX10_isNameTwice 31 = .ok (.aload_n 0, 1) := by decide +kernel
theorem dX10_isNameTwice_32 : decode cX10_isNameTwice 32 = .ok (.iload_n 1, 1) := by decide +kernel
theorem dX10_isNameTwice_33 : decode cX10_isNameTwice 33 = .ok (.invokevirtual 30, 3) := by decide +kernel
theorem dX10_isNameTwice_36 : decode cX10_isNameTwice 36 = .ok (.lcmp, 1) := by decide +kernel
theorem dX10_isNameTwice_37 : decode cX10_isNameTwice 37 = .ok (.ifCond .ne 5, 3) := by decide +kernel
theorem dX10_isNameTwice_40 : decode cX10_isNameTwice 40 = .ok (.iconst 1, 1) := by decide +kernel
theorem dX10_isNameTwice_41 : decode cX10_isNameTwice 41 = .ok (.ireturn, 1) := by decide +kernel
theorem dX10_isNameTwice_42 : decode cX10_isNameTwice 42 = .ok (.iinc 2 1, 3) := by decide +kernel
theorem dX10_isNameTwice_45 : decode cX10_isNameTwice 45 = .ok (.goto (-43), 3) := by decide +kernel
theorem dX10_isNameTwice_48 : decode cX10_isNameTwice 48 = .ok (.iconst 0, 1) := by decide +kernel
theorem dX10_isNameTwice_49 : decode cX10_isNameTwice 49 = .ok (.ireturn, 1) := by decide +kernel
theorem dX11_init_0 : decode cX11_init 0 = .ok (.aload_n 0, 1) := by decide +kernel
theorem dX11_init_1 : decode cX11_init 1 = .ok (.invokespecial 3, 3) := by decide +kernel
theorem dX11_init_4 : decode cX11_init 4 = .ok (.aload_n 0, 1) := by decide +kernel
theorem dX11_init_5 : decode cX11_init 5 = .ok (.sipush 2000, 3) := by decide +kernel
theorem dX11_init_8 : decode cX11_init 8 = .ok (.newarray .byte, 2) := by decide +kernel
theorem dX11_init_10 : decode cX11_init 10 = .ok (.putfield 9, 3) := by decide +kernel
theorem dX11_init_13 : decode cX11_init 13 = .ok (.aload_n 0, 1) := by decide +kernel
theorem dX11_init_14 : decode cX11_init 14 = .ok (.iconst 0, 1) := by decide +kernel
theorem dX11_init_15 : decode cX11_init 15 = .ok (.putfield 13, 3) := by decide +kernel
theorem dX11_init_18 : decode cX11_init 18 = .ok (.aload_n 0, 1) := by decide +kernel
theorem dX11_init_19 : decode cX11_init 19 = .ok (.iconst (-1), 1) := by decide +kernel
theorem dX11_init_20 : decode cX11_init 20 = .ok (.putfield 17, 3) := by decide +kernel
theorem dX11_init_23 : decode cX11_init 23 = .ok (.aload_n 0, 1) := by decide +kernel
theorem dX11_init_24 : decode cX11_init 24 = .ok (.new 20, 3) := by decide +kernel
theorem dX11_init_27 : decode cX11_init 27 = .ok (.dup, 1) := by decide +kernel
theorem dX11_init_28 : decode cX11_init 28 = .ok (.invokespecial 22, 3) := by decide +kernel
theorem dX11_init_31 : decode cX11_init 31 = .ok (.putfield 23, 3) := by decide +kernel
theorem dX11_init_34 : decode cX11_init 34 = .ok (.aload_n 0, 1) := by decide +kernel
theorem dX11_init_35 : decode cX11_init 35 = .ok (.new 27, 3) := by decide +kernel
theorem dX11_init_38 : decode cX11_init 38 = .ok (.dup, 1) := by decide +kernel
theorem dX11_init_39 : decode cX11_init 39 = .ok (.invokespecial 29, 3) := by decide +kernel
theorem dX11_init_42 : decode cX11_init 42 = .ok (.putfield 30, 3) := by decide +kernel
theorem dX11_init_45 : decode cX11_init 45 = .ok (.aload_n 0, 1) := by decide +kernel
theorem dX11_init_46 : decode cX11_init 46 = .ok (.new 34, 3) := by decide +kernel
theorem dX11_init_49 : decode cX11_init 49 = .ok (.dup, 1) := by decide +kernel
theorem dX11_init_50 : decode cX11_init 50 = .ok (.invokespecial 36, 3) := by decide +kernel
theorem dX11_init_53 : decode cX11_init 53 = .ok (.putfield 37, 3) := by decide +kernel
theorem dX11_init_56 : decode cX11_init 56 = .ok (.aload_n 0, 1) := by decide +kernel
theorem dX11_init_57 : decode cX11_init 57 = .ok (.new 41, 3) := by decide +kernel
theorem dX11_init_60 : decode cX11_init 60 = .ok (.dup, 1) := by decide +kernel
theorem dX11_init_61 : decode cX11_init 61 = .ok (.invokespecial 43, 3) := by decide +kernel
theorem dX11_init_64 : decode cX11_init 64 = .ok (.putfield 44, 3) := by decide +kernel
theorem dX11_init_67 : decode cX11_init 67 = .ok (.aload_n 0, 1) := by decide +kernel
theorem dX11_init_68 : decode cX11_init 68 = .ok (.new 48, 3) := by decide +kernel
theorem dX11_init_71 : decode cX11_init 71 = .ok (.dup, 1) := by decide +kernel
theorem dX11_init_72 : decode cX11_init 72 = .ok (.aload_n 0, 1) := by decide +kernel
theorem dX11_init_73 : decode cX11_init 73 = .ok (.getfield 30, 3) := by decide +kernel
theorem dX11_init_76 : decode cX11_init 76 = .ok (.invokespecial 50, 3) := by decide +kernel
theorem dX11_init_79 : decode cX11_init 79 = .ok (.putfield 53, 3) := by decide +kernel
theorem dX11_init_82 : decode cX11_init 82 = .ok (.aload_n 0, 1) := by decide +kernel
theorem dX11_init_83 : decode cX11_init 83 = .ok (.new 57, 3) := by decide +kernel
theorem dX11_init_86 : decode cX11_init 86 = .ok (.dup, 1) := by decide +kernel
theorem dX11_init_87 : decode cX11_init 87 = .ok (.aload_n 0, 1) := by decide +kernel
theorem dX11_init_88 : decode cX11_init 88 = .ok (.getfield 30, 3) := by decide +kernel
theorem dX11_init_91 : decode cX11_init 91 = .ok (.aload_n 0, 1) := by decide +kernel
theorem dX11_init_92 : decode cX11_init 92 = .ok (.getfield 37, 3) := by decide +kernel
theorem dX11_init_95 : decode cX11_init 95 = .ok (.aload_n 0, 1) := by decide +kernel
theorem dX11_init_96 : decode cX11_init 96 = .ok (.getfield 53, 3) := by decide +kernel
theorem dX11_init_99 : decode cX11_init 99 = .ok (.invokespecial 59, 3) := by decide +kernel
theorem dX11_init_102 : decode cX11_init 102 = .ok (.putfield 62, 3) := by decide +kernel
theorem dX11_init_105 : decode cX11_init 105 = .ok (.aload_n 0, 1) := by decide +kernel
theorem dX11_init_106 : decode cX11_init 106 = .ok (.bipush 20, 2) := by decide +kernel
theorem dX11_init_108 : decode cX11_init 108 = .ok (.newarray .int, 2) := by decide +kernel
theorem dX11_init_110 : decode cX11_init 110 = .ok (.putfield 66, 3) := by decide +kernel
theorem dX11_init_113 : decode cX11_init 113 = .ok (.aload_n 0, 1) := by decide +kernel
theorem dX11_init_114 : decode cX11_init 114 = .ok (.bipush 20, 2) := by decide +kernel
theorem dX11_init_116 : decode cX11_init 116 = .ok (.newarray .int, 2) := by decide +kernel
theorem dX11_init_118 : decode cX11_init 118 = .ok (.putfield 70, 3) := by decide +kernel
theorem dX11_init_121 : decode cX11_init 121 = .ok (.aload_n 0, 1) := by decide +kernel
theorem dX11_init_122 : decode cX11_init 122 = .ok (.iconst 0, 1) := by decide +kernel
theorem dX11_init_123 : decode cX11_init 123 = .ok (.putfield 73, 3) := by decide +kernel
theorem dX11_init_126 : decode cX11_init 126 = .ok (.aload_n 0, 1) := by decide +kernel
theorem dX11_init_127 : decode cX11_init 127 = .ok (.getfield 37, 3) := by decide +kernel
theorem dX11_init_130 : decode cX11_init 130 = .ok (.aload_n 0, 1) := by decide +kernel
theorem dX11_init_131 : decode cX11_init 131 = .ok (.getfield 30, 3) := by decide +kernel
theorem dX11_init_134 : decode cX11_init 134 = .ok (.invokevirtual 76, 3) := by decide +kernel
theorem dX11_init_137 : decode cX11_init 137 = .ok (.return_, 1) := by decide +kernel
theorem dX11_feed_0 : decode cX11_feed 0 = .ok (.aload_n 0, 1) := by decide +kernel
theorem dX11_feed_1 : decode cX11_feed 1 = .ok (.getfield 13, 3) := by decide +kernel
theorem dX11_feed_4 : decode cX11_feed 4 = .ok (.bipush 20, 2) := by decide +kernel
theorem dX11_feed_6 : decode cX11_feed 6 = .ok (.iadd, 1) := by decide +kernel
theorem dX11_feed_7 : decode cX11_feed 7 = .ok (.sipush 2000, 3) := by decide +kernel
theorem dX11_feed_10 : decode cX11_feed 10 = .ok (.if_icmp .le 5, 3) := by decide +kernel
theorem dX11_feed_13 : decode cX11_feed 13 = .ok (.iconst (-1), 1) := by decide +kernel
theorem dX11_feed_14 : decode cX11_feed 14 = .ok (.ireturn, 1) := by decide +kernel
theorem dX11_feed_15 : decode cX11_feed 15 = .ok (.aload_n 0, 1) := by decide +kernel
theorem dX11_feed_16 : decode cX11_feed 16 = .ok (.iload_n 1, 1) := by decide +kernel
theorem dX11_feed_17 : decode cX11_feed 17 = .ok (.invokevirtual 79, 3) := by decide +kernel
theorem dX11_feed_20 : decode cX11_feed 20 = .ok (.aload_n 0, 1) := by decide +kernel
theorem dX11_feed_21 : decode cX11_feed 21 = .ok (.iload_n 2, 1) := by decide +kernel
theorem dX11_feed_22 : decode cX11_feed 22 = .ok (.invokevirtual 79, 3) := by decide +kernel
theorem dX11_feed_25 : decode cX11_feed 25 = .ok (.aload_n 0, 1) := by decide +kernel
theorem dX11_feed_26 : decode cX11_feed 26 = .ok (.iload_n 3, 1) := by decide +kernel
theorem dX11_feed_27 : decode cX11_feed 27 = .ok (.invokevirtual 79, 3) := by decide +kernel
theorem dX11_feed_30 : decode cX11_feed 30 = .ok (.aload_n 0, 1) := by decide +kernel
theorem dX11_feed_31 : decode cX11_feed 31 = .ok (.iload 4, 2) := by decide +kernel
theorem dX11_feed_33 : decode cX11_feed 33 = .ok (.invokevirtual 79, 3) := by decide +kernel
theorem dX11_feed_36 : decode cX11_feed 36 = .ok (.aload_n 0, 1) := by decide +kernel
theorem dX11_feed_37 : decode cX11_feed 37 = .ok (.iload 5, 2) := by decide +kernel
theorem dX11_feed_39 : decode cX11_feed 39 = .ok (.invokevirtual 79, 3) := by decide +kernel
theorem dX11_feed_42 : decode cX11_feed 42 = .ok (.aload_n 0, 1) := by decide +kernel
theorem dX11_feed_43 : decode cX11_feed 43 = .ok (.getfield 13, 3) := by decide +kernel
theorem dX11_feed_46 : decode cX11_feed 46 = .ok (.ireturn, 1) := by decide +kernel
theorem dX11_back_0 : decode cX11_back 0 = .ok (.iload_n 1, 1) := by decide +kernel
theorem dX11_back_1 : decode cX11_back 1 = .ok (.ifCond .lt 11, 3) := by decide +kernel
theorem dX11_back_4 : decode cX11_back 4 = .ok (.iload_n 1, 1) := by decide +kernel
theorem dX11_back_5 : decode cX11_back 5 = .ok (.aload_n 0, 1) := by decide +kernel
theorem dX11_back_6 : decode cX11_back 6 = .ok (.getfield 13, 3) := by decide +kernel
theorem dX11_back_9 : decode cX11_back 9 = .ok (.if_icmp .le 5, 3) := by decide +kernel
theorem dX11_back_12 : decode cX11_back 12 = .ok (.iconst (-1), 1) := by decide +kernel
theorem dX11_back_13 : decode cX11_back 13 = .ok (.ireturn, 1) := by decide +kernel
theorem dX11_back_14 : decode cX11_back 14 = .ok (.aload_n 0, 1) := by decide +kernel
theorem dX11_back_15 : decode cX11_back 15 = .ok (.dup, 1) := by decide +kernel
theorem dX11_back_16 : decode cX11_back 16 = .ok (.getfield 13, 3) := by decide +kernel
theorem dX11_back_19 : decode cX11_back 19 = .ok (.iload_n 1, 1) := by decide +kernel
theorem dX11_back_20 : decode cX11_back 20 = .ok (.isub, 1) := by decide +kernel
theorem dX11_back_21 : decode cX11_back 21 = .ok (.putfield 13, 3) := by decide +kernel
theorem dX11_back_24 : decode cX11_back 24 = .ok (.aload_n 0, 1) := by decide +kernel
theorem dX11_back_25 : decode cX11_back 25 = .ok (.getfield 13, 3) := by decide +kernel
theorem dX11_back_28 : decode cX11_back 28 = .ok (.ireturn, 1) := by decide +kernel
theorem dX11_read_0 : decode cX11_read 0 = .ok (.aload_n 0, 1) := by decide +kernel
theorem dX11_read_1 : decode cX11_read 1 = .ok (.getfield 23, 3) := by decide +kernel
theorem dX11_read_4 : decode cX11_read 4 = .ok (.aload_n 0, 1) := by decide +kernel
theorem dX11_read_5 : decode cX11_read 5 = .ok (.getfield 9, 3) := by decide +kernel
theorem dX11_read_8 : decode cX11_read 8 = .ok (.aload_n 0, 1) := by decide +kernel
theorem dX11_read_9 : decode cX11_read 9 = .ok (.getfield 13, 3) := by decide +kernel
theorem dX11_read_12 : decode cX11_read 12 = .ok (.invokevirtual 83, 3) := by decide +kernel
theorem dX11_read_15 : decode cX11_read 15 = .ok (.istore_n 1, 1) := by decide +kernel
theorem dX11_read_16 : decode cX11_read 16 = .ok (.aload_n 0, 1) := by decide +kernel
theorem dX11_read_17 : decode cX11_read 17 = .ok (.aload_n 0, 1) := by decide +kernel
theorem dX11_read_18 : decode cX11_read 18 = .ok (.getfield 23, 3) := by decide +kernel
theorem dX11_read_21 : decode cX11_read 21 = .ok (.getfield 87, 3) := by decide +kernel
theorem dX11_read_24 : decode cX11_read 24 = .ok (.putfield 17, 3) := by decide +kernel
theorem dX11_read_27 : decode cX11_read 27 = .ok (.aload_n 0, 1) := by decide +kernel
theorem dX11_read_28 : decode cX11_read 28 = .ok (.iconst 0, 1) := by decide +kernel
theorem dX11_read_29 : decode cX11_read 29 = .ok (.putfield 13, 3) := by decide +kernel
theorem dX11_read_32 : decode cX11_read 32 = .ok (.iload_n 1, 1) := by decide +kernel
theorem dX11_read_33 : decode cX11_read 33 = .ok (.ifCond .ne 40, 3) := by decide +kernel
theorem dX11_read_36 : decode cX11_read 36 = .ok (.aload_n 0, 1) := by decide +kernel
theorem dX11_read_37 : decode cX11_read 37 = .ok (.getfield 30, 3) := by decide +kernel
theorem dX11_read_40 : decode cX11_read 40 = .ok (.aload_n 0, 1) := by decide +kernel
theorem dX11_read_41 : decode cX11_read 41 = .ok (.getfield 23, 3) := by decide +kernel
theorem dX11_read_44 : decode cX11_read 44 = .ok (.getfield 90, 3) := by decide +kernel
theorem dX11_read_47 : decode cX11_read 47 = .ok (.invokevirtual 94, 3) := by decide +kernel
theorem dX11_read_50 : decode cX11_read 50 = .ok (.aload_n 0, 1) := by decide +kernel
theorem dX11_read_51 : decode cX11_read 51 = .ok (.getfield 37, 3) := by decide +kernel
theorem dX11_read_54 : decode cX11_read 54 = .ok (.aload_n 0, 1) := by decide +kernel
theorem dX11_read_55 : decode cX11_read 55 = .ok (.getfield 30, 3) := by decide +kernel
theorem dX11_read_58 : decode cX11_read 58 = .ok (.invokevirtual 76, 3) := by decide +kernel
theorem dX11_read_61 : decode cX11_read 61 = .ok (.aload_n 0, 1) := by decide +kernel
theorem dX11_read_62 : decode cX11_read 62 = .ok (.getfield 44, 3) := by decide +kernel
theorem dX11_read_65 : decode cX11_read 65 = .ok (.invokevirtual 98, 3) := by decide +kernel
theorem dX11_read_68 : decode cX11_read 68 = .ok (.aload_n 0, 1) := by decide +kernel
theorem dX11_read_69 : decode cX11_read 69 = .ok (.iconst 0, 1) := by decide +kernel
theorem dX11_read_70 : decode cX11_read 70 = .ok (.putfield 73, 3) := by decide +kernel
theorem dX11_read_73 : decode cX11_read 73 = .ok (.iload_n 1, 1) := by decide +kernel
theorem dX11_read_74 : decode cX11_read 74 = .ok (.ireturn, 1) := by decide +kernel
theorem dX11_place_0 : decode cX11_place 0 = .ok (.aload_n 0, 1) := by decide +kernel
theorem dX11_place_1 : decode cX11_place 1 = .ok (.getfield 17, 3) := by decide +kernel
theorem dX11_place_4 : decode cX11_place 4 = .ok (.ireturn, 1) := by decide +kernel
theorem dX11_man_0 : decode cX11_man 0 = .ok (.aload_n 0, 1) := by decide +kernel
theorem dX11_man_1 : decode cX11_man 1 = .ok (.iload_n 1, 1) := by decide +kernel
theorem dX11_man_2 : decode cX11_man 2 = .ok (.invokevirtual 101, 3) := by decide +kernel
theorem dX11_man_5 : decode cX11_man 5 = .ok (.ifCond .ne 5, 3) := by decide +kernel
theorem dX11_man_8 : decode cX11_man 8 = .ok (.iconst (-1), 1) := by decide +kernel
theorem dX11_man_9 : decode cX11_man 9 = .ok (.ireturn, 1) := by decide +kernel
theorem dX11_man_10 : decode cX11_man 10 = .ok (.iload_n 2, 1) := by decide +kernel
theorem dX11_man_11 : decode cX11_man 11 = .ok (.tableswitch 169 0 9 #[53, 63, 80, 96, 106, 116, 126, 136, 147, 158], 53) := by decide +kernel
theorem dX11_man_64 : decode cX11_man 64 = .ok (.aload_n 0, 1) := by decide +kernel
theorem dX11_man_65 : decode cX11_man 65 = .ok (.getfield 37, 3) := by decide +kernel
theorem dX11_man_68 : decode cX11_man 68 = .ok (.iload_n 1, 1) := by decide +kernel
theorem dX11_man_69 : decode cX11_man 69 = .ok (.iconst 0, 1) := by decide +kernel
theorem dX11_man_70 : decode cX11_man 70 = .ok (.invokevirtual 105, 3) := by decide +kernel
theorem dX11_man_73 : decode cX11_man 73 = .ok (.ireturn, 1) := by decide +kernel
theorem dX11_man_74 : decode cX11_man 74 = .ok (.aload_n 0, 1) := by decide +kernel
theorem dX11_man_75 : decode cX11_man 75 = .ok (.getfield 37, 3) := by decide +kernel
theorem dX11_man_78 : decode cX11_man 78 = .ok (.iload_n 1, 1) := by decide +kernel
theorem dX11_man_79 : decode cX11_man 79 = .ok (.invokevirtual 109, 3) := by decide +kernel
theorem dX11_man_82 : decode cX11_man 82 = .ok (.ifCond .eq 7, 3) := by decide +kernel
theorem dX11_man_85 : decode cX11_man 85 = .ok (.iconst 1, 1) := by decide +kernel
theorem dX11_man_86 : decode cX11_man 86 = .ok (.goto 4, 3) := by decide +kernel
theorem dX11_man_89 : decode cX11_man 89 = .ok (.iconst 0, 1) := by decide +kernel
theorem dX11_man_90 : decode cX11_man 90 = .ok (.ireturn, 1) := by decide +kernel
theorem dX11_man_91 : decode cX11_man 91 = .ok (.aload_n 0, 1) := by decide +kernel
theorem dX11_man_92 : decode cX11_man 92 = .ok (.getfield 37, 3) := by decide +kernel
theorem dX11_man_95 : decode cX11_man 95 = .ok (.iload_n 1, 1) := by decide +kernel
theorem dX11_man_96 : decode cX11_man 96 = .ok (.aload_n 0, 1) := by decide +kernel
theorem dX11_man_97 : decode cX11_man 97 = .ok (.getfield 30, 3) := by decide +kernel
theorem dX11_man_100 : decode cX11_man 100 = .ok (.getfield 112, 3) := by decide +kernel
theorem dX11_man_103 : decode cX11_man 103 = .ok (.invokevirtual 115, 3) := by decide +kernel
theorem dX11_man_106 : decode cX11_man 106 = .ok (.ireturn, 1) := by decide +kernel
theorem dX11_man_107 : decode cX11_man 107 = .ok (.aload_n 0, 1) := by decide +kernel
theorem dX11_man_108 : decode cX11_man 108 = .ok (.getfield 37, 3) := by decide +kernel
theorem dX11_man_111 : decode cX11_man 111 = .ok (.iload_n 1, 1) := by decide +kernel
theorem dX11_man_112 : decode cX11_man 112 = .ok (.iconst 2, 1) := by decide +kernel
theorem dX11_man_113 : decode cX11_man 113 = .ok (.invokevirtual 105, 3) := by decide +kernel
theorem dX11_man_116 : decode cX11_man 116 = .ok (.ireturn, 1) := by decide +kernel
theorem dX11_man_117 : decode cX11_man 117 = .ok (.aload_n 0, 1) := by decide +kernel
theorem dX11_man_118 : decode cX11_man 118 = .ok (.getfield 37, 3) := by decide +kernel
theorem dX11_man_121 : decode cX11_man 121 = .ok (.iload_n 1, 1) := by decide +kernel
theorem dX11_man_122 : decode cX11_man 122 = .ok (.iconst 3, 1) := by decide +kernel
theorem dX11_man_123 : decode cX11_man 123 = .ok (.invokevirtual 105, 3) := by decide +kernel
theorem dX11_man_126 : decode cX11_man 126 = .ok (.ireturn, 1) := by decide +kernel
theorem dX11_man_127 : decode cX11_man 127 = .ok (.aload_n 0, 1) := by decide +kernel
theorem dX11_man_128 : decode cX11_man 128 = .ok (.getfield 37, 3) := by decide +kernel
theorem dX11_man_131 : decode cX11_man 131 = .ok (.iload_n 1, 1) := by decide +kernel
theorem dX11_man_132 : decode cX11_man 132 = .ok (.iconst 4, 1) := by decide +kernel
theorem dX11_man_133 : decode cX11_man 133 = .ok (.invokevirtual 105, 3) := by decide +kernel
theorem dX11_man_136 : decode cX11_man 136 = .ok (.ireturn, 1) := by decide +kernel
theorem dX11_man_137 : decode cX11_man 137 = .ok (.aload_n 0, 1) := by decide +kernel
theorem dX11_man_138 : decode cX11_man 138 = .ok (.getfield 37, 3) := by decide +kernel
theorem dX11_man_141 : decode cX11_man 141 = .ok (.iload_n 1, 1) := by decide +kernel
theorem dX11_man_142 : decode cX11_man 142 = .ok (.iconst 5, 1) := by decide +kernel
theorem dX11_man_143 : decode cX11_man 143 = .ok (.invokevirtual 105, 3) := by decide +kernel
theorem dX11_man_146 : decode cX11_man 146 = .ok (.ireturn, 1) := by decide +kernel
theorem dX11_man_147 : decode cX11_man 147 = .ok (.aload_n 0, 1) := by decide +kernel
theorem dX11_man_148 : decode cX11_man 148 = .ok (.getfield 37, 3) := by decide +kernel
theorem dX11_man_151 : decode cX11_man 151 = .ok (.iload_n 1, 1) := by decide +kernel
theorem dX11_man_152 : decode cX11_man 152 = .ok (.bipush 6, 2) := by decide +kernel
theorem dX11_man_154 : decode cX11_man 154 = .ok (.invokevirtual 105, 3) := by decide +kernel
theorem dX11_man_157 : decode cX11_man 157 = .ok (.ireturn, 1) := by decide +kernel
theorem dX11_man_158 : decode cX11_man 158 = .ok (.aload_n 0, 1) := by decide +kernel
theorem dX11_man_159 : decode cX11_man 159 = .ok (.getfield 37, 3) := by decide +kernel
theorem dX11_man_162 : decode cX11_man 162 = .ok (.iload_n 1, 1) := by decide +kernel
theorem dX11_man_163 : decode cX11_man 163 = .ok (.bipush 7, 2) := by decide +kernel
theorem dX11_man_165 : decode cX11_man 165 = .ok (.invokevirtual 105, 3) := by decide +kernel
theorem dX11_man_168 : decode cX11_man 168 = .ok (.ireturn, 1) := by decide +kernel
theorem dX11_man_169 : decode cX11_man 169 = .ok (.aload_n 0, 1) := by decide +kernel
theorem dX11_man_170 : decode cX11_man 170 = .ok (.getfield 37, 3) := by decide +kernel
theorem dX11_man_173 : decode cX11_man 173 = .ok (.iload_n 1, 1) := by decide +kernel
theorem dX11_man_174 : decode cX11_man 174 = .ok (.bipush 9, 2) := by decide +kernel
theorem dX11_man_176 : decode cX11_man 176 = .ok (.invokevirtual 105, 3) := by decide +kernel
theorem dX11_man_179 : decode cX11_man 179 = .ok (.ireturn, 1) := by decide +kernel
theorem dX11_man_180 : decode cX11_man 180 = .ok (.iconst (-1), 1) := by decide +kernel
theorem dX11_man_181 : decode cX11_man 181 = .ok (.ireturn, 1) := by decide +kernel
theorem dX11_motion_0 : decode cX11_motion 0 = .ok (.aload_n 0, 1) := by decide +kernel
theorem dX11_motion_1 : decode cX11_motion 1 = .ok (.iload_n 1, 1) := by decide +kernel
theorem dX11_motion_2 : decode cX11_motion 2 = .ok (.invokevirtual 118, 3) := by decide +kernel
theorem dX11_motion_5 : decode cX11_motion 5 = .ok (.ifCond .ne 5, 3) := by decide +kernel
theorem dX11_motion_8 : decode cX11_motion 8 = .ok (.iconst (-1), 1) := by decide +kernel
theorem dX11_motion_9 : decode cX11_motion 9 = .ok (.ireturn, 1) := by decide +kernel
theorem dX11_motion_10 : decode cX11_motion 10 = .ok (.iload_n 2, 1) := by decide +kernel
theorem dX11_motion_11 : decode cX11_motion 11 = .ok (.tableswitch 60 0 4 #[33, 42, 48, 48, 48], 33) := by decide +kernel
theorem dX11_motion_44 : decode cX11_motion 44 = .ok (.aload_n 0, 1) := by decide +kernel
theorem dX11_motion_45 : decode cX11_motion 45 = .ok (.getfield 37, 3) := by decide +kernel
theorem dX11_motion_48 : decode cX11_motion 48 = .ok (.iload_n 1, 1) := by decide +kernel
theorem dX11_motion_49 : decode cX11_motion 49 = .ok (.invokevirtual 121, 3) := by decide +kernel
theorem dX11_motion_52 : decode cX11_motion 52 = .ok (.ireturn, 1) := by decide +kernel
theorem dX11_motion_53 : decode cX11_motion 53 = .ok (.aload_n 0, 1) := by decide +kernel
theorem dX11_motion_54 : decode cX11_motion 54 = .ok (.iload_n 1, 1) := by decide +kernel
theorem dX11_motion_55 : decode cX11_motion 55 = .ok (.invokevirtual 125, 3) := by decide +kernel
theorem dX11_motion_58 : decode cX11_motion 58 = .ok (.ireturn, 1) := by decide +kernel
theorem dX11_motion_59 : decode cX11_motion 59 = .ok (.aload_n 0, 1) := by decide +kernel
theorem dX11_motion_60 : decode cX11_motion 60 = .ok (.getfield 30, 3) := by decide +kernel
theorem dX11_motion_63 : decode cX11_motion 63 = .ok (.iload_n 1, 1) := by decide +kernel
theorem dX11_motion_64 : decode cX11_motion 64 = .ok (.iload_n 2, 1) := by decide +kernel
theorem dX11_motion_65 : decode cX11_motion 65 = .ok (.iconst 2, 1) := by decide +kernel
theorem dX11_motion_66 : decode cX11_motion 66 = .ok (.isub, 1) := by decide +kernel
theorem dX11_motion_67 : decode cX11_motion 67 = .ok (.invokevirtual 128, 3) := by decide +kernel
theorem dX11_motion_70 : decode cX11_motion 70 = .ok (.ireturn, 1) := by decide +kernel
theorem dX11_motion_71 : decode cX11_motion 71 = .ok (.iconst (-1), 1) := by decide +kernel
theorem dX11_motion_72 : decode cX11_motion 72 = .ok (.ireturn, 1) := by decide +kernel
theorem dX11_argues_0 : decode cX11_argues 0 = .ok (.aload_n 0, 1) := by decide +kernel
theorem dX11_argues_1 : decode cX11_argues 1 = .ok (.iload_n 1, 1) := by decide +kernel
theorem dX11_argues_2 : decode cX11_argues 2 = .ok (.invokevirtual 101, 3) := by decide +kernel
theorem dX11_argues_5 : decode cX11_argues 5 = .ok (.ifCond .eq 10, 3) := by decide +kernel
theorem dX11_argues_8 : decode cX11_argues 8 = .ok (.iload_n 2, 1) := by decide +kernel
theorem dX11_argues_9 : decode cX11_argues 9 = .ok (.invokestatic 131, 3) := by decide +kernel
theorem dX11_argues_12 : decode cX11_argues 12 = .ok (.ifCond .ne 5, 3) := by decide +kernel
theorem dX11_argues_15 : decode cX11_argues 15 = .ok (.iconst (-1), 1) := by decide +kernel
theorem dX11_argues_16 : decode cX11_argues 16 = .ok (.ireturn, 1) := by decide +kernel
theorem dX11_argues_17 : decode cX11_argues 17 = .ok (.aload_n 0, 1) := by decide +kernel
theorem dX11_argues_18 : decode cX11_argues 18 = .ok (.getfield 53, 3) := by decide +kernel
theorem dX11_argues_21 : decode cX11_argues 21 = .ok (.aload_n 0, 1) := by decide +kernel
theorem dX11_argues_22 : decode cX11_argues 22 = .ok (.getfield 37, 3) := by decide +kernel
theorem dX11_argues_25 : decode cX11_argues 25 = .ok (.iload_n 1, 1) := by decide +kernel
theorem dX11_argues_26 : decode cX11_argues 26 = .ok (.invokevirtual 134, 3) := by decide +kernel
theorem dX11_argues_29 : decode cX11_argues 29 = .ok (.aload_n 0, 1) := by decide +kernel
theorem dX11_argues_30 : decode cX11_argues 30 = .ok (.getfield 53, 3) := by decide +kernel
theorem dX11_argues_33 : decode cX11_argues 33 = .ok (.iload_n 2, 1) := by decide +kernel
theorem dX11_argues_34 : decode cX11_argues 34 = .ok (.putfield 138, 3) := by decide +kernel
theorem dX11_argues_37 : decode cX11_argues 37 = .ok (.aload_n 0, 1) := by decide +kernel
theorem dX11_argues_38 : decode cX11_argues 38 = .ok (.getfield 53, 3) := by decide +kernel
theorem dX11_argues_41 : decode cX11_argues 41 = .ok (.iload_n 3, 1) := by decide +kernel
theorem dX11_argues_42 : decode cX11_argues 42 = .ok (.ifCond .eq 7, 3) := by decide +kernel
theorem dX11_argues_45 : decode cX11_argues 45 = .ok (.iconst 1, 1) := by decide +kernel
theorem dX11_argues_46 : decode cX11_argues 46 = .ok (.goto 4, 3) := by decide +kernel
theorem dX11_argues_49 : decode cX11_argues 49 = .ok (.iconst 0, 1) := by decide +kernel
theorem dX11_argues_50 : decode cX11_argues 50 = .ok (.putfield 141, 3) := by decide +kernel
theorem dX11_argues_53 : decode cX11_argues 53 = .ok (.aload_n 0, 1) := by decide +kernel
theorem dX11_argues_54 : decode cX11_argues 54 = .ok (.getfield 53, 3) := by decide +kernel
theorem dX11_argues_57 : decode cX11_argues 57 = .ok (.iconst (-1), 1) := by decide +kernel
theorem dX11_argues_58 : decode cX11_argues 58 = .ok (.putfield 144, 3) := by decide +kernel
theorem dX11_argues_61 : decode cX11_argues 61 = .ok (.aload_n 0, 1) := by decide +kernel
theorem dX11_argues_62 : decode cX11_argues 62 = .ok (.getfield 53, 3) := by decide +kernel
theorem dX11_argues_65 : decode cX11_argues 65 = .ok (.invokevirtual 147, 3) := by decide +kernel
theorem dX11_argues_68 : decode cX11_argues 68 = .ok (.ireturn, 1) := by decide +kernel
theorem dX11_mark_0 : decode cX11_mark 0 = .ok (.aload_n 0, 1) := by decide +kernel
theorem dX11_mark_1 : decode cX11_mark 1 = .ok (.iload_n 2, 1) := by decide +kernel
theorem dX11_mark_2 : decode cX11_mark 2 = .ok (.invokevirtual 101, 3) := by decide +kernel
theorem dX11_mark_5 : decode cX11_mark 5 = .ok (.ifCond .eq 18, 3) := by decide +kernel
theorem dX11_mark_8 : decode cX11_mark 8 = .ok (.iload_n 1, 1) := by decide +kernel
theorem dX11_mark_9 : decode cX11_mark 9 = .ok (.ifCond .lt 14, 3) := by decide +kernel
theorem dX11_mark_12 : decode cX11_mark 12 = .ok (.iload_n 1, 1) := by decide +kernel
theorem dX11_mark_13 : decode cX11_mark 13 = .ok (.aload_n 0, 1) := by decide +kernel
theorem dX11_mark_14 : decode cX11_mark 14 = .ok (.getfield 30, 3) := by decide +kernel
theorem dX11_mark_17 : decode cX11_mark 17 = .ok (.getfield 151, 3) := by decide +kernel
theorem dX11_mark_20 : decode cX11_mark 20 = .ok (.if_icmp .lt 5, 3) := by decide +kernel
theorem dX11_mark_23 : decode cX11_mark 23 = .ok (.iconst (-1), 1) := by decide +kernel
theorem dX11_mark_24 : decode cX11_mark 24 = .ok (.ireturn, 1) := by decide +kernel
theorem dX11_mark_25 : decode cX11_mark 25 = .ok (.aload_n 0, 1) := by decide +kernel
theorem dX11_mark_26 : decode cX11_mark 26 = .ok (.iload_n 2, 1) := by decide +kernel
theorem dX11_mark_27 : decode cX11_mark 27 = .ok (.invokevirtual 154, 3) := by decide +kernel
theorem dX11_mark_30 : decode cX11_mark 30 = .ok (.ifCond .eq 6, 3) := by decide +kernel
theorem dX11_mark_33 : decode cX11_mark 33 = .ok (.bipush (-2), 2) := by decide +kernel
theorem dX11_mark_35 : decode cX11_mark 35 = .ok (.ireturn, 1) := by decide +kernel
theorem dX11_mark_36 : decode cX11_mark 36 = .ok (.aload_n 0, 1) := by decide +kernel
theorem dX11_mark_37 : decode cX11_mark 37 = .ok (.getfield 53, 3) := by decide +kernel
theorem dX11_mark_40 : decode cX11_mark 40 = .ok (.aload_n 0, 1) := by decide +kernel
theorem dX11_mark_41 : decode cX11_mark 41 = .ok (.getfield 37, 3) := by decide +kernel
theorem dX11_mark_44 : decode cX11_mark 44 = .ok (.iload_n 2, 1) := by decide +kernel
theorem dX11_mark_45 : decode cX11_mark 45 = .ok (.invokevirtual 134, 3) := by decide +kernel
theorem dX11_mark_48 : decode cX11_mark 48 = .ok (.aload_n 0, 1) := by decide +kernel
theorem dX11_mark_49 : decode cX11_mark 49 = .ok (.getfield 53, 3) := by decide +kernel
theorem dX11_mark_52 : decode cX11_mark 52 = .ok (.iload_n 3, 1) := by decide +kernel
theorem dX11_mark_53 : decode cX11_mark 53 = .ok (.ifCond .eq 7, 3) := by decide +kernel
theorem dX11_mark_56 : decode cX11_mark 56 = .ok (.iconst 1, 1) := by decide +kernel
theorem dX11_mark_57 : decode cX11_mark 57 = .ok (.goto 4, 3) := by decide +kernel
theorem dX11_mark_60 : decode cX11_mark 60 = .ok (.iconst 0, 1) := by decide +kernel
theorem dX11_mark_61 : decode cX11_mark 61 = .ok (.putfield 141, 3) := by decide +kernel
theorem dX11_mark_64 : decode cX11_mark 64 = .ok (.aload_n 0, 1) := by decide +kernel
theorem dX11_mark_65 : decode cX11_mark 65 = .ok (.getfield 53, 3) := by decide +kernel
theorem dX11_mark_68 : decode cX11_mark 68 = .ok (.iload_n 1, 1) := by decide +kernel
theorem dX11_mark_69 : decode cX11_mark 69 = .ok (.aload_n 0, 1) := by decide +kernel
theorem dX11_mark_70 : decode cX11_mark 70 = .ok (.getfield 53, 3) := by decide +kernel
theorem dX11_mark_73 : decode cX11_mark 73 = .ok (.invokevirtual 147, 3) := by decide +kernel
theorem dX11_mark_76 : decode cX11_mark 76 = .ok (.invokevirtual 157, 3) := by decide +kernel
theorem dX11_mark_79 : decode cX11_mark 79 = .ok (.ireturn, 1) := by decide +kernel
theorem dX11_sum_0 : decode cX11_sum 0 = .ok (.aload_n 0, 1) := by decide +kernel
theorem dX11_sum_1 : decode cX11_sum 1 = .ok (.iload_n 1, 1) := by decide +kernel
theorem dX11_sum_2 : decode cX11_sum 2 = .ok (.invokevirtual 101, 3) := by decide +kernel
theorem dX11_sum_5 : decode cX11_sum 5 = .ok (.ifCond .ne 5, 3) := by decide +kernel
theorem dX11_sum_8 : decode cX11_sum 8 = .ok (.iconst (-1), 1) := by decide +kernel
theorem dX11_sum_9 : decode cX11_sum 9 = .ok (.ireturn, 1) := by decide +kernel
theorem dX11_sum_10 : decode cX11_sum 10 = .ok (.aload_n 0, 1) := by decide +kernel
theorem dX11_sum_11 : decode cX11_sum 11 = .ok (.iload_n 1, 1) := by decide +kernel
theorem dX11_sum_12 : decode cX11_sum 12 = .ok (.invokevirtual 154, 3) := by decide +kernel
theorem dX11_sum_15 : decode cX11_sum 15 = .ok (.ifCond .eq 8, 3) := by decide +kernel
theorem dX11_sum_18 : decode cX11_sum 18 = .ok (.bipush (-2), 2) := by decide +kernel
theorem dX11_sum_20 : decode cX11_sum 20 = .ok (.goto 17, 3) := by decide +kernel
theorem dX11_sum_23 : decode cX11_sum 23 = .ok (.aload_n 0, 1) := by decide +kernel
theorem dX11_sum_24 : decode cX11_sum 24 = .ok (.iload_n 1, 1) := by decide +kernel
theorem dX11_sum_25 : decode cX11_sum 25 = .ok (.iload_n 2, 1) := by decide +kernel
theorem dX11_sum_26 : decode cX11_sum 26 = .ok (.ifCond .eq 7, 3) := by decide +kernel
theorem dX11_sum_29 : decode cX11_sum 29 = .ok (.iconst 1, 1) := by decide +kernel
theorem dX11_sum_30 : decode cX11_sum 30 = .ok (.goto 4, 3) := by decide +kernel
theorem dX11_sum_33 : decode cX11_sum 33 = .ok (.iconst 0, 1) := by decide +kernel
theorem dX11_sum_34 : decode cX11_sum 34 = .ok (.invokevirtual 160, 3) := by decide +kernel
theorem dX11_sum_37 : decode cX11_sum 37 = .ok (.ireturn, 1) := by decide +kernel
theorem dX11_speak_0 : decode cX11_speak 0 = .ok (.aload_n 0, 1) := by decide +kernel
theorem dX11_speak_1 : decode cX11_speak 1 = .ok (.iload_n 1, 1) := by decide +kernel
theorem dX11_speak_2 : decode cX11_speak 2 = .ok (.invokevirtual 101, 3) := by decide +kernel
theorem dX11_speak_5 : decode cX11_speak 5 = .ok (.ifCond .ne 5, 3) := by decide +kernel
theorem dX11_speak_8 : decode cX11_speak 8 = .ok (.iconst 0, 1) := by decide +kernel
theorem dX11_speak_9 : decode cX11_speak 9 = .ok (.ireturn, 1) := by decide +kernel
theorem dX11_speak_10 : decode cX11_speak 10 = .ok (.iload_n 2, 1) := by decide +kernel
theorem dX11_speak_11 : decode cX11_speak 11 = .ok (.iconst (-1), 1) := by decide +kernel
theorem dX11_speak_12 : decode cX11_speak 12 = .ok (.if_icmp .ne 34, 3) := by decide +kernel
theorem dX11_speak_15 : decode cX11_speak 15 = .ok (.aload_n 0, 1) := by decide +kernel
theorem dX11_speak_16 : decode cX11_speak 16 = .ok (.iload_n 1, 1) := by decide +kernel
theorem dX11_speak_17 : decode cX11_speak 17 = .ok (.invokevirtual 154, 3) := by decide +kernel
theorem dX11_speak_20 : decode cX11_speak 20 = .ok (.ifCond .eq 5, 3) := by decide +kernel
theorem dX11_speak_23 : decode cX11_speak 23 = .ok (.iconst 0, 1) := by decide +kernel
theorem dX11_speak_24 : decode cX11_speak 24 = .ok (.ireturn, 1) := by decide +kernel
theorem dX11_speak_25 : decode cX11_speak 25 = .ok (.aload_n 0, 1) := by decide +kernel
theorem dX11_speak_26 : decode cX11_speak 26 = .ok (.getfield 44, 3) := by decide +kernel
theorem dX11_speak_29 : decode cX11_speak 29 = .ok (.aload_n 0, 1) := by decide +kernel
theorem dX11_speak_30 : decode cX11_speak 30 = .ok (.getfield 37, 3) := by decide +kernel
theorem dX11_speak_33 : decode cX11_speak 33 = .ok (.invokevirtual 163, 3) := by decide +kernel
theorem dX11_speak_36 : decode cX11_speak 36 = .ok (.aload_n 0, 1) := by decide +kernel
theorem dX11_speak_37 : decode cX11_speak 37 = .ok (.getfield 37, 3) := by decide +kernel
theorem dX11_speak_40 : decode cX11_speak 40 = .ok (.iload_n 1, 1) := by decide +kernel
theorem dX11_speak_41 : decode cX11_speak 41 = .ok (.invokevirtual 167, 3) := by decide +kernel
theorem dX11_speak_44 : decode cX11_speak 44 = .ok (.iconst 1, 1) := by decide +kernel
theorem dX11_speak_45 : decode cX11_speak 45 = .ok (.ireturn, 1) := by decide +kernel
theorem dX11_speak_46 : decode cX11_speak 46 = .ok (.aload_n 0, 1) := by decide +kernel
theorem dX11_speak_47 : decode cX11_speak 47 = .ok (.iload_n 2, 1) := by decide +kernel
theorem dX11_speak_48 : decode cX11_speak 48 = .ok (.invokevirtual 118, 3) := by decide +kernel
theorem dX11_speak_51 : decode cX11_speak 51 = .ok (.ifCond .eq 23, 3) := by decide +kernel
theorem dX11_speak_54 : decode cX11_speak 54 = .ok (.iload_n 3, 1) := by decide +kernel
theorem dX11_speak_55 : decode cX11_speak 55 = .ok (.invokestatic 131, 3) := by decide +kernel
theorem dX11_speak_58 : decode cX11_speak 58 = .ok (.ifCond .eq 16, 3) := by decide +kernel
theorem dX11_speak_61 : decode cX11_speak 61 = .ok (.aload_n 0, 1) := by decide +kernel
theorem dX11_speak_62 : decode cX11_speak 62 = .ok (.getfield 37, 3) := by decide +kernel
theorem dX11_speak_65 : decode cX11_speak 65 = .ok (.iload_n 2, 1) := by decide +kernel
theorem dX11_speak_66 : decode cX11_speak 66 = .ok (.invokevirtual 121, 3) := by decide +kernel
theorem dX11_speak_69 : decode cX11_speak 69 = .ok (.bipush (-2), 2) := by decide +kernel
theorem dX11_speak_71 : decode cX11_speak 71 = .ok (.if_icmp .eq 5, 3) := by decide +kernel
theorem dX11_speak_74 : decode cX11_speak 74 = .ok (.iconst 0, 1) := by decide +kernel
theorem dX11_speak_75 : decode cX11_speak 75 = .ok (.ireturn, 1) := by decide +kernel
theorem dX11_speak_76 : decode cX11_speak 76 = .ok (.aload_n 0, 1) := by decide +kernel
theorem dX11_speak_77 : decode cX11_speak 77 = .ok (.getfield 37, 3) := by decide +kernel
theorem dX11_speak_80 : decode cX11_speak 80 = .ok (.iload_n 1, 1) := by decide +kernel
theorem dX11_speak_81 : decode cX11_speak 81 = .ok (.iconst 3, 1) := by decide +kernel
theorem dX11_speak_82 : decode cX11_speak 82 = .ok (.invokevirtual 105, 3) := by decide +kernel
theorem dX11_speak_85 : decode cX11_speak 85 = .ok (.iload_n 2, 1) := by decide +kernel
theorem dX11_speak_86 : decode cX11_speak 86 = .ok (.if_icmp .ne 18, 3) := by decide +kernel
theorem dX11_speak_89 : decode cX11_speak 89 = .ok (.aload_n 0, 1) := by decide +kernel
theorem dX11_speak_90 : decode cX11_speak 90 = .ok (.getfield 37, 3) := by decide +kernel
theorem dX11_speak_93 : decode cX11_speak 93 = .ok (.iload_n 1, 1) := by decide +kernel
theorem dX11_speak_94 : decode cX11_speak 94 = .ok (.iconst 4, 1) := by decide +kernel
theorem dX11_speak_95 : decode cX11_speak 95 = .ok (.invokevirtual 105, 3) := by decide +kernel
theorem dX11_speak_98 : decode cX11_speak 98 = .ok (.iload_n 3, 1) := by decide +kernel
theorem dX11_speak_99 : decode cX11_speak 99 = .ok (.if_icmp .ne 5, 3) := by decide +kernel
theorem dX11_speak_102 : decode cX11_speak 102 = .ok (.iconst 0, 1) := by decide +kernel
theorem dX11_speak_103 : decode cX11_speak 103 = .ok (.ireturn, 1) := by decide +kernel
theorem dX11_speak_104 : decode cX11_speak 104 = .ok (.aload_n 0, 1) := by decide +kernel
theorem dX11_speak_105 : decode cX11_speak 105 = .ok (.getfield 44, 3) := by decide +kernel
theorem dX11_speak_108 : decode cX11_speak 108 = .ok (.aload_n 0, 1) := by decide +kernel
theorem dX11_speak_109 : decode cX11_speak 109 = .ok (.getfield 37, 3) := by decide +kernel
theorem dX11_speak_112 : decode cX11_speak 112 = .ok (.invokevirtual 163, 3) := by decide +kernel
theorem dX11_speak_115 : decode cX11_speak 115 = .ok (.aload_n 0, 1) := by decide +kernel
theorem dX11_speak_116 : decode cX11_speak 116 = .ok (.getfield 37, 3) := by decide +kernel
theorem dX11_speak_119 : decode cX11_speak 119 = .ok (.iload_n 1, 1) := by decide +kernel
theorem dX11_speak_120 : decode cX11_speak 120 = .ok (.iconst 3, 1) := by decide +kernel
theorem dX11_speak_121 : decode cX11_speak 121 = .ok (.iload_n 2, 1) := by decide +kernel
theorem dX11_speak_122 : decode cX11_speak 122 = .ok (.invokevirtual 170, 3) := by decide +kernel
theorem dX11_speak_125 : decode cX11_speak 125 = .ok (.aload_n 0, 1) := by decide +kernel
theorem dX11_speak_126 : decode cX11_speak 126 = .ok (.getfield 37, 3) := by decide +kernel
theorem dX11_speak_129 : decode cX11_speak 129 = .ok (.iload_n 1, 1) := by decide +kernel
theorem dX11_speak_130 : decode cX11_speak 130 = .ok (.iconst 4, 1) := by decide +kernel
theorem dX11_speak_131 : decode cX11_speak 131 = .ok (.iload_n 3, 1) := by decide +kernel
theorem dX11_speak_132 : decode cX11_speak 132 = .ok (.invokevirtual 170, 3) := by decide +kernel
theorem dX11_speak_135 : decode cX11_speak 135 = .ok (.iconst 1, 1) := by decide +kernel
theorem dX11_speak_136 : decode cX11_speak 136 = .ok (.ireturn, 1) := by decide +kernel
theorem dX11_praise_0 : decode cX11_praise 0 = .ok (.aload_n 0, 1) := by decide +kernel
theorem dX11_praise_1 : decode cX11_praise 1 = .ok (.iload_n 1, 1) := by decide +kernel
theorem dX11_praise_2 : decode cX11_praise 2 = .ok (.invokevirtual 101, 3) := by decide +kernel
theorem dX11_praise_5 : decode cX11_praise 5 = .ok (.ifCond .ne 5, 3) := by decide +kernel
theorem dX11_praise_8 : decode cX11_praise 8 = .ok (.iconst (-1), 1) := by decide +kernel
theorem dX11_praise_9 : decode cX11_praise 9 = .ok (.ireturn, 1) := by decide +kernel
theorem dX11_praise_10 : decode cX11_praise 10 = .ok (.aload_n 0, 1) := by decide +kernel
theorem dX11_praise_11 : decode cX11_praise 11 = .ok (.getfield 37, 3) := by decide +kernel
theorem dX11_praise_14 : decode cX11_praise 14 = .ok (.iload_n 1, 1) := by decide +kernel
theorem dX11_praise_15 : decode cX11_praise 15 = .ok (.iconst 5, 1) := by decide +kernel
theorem dX11_praise_16 : decode cX11_praise 16 = .ok (.invokevirtual 105, 3) := by decide +kernel
theorem dX11_praise_19 : decode cX11_praise 19 = .ok (.istore_n 2, 1) := by decide +kernel
theorem dX11_praise_20 : decode cX11_praise 20 = .ok (.iload_n 2, 1) := by decide +kernel
theorem dX11_praise_21 : decode cX11_praise 21 = .ok (.bipush 9, 2) := by decide +kernel
theorem dX11_praise_23 : decode cX11_praise 23 = .ok (.if_icmp .lt 6, 3) := by decide +kernel
theorem dX11_praise_26 : decode cX11_praise 26 = .ok (.bipush (-2), 2) := by decide +kernel
theorem dX11_praise_28 : decode cX11_praise 28 = .ok (.ireturn, 1) := by decide +kernel
theorem dX11_praise_29 : decode cX11_praise 29 = .ok (.aload_n 0, 1) := by decide +kernel
theorem dX11_praise_30 : decode cX11_praise 30 = .ok (.getfield 44, 3) := by decide +kernel
theorem dX11_praise_33 : decode cX11_praise 33 = .ok (.aload_n 0, 1) := by decide +kernel
theorem dX11_praise_34 : decode cX11_praise 34 = .ok (.getfield 37, 3) := by decide +kernel
theorem dX11_praise_37 : decode cX11_praise 37 = .ok (.invokevirtual 163, 3) := by decide +kernel
theorem dX11_praise_40 : decode cX11_praise 40 = .ok (.aload_n 0, 1) := by decide +kernel
theorem dX11_praise_41 : decode cX11_praise 41 = .ok (.getfield 37, 3) := by decide +kernel
theorem dX11_praise_44 : decode cX11_praise 44 = .ok (.iload_n 1, 1) := by decide +kernel
theorem dX11_praise_45 : decode cX11_praise 45 = .ok (.iconst 5, 1) := by decide +kernel
theorem dX11_praise_46 : decode cX11_praise 46 = .ok (.iload_n 2, 1) := by decide +kernel
theorem dX11_praise_47 : decode cX11_praise 47 = .ok (.iconst 1, 1) := by decide +kernel
theorem dX11_praise_48 : decode cX11_praise 48 = .ok (.iadd, 1) := by decide +kernel
theorem dX11_praise_49 : decode cX11_praise 49 = .ok (.invokevirtual 170, 3) := by decide +kernel
theorem dX11_praise_52 : decode cX11_praise 52 = .ok (.iload_n 2, 1) := by decide +kernel
theorem dX11_praise_53 : decode cX11_praise 53 = .ok (.iconst 1, 1) := by decide +kernel
theorem dX11_praise_54 : decode cX11_praise 54 = .ok (.iadd, 1) := by decide +kernel
theorem dX11_praise_55 : decode cX11_praise 55 = .ok (.ireturn, 1) := by decide +kernel
theorem dX11_reads_0 : decode cX11_reads 0 = .ok (.aload_n 0, 1) := by decide +kernel
theorem dX11_reads_1 : decode cX11_reads 1 = .ok (.iload_n 1, 1) := by decide +kernel
theorem dX11_reads_2 : decode cX11_reads 2 = .ok (.invokevirtual 101, 3) := by decide +kernel
theorem dX11_reads_5 : decode cX11_reads 5 = .ok (.ifCond .eq 16, 3) := by decide +kernel
theorem dX11_reads_8 : decode cX11_reads 8 = .ok (.aload_n 0, 1) := by decide +kernel
theorem dX11_reads_9 : decode cX11_reads 9 = .ok (.iload_n 2, 1) := by decide +kernel
theorem dX11_reads_10 : decode cX11_reads 10 = .ok (.invokevirtual 101, 3) := by decide +kernel
theorem dX11_reads_13 : decode cX11_reads 13 = .ok (.ifCond .eq 8, 3) := by decide +kernel
theorem dX11_reads_16 : decode cX11_reads 16 = .ok (.iload_n 1, 1) := by decide +kernel
theorem dX11_reads_17 : decode cX11_reads 17 = .ok (.iload_n 2, 1) := by decide +kernel
theorem dX11_reads_18 : decode cX11_reads 18 = .ok (.if_icmp .ne 5, 3) := by decide +kernel
theorem dX11_reads_21 : decode cX11_reads 21 = .ok (.iconst (-1), 1) := by decide +kernel
theorem dX11_reads_22 : decode cX11_reads 22 = .ok (.ireturn, 1) := by decide +kernel
theorem dX11_reads_23 : decode cX11_reads 23 = .ok (.aload_n 0, 1) := by decide +kernel
theorem dX11_reads_24 : decode cX11_reads 24 = .ok (.getfield 37, 3) := by decide +kernel
theorem dX11_reads_27 : decode cX11_reads 27 = .ok (.iload_n 2, 1) := by decide +kernel
theorem dX11_reads_28 : decode cX11_reads 28 = .ok (.bipush 6, 2) := by decide +kernel
theorem dX11_reads_30 : decode cX11_reads 30 = .ok (.invokevirtual 105, 3) := by decide +kernel
theorem dX11_reads_33 : decode cX11_reads 33 = .ok (.istore_n 3, 1) := by decide +kernel
theorem dX11_reads_34 : decode cX11_reads 34 = .ok (.aload_n 0, 1) := by decide +kernel
theorem dX11_reads_35 : decode cX11_reads 35 = .ok (.getfield 37, 3) := by decide +kernel
theorem dX11_reads_38 : decode cX11_reads 38 = .ok (.iload_n 1, 1) := by decide +kernel
theorem dX11_reads_39 : decode cX11_reads 39 = .ok (.iconst 2, 1) := by decide +kernel
theorem dX11_reads_40 : decode cX11_reads 40 = .ok (.invokevirtual 105, 3) := by decide +kernel
theorem dX11_reads_43 : decode cX11_reads 43 = .ok (.istore 4, 2) := by decide +kernel
theorem dX11_reads_45 : decode cX11_reads 45 = .ok (.aload_n 0, 1) := by decide +kernel
theorem dX11_reads_46 : decode cX11_reads 46 = .ok (.iload_n 1, 1) := by decide +kernel
theorem dX11_reads_47 : decode cX11_reads 47 = .ok (.invokevirtual 154, 3) := by decide +kernel
theorem dX11_reads_50 : decode cX11_reads 50 = .ok (.ifCond .ne 29, 3) := by decide +kernel
theorem dX11_reads_53 : decode cX11_reads 53 = .ok (.iload_n 3, 1) := by decide +kernel
theorem dX11_reads_54 : decode cX11_reads 54 = .ok (.bipush (-2), 2) := by decide +kernel
theorem dX11_reads_56 : decode cX11_reads 56 = .ok (.if_icmp .eq 23, 3) := by decide +kernel
theorem dX11_reads_59 : decode cX11_reads 59 = .ok (.aload_n 0, 1) := by decide +kernel
theorem dX11_reads_60 : decode cX11_reads 60 = .ok (.getfield 37, 3) := by decide +kernel
theorem dX11_reads_63 : decode cX11_reads 63 = .ok (.iload_n 1, 1) := by decide +kernel
theorem dX11_reads_64 : decode cX11_reads 64 = .ok (.bipush 7, 2) := by decide +kernel
theorem dX11_reads_66 : decode cX11_reads 66 = .ok (.invokevirtual 105, 3) := by decide +kernel
theorem dX11_reads_69 : decode cX11_reads 69 = .ok (.iload_n 2, 1) := by decide +kernel
theorem dX11_reads_70 : decode cX11_reads 70 = .ok (.if_icmp .eq 9, 3) := by decide +kernel
theorem dX11_reads_73 : decode cX11_reads 73 = .ok (.iload 4, 2) := by decide +kernel
theorem dX11_reads_75 : decode cX11_reads 75 = .ok (.iload_n 3, 1) := by decide +kernel
theorem dX11_reads_76 : decode cX11_reads 76 = .ok (.if_icmp .ge 6, 3) := by decide +kernel
theorem dX11_reads_79 : decode cX11_reads 79 = .ok (.bipush (-2), 2) := by decide +kernel
theorem dX11_reads_81 : decode cX11_reads 81 = .ok (.ireturn, 1) := by decide +kernel
theorem dX11_reads_82 : decode cX11_reads 82 = .ok (.aload_n 0, 1) := by decide +kernel
theorem dX11_reads_83 : decode cX11_reads 83 = .ok (.getfield 44, 3) := by decide +kernel
theorem dX11_reads_86 : decode cX11_reads 86 = .ok (.aload_n 0, 1) := by decide +kernel
theorem dX11_reads_87 : decode cX11_reads 87 = .ok (.getfield 37, 3) := by decide +kernel
theorem dX11_reads_90 : decode cX11_reads 90 = .ok (.invokevirtual 163, 3) := by decide +kernel
theorem dX11_reads_93 : decode cX11_reads 93 = .ok (.aload_n 0, 1) := by decide +kernel
theorem dX11_reads_94 : decode cX11_reads 94 = .ok (.getfield 37, 3) := by decide +kernel
theorem dX11_reads_97 : decode cX11_reads 97 = .ok (.iload_n 1, 1) := by decide +kernel
theorem dX11_reads_98 : decode cX11_reads 98 = .ok (.bipush 7, 2) := by decide +kernel
theorem dX11_reads_100 : decode cX11_reads 100 = .ok (.iload_n 2, 1) := by decide +kernel
theorem dX11_reads_101 : decode cX11_reads 101 = .ok (.invokevirtual 170, 3) := by decide +kernel
theorem dX11_reads_104 : decode cX11_reads 104 = .ok (.aload_n 0, 1) := by decide +kernel
theorem dX11_reads_105 : decode cX11_reads 105 = .ok (.getfield 37, 3) := by decide +kernel
theorem dX11_reads_108 : decode cX11_reads 108 = .ok (.iload_n 1, 1) := by decide +kernel
theorem dX11_reads_109 : decode cX11_reads 109 = .ok (.bipush 8, 2) := by decide +kernel
theorem dX11_reads_111 : decode cX11_reads 111 = .ok (.iload_n 3, 1) := by decide +kernel
theorem dX11_reads_112 : decode cX11_reads 112 = .ok (.invokevirtual 170, 3) := by decide +kernel
theorem dX11_reads_115 : decode cX11_reads 115 = .ok (.aload_n 0, 1) := by decide +kernel
theorem dX11_reads_116 : decode cX11_reads 116 = .ok (.getfield 37, 3) := by decide +kernel
theorem dX11_reads_119 : decode cX11_reads 119 = .ok (.iload_n 1, 1) := by decide +kernel
theorem dX11_reads_120 : decode cX11_reads 120 = .ok (.iconst 2, 1) := by decide +kernel
theorem dX11_reads_121 : decode cX11_reads 121 = .ok (.iload 4, 2) := by decide +kernel
theorem dX11_reads_123 : decode cX11_reads 123 = .ok (.iload_n 3, 1) := by decide +kernel
theorem dX11_reads_124 : decode cX11_reads 124 = .ok (.isub, 1) := by decide +kernel
theorem dX11_reads_125 : decode cX11_reads 125 = .ok (.invokevirtual 170, 3) := by decide +kernel
theorem dX11_reads_128 : decode cX11_reads 128 = .ok (.aload_n 0, 1) := by decide +kernel
theorem dX11_reads_129 : decode cX11_reads 129 = .ok (.getfield 37, 3) := by decide +kernel
theorem dX11_reads_132 : decode cX11_reads 132 = .ok (.iload_n 2, 1) := by decide +kernel
theorem dX11_reads_133 : decode cX11_reads 133 = .ok (.iconst 2, 1) := by decide +kernel
theorem dX11_reads_134 : decode cX11_reads 134 = .ok (.aload_n 0, 1) := by decide +kernel
theorem dX11_reads_135 : decode cX11_reads 135 = .ok (.getfield 37, 3) := by decide +kernel
theorem dX11_reads_138 : decode cX11_reads 138 = .ok (.iload_n 2, 1) := by decide +kernel
theorem dX11_reads_139 : decode cX11_reads 139 = .ok (.iconst 2, 1) := by decide +kernel
theorem dX11_reads_140 : decode cX11_reads 140 = .ok (.invokevirtual 105, 3) := by decide +kernel
theorem dX11_reads_143 : decode cX11_reads 143 = .ok (.iload_n 3, 1) := by decide +kernel
theorem dX11_reads_144 : decode cX11_reads 144 = .ok (.iadd, 1) := by decide +kernel
theorem dX11_reads_145 : decode cX11_reads 145 = .ok (.invokevirtual 170, 3) := by decide +kernel
theorem dX11_reads_148 : decode cX11_reads 148 = .ok (.iload 4, 2) := by decide +kernel
theorem dX11_reads_150 : decode cX11_reads 150 = .ok (.iload_n 3, 1) := by decide +kernel
theorem dX11_reads_151 : decode cX11_reads 151 = .ok (.isub, 1) := by decide +kernel
theorem dX11_reads_152 : decode cX11_reads 152 = .ok (.ireturn, 1) := by decide +kernel
theorem dX11_swear_0 : decode cX11_swear 0 = .ok (.aload_n 0, 1) := by decide +kernel
theorem dX11_swear_1 : decode cX11_swear 1 = .ok (.iload_n 1, 1) := by decide +kernel
theorem dX11_swear_2 : decode cX11_swear 2 = .ok (.invokevirtual 101, 3) := by decide +kernel
theorem dX11_swear_5 : decode cX11_swear 5 = .ok (.ifCond .eq 35, 3) := by decide +kernel
theorem dX11_swear_8 : decode cX11_swear 8 = .ok (.aload_n 0, 1) := by decide +kernel
theorem dX11_swear_9 : decode cX11_swear 9 = .ok (.iload_n 2, 1) := by decide +kernel
theorem dX11_swear_10 : decode cX11_swear 10 = .ok (.invokevirtual 174, 3) := by decide +kernel
theorem dX11_swear_13 : decode cX11_swear 13 = .ok (.ifCond .eq 27, 3) := by decide +kernel
theorem dX11_swear_16 : decode cX11_swear 16 = .ok (.aload_n 0, 1) := by decide +kernel
theorem dX11_swear_17 : decode cX11_swear 17 = .ok (.getfield 37, 3) := by decide +kernel
theorem dX11_swear_20 : decode cX11_swear 20 = .ok (.iload_n 1, 1) := by decide +kernel
theorem dX11_swear_21 : decode cX11_swear 21 = .ok (.invokevirtual 109, 3) := by decide +kernel
theorem dX11_swear_24 : decode cX11_swear 24 = .ok (.ifCond .ne 16, 3) := by decide +kernel
theorem dX11_swear_27 : decode cX11_swear 27 = .ok (.aload_n 0, 1) := by decide +kernel
theorem dX11_swear_28 : decode cX11_swear 28 = .ok (.getfield 37, 3) := by decide +kernel
theorem dX11_swear_31 : decode cX11_swear 31 = .ok (.iload_n 1, 1) := by decide +kernel
theorem dX11_swear_32 : decode cX11_swear 32 = .ok (.iconst 0, 1) := by decide +kernel
theorem dX11_swear_33 : decode cX11_swear 33 = .ok (.invokevirtual 105, 3) := by decide +kernel
theorem dX11_swear_36 : decode cX11_swear 36 = .ok (.iload_n 2, 1) := by decide +kernel
theorem dX11_swear_37 : decode cX11_swear 37 = .ok (.if_icmp .ne 5, 3) := by decide +kernel
theorem dX11_swear_40 : decode cX11_swear 40 = .ok (.iconst 0, 1) := by decide +kernel
theorem dX11_swear_41 : decode cX11_swear 41 = .ok (.ireturn, 1) := by decide +kernel
theorem dX11_swear_42 : decode cX11_swear 42 = .ok (.aload_n 0, 1) := by decide +kernel
theorem dX11_swear_43 : decode cX11_swear 43 = .ok (.getfield 44, 3) := by decide +kernel
theorem dX11_swear_46 : decode cX11_swear 46 = .ok (.aload_n 0, 1) := by decide +kernel
theorem dX11_swear_47 : decode cX11_swear 47 = .ok (.getfield 37, 3) := by decide +kernel
theorem dX11_swear_50 : decode cX11_swear 50 = .ok (.invokevirtual 163, 3) := by decide +kernel
theorem dX11_swear_53 : decode cX11_swear 53 = .ok (.aload_n 0, 1) := by decide +kernel
theorem dX11_swear_54 : decode cX11_swear 54 = .ok (.getfield 37, 3) := by decide +kernel
theorem dX11_swear_57 : decode cX11_swear 57 = .ok (.iload_n 1, 1) := by decide +kernel
theorem dX11_swear_58 : decode cX11_swear 58 = .ok (.iconst 1, 1) := by decide +kernel
theorem dX11_swear_59 : decode cX11_swear 59 = .ok (.aload_n 0, 1) := by decide +kernel
theorem dX11_swear_60 : decode cX11_swear 60 = .ok (.getfield 37, 3) := by decide +kernel
theorem dX11_swear_63 : decode cX11_swear 63 = .ok (.iload_n 1, 1) := by decide +kernel
theorem dX11_swear_64 : decode cX11_swear 64 = .ok (.iconst 0, 1) := by decide +kernel
theorem dX11_swear_65 : decode cX11_swear 65 = .ok (.invokevirtual 105, 3) := by decide +kernel
theorem dX11_swear_68 : decode cX11_swear 68 = .ok (.invokevirtual 170, 3) := by decide +kernel
theorem dX11_swear_71 : decode cX11_swear 71 = .ok (.aload_n 0, 1) := by decide +kernel
theorem dX11_swear_72 : decode cX11_swear 72 = .ok (.getfield 37, 3) := by decide +kernel
theorem dX11_swear_75 : decode cX11_swear 75 = .ok (.iload_n 1, 1) := by decide +kernel
theorem dX11_swear_76 : decode cX11_swear 76 = .ok (.iconst 0, 1) := by decide +kernel
theorem dX11_swear_77 : decode cX11_swear 77 = .ok (.iload_n 2, 1) := by decide +kernel
theorem dX11_swear_78 : decode cX11_swear 78 = .ok (.invokevirtual 170, 3) := by decide +kernel
theorem dX11_swear_81 : decode cX11_swear 81 = .ok (.iconst 1, 1) := by decide +kernel
theorem dX11_swear_82 : decode cX11_swear 82 = .ok (.ireturn, 1) := by decide +kernel
theorem dX11_session_0 : decode cX11_session 0 = .ok (.aload_n 0, 1) := by decide +kernel
theorem dX11_session_1 : decode cX11_session 1 = .ok (.iload_n 1, 1) := by decide +kernel
theorem dX11_session_2 : decode cX11_session 2 = .ok (.invokevirtual 118, 3) := by decide +kernel
theorem dX11_session_5 : decode cX11_session 5 = .ok (.ifCond .ne 5, 3) := by decide +kernel
theorem dX11_session_8 : decode cX11_session 8 = .ok (.iconst (-1), 1) := by decide +kernel
theorem dX11_session_9 : decode cX11_session 9 = .ok (.ireturn, 1) := by decide +kernel
theorem dX11_session_10 : decode cX11_session 10 = .ok (.aload_n 0, 1) := by decide +kernel
theorem dX11_session_11 : decode cX11_session 11 = .ok (.getfield 37, 3) := by decide +kernel
theorem dX11_session_14 : decode cX11_session 14 = .ok (.iload_n 1, 1) := by decide +kernel
theorem dX11_session_15 : decode cX11_session 15 = .ok (.invokevirtual 121, 3) := by decide +kernel
theorem dX11_session_18 : decode cX11_session 18 = .ok (.bipush (-2), 2) := by decide +kernel
theorem dX11_session_20 : decode cX11_session 20 = .ok (.if_icmp .ne 21, 3) := by decide +kernel
theorem dX11_session_23 : decode cX11_session 23 = .ok (.aload_n 0, 1) := by decide +kernel
theorem dX11_session_24 : decode cX11_session 24 = .ok (.iload_n 1, 1) := by decide +kernel
theorem dX11_session_25 : decode cX11_session 25 = .ok (.invokevirtual 125, 3) := by decide +kernel
theorem dX11_session_28 : decode cX11_session 28 = .ok (.ifCond .eq 13, 3) := by decide +kernel
theorem dX11_session_31 : decode cX11_session 31 = .ok (.aload_n 0, 1) := by decide +kernel
theorem dX11_session_32 : decode cX11_session 32 = .ok (.getfield 30, 3) := by decide +kernel
theorem dX11_session_35 : decode cX11_session 35 = .ok (.getfield 151, 3) := by decide +kernel
theorem dX11_session_38 : decode cX11_session 38 = .ok (.ifCond .ne 6, 3) := by decide +kernel
theorem dX11_session_41 : decode cX11_session 41 = .ok (.bipush (-2), 2) := by decide +kernel
theorem dX11_session_43 : decode cX11_session 43 = .ok (.ireturn, 1) := by decide +kernel
theorem dX11_session_44 : decode cX11_session 44 = .ok (.aload_n 0, 1) := by decide +kernel
theorem dX11_session_45 : decode cX11_session 45 = .ok (.getfield 44, 3) := by decide +kernel
theorem dX11_session_48 : decode cX11_session 48 = .ok (.aload_n 0, 1) := by decide +kernel
theorem dX11_session_49 : decode cX11_session 49 = .ok (.getfield 37, 3) := by decide +kernel
theorem dX11_session_52 : decode cX11_session 52 = .ok (.invokevirtual 163, 3) := by decide +kernel
theorem dX11_session_55 : decode cX11_session 55 = .ok (.lconst 0, 1) := by decide +kernel
theorem dX11_session_56 : decode cX11_session 56 = .ok (.lstore_n 2, 1) := by decide +kernel
theorem dX11_session_57 : decode cX11_session 57 = .ok (.iconst 0, 1) := by decide +kernel
theorem dX11_session_58 : decode cX11_session 58 = .ok (.istore 4, 2) := by decide +kernel
theorem dX11_session_60 : decode cX11_session 60 = .ok (.iload 4, 2) := by decide +kernel
theorem dX11_session_62 : decode cX11_session 62 = .ok (.aload_n 0, 1) := by decide +kernel
theorem dX11_session_63 : decode cX11_session 63 = .ok (.getfield 30, 3) := by decide +kernel
theorem dX11_session_66 : decode cX11_session 66 = .ok (.getfield 177, 3) := by decide +kernel
theorem dX11_session_69 : decode cX11_session 69 = .ok (.if_icmp .ge 32, 3) := by decide +kernel
theorem dX11_session_72 : decode cX11_session 72 = .ok (.aload_n 0, 1) := by decide +kernel
theorem dX11_session_73 : decode cX11_session 73 = .ok (.getfield 37, 3) := by decide +kernel
theorem dX11_session_76 : decode cX11_session 76 = .ok (.iload 4, 2) := by decide +kernel
theorem dX11_session_78 : decode cX11_session 78 = .ok (.iconst 3, 1) := by decide +kernel
theorem dX11_session_79 : decode cX11_session 79 = .ok (.invokevirtual 105, 3) := by decide +kernel
theorem dX11_session_82 : decode cX11_session 82 = .ok (.iload_n 1, 1) := by decide +kernel
theorem dX11_session_83 : decode cX11_session 83 = .ok (.if_icmp .ne 12, 3) := by decide +kernel
theorem dX11_session_86 : decode cX11_session 86 = .ok (.lload_n 2, 1) := by decide +kernel
theorem dX11_session_87 : decode cX11_session 87 = .ok (.aload_n 0, 1) := by decide +kernel
theorem dX11_session_88 : decode cX11_session 88 = .ok (.iload 4, 2) := by decide +kernel
theorem dX11_session_90 : decode cX11_session 90 = .ok (.invokevirtual 180, 3) := by decide +kernel
theorem dX11_session_93 : decode cX11_session 93 = .ok (.ladd, 1) := by decide +kernel
theorem dX11_session_94 : decode cX11_session 94 = .ok (.lstore_n 2, 1) := by decide +kernel
theorem dX11_session_95 : decode cX11_session 95 = .ok (.iinc 4 1, 3) := by decide +kernel
theorem dX11_session_98 : decode cX11_session 98 = .ok (.goto (-38), 3) := by decide +kernel
theorem dX11_session_101 : decode cX11_session 101 = .ok (.lload_n 2, 1) := by decide +kernel
theorem dX11_session_102 : decode cX11_session 102 = .ok (.invokestatic 184, 3) := by decide +kernel
theorem dX11_session_105 : decode cX11_session 105 = .ok (.istore 4, 2) := by decide +kernel
theorem dX11_session_107 : decode cX11_session 107 = .ok (.aload_n 0, 1) := by decide +kernel
theorem dX11_session_108 : decode cX11_session 108 = .ok (.getfield 37, 3) := by decide +kernel
theorem dX11_session_111 : decode cX11_session 111 = .ok (.iload_n 1, 1) := by decide +kernel
theorem dX11_session_112 : decode cX11_session 112 = .ok (.iload 4, 2) := by decide +kernel
theorem dX11_session_114 : decode cX11_session 114 = .ok (.invokevirtual 190, 3) := by decide +kernel
theorem dX11_session_117 : decode cX11_session 117 = .ok (.iload 4, 2) := by decide +kernel
theorem dX11_session_119 : decode cX11_session 119 = .ok (.ireturn, 1) := by decide +kernel
theorem dX11_undo_0 : decode cX11_undo 0 = .ok (.aload_n 0, 1) := by decide +kernel
theorem dX11_undo_1 : decode cX11_undo 1 = .ok (.getfield 44, 3) := by decide +kernel
theorem dX11_undo_4 : decode cX11_undo 4 = .ok (.aload_n 0, 1) := by decide +kernel
theorem dX11_undo_5 : decode cX11_undo 5 = .ok (.getfield 37, 3) := by decide +kernel
theorem dX11_undo_8 : decode cX11_undo 8 = .ok (.invokevirtual 194, 3) := by decide +kernel
theorem dX11_undo_11 : decode cX11_undo 11 = .ok (.ireturn, 1) := by decide +kernel
theorem dX11_now_0 : decode cX11_now 0 = .ok (.aload_n 0, 1) := by decide +kernel
theorem dX11_now_1 : decode cX11_now 1 = .ok (.iload_n 1, 1) := by decide +kernel
theorem dX11_now_2 : decode cX11_now 2 = .ok (.invokevirtual 118, 3) := by decide +kernel
theorem dX11_now_5 : decode cX11_now 5 = .ok (.ifCond .eq 16, 3) := by decide +kernel
theorem dX11_now_8 : decode cX11_now 8 = .ok (.iload_n 2, 1) := by decide +kernel
theorem dX11_now_9 : decode cX11_now 9 = .ok (.iconst (-1), 1) := by decide +kernel
theorem dX11_now_10 : decode cX11_now 10 = .ok (.if_icmp .eq 13, 3) := by decide +kernel
theorem dX11_now_13 : decode cX11_now 13 = .ok (.aload_n 0, 1) := by decide +kernel
theorem dX11_now_14 : decode cX11_now 14 = .ok (.iload_n 2, 1) := by decide +kernel
theorem dX11_now_15 : decode cX11_now 15 = .ok (.invokevirtual 174, 3) := by decide +kernel
theorem dX11_now_18 : decode cX11_now 18 = .ok (.ifCond .ne 5, 3) := by decide +kernel
theorem dX11_now_21 : decode cX11_now 21 = .ok (.iconst (-1), 1) := by decide +kernel
theorem dX11_now_22 : decode cX11_now 22 = .ok (.ireturn, 1) := by decide +kernel
theorem dX11_now_23 : decode cX11_now 23 = .ok (.aload_n 0, 1) := by decide +kernel
theorem dX11_now_24 : decode cX11_now 24 = .ok (.getfield 62, 3) := by decide +kernel
theorem dX11_now_27 : decode cX11_now 27 = .ok (.iload_n 1, 1) := by decide +kernel
theorem dX11_now_28 : decode cX11_now 28 = .ok (.aload_n 0, 1) := by decide +kernel
theorem dX11_now_29 : decode cX11_now 29 = .ok (.getfield 37, 3) := by decide +kernel
theorem dX11_now_32 : decode cX11_now 32 = .ok (.invokevirtual 198, 3) := by decide +kernel
theorem dX11_now_35 : decode cX11_now 35 = .ok (.invokevirtual 201, 3) := by decide +kernel
theorem dX11_now_38 : decode cX11_now 38 = .ok (.aload_n 0, 1) := by decide +kernel
theorem dX11_now_39 : decode cX11_now 39 = .ok (.getfield 62, 3) := by decide +kernel
theorem dX11_now_42 : decode cX11_now 42 = .ok (.invokevirtual 204, 3) := by decide +kernel
theorem dX11_now_45 : decode cX11_now 45 = .ok (.lstore_n 3, 1) := by decide +kernel
theorem dX11_now_46 : decode cX11_now 46 = .ok (.iload_n 2, 1) := by decide +kernel
theorem dX11_now_47 : decode cX11_now 47 = .ok (.iconst (-1), 1) := by decide +kernel
theorem dX11_now_48 : decode cX11_now 48 = .ok (.if_icmp .ne 10, 3) := by decide +kernel
theorem dX11_now_51 : decode cX11_now 51 = .ok (.lload_n 3, 1) := by decide +kernel
theorem dX11_now_52 : decode cX11_now 52 = .ok (.invokestatic 184, 3) := by decide +kernel
theorem dX11_now_55 : decode cX11_now 55 = .ok (.goto 8, 3) := by decide +kernel
theorem dX11_now_58 : decode cX11_now 58 = .ok (.lload_n 3, 1) := by decide +kernel
theorem dX11_now_59 : decode cX11_now 59 = .ok (.iload_n 2, 1) := by decide +kernel
theorem dX11_now_60 : decode cX11_now 60 = .ok (.invokestatic 208, 3) := by decide +kernel
theorem dX11_now_63 : decode cX11_now 63 = .ok (.ireturn, 1) := by decide +kernel
theorem dX11_likely_0 : decode cX11_likely 0 = .ok (.aload_n 0, 1) := by decide +kernel
theorem dX11_likely_1 : decode cX11_likely 1 = .ok (.iload_n 1, 1) := by decide +kernel
theorem dX11_likely_2 : decode cX11_likely 2 = .ok (.invokevirtual 118, 3) := by decide +kernel
theorem dX11_likely_5 : decode cX11_likely 5 = .ok (.ifCond .eq 11, 3) := by decide +kernel
theorem dX11_likely_8 : decode cX11_likely 8 = .ok (.aload_n 0, 1) := by decide +kernel
theorem dX11_likely_9 : decode cX11_likely 9 = .ok (.iload_n 2, 1) := by decide +kernel
theorem dX11_likely_10 : decode cX11_likely 10 = .ok (.invokevirtual 174, 3) := by decide +kernel
theorem dX11_likely_13 : decode cX11_likely 13 = .ok (.ifCond .ne 5, 3) := by decide +kernel
theorem dX11_likely_16 : decode cX11_likely 16 = .ok (.iconst (-1), 1) := by decide +kernel
theorem dX11_likely_17 : decode cX11_likely 17 = .ok (.ireturn, 1) := by decide +kernel
theorem dX11_likely_18 : decode cX11_likely 18 = .ok (.aload_n 0, 1) := by decide +kernel
theorem dX11_likely_19 : decode cX11_likely 19 = .ok (.getfield 62, 3) := by decide +kernel
theorem dX11_likely_22 : decode cX11_likely 22 = .ok (.iload_n 1, 1) := by decide +kernel
theorem dX11_likely_23 : decode cX11_likely 23 = .ok (.aload_n 0, 1) := by decide +kernel
theorem dX11_likely_24 : decode cX11_likely 24 = .ok (.getfield 37, 3) := by decide +kernel
theorem dX11_likely_27 : decode cX11_likely 27 = .ok (.invokevirtual 198, 3) := by decide +kernel
theorem dX11_likely_30 : decode cX11_likely 30 = .ok (.invokevirtual 201, 3) := by decide +kernel
theorem dX11_likely_33 : decode cX11_likely 33 = .ok (.aload_n 0, 1) := by decide +kernel
theorem dX11_likely_34 : decode cX11_likely 34 = .ok (.getfield 62, 3) := by decide +kernel
theorem dX11_likely_37 : decode cX11_likely 37 = .ok (.invokevirtual 212, 3) := by decide +kernel
theorem dX11_likely_40 : decode cX11_likely 40 = .ok (.aload_n 0, 1) := by decide +kernel
theorem dX11_likely_41 : decode cX11_likely 41 = .ok (.getfield 62, 3) := by decide +kernel
theorem dX11_likely_44 : decode cX11_likely 44 = .ok (.invokevirtual 215, 3) := by decide +kernel
theorem dX11_likely_47 : decode cX11_likely 47 = .ok (.aload_n 0, 1) := by decide +kernel
theorem dX11_likely_48 : decode cX11_likely 48 = .ok (.getfield 62, 3) := by decide +kernel
theorem dX11_likely_51 : decode cX11_likely 51 = .ok (.iload_n 2, 1) := by decide +kernel
theorem dX11_likely_52 : decode cX11_likely 52 = .ok (.invokevirtual 218, 3) := by decide +kernel
theorem dX11_likely_55 : decode cX11_likely 55 = .ok (.aload_n 0, 1) := by decide +kernel
theorem dX11_likely_56 : decode cX11_likely 56 = .ok (.getfield 62, 3) := by decide +kernel
theorem dX11_likely_59 : decode cX11_likely 59 = .ok (.invokevirtual 221, 3) := by decide +kernel
theorem dX11_likely_62 : decode cX11_likely 62 = .ok (.iload_n 3, 1) := by decide +kernel
theorem dX11_likely_63 : decode cX11_likely 63 = .ok (.invokestatic 224, 3) := by decide +kernel
theorem dX11_likely_66 : decode cX11_likely 66 = .ok (.ireturn, 1) := by decide +kernel
theorem dX11_change_0 : decode cX11_change 0 = .ok (.aload_n 0, 1) := by decide +kernel
theorem dX11_change_1 : decode cX11_change 1 = .ok (.iload_n 1, 1) := by decide +kernel
theorem dX11_change_2 : decode cX11_change 2 = .ok (.invokevirtual 118, 3) := by decide +kernel
theorem dX11_change_5 : decode cX11_change 5 = .ok (.ifCond .eq 20, 3) := by decide +kernel
theorem dX11_change_8 : decode cX11_change 8 = .ok (.aload_n 0, 1) := by decide +kernel
theorem dX11_change_9 : decode cX11_change 9 = .ok (.iload_n 2, 1) := by decide +kernel
theorem dX11_change_10 : decode cX11_change 10 = .ok (.invokevirtual 174, 3) := by decide +kernel
theorem dX11_change_13 : decode cX11_change 13 = .ok (.ifCond .eq 12, 3) := by decide +kernel
theorem dX11_change_16 : decode cX11_change 16 = .ok (.iload_n 3, 1) := by decide +kernel
theorem dX11_change_17 : decode cX11_change 17 = .ok (.ifCond .lt 8, 3) := by decide +kernel
theorem dX11_change_20 : decode cX11_change 20 = .ok (.iload_n 3, 1) := by decide +kernel
theorem dX11_change_21 : decode cX11_change 21 = .ok (.iconst 1, 1) := by decide +kernel
theorem dX11_change_22 : decode cX11_change 22 = .ok (.if_icmp .le 5, 3) := by decide +kernel
theorem dX11_change_25 : decode cX11_change 25 = .ok (.iconst (-1), 1) := by decide +kernel
theorem dX11_change_26 : decode cX11_change 26 = .ok (.ireturn, 1) := by decide +kernel
theorem dX11_change_27 : decode cX11_change 27 = .ok (.aload_n 0, 1) := by decide +kernel
theorem dX11_change_28 : decode cX11_change 28 = .ok (.getfield 62, 3) := by decide +kernel
theorem dX11_change_31 : decode cX11_change 31 = .ok (.iload_n 1, 1) := by decide +kernel
theorem dX11_change_32 : decode cX11_change 32 = .ok (.aload_n 0, 1) := by decide +kernel
theorem dX11_change_33 : decode cX11_change 33 = .ok (.getfield 37, 3) := by decide +kernel
theorem dX11_change_36 : decode cX11_change 36 = .ok (.invokevirtual 198, 3) := by decide +kernel
theorem dX11_change_39 : decode cX11_change 39 = .ok (.invokevirtual 201, 3) := by decide +kernel
theorem dX11_change_42 : decode cX11_change 42 = .ok (.aload_n 0, 1) := by decide +kernel
theorem dX11_change_43 : decode cX11_change 43 = .ok (.getfield 62, 3) := by decide +kernel
theorem dX11_change_46 : decode cX11_change 46 = .ok (.iload_n 2, 1) := by decide +kernel
theorem dX11_change_47 : decode cX11_change 47 = .ok (.invokevirtual 228, 3) := by decide +kernel
theorem dX11_change_50 : decode cX11_change 50 = .ok (.istore 4, 2) := by decide +kernel
theorem dX11_change_52 : decode cX11_change 52 = .ok (.iload 4, 2) := by decide +kernel
theorem dX11_change_54 : decode cX11_change 54 = .ok (.bipush (-2), 2) := by decide +kernel
theorem dX11_change_56 : decode cX11_change 56 = .ok (.if_icmp .eq 8, 3) := by decide +kernel
theorem dX11_change_59 : decode cX11_change 59 = .ok (.iload_n 3, 1) := by decide +kernel
theorem dX11_change_60 : decode cX11_change 60 = .ok (.iconst 1, 1) := by decide +kernel
theorem dX11_change_61 : decode cX11_change 61 = .ok (.if_icmp .ne 8, 3) := by decide +kernel
theorem dX11_change_64 : decode cX11_change 64 = .ok (.iload 4, 2) := by decide +kernel
theorem dX11_change_66 : decode cX11_change 66 = .ok (.goto 8, 3) := by decide +kernel
theorem dX11_change_69 : decode cX11_change 69 = .ok (.iload 4, 2) := by decide +kernel
theorem dX11_change_71 : decode cX11_change 71 = .ok (.invokestatic 231, 3) := by decide +kernel
theorem dX11_change_74 : decode cX11_change 74 = .ok (.ireturn, 1) := by decide +kernel
theorem dX11_choose_0 : decode cX11_choose 0 = .ok (.aload_n 0, 1) := by decide +kernel
theorem dX11_choose_1 : decode cX11_choose 1 = .ok (.iload_n 1, 1) := by decide +kernel
theorem dX11_choose_2 : decode cX11_choose 2 = .ok (.invokevirtual 118, 3) := by decide +kernel
theorem dX11_choose_5 : decode cX11_choose 5 = .ok (.ifCond .eq 11, 3) := by decide +kernel
theorem dX11_choose_8 : decode cX11_choose 8 = .ok (.aload_n 0, 1) := by decide +kernel
theorem dX11_choose_9 : decode cX11_choose 9 = .ok (.iload_n 2, 1) := by decide +kernel
theorem dX11_choose_10 : decode cX11_choose 10 = .ok (.invokevirtual 174, 3) := by decide +kernel
theorem dX11_choose_13 : decode cX11_choose 13 = .ok (.ifCond .ne 5, 3) := by decide +kernel
theorem dX11_choose_16 : decode cX11_choose 16 = .ok (.iconst (-1), 1) := by decide +kernel
theorem dX11_choose_17 : decode cX11_choose 17 = .ok (.ireturn, 1) := by decide +kernel
theorem dX11_choose_18 : decode cX11_choose 18 = .ok (.aload_n 0, 1) := by decide +kernel
theorem dX11_choose_19 : decode cX11_choose 19 = .ok (.getfield 62, 3) := by decide +kernel
theorem dX11_choose_22 : decode cX11_choose 22 = .ok (.iload_n 1, 1) := by decide +kernel
theorem dX11_choose_23 : decode cX11_choose 23 = .ok (.aload_n 0, 1) := by decide +kernel
theorem dX11_choose_24 : decode cX11_choose 24 = .ok (.getfield 37, 3) := by decide +kernel
theorem dX11_choose_27 : decode cX11_choose 27 = .ok (.invokevirtual 198, 3) := by decide +kernel
theorem dX11_choose_30 : decode cX11_choose 30 = .ok (.invokevirtual 201, 3) := by decide +kernel
theorem dX11_choose_33 : decode cX11_choose 33 = .ok (.aload_n 0, 1) := by decide +kernel
theorem dX11_choose_34 : decode cX11_choose 34 = .ok (.getfield 62, 3) := by decide +kernel
theorem dX11_choose_37 : decode cX11_choose 37 = .ok (.iload_n 2, 1) := by decide +kernel
theorem dX11_choose_38 : decode cX11_choose 38 = .ok (.invokevirtual 236, 3) := by decide +kernel
theorem dX11_choose_41 : decode cX11_choose 41 = .ok (.pop, 1) := by decide +kernel
theorem dX11_choose_42 : decode cX11_choose 42 = .ok (.aload_n 0, 1) := by decide +kernel
theorem dX11_choose_43 : decode cX11_choose 43 = .ok (.getfield 62, 3) := by decide +kernel
theorem dX11_choose_46 : decode cX11_choose 46 = .ok (.iload_n 3, 1) := by decide +kernel
theorem dX11_choose_47 : decode cX11_choose 47 = .ok (.invokevirtual 239, 3) := by decide +kernel
theorem dX11_choose_50 : decode cX11_choose 50 = .ok (.ireturn, 1) := by decide +kernel
theorem dX11_chosen_0 : decode cX11_chosen 0 = .ok (.aload_n 0, 1) := by decide +kernel
theorem dX11_chosen_1 : decode cX11_chosen 1 = .ok (.iload_n 1, 1) := by decide +kernel
theorem dX11_chosen_2 : decode cX11_chosen 2 = .ok (.invokevirtual 118, 3) := by decide +kernel
theorem dX11_chosen_5 : decode cX11_chosen 5 = .ok (.ifCond .eq 11, 3) := by decide +kernel
theorem dX11_chosen_8 : decode cX11_chosen 8 = .ok (.aload_n 0, 1) := by decide +kernel
theorem dX11_chosen_9 : decode cX11_chosen 9 = .ok (.iload_n 2, 1) := by decide +kernel
theorem dX11_chosen_10 : decode cX11_chosen 10 = .ok (.invokevirtual 174, 3) := by decide +kernel
theorem dX11_chosen_13 : decode cX11_chosen 13 = .ok (.ifCond .ne 5, 3) := by decide +kernel
theorem dX11_chosen_16 : decode cX11_chosen 16 = .ok (.iconst (-1), 1) := by decide +kernel
theorem dX11_chosen_17 : decode cX11_chosen 17 = .ok (.ireturn, 1) := by decide +kernel
theorem dX11_chosen_18 : decode cX11_chosen 18 = .ok (.aload_n 0, 1) := by decide +kernel
theorem dX11_chosen_19 : decode cX11_chosen 19 = .ok (.getfield 62, 3) := by decide +kernel
theorem dX11_chosen_22 : decode cX11_chosen 22 = .ok (.iload_n 1, 1) := by decide +kernel
theorem dX11_chosen_23 : decode cX11_chosen 23 = .ok (.aload_n 0, 1) := by decide +kernel
theorem dX11_chosen_24 : decode cX11_chosen 24 = .ok (.getfield 37, 3) := by decide +kernel
theorem dX11_chosen_27 : decode cX11_chosen 27 = .ok (.invokevirtual 198, 3) := by decide +kernel
theorem dX11_chosen_30 : decode cX11_chosen 30 = .ok (.invokevirtual 201, 3) := by decide +kernel
theorem dX11_chosen_33 : decode cX11_chosen 33 = .ok (.aload_n 0, 1) := by decide +kernel
theorem dX11_chosen_34 : decode cX11_chosen 34 = .ok (.getfield 62, 3) := by decide +kernel
theorem dX11_chosen_37 : decode cX11_chosen 37 = .ok (.iload_n 2, 1) := by decide +kernel
theorem dX11_chosen_38 : decode cX11_chosen 38 = .ok (.invokevirtual 236, 3) := by decide +kernel
theorem dX11_chosen_41 : decode cX11_chosen 41 = .ok (.istore 4, 2) := by decide +kernel
theorem dX11_chosen_43 : decode cX11_chosen 43 = .ok (.iload 4, 2) := by decide +kernel
theorem dX11_chosen_45 : decode cX11_chosen 45 = .ok (.aload_n 0, 1) := by decide +kernel
theorem dX11_chosen_46 : decode cX11_chosen 46 = .ok (.getfield 62, 3) := by decide +kernel
theorem dX11_chosen_49 : decode cX11_chosen 49 = .ok (.invokevirtual 221, 3) := by decide +kernel
theorem dX11_chosen_52 : decode cX11_chosen 52 = .ok (.iload_n 3, 1) := by decide +kernel
theorem dX11_chosen_53 : decode cX11_chosen 53 = .ok (.invokestatic 224, 3) := by decide +kernel
theorem dX11_chosen_56 : decode cX11_chosen 56 = .ok (.ireturn, 1) := by decide +kernel
theorem dX11_mumble_0 : decode cX11_mumble 0 = .ok (.aload_n 0, 1) := by decide +kernel
theorem dX11_mumble_1 : decode cX11_mumble 1 = .ok (.iload_n 1, 1) := by decide +kernel
theorem dX11_mumble_2 : decode cX11_mumble 2 = .ok (.invokevirtual 118, 3) := by decide +kernel
theorem dX11_mumble_5 : decode cX11_mumble 5 = .ok (.ifCond .eq 8, 3) := by decide +kernel
theorem dX11_mumble_8 : decode cX11_mumble 8 = .ok (.iload_n 2, 1) := by decide +kernel
theorem dX11_mumble_9 : decode cX11_mumble 9 = .ok (.iconst (-1), 1) := by decide +kernel
theorem dX11_mumble_10 : decode cX11_mumble 10 = .ok (.if_icmp .ge 5, 3) := by decide +kernel
theorem dX11_mumble_13 : decode cX11_mumble 13 = .ok (.iconst (-1), 1) := by decide +kernel
theorem dX11_mumble_14 : decode cX11_mumble 14 = .ok (.ireturn, 1) := by decide +kernel
theorem dX11_mumble_15 : decode cX11_mumble 15 = .ok (.aload_n 0, 1) := by decide +kernel
theorem dX11_mumble_16 : decode cX11_mumble 16 = .ok (.getfield 62, 3) := by decide +kernel
theorem dX11_mumble_19 : decode cX11_mumble 19 = .ok (.iload_n 1, 1) := by decide +kernel
theorem dX11_mumble_20 : decode cX11_mumble 20 = .ok (.aload_n 0, 1) := by decide +kernel
theorem dX11_mumble_21 : decode cX11_mumble 21 = .ok (.getfield 37, 3) := by decide +kernel
theorem dX11_mumble_24 : decode cX11_mumble 24 = .ok (.invokevirtual 198, 3) := by decide +kernel
theorem dX11_mumble_27 : decode cX11_mumble 27 = .ok (.invokevirtual 201, 3) := by decide +kernel
theorem dX11_mumble_30 : decode cX11_mumble 30 = .ok (.aload_n 0, 1) := by decide +kernel
theorem dX11_mumble_31 : decode cX11_mumble 31 = .ok (.getfield 62, 3) := by decide +kernel
theorem dX11_mumble_34 : decode cX11_mumble 34 = .ok (.iload_n 1, 1) := by decide +kernel
theorem dX11_mumble_35 : decode cX11_mumble 35 = .ok (.iload_n 2, 1) := by decide +kernel
theorem dX11_mumble_36 : decode cX11_mumble 36 = .ok (.invokevirtual 242, 3) := by decide +kernel
theorem dX11_mumble_39 : decode cX11_mumble 39 = .ok (.ireturn, 1) := by decide +kernel
theorem dX11_jury_0 : decode cX11_jury 0 = .ok (.aload_n 0, 1) := by decide +kernel
theorem dX11_jury_1 : decode cX11_jury 1 = .ok (.iload_n 1, 1) := by decide +kernel
theorem dX11_jury_2 : decode cX11_jury 2 = .ok (.invokevirtual 118, 3) := by decide +kernel
theorem dX11_jury_5 : decode cX11_jury 5 = .ok (.ifCond .eq 23, 3) := by decide +kernel
theorem dX11_jury_8 : decode cX11_jury 8 = .ok (.iload_n 2, 1) := by decide +kernel
theorem dX11_jury_9 : decode cX11_jury 9 = .ok (.iconst 1, 1) := by decide +kernel
theorem dX11_jury_10 : decode cX11_jury 10 = .ok (.if_icmp .lt 18, 3) := by decide +kernel
theorem dX11_jury_13 : decode cX11_jury 13 = .ok (.iload_n 2, 1) := by decide +kernel
theorem dX11_jury_14 : decode cX11_jury 14 = .ok (.bipush 8, 2) := by decide +kernel
theorem dX11_jury_16 : decode cX11_jury 16 = .ok (.if_icmp .gt 12, 3) := by decide +kernel
theorem dX11_jury_19 : decode cX11_jury 19 = .ok (.iload_n 3, 1) := by decide +kernel
theorem dX11_jury_20 : decode cX11_jury 20 = .ok (.ifCond .lt 8, 3) := by decide +kernel
theorem dX11_jury_23 : decode cX11_jury 23 = .ok (.iload_n 3, 1) := by decide +kernel
theorem dX11_jury_24 : decode cX11_jury 24 = .ok (.iconst 1, 1) := by decide +kernel
theorem dX11_jury_25 : decode cX11_jury 25 = .ok (.if_icmp .le 5, 3) := by decide +kernel
theorem dX11_jury_28 : decode cX11_jury 28 = .ok (.iconst (-1), 1) := by decide +kernel
theorem dX11_jury_29 : decode cX11_jury 29 = .ok (.ireturn, 1) := by decide +kernel
theorem dX11_jury_30 : decode cX11_jury 30 = .ok (.iload_n 2, 1) := by decide +kernel
theorem dX11_jury_31 : decode cX11_jury 31 = .ok (.aload_n 0, 1) := by decide +kernel
theorem dX11_jury_32 : decode cX11_jury 32 = .ok (.getfield 30, 3) := by decide +kernel
theorem dX11_jury_35 : decode cX11_jury 35 = .ok (.getfield 151, 3) := by decide +kernel
theorem dX11_jury_38 : decode cX11_jury 38 = .ok (.if_icmp .gt 11, 3) := by decide +kernel
theorem dX11_jury_41 : decode cX11_jury 41 = .ok (.aload_n 0, 1) := by decide +kernel
theorem dX11_jury_42 : decode cX11_jury 42 = .ok (.iload_n 1, 1) := by decide +kernel
theorem dX11_jury_43 : decode cX11_jury 43 = .ok (.invokevirtual 125, 3) := by decide +kernel
theorem dX11_jury_46 : decode cX11_jury 46 = .ok (.ifCond .ne 6, 3) := by decide +kernel
theorem dX11_jury_49 : decode cX11_jury 49 = .ok (.bipush (-2), 2) := by decide +kernel
theorem dX11_jury_51 : decode cX11_jury 51 = .ok (.ireturn, 1) := by decide +kernel
theorem dX11_jury_52 : decode cX11_jury 52 = .ok (.aload_n 0, 1) := by decide +kernel
theorem dX11_jury_53 : decode cX11_jury 53 = .ok (.getfield 62, 3) := by decide +kernel
theorem dX11_jury_56 : decode cX11_jury 56 = .ok (.iload_n 1, 1) := by decide +kernel
theorem dX11_jury_57 : decode cX11_jury 57 = .ok (.aload_n 0, 1) := by decide +kernel
theorem dX11_jury_58 : decode cX11_jury 58 = .ok (.getfield 37, 3) := by decide +kernel
theorem dX11_jury_61 : decode cX11_jury 61 = .ok (.invokevirtual 198, 3) := by decide +kernel
theorem dX11_jury_64 : decode cX11_jury 64 = .ok (.invokevirtual 201, 3) := by decide +kernel
theorem dX11_jury_67 : decode cX11_jury 67 = .ok (.aload_n 0, 1) := by decide +kernel
theorem dX11_jury_68 : decode cX11_jury 68 = .ok (.getfield 62, 3) := by decide +kernel
theorem dX11_jury_71 : decode cX11_jury 71 = .ok (.invokevirtual 245, 3) := by decide +kernel
theorem dX11_jury_74 : decode cX11_jury 74 = .ok (.aload_n 0, 1) := by decide +kernel
theorem dX11_jury_75 : decode cX11_jury 75 = .ok (.getfield 62, 3) := by decide +kernel
theorem dX11_jury_78 : decode cX11_jury 78 = .ok (.iload_n 2, 1) := by decide +kernel
theorem dX11_jury_79 : decode cX11_jury 79 = .ok (.invokevirtual 248, 3) := by decide +kernel
theorem dX11_jury_82 : decode cX11_jury 82 = .ok (.istore 4, 2) := by decide +kernel
theorem dX11_jury_84 : decode cX11_jury 84 = .ok (.iload_n 3, 1) := by decide +kernel
theorem dX11_jury_85 : decode cX11_jury 85 = .ok (.ifCond .ne 8, 3) := by decide +kernel
theorem dX11_jury_88 : decode cX11_jury 88 = .ok (.iload 4, 2) := by decide +kernel
theorem dX11_jury_90 : decode cX11_jury 90 = .ok (.goto 15, 3) := by decide +kernel
theorem dX11_jury_93 : decode cX11_jury 93 = .ok (.aload_n 0, 1) := by decide +kernel
theorem dX11_jury_94 : decode cX11_jury 94 = .ok (.getfield 62, 3) := by decide +kernel
theorem dX11_jury_97 : decode cX11_jury 97 = .ok (.iload 4, 2) := by decide +kernel
theorem dX11_jury_99 : decode cX11_jury 99 = .ok (.invokevirtual 251, 3) := by decide +kernel
theorem dX11_jury_102 : decode cX11_jury 102 = .ok (.invokestatic 254, 3) := by decide +kernel
theorem dX11_jury_105 : decode cX11_jury 105 = .ok (.ireturn, 1) := by decide +kernel
theorem dX11_say_0 : decode cX11_say 0 = .ok (.aload_n 0, 1) := by decide +kernel
theorem dX11_say_1 : decode cX11_say 1 = .ok (.iload_n 1, 1) := by decide +kernel
theorem dX11_say_2 : decode cX11_say 2 = .ok (.invokevirtual 101, 3) := by decide +kernel
theorem dX11_say_5 : decode cX11_say 5 = .ok (.ifCond .eq 13, 3) := by decide +kernel
theorem dX11_say_8 : decode cX11_say 8 = .ok (.iload_n 2, 1) := by decide +kernel
theorem dX11_say_9 : decode cX11_say 9 = .ok (.ifCond .lt 9, 3) := by decide +kernel
theorem dX11_say_12 : decode cX11_say 12 = .ok (.iload_n 2, 1) := by decide +kernel
theorem dX11_say_13 : decode cX11_say 13 = .ok (.bipush 99, 2) := by decide +kernel
theorem dX11_say_15 : decode cX11_say 15 = .ok (.if_icmp .le 5, 3) := by decide +kernel
theorem dX11_say_18 : decode cX11_say 18 = .ok (.iconst (-1), 1) := by decide +kernel
theorem dX11_say_19 : decode cX11_say 19 = .ok (.ireturn, 1) := by decide +kernel
theorem dX11_say_20 : decode cX11_say 20 = .ok (.aload_n 0, 1) := by decide +kernel
theorem dX11_say_21 : decode cX11_say 21 = .ok (.getfield 53, 3) := by decide +kernel
theorem dX11_say_24 : decode cX11_say 24 = .ok (.aload_n 0, 1) := by decide +kernel
theorem dX11_say_25 : decode cX11_say 25 = .ok (.getfield 37, 3) := by decide +kernel
theorem dX11_say_28 : decode cX11_say 28 = .ok (.iload_n 1, 1) := by decide +kernel
theorem dX11_say_29 : decode cX11_say 29 = .ok (.invokevirtual 134, 3) := by decide +kernel
theorem dX11_say_32 : decode cX11_say 32 = .ok (.aload_n 0, 1) := by decide +kernel
theorem dX11_say_33 : decode cX11_say 33 = .ok (.getfield 53, 3) := by decide +kernel
theorem dX11_say_36 : decode cX11_say 36 = .ok (.iconst 0, 1) := by decide +kernel
theorem dX11_say_37 : decode cX11_say 37 = .ok (.putfield 138, 3) := by decide +kernel
theorem dX11_say_40 : decode cX11_say 40 = .ok (.iconst 0, 1) := by decide +kernel
theorem dX11_say_41 : decode cX11_say 41 = .ok (.istore_n 3, 1) := by decide +kernel
theorem dX11_say_42 : decode cX11_say 42 = .ok (.iload_n 3, 1) := by decide +kernel
theorem dX11_say_43 : decode cX11_say 43 = .ok (.bipush 99, 2) := by decide +kernel
theorem dX11_say_45 : decode cX11_say 45 = .ok (.if_icmp .gt 23, 3) := by decide +kernel
theorem dX11_say_48 : decode cX11_say 48 = .ok (.aload_n 0, 1) := by decide +kernel
theorem dX11_say_49 : decode cX11_say 49 = .ok (.getfield 53, 3) := by decide +kernel
theorem dX11_say_52 : decode cX11_say 52 = .ok (.iload_n 3, 1) := by decide +kernel
theorem dX11_say_53 : decode cX11_say 53 = .ok (.invokevirtual 257, 3) := by decide +kernel
theorem dX11_say_56 : decode cX11_say 56 = .ok (.iload_n 2, 1) := by decide +kernel
theorem dX11_say_57 : decode cX11_say 57 = .ok (.if_icmp .lt 5, 3) := by decide +kernel
theorem dX11_say_60 : decode cX11_say 60 = .ok (.iload_n 3, 1) := by decide +kernel
theorem dX11_say_61 : decode cX11_say 61 = .ok (.ireturn, 1) := by decide +kernel
theorem dX11_say_62 : decode cX11_say 62 = .ok (.iinc 3 1, 3) := by decide +kernel
theorem dX11_say_65 : decode cX11_say 65 = .ok (.goto (-23), 3) := by decide +kernel
theorem dX11_say_68 : decode cX11_say 68 = .ok (.bipush (-2), 2) := by decide +kernel
theorem dX11_say_70 : decode cX11_say 70 = .ok (.ireturn, 1) := by decide +kernel
theorem dX11_fine_0 : decode cX11_fine 0 = .ok (.aload_n 0, 1) := by decide +kernel
theorem dX11_fine_1 : decode cX11_fine 1 = .ok (.iload_n 1, 1) := by decide +kernel
theorem dX11_fine_2 : decode cX11_fine 2 = .ok (.invokevirtual 101, 3) := by decide +kernel
theorem dX11_fine_5 : decode cX11_fine 5 = .ok (.ifCond .ne 5, 3) := by decide +kernel
theorem dX11_fine_8 : decode cX11_fine 8 = .ok (.iconst (-1), 1) := by decide +kernel
theorem dX11_fine_9 : decode cX11_fine 9 = .ok (.ireturn, 1) := by decide +kernel
theorem dX11_fine_10 : decode cX11_fine 10 = .ok (.aload_n 0, 1) := by decide +kernel
theorem dX11_fine_11 : decode cX11_fine 11 = .ok (.iload_n 1, 1) := by decide +kernel
theorem dX11_fine_12 : decode cX11_fine 12 = .ok (.invokevirtual 154, 3) := by decide +kernel
theorem dX11_fine_15 : decode cX11_fine 15 = .ok (.ifCond .ne 13, 3) := by decide +kernel
theorem dX11_fine_18 : decode cX11_fine 18 = .ok (.aload_n 0, 1) := by decide +kernel
theorem dX11_fine_19 : decode cX11_fine 19 = .ok (.getfield 30, 3) := by decide +kernel
theorem dX11_fine_22 : decode cX11_fine 22 = .ok (.getfield 151, 3) := by decide +kernel
theorem dX11_fine_25 : decode cX11_fine 25 = .ok (.ifCond .ne 6, 3) := by decide +kernel
theorem dX11_fine_28 : decode cX11_fine 28 = .ok (.bipush (-2), 2) := by decide +kernel
theorem dX11_fine_30 : decode cX11_fine 30 = .ok (.ireturn, 1) := by decide +kernel
theorem dX11_fine_31 : decode cX11_fine 31 = .ok (.aload_n 0, 1) := by decide +kernel
theorem dX11_fine_32 : decode cX11_fine 32 = .ok (.iload_n 1, 1) := by decide +kernel
theorem dX11_fine_33 : decode cX11_fine 33 = .ok (.iload_n 2, 1) := by decide +kernel
theorem dX11_fine_34 : decode cX11_fine 34 = .ok (.ifCond .eq 7, 3) := by decide +kernel
theorem dX11_fine_37 : decode cX11_fine 37 = .ok (.iconst 1, 1) := by decide +kernel
theorem dX11_fine_38 : decode cX11_fine 38 = .ok (.goto 4, 3) := by decide +kernel
theorem dX11_fine_41 : decode cX11_fine 41 = .ok (.iconst 0, 1) := by decide +kernel
theorem dX11_fine_42 : decode cX11_fine 42 = .ok (.invokevirtual 160, 3) := by decide +kernel
theorem dX11_fine_45 : decode cX11_fine 45 = .ok (.istore_n 3, 1) := by decide +kernel
theorem dX11_fine_46 : decode cX11_fine 46 = .ok (.aload_n 0, 1) := by decide +kernel
theorem dX11_fine_47 : decode cX11_fine 47 = .ok (.getfield 53, 3) := by decide +kernel
theorem dX11_fine_50 : decode cX11_fine 50 = .ok (.iload_n 3, 1) := by decide +kernel
theorem dX11_fine_51 : decode cX11_fine 51 = .ok (.invokevirtual 260, 3) := by decide +kernel
theorem dX11_fine_54 : decode cX11_fine 54 = .ok (.aload_n 0, 1) := by decide +kernel
theorem dX11_fine_55 : decode cX11_fine 55 = .ok (.getfield 37, 3) := by decide +kernel
theorem dX11_fine_58 : decode cX11_fine 58 = .ok (.iload_n 1, 1) := by decide +kernel
theorem dX11_fine_59 : decode cX11_fine 59 = .ok (.iconst 2, 1) := by decide +kernel
theorem dX11_fine_60 : decode cX11_fine 60 = .ok (.invokevirtual 105, 3) := by decide +kernel
theorem dX11_fine_63 : decode cX11_fine 63 = .ok (.invokestatic 263, 3) := by decide +kernel
theorem dX11_fine_66 : decode cX11_fine 66 = .ok (.ireturn, 1) := by decide +kernel
theorem dX11_ahead_0 : decode cX11_ahead 0 = .ok (.aload_n 0, 1) := by decide +kernel
theorem dX11_ahead_1 : decode cX11_ahead 1 = .ok (.iload_n 1, 1) := by decide +kernel
theorem dX11_ahead_2 : decode cX11_ahead 2 = .ok (.invokevirtual 118, 3) := by decide +kernel
theorem dX11_ahead_5 : decode cX11_ahead 5 = .ok (.ifCond .ne 5, 3) := by decide +kernel
theorem dX11_ahead_8 : decode cX11_ahead 8 = .ok (.iconst (-1), 1) := by decide +kernel
theorem dX11_ahead_9 : decode cX11_ahead 9 = .ok (.ireturn, 1) := by decide +kernel
theorem dX11_ahead_10 : decode cX11_ahead 10 = .ok (.aload_n 0, 1) := by decide +kernel
theorem dX11_ahead_11 : decode cX11_ahead 11 = .ok (.getfield 62, 3) := by decide +kernel
theorem dX11_ahead_14 : decode cX11_ahead 14 = .ok (.iload_n 1, 1) := by decide +kernel
theorem dX11_ahead_15 : decode cX11_ahead 15 = .ok (.aload_n 0, 1) := by decide +kernel
theorem dX11_ahead_16 : decode cX11_ahead 16 = .ok (.getfield 37, 3) := by decide +kernel
theorem dX11_ahead_19 : decode cX11_ahead 19 = .ok (.invokevirtual 198, 3) := by decide +kernel
theorem dX11_ahead_22 : decode cX11_ahead 22 = .ok (.invokevirtual 201, 3) := by decide +kernel
theorem dX11_ahead_25 : decode cX11_ahead 25 = .ok (.aload_n 0, 1) := by decide +kernel
theorem dX11_ahead_26 : decode cX11_ahead 26 = .ok (.getfield 62, 3) := by decide +kernel
theorem dX11_ahead_29 : decode cX11_ahead 29 = .ok (.invokevirtual 204, 3) := by decide +kernel
theorem dX11_ahead_32 : decode cX11_ahead 32 = .ok (.invokestatic 268, 3) := by decide +kernel
theorem dX11_ahead_35 : decode cX11_ahead 35 = .ok (.ireturn, 1) := by decide +kernel
theorem dX11_harsh_0 : decode cX11_harsh 0 = .ok (.aload_n 0, 1) := by decide +kernel
theorem dX11_harsh_1 : decode cX11_harsh 1 = .ok (.iload_n 1, 1) := by decide +kernel
theorem dX11_harsh_2 : decode cX11_harsh 2 = .ok (.invokevirtual 118, 3) := by decide +kernel
theorem dX11_harsh_5 : decode cX11_harsh 5 = .ok (.ifCond .ne 5, 3) := by decide +kernel
theorem dX11_harsh_8 : decode cX11_harsh 8 = .ok (.iconst (-1), 1) := by decide +kernel
theorem dX11_harsh_9 : decode cX11_harsh 9 = .ok (.ireturn, 1) := by decide +kernel
theorem dX11_harsh_10 : decode cX11_harsh 10 = .ok (.aload_n 0, 1) := by decide +kernel
theorem dX11_harsh_11 : decode cX11_harsh 11 = .ok (.iload_n 1, 1) := by decide +kernel
theorem dX11_harsh_12 : decode cX11_harsh 12 = .ok (.invokevirtual 125, 3) := by decide +kernel
theorem dX11_harsh_15 : decode cX11_harsh 15 = .ok (.ifCond .eq 13, 3) := by decide +kernel
theorem dX11_harsh_18 : decode cX11_harsh 18 = .ok (.aload_n 0, 1) := by decide +kernel
theorem dX11_harsh_19 : decode cX11_harsh 19 = .ok (.getfield 30, 3) := by decide +kernel
theorem dX11_harsh_22 : decode cX11_harsh 22 = .ok (.getfield 151, 3) := by decide +kernel
theorem dX11_harsh_25 : decode cX11_harsh 25 = .ok (.ifCond .ne 6, 3) := by decide +kernel
theorem dX11_harsh_28 : decode cX11_harsh 28 = .ok (.bipush (-2), 2) := by decide +kernel
theorem dX11_harsh_30 : decode cX11_harsh 30 = .ok (.ireturn, 1) := by decide +kernel
theorem dX11_harsh_31 : decode cX11_harsh 31 = .ok (.aload_n 0, 1) := by decide +kernel
theorem dX11_harsh_32 : decode cX11_harsh 32 = .ok (.getfield 62, 3) := by decide +kernel
theorem dX11_harsh_35 : decode cX11_harsh 35 = .ok (.iload_n 1, 1) := by decide +kernel
theorem dX11_harsh_36 : decode cX11_harsh 36 = .ok (.aload_n 0, 1) := by decide +kernel
theorem dX11_harsh_37 : decode cX11_harsh 37 = .ok (.getfield 37, 3) := by decide +kernel
theorem dX11_harsh_40 : decode cX11_harsh 40 = .ok (.invokevirtual 198, 3) := by decide +kernel
theorem dX11_harsh_43 : decode cX11_harsh 43 = .ok (.invokevirtual 201, 3) := by decide +kernel
theorem dX11_harsh_46 : decode cX11_harsh 46 = .ok (.aload_n 0, 1) := by decide +kernel
theorem dX11_harsh_47 : decode cX11_harsh 47 = .ok (.getfield 62, 3) := by decide +kernel
theorem dX11_harsh_50 : decode cX11_harsh 50 = .ok (.invokevirtual 245, 3) := by decide +kernel
theorem dX11_harsh_53 : decode cX11_harsh 53 = .ok (.aload_n 0, 1) := by decide +kernel
theorem dX11_harsh_54 : decode cX11_harsh 54 = .ok (.getfield 62, 3) := by decide +kernel
theorem dX11_harsh_57 : decode cX11_harsh 57 = .ok (.iload_n 2, 1) := by decide +kernel
theorem dX11_harsh_58 : decode cX11_harsh 58 = .ok (.invokevirtual 271, 3) := by decide +kernel
theorem dX11_harsh_61 : decode cX11_harsh 61 = .ok (.ireturn, 1) := by decide +kernel
theorem dX11_praiseFor_0 : decode cX11_praiseFor 0 = .ok (.aload_n 0, 1) := by decide +kernel
theorem dX11_praiseFor_1 : decode cX11_praiseFor 1 = .ok (.iload_n 1, 1) := by decide +kernel
theorem dX11_praiseFor_2 : decode cX11_praiseFor 2 = .ok (.invokevirtual 118, 3) := by decide +kernel
theorem dX11_praiseFor_5 : decode cX11_praiseFor 5 = .ok (.ifCond .eq 19, 3) := by decide +kernel
theorem dX11_praiseFor_8 : decode cX11_praiseFor 8 = .ok (.aload_n 0, 1) := by decide +kernel
theorem dX11_praiseFor_9 : decode cX11_praiseFor 9 = .ok (.iload_n 2, 1) := by decide +kernel
theorem dX11_praiseFor_10 : decode cX11_praiseFor 10 = .ok (.invokevirtual 174, 3) := by decide +kernel
theorem dX11_praiseFor_13 : decode cX11_praiseFor 13 = .ok (.ifCond .eq 11, 3) := by decide +kernel
theorem dX11_praiseFor_16 : decode cX11_praiseFor 16 = .ok (.aload_n 0, 1) := by decide +kernel
theorem dX11_praiseFor_17 : decode cX11_praiseFor 17 = .ok (.iload_n 3, 1) := by decide +kernel
theorem dX11_praiseFor_18 : decode cX11_praiseFor 18 = .ok (.invokevirtual 101, 3) := by decide +kernel
theorem dX11_praiseFor_21 : decode cX11_praiseFor 21 = .ok (.ifCond .ne 5, 3) := by decide +kernel
theorem dX11_praiseFor_24 : decode cX11_praiseFor 24 = .ok (.iconst (-1), 1) := by decide +kernel
theorem dX11_praiseFor_25 : decode cX11_praiseFor 25 = .ok (.ireturn, 1) := by decide +kernel
theorem dX11_praiseFor_26 : decode cX11_praiseFor 26 = .ok (.aload_n 0, 1) := by decide +kernel
theorem dX11_praiseFor_27 : decode cX11_praiseFor 27 = .ok (.getfield 37, 3) := by decide +kernel
theorem dX11_praiseFor_30 : decode cX11_praiseFor 30 = .ok (.iload_n 3, 1) := by decide +kernel
theorem dX11_praiseFor_31 : decode cX11_praiseFor 31 = .ok (.iconst 3, 1) := by decide +kernel
theorem dX11_praiseFor_32 : decode cX11_praiseFor 32 = .ok (.invokevirtual 105, 3) := by decide +kernel
theorem dX11_praiseFor_35 : decode cX11_praiseFor 35 = .ok (.iload_n 1, 1) := by decide +kernel
theorem dX11_praiseFor_36 : decode cX11_praiseFor 36 = .ok (.if_icmp .eq 6, 3) := by decide +kernel
theorem dX11_praiseFor_39 : decode cX11_praiseFor 39 = .ok (.bipush (-2), 2) := by decide +kernel
theorem dX11_praiseFor_41 : decode cX11_praiseFor 41 = .ok (.ireturn, 1) := by decide +kernel
theorem dX11_praiseFor_42 : decode cX11_praiseFor 42 = .ok (.aload_n 0, 1) := by decide +kernel
theorem dX11_praiseFor_43 : decode cX11_praiseFor 43 = .ok (.getfield 62, 3) := by decide +kernel
theorem dX11_praiseFor_46 : decode cX11_praiseFor 46 = .ok (.iload_n 1, 1) := by decide +kernel
theorem dX11_praiseFor_47 : decode cX11_praiseFor 47 = .ok (.aload_n 0, 1) := by decide +kernel
theorem dX11_praiseFor_48 : decode cX11_praiseFor 48 = .ok (.getfield 37, 3) := by decide +kernel
theorem dX11_praiseFor_51 : decode cX11_praiseFor 51 = .ok (.invokevirtual 198, 3) := by decide +kernel
theorem dX11_praiseFor_54 : decode cX11_praiseFor 54 = .ok (.invokevirtual 201, 3) := by decide +kernel
theorem dX11_praiseFor_57 : decode cX11_praiseFor 57 = .ok (.aload_n 0, 1) := by decide +kernel
theorem dX11_praiseFor_58 : decode cX11_praiseFor 58 = .ok (.getfield 53, 3) := by decide +kernel
theorem dX11_praiseFor_61 : decode cX11_praiseFor 61 = .ok (.aload_n 0, 1) := by decide +kernel
theorem dX11_praiseFor_62 : decode cX11_praiseFor 62 = .ok (.getfield 37, 3) := by decide +kernel
theorem dX11_praiseFor_65 : decode cX11_praiseFor 65 = .ok (.iload_n 3, 1) := by decide +kernel
theorem dX11_praiseFor_66 : decode cX11_praiseFor 66 = .ok (.invokevirtual 134, 3) := by decide +kernel
theorem dX11_praiseFor_69 : decode cX11_praiseFor 69 = .ok (.aload_n 0, 1) := by decide +kernel
theorem dX11_praiseFor_70 : decode cX11_praiseFor 70 = .ok (.getfield 62, 3) := by decide +kernel
theorem dX11_praiseFor_73 : decode cX11_praiseFor 73 = .ok (.invokevirtual 204, 3) := by decide +kernel
theorem dX11_praiseFor_76 : decode cX11_praiseFor 76 = .ok (.aload_n 0, 1) := by decide +kernel
theorem dX11_praiseFor_77 : decode cX11_praiseFor 77 = .ok (.getfield 53, 3) := by decide +kernel
theorem dX11_praiseFor_80 : decode cX11_praiseFor 80 = .ok (.invokevirtual 275, 3) := by decide +kernel
theorem dX11_praiseFor_83 : decode cX11_praiseFor 83 = .ok (.lsub, 1) := by decide +kernel
theorem dX11_praiseFor_84 : decode cX11_praiseFor 84 = .ok (.lstore 4, 2) := by decide +kernel
theorem dX11_praiseFor_86 : decode cX11_praiseFor 86 = .ok (.aload_n 0, 1) := by decide +kernel
theorem dX11_praiseFor_87 : decode cX11_praiseFor 87 = .ok (.getfield 53, 3) := by decide +kernel
theorem dX11_praiseFor_90 : decode cX11_praiseFor 90 = .ok (.getfield 278, 3) := by decide +kernel
theorem dX11_praiseFor_93 : decode cX11_praiseFor 93 = .ok (.istore 6, 2) := by decide +kernel
theorem dX11_praiseFor_95 : decode cX11_praiseFor 95 = .ok (.iconst 0, 1) := by decide +kernel
theorem dX11_praiseFor_96 : decode cX11_praiseFor 96 = .ok (.istore 7, 2) := by decide +kernel
theorem dX11_praiseFor_98 : decode cX11_praiseFor 98 = .ok (.iload 6, 2) := by decide +kernel
theorem dX11_praiseFor_100 : decode cX11_praiseFor 100 = .ok (.iload 7, 2) := by decide +kernel
theorem dX11_praiseFor_102 : decode cX11_praiseFor 102 = .ok (.iadd, 1) := by decide +kernel
theorem dX11_praiseFor_103 : decode cX11_praiseFor 103 = .ok (.bipush 9, 2) := by decide +kernel
theorem dX11_praiseFor_105 : decode cX11_praiseFor 105 = .ok (.if_icmp .gt 41, 3) := by decide +kernel
theorem dX11_praiseFor_108 : decode cX11_praiseFor 108 = .ok (.aload_n 0, 1) := by decide +kernel
theorem dX11_praiseFor_109 : decode cX11_praiseFor 109 = .ok (.getfield 53, 3) := by decide +kernel
theorem dX11_praiseFor_112 : decode cX11_praiseFor 112 = .ok (.iload 6, 2) := by decide +kernel
theorem dX11_praiseFor_114 : decode cX11_praiseFor 114 = .ok (.iload 7, 2) := by decide +kernel
theorem dX11_praiseFor_116 : decode cX11_praiseFor 116 = .ok (.iadd, 1) := by decide +kernel
theorem dX11_praiseFor_117 : decode cX11_praiseFor 117 = .ok (.putfield 278, 3) := by decide +kernel
theorem dX11_praiseFor_120 : decode cX11_praiseFor 120 = .ok (.lload 4, 2) := by decide +kernel
theorem dX11_praiseFor_122 : decode cX11_praiseFor 122 = .ok (.aload_n 0, 1) := by decide +kernel
theorem dX11_praiseFor_123 : decode cX11_praiseFor 123 = .ok (.getfield 53, 3) := by decide +kernel
theorem dX11_praiseFor_126 : decode cX11_praiseFor 126 = .ok (.invokevirtual 275, 3) := by decide +kernel
theorem dX11_praiseFor_129 : decode cX11_praiseFor 129 = .ok (.ladd, 1) := by decide +kernel
theorem dX11_praiseFor_130 : decode cX11_praiseFor 130 = .ok (.invokestatic 184, 3) := by decide +kernel
theorem dX11_praiseFor_133 : decode cX11_praiseFor 133 = .ok (.iload_n 2, 1) := by decide +kernel
theorem dX11_praiseFor_134 : decode cX11_praiseFor 134 = .ok (.if_icmp .ne 6, 3) := by decide +kernel
theorem dX11_praiseFor_137 : decode cX11_praiseFor 137 = .ok (.iload 7, 2) := by decide +kernel
theorem dX11_praiseFor_139 : decode cX11_praiseFor 139 = .ok (.ireturn, 1) := by decide +kernel
theorem dX11_praiseFor_140 : decode cX11_praiseFor 140 = .ok (.iinc 7 1, 3) := by decide +kernel
theorem dX11_praiseFor_143 : decode cX11_praiseFor 143 = .ok (.goto (-45), 3) := by decide +kernel
theorem dX11_praiseFor_146 : decode cX11_praiseFor 146 = .ok (.bipush (-2), 2) := by decide +kernel
theorem dX11_praiseFor_148 : decode cX11_praiseFor 148 = .ok (.ireturn, 1) := by decide +kernel
theorem dX11_old_0 : decode cX11_old 0 = .ok (.aload_n 0, 1) := by decide +kernel
theorem dX11_old_1 : decode cX11_old 1 = .ok (.iload_n 1, 1) := by decide +kernel
theorem dX11_old_2 : decode cX11_old 2 = .ok (.invokevirtual 101, 3) := by decide +kernel
theorem dX11_old_5 : decode cX11_old 5 = .ok (.ifCond .eq 16, 3) := by decide +kernel
theorem dX11_old_8 : decode cX11_old 8 = .ok (.aload_n 0, 1) := by decide +kernel
theorem dX11_old_9 : decode cX11_old 9 = .ok (.iload_n 2, 1) := by decide +kernel
theorem dX11_old_10 : decode cX11_old 10 = .ok (.invokevirtual 101, 3) := by decide +kernel
theorem dX11_old_13 : decode cX11_old 13 = .ok (.ifCond .eq 8, 3) := by decide +kernel
theorem dX11_old_16 : decode cX11_old 16 = .ok (.iload_n 1, 1) := by decide +kernel
theorem dX11_old_17 : decode cX11_old 17 = .ok (.iload_n 2, 1) := by decide +kernel
theorem dX11_old_18 : decode cX11_old 18 = .ok (.if_icmp .ne 7, 3) := by decide +kernel
theorem dX11_old_21 : decode cX11_old 21 = .ok (.sipush (-10000), 3) := by decide +kernel
theorem dX11_old_24 : decode cX11_old 24 = .ok (.ireturn, 1) := by decide +kernel
theorem dX11_old_25 : decode cX11_old 25 = .ok (.aload_n 0, 1) := by decide +kernel
theorem dX11_old_26 : decode cX11_old 26 = .ok (.getfield 37, 3) := by decide +kernel
theorem dX11_old_29 : decode cX11_old 29 = .ok (.iload_n 2, 1) := by decide +kernel
theorem dX11_old_30 : decode cX11_old 30 = .ok (.bipush 6, 2) := by decide +kernel
theorem dX11_old_32 : decode cX11_old 32 = .ok (.invokevirtual 105, 3) := by decide +kernel
theorem dX11_old_35 : decode cX11_old 35 = .ok (.istore_n 3, 1) := by decide +kernel
theorem dX11_old_36 : decode cX11_old 36 = .ok (.aload_n 0, 1) := by decide +kernel
theorem dX11_old_37 : decode cX11_old 37 = .ok (.iload_n 1, 1) := by decide +kernel
theorem dX11_old_38 : decode cX11_old 38 = .ok (.invokevirtual 154, 3) := by decide +kernel
theorem dX11_old_41 : decode cX11_old 41 = .ok (.ifCond .ne 9, 3) := by decide +kernel
theorem dX11_old_44 : decode cX11_old 44 = .ok (.iload_n 3, 1) := by decide +kernel
theorem dX11_old_45 : decode cX11_old 45 = .ok (.bipush (-2), 2) := by decide +kernel
theorem dX11_old_47 : decode cX11_old 47 = .ok (.if_icmp .ne 7, 3) := by decide +kernel
theorem dX11_old_50 : decode cX11_old 50 = .ok (.sipush (-10000), 3) := by decide +kernel
theorem dX11_old_53 : decode cX11_old 53 = .ok (.ireturn, 1) := by decide +kernel
theorem dX11_old_54 : decode cX11_old 54 = .ok (.aload_n 0, 1) := by decide +kernel
theorem dX11_old_55 : decode cX11_old 55 = .ok (.iload_n 1, 1) := by decide +kernel
theorem dX11_old_56 : decode cX11_old 56 = .ok (.iconst 0, 1) := by decide +kernel
theorem dX11_old_57 : decode cX11_old 57 = .ok (.invokevirtual 160, 3) := by decide +kernel
theorem dX11_old_60 : decode cX11_old 60 = .ok (.istore 4, 2) := by decide +kernel
theorem dX11_old_62 : decode cX11_old 62 = .ok (.aload_n 0, 1) := by decide +kernel
theorem dX11_old_63 : decode cX11_old 63 = .ok (.getfield 53, 3) := by decide +kernel
theorem dX11_old_66 : decode cX11_old 66 = .ok (.iload_n 3, 1) := by decide +kernel
theorem dX11_old_67 : decode cX11_old 67 = .ok (.invokevirtual 257, 3) := by decide +kernel
theorem dX11_old_70 : decode cX11_old 70 = .ok (.iload 4, 2) := by decide +kernel
theorem dX11_old_72 : decode cX11_old 72 = .ok (.isub, 1) := by decide +kernel
theorem dX11_old_73 : decode cX11_old 73 = .ok (.ireturn, 1) := by decide +kernel
theorem dX11_year_0 : decode cX11_year 0 = .ok (.aload_n 0, 1) := by decide +kernel
theorem dX11_year_1 : decode cX11_year 1 = .ok (.iload_n 1, 1) := by decide +kernel
theorem dX11_year_2 : decode cX11_year 2 = .ok (.invokevirtual 174, 3) := by decide +kernel
theorem dX11_year_5 : decode cX11_year 5 = .ok (.ifCond .eq 14, 3) := by decide +kernel
theorem dX11_year_8 : decode cX11_year 8 = .ok (.iload_n 2, 1) := by decide +kernel
theorem dX11_year_9 : decode cX11_year 9 = .ok (.iconst 1, 1) := by decide +kernel
theorem dX11_year_10 : decode cX11_year 10 = .ok (.if_icmp .lt 9, 3) := by decide +kernel
theorem dX11_year_13 : decode cX11_year 13 = .ok (.iload_n 2, 1) := by decide +kernel
theorem dX11_year_14 : decode cX11_year 14 = .ok (.bipush 20, 2) := by decide +kernel
theorem dX11_year_16 : decode cX11_year 16 = .ok (.if_icmp .le 5, 3) := by decide +kernel
theorem dX11_year_19 : decode cX11_year 19 = .ok (.iconst (-1), 1) := by decide +kernel
theorem dX11_year_20 : decode cX11_year 20 = .ok (.ireturn, 1) := by decide +kernel
theorem dX11_year_21 : decode cX11_year 21 = .ok (.iconst 0, 1) := by decide +kernel
theorem dX11_year_22 : decode cX11_year 22 = .ok (.istore_n 3, 1) := by decide +kernel
theorem dX11_year_23 : decode cX11_year 23 = .ok (.aload_n 0, 1) := by decide +kernel
theorem dX11_year_24 : decode cX11_year 24 = .ok (.getfield 37, 3) := by decide +kernel
theorem dX11_year_27 : decode cX11_year 27 = .ok (.invokevirtual 198, 3) := by decide +kernel
theorem dX11_year_30 : decode cX11_year 30 = .ok (.istore 4, 2) := by decide +kernel
theorem dX11_year_32 : decode cX11_year 32 = .ok (.iconst 0, 1) := by decide +kernel
theorem dX11_year_33 : decode cX11_year 33 = .ok (.istore 5, 2) := by decide +kernel
theorem dX11_year_35 : decode cX11_year 35 = .ok (.iload 5, 2) := by decide +kernel
theorem dX11_year_37 : decode cX11_year 37 = .ok (.aload_n 0, 1) := by decide +kernel
theorem dX11_year_38 : decode cX11_year 38 = .ok (.getfield 30, 3) := by decide +kernel
theorem dX11_year_41 : decode cX11_year 41 = .ok (.getfield 281, 3) := by decide +kernel
theorem dX11_year_44 : decode cX11_year 44 = .ok (.if_icmp .ge 62, 3) := by decide +kernel
theorem dX11_year_47 : decode cX11_year 47 = .ok (.aload_n 0, 1) := by decide +kernel
theorem dX11_year_48 : decode cX11_year 48 = .ok (.iload 5, 2) := by decide +kernel
theorem dX11_year_50 : decode cX11_year 50 = .ok (.invokevirtual 125, 3) := by decide +kernel
theorem dX11_year_53 : decode cX11_year 53 = .ok (.ifCond .eq 47, 3) := by decide +kernel
theorem dX11_year_56 : decode cX11_year 56 = .ok (.aload_n 0, 1) := by decide +kernel
theorem dX11_year_57 : decode cX11_year 57 = .ok (.getfield 62, 3) := by decide +kernel
theorem dX11_year_60 : decode cX11_year 60 = .ok (.iload 5, 2) := by decide +kernel
theorem dX11_year_62 : decode cX11_year 62 = .ok (.iload 4, 2) := by decide +kernel
theorem dX11_year_64 : decode cX11_year 64 = .ok (.invokevirtual 201, 3) := by decide +kernel
theorem dX11_year_67 : decode cX11_year 67 = .ok (.aload_n 0, 1) := by decide +kernel
theorem dX11_year_68 : decode cX11_year 68 = .ok (.getfield 62, 3) := by decide +kernel
theorem dX11_year_71 : decode cX11_year 71 = .ok (.invokevirtual 215, 3) := by decide +kernel
theorem dX11_year_74 : decode cX11_year 74 = .ok (.iload_n 3, 1) := by decide +kernel
theorem dX11_year_75 : decode cX11_year 75 = .ok (.aload_n 0, 1) := by decide +kernel
theorem dX11_year_76 : decode cX11_year 76 = .ok (.getfield 30, 3) := by decide +kernel
theorem dX11_year_79 : decode cX11_year 79 = .ok (.iload 5, 2) := by decide +kernel
theorem dX11_year_81 : decode cX11_year 81 = .ok (.iload_n 1, 1) := by decide +kernel
theorem dX11_year_82 : decode cX11_year 82 = .ok (.invokevirtual 128, 3) := by decide +kernel
theorem dX11_year_85 : decode cX11_year 85 = .ok (.aload_n 0, 1) := by decide +kernel
theorem dX11_year_86 : decode cX11_year 86 = .ok (.getfield 62, 3) := by decide +kernel
theorem dX11_year_89 : decode cX11_year 89 = .ok (.iload_n 1, 1) := by decide +kernel
theorem dX11_year_90 : decode cX11_year 90 = .ok (.iload_n 2, 1) := by decide +kernel
theorem dX11_year_91 : decode cX11_year 91 = .ok (.invokevirtual 284, 3) := by decide +kernel
theorem dX11_year_94 : decode cX11_year 94 = .ok (.imul, 1) := by decide +kernel
theorem dX11_year_95 : decode cX11_year 95 = .ok (.iadd, 1) := by decide +kernel
theorem dX11_year_96 : decode cX11_year 96 = .ok (.istore_n 3, 1) := by decide +kernel
theorem dX11_year_97 : decode cX11_year 97 = .ok (.iinc 4 1, 3) := by decide +kernel
theorem dX11_year_100 : decode cX11_year 100 = .ok (.iinc 5 1, 3) := by decide +kernel
theorem dX11_year_103 : decode cX11_year 103 = .ok (.goto (-68), 3) := by decide +kernel
theorem dX11_year_106 : decode cX11_year 106 = .ok (.iload_n 3, 1) := by decide +kernel
theorem dX11_year_107 : decode cX11_year 107 = .ok (.ireturn, 1) := by decide +kernel
theorem dX11_tell_0 : decode cX11_tell 0 = .ok (.aload_n 0, 1) := by decide +kernel
theorem dX11_tell_1 : decode cX11_tell 1 = .ok (.getfield 73, 3) := by decide +kernel
theorem dX11_tell_4 : decode cX11_tell 4 = .ok (.bipush 20, 2) := by decide +kernel
theorem dX11_tell_6 : decode cX11_tell 6 = .ok (.if_icmp .ge 21, 3) := by decide +kernel
theorem dX11_tell_9 : decode cX11_tell 9 = .ok (.aload_n 0, 1) := by decide +kernel
theorem dX11_tell_10 : decode cX11_tell 10 = .ok (.iload_n 1, 1) := by decide +kernel
theorem dX11_tell_11 : decode cX11_tell 11 = .ok (.invokevirtual 101, 3) := by decide +kernel
theorem dX11_tell_14 : decode cX11_tell 14 = .ok (.ifCond .eq 13, 3) := by decide +kernel
theorem dX11_tell_17 : decode cX11_tell 17 = .ok (.iload_n 2, 1) := by decide +kernel
theorem dX11_tell_18 : decode cX11_tell 18 = .ok (.ifCond .lt 9, 3) := by decide +kernel
theorem dX11_tell_21 : decode cX11_tell 21 = .ok (.iload_n 2, 1) := by decide +kernel
theorem dX11_tell_22 : decode cX11_tell 22 = .ok (.bipush 99, 2) := by decide +kernel
theorem dX11_tell_24 : decode cX11_tell 24 = .ok (.if_icmp .le 5, 3) := by decide +kernel
theorem dX11_tell_27 : decode cX11_tell 27 = .ok (.iconst (-1), 1) := by decide +kernel
theorem dX11_tell_28 : decode cX11_tell 28 = .ok (.ireturn, 1) := by decide +kernel
theorem dX11_tell_29 : decode cX11_tell 29 = .ok (.aload_n 0, 1) := by decide +kernel
theorem dX11_tell_30 : decode cX11_tell 30 = .ok (.getfield 66, 3) := by decide +kernel
theorem dX11_tell_33 : decode cX11_tell 33 = .ok (.aload_n 0, 1) := by decide +kernel
theorem dX11_tell_34 : decode cX11_tell 34 = .ok (.getfield 73, 3) := by decide +kernel
theorem dX11_tell_37 : decode cX11_tell 37 = .ok (.iload_n 1, 1) := by decide +kernel
theorem dX11_tell_38 : decode cX11_tell 38 = .ok (.iastore, 1) := by decide +kernel
theorem dX11_tell_39 : decode cX11_tell 39 = .ok (.aload_n 0, 1) := by decide +kernel
theorem dX11_tell_40 : decode cX11_tell 40 = .ok (.getfield 70, 3) := by decide +kernel
theorem dX11_tell_43 : decode cX11_tell 43 = .ok (.aload_n 0, 1) := by decide +kernel
theorem dX11_tell_44 : decode cX11_tell 44 = .ok (.getfield 73, 3) := by decide +kernel
theorem dX11_tell_47 : decode cX11_tell 47 = .ok (.iload_n 2, 1) := by decide +kernel
theorem dX11_tell_48 : decode cX11_tell 48 = .ok (.iastore, 1) := by decide +kernel
theorem dX11_tell_49 : decode cX11_tell 49 = .ok (.aload_n 0, 1) := by decide +kernel
theorem dX11_tell_50 : decode cX11_tell 50 = .ok (.dup, 1) := by decide +kernel
theorem dX11_tell_51 : decode cX11_tell 51 = .ok (.getfield 73, 3) := by decide +kernel
theorem dX11_tell_54 : decode cX11_tell 54 = .ok (.iconst 1, 1) := by decide +kernel
theorem dX11_tell_55 : decode cX11_tell 55 = .ok (.iadd, 1) := by decide +kernel
theorem dX11_tell_56 : decode cX11_tell 56 = .ok (.putfield 73, 3) := by decide +kernel
theorem dX11_tell_59 : decode cX11_tell 59 = .ok (.aload_n 0, 1) := by decide +kernel
theorem dX11_tell_60 : decode cX11_tell 60 = .ok (.getfield 73, 3) := by decide +kernel
theorem dX11_tell_63 : decode cX11_tell 63 = .ok (.iconst 1, 1) := by decide +kernel
theorem dX11_tell_64 : decode cX11_tell 64 = .ok (.isub, 1) := by decide +kernel
theorem dX11_tell_65 : decode cX11_tell 65 = .ok (.ireturn, 1) := by decide +kernel
theorem dX11_forget_0 : decode cX11_forget 0 = .ok (.aload_n 0, 1) := by decide +kernel
theorem dX11_forget_1 : decode cX11_forget 1 = .ok (.getfield 73, 3) := by decide +kernel
theorem dX11_forget_4 : decode cX11_forget 4 = .ok (.istore_n 1, 1) := by decide +kernel
theorem dX11_forget_5 : decode cX11_forget 5 = .ok (.aload_n 0, 1) := by decide +kernel
theorem dX11_forget_6 : decode cX11_forget 6 = .ok (.iconst 0, 1) := by decide +kernel
theorem dX11_forget_7 : decode cX11_forget 7 = .ok (.putfield 73, 3) := by decide +kernel
theorem dX11_forget_10 : decode cX11_forget 10 = .ok (.iload_n 1, 1) := by decide +kernel
theorem dX11_forget_11 : decode cX11_forget 11 = .ok (.ireturn, 1) := by decide +kernel
theorem dX11_slipped_0 : decode cX11_slipped 0 = .ok (.iload_n 1, 1) := by decide +kernel
theorem dX11_slipped_1 : decode cX11_slipped 1 = .ok (.ifCond .lt 16, 3) := by decide +kernel
theorem dX11_slipped_4 : decode cX11_slipped 4 = .ok (.iload_n 1, 1) := by decide +kernel
theorem dX11_slipped_5 : decode cX11_slipped 5 = .ok (.aload_n 0, 1) := by decide +kernel
theorem dX11_slipped_6 : decode cX11_slipped 6 = .ok (.getfield 73, 3) := by decide +kernel
theorem dX11_slipped_9 : decode cX11_slipped 9 = .ok (.if_icmp .gt 8, 3) := by decide +kernel
theorem dX11_slipped_12 : decode cX11_slipped 12 = .ok (.iload_n 2, 1) := by decide +kernel
theorem dX11_slipped_13 : decode cX11_slipped 13 = .ok (.iconst (-1), 1) := by decide +kernel
theorem dX11_slipped_14 : decode cX11_slipped 14 = .ok (.if_icmp .ge 5, 3) := by decide +kernel
theorem dX11_slipped_17 : decode cX11_slipped 17 = .ok (.iconst (-1), 1) := by decide +kernel
theorem dX11_slipped_18 : decode cX11_slipped 18 = .ok (.ireturn, 1) := by decide +kernel
theorem dX11_slipped_19 : decode cX11_slipped 19 = .ok (.iconst 0, 1) := by decide +kernel
theorem dX11_slipped_20 : decode cX11_slipped 20 = .ok (.istore_n 3, 1) := by decide +kernel
theorem dX11_slipped_21 : decode cX11_slipped 21 = .ok (.iconst 0, 1) := by decide +kernel
theorem dX11_slipped_22 : decode cX11_slipped 22 = .ok (.istore 4, 2) := by decide +kernel
theorem dX11_slipped_24 : decode cX11_slipped 24 = .ok (.iconst 0, 1) := by decide +kernel
theorem dX11_slipped_25 : decode cX11_slipped 25 = .ok (.istore 5, 2) := by decide +kernel
theorem dX11_slipped_27 : decode cX11_slipped 27 = .ok (.iload 5, 2) := by decide +kernel
theorem dX11_slipped_29 : decode cX11_slipped 29 = .ok (.aload_n 0, 1) := by decide +kernel
theorem dX11_slipped_30 : decode cX11_slipped 30 = .ok (.getfield 30, 3) := by decide +kernel
theorem dX11_slipped_33 : decode cX11_slipped 33 = .ok (.getfield 177, 3) := by decide +kernel
theorem dX11_slipped_36 : decode cX11_slipped 36 = .ok (.if_icmp .ge 126, 3) := by decide +kernel
theorem dX11_slipped_39 : decode cX11_slipped 39 = .ok (.aload_n 0, 1) := by decide +kernel
theorem dX11_slipped_40 : decode cX11_slipped 40 = .ok (.iload 5, 2) := by decide +kernel
theorem dX11_slipped_42 : decode cX11_slipped 42 = .ok (.invokevirtual 154, 3) := by decide +kernel
theorem dX11_slipped_45 : decode cX11_slipped 45 = .ok (.ifCond .eq 24, 3) := by decide +kernel
theorem dX11_slipped_48 : decode cX11_slipped 48 = .ok (.aload_n 0, 1) := by decide +kernel
theorem dX11_slipped_49 : decode cX11_slipped 49 = .ok (.iload 5, 2) := by decide +kernel
theorem dX11_slipped_51 : decode cX11_slipped 51 = .ok (.iload_n 1, 1) := by decide +kernel
theorem dX11_slipped_52 : decode cX11_slipped 52 = .ok (.invokevirtual 287, 3) := by decide +kernel
theorem dX11_slipped_55 : decode cX11_slipped 55 = .ok (.ifCond .eq 101, 3) := by decide +kernel
theorem dX11_slipped_58 : decode cX11_slipped 58 = .ok (.iload_n 2, 1) := by decide +kernel
theorem dX11_slipped_59 : decode cX11_slipped 59 = .ok (.iconst (-1), 1) := by decide +kernel
theorem dX11_slipped_60 : decode cX11_slipped 60 = .ok (.if_icmp .ne 7, 3) := by decide +kernel
theorem dX11_slipped_63 : decode cX11_slipped 63 = .ok (.iconst 0, 1) := by decide +kernel
theorem dX11_slipped_64 : decode cX11_slipped 64 = .ok (.goto 4, 3) := by decide +kernel
theorem dX11_slipped_67 : decode cX11_slipped 67 = .ok (.iconst (-1), 1) := by decide +kernel
theorem dX11_slipped_68 : decode cX11_slipped 68 = .ok (.ireturn, 1) := by decide +kernel
theorem dX11_slipped_69 : decode cX11_slipped 69 = .ok (.aload_n 0, 1) := by decide +kernel
theorem dX11_slipped_70 : decode cX11_slipped 70 = .ok (.iload 5, 2) := by decide +kernel
theorem dX11_slipped_72 : decode cX11_slipped 72 = .ok (.iload_n 1, 1) := by decide +kernel
theorem dX11_slipped_73 : decode cX11_slipped 73 = .ok (.aload_n 0, 1) := by decide +kernel
theorem dX11_slipped_74 : decode cX11_slipped 74 = .ok (.iload 5, 2) := by decide +kernel
theorem dX11_slipped_76 : decode cX11_slipped 76 = .ok (.iconst 1, 1) := by decide +kernel
theorem dX11_slipped_77 : decode cX11_slipped 77 = .ok (.invokevirtual 160, 3) := by decide +kernel
theorem dX11_slipped_80 : decode cX11_slipped 80 = .ok (.invokevirtual 291, 3) := by decide +kernel
theorem dX11_slipped_83 : decode cX11_slipped 83 = .ok (.istore 6, 2) := by decide +kernel
theorem dX11_slipped_85 : decode cX11_slipped 85 = .ok (.aload_n 0, 1) := by decide +kernel
theorem dX11_slipped_86 : decode cX11_slipped 86 = .ok (.iload 5, 2) := by decide +kernel
theorem dX11_slipped_88 : decode cX11_slipped 88 = .ok (.iload_n 1, 1) := by decide +kernel
theorem dX11_slipped_89 : decode cX11_slipped 89 = .ok (.aload_n 0, 1) := by decide +kernel
theorem dX11_slipped_90 : decode cX11_slipped 90 = .ok (.iload 5, 2) := by decide +kernel
theorem dX11_slipped_92 : decode cX11_slipped 92 = .ok (.iconst 0, 1) := by decide +kernel
theorem dX11_slipped_93 : decode cX11_slipped 93 = .ok (.invokevirtual 160, 3) := by decide +kernel
theorem dX11_slipped_96 : decode cX11_slipped 96 = .ok (.invokevirtual 291, 3) := by decide +kernel
theorem dX11_slipped_99 : decode cX11_slipped 99 = .ok (.istore 7, 2) := by decide +kernel
theorem dX11_slipped_101 : decode cX11_slipped 101 = .ok (.iload 6, 2) := by decide +kernel
theorem dX11_slipped_103 : decode cX11_slipped 103 = .ok (.ifCond .ne 19, 3) := by decide +kernel
theorem dX11_slipped_106 : decode cX11_slipped 106 = .ok (.iload 7, 2) := by decide +kernel
theorem dX11_slipped_108 : decode cX11_slipped 108 = .ok (.ifCond .ne 14, 3) := by decide +kernel
theorem dX11_slipped_111 : decode cX11_slipped 111 = .ok (.iload_n 2, 1) := by decide +kernel
theorem dX11_slipped_112 : decode cX11_slipped 112 = .ok (.iconst (-1), 1) := by decide +kernel
theorem dX11_slipped_113 : decode cX11_slipped 113 = .ok (.if_icmp .ne 7, 3) := by decide +kernel
theorem dX11_slipped_116 : decode cX11_slipped 116 = .ok (.iconst 0, 1) := by decide +kernel
theorem dX11_slipped_117 : decode cX11_slipped 117 = .ok (.goto 4, 3) := by decide +kernel
theorem dX11_slipped_120 : decode cX11_slipped 120 = .ok (.iconst (-1), 1) := by decide +kernel
theorem dX11_slipped_121 : decode cX11_slipped 121 = .ok (.ireturn, 1) := by decide +kernel
theorem dX11_slipped_122 : decode cX11_slipped 122 = .ok (.iload_n 3, 1) := by decide +kernel
theorem dX11_slipped_123 : decode cX11_slipped 123 = .ok (.iload 6, 2) := by decide +kernel
theorem dX11_slipped_125 : decode cX11_slipped 125 = .ok (.ifCond .eq 10, 3) := by decide +kernel
theorem dX11_slipped_128 : decode cX11_slipped 128 = .ok (.iconst 1, 1) := by decide +kernel
theorem dX11_slipped_129 : decode cX11_slipped 129 = .ok (.iload 5, 2) := by decide +kernel
theorem dX11_slipped_131 : decode cX11_slipped 131 = .ok (.ishl, 1) := by decide +kernel
theorem dX11_slipped_132 : decode cX11_slipped 132 = .ok (.goto 4, 3) := by decide +kernel
theorem dX11_slipped_135 : decode cX11_slipped 135 = .ok (.iconst 0, 1) := by decide +kernel
theorem dX11_slipped_136 : decode cX11_slipped 136 = .ok (.ior, 1) := by decide +kernel
theorem dX11_slipped_137 : decode cX11_slipped 137 = .ok (.istore_n 3, 1) := by decide +kernel
theorem dX11_slipped_138 : decode cX11_slipped 138 = .ok (.iload 4, 2) := by decide +kernel
theorem dX11_slipped_140 : decode cX11_slipped 140 = .ok (.iload 7, 2) := by decide +kernel
theorem dX11_slipped_142 : decode cX11_slipped 142 = .ok (.ifCond .eq 7, 3) := by decide +kernel
theorem dX11_slipped_145 : decode cX11_slipped 145 = .ok (.iconst 0, 1) := by decide +kernel
theorem dX11_slipped_146 : decode cX11_slipped 146 = .ok (.goto 7, 3) := by decide +kernel
theorem dX11_slipped_149 : decode cX11_slipped 149 = .ok (.iconst 1, 1) := by decide +kernel
theorem dX11_slipped_150 : decode cX11_slipped 150 = .ok (.iload 5, 2) := by decide +kernel
theorem dX11_slipped_152 : decode cX11_slipped 152 = .ok (.ishl, 1) := by decide +kernel
theorem dX11_slipped_153 : decode cX11_slipped 153 = .ok (.ior, 1) := by decide +kernel
theorem dX11_slipped_154 : decode cX11_slipped 154 = .ok (.istore 4, 2) := by decide +kernel
theorem dX11_slipped_156 : decode cX11_slipped 156 = .ok (.iinc 5 1, 3) := by decide +kernel
theorem dX11_slipped_159 : decode cX11_slipped 159 = .ok (.goto (-132), 3) := by decide +kernel
theorem dX11_slipped_162 : decode cX11_slipped 162 = .ok (.iload 4, 2) := by decide +kernel
theorem dX11_slipped_164 : decode cX11_slipped 164 = .ok (.iload_n 3, 1) := by decide +kernel
theorem dX11_slipped_165 : decode cX11_slipped 165 = .ok (.iload_n 2, 1) := by decide +kernel
theorem dX11_slipped_166 : decode cX11_slipped 166 = .ok (.invokestatic 295, 3) := by decide +kernel
theorem dX11_slipped_169 : decode cX11_slipped 169 = .ok (.ireturn, 1) := by decide +kernel
theorem dX11_thinks_0 : decode cX11_thinks 0 = .ok (.aload_n 0, 1) := by decide +kernel
theorem dX11_thinks_1 : decode cX11_thinks 1 = .ok (.iload_n 1, 1) := by decide +kernel
theorem dX11_thinks_2 : decode cX11_thinks 2 = .ok (.invokevirtual 101, 3) := by decide +kernel
theorem dX11_thinks_5 : decode cX11_thinks 5 = .ok (.ifCond .eq 15, 3) := by decide +kernel
theorem dX11_thinks_8 : decode cX11_thinks 8 = .ok (.iload_n 2, 1) := by decide +kernel
theorem dX11_thinks_9 : decode cX11_thinks 9 = .ok (.ifCond .lt 11, 3) := by decide +kernel
theorem dX11_thinks_12 : decode cX11_thinks 12 = .ok (.iload_n 2, 1) := by decide +kernel
theorem dX11_thinks_13 : decode cX11_thinks 13 = .ok (.aload_n 0, 1) := by decide +kernel
theorem dX11_thinks_14 : decode cX11_thinks 14 = .ok (.getfield 73, 3) := by decide +kernel
theorem dX11_thinks_17 : decode cX11_thinks 17 = .ok (.if_icmp .le 5, 3) := by decide +kernel
theorem dX11_thinks_20 : decode cX11_thinks 20 = .ok (.iconst (-1), 1) := by decide +kernel
theorem dX11_thinks_21 : decode cX11_thinks 21 = .ok (.ireturn, 1) := by decide +kernel
theorem dX11_thinks_22 : decode cX11_thinks 22 = .ok (.aload_n 0, 1) := by decide +kernel
theorem dX11_thinks_23 : decode cX11_thinks 23 = .ok (.iload_n 1, 1) := by decide +kernel
theorem dX11_thinks_24 : decode cX11_thinks 24 = .ok (.invokevirtual 154, 3) := by decide +kernel
theorem dX11_thinks_27 : decode cX11_thinks 27 = .ok (.ifCond .eq 28, 3) := by decide +kernel
theorem dX11_thinks_30 : decode cX11_thinks 30 = .ok (.aload_n 0, 1) := by decide +kernel
theorem dX11_thinks_31 : decode cX11_thinks 31 = .ok (.iload_n 1, 1) := by decide +kernel
theorem dX11_thinks_32 : decode cX11_thinks 32 = .ok (.iload_n 2, 1) := by decide +kernel
theorem dX11_thinks_33 : decode cX11_thinks 33 = .ok (.invokevirtual 287, 3) := by decide +kernel
theorem dX11_thinks_36 : decode cX11_thinks 36 = .ok (.ifCond .eq 7, 3) := by decide +kernel
theorem dX11_thinks_39 : decode cX11_thinks 39 = .ok (.iconst 0, 1) := by decide +kernel
theorem dX11_thinks_40 : decode cX11_thinks 40 = .ok (.goto 14, 3) := by decide +kernel
theorem dX11_thinks_43 : decode cX11_thinks 43 = .ok (.iconst 1, 1) := by decide +kernel
theorem dX11_thinks_44 : decode cX11_thinks 44 = .ok (.aload_n 0, 1) := by decide +kernel
theorem dX11_thinks_45 : decode cX11_thinks 45 = .ok (.getfield 30, 3) := by decide +kernel
theorem dX11_thinks_48 : decode cX11_thinks 48 = .ok (.getfield 112, 3) := by decide +kernel
theorem dX11_thinks_51 : decode cX11_thinks 51 = .ok (.ishl, 1) := by decide +kernel
theorem dX11_thinks_52 : decode cX11_thinks 52 = .ok (.iconst 1, 1) := by decide +kernel
theorem dX11_thinks_53 : decode cX11_thinks 53 = .ok (.isub, 1) := by decide +kernel
theorem dX11_thinks_54 : decode cX11_thinks 54 = .ok (.ireturn, 1) := by decide +kernel
theorem dX11_thinks_55 : decode cX11_thinks 55 = .ok (.iconst 0, 1) := by decide +kernel
theorem dX11_thinks_56 : decode cX11_thinks 56 = .ok (.istore_n 3, 1) := by decide +kernel
theorem dX11_thinks_57 : decode cX11_thinks 57 = .ok (.iconst 0, 1) := by decide +kernel
theorem dX11_thinks_58 : decode cX11_thinks 58 = .ok (.istore 4, 2) := by decide +kernel
theorem dX11_thinks_60 : decode cX11_thinks 60 = .ok (.iload 4, 2) := by decide +kernel
theorem dX11_thinks_62 : decode cX11_thinks 62 = .ok (.aload_n 0, 1) := by decide +kernel
theorem dX11_thinks_63 : decode cX11_thinks 63 = .ok (.getfield 30, 3) := by decide +kernel
theorem dX11_thinks_66 : decode cX11_thinks 66 = .ok (.getfield 112, 3) := by decide +kernel
theorem dX11_thinks_69 : decode cX11_thinks 69 = .ok (.if_icmp .ge 104, 3) := by decide +kernel
theorem dX11_thinks_72 : decode cX11_thinks 72 = .ok (.iconst 0, 1) := by decide +kernel
theorem dX11_thinks_73 : decode cX11_thinks 73 = .ok (.istore 5, 2) := by decide +kernel
theorem dX11_thinks_75 : decode cX11_thinks 75 = .ok (.iload 5, 2) := by decide +kernel
theorem dX11_thinks_77 : decode cX11_thinks 77 = .ok (.iconst 1, 1) := by decide +kernel
theorem dX11_thinks_78 : decode cX11_thinks 78 = .ok (.if_icmp .gt 89, 3) := by decide +kernel
theorem dX11_thinks_81 : decode cX11_thinks 81 = .ok (.aload_n 0, 1) := by decide +kernel
theorem dX11_thinks_82 : decode cX11_thinks 82 = .ok (.getfield 53, 3) := by decide +kernel
theorem dX11_thinks_85 : decode cX11_thinks 85 = .ok (.aload_n 0, 1) := by decide +kernel
theorem dX11_thinks_86 : decode cX11_thinks 86 = .ok (.getfield 37, 3) := by decide +kernel
theorem dX11_thinks_89 : decode cX11_thinks 89 = .ok (.iload_n 1, 1) := by decide +kernel
theorem dX11_thinks_90 : decode cX11_thinks 90 = .ok (.invokevirtual 134, 3) := by decide +kernel
theorem dX11_thinks_93 : decode cX11_thinks 93 = .ok (.aload_n 0, 1) := by decide +kernel
theorem dX11_thinks_94 : decode cX11_thinks 94 = .ok (.getfield 53, 3) := by decide +kernel
theorem dX11_thinks_97 : decode cX11_thinks 97 = .ok (.iload 5, 2) := by decide +kernel
theorem dX11_thinks_99 : decode cX11_thinks 99 = .ok (.putfield 141, 3) := by decide +kernel
theorem dX11_thinks_102 : decode cX11_thinks 102 = .ok (.aload_n 0, 1) := by decide +kernel
theorem dX11_thinks_103 : decode cX11_thinks 103 = .ok (.getfield 53, 3) := by decide +kernel
theorem dX11_thinks_106 : decode cX11_thinks 106 = .ok (.getfield 299, 3) := by decide +kernel
theorem dX11_thinks_109 : decode cX11_thinks 109 = .ok (.ifCond .ne 22, 3) := by decide +kernel
theorem dX11_thinks_112 : decode cX11_thinks 112 = .ok (.aload_n 0, 1) := by decide +kernel
theorem dX11_thinks_113 : decode cX11_thinks 113 = .ok (.getfield 53, 3) := by decide +kernel
theorem dX11_thinks_116 : decode cX11_thinks 116 = .ok (.iload 4, 2) := by decide +kernel
theorem dX11_thinks_118 : decode cX11_thinks 118 = .ok (.aload_n 0, 1) := by decide +kernel
theorem dX11_thinks_119 : decode cX11_thinks 119 = .ok (.getfield 30, 3) := by decide +kernel
theorem dX11_thinks_122 : decode cX11_thinks 122 = .ok (.getfield 112, 3) := by decide +kernel
theorem dX11_thinks_125 : decode cX11_thinks 125 = .ok (.invokestatic 302, 3) := by decide +kernel
theorem dX11_thinks_128 : decode cX11_thinks 128 = .ok (.putfield 305, 3) := by decide +kernel
theorem dX11_thinks_131 : decode cX11_thinks 131 = .ok (.aload_n 0, 1) := by decide +kernel
theorem dX11_thinks_132 : decode cX11_thinks 132 = .ok (.iload_n 1, 1) := by decide +kernel
theorem dX11_thinks_133 : decode cX11_thinks 133 = .ok (.iload_n 2, 1) := by decide +kernel
theorem dX11_thinks_134 : decode cX11_thinks 134 = .ok (.aload_n 0, 1) := by decide +kernel
theorem dX11_thinks_135 : decode cX11_thinks 135 = .ok (.getfield 53, 3) := by decide +kernel
theorem dX11_thinks_138 : decode cX11_thinks 138 = .ok (.aload_n 0, 1) := by decide +kernel
theorem dX11_thinks_139 : decode cX11_thinks 139 = .ok (.getfield 53, 3) := by decide +kernel
theorem dX11_thinks_142 : decode cX11_thinks 142 = .ok (.invokevirtual 147, 3) := by decide +kernel
theorem dX11_thinks_145 : decode cX11_thinks 145 = .ok (.invokevirtual 257, 3) := by decide +kernel
theorem dX11_thinks_148 : decode cX11_thinks 148 = .ok (.invokevirtual 291, 3) := by decide +kernel
theorem dX11_thinks_151 : decode cX11_thinks 151 = .ok (.ifCond .eq 10, 3) := by decide +kernel
theorem dX11_thinks_154 : decode cX11_thinks 154 = .ok (.iload_n 3, 1) := by decide +kernel
theorem dX11_thinks_155 : decode cX11_thinks 155 = .ok (.iconst 1, 1) := by decide +kernel
theorem dX11_thinks_156 : decode cX11_thinks 156 = .ok (.iload 4, 2) := by decide +kernel
theorem dX11_thinks_158 : decode cX11_thinks 158 = .ok (.ishl, 1) := by decide +kernel
theorem dX11_thinks_159 : decode cX11_thinks 159 = .ok (.ior, 1) := by decide +kernel
theorem dX11_thinks_160 : decode cX11_thinks 160 = .ok (.istore_n 3, 1) := by decide +kernel
theorem dX11_thinks_161 : decode cX11_thinks 161 = .ok (.iinc 5 1, 3) := by decide +kernel
theorem dX11_thinks_164 : decode cX11_thinks 164 = .ok (.goto (-89), 3) := by decide +kernel
theorem dX11_thinks_167 : decode cX11_thinks 167 = .ok (.iinc 4 1, 3) := by decide +kernel
theorem dX11_thinks_170 : decode cX11_thinks 170 = .ok (.goto (-110), 3) := by decide +kernel
theorem dX11_thinks_173 : decode cX11_thinks 173 = .ok (.iload_n 3, 1) := by decide +kernel
theorem dX11_thinks_174 : decode cX11_thinks 174 = .ok (.ireturn, 1) := by decide +kernel
theorem dX11_hold_0 : decode cX11_hold 0 = .ok (.iload_n 1, 1) := by decide +kernel
theorem dX11_hold_1 : decode cX11_hold 1 = .ok (.ifCond .lt 8, 3) := by decide +kernel
theorem dX11_hold_4 : decode cX11_hold 4 = .ok (.iload_n 1, 1) := by decide +kernel
theorem dX11_hold_5 : decode cX11_hold 5 = .ok (.iconst 3, 1) := by decide +kernel
theorem dX11_hold_6 : decode cX11_hold 6 = .ok (.if_icmp .lt 5, 3) := by decide +kernel
theorem dX11_hold_9 : decode cX11_hold 9 = .ok (.iconst 0, 1) := by decide +kernel
theorem dX11_hold_10 : decode cX11_hold 10 = .ok (.ireturn, 1) := by decide +kernel
theorem dX11_hold_11 : decode cX11_hold 11 = .ok (.aload_n 0, 1) := by decide +kernel
theorem dX11_hold_12 : decode cX11_hold 12 = .ok (.getfield 44, 3) := by decide +kernel
theorem dX11_hold_15 : decode cX11_hold 15 = .ok (.iload_n 1, 1) := by decide +kernel
theorem dX11_hold_16 : decode cX11_hold 16 = .ok (.aload_n 0, 1) := by decide +kernel
theorem dX11_hold_17 : decode cX11_hold 17 = .ok (.getfield 37, 3) := by decide +kernel
theorem dX11_hold_20 : decode cX11_hold 20 = .ok (.invokevirtual 308, 3) := by decide +kernel
theorem dX11_hold_23 : decode cX11_hold 23 = .ok (.iconst 1, 1) := by decide +kernel
theorem dX11_hold_24 : decode cX11_hold 24 = .ok (.ireturn, 1) := by decide +kernel
theorem dX11_restore_0 : decode cX11_restore 0 = .ok (.iload_n 1, 1) := by decide +kernel
theorem dX11_restore_1 : decode cX11_restore 1 = .ok (.ifCond .lt 27, 3) := by decide +kernel
theorem dX11_restore_4 : decode cX11_restore 4 = .ok (.iload_n 1, 1) := by decide +kernel
theorem dX11_restore_5 : decode cX11_restore 5 = .ok (.iconst 3, 1) := by decide +kernel
theorem dX11_restore_6 : decode cX11_restore 6 = .ok (.if_icmp .ge 22, 3) := by decide +kernel
theorem dX11_restore_9 : decode cX11_restore 9 = .ok (.aload_n 0, 1) := by decide +kernel
theorem dX11_restore_10 : decode cX11_restore 10 = .ok (.getfield 44, 3) := by decide +kernel
theorem dX11_restore_13 : decode cX11_restore 13 = .ok (.iload_n 1, 1) := by decide +kernel
theorem dX11_restore_14 : decode cX11_restore 14 = .ok (.aload_n 0, 1) := by decide +kernel
theorem dX11_restore_15 : decode cX11_restore 15 = .ok (.getfield 37, 3) := by decide +kernel
theorem dX11_restore_18 : decode cX11_restore 18 = .ok (.invokevirtual 312, 3) := by decide +kernel
theorem dX11_restore_21 : decode cX11_restore 21 = .ok (.ifCond .eq 7, 3) := by decide +kernel
theorem dX11_restore_24 : decode cX11_restore 24 = .ok (.iconst 1, 1) := by decide +kernel
theorem dX11_restore_25 : decode cX11_restore 25 = .ok (.goto 4, 3) := by decide +kernel
theorem dX11_restore_28 : decode cX11_restore 28 = .ok (.iconst 0, 1) := by decide +kernel
theorem dX11_restore_29 : decode cX11_restore 29 = .ok (.ireturn, 1) := by decide +kernel
theorem dX11_count_0 : decode cX11_count 0 = .ok (.iload_n 1, 1) := by decide +kernel
theorem dX11_count_1 : decode cX11_count 1 = .ok (.tableswitch 180 0 14 #[75, 83, 91, 99, 107, 115, 120, 125, 133, 138, 146, 151, 162, 168, 173], 75) := by decide +kernel
theorem dX11_count_76 : decode cX11_count 76 = .ok (.aload_n 0, 1) := by decide +kernel
theorem dX11_count_77 : decode cX11_count 77 = .ok (.getfield 30, 3) := by decide +kernel
theorem dX11_count_80 : decode cX11_count 80 = .ok (.getfield 112, 3) := by decide +kernel
theorem dX11_count_83 : decode cX11_count 83 = .ok (.ireturn, 1) := by decide +kernel
theorem dX11_count_84 : decode cX11_count 84 = .ok (.aload_n 0, 1) := by decide +kernel
theorem dX11_count_85 : decode cX11_count 85 = .ok (.getfield 30, 3) := by decide +kernel
theorem dX11_count_88 : decode cX11_count 88 = .ok (.getfield 177, 3) := by decide +kernel
theorem dX11_count_91 : decode cX11_count 91 = .ok (.ireturn, 1) := by decide +kernel
theorem dX11_count_92 : decode cX11_count 92 = .ok (.aload_n 0, 1) := by decide +kernel
theorem dX11_count_93 : decode cX11_count 93 = .ok (.getfield 30, 3) := by decide +kernel
theorem dX11_count_96 : decode cX11_count 96 = .ok (.getfield 281, 3) := by decide +kernel
theorem dX11_count_99 : decode cX11_count 99 = .ok (.ireturn, 1) := by decide +kernel
theorem dX11_count_100 : decode cX11_count 100 = .ok (.aload_n 0, 1) := by decide +kernel
theorem dX11_count_101 : decode cX11_count 101 = .ok (.getfield 30, 3) := by decide +kernel
theorem dX11_count_104 : decode cX11_count 104 = .ok (.getfield 151, 3) := by decide +kernel
theorem dX11_count_107 : decode cX11_count 107 = .ok (.ireturn, 1) := by decide +kernel
theorem dX11_count_108 : decode cX11_count 108 = .ok (.aload_n 0, 1) := by decide +kernel
theorem dX11_count_109 : decode cX11_count 109 = .ok (.getfield 37, 3) := by decide +kernel
theorem dX11_count_112 : decode cX11_count 112 = .ok (.invokevirtual 198, 3) := by decide +kernel
theorem dX11_count_115 : decode cX11_count 115 = .ok (.ireturn, 1) := by decide +kernel
theorem dX11_count_116 : decode cX11_count 116 = .ok (.aload_n 0, 1) := by decide +kernel
theorem dX11_count_117 : decode cX11_count 117 = .ok (.invokevirtual 316, 3) := by decide +kernel
theorem dX11_count_120 : decode cX11_count 120 = .ok (.ireturn, 1) := by decide +kernel
theorem dX11_count_121 : decode cX11_count 121 = .ok (.aload_n 0, 1) := by decide +kernel
theorem dX11_count_122 : decode cX11_count 122 = .ok (.invokevirtual 319, 3) := by decide +kernel
theorem dX11_count_125 : decode cX11_count 125 = .ok (.ireturn, 1) := by decide +kernel
theorem dX11_count_126 : decode cX11_count 126 = .ok (.aload_n 0, 1) := by decide +kernel
theorem dX11_count_127 : decode cX11_count 127 = .ok (.getfield 37, 3) := by decide +kernel
theorem dX11_count_130 : decode cX11_count 130 = .ok (.invokevirtual 322, 3) := by decide +kernel
theorem dX11_count_133 : decode cX11_count 133 = .ok (.ireturn, 1) := by decide +kernel
theorem dX11_count_134 : decode cX11_count 134 = .ok (.aload_n 0, 1) := by decide +kernel
theorem dX11_count_135 : decode cX11_count 135 = .ok (.getfield 13, 3) := by decide +kernel
theorem dX11_count_138 : decode cX11_count 138 = .ok (.ireturn, 1) := by decide +kernel
theorem dX11_count_139 : decode cX11_count 139 = .ok (.aload_n 0, 1) := by decide +kernel
theorem dX11_count_140 : decode cX11_count 140 = .ok (.getfield 44, 3) := by decide +kernel
theorem dX11_count_143 : decode cX11_count 143 = .ok (.getfield 325, 3) := by decide +kernel
theorem dX11_count_146 : decode cX11_count 146 = .ok (.ireturn, 1) := by decide +kernel
theorem dX11_count_147 : decode cX11_count 147 = .ok (.aload_n 0, 1) := by decide +kernel
theorem dX11_count_148 : decode cX11_count 148 = .ok (.getfield 73, 3) := by decide +kernel
theorem dX11_count_151 : decode cX11_count 151 = .ok (.ireturn, 1) := by decide +kernel
theorem dX11_count_152 : decode cX11_count 152 = .ok (.aload_n 0, 1) := by decide +kernel
theorem dX11_count_153 : decode cX11_count 153 = .ok (.getfield 44, 3) := by decide +kernel
theorem dX11_count_156 : decode cX11_count 156 = .ok (.getfield 328, 3) := by decide +kernel
theorem dX11_count_159 : decode cX11_count 159 = .ok (.invokestatic 231, 3) := by decide +kernel
theorem dX11_count_162 : decode cX11_count 162 = .ok (.ireturn, 1) := by decide +kernel
theorem dX11_count_163 : decode cX11_count 163 = .ok (.aload_n 0, 1) := by decide +kernel
theorem dX11_count_164 : decode cX11_count 164 = .ok (.iconst 2, 1) := by decide +kernel
theorem dX11_count_165 : decode cX11_count 165 = .ok (.invokevirtual 331, 3) := by decide +kernel
theorem dX11_count_168 : decode cX11_count 168 = .ok (.ireturn, 1) := by decide +kernel
theorem dX11_count_169 : decode cX11_count 169 = .ok (.aload_n 0, 1) := by decide +kernel
theorem dX11_count_170 : decode cX11_count 170 = .ok (.invokevirtual 334, 3) := by decide +kernel
theorem dX11_count_173 : decode cX11_count 173 = .ok (.ireturn, 1) := by decide +kernel
theorem dX11_count_174 : decode cX11_count 174 = .ok (.aload_n 0, 1) := by decide +kernel
theorem dX11_count_175 : decode cX11_count 175 = .ok (.bipush 9, 2) := by decide +kernel
theorem dX11_count_177 : decode cX11_count 177 = .ok (.invokevirtual 331, 3) := by decide +kernel
theorem dX11_count_180 : decode cX11_count 180 = .ok (.ireturn, 1) := by decide +kernel
theorem dX11_count_181 : decode cX11_count 181 = .ok (.iconst (-1), 1) := by decide +kernel
theorem dX11_count_182 : decode cX11_count 182 = .ok (.ireturn, 1) := by decide +kernel
theorem dX11_putBytes_0 : decode cX11_putBytes 0 = .ok (.bipush 24, 2) := by decide +kernel
theorem dX11_putBytes_2 : decode cX11_putBytes 2 = .ok (.istore_n 2, 1) := by decide +kernel
theorem dX11_putBytes_3 : decode cX11_putBytes 3 = .ok (.iload_n 2, 1) := by decide +kernel
theorem dX11_putBytes_4 : decode cX11_putBytes 4 = .ok (.ifCond .lt 42, 3) := by decide +kernel
theorem dX11_putBytes_7 : decode cX11_putBytes 7 = .ok (.aload_n 0, 1) := by decide +kernel
theorem dX11_putBytes_8 : decode cX11_putBytes 8 = .ok (.getfield 13, 3) := by decide +kernel
theorem dX11_putBytes_11 : decode cX11_putBytes 11 = .ok (.sipush 2000, 3) := by decide +kernel
theorem dX11_putBytes_14 : decode cX11_putBytes 14 = .ok (.if_icmp .ge 26, 3) := by decide +kernel
theorem dX11_putBytes_17 : decode cX11_putBytes 17 = .ok (.aload_n 0, 1) := by decide +kernel
theorem dX11_putBytes_18 : decode cX11_putBytes 18 = .ok (.getfield 9, 3) := by decide +kernel
theorem dX11_putBytes_21 : decode cX11_putBytes 21 = .ok (.aload_n 0, 1) := by decide +kernel
theorem dX11_putBytes_22 : decode cX11_putBytes 22 = .ok (.getfield 13, 3) := by decide +kernel
theorem dX11_putBytes_25 : decode cX11_putBytes 25 = .ok (.iload_n 1, 1) := by decide +kernel
theorem dX11_putBytes_26 : decode cX11_putBytes 26 = .ok (.iload_n 2, 1) := by decide +kernel
theorem dX11_putBytes_27 : decode cX11_putBytes 27 = .ok (.ishr, 1) := by decide +kernel
theorem dX11_putBytes_28 : decode cX11_putBytes 28 = .ok (.i2b, 1) := by decide +kernel
theorem dX11_putBytes_29 : decode cX11_putBytes 29 = .ok (.bastore, 1) := by decide +kernel
theorem dX11_putBytes_30 : decode cX11_putBytes 30 = .ok (.aload_n 0, 1) := by decide +kernel
theorem dX11_putBytes_31 : decode cX11_putBytes 31 = .ok (.dup, 1) := by decide +kernel
theorem dX11_putBytes_32 : decode cX11_putBytes 32 = .ok (.getfield 13, 3) := by decide +kernel
theorem dX11_putBytes_35 : decode cX11_putBytes 35 = .ok (.iconst 1, 1) := by decide +kernel
theorem dX11_putBytes_36 : decode cX11_putBytes 36 = .ok (.iadd, 1) := by decide +kernel
theorem dX11_putBytes_37 : decode cX11_putBytes 37 = .ok (.putfield 13, 3) := by decide +kernel
theorem dX11_putBytes_40 : decode cX11_putBytes 40 = .ok (.iinc 2 (-8), 3) := by decide +kernel
theorem dX11_putBytes_43 : decode cX11_putBytes 43 = .ok (.goto (-40), 3) := by decide +kernel
theorem dX11_putBytes_46 : decode cX11_putBytes 46 = .ok (.return_, 1) := by decide +kernel
theorem dX11_isMan_0 : decode cX11_isMan 0 = .ok (.iload_n 1, 1) := by decide +kernel
theorem dX11_isMan_1 : decode cX11_isMan 1 = .ok (.ifCond .lt 18, 3) := by decide +kernel
theorem dX11_isMan_4 : decode cX11_isMan 4 = .ok (.iload_n 1, 1) := by decide +kernel
theorem dX11_isMan_5 : decode cX11_isMan 5 = .ok (.aload_n 0, 1) := by decide +kernel
theorem dX11_isMan_6 : decode cX11_isMan 6 = .ok (.getfield 30, 3) := by decide +kernel
theorem dX11_isMan_9 : decode cX11_isMan 9 = .ok (.getfield 177, 3) := by decide +kernel
theorem dX11_isMan_12 : decode cX11_isMan 12 = .ok (.if_icmp .ge 7, 3) := by decide +kernel
theorem dX11_isMan_15 : decode cX11_isMan 15 = .ok (.iconst 1, 1) := by decide +kernel
theorem dX11_isMan_16 : decode cX11_isMan 16 = .ok (.goto 4, 3) := by decide +kernel
theorem dX11_isMan_19 : decode cX11_isMan 19 = .ok (.iconst 0, 1) := by decide +kernel
theorem dX11_isMan_20 : decode cX11_isMan 20 = .ok (.ireturn, 1) := by decide +kernel
theorem dX11_isMotion_0 : decode cX11_isMotion 0 = .ok (.iload_n 1, 1) := by decide +kernel
theorem dX11_isMotion_1 : decode cX11_isMotion 1 = .ok (.ifCond .lt 18, 3) := by decide +kernel
theorem dX11_isMotion_4 : decode cX11_isMotion 4 = .ok (.iload_n 1, 1) := by decide +kernel
theorem dX11_isMotion_5 : decode cX11_isMotion 5 = .ok (.aload_n 0, 1) := by decide +kernel
theorem dX11_isMotion_6 : decode cX11_isMotion 6 = .ok (.getfield 30, 3) := by decide +kernel
theorem dX11_isMotion_9 : decode cX11_isMotion 9 = .ok (.getfield 281, 3) := by decide +kernel
theorem dX11_isMotion_12 : decode cX11_isMotion 12 = .ok (.if_icmp .ge 7, 3) := by decide +kernel
theorem dX11_isMotion_15 : decode cX11_isMotion 15 = .ok (.iconst 1, 1) := by decide +kernel
theorem dX11_isMotion_16 : decode cX11_isMotion 16 = .ok (.goto 4, 3) := by decide +kernel
theorem dX11_isMotion_19 : decode cX11_isMotion 19 = .ok (.iconst 0, 1) := by decide +kernel
theorem dX11_isMotion_20 : decode cX11_isMotion 20 = .ok (.ireturn, 1) := by decide +kernel
theorem dX11_isSide_0 : decode cX11_isSide 0 = .ok (.iload_n 1, 1) := by decide +kernel
theorem dX11_isSide_1 : decode cX11_isSide 1 = .ok (.ifCond .lt 18, 3) := by decide +kernel
theorem dX11_isSide_4 : decode cX11_isSide 4 = .ok (.iload_n 1, 1) := by decide +kernel
theorem dX11_isSide_5 : decode cX11_isSide 5 = .ok (.aload_n 0, 1) := by decide +kernel
theorem dX11_isSide_6 : decode cX11_isSide 6 = .ok (.getfield 30, 3) := by decide +kernel
theorem dX11_isSide_9 : decode cX11_isSide 9 = .ok (.getfield 112, 3) := by decide +kernel
theorem dX11_isSide_12 : decode cX11_isSide 12 = .ok (.if_icmp .ge 7, 3) := by decide +kernel
theorem dX11_isSide_15 : decode cX11_isSide 15 = .ok (.iconst 1, 1) := by decide +kernel
theorem dX11_isSide_16 : decode cX11_isSide 16 = .ok (.goto 4, 3) := by decide +kernel
theorem dX11_isSide_19 : decode cX11_isSide 19 = .ok (.iconst 0, 1) := by decide +kernel
theorem dX11_isSide_20 : decode cX11_isSide 20 = .ok (.ireturn, 1) := by decide +kernel
theorem dX11_isManner_0 : decode cX11_isManner 0 = .ok (.iload_n 0, 1) := by decide +kernel
theorem dX11_isManner_1 : decode cX11_isManner 1 = .ok (.ifCond .lt 12, 3) := by decide +kernel
theorem dX11_isManner_4 : decode cX11_isManner 4 = .ok (.iload_n 0, 1) := by decide +kernel
theorem dX11_isManner_5 : decode cX11_isManner 5 = .ok (.iconst 4, 1) := by decide +kernel
theorem dX11_isManner_6 : decode cX11_isManner 6 = .ok (.if_icmp .ge 7, 3) := by decide +kernel
theorem dX11_isManner_9 : decode cX11_isManner 9 = .ok (.iconst 1, 1) := by decide +kernel
theorem dX11_isManner_10 : decode cX11_isManner 10 = .ok (.goto 4, 3) := by decide +kernel
theorem dX11_isManner_13 : decode cX11_isManner 13 = .ok (.iconst 0, 1) := by decide +kernel
theorem dX11_isManner_14 : decode cX11_isManner 14 = .ok (.ireturn, 1) := by decide +kernel
theorem dX11_isSilent_0 : decode cX11_isSilent 0 = .ok (.aload_n 0, 1) := by decide +kernel
theorem dX11_isSilent_1 : decode cX11_isSilent 1 = .ok (.getfield 37, 3) := by decide +kernel
theorem dX11_isSilent_4 : decode cX11_isSilent 4 = .ok (.iload_n 1, 1) := by decide +kernel
theorem dX11_isSilent_5 : decode cX11_isSilent 5 = .ok (.iconst 3, 1) := by decide +kernel
theorem dX11_isSilent_6 : decode cX11_isSilent 6 = .ok (.invokevirtual 105, 3) := by decide +kernel
theorem dX11_isSilent_9 : decode cX11_isSilent 9 = .ok (.bipush (-2), 2) := by decide +kernel
theorem dX11_isSilent_11 : decode cX11_isSilent 11 = .ok (.if_icmp .ne 7, 3) := by decide +kernel
theorem dX11_isSilent_14 : decode cX11_isSilent 14 = .ok (.iconst 1, 1) := by decide +kernel
theorem dX11_isSilent_15 : decode cX11_isSilent 15 = .ok (.goto 4, 3) := by decide +kernel
theorem dX11_isSilent_18 : decode cX11_isSilent 18 = .ok (.iconst 0, 1) := by decide +kernel
theorem dX11_isSilent_19 : decode cX11_isSilent 19 = .ok (.ireturn, 1) := by decide +kernel
theorem dX11_speakersOn_0 : decode cX11_speakersOn 0 = .ok (.iconst 0, 1) := by decide +kernel
theorem dX11_speakersOn_1 : decode cX11_speakersOn 1 = .ok (.istore_n 2, 1) := by decide +kernel
theorem dX11_speakersOn_2 : decode cX11_speakersOn 2 = .ok (.iconst 0, 1) := by decide +kernel
theorem dX11_speakersOn_3 : decode cX11_speakersOn 3 = .ok (.istore_n 3, 1) := by decide +kernel
theorem dX11_speakersOn_4 : decode cX11_speakersOn 4 = .ok (.iload_n 3, 1) := by decide +kernel
theorem dX11_speakersOn_5 : decode cX11_speakersOn 5 = .ok (.aload_n 0, 1) := by decide +kernel
theorem dX11_speakersOn_6 : decode cX11_speakersOn 6 = .ok (.getfield 30, 3) := by decide +kernel
theorem dX11_speakersOn_9 : decode cX11_speakersOn 9 = .ok (.getfield 177, 3) := by decide +kernel
theorem dX11_speakersOn_12 : decode cX11_speakersOn 12 = .ok (.if_icmp .ge 28, 3) := by decide +kernel
theorem dX11_speakersOn_15 : decode cX11_speakersOn 15 = .ok (.aload_n 0, 1) := by decide +kernel
theorem dX11_speakersOn_16 : decode cX11_speakersOn 16 = .ok (.getfield 37, 3) := by decide +kernel
theorem dX11_speakersOn_19 : decode cX11_speakersOn 19 = .ok (.iload_n 3, 1) := by decide +kernel
