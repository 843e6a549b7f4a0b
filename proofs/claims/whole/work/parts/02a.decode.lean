theorem dX0_init_0 : decode cX0_init 0 = .ok (.aload_n 0, 1) := by decide +kernel
theorem dX0_init_1 : decode cX0_init 1 = .ok (.invokespecial 3, 3) := by decide +kernel
theorem dX0_init_4 : decode cX0_init 4 = .ok (.aload_n 0, 1) := by decide +kernel
theorem dX0_init_5 : decode cX0_init 5 = .ok (.bipush 7, 2) := by decide +kernel
theorem dX0_init_7 : decode cX0_init 7 = .ok (.newarray .int, 2) := by decide +kernel
theorem dX0_init_9 : decode cX0_init 9 = .ok (.putfield 9, 3) := by decide +kernel
theorem dX0_init_12 : decode cX0_init 12 = .ok (.aload_n 0, 1) := by decide +kernel
theorem dX0_init_13 : decode cX0_init 13 = .ok (.iconst 0, 1) := by decide +kernel
theorem dX0_init_14 : decode cX0_init 14 = .ok (.putfield 15, 3) := by decide +kernel
theorem dX0_init_17 : decode cX0_init 17 = .ok (.aload_n 0, 1) := by decide +kernel
theorem dX0_init_18 : decode cX0_init 18 = .ok (.iconst 0, 1) := by decide +kernel
theorem dX0_init_19 : decode cX0_init 19 = .ok (.putfield 19, 3) := by decide +kernel
theorem dX0_init_22 : decode cX0_init 22 = .ok (.aload_n 0, 1) := by decide +kernel
theorem dX0_init_23 : decode cX0_init 23 = .ok (.bipush 7, 2) := by decide +kernel
theorem dX0_init_25 : decode cX0_init 25 = .ok (.newarray .long, 2) := by decide +kernel
theorem dX0_init_27 : decode cX0_init 27 = .ok (.putfield 22, 3) := by decide +kernel
theorem dX0_init_30 : decode cX0_init 30 = .ok (.aload_n 0, 1) := by decide +kernel
theorem dX0_init_31 : decode cX0_init 31 = .ok (.bipush 7, 2) := by decide +kernel
theorem dX0_init_33 : decode cX0_init 33 = .ok (.newarray .long, 2) := by decide +kernel
theorem dX0_init_35 : decode cX0_init 35 = .ok (.putfield 26, 3) := by decide +kernel
theorem dX0_init_38 : decode cX0_init 38 = .ok (.aload_n 0, 1) := by decide +kernel
theorem dX0_init_39 : decode cX0_init 39 = .ok (.sipush 128, 3) := by decide +kernel
theorem dX0_init_42 : decode cX0_init 42 = .ok (.newarray .long, 2) := by decide +kernel
theorem dX0_init_44 : decode cX0_init 44 = .ok (.putfield 29, 3) := by decide +kernel
theorem dX0_init_47 : decode cX0_init 47 = .ok (.aload_n 0, 1) := by decide +kernel
theorem dX0_init_48 : decode cX0_init 48 = .ok (.sipush 128, 3) := by decide +kernel
theorem dX0_init_51 : decode cX0_init 51 = .ok (.newarray .int, 2) := by decide +kernel
theorem dX0_init_53 : decode cX0_init 53 = .ok (.putfield 32, 3) := by decide +kernel
theorem dX0_init_56 : decode cX0_init 56 = .ok (.aload_n 0, 1) := by decide +kernel
theorem dX0_init_57 : decode cX0_init 57 = .ok (.sipush 128, 3) := by decide +kernel
theorem dX0_init_60 : decode cX0_init 60 = .ok (.newarray .int, 2) := by decide +kernel
theorem dX0_init_62 : decode cX0_init 62 = .ok (.putfield 35, 3) := by decide +kernel
theorem dX0_init_65 : decode cX0_init 65 = .ok (.aload_n 0, 1) := by decide +kernel
theorem dX0_init_66 : decode cX0_init 66 = .ok (.bipush 8, 2) := by decide +kernel
theorem dX0_init_68 : decode cX0_init 68 = .ok (.newarray .long, 2) := by decide +kernel
theorem dX0_init_70 : decode cX0_init 70 = .ok (.putfield 38, 3) := by decide +kernel
theorem dX0_init_73 : decode cX0_init 73 = .ok (.aload_n 0, 1) := by decide +kernel
theorem dX0_init_74 : decode cX0_init 74 = .ok (.lconst 0, 1) := by decide +kernel
theorem dX0_init_75 : decode cX0_init 75 = .ok (.putfield 41, 3) := by decide +kernel
theorem dX0_init_78 : decode cX0_init 78 = .ok (.aload_n 0, 1) := by decide +kernel
theorem dX0_init_79 : decode cX0_init 79 = .ok (.iconst 3, 1) := by decide +kernel
theorem dX0_init_80 : decode cX0_init 80 = .ok (.newarray .int, 2) := by decide +kernel
theorem dX0_init_82 : decode cX0_init 82 = .ok (.putfield 45, 3) := by decide +kernel
theorem dX0_init_85 : decode cX0_init 85 = .ok (.aload_n 0, 1) := by decide +kernel
theorem dX0_init_86 : decode cX0_init 86 = .ok (.iconst 0, 1) := by decide +kernel
theorem dX0_init_87 : decode cX0_init 87 = .ok (.putfield 48, 3) := by decide +kernel
theorem dX0_init_90 : decode cX0_init 90 = .ok (.aload_n 0, 1) := by decide +kernel
theorem dX0_init_91 : decode cX0_init 91 = .ok (.iconst 0, 1) := by decide +kernel
theorem dX0_init_92 : decode cX0_init 92 = .ok (.putfield 51, 3) := by decide +kernel
theorem dX0_init_95 : decode cX0_init 95 = .ok (.aload_n 0, 1) := by decide +kernel
theorem dX0_init_96 : decode cX0_init 96 = .ok (.bipush 12, 2) := by decide +kernel
theorem dX0_init_98 : decode cX0_init 98 = .ok (.newarray .long, 2) := by decide +kernel
theorem dX0_init_100 : decode cX0_init 100 = .ok (.putfield 54, 3) := by decide +kernel
theorem dX0_init_103 : decode cX0_init 103 = .ok (.aload_n 0, 1) := by decide +kernel
theorem dX0_init_104 : decode cX0_init 104 = .ok (.bipush 12, 2) := by decide +kernel
theorem dX0_init_106 : decode cX0_init 106 = .ok (.newarray .long, 2) := by decide +kernel
theorem dX0_init_108 : decode cX0_init 108 = .ok (.putfield 57, 3) := by decide +kernel
theorem dX0_init_111 : decode cX0_init 111 = .ok (.aload_n 0, 1) := by decide +kernel
theorem dX0_init_112 : decode cX0_init 112 = .ok (.aload_n 1, 1) := by decide +kernel
theorem dX0_init_113 : decode cX0_init 113 = .ok (.putfield 60, 3) := by decide +kernel
theorem dX0_init_116 : decode cX0_init 116 = .ok (.aload_n 0, 1) := by decide +kernel
theorem dX0_init_117 : decode cX0_init 117 = .ok (.aload_n 2, 1) := by decide +kernel
theorem dX0_init_118 : decode cX0_init 118 = .ok (.putfield 64, 3) := by decide +kernel
theorem dX0_init_121 : decode cX0_init 121 = .ok (.aload_n 0, 1) := by decide +kernel
theorem dX0_init_122 : decode cX0_init 122 = .ok (.aload_n 3, 1) := by decide +kernel
theorem dX0_init_123 : decode cX0_init 123 = .ok (.putfield 68, 3) := by decide +kernel
theorem dX0_init_126 : decode cX0_init 126 = .ok (.return_, 1) := by decide +kernel
theorem dX0_gather_0 : decode cX0_gather 0 = .ok (.aload_n 0, 1) := by decide +kernel
theorem dX0_gather_1 : decode cX0_gather 1 = .ok (.iload_n 2, 1) := by decide +kernel
theorem dX0_gather_2 : decode cX0_gather 2 = .ok (.putfield 19, 3) := by decide +kernel
theorem dX0_gather_5 : decode cX0_gather 5 = .ok (.aload_n 0, 1) := by decide +kernel
theorem dX0_gather_6 : decode cX0_gather 6 = .ok (.iconst 0, 1) := by decide +kernel
theorem dX0_gather_7 : decode cX0_gather 7 = .ok (.putfield 15, 3) := by decide +kernel
theorem dX0_gather_10 : decode cX0_gather 10 = .ok (.iconst 0, 1) := by decide +kernel
theorem dX0_gather_11 : decode cX0_gather 11 = .ok (.istore_n 3, 1) := by decide +kernel
theorem dX0_gather_12 : decode cX0_gather 12 = .ok (.iload_n 3, 1) := by decide +kernel
theorem dX0_gather_13 : decode cX0_gather 13 = .ok (.aload_n 0, 1) := by decide +kernel
theorem dX0_gather_14 : decode cX0_gather 14 = .ok (.getfield 60, 3) := by decide +kernel
theorem dX0_gather_17 : decode cX0_gather 17 = .ok (.getfield 72, 3) := by decide +kernel
theorem dX0_gather_20 : decode cX0_gather 20 = .ok (.if_icmp .ge 75, 3) := by decide +kernel
theorem dX0_gather_23 : decode cX0_gather 23 = .ok (.aload_n 0, 1) := by decide +kernel
theorem dX0_gather_24 : decode cX0_gather 24 = .ok (.getfield 64, 3) := by decide +kernel
theorem dX0_gather_27 : decode cX0_gather 27 = .ok (.iload_n 3, 1) := by decide +kernel
theorem dX0_gather_28 : decode cX0_gather 28 = .ok (.iconst 3, 1) := by decide +kernel
theorem dX0_gather_29 : decode cX0_gather 29 = .ok (.invokevirtual 79, 3) := by decide +kernel
theorem dX0_gather_32 : decode cX0_gather 32 = .ok (.iload_n 1, 1) := by decide +kernel
theorem dX0_gather_33 : decode cX0_gather 33 = .ok (.if_icmp .ne 56, 3) := by decide +kernel
theorem dX0_gather_36 : decode cX0_gather 36 = .ok (.aload_n 0, 1) := by decide +kernel
theorem dX0_gather_37 : decode cX0_gather 37 = .ok (.getfield 15, 3) := by decide +kernel
theorem dX0_gather_40 : decode cX0_gather 40 = .ok (.bipush 7, 2) := by decide +kernel
theorem dX0_gather_42 : decode cX0_gather 42 = .ok (.if_icmp .ge 47, 3) := by decide +kernel
theorem dX0_gather_45 : decode cX0_gather 45 = .ok (.aload_n 0, 1) := by decide +kernel
theorem dX0_gather_46 : decode cX0_gather 46 = .ok (.getfield 9, 3) := by decide +kernel
theorem dX0_gather_49 : decode cX0_gather 49 = .ok (.aload_n 0, 1) := by decide +kernel
theorem dX0_gather_50 : decode cX0_gather 50 = .ok (.getfield 15, 3) := by decide +kernel
theorem dX0_gather_53 : decode cX0_gather 53 = .ok (.iload_n 3, 1) := by decide +kernel
theorem dX0_gather_54 : decode cX0_gather 54 = .ok (.iastore, 1) := by decide +kernel
theorem dX0_gather_55 : decode cX0_gather 55 = .ok (.aload_n 0, 1) := by decide +kernel
theorem dX0_gather_56 : decode cX0_gather 56 = .ok (.aload_n 0, 1) := by decide +kernel
theorem dX0_gather_57 : decode cX0_gather 57 = .ok (.getfield 15, 3) := by decide +kernel
theorem dX0_gather_60 : decode cX0_gather 60 = .ok (.invokevirtual 83, 3) := by decide +kernel
theorem dX0_gather_63 : decode cX0_gather 63 = .ok (.aload_n 0, 1) := by decide +kernel
theorem dX0_gather_64 : decode cX0_gather 64 = .ok (.getfield 22, 3) := by decide +kernel
theorem dX0_gather_67 : decode cX0_gather 67 = .ok (.aload_n 0, 1) := by decide +kernel
theorem dX0_gather_68 : decode cX0_gather 68 = .ok (.getfield 15, 3) := by decide +kernel
theorem dX0_gather_71 : decode cX0_gather 71 = .ok (.aload_n 0, 1) := by decide +kernel
theorem dX0_gather_72 : decode cX0_gather 72 = .ok (.getfield 68, 3) := by decide +kernel
theorem dX0_gather_75 : decode cX0_gather 75 = .ok (.invokevirtual 87, 3) := by decide +kernel
theorem dX0_gather_78 : decode cX0_gather 78 = .ok (.lastore, 1) := by decide +kernel
theorem dX0_gather_79 : decode cX0_gather 79 = .ok (.aload_n 0, 1) := by decide +kernel
theorem dX0_gather_80 : decode cX0_gather 80 = .ok (.dup, 1) := by decide +kernel
theorem dX0_gather_81 : decode cX0_gather 81 = .ok (.getfield 15, 3) := by decide +kernel
theorem dX0_gather_84 : decode cX0_gather 84 = .ok (.iconst 1, 1) := by decide +kernel
theorem dX0_gather_85 : decode cX0_gather 85 = .ok (.iadd, 1) := by decide +kernel
theorem dX0_gather_86 : decode cX0_gather 86 = .ok (.putfield 15, 3) := by decide +kernel
theorem dX0_gather_89 : decode cX0_gather 89 = .ok (.iinc 3 1, 3) := by decide +kernel
theorem dX0_gather_92 : decode cX0_gather 92 = .ok (.goto (-80), 3) := by decide +kernel
theorem dX0_gather_95 : decode cX0_gather 95 = .ok (.return_, 1) := by decide +kernel
theorem dX0_takeSpeech_0 : decode cX0_takeSpeech 0 = .ok (.aload_n 0, 1) := by decide +kernel
theorem dX0_takeSpeech_1 : decode cX0_takeSpeech 1 = .ok (.getfield 68, 3) := by decide +kernel
theorem dX0_takeSpeech_4 : decode cX0_takeSpeech 4 = .ok (.aload_n 0, 1) := by decide +kernel
theorem dX0_takeSpeech_5 : decode cX0_takeSpeech 5 = .ok (.getfield 64, 3) := by decide +kernel
theorem dX0_takeSpeech_8 : decode cX0_takeSpeech 8 = .ok (.aload_n 0, 1) := by decide +kernel
theorem dX0_takeSpeech_9 : decode cX0_takeSpeech 9 = .ok (.getfield 9, 3) := by decide +kernel
theorem dX0_takeSpeech_12 : decode cX0_takeSpeech 12 = .ok (.iload_n 1, 1) := by decide +kernel
theorem dX0_takeSpeech_13 : decode cX0_takeSpeech 13 = .ok (.iaload, 1) := by decide +kernel
theorem dX0_takeSpeech_14 : decode cX0_takeSpeech 14 = .ok (.invokevirtual 93, 3) := by decide +kernel
theorem dX0_takeSpeech_17 : decode cX0_takeSpeech 17 = .ok (.aload_n 0, 1) := by decide +kernel
theorem dX0_takeSpeech_18 : decode cX0_takeSpeech 18 = .ok (.getfield 68, 3) := by decide +kernel
theorem dX0_takeSpeech_21 : decode cX0_takeSpeech 21 = .ok (.aload_n 0, 1) := by decide +kernel
theorem dX0_takeSpeech_22 : decode cX0_takeSpeech 22 = .ok (.getfield 19, 3) := by decide +kernel
theorem dX0_takeSpeech_25 : decode cX0_takeSpeech 25 = .ok (.putfield 97, 3) := by decide +kernel
theorem dX0_takeSpeech_28 : decode cX0_takeSpeech 28 = .ok (.return_, 1) := by decide +kernel
theorem dX0_asItIs_0 : decode cX0_asItIs 0 = .ok (.lconst 0, 1) := by decide +kernel
theorem dX0_asItIs_1 : decode cX0_asItIs 1 = .ok (.lstore_n 1, 1) := by decide +kernel
theorem dX0_asItIs_2 : decode cX0_asItIs 2 = .ok (.iconst 0, 1) := by decide +kernel
theorem dX0_asItIs_3 : decode cX0_asItIs 3 = .ok (.istore_n 3, 1) := by decide +kernel
theorem dX0_asItIs_4 : decode cX0_asItIs 4 = .ok (.iload_n 3, 1) := by decide +kernel
theorem dX0_asItIs_5 : decode cX0_asItIs 5 = .ok (.aload_n 0, 1) := by decide +kernel
theorem dX0_asItIs_6 : decode cX0_asItIs 6 = .ok (.getfield 15, 3) := by decide +kernel
theorem dX0_asItIs_9 : decode cX0_asItIs 9 = .ok (.if_icmp .ge 18, 3) := by decide +kernel
theorem dX0_asItIs_12 : decode cX0_asItIs 12 = .ok (.lload_n 1, 1) := by decide +kernel
theorem dX0_asItIs_13 : decode cX0_asItIs 13 = .ok (.aload_n 0, 1) := by decide +kernel
theorem dX0_asItIs_14 : decode cX0_asItIs 14 = .ok (.getfield 22, 3) := by decide +kernel
theorem dX0_asItIs_17 : decode cX0_asItIs 17 = .ok (.iload_n 3, 1) := by decide +kernel
theorem dX0_asItIs_18 : decode cX0_asItIs 18 = .ok (.laload, 1) := by decide +kernel
theorem dX0_asItIs_19 : decode cX0_asItIs 19 = .ok (.ladd, 1) := by decide +kernel
theorem dX0_asItIs_20 : decode cX0_asItIs 20 = .ok (.lstore_n 1, 1) := by decide +kernel
theorem dX0_asItIs_21 : decode cX0_asItIs 21 = .ok (.iinc 3 1, 3) := by decide +kernel
theorem dX0_asItIs_24 : decode cX0_asItIs 24 = .ok (.goto (-20), 3) := by decide +kernel
theorem dX0_asItIs_27 : decode cX0_asItIs 27 = .ok (.lload_n 1, 1) := by decide +kernel
theorem dX0_asItIs_28 : decode cX0_asItIs 28 = .ok (.lreturn, 1) := by decide +kernel
theorem dX0_turnBySlip_0 : decode cX0_turnBySlip 0 = .ok (.iconst 0, 1) := by decide +kernel
theorem dX0_turnBySlip_1 : decode cX0_turnBySlip 1 = .ok (.istore_n 1, 1) := by decide +kernel
theorem dX0_turnBySlip_2 : decode cX0_turnBySlip 2 = .ok (.iload_n 1, 1) := by decide +kernel
theorem dX0_turnBySlip_3 : decode cX0_turnBySlip 3 = .ok (.aload_n 0, 1) := by decide +kernel
theorem dX0_turnBySlip_4 : decode cX0_turnBySlip 4 = .ok (.getfield 15, 3) := by decide +kernel
theorem dX0_turnBySlip_7 : decode cX0_turnBySlip 7 = .ok (.if_icmp .ge 35, 3) := by decide +kernel
theorem dX0_turnBySlip_10 : decode cX0_turnBySlip 10 = .ok (.aload_n 0, 1) := by decide +kernel
theorem dX0_turnBySlip_11 : decode cX0_turnBySlip 11 = .ok (.iload_n 1, 1) := by decide +kernel
theorem dX0_turnBySlip_12 : decode cX0_turnBySlip 12 = .ok (.invokevirtual 83, 3) := by decide +kernel
theorem dX0_turnBySlip_15 : decode cX0_turnBySlip 15 = .ok (.aload_n 0, 1) := by decide +kernel
theorem dX0_turnBySlip_16 : decode cX0_turnBySlip 16 = .ok (.getfield 68, 3) := by decide +kernel
theorem dX0_turnBySlip_19 : decode cX0_turnBySlip 19 = .ok (.iconst 1, 1) := by decide +kernel
theorem dX0_turnBySlip_20 : decode cX0_turnBySlip 20 = .ok (.putfield 98, 3) := by decide +kernel
theorem dX0_turnBySlip_23 : decode cX0_turnBySlip 23 = .ok (.aload_n 0, 1) := by decide +kernel
theorem dX0_turnBySlip_24 : decode cX0_turnBySlip 24 = .ok (.getfield 26, 3) := by decide +kernel
theorem dX0_turnBySlip_27 : decode cX0_turnBySlip 27 = .ok (.iload_n 1, 1) := by decide +kernel
theorem dX0_turnBySlip_28 : decode cX0_turnBySlip 28 = .ok (.aload_n 0, 1) := by decide +kernel
theorem dX0_turnBySlip_29 : decode cX0_turnBySlip 29 = .ok (.getfield 68, 3) := by decide +kernel
theorem dX0_turnBySlip_32 : decode cX0_turnBySlip 32 = .ok (.invokevirtual 87, 3) := by decide +kernel
theorem dX0_turnBySlip_35 : decode cX0_turnBySlip 35 = .ok (.lastore, 1) := by decide +kernel
theorem dX0_turnBySlip_36 : decode cX0_turnBySlip 36 = .ok (.iinc 1 1, 3) := by decide +kernel
theorem dX0_turnBySlip_39 : decode cX0_turnBySlip 39 = .ok (.goto (-37), 3) := by decide +kernel
theorem dX0_turnBySlip_42 : decode cX0_turnBySlip 42 = .ok (.return_, 1) := by decide +kernel
theorem dX0_turnByOath_0 : decode cX0_turnByOath 0 = .ok (.iconst 0, 1) := by decide +kernel
theorem dX0_turnByOath_1 : decode cX0_turnByOath 1 = .ok (.istore_n 1, 1) := by decide +kernel
theorem dX0_turnByOath_2 : decode cX0_turnByOath 2 = .ok (.iload_n 1, 1) := by decide +kernel
theorem dX0_turnByOath_3 : decode cX0_turnByOath 3 = .ok (.aload_n 0, 1) := by decide +kernel
theorem dX0_turnByOath_4 : decode cX0_turnByOath 4 = .ok (.getfield 15, 3) := by decide +kernel
theorem dX0_turnByOath_7 : decode cX0_turnByOath 7 = .ok (.if_icmp .ge 56, 3) := by decide +kernel
theorem dX0_turnByOath_10 : decode cX0_turnByOath 10 = .ok (.aload_n 0, 1) := by decide +kernel
theorem dX0_turnByOath_11 : decode cX0_turnByOath 11 = .ok (.iload_n 1, 1) := by decide +kernel
theorem dX0_turnByOath_12 : decode cX0_turnByOath 12 = .ok (.invokevirtual 83, 3) := by decide +kernel
theorem dX0_turnByOath_15 : decode cX0_turnByOath 15 = .ok (.aload_n 0, 1) := by decide +kernel
theorem dX0_turnByOath_16 : decode cX0_turnByOath 16 = .ok (.getfield 68, 3) := by decide +kernel
theorem dX0_turnByOath_19 : decode cX0_turnByOath 19 = .ok (.aload_n 0, 1) := by decide +kernel
theorem dX0_turnByOath_20 : decode cX0_turnByOath 20 = .ok (.getfield 64, 3) := by decide +kernel
theorem dX0_turnByOath_23 : decode cX0_turnByOath 23 = .ok (.aload_n 0, 1) := by decide +kernel
theorem dX0_turnByOath_24 : decode cX0_turnByOath 24 = .ok (.getfield 9, 3) := by decide +kernel
theorem dX0_turnByOath_27 : decode cX0_turnByOath 27 = .ok (.iload_n 1, 1) := by decide +kernel
theorem dX0_turnByOath_28 : decode cX0_turnByOath 28 = .ok (.iaload, 1) := by decide +kernel
theorem dX0_turnByOath_29 : decode cX0_turnByOath 29 = .ok (.iconst 0, 1) := by decide +kernel
theorem dX0_turnByOath_30 : decode cX0_turnByOath 30 = .ok (.invokevirtual 79, 3) := by decide +kernel
theorem dX0_turnByOath_33 : decode cX0_turnByOath 33 = .ok (.putfield 101, 3) := by decide +kernel
theorem dX0_turnByOath_36 : decode cX0_turnByOath 36 = .ok (.aload_n 0, 1) := by decide +kernel
theorem dX0_turnByOath_37 : decode cX0_turnByOath 37 = .ok (.getfield 68, 3) := by decide +kernel
theorem dX0_turnByOath_40 : decode cX0_turnByOath 40 = .ok (.iconst 1, 1) := by decide +kernel
theorem dX0_turnByOath_41 : decode cX0_turnByOath 41 = .ok (.putfield 104, 3) := by decide +kernel
theorem dX0_turnByOath_44 : decode cX0_turnByOath 44 = .ok (.aload_n 0, 1) := by decide +kernel
theorem dX0_turnByOath_45 : decode cX0_turnByOath 45 = .ok (.getfield 26, 3) := by decide +kernel
theorem dX0_turnByOath_48 : decode cX0_turnByOath 48 = .ok (.iload_n 1, 1) := by decide +kernel
theorem dX0_turnByOath_49 : decode cX0_turnByOath 49 = .ok (.aload_n 0, 1) := by decide +kernel
theorem dX0_turnByOath_50 : decode cX0_turnByOath 50 = .ok (.getfield 68, 3) := by decide +kernel
theorem dX0_turnByOath_53 : decode cX0_turnByOath 53 = .ok (.invokevirtual 87, 3) := by decide +kernel
theorem dX0_turnByOath_56 : decode cX0_turnByOath 56 = .ok (.lastore, 1) := by decide +kernel
theorem dX0_turnByOath_57 : decode cX0_turnByOath 57 = .ok (.iinc 1 1, 3) := by decide +kernel
theorem dX0_turnByOath_60 : decode cX0_turnByOath 60 = .ok (.goto (-58), 3) := by decide +kernel
theorem dX0_turnByOath_63 : decode cX0_turnByOath 63 = .ok (.return_, 1) := by decide +kernel
theorem dX0_turnByMumble_0 : decode cX0_turnByMumble 0 = .ok (.iconst 0, 1) := by decide +kernel
theorem dX0_turnByMumble_1 : decode cX0_turnByMumble 1 = .ok (.istore_n 1, 1) := by decide +kernel
theorem dX0_turnByMumble_2 : decode cX0_turnByMumble 2 = .ok (.iload_n 1, 1) := by decide +kernel
theorem dX0_turnByMumble_3 : decode cX0_turnByMumble 3 = .ok (.aload_n 0, 1) := by decide +kernel
theorem dX0_turnByMumble_4 : decode cX0_turnByMumble 4 = .ok (.getfield 15, 3) := by decide +kernel
theorem dX0_turnByMumble_7 : decode cX0_turnByMumble 7 = .ok (.if_icmp .ge 35, 3) := by decide +kernel
theorem dX0_turnByMumble_10 : decode cX0_turnByMumble 10 = .ok (.aload_n 0, 1) := by decide +kernel
theorem dX0_turnByMumble_11 : decode cX0_turnByMumble 11 = .ok (.iload_n 1, 1) := by decide +kernel
theorem dX0_turnByMumble_12 : decode cX0_turnByMumble 12 = .ok (.invokevirtual 83, 3) := by decide +kernel
theorem dX0_turnByMumble_15 : decode cX0_turnByMumble 15 = .ok (.aload_n 0, 1) := by decide +kernel
theorem dX0_turnByMumble_16 : decode cX0_turnByMumble 16 = .ok (.getfield 68, 3) := by decide +kernel
theorem dX0_turnByMumble_19 : decode cX0_turnByMumble 19 = .ok (.iconst 1, 1) := by decide +kernel
theorem dX0_turnByMumble_20 : decode cX0_turnByMumble 20 = .ok (.putfield 107, 3) := by decide +kernel
theorem dX0_turnByMumble_23 : decode cX0_turnByMumble 23 = .ok (.aload_n 0, 1) := by decide +kernel
theorem dX0_turnByMumble_24 : decode cX0_turnByMumble 24 = .ok (.getfield 26, 3) := by decide +kernel
theorem dX0_turnByMumble_27 : decode cX0_turnByMumble 27 = .ok (.iload_n 1, 1) := by decide +kernel
theorem dX0_turnByMumble_28 : decode cX0_turnByMumble 28 = .ok (.aload_n 0, 1) := by decide +kernel
theorem dX0_turnByMumble_29 : decode cX0_turnByMumble 29 = .ok (.getfield 68, 3) := by decide +kernel
theorem dX0_turnByMumble_32 : decode cX0_turnByMumble 32 = .ok (.invokevirtual 87, 3) := by decide +kernel
theorem dX0_turnByMumble_35 : decode cX0_turnByMumble 35 = .ok (.lastore, 1) := by decide +kernel
theorem dX0_turnByMumble_36 : decode cX0_turnByMumble 36 = .ok (.iinc 1 1, 3) := by decide +kernel
theorem dX0_turnByMumble_39 : decode cX0_turnByMumble 39 = .ok (.goto (-37), 3) := by decide +kernel
theorem dX0_turnByMumble_42 : decode cX0_turnByMumble 42 = .ok (.return_, 1) := by decide +kernel
theorem dX0_fillBags_0 : decode cX0_fillBags 0 = .ok (.aload_n 0, 1) := by decide +kernel
theorem dX0_fillBags_1 : decode cX0_fillBags 1 = .ok (.getfield 29, 3) := by decide +kernel
theorem dX0_fillBags_4 : decode cX0_fillBags 4 = .ok (.iconst 0, 1) := by decide +kernel
theorem dX0_fillBags_5 : decode cX0_fillBags 5 = .ok (.aload_n 0, 1) := by decide +kernel
theorem dX0_fillBags_6 : decode cX0_fillBags 6 = .ok (.invokevirtual 110, 3) := by decide +kernel
theorem dX0_fillBags_9 : decode cX0_fillBags 9 = .ok (.lastore, 1) := by decide +kernel
theorem dX0_fillBags_10 : decode cX0_fillBags 10 = .ok (.iconst 1, 1) := by decide +kernel
theorem dX0_fillBags_11 : decode cX0_fillBags 11 = .ok (.istore_n 1, 1) := by decide +kernel
theorem dX0_fillBags_12 : decode cX0_fillBags 12 = .ok (.iload_n 1, 1) := by decide +kernel
theorem dX0_fillBags_13 : decode cX0_fillBags 13 = .ok (.iconst 1, 1) := by decide +kernel
theorem dX0_fillBags_14 : decode cX0_fillBags 14 = .ok (.aload_n 0, 1) := by decide +kernel
theorem dX0_fillBags_15 : decode cX0_fillBags 15 = .ok (.getfield 15, 3) := by decide +kernel
theorem dX0_fillBags_18 : decode cX0_fillBags 18 = .ok (.ishl, 1) := by decide +kernel
theorem dX0_fillBags_19 : decode cX0_fillBags 19 = .ok (.if_icmp .ge 44, 3) := by decide +kernel
theorem dX0_fillBags_22 : decode cX0_fillBags 22 = .ok (.iload_n 1, 1) := by decide +kernel
theorem dX0_fillBags_23 : decode cX0_fillBags 23 = .ok (.invokestatic 113, 3) := by decide +kernel
theorem dX0_fillBags_26 : decode cX0_fillBags 26 = .ok (.istore_n 2, 1) := by decide +kernel
theorem dX0_fillBags_27 : decode cX0_fillBags 27 = .ok (.aload_n 0, 1) := by decide +kernel
theorem dX0_fillBags_28 : decode cX0_fillBags 28 = .ok (.getfield 29, 3) := by decide +kernel
theorem dX0_fillBags_31 : decode cX0_fillBags 31 = .ok (.iload_n 1, 1) := by decide +kernel
theorem dX0_fillBags_32 : decode cX0_fillBags 32 = .ok (.aload_n 0, 1) := by decide +kernel
theorem dX0_fillBags_33 : decode cX0_fillBags 33 = .ok (.getfield 29, 3) := by decide +kernel
theorem dX0_fillBags_36 : decode cX0_fillBags 36 = .ok (.iload_n 1, 1) := by decide +kernel
theorem dX0_fillBags_37 : decode cX0_fillBags 37 = .ok (.iload_n 1, 1) := by decide +kernel
theorem dX0_fillBags_38 : decode cX0_fillBags 38 = .ok (.iconst 1, 1) := by decide +kernel
theorem dX0_fillBags_39 : decode cX0_fillBags 39 = .ok (.isub, 1) := by decide +kernel
theorem dX0_fillBags_40 : decode cX0_fillBags 40 = .ok (.iand, 1) := by decide +kernel
theorem dX0_fillBags_41 : decode cX0_fillBags 41 = .ok (.laload, 1) := by decide +kernel
theorem dX0_fillBags_42 : decode cX0_fillBags 42 = .ok (.aload_n 0, 1) := by decide +kernel
theorem dX0_fillBags_43 : decode cX0_fillBags 43 = .ok (.getfield 22, 3) := by decide +kernel
theorem dX0_fillBags_46 : decode cX0_fillBags 46 = .ok (.iload_n 2, 1) := by decide +kernel
theorem dX0_fillBags_47 : decode cX0_fillBags 47 = .ok (.laload, 1) := by decide +kernel
theorem dX0_fillBags_48 : decode cX0_fillBags 48 = .ok (.lsub, 1) := by decide +kernel
theorem dX0_fillBags_49 : decode cX0_fillBags 49 = .ok (.aload_n 0, 1) := by decide +kernel
theorem dX0_fillBags_50 : decode cX0_fillBags 50 = .ok (.getfield 26, 3) := by decide +kernel
theorem dX0_fillBags_53 : decode cX0_fillBags 53 = .ok (.iload_n 2, 1) := by decide +kernel
theorem dX0_fillBags_54 : decode cX0_fillBags 54 = .ok (.laload, 1) := by decide +kernel
theorem dX0_fillBags_55 : decode cX0_fillBags 55 = .ok (.ladd, 1) := by decide +kernel
theorem dX0_fillBags_56 : decode cX0_fillBags 56 = .ok (.lastore, 1) := by decide +kernel
theorem dX0_fillBags_57 : decode cX0_fillBags 57 = .ok (.iinc 1 1, 3) := by decide +kernel
theorem dX0_fillBags_60 : decode cX0_fillBags 60 = .ok (.goto (-48), 3) := by decide +kernel
theorem dX0_fillBags_63 : decode cX0_fillBags 63 = .ok (.return_, 1) := by decide +kernel
theorem dX0_menOf_0 : decode cX0_menOf 0 = .ok (.iconst 0, 1) := by decide +kernel
theorem dX0_menOf_1 : decode cX0_menOf 1 = .ok (.istore_n 2, 1) := by decide +kernel
theorem dX0_menOf_2 : decode cX0_menOf 2 = .ok (.iconst 0, 1) := by decide +kernel
theorem dX0_menOf_3 : decode cX0_menOf 3 = .ok (.istore_n 3, 1) := by decide +kernel
theorem dX0_menOf_4 : decode cX0_menOf 4 = .ok (.iload_n 3, 1) := by decide +kernel
theorem dX0_menOf_5 : decode cX0_menOf 5 = .ok (.aload_n 0, 1) := by decide +kernel
theorem dX0_menOf_6 : decode cX0_menOf 6 = .ok (.getfield 15, 3) := by decide +kernel
theorem dX0_menOf_9 : decode cX0_menOf 9 = .ok (.if_icmp .ge 24, 3) := by decide +kernel
theorem dX0_menOf_12 : decode cX0_menOf 12 = .ok (.iload_n 2, 1) := by decide +kernel
theorem dX0_menOf_13 : decode cX0_menOf 13 = .ok (.iload_n 1, 1) := by decide +kernel
theorem dX0_menOf_14 : decode cX0_menOf 14 = .ok (.iload_n 3, 1) := by decide +kernel
theorem dX0_menOf_15 : decode cX0_menOf 15 = .ok (.ishr, 1) := by decide +kernel
theorem dX0_menOf_16 : decode cX0_menOf 16 = .ok (.iconst 1, 1) := by decide +kernel
theorem dX0_menOf_17 : decode cX0_menOf 17 = .ok (.iand, 1) := by decide +kernel
theorem dX0_menOf_18 : decode cX0_menOf 18 = .ok (.aload_n 0, 1) := by decide +kernel
theorem dX0_menOf_19 : decode cX0_menOf 19 = .ok (.getfield 9, 3) := by decide +kernel
theorem dX0_menOf_22 : decode cX0_menOf 22 = .ok (.iload_n 3, 1) := by decide +kernel
theorem dX0_menOf_23 : decode cX0_menOf 23 = .ok (.iaload, 1) := by decide +kernel
theorem dX0_menOf_24 : decode cX0_menOf 24 = .ok (.ishl, 1) := by decide +kernel
theorem dX0_menOf_25 : decode cX0_menOf 25 = .ok (.ior, 1) := by decide +kernel
theorem dX0_menOf_26 : decode cX0_menOf 26 = .ok (.istore_n 2, 1) := by decide +kernel
theorem dX0_menOf_27 : decode cX0_menOf 27 = .ok (.iinc 3 1, 3) := by decide +kernel
theorem dX0_menOf_30 : decode cX0_menOf 30 = .ok (.goto (-26), 3) := by decide +kernel
theorem dX0_menOf_33 : decode cX0_menOf 33 = .ok (.iload_n 2, 1) := by decide +kernel
theorem dX0_menOf_34 : decode cX0_menOf 34 = .ok (.ireturn, 1) := by decide +kernel
theorem dX0_weigh_0 : decode cX0_weigh 0 = .ok (.iconst 0, 1) := by decide +kernel
theorem dX0_weigh_1 : decode cX0_weigh 1 = .ok (.istore_n 1, 1) := by decide +kernel
theorem dX0_weigh_2 : decode cX0_weigh 2 = .ok (.iload_n 1, 1) := by decide +kernel
theorem dX0_weigh_3 : decode cX0_weigh 3 = .ok (.iconst 1, 1) := by decide +kernel
theorem dX0_weigh_4 : decode cX0_weigh 4 = .ok (.aload_n 0, 1) := by decide +kernel
theorem dX0_weigh_5 : decode cX0_weigh 5 = .ok (.getfield 15, 3) := by decide +kernel
theorem dX0_weigh_8 : decode cX0_weigh 8 = .ok (.ishl, 1) := by decide +kernel
theorem dX0_weigh_9 : decode cX0_weigh 9 = .ok (.if_icmp .ge 71, 3) := by decide +kernel
theorem dX0_weigh_12 : decode cX0_weigh 12 = .ok (.iconst 1, 1) := by decide +kernel
theorem dX0_weigh_13 : decode cX0_weigh 13 = .ok (.istore_n 2, 1) := by decide +kernel
theorem dX0_weigh_14 : decode cX0_weigh 14 = .ok (.iconst 0, 1) := by decide +kernel
theorem dX0_weigh_15 : decode cX0_weigh 15 = .ok (.istore_n 3, 1) := by decide +kernel
theorem dX0_weigh_16 : decode cX0_weigh 16 = .ok (.iload_n 3, 1) := by decide +kernel
theorem dX0_weigh_17 : decode cX0_weigh 17 = .ok (.aload_n 0, 1) := by decide +kernel
theorem dX0_weigh_18 : decode cX0_weigh 18 = .ok (.getfield 15, 3) := by decide +kernel
theorem dX0_weigh_21 : decode cX0_weigh 21 = .ok (.if_icmp .ge 46, 3) := by decide +kernel
theorem dX0_weigh_24 : decode cX0_weigh 24 = .ok (.aload_n 0, 1) := by decide +kernel
theorem dX0_weigh_25 : decode cX0_weigh 25 = .ok (.getfield 60, 3) := by decide +kernel
theorem dX0_weigh_28 : decode cX0_weigh 28 = .ok (.aload_n 0, 1) := by decide +kernel
theorem dX0_weigh_29 : decode cX0_weigh 29 = .ok (.getfield 9, 3) := by decide +kernel
theorem dX0_weigh_32 : decode cX0_weigh 32 = .ok (.iload_n 3, 1) := by decide +kernel
theorem dX0_weigh_33 : decode cX0_weigh 33 = .ok (.iaload, 1) := by decide +kernel
theorem dX0_weigh_34 : decode cX0_weigh 34 = .ok (.invokevirtual 119, 3) := by decide +kernel
theorem dX0_weigh_37 : decode cX0_weigh 37 = .ok (.istore 4, 2) := by decide +kernel
theorem dX0_weigh_39 : decode cX0_weigh 39 = .ok (.iload_n 2, 1) := by decide +kernel
theorem dX0_weigh_40 : decode cX0_weigh 40 = .ok (.iload_n 1, 1) := by decide +kernel
theorem dX0_weigh_41 : decode cX0_weigh 41 = .ok (.iload_n 3, 1) := by decide +kernel
theorem dX0_weigh_42 : decode cX0_weigh 42 = .ok (.ishr, 1) := by decide +kernel
theorem dX0_weigh_43 : decode cX0_weigh 43 = .ok (.iconst 1, 1) := by decide +kernel
theorem dX0_weigh_44 : decode cX0_weigh 44 = .ok (.iand, 1) := by decide +kernel
theorem dX0_weigh_45 : decode cX0_weigh 45 = .ok (.iconst 1, 1) := by decide +kernel
theorem dX0_weigh_46 : decode cX0_weigh 46 = .ok (.if_icmp .ne 8, 3) := by decide +kernel
theorem dX0_weigh_49 : decode cX0_weigh 49 = .ok (.iload 4, 2) := by decide +kernel
theorem dX0_weigh_51 : decode cX0_weigh 51 = .ok (.goto 8, 3) := by decide +kernel
theorem dX0_weigh_54 : decode cX0_weigh 54 = .ok (.bipush 10, 2) := by decide +kernel
theorem dX0_weigh_56 : decode cX0_weigh 56 = .ok (.iload 4, 2) := by decide +kernel
theorem dX0_weigh_58 : decode cX0_weigh 58 = .ok (.isub, 1) := by decide +kernel
theorem dX0_weigh_59 : decode cX0_weigh 59 = .ok (.imul, 1) := by decide +kernel
theorem dX0_weigh_60 : decode cX0_weigh 60 = .ok (.istore_n 2, 1) := by decide +kernel
theorem dX0_weigh_61 : decode cX0_weigh 61 = .ok (.iinc 3 1, 3) := by decide +kernel
theorem dX0_weigh_64 : decode cX0_weigh 64 = .ok (.goto (-48), 3) := by decide +kernel
theorem dX0_weigh_67 : decode cX0_weigh 67 = .ok (.aload_n 0, 1) := by decide +kernel
theorem dX0_weigh_68 : decode cX0_weigh 68 = .ok (.getfield 35, 3) := by decide +kernel
theorem dX0_weigh_71 : decode cX0_weigh 71 = .ok (.iload_n 1, 1) := by decide +kernel
theorem dX0_weigh_72 : decode cX0_weigh 72 = .ok (.iload_n 2, 1) := by decide +kernel
theorem dX0_weigh_73 : decode cX0_weigh 73 = .ok (.iastore, 1) := by decide +kernel
theorem dX0_weigh_74 : decode cX0_weigh 74 = .ok (.iinc 1 1, 3) := by decide +kernel
theorem dX0_weigh_77 : decode cX0_weigh 77 = .ok (.goto (-75), 3) := by decide +kernel
theorem dX0_weigh_80 : decode cX0_weigh 80 = .ok (.return_, 1) := by decide +kernel
theorem dX0_allChances_0 : decode cX0_allChances 0 = .ok (.iconst 1, 1) := by decide +kernel
theorem dX0_allChances_1 : decode cX0_allChances 1 = .ok (.istore_n 1, 1) := by decide +kernel
theorem dX0_allChances_2 : decode cX0_allChances 2 = .ok (.iconst 0, 1) := by decide +kernel
theorem dX0_allChances_3 : decode cX0_allChances 3 = .ok (.istore_n 2, 1) := by decide +kernel
theorem dX0_allChances_4 : decode cX0_allChances 4 = .ok (.iload_n 2, 1) := by decide +kernel
theorem dX0_allChances_5 : decode cX0_allChances 5 = .ok (.aload_n 0, 1) := by decide +kernel
theorem dX0_allChances_6 : decode cX0_allChances 6 = .ok (.getfield 15, 3) := by decide +kernel
theorem dX0_allChances_9 : decode cX0_allChances 9 = .ok (.if_icmp .ge 14, 3) := by decide +kernel
theorem dX0_allChances_12 : decode cX0_allChances 12 = .ok (.iload_n 1, 1) := by decide +kernel
theorem dX0_allChances_13 : decode cX0_allChances 13 = .ok (.bipush 10, 2) := by decide +kernel
theorem dX0_allChances_15 : decode cX0_allChances 15 = .ok (.imul, 1) := by decide +kernel
theorem dX0_allChances_16 : decode cX0_allChances 16 = .ok (.istore_n 1, 1) := by decide +kernel
theorem dX0_allChances_17 : decode cX0_allChances 17 = .ok (.iinc 2 1, 3) := by decide +kernel
theorem dX0_allChances_20 : decode cX0_allChances 20 = .ok (.goto (-16), 3) := by decide +kernel
theorem dX0_allChances_23 : decode cX0_allChances 23 = .ok (.iload_n 1, 1) := by decide +kernel
theorem dX0_allChances_24 : decode cX0_allChances 24 = .ok (.ireturn, 1) := by decide +kernel
theorem dX0_chanceOf_0 : decode cX0_chanceOf 0 = .ok (.aload_n 0, 1) := by decide +kernel
theorem dX0_chanceOf_1 : decode cX0_chanceOf 1 = .ok (.invokevirtual 122, 3) := by decide +kernel
theorem dX0_chanceOf_4 : decode cX0_chanceOf 4 = .ok (.iconst 0, 1) := by decide +kernel
theorem dX0_chanceOf_5 : decode cX0_chanceOf 5 = .ok (.istore_n 2, 1) := by decide +kernel
theorem dX0_chanceOf_6 : decode cX0_chanceOf 6 = .ok (.iconst 0, 1) := by decide +kernel
theorem dX0_chanceOf_7 : decode cX0_chanceOf 7 = .ok (.istore_n 3, 1) := by decide +kernel
theorem dX0_chanceOf_8 : decode cX0_chanceOf 8 = .ok (.iload_n 3, 1) := by decide +kernel
theorem dX0_chanceOf_9 : decode cX0_chanceOf 9 = .ok (.iconst 1, 1) := by decide +kernel
theorem dX0_chanceOf_10 : decode cX0_chanceOf 10 = .ok (.aload_n 0, 1) := by decide +kernel
theorem dX0_chanceOf_11 : decode cX0_chanceOf 11 = .ok (.getfield 15, 3) := by decide +kernel
theorem dX0_chanceOf_14 : decode cX0_chanceOf 14 = .ok (.ishl, 1) := by decide +kernel
theorem dX0_chanceOf_15 : decode cX0_chanceOf 15 = .ok (.if_icmp .ge 40, 3) := by decide +kernel
theorem dX0_chanceOf_18 : decode cX0_chanceOf 18 = .ok (.aload_n 0, 1) := by decide +kernel
theorem dX0_chanceOf_19 : decode cX0_chanceOf 19 = .ok (.getfield 35, 3) := by decide +kernel
theorem dX0_chanceOf_22 : decode cX0_chanceOf 22 = .ok (.iload_n 3, 1) := by decide +kernel
theorem dX0_chanceOf_23 : decode cX0_chanceOf 23 = .ok (.iaload, 1) := by decide +kernel
theorem dX0_chanceOf_24 : decode cX0_chanceOf 24 = .ok (.ifCond .le 25, 3) := by decide +kernel
theorem dX0_chanceOf_27 : decode cX0_chanceOf 27 = .ok (.aload_n 0, 1) := by decide +kernel
theorem dX0_chanceOf_28 : decode cX0_chanceOf 28 = .ok (.getfield 29, 3) := by decide +kernel
theorem dX0_chanceOf_31 : decode cX0_chanceOf 31 = .ok (.iload_n 3, 1) := by decide +kernel
theorem dX0_chanceOf_32 : decode cX0_chanceOf 32 = .ok (.laload, 1) := by decide +kernel
theorem dX0_chanceOf_33 : decode cX0_chanceOf 33 = .ok (.invokestatic 125, 3) := by decide +kernel
theorem dX0_chanceOf_36 : decode cX0_chanceOf 36 = .ok (.iload_n 1, 1) := by decide +kernel
theorem dX0_chanceOf_37 : decode cX0_chanceOf 37 = .ok (.if_icmp .ne 12, 3) := by decide +kernel
theorem dX0_chanceOf_40 : decode cX0_chanceOf 40 = .ok (.iload_n 2, 1) := by decide +kernel
theorem dX0_chanceOf_41 : decode cX0_chanceOf 41 = .ok (.aload_n 0, 1) := by decide +kernel
theorem dX0_chanceOf_42 : decode cX0_chanceOf 42 = .ok (.getfield 35, 3) := by decide +kernel
theorem dX0_chanceOf_45 : decode cX0_chanceOf 45 = .ok (.iload_n 3, 1) := by decide +kernel
theorem dX0_chanceOf_46 : decode cX0_chanceOf 46 = .ok (.iaload, 1) := by decide +kernel
theorem dX0_chanceOf_47 : decode cX0_chanceOf 47 = .ok (.iadd, 1) := by decide +kernel
theorem dX0_chanceOf_48 : decode cX0_chanceOf 48 = .ok (.istore_n 2, 1) := by decide +kernel
theorem dX0_chanceOf_49 : decode cX0_chanceOf 49 = .ok (.iinc 3 1, 3) := by decide +kernel
theorem dX0_chanceOf_52 : decode cX0_chanceOf 52 = .ok (.goto (-44), 3) := by decide +kernel
theorem dX0_chanceOf_55 : decode cX0_chanceOf 55 = .ok (.iload_n 2, 1) := by decide +kernel
theorem dX0_chanceOf_56 : decode cX0_chanceOf 56 = .ok (.ireturn, 1) := by decide +kernel
theorem dX0_whoChanges_0 : decode cX0_whoChanges 0 = .ok (.aload_n 0, 1) := by decide +kernel
theorem dX0_whoChanges_1 : decode cX0_whoChanges 1 = .ok (.invokevirtual 131, 3) := by decide +kernel
theorem dX0_whoChanges_4 : decode cX0_whoChanges 4 = .ok (.aload_n 0, 1) := by decide +kernel
theorem dX0_whoChanges_5 : decode cX0_whoChanges 5 = .ok (.invokevirtual 122, 3) := by decide +kernel
theorem dX0_whoChanges_8 : decode cX0_whoChanges 8 = .ok (.bipush (-2), 2) := by decide +kernel
theorem dX0_whoChanges_10 : decode cX0_whoChanges 10 = .ok (.istore_n 2, 1) := by decide +kernel
theorem dX0_whoChanges_11 : decode cX0_whoChanges 11 = .ok (.iconst 0, 1) := by decide +kernel
theorem dX0_whoChanges_12 : decode cX0_whoChanges 12 = .ok (.istore_n 3, 1) := by decide +kernel
theorem dX0_whoChanges_13 : decode cX0_whoChanges 13 = .ok (.iload_n 3, 1) := by decide +kernel
theorem dX0_whoChanges_14 : decode cX0_whoChanges 14 = .ok (.iconst 1, 1) := by decide +kernel
theorem dX0_whoChanges_15 : decode cX0_whoChanges 15 = .ok (.aload_n 0, 1) := by decide +kernel
theorem dX0_whoChanges_16 : decode cX0_whoChanges 16 = .ok (.getfield 15, 3) := by decide +kernel
theorem dX0_whoChanges_19 : decode cX0_whoChanges 19 = .ok (.ishl, 1) := by decide +kernel
theorem dX0_whoChanges_20 : decode cX0_whoChanges 20 = .ok (.if_icmp .ge 49, 3) := by decide +kernel
theorem dX0_whoChanges_23 : decode cX0_whoChanges 23 = .ok (.aload_n 0, 1) := by decide +kernel
theorem dX0_whoChanges_24 : decode cX0_whoChanges 24 = .ok (.getfield 29, 3) := by decide +kernel
theorem dX0_whoChanges_27 : decode cX0_whoChanges 27 = .ok (.iload_n 3, 1) := by decide +kernel
theorem dX0_whoChanges_28 : decode cX0_whoChanges 28 = .ok (.laload, 1) := by decide +kernel
theorem dX0_whoChanges_29 : decode cX0_whoChanges 29 = .ok (.invokestatic 125, 3) := by decide +kernel
theorem dX0_whoChanges_32 : decode cX0_whoChanges 32 = .ok (.iload_n 1, 1) := by decide +kernel
theorem dX0_whoChanges_33 : decode cX0_whoChanges 33 = .ok (.if_icmp .ne 30, 3) := by decide +kernel
theorem dX0_whoChanges_36 : decode cX0_whoChanges 36 = .ok (.aload_n 0, 1) := by decide +kernel
theorem dX0_whoChanges_37 : decode cX0_whoChanges 37 = .ok (.iload_n 3, 1) := by decide +kernel
theorem dX0_whoChanges_38 : decode cX0_whoChanges 38 = .ok (.invokevirtual 134, 3) := by decide +kernel
theorem dX0_whoChanges_41 : decode cX0_whoChanges 41 = .ok (.ifCond .eq 22, 3) := by decide +kernel
theorem dX0_whoChanges_44 : decode cX0_whoChanges 44 = .ok (.iload_n 2, 1) := by decide +kernel
theorem dX0_whoChanges_45 : decode cX0_whoChanges 45 = .ok (.bipush (-2), 2) := by decide +kernel
theorem dX0_whoChanges_47 : decode cX0_whoChanges 47 = .ok (.if_icmp .eq 14, 3) := by decide +kernel
theorem dX0_whoChanges_50 : decode cX0_whoChanges 50 = .ok (.iload_n 3, 1) := by decide +kernel
theorem dX0_whoChanges_51 : decode cX0_whoChanges 51 = .ok (.invokestatic 138, 3) := by decide +kernel
theorem dX0_whoChanges_54 : decode cX0_whoChanges 54 = .ok (.iload_n 2, 1) := by decide +kernel
theorem dX0_whoChanges_55 : decode cX0_whoChanges 55 = .ok (.invokestatic 138, 3) := by decide +kernel
theorem dX0_whoChanges_58 : decode cX0_whoChanges 58 = .ok (.if_icmp .ge 5, 3) := by decide +kernel
theorem dX0_whoChanges_61 : decode cX0_whoChanges 61 = .ok (.iload_n 3, 1) := by decide +kernel
theorem dX0_whoChanges_62 : decode cX0_whoChanges 62 = .ok (.istore_n 2, 1) := by decide +kernel
theorem dX0_whoChanges_63 : decode cX0_whoChanges 63 = .ok (.iinc 3 1, 3) := by decide +kernel
theorem dX0_whoChanges_66 : decode cX0_whoChanges 66 = .ok (.goto (-53), 3) := by decide +kernel
theorem dX0_whoChanges_69 : decode cX0_whoChanges 69 = .ok (.iload_n 2, 1) := by decide +kernel
theorem dX0_whoChanges_70 : decode cX0_whoChanges 70 = .ok (.bipush (-2), 2) := by decide +kernel
theorem dX0_whoChanges_72 : decode cX0_whoChanges 72 = .ok (.if_icmp .ne 8, 3) := by decide +kernel
theorem dX0_whoChanges_75 : decode cX0_whoChanges 75 = .ok (.bipush (-2), 2) := by decide +kernel
theorem dX0_whoChanges_77 : decode cX0_whoChanges 77 = .ok (.goto 8, 3) := by decide +kernel
theorem dX0_whoChanges_80 : decode cX0_whoChanges 80 = .ok (.aload_n 0, 1) := by decide +kernel
theorem dX0_whoChanges_81 : decode cX0_whoChanges 81 = .ok (.iload_n 2, 1) := by decide +kernel
theorem dX0_whoChanges_82 : decode cX0_whoChanges 82 = .ok (.invokevirtual 141, 3) := by decide +kernel
theorem dX0_whoChanges_85 : decode cX0_whoChanges 85 = .ok (.ireturn, 1) := by decide +kernel
theorem dX0_maySwear_0 : decode cX0_maySwear 0 = .ok (.iconst 0, 1) := by decide +kernel
theorem dX0_maySwear_1 : decode cX0_maySwear 1 = .ok (.istore_n 2, 1) := by decide +kernel
theorem dX0_maySwear_2 : decode cX0_maySwear 2 = .ok (.iload_n 2, 1) := by decide +kernel
theorem dX0_maySwear_3 : decode cX0_maySwear 3 = .ok (.aload_n 0, 1) := by decide +kernel
theorem dX0_maySwear_4 : decode cX0_maySwear 4 = .ok (.getfield 15, 3) := by decide +kernel
theorem dX0_maySwear_7 : decode cX0_maySwear 7 = .ok (.if_icmp .ge 36, 3) := by decide +kernel
theorem dX0_maySwear_10 : decode cX0_maySwear 10 = .ok (.iload_n 1, 1) := by decide +kernel
theorem dX0_maySwear_11 : decode cX0_maySwear 11 = .ok (.iload_n 2, 1) := by decide +kernel
theorem dX0_maySwear_12 : decode cX0_maySwear 12 = .ok (.ishr, 1) := by decide +kernel
theorem dX0_maySwear_13 : decode cX0_maySwear 13 = .ok (.iconst 1, 1) := by decide +kernel
theorem dX0_maySwear_14 : decode cX0_maySwear 14 = .ok (.iand, 1) := by decide +kernel
theorem dX0_maySwear_15 : decode cX0_maySwear 15 = .ok (.iconst 1, 1) := by decide +kernel
theorem dX0_maySwear_16 : decode cX0_maySwear 16 = .ok (.if_icmp .ne 21, 3) := by decide +kernel
theorem dX0_maySwear_19 : decode cX0_maySwear 19 = .ok (.aload_n 0, 1) := by decide +kernel
theorem dX0_maySwear_20 : decode cX0_maySwear 20 = .ok (.getfield 64, 3) := by decide +kernel
theorem dX0_maySwear_23 : decode cX0_maySwear 23 = .ok (.aload_n 0, 1) := by decide +kernel
theorem dX0_maySwear_24 : decode cX0_maySwear 24 = .ok (.getfield 9, 3) := by decide +kernel
theorem dX0_maySwear_27 : decode cX0_maySwear 27 = .ok (.iload_n 2, 1) := by decide +kernel
theorem dX0_maySwear_28 : decode cX0_maySwear 28 = .ok (.iaload, 1) := by decide +kernel
theorem dX0_maySwear_29 : decode cX0_maySwear 29 = .ok (.invokevirtual 144, 3) := by decide +kernel
theorem dX0_maySwear_32 : decode cX0_maySwear 32 = .ok (.ifCond .eq 5, 3) := by decide +kernel
theorem dX0_maySwear_35 : decode cX0_maySwear 35 = .ok (.iconst 0, 1) := by decide +kernel
theorem dX0_maySwear_36 : decode cX0_maySwear 36 = .ok (.ireturn, 1) := by decide +kernel
theorem dX0_maySwear_37 : decode cX0_maySwear 37 = .ok (.iinc 2 1, 3) := by decide +kernel
theorem dX0_maySwear_40 : decode cX0_maySwear 40 = .ok (.goto (-38), 3) := by decide +kernel
theorem dX0_maySwear_43 : decode cX0_maySwear 43 = .ok (.iconst 1, 1) := by decide +kernel
theorem dX0_maySwear_44 : decode cX0_maySwear 44 = .ok (.ireturn, 1) := by decide +kernel
theorem dX0_pickManners_0 : decode cX0_pickManners 0 = .ok (.aload_n 0, 1) := by decide +kernel
theorem dX0_pickManners_1 : decode cX0_pickManners 1 = .ok (.invokevirtual 147, 3) := by decide +kernel
theorem dX0_pickManners_4 : decode cX0_pickManners 4 = .ok (.aload_n 0, 1) := by decide +kernel
theorem dX0_pickManners_5 : decode cX0_pickManners 5 = .ok (.invokevirtual 150, 3) := by decide +kernel
theorem dX0_pickManners_8 : decode cX0_pickManners 8 = .ok (.aload_n 0, 1) := by decide +kernel
theorem dX0_pickManners_9 : decode cX0_pickManners 9 = .ok (.iload_n 1, 1) := by decide +kernel
theorem dX0_pickManners_10 : decode cX0_pickManners 10 = .ok (.invokevirtual 153, 3) := by decide +kernel
theorem dX0_pickManners_13 : decode cX0_pickManners 13 = .ok (.iconst (-1), 1) := by decide +kernel
theorem dX0_pickManners_14 : decode cX0_pickManners 14 = .ok (.istore_n 2, 1) := by decide +kernel
theorem dX0_pickManners_15 : decode cX0_pickManners 15 = .ok (.iconst 0, 1) := by decide +kernel
theorem dX0_pickManners_16 : decode cX0_pickManners 16 = .ok (.istore_n 3, 1) := by decide +kernel
theorem dX0_pickManners_17 : decode cX0_pickManners 17 = .ok (.iload_n 3, 1) := by decide +kernel
theorem dX0_pickManners_18 : decode cX0_pickManners 18 = .ok (.iconst 1, 1) := by decide +kernel
theorem dX0_pickManners_19 : decode cX0_pickManners 19 = .ok (.iconst 2, 1) := by decide +kernel
theorem dX0_pickManners_20 : decode cX0_pickManners 20 = .ok (.aload_n 0, 1) := by decide +kernel
theorem dX0_pickManners_21 : decode cX0_pickManners 21 = .ok (.getfield 48, 3) := by decide +kernel
theorem dX0_pickManners_24 : decode cX0_pickManners 24 = .ok (.imul, 1) := by decide +kernel
theorem dX0_pickManners_25 : decode cX0_pickManners 25 = .ok (.ishl, 1) := by decide +kernel
theorem dX0_pickManners_26 : decode cX0_pickManners 26 = .ok (.if_icmp .ge 106, 3) := by decide +kernel
theorem dX0_pickManners_29 : decode cX0_pickManners 29 = .ok (.iconst 0, 1) := by decide +kernel
theorem dX0_pickManners_30 : decode cX0_pickManners 30 = .ok (.istore 4, 2) := by decide +kernel
theorem dX0_pickManners_32 : decode cX0_pickManners 32 = .ok (.iload 4, 2) := by decide +kernel
theorem dX0_pickManners_34 : decode cX0_pickManners 34 = .ok (.aload_n 0, 1) := by decide +kernel
theorem dX0_pickManners_35 : decode cX0_pickManners 35 = .ok (.getfield 48, 3) := by decide +kernel
theorem dX0_pickManners_38 : decode cX0_pickManners 38 = .ok (.if_icmp .ge 67, 3) := by decide +kernel
theorem dX0_pickManners_41 : decode cX0_pickManners 41 = .ok (.aload_n 0, 1) := by decide +kernel
theorem dX0_pickManners_42 : decode cX0_pickManners 42 = .ok (.getfield 22, 3) := by decide +kernel
theorem dX0_pickManners_45 : decode cX0_pickManners 45 = .ok (.aload_n 0, 1) := by decide +kernel
theorem dX0_pickManners_46 : decode cX0_pickManners 46 = .ok (.getfield 45, 3) := by decide +kernel
theorem dX0_pickManners_49 : decode cX0_pickManners 49 = .ok (.iload 4, 2) := by decide +kernel
theorem dX0_pickManners_51 : decode cX0_pickManners 51 = .ok (.iaload, 1) := by decide +kernel
theorem dX0_pickManners_52 : decode cX0_pickManners 52 = .ok (.aload_n 0, 1) := by decide +kernel
theorem dX0_pickManners_53 : decode cX0_pickManners 53 = .ok (.getfield 54, 3) := by decide +kernel
theorem dX0_pickManners_56 : decode cX0_pickManners 56 = .ok (.iload 4, 2) := by decide +kernel
theorem dX0_pickManners_58 : decode cX0_pickManners 58 = .ok (.iconst 4, 1) := by decide +kernel
theorem dX0_pickManners_59 : decode cX0_pickManners 59 = .ok (.imul, 1) := by decide +kernel
theorem dX0_pickManners_60 : decode cX0_pickManners 60 = .ok (.aload_n 0, 1) := by decide +kernel
theorem dX0_pickManners_61 : decode cX0_pickManners 61 = .ok (.iload_n 3, 1) := by decide +kernel
theorem dX0_pickManners_62 : decode cX0_pickManners 62 = .ok (.iload 4, 2) := by decide +kernel
theorem dX0_pickManners_64 : decode cX0_pickManners 64 = .ok (.invokevirtual 156, 3) := by decide +kernel
theorem dX0_pickManners_67 : decode cX0_pickManners 67 = .ok (.iadd, 1) := by decide +kernel
theorem dX0_pickManners_68 : decode cX0_pickManners 68 = .ok (.laload, 1) := by decide +kernel
theorem dX0_pickManners_69 : decode cX0_pickManners 69 = .ok (.lastore, 1) := by decide +kernel
theorem dX0_pickManners_70 : decode cX0_pickManners 70 = .ok (.aload_n 0, 1) := by decide +kernel
theorem dX0_pickManners_71 : decode cX0_pickManners 71 = .ok (.getfield 26, 3) := by decide +kernel
theorem dX0_pickManners_74 : decode cX0_pickManners 74 = .ok (.aload_n 0, 1) := by decide +kernel
theorem dX0_pickManners_75 : decode cX0_pickManners 75 = .ok (.getfield 45, 3) := by decide +kernel
theorem dX0_pickManners_78 : decode cX0_pickManners 78 = .ok (.iload 4, 2) := by decide +kernel
theorem dX0_pickManners_80 : decode cX0_pickManners 80 = .ok (.iaload, 1) := by decide +kernel
theorem dX0_pickManners_81 : decode cX0_pickManners 81 = .ok (.aload_n 0, 1) := by decide +kernel
theorem dX0_pickManners_82 : decode cX0_pickManners 82 = .ok (.getfield 57, 3) := by decide +kernel
theorem dX0_pickManners_85 : decode cX0_pickManners 85 = .ok (.iload 4, 2) := by decide +kernel
theorem dX0_pickManners_87 : decode cX0_pickManners 87 = .ok (.iconst 4, 1) := by decide +kernel
theorem dX0_pickManners_88 : decode cX0_pickManners 88 = .ok (.imul, 1) := by decide +kernel
theorem dX0_pickManners_89 : decode cX0_pickManners 89 = .ok (.aload_n 0, 1) := by decide +kernel
theorem dX0_pickManners_90 : decode cX0_pickManners 90 = .ok (.iload_n 3, 1) := by decide +kernel
theorem dX0_pickManners_91 : decode cX0_pickManners 91 = .ok (.iload 4, 2) := by decide +kernel
theorem dX0_pickManners_93 : decode cX0_pickManners 93 = .ok (.invokevirtual 156, 3) := by decide +kernel
theorem dX0_pickManners_96 : decode cX0_pickManners 96 = .ok (.iadd, 1) := by decide +kernel
theorem dX0_pickManners_97 : decode cX0_pickManners 97 = .ok (.laload, 1) := by decide +kernel
theorem dX0_pickManners_98 : decode cX0_pickManners 98 = .ok (.lastore, 1) := by decide +kernel
theorem dX0_pickManners_99 : decode cX0_pickManners 99 = .ok (.iinc 4 1, 3) := by decide +kernel
theorem dX0_pickManners_102 : decode cX0_pickManners 102 = .ok (.goto (-70), 3) := by decide +kernel
theorem dX0_pickManners_105 : decode cX0_pickManners 105 = .ok (.aload_n 0, 1) := by decide +kernel
theorem dX0_pickManners_106 : decode cX0_pickManners 106 = .ok (.iload_n 1, 1) := by decide +kernel
theorem dX0_pickManners_107 : decode cX0_pickManners 107 = .ok (.invokevirtual 159, 3) := by decide +kernel
theorem dX0_pickManners_110 : decode cX0_pickManners 110 = .ok (.istore 4, 2) := by decide +kernel
theorem dX0_pickManners_112 : decode cX0_pickManners 112 = .ok (.iload 4, 2) := by decide +kernel
theorem dX0_pickManners_114 : decode cX0_pickManners 114 = .ok (.iload_n 2, 1) := by decide +kernel
theorem dX0_pickManners_115 : decode cX0_pickManners 115 = .ok (.if_icmp .le 11, 3) := by decide +kernel
theorem dX0_pickManners_118 : decode cX0_pickManners 118 = .ok (.iload 4, 2) := by decide +kernel
theorem dX0_pickManners_120 : decode cX0_pickManners 120 = .ok (.istore_n 2, 1) := by decide +kernel
theorem dX0_pickManners_121 : decode cX0_pickManners 121 = .ok (.aload_n 0, 1) := by decide +kernel
theorem dX0_pickManners_122 : decode cX0_pickManners 122 = .ok (.iload_n 3, 1) := by decide +kernel
theorem dX0_pickManners_123 : decode cX0_pickManners 123 = .ok (.putfield 51, 3) := by decide +kernel
theorem dX0_pickManners_126 : decode cX0_pickManners 126 = .ok (.iinc 3 1, 3) := by decide +kernel
theorem dX0_pickManners_129 : decode cX0_pickManners 129 = .ok (.goto (-112), 3) := by decide +kernel
theorem dX0_pickManners_132 : decode cX0_pickManners 132 = .ok (.iload_n 2, 1) := by decide +kernel
theorem dX0_pickManners_133 : decode cX0_pickManners 133 = .ok (.ireturn, 1) := by decide +kernel
theorem dX0_gatherPickers_0 : decode cX0_gatherPickers 0 = .ok (.aload_n 0, 1) := by decide +kernel
theorem dX0_gatherPickers_1 : decode cX0_gatherPickers 1 = .ok (.iconst 0, 1) := by decide +kernel
theorem dX0_gatherPickers_2 : decode cX0_gatherPickers 2 = .ok (.putfield 48, 3) := by decide +kernel
theorem dX0_gatherPickers_5 : decode cX0_gatherPickers 5 = .ok (.iconst 0, 1) := by decide +kernel
theorem dX0_gatherPickers_6 : decode cX0_gatherPickers 6 = .ok (.istore_n 2, 1) := by decide +kernel
theorem dX0_gatherPickers_7 : decode cX0_gatherPickers 7 = .ok (.iload_n 2, 1) := by decide +kernel
theorem dX0_gatherPickers_8 : decode cX0_gatherPickers 8 = .ok (.aload_n 0, 1) := by decide +kernel
theorem dX0_gatherPickers_9 : decode cX0_gatherPickers 9 = .ok (.getfield 15, 3) := by decide +kernel
theorem dX0_gatherPickers_12 : decode cX0_gatherPickers 12 = .ok (.if_icmp .ge 137, 3) := by decide +kernel
theorem dX0_gatherPickers_15 : decode cX0_gatherPickers 15 = .ok (.aload_n 0, 1) := by decide +kernel
theorem dX0_gatherPickers_16 : decode cX0_gatherPickers 16 = .ok (.getfield 48, 3) := by decide +kernel
theorem dX0_gatherPickers_19 : decode cX0_gatherPickers 19 = .ok (.iconst 3, 1) := by decide +kernel
theorem dX0_gatherPickers_20 : decode cX0_gatherPickers 20 = .ok (.if_icmp .ge 129, 3) := by decide +kernel
theorem dX0_gatherPickers_23 : decode cX0_gatherPickers 23 = .ok (.aload_n 0, 1) := by decide +kernel
theorem dX0_gatherPickers_24 : decode cX0_gatherPickers 24 = .ok (.getfield 64, 3) := by decide +kernel
theorem dX0_gatherPickers_27 : decode cX0_gatherPickers 27 = .ok (.aload_n 0, 1) := by decide +kernel
theorem dX0_gatherPickers_28 : decode cX0_gatherPickers 28 = .ok (.getfield 9, 3) := by decide +kernel
theorem dX0_gatherPickers_31 : decode cX0_gatherPickers 31 = .ok (.iload_n 2, 1) := by decide +kernel
theorem dX0_gatherPickers_32 : decode cX0_gatherPickers 32 = .ok (.iaload, 1) := by decide +kernel
theorem dX0_gatherPickers_33 : decode cX0_gatherPickers 33 = .ok (.iconst 0, 1) := by decide +kernel
theorem dX0_gatherPickers_34 : decode cX0_gatherPickers 34 = .ok (.invokevirtual 79, 3) := by decide +kernel
theorem dX0_gatherPickers_37 : decode cX0_gatherPickers 37 = .ok (.iload_n 1, 1) := by decide +kernel
theorem dX0_gatherPickers_38 : decode cX0_gatherPickers 38 = .ok (.if_icmp .ne 105, 3) := by decide +kernel
theorem dX0_gatherPickers_41 : decode cX0_gatherPickers 41 = .ok (.aload_n 0, 1) := by decide +kernel
theorem dX0_gatherPickers_42 : decode cX0_gatherPickers 42 = .ok (.getfield 45, 3) := by decide +kernel
theorem dX0_gatherPickers_45 : decode cX0_gatherPickers 45 = .ok (.aload_n 0, 1) := by decide +kernel
theorem dX0_gatherPickers_46 : decode cX0_gatherPickers 46 = .ok (.getfield 48, 3) := by decide +kernel
theorem dX0_gatherPickers_49 : decode cX0_gatherPickers 49 = .ok (.iload_n 2, 1) := by decide +kernel
theorem dX0_gatherPickers_50 : decode cX0_gatherPickers 50 = .ok (.iastore, 1) := by decide +kernel
theorem dX0_gatherPickers_51 : decode cX0_gatherPickers 51 = .ok (.aload_n 0, 1) := by decide +kernel
theorem dX0_gatherPickers_52 : decode cX0_gatherPickers 52 = .ok (.iload_n 2, 1) := by decide +kernel
theorem dX0_gatherPickers_53 : decode cX0_gatherPickers 53 = .ok (.invokevirtual 83, 3) := by decide +kernel
theorem dX0_gatherPickers_56 : decode cX0_gatherPickers 56 = .ok (.iconst 0, 1) := by decide +kernel
theorem dX0_gatherPickers_57 : decode cX0_gatherPickers 57 = .ok (.istore_n 3, 1) := by decide +kernel
theorem dX0_gatherPickers_58 : decode cX0_gatherPickers 58 = .ok (.iload_n 3, 1) := by decide +kernel
theorem dX0_gatherPickers_59 : decode cX0_gatherPickers 59 = .ok (.iconst 4, 1) := by decide +kernel
theorem dX0_gatherPickers_60 : decode cX0_gatherPickers 60 = .ok (.if_icmp .ge 73, 3) := by decide +kernel
theorem dX0_gatherPickers_63 : decode cX0_gatherPickers 63 = .ok (.aload_n 0, 1) := by decide +kernel
theorem dX0_gatherPickers_64 : decode cX0_gatherPickers 64 = .ok (.getfield 68, 3) := by decide +kernel
theorem dX0_gatherPickers_67 : decode cX0_gatherPickers 67 = .ok (.iload_n 3, 1) := by decide +kernel
theorem dX0_gatherPickers_68 : decode cX0_gatherPickers 68 = .ok (.putfield 107, 3) := by decide +kernel
theorem dX0_gatherPickers_71 : decode cX0_gatherPickers 71 = .ok (.aload_n 0, 1) := by decide +kernel
theorem dX0_gatherPickers_72 : decode cX0_gatherPickers 72 = .ok (.getfield 68, 3) := by decide +kernel
theorem dX0_gatherPickers_75 : decode cX0_gatherPickers 75 = .ok (.iconst 0, 1) := by decide +kernel
theorem dX0_gatherPickers_76 : decode cX0_gatherPickers 76 = .ok (.putfield 98, 3) := by decide +kernel
theorem dX0_gatherPickers_79 : decode cX0_gatherPickers 79 = .ok (.aload_n 0, 1) := by decide +kernel
theorem dX0_gatherPickers_80 : decode cX0_gatherPickers 80 = .ok (.getfield 54, 3) := by decide +kernel
theorem dX0_gatherPickers_83 : decode cX0_gatherPickers 83 = .ok (.aload_n 0, 1) := by decide +kernel
theorem dX0_gatherPickers_84 : decode cX0_gatherPickers 84 = .ok (.getfield 48, 3) := by decide +kernel
theorem dX0_gatherPickers_87 : decode cX0_gatherPickers 87 = .ok (.iconst 4, 1) := by decide +kernel
theorem dX0_gatherPickers_88 : decode cX0_gatherPickers 88 = .ok (.imul, 1) := by decide +kernel
theorem dX0_gatherPickers_89 : decode cX0_gatherPickers 89 = .ok (.iload_n 3, 1) := by decide +kernel
theorem dX0_gatherPickers_90 : decode cX0_gatherPickers 90 = .ok (.iadd, 1) := by decide +kernel
theorem dX0_gatherPickers_91 : decode cX0_gatherPickers 91 = .ok (.aload_n 0, 1) := by decide +kernel
theorem dX0_gatherPickers_92 : decode cX0_gatherPickers 92 = .ok (.getfield 68, 3) := by decide +kernel
theorem dX0_gatherPickers_95 : decode cX0_gatherPickers 95 = .ok (.invokevirtual 87, 3) := by decide +kernel
theorem dX0_gatherPickers_98 : decode cX0_gatherPickers 98 = .ok (.lastore, 1) := by decide +kernel
theorem dX0_gatherPickers_99 : decode cX0_gatherPickers 99 = .ok (.aload_n 0, 1) := by decide +kernel
theorem dX0_gatherPickers_100 : decode cX0_gatherPickers 100 = .ok (.getfield 68, 3) := by decide +kernel
theorem dX0_gatherPickers_103 : decode cX0_gatherPickers 103 = .ok (.iconst 1, 1) := by decide +kernel
theorem dX0_gatherPickers_104 : decode cX0_gatherPickers 104 = .ok (.putfield 98, 3) := by decide +kernel
theorem dX0_gatherPickers_107 : decode cX0_gatherPickers 107 = .ok (.aload_n 0, 1) := by decide +kernel
theorem dX0_gatherPickers_108 : decode cX0_gatherPickers 108 = .ok (.getfield 57, 3) := by decide +kernel
theorem dX0_gatherPickers_111 : decode cX0_gatherPickers 111 = .ok (.aload_n 0, 1) := by decide +kernel
theorem dX0_gatherPickers_112 : decode cX0_gatherPickers 112 = .ok (.getfield 48, 3) := by decide +kernel
theorem dX0_gatherPickers_115 : decode cX0_gatherPickers 115 = .ok (.iconst 4, 1) := by decide +kernel
theorem dX0_gatherPickers_116 : decode cX0_gatherPickers 116 = .ok (.imul, 1) := by decide +kernel
theorem dX0_gatherPickers_117 : decode cX0_gatherPickers 117 = .ok (.iload_n 3, 1) := by decide +kernel
theorem dX0_gatherPickers_118 : decode cX0_gatherPickers 118 = .ok (.iadd, 1) := by decide +kernel
theorem dX0_gatherPickers_119 : decode cX0_gatherPickers 119 = .ok (.aload_n 0, 1) := by decide +kernel
theorem dX0_gatherPickers_120 : decode cX0_gatherPickers 120 = .ok (.getfield 68, 3) := by decide +kernel
theorem dX0_gatherPickers_123 : decode cX0_gatherPickers 123 = .ok (.invokevirtual 87, 3) := by decide +kernel
theorem dX0_gatherPickers_126 : decode cX0_gatherPickers 126 = .ok (.lastore, 1) := by decide +kernel
theorem dX0_gatherPickers_127 : decode cX0_gatherPickers 127 = .ok (.iinc 3 1, 3) := by decide +kernel
theorem dX0_gatherPickers_130 : decode cX0_gatherPickers 130 = .ok (.goto (-72), 3) := by decide +kernel
theorem dX0_gatherPickers_133 : decode cX0_gatherPickers 133 = .ok (.aload_n 0, 1) := by decide +kernel
theorem dX0_gatherPickers_134 : decode cX0_gatherPickers 134 = .ok (.dup, 1) := by decide +kernel
theorem dX0_gatherPickers_135 : decode cX0_gatherPickers 135 = .ok (.getfield 48, 3) := by decide +kernel
theorem dX0_gatherPickers_138 : decode cX0_gatherPickers 138 = .ok (.iconst 1, 1) := by decide +kernel
theorem dX0_gatherPickers_139 : decode cX0_gatherPickers 139 = .ok (.iadd, 1) := by decide +kernel
theorem dX0_gatherPickers_140 : decode cX0_gatherPickers 140 = .ok (.putfield 48, 3) := by decide +kernel
theorem dX0_gatherPickers_143 : decode cX0_gatherPickers 143 = .ok (.iinc 2 1, 3) := by decide +kernel
theorem dX0_gatherPickers_146 : decode cX0_gatherPickers 146 = .ok (.goto (-139), 3) := by decide +kernel
theorem dX0_gatherPickers_149 : decode cX0_gatherPickers 149 = .ok (.return_, 1) := by decide +kernel
theorem dX0_mannerIn_0 : decode cX0_mannerIn 0 = .ok (.iload_n 1, 1) := by decide +kernel
theorem dX0_mannerIn_1 : decode cX0_mannerIn 1 = .ok (.iconst 2, 1) := by decide +kernel
theorem dX0_mannerIn_2 : decode cX0_mannerIn 2 = .ok (.aload_n 0, 1) := by decide +kernel
theorem dX0_mannerIn_3 : decode cX0_mannerIn 3 = .ok (.getfield 48, 3) := by decide +kernel
theorem dX0_mannerIn_6 : decode cX0_mannerIn 6 = .ok (.iconst 1, 1) := by decide +kernel
theorem dX0_mannerIn_7 : decode cX0_mannerIn 7 = .ok (.isub, 1) := by decide +kernel
theorem dX0_mannerIn_8 : decode cX0_mannerIn 8 = .ok (.iload_n 2, 1) := by decide +kernel
theorem dX0_mannerIn_9 : decode cX0_mannerIn 9 = .ok (.isub, 1) := by decide +kernel
theorem dX0_mannerIn_10 : decode cX0_mannerIn 10 = .ok (.imul, 1) := by decide +kernel
theorem dX0_mannerIn_11 : decode cX0_mannerIn 11 = .ok (.ishr, 1) := by decide +kernel
theorem dX0_mannerIn_12 : decode cX0_mannerIn 12 = .ok (.iconst 3, 1) := by decide +kernel
theorem dX0_mannerIn_13 : decode cX0_mannerIn 13 = .ok (.iand, 1) := by decide +kernel
theorem dX0_mannerIn_14 : decode cX0_mannerIn 14 = .ok (.ireturn, 1) := by decide +kernel
theorem dX0_pickedManner_0 : decode cX0_pickedManner 0 = .ok (.iload_n 1, 1) := by decide +kernel
theorem dX0_pickedManner_1 : decode cX0_pickedManner 1 = .ok (.ifCond .lt 23, 3) := by decide +kernel
theorem dX0_pickedManner_4 : decode cX0_pickedManner 4 = .ok (.iload_n 1, 1) := by decide +kernel
theorem dX0_pickedManner_5 : decode cX0_pickedManner 5 = .ok (.aload_n 0, 1) := by decide +kernel
theorem dX0_pickedManner_6 : decode cX0_pickedManner 6 = .ok (.getfield 48, 3) := by decide +kernel
theorem dX0_pickedManner_9 : decode cX0_pickedManner 9 = .ok (.if_icmp .ge 15, 3) := by decide +kernel
theorem dX0_pickedManner_12 : decode cX0_pickedManner 12 = .ok (.aload_n 0, 1) := by decide +kernel
theorem dX0_pickedManner_13 : decode cX0_pickedManner 13 = .ok (.aload_n 0, 1) := by decide +kernel
theorem dX0_pickedManner_14 : decode cX0_pickedManner 14 = .ok (.getfield 51, 3) := by decide +kernel
theorem dX0_pickedManner_17 : decode cX0_pickedManner 17 = .ok (.iload_n 1, 1) := by decide +kernel
theorem dX0_pickedManner_18 : decode cX0_pickedManner 18 = .ok (.invokevirtual 156, 3) := by decide +kernel
theorem dX0_pickedManner_21 : decode cX0_pickedManner 21 = .ok (.goto 4, 3) := by decide +kernel
theorem dX0_pickedManner_24 : decode cX0_pickedManner 24 = .ok (.iconst (-1), 1) := by decide +kernel
theorem dX0_pickedManner_25 : decode cX0_pickedManner 25 = .ok (.ireturn, 1) := by decide +kernel
theorem dX0_rest_0 : decode cX0_rest 0 = .ok (.aload_n 0, 1) := by decide +kernel
theorem dX0_rest_1 : decode cX0_rest 1 = .ok (.invokevirtual 162, 3) := by decide +kernel
theorem dX0_rest_4 : decode cX0_rest 4 = .ok (.aload_n 0, 1) := by decide +kernel
theorem dX0_rest_5 : decode cX0_rest 5 = .ok (.invokevirtual 122, 3) := by decide +kernel
theorem dX0_rest_8 : decode cX0_rest 8 = .ok (.iconst 0, 1) := by decide +kernel
theorem dX0_rest_9 : decode cX0_rest 9 = .ok (.istore_n 3, 1) := by decide +kernel
theorem dX0_rest_10 : decode cX0_rest 10 = .ok (.iload_n 3, 1) := by decide +kernel
theorem dX0_rest_11 : decode cX0_rest 11 = .ok (.iconst 1, 1) := by decide +kernel
theorem dX0_rest_12 : decode cX0_rest 12 = .ok (.aload_n 0, 1) := by decide +kernel
theorem dX0_rest_13 : decode cX0_rest 13 = .ok (.getfield 15, 3) := by decide +kernel
theorem dX0_rest_16 : decode cX0_rest 16 = .ok (.ishl, 1) := by decide +kernel
theorem dX0_rest_17 : decode cX0_rest 17 = .ok (.if_icmp .ge 24, 3) := by decide +kernel
theorem dX0_rest_20 : decode cX0_rest 20 = .ok (.aload_n 0, 1) := by decide +kernel
theorem dX0_rest_21 : decode cX0_rest 21 = .ok (.getfield 32, 3) := by decide +kernel
theorem dX0_rest_24 : decode cX0_rest 24 = .ok (.iload_n 3, 1) := by decide +kernel
theorem dX0_rest_25 : decode cX0_rest 25 = .ok (.aload_n 0, 1) := by decide +kernel
theorem dX0_rest_26 : decode cX0_rest 26 = .ok (.getfield 29, 3) := by decide +kernel
theorem dX0_rest_29 : decode cX0_rest 29 = .ok (.iload_n 3, 1) := by decide +kernel
theorem dX0_rest_30 : decode cX0_rest 30 = .ok (.laload, 1) := by decide +kernel
theorem dX0_rest_31 : decode cX0_rest 31 = .ok (.invokestatic 125, 3) := by decide +kernel
theorem dX0_rest_34 : decode cX0_rest 34 = .ok (.iastore, 1) := by decide +kernel
theorem dX0_rest_35 : decode cX0_rest 35 = .ok (.iinc 3 1, 3) := by decide +kernel
theorem dX0_rest_38 : decode cX0_rest 38 = .ok (.goto (-28), 3) := by decide +kernel
theorem dX0_rest_41 : decode cX0_rest 41 = .ok (.iconst 0, 1) := by decide +kernel
theorem dX0_rest_42 : decode cX0_rest 42 = .ok (.istore_n 3, 1) := by decide +kernel
theorem dX0_rest_43 : decode cX0_rest 43 = .ok (.iconst 0, 1) := by decide +kernel
theorem dX0_rest_44 : decode cX0_rest 44 = .ok (.istore 4, 2) := by decide +kernel
theorem dX0_rest_46 : decode cX0_rest 46 = .ok (.iload 4, 2) := by decide +kernel
theorem dX0_rest_48 : decode cX0_rest 48 = .ok (.iconst 1, 1) := by decide +kernel
theorem dX0_rest_49 : decode cX0_rest 49 = .ok (.aload_n 0, 1) := by decide +kernel
theorem dX0_rest_50 : decode cX0_rest 50 = .ok (.getfield 15, 3) := by decide +kernel
theorem dX0_rest_53 : decode cX0_rest 53 = .ok (.ishl, 1) := by decide +kernel
theorem dX0_rest_54 : decode cX0_rest 54 = .ok (.if_icmp .ge 34, 3) := by decide +kernel
theorem dX0_rest_57 : decode cX0_rest 57 = .ok (.aload_n 0, 1) := by decide +kernel
theorem dX0_rest_58 : decode cX0_rest 58 = .ok (.iload_n 1, 1) := by decide +kernel
theorem dX0_rest_59 : decode cX0_rest 59 = .ok (.iload 4, 2) := by decide +kernel
theorem dX0_rest_61 : decode cX0_rest 61 = .ok (.invokevirtual 165, 3) := by decide +kernel
theorem dX0_rest_64 : decode cX0_rest 64 = .ok (.ifCond .eq 18, 3) := by decide +kernel
theorem dX0_rest_67 : decode cX0_rest 67 = .ok (.iload_n 3, 1) := by decide +kernel
theorem dX0_rest_68 : decode cX0_rest 68 = .ok (.iload_n 2, 1) := by decide +kernel
theorem dX0_rest_69 : decode cX0_rest 69 = .ok (.if_icmp .ne 10, 3) := by decide +kernel
theorem dX0_rest_72 : decode cX0_rest 72 = .ok (.aload_n 0, 1) := by decide +kernel
theorem dX0_rest_73 : decode cX0_rest 73 = .ok (.iload 4, 2) := by decide +kernel
theorem dX0_rest_75 : decode cX0_rest 75 = .ok (.invokevirtual 141, 3) := by decide +kernel
theorem dX0_rest_78 : decode cX0_rest 78 = .ok (.ireturn, 1) := by decide +kernel
theorem dX0_rest_79 : decode cX0_rest 79 = .ok (.iinc 3 1, 3) := by decide +kernel
theorem dX0_rest_82 : decode cX0_rest 82 = .ok (.iinc 4 1, 3) := by decide +kernel
theorem dX0_rest_85 : decode cX0_rest 85 = .ok (.goto (-39), 3) := by decide +kernel
theorem dX0_rest_88 : decode cX0_rest 88 = .ok (.iload_n 2, 1) := by decide +kernel
theorem dX0_rest_89 : decode cX0_rest 89 = .ok (.iconst (-1), 1) := by decide +kernel
theorem dX0_rest_90 : decode cX0_rest 90 = .ok (.if_icmp .ne 7, 3) := by decide +kernel
theorem dX0_rest_93 : decode cX0_rest 93 = .ok (.iload_n 3, 1) := by decide +kernel
theorem dX0_rest_94 : decode cX0_rest 94 = .ok (.goto 4, 3) := by decide +kernel
theorem dX0_rest_97 : decode cX0_rest 97 = .ok (.iconst (-1), 1) := by decide +kernel
theorem dX0_rest_98 : decode cX0_rest 98 = .ok (.ireturn, 1) := by decide +kernel
theorem dX0_isRest_0 : decode cX0_isRest 0 = .ok (.iconst 0, 1) := by decide +kernel
theorem dX0_isRest_1 : decode cX0_isRest 1 = .ok (.istore_n 3, 1) := by decide +kernel
theorem dX0_isRest_2 : decode cX0_isRest 2 = .ok (.iload_n 3, 1) := by decide +kernel
theorem dX0_isRest_3 : decode cX0_isRest 3 = .ok (.aload_n 0, 1) := by decide +kernel
theorem dX0_isRest_4 : decode cX0_isRest 4 = .ok (.getfield 15, 3) := by decide +kernel
theorem dX0_isRest_7 : decode cX0_isRest 7 = .ok (.if_icmp .ge 78, 3) := by decide +kernel
theorem dX0_isRest_10 : decode cX0_isRest 10 = .ok (.aload_n 0, 1) := by decide +kernel
theorem dX0_isRest_11 : decode cX0_isRest 11 = .ok (.getfield 64, 3) := by decide +kernel
theorem dX0_isRest_14 : decode cX0_isRest 14 = .ok (.aload_n 0, 1) := by decide +kernel
theorem dX0_isRest_15 : decode cX0_isRest 15 = .ok (.getfield 9, 3) := by decide +kernel
theorem dX0_isRest_18 : decode cX0_isRest 18 = .ok (.iload_n 3, 1) := by decide +kernel
theorem dX0_isRest_19 : decode cX0_isRest 19 = .ok (.iaload, 1) := by decide +kernel
theorem dX0_isRest_20 : decode cX0_isRest 20 = .ok (.iconst 0, 1) := by decide +kernel
theorem dX0_isRest_21 : decode cX0_isRest 21 = .ok (.invokevirtual 79, 3) := by decide +kernel
theorem dX0_isRest_24 : decode cX0_isRest 24 = .ok (.istore 4, 2) := by decide +kernel
theorem dX0_isRest_26 : decode cX0_isRest 26 = .ok (.aload_n 0, 1) := by decide +kernel
theorem dX0_isRest_27 : decode cX0_isRest 27 = .ok (.getfield 32, 3) := by decide +kernel
theorem dX0_isRest_30 : decode cX0_isRest 30 = .ok (.iload_n 2, 1) := by decide +kernel
theorem dX0_isRest_31 : decode cX0_isRest 31 = .ok (.iaload, 1) := by decide +kernel
theorem dX0_isRest_32 : decode cX0_isRest 32 = .ok (.iload 4, 2) := by decide +kernel
theorem dX0_isRest_34 : decode cX0_isRest 34 = .ok (.if_icmp .eq 22, 3) := by decide +kernel
theorem dX0_isRest_37 : decode cX0_isRest 37 = .ok (.aload_n 0, 1) := by decide +kernel
theorem dX0_isRest_38 : decode cX0_isRest 38 = .ok (.getfield 32, 3) := by decide +kernel
theorem dX0_isRest_41 : decode cX0_isRest 41 = .ok (.iload_n 2, 1) := by decide +kernel
theorem dX0_isRest_42 : decode cX0_isRest 42 = .ok (.iconst 1, 1) := by decide +kernel
theorem dX0_isRest_43 : decode cX0_isRest 43 = .ok (.iload_n 3, 1) := by decide +kernel
theorem dX0_isRest_44 : decode cX0_isRest 44 = .ok (.ishl, 1) := by decide +kernel
theorem dX0_isRest_45 : decode cX0_isRest 45 = .ok (.ixor, 1) := by decide +kernel
theorem dX0_isRest_46 : decode cX0_isRest 46 = .ok (.iaload, 1) := by decide +kernel
theorem dX0_isRest_47 : decode cX0_isRest 47 = .ok (.iload 4, 2) := by decide +kernel
theorem dX0_isRest_49 : decode cX0_isRest 49 = .ok (.if_icmp .ne 7, 3) := by decide +kernel
theorem dX0_isRest_52 : decode cX0_isRest 52 = .ok (.iconst 1, 1) := by decide +kernel
theorem dX0_isRest_53 : decode cX0_isRest 53 = .ok (.goto 4, 3) := by decide +kernel
theorem dX0_isRest_56 : decode cX0_isRest 56 = .ok (.iconst 0, 1) := by decide +kernel
theorem dX0_isRest_57 : decode cX0_isRest 57 = .ok (.istore 5, 2) := by decide +kernel
theorem dX0_isRest_59 : decode cX0_isRest 59 = .ok (.iload 5, 2) := by decide +kernel
theorem dX0_isRest_61 : decode cX0_isRest 61 = .ok (.ifCond .eq 18, 3) := by decide +kernel
theorem dX0_isRest_64 : decode cX0_isRest 64 = .ok (.aload_n 0, 1) := by decide +kernel
theorem dX0_isRest_65 : decode cX0_isRest 65 = .ok (.getfield 60, 3) := by decide +kernel
theorem dX0_isRest_68 : decode cX0_isRest 68 = .ok (.iload_n 1, 1) := by decide +kernel
theorem dX0_isRest_69 : decode cX0_isRest 69 = .ok (.iload 4, 2) := by decide +kernel
theorem dX0_isRest_71 : decode cX0_isRest 71 = .ok (.invokevirtual 169, 3) := by decide +kernel
theorem dX0_isRest_74 : decode cX0_isRest 74 = .ok (.ifCond .le 5, 3) := by decide +kernel
theorem dX0_isRest_77 : decode cX0_isRest 77 = .ok (.iconst 0, 1) := by decide +kernel
theorem dX0_isRest_78 : decode cX0_isRest 78 = .ok (.ireturn, 1) := by decide +kernel
theorem dX0_isRest_79 : decode cX0_isRest 79 = .ok (.iinc 3 1, 3) := by decide +kernel
theorem dX0_isRest_82 : decode cX0_isRest 82 = .ok (.goto (-80), 3) := by decide +kernel
theorem dX0_isRest_85 : decode cX0_isRest 85 = .ok (.iconst 1, 1) := by decide +kernel
theorem dX0_isRest_86 : decode cX0_isRest 86 = .ok (.ireturn, 1) := by decide +kernel
theorem dX0_gatherJurors_0 : decode cX0_gatherJurors 0 = .ok (.aload_n 0, 1) := by decide +kernel
theorem dX0_gatherJurors_1 : decode cX0_gatherJurors 1 = .ok (.lconst 0, 1) := by decide +kernel
theorem dX0_gatherJurors_2 : decode cX0_gatherJurors 2 = .ok (.putfield 41, 3) := by decide +kernel
theorem dX0_gatherJurors_5 : decode cX0_gatherJurors 5 = .ok (.iconst 0, 1) := by decide +kernel
theorem dX0_gatherJurors_6 : decode cX0_gatherJurors 6 = .ok (.istore_n 1, 1) := by decide +kernel
theorem dX0_gatherJurors_7 : decode cX0_gatherJurors 7 = .ok (.iload_n 1, 1) := by decide +kernel
theorem dX0_gatherJurors_8 : decode cX0_gatherJurors 8 = .ok (.aload_n 0, 1) := by decide +kernel
theorem dX0_gatherJurors_9 : decode cX0_gatherJurors 9 = .ok (.getfield 60, 3) := by decide +kernel
theorem dX0_gatherJurors_12 : decode cX0_gatherJurors 12 = .ok (.getfield 172, 3) := by decide +kernel
theorem dX0_gatherJurors_15 : decode cX0_gatherJurors 15 = .ok (.if_icmp .ge 16, 3) := by decide +kernel
theorem dX0_gatherJurors_18 : decode cX0_gatherJurors 18 = .ok (.aload_n 0, 1) := by decide +kernel
theorem dX0_gatherJurors_19 : decode cX0_gatherJurors 19 = .ok (.getfield 38, 3) := by decide +kernel
theorem dX0_gatherJurors_22 : decode cX0_gatherJurors 22 = .ok (.iload_n 1, 1) := by decide +kernel
theorem dX0_gatherJurors_23 : decode cX0_gatherJurors 23 = .ok (.lconst 0, 1) := by decide +kernel
theorem dX0_gatherJurors_24 : decode cX0_gatherJurors 24 = .ok (.lastore, 1) := by decide +kernel
theorem dX0_gatherJurors_25 : decode cX0_gatherJurors 25 = .ok (.iinc 1 1, 3) := by decide +kernel
theorem dX0_gatherJurors_28 : decode cX0_gatherJurors 28 = .ok (.goto (-21), 3) := by decide +kernel
theorem dX0_gatherJurors_31 : decode cX0_gatherJurors 31 = .ok (.iconst 0, 1) := by decide +kernel
theorem dX0_gatherJurors_32 : decode cX0_gatherJurors 32 = .ok (.istore_n 1, 1) := by decide +kernel
theorem dX0_gatherJurors_33 : decode cX0_gatherJurors 33 = .ok (.iload_n 1, 1) := by decide +kernel
theorem dX0_gatherJurors_34 : decode cX0_gatherJurors 34 = .ok (.aload_n 0, 1) := by decide +kernel
theorem dX0_gatherJurors_35 : decode cX0_gatherJurors 35 = .ok (.getfield 15, 3) := by decide +kernel
theorem dX0_gatherJurors_38 : decode cX0_gatherJurors 38 = .ok (.if_icmp .ge 97, 3) := by decide +kernel
theorem dX0_gatherJurors_41 : decode cX0_gatherJurors 41 = .ok (.aload_n 0, 1) := by decide +kernel
theorem dX0_gatherJurors_42 : decode cX0_gatherJurors 42 = .ok (.iload_n 1, 1) := by decide +kernel
theorem dX0_gatherJurors_43 : decode cX0_gatherJurors 43 = .ok (.invokevirtual 83, 3) := by decide +kernel
theorem dX0_gatherJurors_46 : decode cX0_gatherJurors 46 = .ok (.aload_n 0, 1) := by decide +kernel
theorem dX0_gatherJurors_47 : decode cX0_gatherJurors 47 = .ok (.getfield 68, 3) := by decide +kernel
theorem dX0_gatherJurors_50 : decode cX0_gatherJurors 50 = .ok (.invokevirtual 175, 3) := by decide +kernel
theorem dX0_gatherJurors_53 : decode cX0_gatherJurors 53 = .ok (.istore_n 2, 1) := by decide +kernel
theorem dX0_gatherJurors_54 : decode cX0_gatherJurors 54 = .ok (.aload_n 0, 1) := by decide +kernel
theorem dX0_gatherJurors_55 : decode cX0_gatherJurors 55 = .ok (.getfield 68, 3) := by decide +kernel
theorem dX0_gatherJurors_58 : decode cX0_gatherJurors 58 = .ok (.getfield 101, 3) := by decide +kernel
theorem dX0_gatherJurors_61 : decode cX0_gatherJurors 61 = .ok (.iconst 0, 1) := by decide +kernel
theorem dX0_gatherJurors_62 : decode cX0_gatherJurors 62 = .ok (.invokestatic 179, 3) := by decide +kernel
theorem dX0_gatherJurors_65 : decode cX0_gatherJurors 65 = .ok (.lstore_n 3, 1) := by decide +kernel
theorem dX0_gatherJurors_66 : decode cX0_gatherJurors 66 = .ok (.aload_n 0, 1) := by decide +kernel
theorem dX0_gatherJurors_67 : decode cX0_gatherJurors 67 = .ok (.dup, 1) := by decide +kernel
theorem dX0_gatherJurors_68 : decode cX0_gatherJurors 68 = .ok (.getfield 41, 3) := by decide +kernel
theorem dX0_gatherJurors_71 : decode cX0_gatherJurors 71 = .ok (.lload_n 3, 1) := by decide +kernel
theorem dX0_gatherJurors_72 : decode cX0_gatherJurors 72 = .ok (.ladd, 1) := by decide +kernel
theorem dX0_gatherJurors_73 : decode cX0_gatherJurors 73 = .ok (.putfield 41, 3) := by decide +kernel
theorem dX0_gatherJurors_76 : decode cX0_gatherJurors 76 = .ok (.iconst 0, 1) := by decide +kernel
theorem dX0_gatherJurors_77 : decode cX0_gatherJurors 77 = .ok (.istore 5, 2) := by decide +kernel
theorem dX0_gatherJurors_79 : decode cX0_gatherJurors 79 = .ok (.iload 5, 2) := by decide +kernel
theorem dX0_gatherJurors_81 : decode cX0_gatherJurors 81 = .ok (.aload_n 0, 1) := by decide +kernel
theorem dX0_gatherJurors_82 : decode cX0_gatherJurors 82 = .ok (.getfield 60, 3) := by decide +kernel
theorem dX0_gatherJurors_85 : decode cX0_gatherJurors 85 = .ok (.getfield 172, 3) := by decide +kernel
theorem dX0_gatherJurors_88 : decode cX0_gatherJurors 88 = .ok (.if_icmp .ge 41, 3) := by decide +kernel
theorem dX0_gatherJurors_91 : decode cX0_gatherJurors 91 = .ok (.aload_n 0, 1) := by decide +kernel
theorem dX0_gatherJurors_92 : decode cX0_gatherJurors 92 = .ok (.getfield 38, 3) := by decide +kernel
theorem dX0_gatherJurors_95 : decode cX0_gatherJurors 95 = .ok (.iload 5, 2) := by decide +kernel
theorem dX0_gatherJurors_97 : decode cX0_gatherJurors 97 = .ok (.dup2, 1) := by decide +kernel
theorem dX0_gatherJurors_98 : decode cX0_gatherJurors 98 = .ok (.laload, 1) := by decide +kernel
theorem dX0_gatherJurors_99 : decode cX0_gatherJurors 99 = .ok (.aload_n 0, 1) := by decide +kernel
theorem dX0_gatherJurors_100 : decode cX0_gatherJurors 100 = .ok (.getfield 68, 3) := by decide +kernel
theorem dX0_gatherJurors_103 : decode cX0_gatherJurors 103 = .ok (.getfield 101, 3) := by decide +kernel
theorem dX0_gatherJurors_106 : decode cX0_gatherJurors 106 = .ok (.aload_n 0, 1) := by decide +kernel
theorem dX0_gatherJurors_107 : decode cX0_gatherJurors 107 = .ok (.getfield 68, 3) := by decide +kernel
theorem dX0_gatherJurors_110 : decode cX0_gatherJurors 110 = .ok (.iload 5, 2) := by decide +kernel
theorem dX0_gatherJurors_112 : decode cX0_gatherJurors 112 = .ok (.iload_n 2, 1) := by decide +kernel
theorem dX0_gatherJurors_113 : decode cX0_gatherJurors 113 = .ok (.invokevirtual 183, 3) := by decide +kernel
theorem dX0_gatherJurors_116 : decode cX0_gatherJurors 116 = .ok (.invokestatic 179, 3) := by decide +kernel
theorem dX0_gatherJurors_119 : decode cX0_gatherJurors 119 = .ok (.lload_n 3, 1) := by decide +kernel
theorem dX0_gatherJurors_120 : decode cX0_gatherJurors 120 = .ok (.lsub, 1) := by decide +kernel
theorem dX0_gatherJurors_121 : decode cX0_gatherJurors 121 = .ok (.ladd, 1) := by decide +kernel
theorem dX0_gatherJurors_122 : decode cX0_gatherJurors 122 = .ok (.lastore, 1) := by decide +kernel
theorem dX0_gatherJurors_123 : decode cX0_gatherJurors 123 = .ok (.iinc 5 1, 3) := by decide +kernel
theorem dX0_gatherJurors_126 : decode cX0_gatherJurors 126 = .ok (.goto (-47), 3) := by decide +kernel
theorem dX0_gatherJurors_129 : decode cX0_gatherJurors 129 = .ok (.iinc 1 1, 3) := by decide +kernel
theorem dX0_gatherJurors_132 : decode cX0_gatherJurors 132 = .ok (.goto (-99), 3) := by decide +kernel
theorem dX0_gatherJurors_135 : decode cX0_gatherJurors 135 = .ok (.return_, 1) := by decide +kernel
theorem dX0_bagOf_0 : decode cX0_bagOf 0 = .ok (.aload_n 0, 1) := by decide +kernel
theorem dX0_bagOf_1 : decode cX0_bagOf 1 = .ok (.getfield 41, 3) := by decide +kernel
theorem dX0_bagOf_4 : decode cX0_bagOf 4 = .ok (.lstore_n 2, 1) := by decide +kernel
theorem dX0_bagOf_5 : decode cX0_bagOf 5 = .ok (.iconst 0, 1) := by decide +kernel
theorem dX0_bagOf_6 : decode cX0_bagOf 6 = .ok (.istore 4, 2) := by decide +kernel
theorem dX0_bagOf_8 : decode cX0_bagOf 8 = .ok (.iload 4, 2) := by decide +kernel
theorem dX0_bagOf_10 : decode cX0_bagOf 10 = .ok (.aload_n 0, 1) := by decide +kernel
theorem dX0_bagOf_11 : decode cX0_bagOf 11 = .ok (.getfield 60, 3) := by decide +kernel
theorem dX0_bagOf_14 : decode cX0_bagOf 14 = .ok (.getfield 172, 3) := by decide +kernel
theorem dX0_bagOf_17 : decode cX0_bagOf 17 = .ok (.if_icmp .ge 29, 3) := by decide +kernel
theorem dX0_bagOf_20 : decode cX0_bagOf 20 = .ok (.iload_n 1, 1) := by decide +kernel
theorem dX0_bagOf_21 : decode cX0_bagOf 21 = .ok (.iload 4, 2) := by decide +kernel
theorem dX0_bagOf_23 : decode cX0_bagOf 23 = .ok (.ishr, 1) := by decide +kernel
theorem dX0_bagOf_24 : decode cX0_bagOf 24 = .ok (.iconst 1, 1) := by decide +kernel
theorem dX0_bagOf_25 : decode cX0_bagOf 25 = .ok (.iand, 1) := by decide +kernel
theorem dX0_bagOf_26 : decode cX0_bagOf 26 = .ok (.iconst 1, 1) := by decide +kernel
theorem dX0_bagOf_27 : decode cX0_bagOf 27 = .ok (.if_icmp .ne 13, 3) := by decide +kernel
theorem dX0_bagOf_30 : decode cX0_bagOf 30 = .ok (.lload_n 2, 1) := by decide +kernel
theorem dX0_bagOf_31 : decode cX0_bagOf 31 = .ok (.aload_n 0, 1) := by decide +kernel
theorem dX0_bagOf_32 : decode cX0_bagOf 32 = .ok (.getfield 38, 3) := by decide +kernel
theorem dX0_bagOf_35 : decode cX0_bagOf 35 = .ok (.iload 4, 2) := by decide +kernel
theorem dX0_bagOf_37 : decode cX0_bagOf 37 = .ok (.laload, 1) := by decide +kernel
theorem dX0_bagOf_38 : decode cX0_bagOf 38 = .ok (.ladd, 1) := by decide +kernel
theorem dX0_bagOf_39 : decode cX0_bagOf 39 = .ok (.lstore_n 2, 1) := by decide +kernel
theorem dX0_bagOf_40 : decode cX0_bagOf 40 = .ok (.iinc 4 1, 3) := by decide +kernel
theorem dX0_bagOf_43 : decode cX0_bagOf 43 = .ok (.goto (-35), 3) := by decide +kernel
theorem dX0_bagOf_46 : decode cX0_bagOf 46 = .ok (.lload_n 2, 1) := by decide +kernel
theorem dX0_bagOf_47 : decode cX0_bagOf 47 = .ok (.lreturn, 1) := by decide +kernel
theorem dX0_fairest_0 : decode cX0_fairest 0 = .ok (.bipush (-2), 2) := by decide +kernel
theorem dX0_fairest_2 : decode cX0_fairest 2 = .ok (.istore_n 2, 1) := by decide +kernel
theorem dX0_fairest_3 : decode cX0_fairest 3 = .ok (.iconst 0, 1) := by decide +kernel
theorem dX0_fairest_4 : decode cX0_fairest 4 = .ok (.istore_n 3, 1) := by decide +kernel
theorem dX0_fairest_5 : decode cX0_fairest 5 = .ok (.iconst 1, 1) := by decide +kernel
theorem dX0_fairest_6 : decode cX0_fairest 6 = .ok (.istore 4, 2) := by decide +kernel
theorem dX0_fairest_8 : decode cX0_fairest 8 = .ok (.iload 4, 2) := by decide +kernel
theorem dX0_fairest_10 : decode cX0_fairest 10 = .ok (.iconst 1, 1) := by decide +kernel
theorem dX0_fairest_11 : decode cX0_fairest 11 = .ok (.aload_n 0, 1) := by decide +kernel
theorem dX0_fairest_12 : decode cX0_fairest 12 = .ok (.getfield 60, 3) := by decide +kernel
theorem dX0_fairest_15 : decode cX0_fairest 15 = .ok (.getfield 172, 3) := by decide +kernel
theorem dX0_fairest_18 : decode cX0_fairest 18 = .ok (.ishl, 1) := by decide +kernel
theorem dX0_fairest_19 : decode cX0_fairest 19 = .ok (.if_icmp .ge 47, 3) := by decide +kernel
theorem dX0_fairest_22 : decode cX0_fairest 22 = .ok (.iload 4, 2) := by decide +kernel
theorem dX0_fairest_24 : decode cX0_fairest 24 = .ok (.invokestatic 138, 3) := by decide +kernel
theorem dX0_fairest_27 : decode cX0_fairest 27 = .ok (.iload_n 1, 1) := by decide +kernel
theorem dX0_fairest_28 : decode cX0_fairest 28 = .ok (.if_icmp .ne 32, 3) := by decide +kernel
theorem dX0_fairest_31 : decode cX0_fairest 31 = .ok (.aload_n 0, 1) := by decide +kernel
theorem dX0_fairest_32 : decode cX0_fairest 32 = .ok (.iload 4, 2) := by decide +kernel
theorem dX0_fairest_34 : decode cX0_fairest 34 = .ok (.invokevirtual 186, 3) := by decide +kernel
theorem dX0_fairest_37 : decode cX0_fairest 37 = .ok (.invokestatic 190, 3) := by decide +kernel
theorem dX0_fairest_40 : decode cX0_fairest 40 = .ok (.istore 5, 2) := by decide +kernel
theorem dX0_fairest_42 : decode cX0_fairest 42 = .ok (.iload_n 2, 1) := by decide +kernel
theorem dX0_fairest_43 : decode cX0_fairest 43 = .ok (.bipush (-2), 2) := by decide +kernel
theorem dX0_fairest_45 : decode cX0_fairest 45 = .ok (.if_icmp .eq 9, 3) := by decide +kernel
theorem dX0_fairest_48 : decode cX0_fairest 48 = .ok (.iload 5, 2) := by decide +kernel
theorem dX0_fairest_50 : decode cX0_fairest 50 = .ok (.iload_n 3, 1) := by decide +kernel
theorem dX0_fairest_51 : decode cX0_fairest 51 = .ok (.if_icmp .ge 9, 3) := by decide +kernel
theorem dX0_fairest_54 : decode cX0_fairest 54 = .ok (.iload 4, 2) := by decide +kernel
theorem dX0_fairest_56 : decode cX0_fairest 56 = .ok (.istore_n 2, 1) := by decide +kernel
theorem dX0_fairest_57 : decode cX0_fairest 57 = .ok (.iload 5, 2) := by decide +kernel
theorem dX0_fairest_59 : decode cX0_fairest 59 = .ok (.istore_n 3, 1) := by decide +kernel
theorem dX0_fairest_60 : decode cX0_fairest 60 = .ok (.iinc 4 1, 3) := by decide +kernel
theorem dX0_fairest_63 : decode cX0_fairest 63 = .ok (.goto (-55), 3) := by decide +kernel
theorem dX0_fairest_66 : decode cX0_fairest 66 = .ok (.iload_n 2, 1) := by decide +kernel
theorem dX0_fairest_67 : decode cX0_fairest 67 = .ok (.ireturn, 1) := by decide +kernel
theorem dX0_harshest_0 : decode cX0_harshest 0 = .ok (.bipush (-2), 2) := by decide +kernel
theorem dX0_harshest_2 : decode cX0_harshest 2 = .ok (.istore_n 2, 1) := by decide +kernel
theorem dX0_harshest_3 : decode cX0_harshest 3 = .ok (.iconst 0, 1) := by decide +kernel
theorem dX0_harshest_4 : decode cX0_harshest 4 = .ok (.istore_n 3, 1) := by decide +kernel
theorem dX0_harshest_5 : decode cX0_harshest 5 = .ok (.iconst 0, 1) := by decide +kernel
theorem dX0_harshest_6 : decode cX0_harshest 6 = .ok (.istore 4, 2) := by decide +kernel
theorem dX0_harshest_8 : decode cX0_harshest 8 = .ok (.iload 4, 2) := by decide +kernel
theorem dX0_harshest_10 : decode cX0_harshest 10 = .ok (.aload_n 0, 1) := by decide +kernel
theorem dX0_harshest_11 : decode cX0_harshest 11 = .ok (.getfield 60, 3) := by decide +kernel
theorem dX0_harshest_14 : decode cX0_harshest 14 = .ok (.getfield 172, 3) := by decide +kernel
theorem dX0_harshest_17 : decode cX0_harshest 17 = .ok (.if_icmp .ge 75, 3) := by decide +kernel
theorem dX0_harshest_20 : decode cX0_harshest 20 = .ok (.iconst 0, 1) := by decide +kernel
theorem dX0_harshest_21 : decode cX0_harshest 21 = .ok (.istore 5, 2) := by decide +kernel
theorem dX0_harshest_23 : decode cX0_harshest 23 = .ok (.iconst 0, 1) := by decide +kernel
theorem dX0_harshest_24 : decode cX0_harshest 24 = .ok (.istore 6, 2) := by decide +kernel
theorem dX0_harshest_26 : decode cX0_harshest 26 = .ok (.iload 6, 2) := by decide +kernel
theorem dX0_harshest_28 : decode cX0_harshest 28 = .ok (.iconst 3, 1) := by decide +kernel
theorem dX0_harshest_29 : decode cX0_harshest 29 = .ok (.if_icmp .ge 26, 3) := by decide +kernel
theorem dX0_harshest_32 : decode cX0_harshest 32 = .ok (.iload 5, 2) := by decide +kernel
theorem dX0_harshest_34 : decode cX0_harshest 34 = .ok (.aload_n 0, 1) := by decide +kernel
theorem dX0_harshest_35 : decode cX0_harshest 35 = .ok (.getfield 38, 3) := by decide +kernel
theorem dX0_harshest_38 : decode cX0_harshest 38 = .ok (.iload 4, 2) := by decide +kernel
theorem dX0_harshest_40 : decode cX0_harshest 40 = .ok (.laload, 1) := by decide +kernel
theorem dX0_harshest_41 : decode cX0_harshest 41 = .ok (.iload 6, 2) := by decide +kernel
theorem dX0_harshest_43 : decode cX0_harshest 43 = .ok (.invokestatic 193, 3) := by decide +kernel
theorem dX0_harshest_46 : decode cX0_harshest 46 = .ok (.iadd, 1) := by decide +kernel
theorem dX0_harshest_47 : decode cX0_harshest 47 = .ok (.istore 5, 2) := by decide +kernel
theorem dX0_harshest_49 : decode cX0_harshest 49 = .ok (.iinc 6 1, 3) := by decide +kernel
theorem dX0_harshest_52 : decode cX0_harshest 52 = .ok (.goto (-26), 3) := by decide +kernel
theorem dX0_harshest_55 : decode cX0_harshest 55 = .ok (.iload_n 2, 1) := by decide +kernel
theorem dX0_harshest_56 : decode cX0_harshest 56 = .ok (.bipush (-2), 2) := by decide +kernel
theorem dX0_harshest_58 : decode cX0_harshest 58 = .ok (.if_icmp .eq 22, 3) := by decide +kernel
theorem dX0_harshest_61 : decode cX0_harshest 61 = .ok (.iload_n 1, 1) := by decide +kernel
theorem dX0_harshest_62 : decode cX0_harshest 62 = .ok (.ifCond .eq 12, 3) := by decide +kernel
theorem dX0_harshest_65 : decode cX0_harshest 65 = .ok (.iload 5, 2) := by decide +kernel
theorem dX0_harshest_67 : decode cX0_harshest 67 = .ok (.iload_n 3, 1) := by decide +kernel
theorem dX0_harshest_68 : decode cX0_harshest 68 = .ok (.if_icmp .le 18, 3) := by decide +kernel
theorem dX0_harshest_71 : decode cX0_harshest 71 = .ok (.goto 9, 3) := by decide +kernel
theorem dX0_harshest_74 : decode cX0_harshest 74 = .ok (.iload 5, 2) := by decide +kernel
theorem dX0_harshest_76 : decode cX0_harshest 76 = .ok (.iload_n 3, 1) := by decide +kernel
theorem dX0_harshest_77 : decode cX0_harshest 77 = .ok (.if_icmp .ge 9, 3) := by decide +kernel
theorem dX0_harshest_80 : decode cX0_harshest 80 = .ok (.iload 4, 2) := by decide +kernel
theorem dX0_harshest_82 : decode cX0_harshest 82 = .ok (.istore_n 2, 1) := by decide +kernel
theorem dX0_harshest_83 : decode cX0_harshest 83 = .ok (.iload 5, 2) := by decide +kernel
theorem dX0_harshest_85 : decode cX0_harshest 85 = .ok (.istore_n 3, 1) := by decide +kernel
theorem dX0_harshest_86 : decode cX0_harshest 86 = .ok (.iinc 4 1, 3) := by decide +kernel
theorem dX0_harshest_89 : decode cX0_harshest 89 = .ok (.goto (-81), 3) := by decide +kernel
theorem dX0_harshest_92 : decode cX0_harshest 92 = .ok (.iload_n 2, 1) := by decide +kernel
theorem dX0_harshest_93 : decode cX0_harshest 93 = .ok (.ireturn, 1) := by decide +kernel
theorem dX0_fallsBySeeds_0 : decode cX0_fallsBySeeds 0 = .ok (.iconst 0, 1) := by decide +kernel
theorem dX0_fallsBySeeds_1 : decode cX0_fallsBySeeds 1 = .ok (.istore_n 3, 1) := by decide +kernel
theorem dX0_fallsBySeeds_2 : decode cX0_fallsBySeeds 2 = .ok (.aload_n 0, 1) := by decide +kernel
theorem dX0_fallsBySeeds_3 : decode cX0_fallsBySeeds 3 = .ok (.getfield 60, 3) := by decide +kernel
theorem dX0_fallsBySeeds_6 : decode cX0_fallsBySeeds 6 = .ok (.getfield 197, 3) := by decide +kernel
theorem dX0_fallsBySeeds_9 : decode cX0_fallsBySeeds 9 = .ok (.istore 4, 2) := by decide +kernel
theorem dX0_fallsBySeeds_11 : decode cX0_fallsBySeeds 11 = .ok (.iload 4, 2) := by decide +kernel
theorem dX0_fallsBySeeds_13 : decode cX0_fallsBySeeds 13 = .ok (.aload_n 0, 1) := by decide +kernel
theorem dX0_fallsBySeeds_14 : decode cX0_fallsBySeeds 14 = .ok (.getfield 60, 3) := by decide +kernel
theorem dX0_fallsBySeeds_17 : decode cX0_fallsBySeeds 17 = .ok (.getfield 197, 3) := by decide +kernel
theorem dX0_fallsBySeeds_20 : decode cX0_fallsBySeeds 20 = .ok (.iload_n 2, 1) := by decide +kernel
theorem dX0_fallsBySeeds_21 : decode cX0_fallsBySeeds 21 = .ok (.iadd, 1) := by decide +kernel
theorem dX0_fallsBySeeds_22 : decode cX0_fallsBySeeds 22 = .ok (.if_icmp .ge 113, 3) := by decide +kernel
theorem dX0_fallsBySeeds_25 : decode cX0_fallsBySeeds 25 = .ok (.lconst 0, 1) := by decide +kernel
theorem dX0_fallsBySeeds_26 : decode cX0_fallsBySeeds 26 = .ok (.lstore 5, 2) := by decide +kernel
theorem dX0_fallsBySeeds_28 : decode cX0_fallsBySeeds 28 = .ok (.iconst 0, 1) := by decide +kernel
theorem dX0_fallsBySeeds_29 : decode cX0_fallsBySeeds 29 = .ok (.istore 7, 2) := by decide +kernel
theorem dX0_fallsBySeeds_31 : decode cX0_fallsBySeeds 31 = .ok (.iload 7, 2) := by decide +kernel
theorem dX0_fallsBySeeds_33 : decode cX0_fallsBySeeds 33 = .ok (.aload_n 0, 1) := by decide +kernel
theorem dX0_fallsBySeeds_34 : decode cX0_fallsBySeeds 34 = .ok (.getfield 15, 3) := by decide +kernel
theorem dX0_fallsBySeeds_37 : decode cX0_fallsBySeeds 37 = .ok (.if_icmp .ge 80, 3) := by decide +kernel
theorem dX0_fallsBySeeds_40 : decode cX0_fallsBySeeds 40 = .ok (.iload 4, 2) := by decide +kernel
theorem dX0_fallsBySeeds_42 : decode cX0_fallsBySeeds 42 = .ok (.bipush 16, 2) := by decide +kernel
theorem dX0_fallsBySeeds_44 : decode cX0_fallsBySeeds 44 = .ok (.aload_n 0, 1) := by decide +kernel
theorem dX0_fallsBySeeds_45 : decode cX0_fallsBySeeds 45 = .ok (.getfield 19, 3) := by decide +kernel
theorem dX0_fallsBySeeds_48 : decode cX0_fallsBySeeds 48 = .ok (.imul, 1) := by decide +kernel
theorem dX0_fallsBySeeds_49 : decode cX0_fallsBySeeds 49 = .ok (.aload_n 0, 1) := by decide +kernel
theorem dX0_fallsBySeeds_50 : decode cX0_fallsBySeeds 50 = .ok (.getfield 9, 3) := by decide +kernel
theorem dX0_fallsBySeeds_53 : decode cX0_fallsBySeeds 53 = .ok (.iload 7, 2) := by decide +kernel
theorem dX0_fallsBySeeds_55 : decode cX0_fallsBySeeds 55 = .ok (.iaload, 1) := by decide +kernel
theorem dX0_fallsBySeeds_56 : decode cX0_fallsBySeeds 56 = .ok (.iadd, 1) := by decide +kernel
theorem dX0_fallsBySeeds_57 : decode cX0_fallsBySeeds 57 = .ok (.invokestatic 200, 3) := by decide +kernel
theorem dX0_fallsBySeeds_60 : decode cX0_fallsBySeeds 60 = .ok (.aload_n 0, 1) := by decide +kernel
theorem dX0_fallsBySeeds_61 : decode cX0_fallsBySeeds 61 = .ok (.getfield 60, 3) := by decide +kernel
theorem dX0_fallsBySeeds_64 : decode cX0_fallsBySeeds 64 = .ok (.aload_n 0, 1) := by decide +kernel
theorem dX0_fallsBySeeds_65 : decode cX0_fallsBySeeds 65 = .ok (.getfield 9, 3) := by decide +kernel
theorem dX0_fallsBySeeds_68 : decode cX0_fallsBySeeds 68 = .ok (.iload 7, 2) := by decide +kernel
theorem dX0_fallsBySeeds_70 : decode cX0_fallsBySeeds 70 = .ok (.iaload, 1) := by decide +kernel
theorem dX0_fallsBySeeds_71 : decode cX0_fallsBySeeds 71 = .ok (.invokevirtual 119, 3) := by decide +kernel
theorem dX0_fallsBySeeds_74 : decode cX0_fallsBySeeds 74 = .ok (.if_icmp .ge 7, 3) := by decide +kernel
theorem dX0_fallsBySeeds_77 : decode cX0_fallsBySeeds 77 = .ok (.iconst 1, 1) := by decide +kernel
theorem dX0_fallsBySeeds_78 : decode cX0_fallsBySeeds 78 = .ok (.goto 4, 3) := by decide +kernel
theorem dX0_fallsBySeeds_81 : decode cX0_fallsBySeeds 81 = .ok (.iconst 0, 1) := by decide +kernel
theorem dX0_fallsBySeeds_82 : decode cX0_fallsBySeeds 82 = .ok (.istore 8, 2) := by decide +kernel
theorem dX0_fallsBySeeds_84 : decode cX0_fallsBySeeds 84 = .ok (.lload 5, 2) := by decide +kernel
theorem dX0_fallsBySeeds_86 : decode cX0_fallsBySeeds 86 = .ok (.iload 8, 2) := by decide +kernel
theorem dX0_fallsBySeeds_88 : decode cX0_fallsBySeeds 88 = .ok (.ifCond .eq 13, 3) := by decide +kernel
theorem dX0_fallsBySeeds_91 : decode cX0_fallsBySeeds 91 = .ok (.aload_n 0, 1) := by decide +kernel
theorem dX0_fallsBySeeds_92 : decode cX0_fallsBySeeds 92 = .ok (.getfield 26, 3) := by decide +kernel
theorem dX0_fallsBySeeds_95 : decode cX0_fallsBySeeds 95 = .ok (.iload 7, 2) := by decide +kernel
theorem dX0_fallsBySeeds_97 : decode cX0_fallsBySeeds 97 = .ok (.laload, 1) := by decide +kernel
theorem dX0_fallsBySeeds_98 : decode cX0_fallsBySeeds 98 = .ok (.goto 10, 3) := by decide +kernel
theorem dX0_fallsBySeeds_101 : decode cX0_fallsBySeeds 101 = .ok (.aload_n 0, 1) := by decide +kernel
theorem dX0_fallsBySeeds_102 : decode cX0_fallsBySeeds 102 = .ok (.getfield 22, 3) := by decide +kernel
theorem dX0_fallsBySeeds_105 : decode cX0_fallsBySeeds 105 = .ok (.iload 7, 2) := by decide +kernel
theorem dX0_fallsBySeeds_107 : decode cX0_fallsBySeeds 107 = .ok (.laload, 1) := by decide +kernel
theorem dX0_fallsBySeeds_108 : decode cX0_fallsBySeeds 108 = .ok (.ladd, 1) := by decide +kernel
theorem dX0_fallsBySeeds_109 : decode cX0_fallsBySeeds 109 = .ok (.lstore 5, 2) := by decide +kernel
theorem dX0_fallsBySeeds_111 : decode cX0_fallsBySeeds 111 = .ok (.iinc 7 1, 3) := by decide +kernel
theorem dX0_fallsBySeeds_114 : decode cX0_fallsBySeeds 114 = .ok (.goto (-83), 3) := by decide +kernel
theorem dX0_fallsBySeeds_117 : decode cX0_fallsBySeeds 117 = .ok (.lload 5, 2) := by decide +kernel
theorem dX0_fallsBySeeds_119 : decode cX0_fallsBySeeds 119 = .ok (.invokestatic 125, 3) := by decide +kernel
theorem dX0_fallsBySeeds_122 : decode cX0_fallsBySeeds 122 = .ok (.iload_n 1, 1) := by decide +kernel
theorem dX0_fallsBySeeds_123 : decode cX0_fallsBySeeds 123 = .ok (.if_icmp .ne 6, 3) := by decide +kernel
theorem dX0_fallsBySeeds_126 : decode cX0_fallsBySeeds 126 = .ok (.iinc 3 1, 3) := by decide +kernel
theorem dX0_fallsBySeeds_129 : decode cX0_fallsBySeeds 129 = .ok (.iinc 4 1, 3) := by decide +kernel
theorem dX0_fallsBySeeds_132 : decode cX0_fallsBySeeds 132 = .ok (.goto (-121), 3) := by decide +kernel
theorem dX0_fallsBySeeds_135 : decode cX0_fallsBySeeds 135 = .ok (.iload_n 3, 1) := by decide +kernel
theorem dX0_fallsBySeeds_136 : decode cX0_fallsBySeeds 136 = .ok (.ireturn, 1) := by decide +kernel
theorem dX1_init_0 : decode cX1_init 0 = .ok (.aload_n 0, 1) := by decide +kernel
theorem dX1_init_1 : decode cX1_init 1 = .ok (.invokespecial 3, 3) := by decide +kernel
theorem dX1_init_4 : decode cX1_init 4 = .ok (.aload_n 0, 1) := by decide +kernel
theorem dX1_init_5 : decode cX1_init 5 = .ok (.bipush 8, 2) := by decide +kernel
theorem dX1_init_7 : decode cX1_init 7 = .ok (.newarray .int, 2) := by decide +kernel
theorem dX1_init_9 : decode cX1_init 9 = .ok (.putfield 9, 3) := by decide +kernel
theorem dX1_init_12 : decode cX1_init 12 = .ok (.aload_n 0, 1) := by decide +kernel
theorem dX1_init_13 : decode cX1_init 13 = .ok (.iconst 0, 1) := by decide +kernel
theorem dX1_init_14 : decode cX1_init 14 = .ok (.putfield 15, 3) := by decide +kernel
theorem dX1_init_17 : decode cX1_init 17 = .ok (.aload_n 0, 1) := by decide +kernel
theorem dX1_init_18 : decode cX1_init 18 = .ok (.iconst 0, 1) := by decide +kernel
theorem dX1_init_19 : decode cX1_init 19 = .ok (.putfield 19, 3) := by decide +kernel
theorem dX1_init_22 : decode cX1_init 22 = .ok (.aload_n 0, 1) := by decide +kernel
theorem dX1_init_23 : decode cX1_init 23 = .ok (.iconst 0, 1) := by decide +kernel
theorem dX1_init_24 : decode cX1_init 24 = .ok (.putfield 22, 3) := by decide +kernel
theorem dX1_init_27 : decode cX1_init 27 = .ok (.aload_n 0, 1) := by decide +kernel
theorem dX1_init_28 : decode cX1_init 28 = .ok (.iconst 0, 1) := by decide +kernel
theorem dX1_init_29 : decode cX1_init 29 = .ok (.putfield 25, 3) := by decide +kernel
theorem dX1_init_32 : decode cX1_init 32 = .ok (.aload_n 0, 1) := by decide +kernel
theorem dX1_init_33 : decode cX1_init 33 = .ok (.iconst 0, 1) := by decide +kernel
theorem dX1_init_34 : decode cX1_init 34 = .ok (.putfield 28, 3) := by decide +kernel
theorem dX1_init_37 : decode cX1_init 37 = .ok (.aload_n 0, 1) := by decide +kernel
theorem dX1_init_38 : decode cX1_init 38 = .ok (.iconst 0, 1) := by decide +kernel
theorem dX1_init_39 : decode cX1_init 39 = .ok (.putfield 31, 3) := by decide +kernel
theorem dX1_init_42 : decode cX1_init 42 = .ok (.return_, 1) := by decide +kernel
theorem dX1_begin_0 : decode cX1_begin 0 = .ok (.iconst 0, 1) := by decide +kernel
theorem dX1_begin_1 : decode cX1_begin 1 = .ok (.istore_n 1, 1) := by decide +kernel
theorem dX1_begin_2 : decode cX1_begin 2 = .ok (.iload_n 1, 1) := by decide +kernel
theorem dX1_begin_3 : decode cX1_begin 3 = .ok (.bipush 8, 2) := by decide +kernel
theorem dX1_begin_5 : decode cX1_begin 5 = .ok (.if_icmp .ge 16, 3) := by decide +kernel
theorem dX1_begin_8 : decode cX1_begin 8 = .ok (.aload_n 0, 1) := by decide +kernel
theorem dX1_begin_9 : decode cX1_begin 9 = .ok (.getfield 9, 3) := by decide +kernel
theorem dX1_begin_12 : decode cX1_begin 12 = .ok (.iload_n 1, 1) := by decide +kernel
theorem dX1_begin_13 : decode cX1_begin 13 = .ok (.iconst 0, 1) := by decide +kernel
theorem dX1_begin_14 : decode cX1_begin 14 = .ok (.iastore, 1) := by decide +kernel
theorem dX1_begin_15 : decode cX1_begin 15 = .ok (.iinc 1 1, 3) := by decide +kernel
theorem dX1_begin_18 : decode cX1_begin 18 = .ok (.goto (-16), 3) := by decide +kernel
theorem dX1_begin_21 : decode cX1_begin 21 = .ok (.aload_n 0, 1) := by decide +kernel
theorem dX1_begin_22 : decode cX1_begin 22 = .ok (.iconst 0, 1) := by decide +kernel
theorem dX1_begin_23 : decode cX1_begin 23 = .ok (.putfield 15, 3) := by decide +kernel
theorem dX1_begin_26 : decode cX1_begin 26 = .ok (.return_, 1) := by decide +kernel
theorem dX1_mayEnd_0 : decode cX1_mayEnd 0 = .ok (.aload_n 0, 1) := by decide +kernel
theorem dX1_mayEnd_1 : decode cX1_mayEnd 1 = .ok (.getfield 15, 3) := by decide +kernel
theorem dX1_mayEnd_4 : decode cX1_mayEnd 4 = .ok (.ifCond .ne 7, 3) := by decide +kernel
theorem dX1_mayEnd_7 : decode cX1_mayEnd 7 = .ok (.iconst 1, 1) := by decide +kernel
theorem dX1_mayEnd_8 : decode cX1_mayEnd 8 = .ok (.goto 4, 3) := by decide +kernel
theorem dX1_mayEnd_11 : decode cX1_mayEnd 11 = .ok (.iconst 0, 1) := by decide +kernel
theorem dX1_mayEnd_12 : decode cX1_mayEnd 12 = .ok (.ireturn, 1) := by decide +kernel
theorem dX1_faultOf_0 : decode cX1_faultOf 0 = .ok (.aload_n 0, 1) := by decide +kernel
theorem dX1_faultOf_1 : decode cX1_faultOf 1 = .ok (.getfield 15, 3) := by decide +kernel
theorem dX1_faultOf_4 : decode cX1_faultOf 4 = .ok (.tableswitch 60 0 3 #[32, 42, 48, 54], 32) := by decide +kernel
theorem dX1_faultOf_36 : decode cX1_faultOf 36 = .ok (.aload_n 0, 1) := by decide +kernel
theorem dX1_faultOf_37 : decode cX1_faultOf 37 = .ok (.iload_n 1, 1) := by decide +kernel
theorem dX1_faultOf_38 : decode cX1_faultOf 38 = .ok (.sipush 128, 3) := by decide +kernel
theorem dX1_faultOf_41 : decode cX1_faultOf 41 = .ok (.isub, 1) := by decide +kernel
theorem dX1_faultOf_42 : decode cX1_faultOf 42 = .ok (.invokevirtual 34, 3) := by decide +kernel
theorem dX1_faultOf_45 : decode cX1_faultOf 45 = .ok (.ireturn, 1) := by decide +kernel
theorem dX1_faultOf_46 : decode cX1_faultOf 46 = .ok (.aload_n 0, 1) := by decide +kernel
theorem dX1_faultOf_47 : decode cX1_faultOf 47 = .ok (.iload_n 1, 1) := by decide +kernel
theorem dX1_faultOf_48 : decode cX1_faultOf 48 = .ok (.invokevirtual 38, 3) := by decide +kernel
theorem dX1_faultOf_51 : decode cX1_faultOf 51 = .ok (.ireturn, 1) := by decide +kernel
theorem dX1_faultOf_52 : decode cX1_faultOf 52 = .ok (.aload_n 0, 1) := by decide +kernel
theorem dX1_faultOf_53 : decode cX1_faultOf 53 = .ok (.iload_n 1, 1) := by decide +kernel
theorem dX1_faultOf_54 : decode cX1_faultOf 54 = .ok (.invokevirtual 41, 3) := by decide +kernel
theorem dX1_faultOf_57 : decode cX1_faultOf 57 = .ok (.ireturn, 1) := by decide +kernel
theorem dX1_faultOf_58 : decode cX1_faultOf 58 = .ok (.aload_n 0, 1) := by decide +kernel
theorem dX1_faultOf_59 : decode cX1_faultOf 59 = .ok (.iload_n 1, 1) := by decide +kernel
theorem dX1_faultOf_60 : decode cX1_faultOf 60 = .ok (.invokevirtual 44, 3) := by decide +kernel
theorem dX1_faultOf_63 : decode cX1_faultOf 63 = .ok (.ireturn, 1) := by decide +kernel
theorem dX1_faultOf_64 : decode cX1_faultOf 64 = .ok (.aload_n 0, 1) := by decide +kernel
theorem dX1_faultOf_65 : decode cX1_faultOf 65 = .ok (.iload_n 1, 1) := by decide +kernel
theorem dX1_faultOf_66 : decode cX1_faultOf 66 = .ok (.invokevirtual 47, 3) := by decide +kernel
theorem dX1_faultOf_69 : decode cX1_faultOf 69 = .ok (.ireturn, 1) := by decide +kernel
theorem dX1_openTell_0 : decode cX1_openTell 0 = .ok (.iload_n 1, 1) := by decide +kernel
theorem dX1_openTell_1 : decode cX1_openTell 1 = .ok (.ifCond .lt 9, 3) := by decide +kernel
theorem dX1_openTell_4 : decode cX1_openTell 4 = .ok (.iload_n 1, 1) := by decide +kernel
theorem dX1_openTell_5 : decode cX1_openTell 5 = .ok (.bipush 8, 2) := by decide +kernel
theorem dX1_openTell_7 : decode cX1_openTell 7 = .ok (.if_icmp .lt 5, 3) := by decide +kernel
theorem dX1_openTell_10 : decode cX1_openTell 10 = .ok (.iconst 1, 1) := by decide +kernel
theorem dX1_openTell_11 : decode cX1_openTell 11 = .ok (.ireturn, 1) := by decide +kernel
theorem dX1_openTell_12 : decode cX1_openTell 12 = .ok (.aload_n 0, 1) := by decide +kernel
theorem dX1_openTell_13 : decode cX1_openTell 13 = .ok (.getfield 9, 3) := by decide +kernel
theorem dX1_openTell_16 : decode cX1_openTell 16 = .ok (.iload_n 1, 1) := by decide +kernel
theorem dX1_openTell_17 : decode cX1_openTell 17 = .ok (.iaload, 1) := by decide +kernel
theorem dX1_openTell_18 : decode cX1_openTell 18 = .ok (.getstatic 50, 3) := by decide +kernel
theorem dX1_openTell_21 : decode cX1_openTell 21 = .ok (.iload_n 1, 1) := by decide +kernel
theorem dX1_openTell_22 : decode cX1_openTell 22 = .ok (.iaload, 1) := by decide +kernel
theorem dX1_openTell_23 : decode cX1_openTell 23 = .ok (.if_icmp .lt 5, 3) := by decide +kernel
theorem dX1_openTell_26 : decode cX1_openTell 26 = .ok (.iconst 2, 1) := by decide +kernel
theorem dX1_openTell_27 : decode cX1_openTell 27 = .ok (.ireturn, 1) := by decide +kernel
theorem dX1_openTell_28 : decode cX1_openTell 28 = .ok (.aload_n 0, 1) := by decide +kernel
theorem dX1_openTell_29 : decode cX1_openTell 29 = .ok (.getfield 9, 3) := by decide +kernel
theorem dX1_openTell_32 : decode cX1_openTell 32 = .ok (.iload_n 1, 1) := by decide +kernel
theorem dX1_openTell_33 : decode cX1_openTell 33 = .ok (.dup2, 1) := by decide +kernel
theorem dX1_openTell_34 : decode cX1_openTell 34 = .ok (.iaload, 1) := by decide +kernel
theorem dX1_openTell_35 : decode cX1_openTell 35 = .ok (.iconst 1, 1) := by decide +kernel
theorem dX1_openTell_36 : decode cX1_openTell 36 = .ok (.iadd, 1) := by decide +kernel
theorem dX1_openTell_37 : decode cX1_openTell 37 = .ok (.iastore, 1) := by decide +kernel
theorem dX1_openTell_38 : decode cX1_openTell 38 = .ok (.iload_n 1, 1) := by decide +kernel
theorem dX1_openTell_39 : decode cX1_openTell 39 = .ok (.iconst 5, 1) := by decide +kernel
theorem dX1_openTell_40 : decode cX1_openTell 40 = .ok (.if_icmp .lt 11, 3) := by decide +kernel
theorem dX1_openTell_43 : decode cX1_openTell 43 = .ok (.aload_n 0, 1) := by decide +kernel
theorem dX1_openTell_44 : decode cX1_openTell 44 = .ok (.iconst 2, 1) := by decide +kernel
theorem dX1_openTell_45 : decode cX1_openTell 45 = .ok (.putfield 15, 3) := by decide +kernel
theorem dX1_openTell_48 : decode cX1_openTell 48 = .ok (.goto 26, 3) := by decide +kernel
theorem dX1_openTell_51 : decode cX1_openTell 51 = .ok (.aload_n 0, 1) := by decide +kernel
theorem dX1_openTell_52 : decode cX1_openTell 52 = .ok (.iconst 1, 1) := by decide +kernel
theorem dX1_openTell_53 : decode cX1_openTell 53 = .ok (.putfield 15, 3) := by decide +kernel
theorem dX1_openTell_56 : decode cX1_openTell 56 = .ok (.aload_n 0, 1) := by decide +kernel
theorem dX1_openTell_57 : decode cX1_openTell 57 = .ok (.getstatic 53, 3) := by decide +kernel
theorem dX1_openTell_60 : decode cX1_openTell 60 = .ok (.iload_n 1, 1) := by decide +kernel
theorem dX1_openTell_61 : decode cX1_openTell 61 = .ok (.iaload, 1) := by decide +kernel
theorem dX1_openTell_62 : decode cX1_openTell 62 = .ok (.putfield 19, 3) := by decide +kernel
theorem dX1_openTell_65 : decode cX1_openTell 65 = .ok (.aload_n 0, 1) := by decide +kernel
theorem dX1_openTell_66 : decode cX1_openTell 66 = .ok (.getstatic 56, 3) := by decide +kernel
theorem dX1_openTell_69 : decode cX1_openTell 69 = .ok (.iload_n 1, 1) := by decide +kernel
theorem dX1_openTell_70 : decode cX1_openTell 70 = .ok (.iaload, 1) := by decide +kernel
theorem dX1_openTell_71 : decode cX1_openTell 71 = .ok (.putfield 22, 3) := by decide +kernel
theorem dX1_openTell_74 : decode cX1_openTell 74 = .ok (.iconst 0, 1) := by decide +kernel
theorem dX1_openTell_75 : decode cX1_openTell 75 = .ok (.ireturn, 1) := by decide +kernel
theorem dX1_takeField_0 : decode cX1_takeField 0 = .ok (.aload_n 0, 1) := by decide +kernel
theorem dX1_takeField_1 : decode cX1_takeField 1 = .ok (.getfield 19, 3) := by decide +kernel
theorem dX1_takeField_4 : decode cX1_takeField 4 = .ok (.ifCond .le 24, 3) := by decide +kernel
theorem dX1_takeField_7 : decode cX1_takeField 7 = .ok (.aload_n 0, 1) := by decide +kernel
theorem dX1_takeField_8 : decode cX1_takeField 8 = .ok (.dup, 1) := by decide +kernel
theorem dX1_takeField_9 : decode cX1_takeField 9 = .ok (.getfield 19, 3) := by decide +kernel
theorem dX1_takeField_12 : decode cX1_takeField 12 = .ok (.iconst 1, 1) := by decide +kernel
theorem dX1_takeField_13 : decode cX1_takeField 13 = .ok (.isub, 1) := by decide +kernel
theorem dX1_takeField_14 : decode cX1_takeField 14 = .ok (.putfield 19, 3) := by decide +kernel
theorem dX1_takeField_17 : decode cX1_takeField 17 = .ok (.iload_n 1, 1) := by decide +kernel
theorem dX1_takeField_18 : decode cX1_takeField 18 = .ok (.iconst 1, 1) := by decide +kernel
theorem dX1_takeField_19 : decode cX1_takeField 19 = .ok (.if_icmp .ne 7, 3) := by decide +kernel
theorem dX1_takeField_22 : decode cX1_takeField 22 = .ok (.iconst 0, 1) := by decide +kernel
theorem dX1_takeField_23 : decode cX1_takeField 23 = .ok (.goto 4, 3) := by decide +kernel
theorem dX1_takeField_26 : decode cX1_takeField 26 = .ok (.iconst 1, 1) := by decide +kernel
theorem dX1_takeField_27 : decode cX1_takeField 27 = .ok (.ireturn, 1) := by decide +kernel
theorem dX1_takeField_28 : decode cX1_takeField 28 = .ok (.aload_n 0, 1) := by decide +kernel
theorem dX1_takeField_29 : decode cX1_takeField 29 = .ok (.getfield 22, 3) := by decide +kernel
theorem dX1_takeField_32 : decode cX1_takeField 32 = .ok (.ifCond .le 24, 3) := by decide +kernel
theorem dX1_takeField_35 : decode cX1_takeField 35 = .ok (.aload_n 0, 1) := by decide +kernel
theorem dX1_takeField_36 : decode cX1_takeField 36 = .ok (.dup, 1) := by decide +kernel
theorem dX1_takeField_37 : decode cX1_takeField 37 = .ok (.getfield 22, 3) := by decide +kernel
theorem dX1_takeField_40 : decode cX1_takeField 40 = .ok (.iconst 1, 1) := by decide +kernel
theorem dX1_takeField_41 : decode cX1_takeField 41 = .ok (.isub, 1) := by decide +kernel
theorem dX1_takeField_42 : decode cX1_takeField 42 = .ok (.putfield 22, 3) := by decide +kernel
theorem dX1_takeField_45 : decode cX1_takeField 45 = .ok (.iload_n 1, 1) := by decide +kernel
theorem dX1_takeField_46 : decode cX1_takeField 46 = .ok (.iconst 2, 1) := by decide +kernel
theorem dX1_takeField_47 : decode cX1_takeField 47 = .ok (.if_icmp .ne 7, 3) := by decide +kernel
theorem dX1_takeField_50 : decode cX1_takeField 50 = .ok (.iconst 0, 1) := by decide +kernel
theorem dX1_takeField_51 : decode cX1_takeField 51 = .ok (.goto 4, 3) := by decide +kernel
theorem dX1_takeField_54 : decode cX1_takeField 54 = .ok (.iconst 1, 1) := by decide +kernel
theorem dX1_takeField_55 : decode cX1_takeField 55 = .ok (.ireturn, 1) := by decide +kernel
theorem dX1_takeField_56 : decode cX1_takeField 56 = .ok (.aload_n 0, 1) := by decide +kernel
theorem dX1_takeField_57 : decode cX1_takeField 57 = .ok (.iconst 0, 1) := by decide +kernel
theorem dX1_takeField_58 : decode cX1_takeField 58 = .ok (.putfield 15, 3) := by decide +kernel
theorem dX1_takeField_61 : decode cX1_takeField 61 = .ok (.iload_n 1, 1) := by decide +kernel
theorem dX1_takeField_62 : decode cX1_takeField 62 = .ok (.bipush 59, 2) := by decide +kernel
theorem dX1_takeField_64 : decode cX1_takeField 64 = .ok (.if_icmp .ne 7, 3) := by decide +kernel
theorem dX1_takeField_67 : decode cX1_takeField 67 = .ok (.iconst 0, 1) := by decide +kernel
theorem dX1_takeField_68 : decode cX1_takeField 68 = .ok (.goto 4, 3) := by decide +kernel
theorem dX1_takeField_71 : decode cX1_takeField 71 = .ok (.iconst 1, 1) := by decide +kernel
theorem dX1_takeField_72 : decode cX1_takeField 72 = .ok (.ireturn, 1) := by decide +kernel
theorem dX1_takeEquals_0 : decode cX1_takeEquals 0 = .ok (.aload_n 0, 1) := by decide +kernel
theorem dX1_takeEquals_1 : decode cX1_takeEquals 1 = .ok (.iconst 3, 1) := by decide +kernel
theorem dX1_takeEquals_2 : decode cX1_takeEquals 2 = .ok (.putfield 15, 3) := by decide +kernel
theorem dX1_takeEquals_5 : decode cX1_takeEquals 5 = .ok (.aload_n 0, 1) := by decide +kernel
theorem dX1_takeEquals_6 : decode cX1_takeEquals 6 = .ok (.iconst 0, 1) := by decide +kernel
theorem dX1_takeEquals_7 : decode cX1_takeEquals 7 = .ok (.putfield 25, 3) := by decide +kernel
theorem dX1_takeEquals_10 : decode cX1_takeEquals 10 = .ok (.aload_n 0, 1) := by decide +kernel
theorem dX1_takeEquals_11 : decode cX1_takeEquals 11 = .ok (.iconst 0, 1) := by decide +kernel
theorem dX1_takeEquals_12 : decode cX1_takeEquals 12 = .ok (.putfield 28, 3) := by decide +kernel
theorem dX1_takeEquals_15 : decode cX1_takeEquals 15 = .ok (.aload_n 0, 1) := by decide +kernel
theorem dX1_takeEquals_16 : decode cX1_takeEquals 16 = .ok (.iconst 0, 1) := by decide +kernel
theorem dX1_takeEquals_17 : decode cX1_takeEquals 17 = .ok (.putfield 31, 3) := by decide +kernel
theorem dX1_takeEquals_20 : decode cX1_takeEquals 20 = .ok (.iload_n 1, 1) := by decide +kernel
theorem dX1_takeEquals_21 : decode cX1_takeEquals 21 = .ok (.bipush 61, 2) := by decide +kernel
theorem dX1_takeEquals_23 : decode cX1_takeEquals 23 = .ok (.if_icmp .ne 7, 3) := by decide +kernel
theorem dX1_takeEquals_26 : decode cX1_takeEquals 26 = .ok (.iconst 0, 1) := by decide +kernel
theorem dX1_takeEquals_27 : decode cX1_takeEquals 27 = .ok (.goto 4, 3) := by decide +kernel
theorem dX1_takeEquals_30 : decode cX1_takeEquals 30 = .ok (.iconst 1, 1) := by decide +kernel
theorem dX1_takeEquals_31 : decode cX1_takeEquals 31 = .ok (.ireturn, 1) := by decide +kernel
theorem dX1_takeOperand_0 : decode cX1_takeOperand 0 = .ok (.iload_n 1, 1) := by decide +kernel
theorem dX1_takeOperand_1 : decode cX1_takeOperand 1 = .ok (.sipush 136, 3) := by decide +kernel
theorem dX1_takeOperand_4 : decode cX1_takeOperand 4 = .ok (.if_icmp .ne 8, 3) := by decide +kernel
theorem dX1_takeOperand_7 : decode cX1_takeOperand 7 = .ok (.aload_n 0, 1) := by decide +kernel
theorem dX1_takeOperand_8 : decode cX1_takeOperand 8 = .ok (.invokevirtual 59, 3) := by decide +kernel
theorem dX1_takeOperand_11 : decode cX1_takeOperand 11 = .ok (.ireturn, 1) := by decide +kernel
theorem dX1_takeOperand_12 : decode cX1_takeOperand 12 = .ok (.aload_n 0, 1) := by decide +kernel
theorem dX1_takeOperand_13 : decode cX1_takeOperand 13 = .ok (.getfield 25, 3) := by decide +kernel
theorem dX1_takeOperand_16 : decode cX1_takeOperand 16 = .ok (.ifCond .ne 8, 3) := by decide +kernel
theorem dX1_takeOperand_19 : decode cX1_takeOperand 19 = .ok (.aload_n 0, 1) := by decide +kernel
theorem dX1_takeOperand_20 : decode cX1_takeOperand 20 = .ok (.iconst 4, 1) := by decide +kernel
theorem dX1_takeOperand_21 : decode cX1_takeOperand 21 = .ok (.putfield 25, 3) := by decide +kernel
theorem dX1_takeOperand_24 : decode cX1_takeOperand 24 = .ok (.iload_n 1, 1) := by decide +kernel
theorem dX1_takeOperand_25 : decode cX1_takeOperand 25 = .ok (.bipush 40, 2) := by decide +kernel
theorem dX1_takeOperand_27 : decode cX1_takeOperand 27 = .ok (.if_icmp .ne 28, 3) := by decide +kernel
theorem dX1_takeOperand_30 : decode cX1_takeOperand 30 = .ok (.aload_n 0, 1) := by decide +kernel
theorem dX1_takeOperand_31 : decode cX1_takeOperand 31 = .ok (.dup, 1) := by decide +kernel
theorem dX1_takeOperand_32 : decode cX1_takeOperand 32 = .ok (.getfield 28, 3) := by decide +kernel
theorem dX1_takeOperand_35 : decode cX1_takeOperand 35 = .ok (.iconst 1, 1) := by decide +kernel
theorem dX1_takeOperand_36 : decode cX1_takeOperand 36 = .ok (.iadd, 1) := by decide +kernel
theorem dX1_takeOperand_37 : decode cX1_takeOperand 37 = .ok (.putfield 28, 3) := by decide +kernel
theorem dX1_takeOperand_40 : decode cX1_takeOperand 40 = .ok (.aload_n 0, 1) := by decide +kernel
theorem dX1_takeOperand_41 : decode cX1_takeOperand 41 = .ok (.getfield 28, 3) := by decide +kernel
theorem dX1_takeOperand_44 : decode cX1_takeOperand 44 = .ok (.bipush 6, 2) := by decide +kernel
theorem dX1_takeOperand_46 : decode cX1_takeOperand 46 = .ok (.if_icmp .le 7, 3) := by decide +kernel
theorem dX1_takeOperand_49 : decode cX1_takeOperand 49 = .ok (.iconst 2, 1) := by decide +kernel
theorem dX1_takeOperand_50 : decode cX1_takeOperand 50 = .ok (.goto 4, 3) := by decide +kernel
theorem dX1_takeOperand_53 : decode cX1_takeOperand 53 = .ok (.iconst 0, 1) := by decide +kernel
theorem dX1_takeOperand_54 : decode cX1_takeOperand 54 = .ok (.ireturn, 1) := by decide +kernel
theorem dX1_takeOperand_55 : decode cX1_takeOperand 55 = .ok (.aload_n 0, 1) := by decide +kernel
theorem dX1_takeOperand_56 : decode cX1_takeOperand 56 = .ok (.iconst 4, 1) := by decide +kernel
theorem dX1_takeOperand_57 : decode cX1_takeOperand 57 = .ok (.putfield 15, 3) := by decide +kernel
theorem dX1_takeOperand_60 : decode cX1_takeOperand 60 = .ok (.iload_n 1, 1) := by decide +kernel
theorem dX1_takeOperand_61 : decode cX1_takeOperand 61 = .ok (.iconst 2, 1) := by decide +kernel
theorem dX1_takeOperand_62 : decode cX1_takeOperand 62 = .ok (.if_icmp .eq 10, 3) := by decide +kernel
theorem dX1_takeOperand_65 : decode cX1_takeOperand 65 = .ok (.iload_n 1, 1) := by decide +kernel
theorem dX1_takeOperand_66 : decode cX1_takeOperand 66 = .ok (.sipush 139, 3) := by decide +kernel
theorem dX1_takeOperand_69 : decode cX1_takeOperand 69 = .ok (.if_icmp .lt 7, 3) := by decide +kernel
theorem dX1_takeOperand_72 : decode cX1_takeOperand 72 = .ok (.iconst 0, 1) := by decide +kernel
theorem dX1_takeOperand_73 : decode cX1_takeOperand 73 = .ok (.goto 4, 3) := by decide +kernel
theorem dX1_takeOperand_76 : decode cX1_takeOperand 76 = .ok (.iconst 1, 1) := by decide +kernel
theorem dX1_takeOperand_77 : decode cX1_takeOperand 77 = .ok (.ireturn, 1) := by decide +kernel
theorem dX1_takeIf_0 : decode cX1_takeIf 0 = .ok (.aload_n 0, 1) := by decide +kernel
theorem dX1_takeIf_1 : decode cX1_takeIf 1 = .ok (.getfield 25, 3) := by decide +kernel
theorem dX1_takeIf_4 : decode cX1_takeIf 4 = .ok (.ifCond .eq 5, 3) := by decide +kernel
theorem dX1_takeIf_7 : decode cX1_takeIf 7 = .ok (.iconst 1, 1) := by decide +kernel
theorem dX1_takeIf_8 : decode cX1_takeIf 8 = .ok (.ireturn, 1) := by decide +kernel
theorem dX1_takeIf_9 : decode cX1_takeIf 9 = .ok (.aload_n 0, 1) := by decide +kernel
theorem dX1_takeIf_10 : decode cX1_takeIf 10 = .ok (.iconst 1, 1) := by decide +kernel
theorem dX1_takeIf_11 : decode cX1_takeIf 11 = .ok (.putfield 25, 3) := by decide +kernel
theorem dX1_takeIf_14 : decode cX1_takeIf 14 = .ok (.aload_n 0, 1) := by decide +kernel
theorem dX1_takeIf_15 : decode cX1_takeIf 15 = .ok (.dup, 1) := by decide +kernel
theorem dX1_takeIf_16 : decode cX1_takeIf 16 = .ok (.getfield 31, 3) := by decide +kernel
theorem dX1_takeIf_19 : decode cX1_takeIf 19 = .ok (.iconst 1, 1) := by decide +kernel
theorem dX1_takeIf_20 : decode cX1_takeIf 20 = .ok (.iadd, 1) := by decide +kernel
theorem dX1_takeIf_21 : decode cX1_takeIf 21 = .ok (.putfield 31, 3) := by decide +kernel
theorem dX1_takeIf_24 : decode cX1_takeIf 24 = .ok (.aload_n 0, 1) := by decide +kernel
theorem dX1_takeIf_25 : decode cX1_takeIf 25 = .ok (.getfield 31, 3) := by decide +kernel
theorem dX1_takeIf_28 : decode cX1_takeIf 28 = .ok (.iconst 4, 1) := by decide +kernel
theorem dX1_takeIf_29 : decode cX1_takeIf 29 = .ok (.if_icmp .le 7, 3) := by decide +kernel
theorem dX1_takeIf_32 : decode cX1_takeIf 32 = .ok (.iconst 2, 1) := by decide +kernel
theorem dX1_takeIf_33 : decode cX1_takeIf 33 = .ok (.goto 4, 3) := by decide +kernel
theorem dX1_takeIf_36 : decode cX1_takeIf 36 = .ok (.iconst 0, 1) := by decide +kernel
theorem dX1_takeIf_37 : decode cX1_takeIf 37 = .ok (.ireturn, 1) := by decide +kernel
theorem dX1_takeOperator_0 : decode cX1_takeOperator 0 = .ok (.iload_n 1, 1) := by decide +kernel
theorem dX1_takeOperator_1 : decode cX1_takeOperator 1 = .ok (.bipush 43, 2) := by decide +kernel
theorem dX1_takeOperator_3 : decode cX1_takeOperator 3 = .ok (.if_icmp .eq 21, 3) := by decide +kernel
theorem dX1_takeOperator_6 : decode cX1_takeOperator 6 = .ok (.iload_n 1, 1) := by decide +kernel
theorem dX1_takeOperator_7 : decode cX1_takeOperator 7 = .ok (.bipush 45, 2) := by decide +kernel
theorem dX1_takeOperator_9 : decode cX1_takeOperator 9 = .ok (.if_icmp .eq 15, 3) := by decide +kernel
theorem dX1_takeOperator_12 : decode cX1_takeOperator 12 = .ok (.iload_n 1, 1) := by decide +kernel
theorem dX1_takeOperator_13 : decode cX1_takeOperator 13 = .ok (.bipush 42, 2) := by decide +kernel
theorem dX1_takeOperator_15 : decode cX1_takeOperator 15 = .ok (.if_icmp .eq 9, 3) := by decide +kernel
theorem dX1_takeOperator_18 : decode cX1_takeOperator 18 = .ok (.iload_n 1, 1) := by decide +kernel
theorem dX1_takeOperator_19 : decode cX1_takeOperator 19 = .ok (.bipush 47, 2) := by decide +kernel
theorem dX1_takeOperator_21 : decode cX1_takeOperator 21 = .ok (.if_icmp .ne 10, 3) := by decide +kernel
theorem dX1_takeOperator_24 : decode cX1_takeOperator 24 = .ok (.aload_n 0, 1) := by decide +kernel
theorem dX1_takeOperator_25 : decode cX1_takeOperator 25 = .ok (.iconst 3, 1) := by decide +kernel
theorem dX1_takeOperator_26 : decode cX1_takeOperator 26 = .ok (.putfield 15, 3) := by decide +kernel
theorem dX1_takeOperator_29 : decode cX1_takeOperator 29 = .ok (.iconst 0, 1) := by decide +kernel
theorem dX1_takeOperator_30 : decode cX1_takeOperator 30 = .ok (.ireturn, 1) := by decide +kernel
theorem dX1_takeOperator_31 : decode cX1_takeOperator 31 = .ok (.aload_n 0, 1) := by decide +kernel
theorem dX1_takeOperator_32 : decode cX1_takeOperator 32 = .ok (.getfield 28, 3) := by decide +kernel
theorem dX1_takeOperator_35 : decode cX1_takeOperator 35 = .ok (.ifCond .le 25, 3) := by decide +kernel
theorem dX1_takeOperator_38 : decode cX1_takeOperator 38 = .ok (.aload_n 0, 1) := by decide +kernel
theorem dX1_takeOperator_39 : decode cX1_takeOperator 39 = .ok (.dup, 1) := by decide +kernel
theorem dX1_takeOperator_40 : decode cX1_takeOperator 40 = .ok (.getfield 28, 3) := by decide +kernel
theorem dX1_takeOperator_43 : decode cX1_takeOperator 43 = .ok (.iconst 1, 1) := by decide +kernel
theorem dX1_takeOperator_44 : decode cX1_takeOperator 44 = .ok (.isub, 1) := by decide +kernel
theorem dX1_takeOperator_45 : decode cX1_takeOperator 45 = .ok (.putfield 28, 3) := by decide +kernel
theorem dX1_takeOperator_48 : decode cX1_takeOperator 48 = .ok (.iload_n 1, 1) := by decide +kernel
theorem dX1_takeOperator_49 : decode cX1_takeOperator 49 = .ok (.bipush 41, 2) := by decide +kernel
theorem dX1_takeOperator_51 : decode cX1_takeOperator 51 = .ok (.if_icmp .ne 7, 3) := by decide +kernel
theorem dX1_takeOperator_54 : decode cX1_takeOperator 54 = .ok (.iconst 0, 1) := by decide +kernel
theorem dX1_takeOperator_55 : decode cX1_takeOperator 55 = .ok (.goto 4, 3) := by decide +kernel
theorem dX1_takeOperator_58 : decode cX1_takeOperator 58 = .ok (.iconst 1, 1) := by decide +kernel
theorem dX1_takeOperator_59 : decode cX1_takeOperator 59 = .ok (.ireturn, 1) := by decide +kernel
theorem dX1_takeOperator_60 : decode cX1_takeOperator 60 = .ok (.aload_n 0, 1) := by decide +kernel
theorem dX1_takeOperator_61 : decode cX1_takeOperator 61 = .ok (.iload_n 1, 1) := by decide +kernel
theorem dX1_takeOperator_62 : decode cX1_takeOperator 62 = .ok (.invokevirtual 63, 3) := by decide +kernel
theorem dX1_takeOperator_65 : decode cX1_takeOperator 65 = .ok (.ireturn, 1) := by decide +kernel
theorem dX1_closeSection_0 : decode cX1_closeSection 0 = .ok (.aload_n 0, 1) := by decide +kernel
theorem dX1_closeSection_1 : decode cX1_closeSection 1 = .ok (.iconst 3, 1) := by decide +kernel
theorem dX1_closeSection_2 : decode cX1_closeSection 2 = .ok (.putfield 15, 3) := by decide +kernel
theorem dX1_closeSection_5 : decode cX1_closeSection 5 = .ok (.aload_n 0, 1) := by decide +kernel
theorem dX1_closeSection_6 : decode cX1_closeSection 6 = .ok (.getfield 25, 3) := by decide +kernel
theorem dX1_closeSection_9 : decode cX1_closeSection 9 = .ok (.tableswitch 80 1 3 #[27, 44, 62], 27) := by decide +kernel
theorem dX1_closeSection_36 : decode cX1_closeSection 36 = .ok (.aload_n 0, 1) := by decide +kernel
theorem dX1_closeSection_37 : decode cX1_closeSection 37 = .ok (.iconst 2, 1) := by decide +kernel
theorem dX1_closeSection_38 : decode cX1_closeSection 38 = .ok (.putfield 25, 3) := by decide +kernel
theorem dX1_closeSection_41 : decode cX1_closeSection 41 = .ok (.iload_n 1, 1) := by decide +kernel
theorem dX1_closeSection_42 : decode cX1_closeSection 42 = .ok (.bipush 60, 2) := by decide +kernel
theorem dX1_closeSection_44 : decode cX1_closeSection 44 = .ok (.if_icmp .ne 7, 3) := by decide +kernel
theorem dX1_closeSection_47 : decode cX1_closeSection 47 = .ok (.iconst 0, 1) := by decide +kernel
theorem dX1_closeSection_48 : decode cX1_closeSection 48 = .ok (.goto 4, 3) := by decide +kernel
theorem dX1_closeSection_51 : decode cX1_closeSection 51 = .ok (.iconst 1, 1) := by decide +kernel
theorem dX1_closeSection_52 : decode cX1_closeSection 52 = .ok (.ireturn, 1) := by decide +kernel
theorem dX1_closeSection_53 : decode cX1_closeSection 53 = .ok (.aload_n 0, 1) := by decide +kernel
theorem dX1_closeSection_54 : decode cX1_closeSection 54 = .ok (.iconst 3, 1) := by decide +kernel
theorem dX1_closeSection_55 : decode cX1_closeSection 55 = .ok (.putfield 25, 3) := by decide +kernel
theorem dX1_closeSection_58 : decode cX1_closeSection 58 = .ok (.iload_n 1, 1) := by decide +kernel
theorem dX1_closeSection_59 : decode cX1_closeSection 59 = .ok (.sipush 137, 3) := by decide +kernel
theorem dX1_closeSection_62 : decode cX1_closeSection 62 = .ok (.if_icmp .ne 7, 3) := by decide +kernel
theorem dX1_closeSection_65 : decode cX1_closeSection 65 = .ok (.iconst 0, 1) := by decide +kernel
theorem dX1_closeSection_66 : decode cX1_closeSection 66 = .ok (.goto 4, 3) := by decide +kernel
theorem dX1_closeSection_69 : decode cX1_closeSection 69 = .ok (.iconst 1, 1) := by decide +kernel
theorem dX1_closeSection_70 : decode cX1_closeSection 70 = .ok (.ireturn, 1) := by decide +kernel
theorem dX1_closeSection_71 : decode cX1_closeSection 71 = .ok (.aload_n 0, 1) := by decide +kernel
theorem dX1_closeSection_72 : decode cX1_closeSection 72 = .ok (.iconst 0, 1) := by decide +kernel
theorem dX1_closeSection_73 : decode cX1_closeSection 73 = .ok (.putfield 25, 3) := by decide +kernel
theorem dX1_closeSection_76 : decode cX1_closeSection 76 = .ok (.iload_n 1, 1) := by decide +kernel
theorem dX1_closeSection_77 : decode cX1_closeSection 77 = .ok (.sipush 138, 3) := by decide +kernel
theorem dX1_closeSection_80 : decode cX1_closeSection 80 = .ok (.if_icmp .ne 7, 3) := by decide +kernel
theorem dX1_closeSection_83 : decode cX1_closeSection 83 = .ok (.iconst 0, 1) := by decide +kernel
theorem dX1_closeSection_84 : decode cX1_closeSection 84 = .ok (.goto 4, 3) := by decide +kernel
theorem dX1_closeSection_87 : decode cX1_closeSection 87 = .ok (.iconst 1, 1) := by decide +kernel
theorem dX1_closeSection_88 : decode cX1_closeSection 88 = .ok (.ireturn, 1) := by decide +kernel
theorem dX1_closeSection_89 : decode cX1_closeSection 89 = .ok (.aload_n 0, 1) := by decide +kernel
theorem dX1_closeSection_90 : decode cX1_closeSection 90 = .ok (.iconst 0, 1) := by decide +kernel
theorem dX1_closeSection_91 : decode cX1_closeSection 91 = .ok (.putfield 15, 3) := by decide +kernel
theorem dX1_closeSection_94 : decode cX1_closeSection 94 = .ok (.iload_n 1, 1) := by decide +kernel
theorem dX1_closeSection_95 : decode cX1_closeSection 95 = .ok (.bipush 59, 2) := by decide +kernel
theorem dX1_closeSection_97 : decode cX1_closeSection 97 = .ok (.if_icmp .ne 7, 3) := by decide +kernel
theorem dX1_closeSection_100 : decode cX1_closeSection 100 = .ok (.iconst 0, 1) := by decide +kernel
theorem dX1_closeSection_101 : decode cX1_closeSection 101 = .ok (.goto 4, 3) := by decide +kernel
theorem dX1_closeSection_104 : decode cX1_closeSection 104 = .ok (.iconst 1, 1) := by decide +kernel
theorem dX1_closeSection_105 : decode cX1_closeSection 105 = .ok (.ireturn, 1) := by decide +kernel
theorem dX2_init_0 : decode cX2_init 0 = .ok (.aload_n 0, 1) := by decide +kernel
theorem dX2_init_1 : decode cX2_init 1 = .ok (.invokespecial 3, 3) := by decide +kernel
theorem dX2_init_4 : decode cX2_init 4 = .ok (.aload_n 0, 1) := by decide +kernel
theorem dX2_init_5 : decode cX2_init 5 = .ok (.sipush 406, 3) := by decide +kernel
theorem dX2_init_8 : decode cX2_init 8 = .ok (.newarray .int, 2) := by decide +kernel
theorem dX2_init_10 : decode cX2_init 10 = .ok (.putfield 11, 3) := by decide +kernel
theorem dX2_init_13 : decode cX2_init 13 = .ok (.aload_n 0, 1) := by decide +kernel
theorem dX2_init_14 : decode cX2_init 14 = .ok (.sipush 406, 3) := by decide +kernel
theorem dX2_init_17 : decode cX2_init 17 = .ok (.newarray .int, 2) := by decide +kernel
theorem dX2_init_19 : decode cX2_init 19 = .ok (.putfield 15, 3) := by decide +kernel
theorem dX2_init_22 : decode cX2_init 22 = .ok (.aload_n 0, 1) := by decide +kernel
theorem dX2_init_23 : decode cX2_init 23 = .ok (.iconst 3, 1) := by decide +kernel
theorem dX2_init_24 : decode cX2_init 24 = .ok (.newarray .int, 2) := by decide +kernel
theorem dX2_init_26 : decode cX2_init 26 = .ok (.putfield 18, 3) := by decide +kernel
theorem dX2_init_29 : decode cX2_init 29 = .ok (.aload_n 0, 1) := by decide +kernel
theorem dX2_init_30 : decode cX2_init 30 = .ok (.sipush 406, 3) := by decide +kernel
theorem dX2_init_33 : decode cX2_init 33 = .ok (.newarray .int, 2) := by decide +kernel
theorem dX2_init_35 : decode cX2_init 35 = .ok (.putfield 21, 3) := by decide +kernel
theorem dX2_init_38 : decode cX2_init 38 = .ok (.aload_n 0, 1) := by decide +kernel
theorem dX2_init_39 : decode cX2_init 39 = .ok (.sipush 400, 3) := by decide +kernel
theorem dX2_init_42 : decode cX2_init 42 = .ok (.newarray .int, 2) := by decide +kernel
theorem dX2_init_44 : decode cX2_init 44 = .ok (.putfield 24, 3) := by decide +kernel
theorem dX2_init_47 : decode cX2_init 47 = .ok (.aload_n 0, 1) := by decide +kernel
theorem dX2_init_48 : decode cX2_init 48 = .ok (.iconst 0, 1) := by decide +kernel
theorem dX2_init_49 : decode cX2_init 49 = .ok (.putfield 27, 3) := by decide +kernel
theorem dX2_init_52 : decode cX2_init 52 = .ok (.aload_n 0, 1) := by decide +kernel
theorem dX2_init_53 : decode cX2_init 53 = .ok (.iconst 0, 1) := by decide +kernel
theorem dX2_init_54 : decode cX2_init 54 = .ok (.putfield 31, 3) := by decide +kernel
theorem dX2_init_57 : decode cX2_init 57 = .ok (.return_, 1) := by decide +kernel
theorem dX2_begin_0 : decode cX2_begin 0 = .ok (.aload_n 0, 1) := by decide +kernel
theorem dX2_begin_1 : decode cX2_begin 1 = .ok (.iconst 0, 1) := by decide +kernel
theorem dX2_begin_2 : decode cX2_begin 2 = .ok (.putfield 27, 3) := by decide +kernel
theorem dX2_begin_5 : decode cX2_begin 5 = .ok (.aload_n 0, 1) := by decide +kernel
theorem dX2_begin_6 : decode cX2_begin 6 = .ok (.getfield 18, 3) := by decide +kernel
theorem dX2_begin_9 : decode cX2_begin 9 = .ok (.iconst 0, 1) := by decide +kernel
theorem dX2_begin_10 : decode cX2_begin 10 = .ok (.aload_n 0, 1) := by decide +kernel
theorem dX2_begin_11 : decode cX2_begin 11 = .ok (.getfield 27, 3) := by decide +kernel
theorem dX2_begin_14 : decode cX2_begin 14 = .ok (.iastore, 1) := by decide +kernel
theorem dX2_begin_15 : decode cX2_begin 15 = .ok (.aload_n 0, 1) := by decide +kernel
theorem dX2_begin_16 : decode cX2_begin 16 = .ok (.iconst 1, 1) := by decide +kernel
theorem dX2_begin_17 : decode cX2_begin 17 = .ok (.iconst 0, 1) := by decide +kernel
theorem dX2_begin_18 : decode cX2_begin 18 = .ok (.invokevirtual 34, 3) := by decide +kernel
theorem dX2_begin_21 : decode cX2_begin 21 = .ok (.aload_n 0, 1) := by decide +kernel
theorem dX2_begin_22 : decode cX2_begin 22 = .ok (.iconst 2, 1) := by decide +kernel
theorem dX2_begin_23 : decode cX2_begin 23 = .ok (.iconst 0, 1) := by decide +kernel
theorem dX2_begin_24 : decode cX2_begin 24 = .ok (.invokevirtual 34, 3) := by decide +kernel
theorem dX2_begin_27 : decode cX2_begin 27 = .ok (.aload_n 0, 1) := by decide +kernel
theorem dX2_begin_28 : decode cX2_begin 28 = .ok (.getfield 18, 3) := by decide +kernel
theorem dX2_begin_31 : decode cX2_begin 31 = .ok (.iconst 1, 1) := by decide +kernel
theorem dX2_begin_32 : decode cX2_begin 32 = .ok (.aload_n 0, 1) := by decide +kernel
theorem dX2_begin_33 : decode cX2_begin 33 = .ok (.getfield 27, 3) := by decide +kernel
theorem dX2_begin_36 : decode cX2_begin 36 = .ok (.iastore, 1) := by decide +kernel
theorem dX2_begin_37 : decode cX2_begin 37 = .ok (.aload_n 0, 1) := by decide +kernel
theorem dX2_begin_38 : decode cX2_begin 38 = .ok (.iconst 1, 1) := by decide +kernel
theorem dX2_begin_39 : decode cX2_begin 39 = .ok (.iconst 5, 1) := by decide +kernel
theorem dX2_begin_40 : decode cX2_begin 40 = .ok (.invokevirtual 34, 3) := by decide +kernel
theorem dX2_begin_43 : decode cX2_begin 43 = .ok (.aload_n 0, 1) := by decide +kernel
theorem dX2_begin_44 : decode cX2_begin 44 = .ok (.iconst 2, 1) := by decide +kernel
theorem dX2_begin_45 : decode cX2_begin 45 = .ok (.iconst 0, 1) := by decide +kernel
theorem dX2_begin_46 : decode cX2_begin 46 = .ok (.invokevirtual 34, 3) := by decide +kernel
theorem dX2_begin_49 : decode cX2_begin 49 = .ok (.aload_n 0, 1) := by decide +kernel
theorem dX2_begin_50 : decode cX2_begin 50 = .ok (.getfield 18, 3) := by decide +kernel
theorem dX2_begin_53 : decode cX2_begin 53 = .ok (.iconst 2, 1) := by decide +kernel
theorem dX2_begin_54 : decode cX2_begin 54 = .ok (.aload_n 0, 1) := by decide +kernel
theorem dX2_begin_55 : decode cX2_begin 55 = .ok (.getfield 27, 3) := by decide +kernel
theorem dX2_begin_58 : decode cX2_begin 58 = .ok (.iastore, 1) := by decide +kernel
theorem dX2_begin_59 : decode cX2_begin 59 = .ok (.aload_n 0, 1) := by decide +kernel
theorem dX2_begin_60 : decode cX2_begin 60 = .ok (.iconst 0, 1) := by decide +kernel
theorem dX2_begin_61 : decode cX2_begin 61 = .ok (.iconst 0, 1) := by decide +kernel
theorem dX2_begin_62 : decode cX2_begin 62 = .ok (.invokevirtual 34, 3) := by decide +kernel
theorem dX2_begin_65 : decode cX2_begin 65 = .ok (.aload_n 0, 1) := by decide +kernel
theorem dX2_begin_66 : decode cX2_begin 66 = .ok (.iconst 2, 1) := by decide +kernel
theorem dX2_begin_67 : decode cX2_begin 67 = .ok (.iconst 0, 1) := by decide +kernel
theorem dX2_begin_68 : decode cX2_begin 68 = .ok (.invokevirtual 34, 3) := by decide +kernel
theorem dX2_begin_71 : decode cX2_begin 71 = .ok (.return_, 1) := by decide +kernel
theorem dX2_take_0 : decode cX2_take 0 = .ok (.aload_n 0, 1) := by decide +kernel
theorem dX2_take_1 : decode cX2_take 1 = .ok (.getfield 18, 3) := by decide +kernel
theorem dX2_take_4 : decode cX2_take 4 = .ok (.iload_n 1, 1) := by decide +kernel
theorem dX2_take_5 : decode cX2_take 5 = .ok (.aload_n 0, 1) := by decide +kernel
theorem dX2_take_6 : decode cX2_take 6 = .ok (.getfield 27, 3) := by decide +kernel
theorem dX2_take_9 : decode cX2_take 9 = .ok (.iastore, 1) := by decide +kernel
theorem dX2_take_10 : decode cX2_take 10 = .ok (.aload_n 0, 1) := by decide +kernel
theorem dX2_take_11 : decode cX2_take 11 = .ok (.iconst 0, 1) := by decide +kernel
theorem dX2_take_12 : decode cX2_take 12 = .ok (.putfield 31, 3) := by decide +kernel
theorem dX2_take_15 : decode cX2_take 15 = .ok (.iconst 0, 1) := by decide +kernel
theorem dX2_take_16 : decode cX2_take 16 = .ok (.istore 4, 2) := by decide +kernel
theorem dX2_take_18 : decode cX2_take 18 = .ok (.iload_n 3, 1) := by decide +kernel
theorem dX2_take_19 : decode cX2_take 19 = .ok (.istore 5, 2) := by decide +kernel
theorem dX2_take_21 : decode cX2_take 21 = .ok (.iload 5, 2) := by decide +kernel
theorem dX2_take_23 : decode cX2_take 23 = .ok (.aload_n 2, 1) := by decide +kernel
theorem dX2_take_24 : decode cX2_take 24 = .ok (.getfield 38, 3) := by decide +kernel
theorem dX2_take_27 : decode cX2_take 27 = .ok (.if_icmp .ge 142, 3) := by decide +kernel
theorem dX2_take_30 : decode cX2_take 30 = .ok (.aload_n 2, 1) := by decide +kernel
theorem dX2_take_31 : decode cX2_take 31 = .ok (.iload 5, 2) := by decide +kernel
theorem dX2_take_33 : decode cX2_take 33 = .ok (.invokevirtual 41, 3) := by decide +kernel
theorem dX2_take_36 : decode cX2_take 36 = .ok (.istore 6, 2) := by decide +kernel
theorem dX2_take_38 : decode cX2_take 38 = .ok (.iload 6, 2) := by decide +kernel
theorem dX2_take_40 : decode cX2_take 40 = .ok (.iconst 2, 1) := by decide +kernel
theorem dX2_take_41 : decode cX2_take 41 = .ok (.if_icmp .ne 18, 3) := by decide +kernel
theorem dX2_take_44 : decode cX2_take 44 = .ok (.aload_n 0, 1) := by decide +kernel
theorem dX2_take_45 : decode cX2_take 45 = .ok (.iconst 0, 1) := by decide +kernel
theorem dX2_take_46 : decode cX2_take 46 = .ok (.aload_n 2, 1) := by decide +kernel
theorem dX2_take_47 : decode cX2_take 47 = .ok (.iload 5, 2) := by decide +kernel
theorem dX2_take_49 : decode cX2_take 49 = .ok (.invokevirtual 45, 3) := by decide +kernel
theorem dX2_take_52 : decode cX2_take 52 = .ok (.l2i, 1) := by decide +kernel
theorem dX2_take_53 : decode cX2_take 53 = .ok (.invokevirtual 34, 3) := by decide +kernel
theorem dX2_take_56 : decode cX2_take 56 = .ok (.goto 107, 3) := by decide +kernel
theorem dX2_take_59 : decode cX2_take 59 = .ok (.iload 6, 2) := by decide +kernel
theorem dX2_take_61 : decode cX2_take 61 = .ok (.sipush 139, 3) := by decide +kernel
theorem dX2_take_64 : decode cX2_take 64 = .ok (.if_icmp .lt 17, 3) := by decide +kernel
theorem dX2_take_67 : decode cX2_take 67 = .ok (.aload_n 0, 1) := by decide +kernel
theorem dX2_take_68 : decode cX2_take 68 = .ok (.iconst 1, 1) := by decide +kernel
theorem dX2_take_69 : decode cX2_take 69 = .ok (.iload 6, 2) := by decide +kernel
theorem dX2_take_71 : decode cX2_take 71 = .ok (.sipush 139, 3) := by decide +kernel
theorem dX2_take_74 : decode cX2_take 74 = .ok (.isub, 1) := by decide +kernel
theorem dX2_take_75 : decode cX2_take 75 = .ok (.invokevirtual 34, 3) := by decide +kernel
theorem dX2_take_78 : decode cX2_take 78 = .ok (.goto 85, 3) := by decide +kernel
theorem dX2_take_81 : decode cX2_take 81 = .ok (.iload 6, 2) := by decide +kernel
theorem dX2_take_83 : decode cX2_take 83 = .ok (.sipush 137, 3) := by decide +kernel
theorem dX2_take_86 : decode cX2_take 86 = .ok (.if_icmp .ne 24, 3) := by decide +kernel
theorem dX2_take_89 : decode cX2_take 89 = .ok (.aload_n 0, 1) := by decide +kernel
theorem dX2_take_90 : decode cX2_take 90 = .ok (.iconst 1, 1) := by decide +kernel
theorem dX2_take_91 : decode cX2_take 91 = .ok (.invokevirtual 49, 3) := by decide +kernel
theorem dX2_take_94 : decode cX2_take 94 = .ok (.aload_n 0, 1) := by decide +kernel
theorem dX2_take_95 : decode cX2_take 95 = .ok (.getfield 27, 3) := by decide +kernel
theorem dX2_take_98 : decode cX2_take 98 = .ok (.istore 4, 2) := by decide +kernel
theorem dX2_take_100 : decode cX2_take 100 = .ok (.aload_n 0, 1) := by decide +kernel
theorem dX2_take_101 : decode cX2_take 101 = .ok (.bipush 60, 2) := by decide +kernel
theorem dX2_take_103 : decode cX2_take 103 = .ok (.iconst 0, 1) := by decide +kernel
theorem dX2_take_104 : decode cX2_take 104 = .ok (.invokevirtual 34, 3) := by decide +kernel
theorem dX2_take_107 : decode cX2_take 107 = .ok (.goto 56, 3) := by decide +kernel
theorem dX2_take_110 : decode cX2_take 110 = .ok (.iload 6, 2) := by decide +kernel
theorem dX2_take_112 : decode cX2_take 112 = .ok (.sipush 138, 3) := by decide +kernel
theorem dX2_take_115 : decode cX2_take 115 = .ok (.if_icmp .ne 23, 3) := by decide +kernel
theorem dX2_take_118 : decode cX2_take 118 = .ok (.aload_n 0, 1) := by decide +kernel
theorem dX2_take_119 : decode cX2_take 119 = .ok (.iconst 1, 1) := by decide +kernel
theorem dX2_take_120 : decode cX2_take 120 = .ok (.invokevirtual 49, 3) := by decide +kernel
theorem dX2_take_123 : decode cX2_take 123 = .ok (.aload_n 0, 1) := by decide +kernel
theorem dX2_take_124 : decode cX2_take 124 = .ok (.iconst 2, 1) := by decide +kernel
theorem dX2_take_125 : decode cX2_take 125 = .ok (.iconst 0, 1) := by decide +kernel
theorem dX2_take_126 : decode cX2_take 126 = .ok (.invokevirtual 34, 3) := by decide +kernel
theorem dX2_take_129 : decode cX2_take 129 = .ok (.aload_n 0, 1) := by decide +kernel
theorem dX2_take_130 : decode cX2_take 130 = .ok (.iload 4, 2) := by decide +kernel
theorem dX2_take_132 : decode cX2_take 132 = .ok (.invokevirtual 53, 3) := by decide +kernel
theorem dX2_take_135 : decode cX2_take 135 = .ok (.goto 28, 3) := by decide +kernel
theorem dX2_take_138 : decode cX2_take 138 = .ok (.iload 6, 2) := by decide +kernel
theorem dX2_take_140 : decode cX2_take 140 = .ok (.bipush 59, 2) := by decide +kernel
theorem dX2_take_142 : decode cX2_take 142 = .ok (.if_icmp .ne 15, 3) := by decide +kernel
theorem dX2_take_145 : decode cX2_take 145 = .ok (.aload_n 0, 1) := by decide +kernel
theorem dX2_take_146 : decode cX2_take 146 = .ok (.iconst 1, 1) := by decide +kernel
theorem dX2_take_147 : decode cX2_take 147 = .ok (.invokevirtual 49, 3) := by decide +kernel
theorem dX2_take_150 : decode cX2_take 150 = .ok (.aload_n 0, 1) := by decide +kernel
theorem dX2_take_151 : decode cX2_take 151 = .ok (.iconst 2, 1) := by decide +kernel
theorem dX2_take_152 : decode cX2_take 152 = .ok (.iconst 0, 1) := by decide +kernel
theorem dX2_take_153 : decode cX2_take 153 = .ok (.invokevirtual 34, 3) := by decide +kernel
theorem dX2_take_156 : decode cX2_take 156 = .ok (.return_, 1) := by decide +kernel
theorem dX2_take_157 : decode cX2_take 157 = .ok (.aload_n 0, 1) := by decide +kernel
theorem dX2_take_158 : decode cX2_take 158 = .ok (.iload 6, 2) := by decide +kernel
theorem dX2_take_160 : decode cX2_take 160 = .ok (.invokevirtual 56, 3) := by decide +kernel
theorem dX2_take_163 : decode cX2_take 163 = .ok (.iinc 5 1, 3) := by decide +kernel
theorem dX2_take_166 : decode cX2_take 166 = .ok (.goto (-145), 3) := by decide +kernel
theorem dX2_take_169 : decode cX2_take 169 = .ok (.return_, 1) := by decide +kernel
theorem dX2_leadOn_0 : decode cX2_leadOn 0 = .ok (.iload_n 1, 1) := by decide +kernel
theorem dX2_leadOn_1 : decode cX2_leadOn 1 = .ok (.aload_n 0, 1) := by decide +kernel
theorem dX2_leadOn_2 : decode cX2_leadOn 2 = .ok (.getfield 27, 3) := by decide +kernel
theorem dX2_leadOn_5 : decode cX2_leadOn 5 = .ok (.if_icmp .ge 13, 3) := by decide +kernel
theorem dX2_leadOn_8 : decode cX2_leadOn 8 = .ok (.aload_n 0, 1) := by decide +kernel
theorem dX2_leadOn_9 : decode cX2_leadOn 9 = .ok (.getfield 15, 3) := by decide +kernel
theorem dX2_leadOn_12 : decode cX2_leadOn 12 = .ok (.iload_n 1, 1) := by decide +kernel
theorem dX2_leadOn_13 : decode cX2_leadOn 13 = .ok (.aload_n 0, 1) := by decide +kernel
theorem dX2_leadOn_14 : decode cX2_leadOn 14 = .ok (.getfield 27, 3) := by decide +kernel
theorem dX2_leadOn_17 : decode cX2_leadOn 17 = .ok (.iastore, 1) := by decide +kernel
theorem dX2_leadOn_18 : decode cX2_leadOn 18 = .ok (.return_, 1) := by decide +kernel
theorem dX2_takeSign_0 : decode cX2_takeSign 0 = .ok (.iload_n 1, 1) := by decide +kernel
theorem dX2_takeSign_1 : decode cX2_takeSign 1 = .ok (.bipush 60, 2) := by decide +kernel
theorem dX2_takeSign_3 : decode cX2_takeSign 3 = .ok (.if_icmp .ne 11, 3) := by decide +kernel
theorem dX2_takeSign_6 : decode cX2_takeSign 6 = .ok (.aload_n 0, 1) := by decide +kernel
theorem dX2_takeSign_7 : decode cX2_takeSign 7 = .ok (.iconst 1, 1) := by decide +kernel
theorem dX2_takeSign_8 : decode cX2_takeSign 8 = .ok (.invokevirtual 49, 3) := by decide +kernel
theorem dX2_takeSign_11 : decode cX2_takeSign 11 = .ok (.goto 82, 3) := by decide +kernel
theorem dX2_takeSign_14 : decode cX2_takeSign 14 = .ok (.iload_n 1, 1) := by decide +kernel
theorem dX2_takeSign_15 : decode cX2_takeSign 15 = .ok (.bipush 41, 2) := by decide +kernel
theorem dX2_takeSign_17 : decode cX2_takeSign 17 = .ok (.if_icmp .ne 25, 3) := by decide +kernel
theorem dX2_takeSign_20 : decode cX2_takeSign 20 = .ok (.aload_n 0, 1) := by decide +kernel
theorem dX2_takeSign_21 : decode cX2_takeSign 21 = .ok (.iconst 1, 1) := by decide +kernel
theorem dX2_takeSign_22 : decode cX2_takeSign 22 = .ok (.invokevirtual 49, 3) := by decide +kernel
theorem dX2_takeSign_25 : decode cX2_takeSign 25 = .ok (.aload_n 0, 1) := by decide +kernel
theorem dX2_takeSign_26 : decode cX2_takeSign 26 = .ok (.iconst 0, 1) := by decide +kernel
theorem dX2_takeSign_27 : decode cX2_takeSign 27 = .ok (.aload_n 0, 1) := by decide +kernel
theorem dX2_takeSign_28 : decode cX2_takeSign 28 = .ok (.getfield 31, 3) := by decide +kernel
theorem dX2_takeSign_31 : decode cX2_takeSign 31 = .ok (.iconst 1, 1) := by decide +kernel
theorem dX2_takeSign_32 : decode cX2_takeSign 32 = .ok (.isub, 1) := by decide +kernel
theorem dX2_takeSign_33 : decode cX2_takeSign 33 = .ok (.invokestatic 59, 3) := by decide +kernel
theorem dX2_takeSign_36 : decode cX2_takeSign 36 = .ok (.putfield 31, 3) := by decide +kernel
theorem dX2_takeSign_39 : decode cX2_takeSign 39 = .ok (.goto 54, 3) := by decide +kernel
theorem dX2_takeSign_42 : decode cX2_takeSign 42 = .ok (.iload_n 1, 1) := by decide +kernel
theorem dX2_takeSign_43 : decode cX2_takeSign 43 = .ok (.sipush 136, 3) := by decide +kernel
theorem dX2_takeSign_46 : decode cX2_takeSign 46 = .ok (.if_icmp .eq 47, 3) := by decide +kernel
theorem dX2_takeSign_49 : decode cX2_takeSign 49 = .ok (.iload_n 1, 1) := by decide +kernel
theorem dX2_takeSign_50 : decode cX2_takeSign 50 = .ok (.bipush 40, 2) := by decide +kernel
theorem dX2_takeSign_52 : decode cX2_takeSign 52 = .ok (.if_icmp .eq 11, 3) := by decide +kernel
theorem dX2_takeSign_55 : decode cX2_takeSign 55 = .ok (.aload_n 0, 1) := by decide +kernel
theorem dX2_takeSign_56 : decode cX2_takeSign 56 = .ok (.iload_n 1, 1) := by decide +kernel
theorem dX2_takeSign_57 : decode cX2_takeSign 57 = .ok (.invokestatic 65, 3) := by decide +kernel
theorem dX2_takeSign_60 : decode cX2_takeSign 60 = .ok (.invokevirtual 49, 3) := by decide +kernel
theorem dX2_takeSign_63 : decode cX2_takeSign 63 = .ok (.aload_n 0, 1) := by decide +kernel
theorem dX2_takeSign_64 : decode cX2_takeSign 64 = .ok (.getfield 31, 3) := by decide +kernel
theorem dX2_takeSign_67 : decode cX2_takeSign 67 = .ok (.sipush 400, 3) := by decide +kernel
theorem dX2_takeSign_70 : decode cX2_takeSign 70 = .ok (.if_icmp .ge 23, 3) := by decide +kernel
theorem dX2_takeSign_73 : decode cX2_takeSign 73 = .ok (.aload_n 0, 1) := by decide +kernel
theorem dX2_takeSign_74 : decode cX2_takeSign 74 = .ok (.getfield 24, 3) := by decide +kernel
theorem dX2_takeSign_77 : decode cX2_takeSign 77 = .ok (.aload_n 0, 1) := by decide +kernel
theorem dX2_takeSign_78 : decode cX2_takeSign 78 = .ok (.getfield 31, 3) := by decide +kernel
theorem dX2_takeSign_81 : decode cX2_takeSign 81 = .ok (.iload_n 1, 1) := by decide +kernel
theorem dX2_takeSign_82 : decode cX2_takeSign 82 = .ok (.iastore, 1) := by decide +kernel
theorem dX2_takeSign_83 : decode cX2_takeSign 83 = .ok (.aload_n 0, 1) := by decide +kernel
theorem dX2_takeSign_84 : decode cX2_takeSign 84 = .ok (.dup, 1) := by decide +kernel
theorem dX2_takeSign_85 : decode cX2_takeSign 85 = .ok (.getfield 31, 3) := by decide +kernel
theorem dX2_takeSign_88 : decode cX2_takeSign 88 = .ok (.iconst 1, 1) := by decide +kernel
theorem dX2_takeSign_89 : decode cX2_takeSign 89 = .ok (.iadd, 1) := by decide +kernel
theorem dX2_takeSign_90 : decode cX2_takeSign 90 = .ok (.putfield 31, 3) := by decide +kernel
theorem dX2_takeSign_93 : decode cX2_takeSign 93 = .ok (.return_, 1) := by decide +kernel
theorem dX2_release_0 : decode cX2_release 0 = .ok (.aload_n 0, 1) := by decide +kernel
theorem dX2_release_1 : decode cX2_release 1 = .ok (.getfield 31, 3) := by decide +kernel
theorem dX2_release_4 : decode cX2_release 4 = .ok (.ifCond .le 48, 3) := by decide +kernel
theorem dX2_release_7 : decode cX2_release 7 = .ok (.aload_n 0, 1) := by decide +kernel
theorem dX2_release_8 : decode cX2_release 8 = .ok (.getfield 24, 3) := by decide +kernel
theorem dX2_release_11 : decode cX2_release 11 = .ok (.aload_n 0, 1) := by decide +kernel
theorem dX2_release_12 : decode cX2_release 12 = .ok (.getfield 31, 3) := by decide +kernel
theorem dX2_release_15 : decode cX2_release 15 = .ok (.iconst 1, 1) := by decide +kernel
theorem dX2_release_16 : decode cX2_release 16 = .ok (.isub, 1) := by decide +kernel
theorem dX2_release_17 : decode cX2_release 17 = .ok (.iaload, 1) := by decide +kernel
theorem dX2_release_18 : decode cX2_release 18 = .ok (.invokestatic 65, 3) := by decide +kernel
theorem dX2_release_21 : decode cX2_release 21 = .ok (.iload_n 1, 1) := by decide +kernel
theorem dX2_release_22 : decode cX2_release 22 = .ok (.if_icmp .lt 30, 3) := by decide +kernel
theorem dX2_release_25 : decode cX2_release 25 = .ok (.aload_n 0, 1) := by decide +kernel
theorem dX2_release_26 : decode cX2_release 26 = .ok (.dup, 1) := by decide +kernel
theorem dX2_release_27 : decode cX2_release 27 = .ok (.getfield 31, 3) := by decide +kernel
theorem dX2_release_30 : decode cX2_release 30 = .ok (.iconst 1, 1) := by decide +kernel
theorem dX2_release_31 : decode cX2_release 31 = .ok (.isub, 1) := by decide +kernel
theorem dX2_release_32 : decode cX2_release 32 = .ok (.putfield 31, 3) := by decide +kernel
theorem dX2_release_35 : decode cX2_release 35 = .ok (.aload_n 0, 1) := by decide +kernel
theorem dX2_release_36 : decode cX2_release 36 = .ok (.aload_n 0, 1) := by decide +kernel
theorem dX2_release_37 : decode cX2_release 37 = .ok (.getfield 24, 3) := by decide +kernel
theorem dX2_release_40 : decode cX2_release 40 = .ok (.aload_n 0, 1) := by decide +kernel
theorem dX2_release_41 : decode cX2_release 41 = .ok (.getfield 31, 3) := by decide +kernel
theorem dX2_release_44 : decode cX2_release 44 = .ok (.iaload, 1) := by decide +kernel
theorem dX2_release_45 : decode cX2_release 45 = .ok (.iconst 0, 1) := by decide +kernel
theorem dX2_release_46 : decode cX2_release 46 = .ok (.invokevirtual 34, 3) := by decide +kernel
theorem dX2_release_49 : decode cX2_release 49 = .ok (.goto (-49), 3) := by decide +kernel
theorem dX2_release_52 : decode cX2_release 52 = .ok (.return_, 1) := by decide +kernel
theorem dX2_rank_0 : decode cX2_rank 0 = .ok (.iload_n 0, 1) := by decide +kernel
theorem dX2_rank_1 : decode cX2_rank 1 = .ok (.bipush 40, 2) := by decide +kernel
theorem dX2_rank_3 : decode cX2_rank 3 = .ok (.if_icmp .ne 7, 3) := by decide +kernel
theorem dX2_rank_6 : decode cX2_rank 6 = .ok (.iconst 0, 1) := by decide +kernel
theorem dX2_rank_7 : decode cX2_rank 7 = .ok (.goto 20, 3) := by decide +kernel
theorem dX2_rank_10 : decode cX2_rank 10 = .ok (.iload_n 0, 1) := by decide +kernel
theorem dX2_rank_11 : decode cX2_rank 11 = .ok (.bipush 42, 2) := by decide +kernel
theorem dX2_rank_13 : decode cX2_rank 13 = .ok (.if_icmp .eq 9, 3) := by decide +kernel
theorem dX2_rank_16 : decode cX2_rank 16 = .ok (.iload_n 0, 1) := by decide +kernel
theorem dX2_rank_17 : decode cX2_rank 17 = .ok (.bipush 47, 2) := by decide +kernel
theorem dX2_rank_19 : decode cX2_rank 19 = .ok (.if_icmp .ne 7, 3) := by decide +kernel
theorem dX2_rank_22 : decode cX2_rank 22 = .ok (.iconst 2, 1) := by decide +kernel
theorem dX2_rank_23 : decode cX2_rank 23 = .ok (.goto 4, 3) := by decide +kernel
theorem dX2_rank_26 : decode cX2_rank 26 = .ok (.iconst 1, 1) := by decide +kernel
theorem dX2_rank_27 : decode cX2_rank 27 = .ok (.ireturn, 1) := by decide +kernel
theorem dX2_addStep_0 : decode cX2_addStep 0 = .ok (.aload_n 0, 1) := by decide +kernel
theorem dX2_addStep_1 : decode cX2_addStep 1 = .ok (.getfield 27, 3) := by decide +kernel
theorem dX2_addStep_4 : decode cX2_addStep 4 = .ok (.sipush 406, 3) := by decide +kernel
theorem dX2_addStep_7 : decode cX2_addStep 7 = .ok (.if_icmp .ge 33, 3) := by decide +kernel
theorem dX2_addStep_10 : decode cX2_addStep 10 = .ok (.aload_n 0, 1) := by decide +kernel
theorem dX2_addStep_11 : decode cX2_addStep 11 = .ok (.getfield 11, 3) := by decide +kernel
theorem dX2_addStep_14 : decode cX2_addStep 14 = .ok (.aload_n 0, 1) := by decide +kernel
theorem dX2_addStep_15 : decode cX2_addStep 15 = .ok (.getfield 27, 3) := by decide +kernel
theorem dX2_addStep_18 : decode cX2_addStep 18 = .ok (.iload_n 1, 1) := by decide +kernel
theorem dX2_addStep_19 : decode cX2_addStep 19 = .ok (.iastore, 1) := by decide +kernel
theorem dX2_addStep_20 : decode cX2_addStep 20 = .ok (.aload_n 0, 1) := by decide +kernel
theorem dX2_addStep_21 : decode cX2_addStep 21 = .ok (.getfield 15, 3) := by decide +kernel
theorem dX2_addStep_24 : decode cX2_addStep 24 = .ok (.aload_n 0, 1) := by decide +kernel
theorem dX2_addStep_25 : decode cX2_addStep 25 = .ok (.getfield 27, 3) := by decide +kernel
theorem dX2_addStep_28 : decode cX2_addStep 28 = .ok (.iload_n 2, 1) := by decide +kernel
theorem dX2_addStep_29 : decode cX2_addStep 29 = .ok (.iastore, 1) := by decide +kernel
theorem dX2_addStep_30 : decode cX2_addStep 30 = .ok (.aload_n 0, 1) := by decide +kernel
theorem dX2_addStep_31 : decode cX2_addStep 31 = .ok (.dup, 1) := by decide +kernel
theorem dX2_addStep_32 : decode cX2_addStep 32 = .ok (.getfield 27, 3) := by decide +kernel
theorem dX2_addStep_35 : decode cX2_addStep 35 = .ok (.iconst 1, 1) := by decide +kernel
theorem dX2_addStep_36 : decode cX2_addStep 36 = .ok (.iadd, 1) := by decide +kernel
theorem dX2_addStep_37 : decode cX2_addStep 37 = .ok (.putfield 27, 3) := by decide +kernel
theorem dX2_addStep_40 : decode cX2_addStep 40 = .ok (.return_, 1) := by decide +kernel
theorem dX2_value_0 : decode cX2_value 0 = .ok (.iconst 0, 1) := by decide +kernel
theorem dX2_value_1 : decode cX2_value 1 = .ok (.istore_n 3, 1) := by decide +kernel
theorem dX2_value_2 : decode cX2_value 2 = .ok (.aload_n 0, 1) := by decide +kernel
theorem dX2_value_3 : decode cX2_value 3 = .ok (.getfield 18, 3) := by decide +kernel
theorem dX2_value_6 : decode cX2_value 6 = .ok (.iload_n 1, 1) := by decide +kernel
theorem dX2_value_7 : decode cX2_value 7 = .ok (.iaload, 1) := by decide +kernel
theorem dX2_value_8 : decode cX2_value 8 = .ok (.istore 4, 2) := by decide +kernel
theorem dX2_value_10 : decode cX2_value 10 = .ok (.iload 4, 2) := by decide +kernel
theorem dX2_value_12 : decode cX2_value 12 = .ok (.aload_n 0, 1) := by decide +kernel
theorem dX2_value_13 : decode cX2_value 13 = .ok (.getfield 27, 3) := by decide +kernel
theorem dX2_value_16 : decode cX2_value 16 = .ok (.if_icmp .ge 292, 3) := by decide +kernel
theorem dX2_value_19 : decode cX2_value 19 = .ok (.iload_n 3, 1) := by decide +kernel
theorem dX2_value_20 : decode cX2_value 20 = .ok (.sipush 406, 3) := by decide +kernel
theorem dX2_value_23 : decode cX2_value 23 = .ok (.if_icmp .ge 285, 3) := by decide +kernel
theorem dX2_value_26 : decode cX2_value 26 = .ok (.aload_n 0, 1) := by decide +kernel
theorem dX2_value_27 : decode cX2_value 27 = .ok (.getfield 11, 3) := by decide +kernel
theorem dX2_value_30 : decode cX2_value 30 = .ok (.iload 4, 2) := by decide +kernel
theorem dX2_value_32 : decode cX2_value 32 = .ok (.iaload, 1) := by decide +kernel
theorem dX2_value_33 : decode cX2_value 33 = .ok (.istore 5, 2) := by decide +kernel
theorem dX2_value_35 : decode cX2_value 35 = .ok (.iload 5, 2) := by decide +kernel
theorem dX2_value_37 : decode cX2_value 37 = .ok (.ifCond .eq 9, 3) := by decide +kernel
theorem dX2_value_40 : decode cX2_value 40 = .ok (.iload 5, 2) := by decide +kernel
theorem dX2_value_42 : decode cX2_value 42 = .ok (.iconst 1, 1) := by decide +kernel
theorem dX2_value_43 : decode cX2_value 43 = .ok (.if_icmp .ne 63, 3) := by decide +kernel
theorem dX2_value_46 : decode cX2_value 46 = .ok (.aload_n 0, 1) := by decide +kernel
theorem dX2_value_47 : decode cX2_value 47 = .ok (.getfield 15, 3) := by decide +kernel
theorem dX2_value_50 : decode cX2_value 50 = .ok (.iload 4, 2) := by decide +kernel
theorem dX2_value_52 : decode cX2_value 52 = .ok (.iaload, 1) := by decide +kernel
theorem dX2_value_53 : decode cX2_value 53 = .ok (.istore 6, 2) := by decide +kernel
theorem dX2_value_55 : decode cX2_value 55 = .ok (.iload 5, 2) := by decide +kernel
theorem dX2_value_57 : decode cX2_value 57 = .ok (.iconst 1, 1) := by decide +kernel
theorem dX2_value_58 : decode cX2_value 58 = .ok (.if_icmp .ne 19, 3) := by decide +kernel
theorem dX2_value_61 : decode cX2_value 61 = .ok (.iload 6, 2) := by decide +kernel
theorem dX2_value_63 : decode cX2_value 63 = .ok (.ifCond .lt 14, 3) := by decide +kernel
theorem dX2_value_66 : decode cX2_value 66 = .ok (.iload 6, 2) := by decide +kernel
theorem dX2_value_68 : decode cX2_value 68 = .ok (.aload_n 2, 1) := by decide +kernel
theorem dX2_value_69 : decode cX2_value 69 = .ok (.arraylength, 1) := by decide +kernel
theorem dX2_value_70 : decode cX2_value 70 = .ok (.if_icmp .ge 7, 3) := by decide +kernel
theorem dX2_value_73 : decode cX2_value 73 = .ok (.iconst 1, 1) := by decide +kernel
theorem dX2_value_74 : decode cX2_value 74 = .ok (.goto 4, 3) := by decide +kernel
theorem dX2_value_77 : decode cX2_value 77 = .ok (.iconst 0, 1) := by decide +kernel
theorem dX2_value_78 : decode cX2_value 78 = .ok (.istore 7, 2) := by decide +kernel
theorem dX2_value_80 : decode cX2_value 80 = .ok (.aload_n 0, 1) := by decide +kernel
theorem dX2_value_81 : decode cX2_value 81 = .ok (.getfield 21, 3) := by decide +kernel
theorem dX2_value_84 : decode cX2_value 84 = .ok (.iload_n 3, 1) := by decide +kernel
theorem dX2_value_85 : decode cX2_value 85 = .ok (.iload 7, 2) := by decide +kernel
theorem dX2_value_87 : decode cX2_value 87 = .ok (.ifCond .eq 10, 3) := by decide +kernel
theorem dX2_value_90 : decode cX2_value 90 = .ok (.aload_n 2, 1) := by decide +kernel
theorem dX2_value_91 : decode cX2_value 91 = .ok (.iload 6, 2) := by decide +kernel
theorem dX2_value_93 : decode cX2_value 93 = .ok (.iaload, 1) := by decide +kernel
theorem dX2_value_94 : decode cX2_value 94 = .ok (.goto 5, 3) := by decide +kernel
theorem dX2_value_97 : decode cX2_value 97 = .ok (.iload 6, 2) := by decide +kernel
theorem dX2_value_99 : decode cX2_value 99 = .ok (.iastore, 1) := by decide +kernel
theorem dX2_value_100 : decode cX2_value 100 = .ok (.iinc 3 1, 3) := by decide +kernel
theorem dX2_value_103 : decode cX2_value 103 = .ok (.goto 199, 3) := by decide +kernel
theorem dX2_value_106 : decode cX2_value 106 = .ok (.iload 5, 2) := by decide +kernel
theorem dX2_value_108 : decode cX2_value 108 = .ok (.iconst 2, 1) := by decide +kernel
theorem dX2_value_109 : decode cX2_value 109 = .ok (.if_icmp .ne 20, 3) := by decide +kernel
theorem dX2_value_112 : decode cX2_value 112 = .ok (.iload_n 3, 1) := by decide +kernel
theorem dX2_value_113 : decode cX2_value 113 = .ok (.ifCond .le 14, 3) := by decide +kernel
theorem dX2_value_116 : decode cX2_value 116 = .ok (.aload_n 0, 1) := by decide +kernel
theorem dX2_value_117 : decode cX2_value 117 = .ok (.getfield 21, 3) := by decide +kernel
theorem dX2_value_120 : decode cX2_value 120 = .ok (.iload_n 3, 1) := by decide +kernel
theorem dX2_value_121 : decode cX2_value 121 = .ok (.iconst 1, 1) := by decide +kernel
theorem dX2_value_122 : decode cX2_value 122 = .ok (.isub, 1) := by decide +kernel
theorem dX2_value_123 : decode cX2_value 123 = .ok (.iaload, 1) := by decide +kernel
theorem dX2_value_124 : decode cX2_value 124 = .ok (.goto 4, 3) := by decide +kernel
theorem dX2_value_127 : decode cX2_value 127 = .ok (.iconst 0, 1) := by decide +kernel
theorem dX2_value_128 : decode cX2_value 128 = .ok (.ireturn, 1) := by decide +kernel
theorem dX2_value_129 : decode cX2_value 129 = .ok (.iload_n 3, 1) := by decide +kernel
theorem dX2_value_130 : decode cX2_value 130 = .ok (.iconst 2, 1) := by decide +kernel
theorem dX2_value_131 : decode cX2_value 131 = .ok (.if_icmp .ge 5, 3) := by decide +kernel
theorem dX2_value_134 : decode cX2_value 134 = .ok (.iconst 0, 1) := by decide +kernel
theorem dX2_value_135 : decode cX2_value 135 = .ok (.ireturn, 1) := by decide +kernel
theorem dX2_value_136 : decode cX2_value 136 = .ok (.aload_n 0, 1) := by decide +kernel
theorem dX2_value_137 : decode cX2_value 137 = .ok (.getfield 21, 3) := by decide +kernel
theorem dX2_value_140 : decode cX2_value 140 = .ok (.iload_n 3, 1) := by decide +kernel
theorem dX2_value_141 : decode cX2_value 141 = .ok (.iconst 1, 1) := by decide +kernel
theorem dX2_value_142 : decode cX2_value 142 = .ok (.isub, 1) := by decide +kernel
theorem dX2_value_143 : decode cX2_value 143 = .ok (.iaload, 1) := by decide +kernel
theorem dX2_value_144 : decode cX2_value 144 = .ok (.istore 6, 2) := by decide +kernel
theorem dX2_value_146 : decode cX2_value 146 = .ok (.aload_n 0, 1) := by decide +kernel
theorem dX2_value_147 : decode cX2_value 147 = .ok (.getfield 21, 3) := by decide +kernel
theorem dX2_value_150 : decode cX2_value 150 = .ok (.iload_n 3, 1) := by decide +kernel
theorem dX2_value_151 : decode cX2_value 151 = .ok (.iconst 2, 1) := by decide +kernel
theorem dX2_value_152 : decode cX2_value 152 = .ok (.isub, 1) := by decide +kernel
theorem dX2_value_153 : decode cX2_value 153 = .ok (.iaload, 1) := by decide +kernel
theorem dX2_value_154 : decode cX2_value 154 = .ok (.istore 7, 2) := by decide +kernel
theorem dX2_value_156 : decode cX2_value 156 = .ok (.iinc 3 (-1), 3) := by decide +kernel
theorem dX2_value_159 : decode cX2_value 159 = .ok (.iload 5, 2) := by decide +kernel
theorem dX2_value_161 : decode cX2_value 161 = .ok (.tableswitch 110 42 47 #[71, 39, 110, 55, 110, 87], 39) := by decide +kernel
theorem dX2_value_200 : decode cX2_value 200 = .ok (.aload_n 0, 1) := by decide +kernel
theorem dX2_value_201 : decode cX2_value 201 = .ok (.getfield 21, 3) := by decide +kernel
theorem dX2_value_204 : decode cX2_value 204 = .ok (.iload_n 3, 1) := by decide +kernel
theorem dX2_value_205 : decode cX2_value 205 = .ok (.iconst 1, 1) := by decide +kernel
theorem dX2_value_206 : decode cX2_value 206 = .ok (.isub, 1) := by decide +kernel
theorem dX2_value_207 : decode cX2_value 207 = .ok (.iload 7, 2) := by decide +kernel
theorem dX2_value_209 : decode cX2_value 209 = .ok (.iload 6, 2) := by decide +kernel
theorem dX2_value_211 : decode cX2_value 211 = .ok (.iadd, 1) := by decide +kernel
theorem dX2_value_212 : decode cX2_value 212 = .ok (.iastore, 1) := by decide +kernel
theorem dX2_value_213 : decode cX2_value 213 = .ok (.goto 89, 3) := by decide +kernel
theorem dX2_value_216 : decode cX2_value 216 = .ok (.aload_n 0, 1) := by decide +kernel
theorem dX2_value_217 : decode cX2_value 217 = .ok (.getfield 21, 3) := by decide +kernel
theorem dX2_value_220 : decode cX2_value 220 = .ok (.iload_n 3, 1) := by decide +kernel
theorem dX2_value_221 : decode cX2_value 221 = .ok (.iconst 1, 1) := by decide +kernel
theorem dX2_value_222 : decode cX2_value 222 = .ok (.isub, 1) := by decide +kernel
theorem dX2_value_223 : decode cX2_value 223 = .ok (.iload 7, 2) := by decide +kernel
theorem dX2_value_225 : decode cX2_value 225 = .ok (.iload 6, 2) := by decide +kernel
theorem dX2_value_227 : decode cX2_value 227 = .ok (.isub, 1) := by decide +kernel
theorem dX2_value_228 : decode cX2_value 228 = .ok (.iastore, 1) := by decide +kernel
theorem dX2_value_229 : decode cX2_value 229 = .ok (.goto 73, 3) := by decide +kernel
theorem dX2_value_232 : decode cX2_value 232 = .ok (.aload_n 0, 1) := by decide +kernel
theorem dX2_value_233 : decode cX2_value 233 = .ok (.getfield 21, 3) := by decide +kernel
theorem dX2_value_236 : decode cX2_value 236 = .ok (.iload_n 3, 1) := by decide +kernel
theorem dX2_value_237 : decode cX2_value 237 = .ok (.iconst 1, 1) := by decide +kernel
theorem dX2_value_238 : decode cX2_value 238 = .ok (.isub, 1) := by decide +kernel
theorem dX2_value_239 : decode cX2_value 239 = .ok (.iload 7, 2) := by decide +kernel
theorem dX2_value_241 : decode cX2_value 241 = .ok (.iload 6, 2) := by decide +kernel
theorem dX2_value_243 : decode cX2_value 243 = .ok (.imul, 1) := by decide +kernel
theorem dX2_value_244 : decode cX2_value 244 = .ok (.iastore, 1) := by decide +kernel
theorem dX2_value_245 : decode cX2_value 245 = .ok (.goto 57, 3) := by decide +kernel
theorem dX2_value_248 : decode cX2_value 248 = .ok (.iload 6, 2) := by decide +kernel
theorem dX2_value_250 : decode cX2_value 250 = .ok (.ifCond .ne 5, 3) := by decide +kernel
theorem dX2_value_253 : decode cX2_value 253 = .ok (.iconst 0, 1) := by decide +kernel
theorem dX2_value_254 : decode cX2_value 254 = .ok (.ireturn, 1) := by decide +kernel
theorem dX2_value_255 : decode cX2_value 255 = .ok (.aload_n 0, 1) := by decide +kernel
theorem dX2_value_256 : decode cX2_value 256 = .ok (.getfield 21, 3) := by decide +kernel
theorem dX2_value_259 : decode cX2_value 259 = .ok (.iload_n 3, 1) := by decide +kernel
theorem dX2_value_260 : decode cX2_value 260 = .ok (.iconst 1, 1) := by decide +kernel
theorem dX2_value_261 : decode cX2_value 261 = .ok (.isub, 1) := by decide +kernel
theorem dX2_value_262 : decode cX2_value 262 = .ok (.iload 7, 2) := by decide +kernel
theorem dX2_value_264 : decode cX2_value 264 = .ok (.iload 6, 2) := by decide +kernel
theorem dX2_value_266 : decode cX2_value 266 = .ok (.idiv, 1) := by decide +kernel
theorem dX2_value_267 : decode cX2_value 267 = .ok (.iastore, 1) := by decide +kernel
theorem dX2_value_268 : decode cX2_value 268 = .ok (.goto 34, 3) := by decide +kernel
theorem dX2_value_271 : decode cX2_value 271 = .ok (.iinc 3 (-1), 3) := by decide +kernel
theorem dX2_value_274 : decode cX2_value 274 = .ok (.iload 7, 2) := by decide +kernel
theorem dX2_value_276 : decode cX2_value 276 = .ok (.iload 6, 2) := by decide +kernel
theorem dX2_value_278 : decode cX2_value 278 = .ok (.if_icmp .ge 8, 3) := by decide +kernel
theorem dX2_value_281 : decode cX2_value 281 = .ok (.iload 4, 2) := by decide +kernel
theorem dX2_value_283 : decode cX2_value 283 = .ok (.goto 17, 3) := by decide +kernel
theorem dX2_value_286 : decode cX2_value 286 = .ok (.iload 4, 2) := by decide +kernel
theorem dX2_value_288 : decode cX2_value 288 = .ok (.aload_n 0, 1) := by decide +kernel
theorem dX2_value_289 : decode cX2_value 289 = .ok (.getfield 15, 3) := by decide +kernel
theorem dX2_value_292 : decode cX2_value 292 = .ok (.iload 4, 2) := by decide +kernel
theorem dX2_value_294 : decode cX2_value 294 = .ok (.iaload, 1) := by decide +kernel
theorem dX2_value_295 : decode cX2_value 295 = .ok (.iconst 1, 1) := by decide +kernel
theorem dX2_value_296 : decode cX2_value 296 = .ok (.isub, 1) := by decide +kernel
theorem dX2_value_297 : decode cX2_value 297 = .ok (.invokestatic 59, 3) := by decide +kernel
theorem dX2_value_300 : decode cX2_value 300 = .ok (.istore 4, 2) := by decide +kernel
theorem dX2_value_302 : decode cX2_value 302 = .ok (.iinc 4 1, 3) := by decide +kernel
theorem dX2_value_305 : decode cX2_value 305 = .ok (.goto (-295), 3) := by decide +kernel
theorem dX2_value_308 : decode cX2_value 308 = .ok (.iconst 0, 1) := by decide +kernel
theorem dX2_value_309 : decode cX2_value 309 = .ok (.ireturn, 1) := by decide +kernel
theorem dX3_init_0 : decode cX3_init 0 = .ok (.aload_n 0, 1) := by decide +kernel
theorem dX3_init_1 : decode cX3_init 1 = .ok (.invokespecial 3, 3) := by decide +kernel
theorem dX3_init_4 : decode cX3_init 4 = .ok (.aload_n 0, 1) := by decide +kernel
theorem dX3_init_5 : decode cX3_init 5 = .ok (.bipush 40, 2) := by decide +kernel
theorem dX3_init_7 : decode cX3_init 7 = .ok (.bipush 77, 2) := by decide +kernel
theorem dX3_init_9 : decode cX3_init 9 = .ok (.multianewarray 11 2, 4) := by decide +kernel
theorem dX3_init_13 : decode cX3_init 13 = .ok (.putfield 13, 3) := by decide +kernel
theorem dX3_init_16 : decode cX3_init 16 = .ok (.aload_n 0, 1) := by decide +kernel
theorem dX3_init_17 : decode cX3_init 17 = .ok (.iconst 3, 1) := by decide +kernel
theorem dX3_init_18 : decode cX3_init 18 = .ok (.bipush 77, 2) := by decide +kernel
theorem dX3_init_20 : decode cX3_init 20 = .ok (.multianewarray 11 2, 4) := by decide +kernel
theorem dX3_init_24 : decode cX3_init 24 = .ok (.putfield 18, 3) := by decide +kernel
theorem dX3_init_27 : decode cX3_init 27 = .ok (.aload_n 0, 1) := by decide +kernel
theorem dX3_init_28 : decode cX3_init 28 = .ok (.iconst 0, 1) := by decide +kernel
theorem dX3_init_29 : decode cX3_init 29 = .ok (.putfield 21, 3) := by decide +kernel
theorem dX3_init_32 : decode cX3_init 32 = .ok (.aload_n 0, 1) := by decide +kernel
theorem dX3_init_33 : decode cX3_init 33 = .ok (.iconst 0, 1) := by decide +kernel
theorem dX3_init_34 : decode cX3_init 34 = .ok (.putfield 25, 3) := by decide +kernel
theorem dX3_init_37 : decode cX3_init 37 = .ok (.aload_n 0, 1) := by decide +kernel
theorem dX3_init_38 : decode cX3_init 38 = .ok (.iconst 0, 1) := by decide +kernel
theorem dX3_init_39 : decode cX3_init 39 = .ok (.putfield 28, 3) := by decide +kernel
theorem dX3_init_42 : decode cX3_init 42 = .ok (.return_, 1) := by decide +kernel
theorem dX3_clear_0 : decode cX3_clear 0 = .ok (.aload_n 0, 1) := by decide +kernel
theorem dX3_clear_1 : decode cX3_clear 1 = .ok (.iconst 0, 1) := by decide +kernel
theorem dX3_clear_2 : decode cX3_clear 2 = .ok (.putfield 25, 3) := by decide +kernel
theorem dX3_clear_5 : decode cX3_clear 5 = .ok (.aload_n 0, 1) := by decide +kernel
theorem dX3_clear_6 : decode cX3_clear 6 = .ok (.iconst 0, 1) := by decide +kernel
theorem dX3_clear_7 : decode cX3_clear 7 = .ok (.putfield 28, 3) := by decide +kernel
theorem dX3_clear_10 : decode cX3_clear 10 = .ok (.return_, 1) := by decide +kernel
theorem dX3_keep_0 : decode cX3_keep 0 = .ok (.aload_n 1, 1) := by decide +kernel
theorem dX3_keep_1 : decode cX3_keep 1 = .ok (.getfield 31, 3) := by decide +kernel
theorem dX3_keep_4 : decode cX3_keep 4 = .ok (.aload_n 0, 1) := by decide +kernel
theorem dX3_keep_5 : decode cX3_keep 5 = .ok (.getfield 13, 3) := by decide +kernel
theorem dX3_keep_8 : decode cX3_keep 8 = .ok (.aload_n 0, 1) := by decide +kernel
theorem dX3_keep_9 : decode cX3_keep 9 = .ok (.getfield 21, 3) := by decide +kernel
theorem dX3_keep_12 : decode cX3_keep 12 = .ok (.aaload, 1) := by decide +kernel
theorem dX3_keep_13 : decode cX3_keep 13 = .ok (.invokestatic 35, 3) := by decide +kernel
theorem dX3_keep_16 : decode cX3_keep 16 = .ok (.aload_n 0, 1) := by decide +kernel
theorem dX3_keep_17 : decode cX3_keep 17 = .ok (.aload_n 0, 1) := by decide +kernel
theorem dX3_keep_18 : decode cX3_keep 18 = .ok (.getfield 21, 3) := by decide +kernel
theorem dX3_keep_21 : decode cX3_keep 21 = .ok (.iconst 1, 1) := by decide +kernel
theorem dX3_keep_22 : decode cX3_keep 22 = .ok (.iadd, 1) := by decide +kernel
theorem dX3_keep_23 : decode cX3_keep 23 = .ok (.bipush 40, 2) := by decide +kernel
theorem dX3_keep_25 : decode cX3_keep 25 = .ok (.if_icmp .ge 12, 3) := by decide +kernel
theorem dX3_keep_28 : decode cX3_keep 28 = .ok (.aload_n 0, 1) := by decide +kernel
theorem dX3_keep_29 : decode cX3_keep 29 = .ok (.getfield 21, 3) := by decide +kernel
theorem dX3_keep_32 : decode cX3_keep 32 = .ok (.iconst 1, 1) := by decide +kernel
theorem dX3_keep_33 : decode cX3_keep 33 = .ok (.iadd, 1) := by decide +kernel
theorem dX3_keep_34 : decode cX3_keep 34 = .ok (.goto 4, 3) := by decide +kernel
theorem dX3_keep_37 : decode cX3_keep 37 = .ok (.iconst 0, 1) := by decide +kernel
theorem dX3_keep_38 : decode cX3_keep 38 = .ok (.putfield 21, 3) := by decide +kernel
theorem dX3_keep_41 : decode cX3_keep 41 = .ok (.aload_n 0, 1) := by decide +kernel
theorem dX3_keep_42 : decode cX3_keep 42 = .ok (.aload_n 0, 1) := by decide +kernel
theorem dX3_keep_43 : decode cX3_keep 43 = .ok (.getfield 25, 3) := by decide +kernel
theorem dX3_keep_46 : decode cX3_keep 46 = .ok (.iconst 1, 1) := by decide +kernel
theorem dX3_keep_47 : decode cX3_keep 47 = .ok (.iadd, 1) := by decide +kernel
theorem dX3_keep_48 : decode cX3_keep 48 = .ok (.bipush 40, 2) := by decide +kernel
theorem dX3_keep_50 : decode cX3_keep 50 = .ok (.invokestatic 39, 3) := by decide +kernel
theorem dX3_keep_53 : decode cX3_keep 53 = .ok (.putfield 25, 3) := by decide +kernel
theorem dX3_keep_56 : decode cX3_keep 56 = .ok (.return_, 1) := by decide +kernel
theorem dX3_takeBack_0 : decode cX3_takeBack 0 = .ok (.aload_n 0, 1) := by decide +kernel
theorem dX3_takeBack_1 : decode cX3_takeBack 1 = .ok (.getfield 25, 3) := by decide +kernel
theorem dX3_takeBack_4 : decode cX3_takeBack 4 = .ok (.ifCond .ne 5, 3) := by decide +kernel
theorem dX3_takeBack_7 : decode cX3_takeBack 7 = .ok (.iconst 0, 1) := by decide +kernel
theorem dX3_takeBack_8 : decode cX3_takeBack 8 = .ok (.ireturn, 1) := by decide +kernel
theorem dX3_takeBack_9 : decode cX3_takeBack 9 = .ok (.aload_n 0, 1) := by decide +kernel
theorem dX3_takeBack_10 : decode cX3_takeBack 10 = .ok (.dup, 1) := by decide +kernel
theorem dX3_takeBack_11 : decode cX3_takeBack 11 = .ok (.getfield 25, 3) := by decide +kernel
theorem dX3_takeBack_14 : decode cX3_takeBack 14 = .ok (.iconst 1, 1) := by decide +kernel
theorem dX3_takeBack_15 : decode cX3_takeBack 15 = .ok (.isub, 1) := by decide +kernel
theorem dX3_takeBack_16 : decode cX3_takeBack 16 = .ok (.putfield 25, 3) := by decide +kernel
theorem dX3_takeBack_19 : decode cX3_takeBack 19 = .ok (.aload_n 0, 1) := by decide +kernel
theorem dX3_takeBack_20 : decode cX3_takeBack 20 = .ok (.aload_n 0, 1) := by decide +kernel
theorem dX3_takeBack_21 : decode cX3_takeBack 21 = .ok (.getfield 21, 3) := by decide +kernel
theorem dX3_takeBack_24 : decode cX3_takeBack 24 = .ok (.ifCond .le 12, 3) := by decide +kernel
theorem dX3_takeBack_27 : decode cX3_takeBack 27 = .ok (.aload_n 0, 1) := by decide +kernel
theorem dX3_takeBack_28 : decode cX3_takeBack 28 = .ok (.getfield 21, 3) := by decide +kernel
theorem dX3_takeBack_31 : decode cX3_takeBack 31 = .ok (.iconst 1, 1) := by decide +kernel
theorem dX3_takeBack_32 : decode cX3_takeBack 32 = .ok (.isub, 1) := by decide +kernel
theorem dX3_takeBack_33 : decode cX3_takeBack 33 = .ok (.goto 5, 3) := by decide +kernel
theorem dX3_takeBack_36 : decode cX3_takeBack 36 = .ok (.bipush 39, 2) := by decide +kernel
theorem dX3_takeBack_38 : decode cX3_takeBack 38 = .ok (.putfield 21, 3) := by decide +kernel
theorem dX3_takeBack_41 : decode cX3_takeBack 41 = .ok (.aload_n 0, 1) := by decide +kernel
theorem dX3_takeBack_42 : decode cX3_takeBack 42 = .ok (.getfield 13, 3) := by decide +kernel
theorem dX3_takeBack_45 : decode cX3_takeBack 45 = .ok (.aload_n 0, 1) := by decide +kernel
theorem dX3_takeBack_46 : decode cX3_takeBack 46 = .ok (.getfield 21, 3) := by decide +kernel
theorem dX3_takeBack_49 : decode cX3_takeBack 49 = .ok (.aaload, 1) := by decide +kernel
theorem dX3_takeBack_50 : decode cX3_takeBack 50 = .ok (.aload_n 1, 1) := by decide +kernel
theorem dX3_takeBack_51 : decode cX3_takeBack 51 = .ok (.getfield 31, 3) := by decide +kernel
theorem dX3_takeBack_54 : decode cX3_takeBack 54 = .ok (.invokestatic 35, 3) := by decide +kernel
theorem dX3_takeBack_57 : decode cX3_takeBack 57 = .ok (.iconst 1, 1) := by decide +kernel
theorem dX3_takeBack_58 : decode cX3_takeBack 58 = .ok (.ireturn, 1) := by decide +kernel
theorem dX3_putInSlot_0 : decode cX3_putInSlot 0 = .ok (.aload_n 2, 1) := by decide +kernel
theorem dX3_putInSlot_1 : decode cX3_putInSlot 1 = .ok (.getfield 31, 3) := by decide +kernel
theorem dX3_putInSlot_4 : decode cX3_putInSlot 4 = .ok (.aload_n 0, 1) := by decide +kernel
theorem dX3_putInSlot_5 : decode cX3_putInSlot 5 = .ok (.getfield 18, 3) := by decide +kernel
theorem dX3_putInSlot_8 : decode cX3_putInSlot 8 = .ok (.iload_n 1, 1) := by decide +kernel
theorem dX3_putInSlot_9 : decode cX3_putInSlot 9 = .ok (.aaload, 1) := by decide +kernel
theorem dX3_putInSlot_10 : decode cX3_putInSlot 10 = .ok (.invokestatic 35, 3) := by decide +kernel
theorem dX3_putInSlot_13 : decode cX3_putInSlot 13 = .ok (.aload_n 0, 1) := by decide +kernel
theorem dX3_putInSlot_14 : decode cX3_putInSlot 14 = .ok (.dup, 1) := by decide +kernel
theorem dX3_putInSlot_15 : decode cX3_putInSlot 15 = .ok (.getfield 28, 3) := by decide +kernel
theorem dX3_putInSlot_18 : decode cX3_putInSlot 18 = .ok (.iconst 1, 1) := by decide +kernel
theorem dX3_putInSlot_19 : decode cX3_putInSlot 19 = .ok (.iload_n 1, 1) := by decide +kernel
theorem dX3_putInSlot_20 : decode cX3_putInSlot 20 = .ok (.ishl, 1) := by decide +kernel
theorem dX3_putInSlot_21 : decode cX3_putInSlot 21 = .ok (.ior, 1) := by decide +kernel
theorem dX3_putInSlot_22 : decode cX3_putInSlot 22 = .ok (.putfield 28, 3) := by decide +kernel
theorem dX3_putInSlot_25 : decode cX3_putInSlot 25 = .ok (.return_, 1) := by decide +kernel
theorem dX3_takeFromSlot_0 : decode cX3_takeFromSlot 0 = .ok (.aload_n 0, 1) := by decide +kernel
theorem dX3_takeFromSlot_1 : decode cX3_takeFromSlot 1 = .ok (.getfield 28, 3) := by decide +kernel
theorem dX3_takeFromSlot_4 : decode cX3_takeFromSlot 4 = .ok (.iload_n 1, 1) := by decide +kernel
theorem dX3_takeFromSlot_5 : decode cX3_takeFromSlot 5 = .ok (.ishr, 1) := by decide +kernel
theorem dX3_takeFromSlot_6 : decode cX3_takeFromSlot 6 = .ok (.iconst 1, 1) := by decide +kernel
theorem dX3_takeFromSlot_7 : decode cX3_takeFromSlot 7 = .ok (.iand, 1) := by decide +kernel
theorem dX3_takeFromSlot_8 : decode cX3_takeFromSlot 8 = .ok (.ifCond .ne 5, 3) := by decide +kernel
theorem dX3_takeFromSlot_11 : decode cX3_takeFromSlot 11 = .ok (.iconst 0, 1) := by decide +kernel
theorem dX3_takeFromSlot_12 : decode cX3_takeFromSlot 12 = .ok (.ireturn, 1) := by decide +kernel
theorem dX3_takeFromSlot_13 : decode cX3_takeFromSlot 13 = .ok (.aload_n 0, 1) := by decide +kernel
theorem dX3_takeFromSlot_14 : decode cX3_takeFromSlot 14 = .ok (.getfield 18, 3) := by decide +kernel
theorem dX3_takeFromSlot_17 : decode cX3_takeFromSlot 17 = .ok (.iload_n 1, 1) := by decide +kernel
theorem dX3_takeFromSlot_18 : decode cX3_takeFromSlot 18 = .ok (.aaload, 1) := by decide +kernel
theorem dX3_takeFromSlot_19 : decode cX3_takeFromSlot 19 = .ok (.aload_n 2, 1) := by decide +kernel
theorem dX3_takeFromSlot_20 : decode cX3_takeFromSlot 20 = .ok (.getfield 31, 3) := by decide +kernel
theorem dX3_takeFromSlot_23 : decode cX3_takeFromSlot 23 = .ok (.invokestatic 35, 3) := by decide +kernel
theorem dX3_takeFromSlot_26 : decode cX3_takeFromSlot 26 = .ok (.aload_n 0, 1) := by decide +kernel
theorem dX3_takeFromSlot_27 : decode cX3_takeFromSlot 27 = .ok (.iconst 0, 1) := by decide +kernel
theorem dX3_takeFromSlot_28 : decode cX3_takeFromSlot 28 = .ok (.putfield 25, 3) := by decide +kernel
theorem dX3_takeFromSlot_31 : decode cX3_takeFromSlot 31 = .ok (.iconst 1, 1) := by decide +kernel
theorem dX3_takeFromSlot_32 : decode cX3_takeFromSlot 32 = .ok (.ireturn, 1) := by decide +kernel
theorem dX3_copyRow_0 : decode cX3_copyRow 0 = .ok (.aload_n 0, 1) := by decide +kernel
theorem dX3_copyRow_1 : decode cX3_copyRow 1 = .ok (.iconst 0, 1) := by decide +kernel
theorem dX3_copyRow_2 : decode cX3_copyRow 2 = .ok (.aload_n 1, 1) := by decide +kernel
theorem dX3_copyRow_3 : decode cX3_copyRow 3 = .ok (.iconst 0, 1) := by decide +kernel
theorem dX3_copyRow_4 : decode cX3_copyRow 4 = .ok (.bipush 77, 2) := by decide +kernel
theorem dX3_copyRow_6 : decode cX3_copyRow 6 = .ok (.invokestatic 45, 3) := by decide +kernel
theorem dX3_copyRow_9 : decode cX3_copyRow 9 = .ok (.return_, 1) := by decide +kernel
theorem dX4_init_0 : decode cX4_init 0 = .ok (.aload_n 0, 1) := by decide +kernel
theorem dX4_init_1 : decode cX4_init 1 = .ok (.invokespecial 3, 3) := by decide +kernel
theorem dX4_init_4 : decode cX4_init 4 = .ok (.aload_n 0, 1) := by decide +kernel
theorem dX4_init_5 : decode cX4_init 5 = .ok (.new 9, 3) := by decide +kernel
theorem dX4_init_8 : decode cX4_init 8 = .ok (.dup, 1) := by decide +kernel
theorem dX4_init_9 : decode cX4_init 9 = .ok (.invokespecial 11, 3) := by decide +kernel
theorem dX4_init_12 : decode cX4_init 12 = .ok (.putfield 12, 3) := by decide +kernel
theorem dX4_init_15 : decode cX4_init 15 = .ok (.aload_n 0, 1) := by decide +kernel
theorem dX4_init_16 : decode cX4_init 16 = .ok (.new 18, 3) := by decide +kernel
theorem dX4_init_19 : decode cX4_init 19 = .ok (.dup, 1) := by decide +kernel
theorem dX4_init_20 : decode cX4_init 20 = .ok (.invokespecial 20, 3) := by decide +kernel
theorem dX4_init_23 : decode cX4_init 23 = .ok (.putfield 21, 3) := by decide +kernel
theorem dX4_init_26 : decode cX4_init 26 = .ok (.aload_n 0, 1) := by decide +kernel
theorem dX4_init_27 : decode cX4_init 27 = .ok (.new 25, 3) := by decide +kernel
theorem dX4_init_30 : decode cX4_init 30 = .ok (.dup, 1) := by decide +kernel
theorem dX4_init_31 : decode cX4_init 31 = .ok (.invokespecial 27, 3) := by decide +kernel
theorem dX4_init_34 : decode cX4_init 34 = .ok (.putfield 28, 3) := by decide +kernel
theorem dX4_init_37 : decode cX4_init 37 = .ok (.aload_n 0, 1) := by decide +kernel
theorem dX4_init_38 : decode cX4_init 38 = .ok (.iconst (-1), 1) := by decide +kernel
theorem dX4_init_39 : decode cX4_init 39 = .ok (.putfield 32, 3) := by decide +kernel
theorem dX4_init_42 : decode cX4_init 42 = .ok (.return_, 1) := by decide +kernel
theorem dX4_faultOf_0 : decode cX4_faultOf 0 = .ok (.aload_n 0, 1) := by decide +kernel
theorem dX4_faultOf_1 : decode cX4_faultOf 1 = .ok (.aload_n 1, 1) := by decide +kernel
theorem dX4_faultOf_2 : decode cX4_faultOf 2 = .ok (.iload_n 2, 1) := by decide +kernel
theorem dX4_faultOf_3 : decode cX4_faultOf 3 = .ok (.invokevirtual 36, 3) := by decide +kernel
theorem dX4_faultOf_6 : decode cX4_faultOf 6 = .ok (.istore_n 3, 1) := by decide +kernel
theorem dX4_faultOf_7 : decode cX4_faultOf 7 = .ok (.iload_n 3, 1) := by decide +kernel
theorem dX4_faultOf_8 : decode cX4_faultOf 8 = .ok (.ifCond .ne 9, 3) := by decide +kernel
theorem dX4_faultOf_11 : decode cX4_faultOf 11 = .ok (.aload_n 0, 1) := by decide +kernel
theorem dX4_faultOf_12 : decode cX4_faultOf 12 = .ok (.iload_n 2, 1) := by decide +kernel
theorem dX4_faultOf_13 : decode cX4_faultOf 13 = .ok (.invokevirtual 40, 3) := by decide +kernel
theorem dX4_faultOf_16 : decode cX4_faultOf 16 = .ok (.istore_n 3, 1) := by decide +kernel
theorem dX4_faultOf_17 : decode cX4_faultOf 17 = .ok (.iload_n 3, 1) := by decide +kernel
theorem dX4_faultOf_18 : decode cX4_faultOf 18 = .ok (.ifCond .ne 8, 3) := by decide +kernel
theorem dX4_faultOf_21 : decode cX4_faultOf 21 = .ok (.aload_n 0, 1) := by decide +kernel
theorem dX4_faultOf_22 : decode cX4_faultOf 22 = .ok (.iconst (-1), 1) := by decide +kernel
theorem dX4_faultOf_23 : decode cX4_faultOf 23 = .ok (.putfield 32, 3) := by decide +kernel
theorem dX4_faultOf_26 : decode cX4_faultOf 26 = .ok (.iload_n 3, 1) := by decide +kernel
theorem dX4_faultOf_27 : decode cX4_faultOf 27 = .ok (.ireturn, 1) := by decide +kernel
theorem dX4_faultOfForm_0 : decode cX4_faultOfForm 0 = .ok (.aload_n 0, 1) := by decide +kernel
theorem dX4_faultOfForm_1 : decode cX4_faultOfForm 1 = .ok (.getfield 21, 3) := by decide +kernel
theorem dX4_faultOfForm_4 : decode cX4_faultOfForm 4 = .ok (.invokevirtual 44, 3) := by decide +kernel
theorem dX4_faultOfForm_7 : decode cX4_faultOfForm 7 = .ok (.aload_n 0, 1) := by decide +kernel
theorem dX4_faultOfForm_8 : decode cX4_faultOfForm 8 = .ok (.getfield 28, 3) := by decide +kernel
theorem dX4_faultOfForm_11 : decode cX4_faultOfForm 11 = .ok (.iconst 0, 1) := by decide +kernel
theorem dX4_faultOfForm_12 : decode cX4_faultOfForm 12 = .ok (.putfield 47, 3) := by decide +kernel
theorem dX4_faultOfForm_15 : decode cX4_faultOfForm 15 = .ok (.iconst 0, 1) := by decide +kernel
theorem dX4_faultOfForm_16 : decode cX4_faultOfForm 16 = .ok (.istore_n 3, 1) := by decide +kernel
theorem dX4_faultOfForm_17 : decode cX4_faultOfForm 17 = .ok (.iconst 0, 1) := by decide +kernel
theorem dX4_faultOfForm_18 : decode cX4_faultOfForm 18 = .ok (.istore 4, 2) := by decide +kernel
theorem dX4_faultOfForm_20 : decode cX4_faultOfForm 20 = .ok (.iload 4, 2) := by decide +kernel
theorem dX4_faultOfForm_22 : decode cX4_faultOfForm 22 = .ok (.sipush 400, 3) := by decide +kernel
theorem dX4_faultOfForm_25 : decode cX4_faultOfForm 25 = .ok (.if_icmp .gt 117, 3) := by decide +kernel
theorem dX4_faultOfForm_28 : decode cX4_faultOfForm 28 = .ok (.aload_n 0, 1) := by decide +kernel
theorem dX4_faultOfForm_29 : decode cX4_faultOfForm 29 = .ok (.getfield 12, 3) := by decide +kernel
theorem dX4_faultOfForm_32 : decode cX4_faultOfForm 32 = .ok (.aload_n 1, 1) := by decide +kernel
theorem dX4_faultOfForm_33 : decode cX4_faultOfForm 33 = .ok (.iload_n 2, 1) := by decide +kernel
theorem dX4_faultOfForm_34 : decode cX4_faultOfForm 34 = .ok (.iload_n 3, 1) := by decide +kernel
theorem dX4_faultOfForm_35 : decode cX4_faultOfForm 35 = .ok (.invokevirtual 50, 3) := by decide +kernel
theorem dX4_faultOfForm_38 : decode cX4_faultOfForm 38 = .ok (.aload_n 0, 1) := by decide +kernel
theorem dX4_faultOfForm_39 : decode cX4_faultOfForm 39 = .ok (.aload_n 0, 1) := by decide +kernel
theorem dX4_faultOfForm_40 : decode cX4_faultOfForm 40 = .ok (.getfield 12, 3) := by decide +kernel
theorem dX4_faultOfForm_43 : decode cX4_faultOfForm 43 = .ok (.getfield 54, 3) := by decide +kernel
theorem dX4_faultOfForm_46 : decode cX4_faultOfForm 46 = .ok (.putfield 32, 3) := by decide +kernel
theorem dX4_faultOfForm_49 : decode cX4_faultOfForm 49 = .ok (.aload_n 0, 1) := by decide +kernel
theorem dX4_faultOfForm_50 : decode cX4_faultOfForm 50 = .ok (.getfield 12, 3) := by decide +kernel
theorem dX4_faultOfForm_53 : decode cX4_faultOfForm 53 = .ok (.getfield 55, 3) := by decide +kernel
theorem dX4_faultOfForm_56 : decode cX4_faultOfForm 56 = .ok (.iconst 3, 1) := by decide +kernel
theorem dX4_faultOfForm_57 : decode cX4_faultOfForm 57 = .ok (.if_icmp .ne 19, 3) := by decide +kernel
theorem dX4_faultOfForm_60 : decode cX4_faultOfForm 60 = .ok (.aload_n 0, 1) := by decide +kernel
theorem dX4_faultOfForm_61 : decode cX4_faultOfForm 61 = .ok (.getfield 21, 3) := by decide +kernel
theorem dX4_faultOfForm_64 : decode cX4_faultOfForm 64 = .ok (.invokevirtual 58, 3) := by decide +kernel
theorem dX4_faultOfForm_67 : decode cX4_faultOfForm 67 = .ok (.ifCond .eq 7, 3) := by decide +kernel
theorem dX4_faultOfForm_70 : decode cX4_faultOfForm 70 = .ok (.iconst 0, 1) := by decide +kernel
theorem dX4_faultOfForm_71 : decode cX4_faultOfForm 71 = .ok (.goto 4, 3) := by decide +kernel
theorem dX4_faultOfForm_74 : decode cX4_faultOfForm 74 = .ok (.iconst 1, 1) := by decide +kernel
theorem dX4_faultOfForm_75 : decode cX4_faultOfForm 75 = .ok (.ireturn, 1) := by decide +kernel
theorem dX4_faultOfForm_76 : decode cX4_faultOfForm 76 = .ok (.aload_n 0, 1) := by decide +kernel
theorem dX4_faultOfForm_77 : decode cX4_faultOfForm 77 = .ok (.getfield 21, 3) := by decide +kernel
theorem dX4_faultOfForm_80 : decode cX4_faultOfForm 80 = .ok (.aload_n 0, 1) := by decide +kernel
theorem dX4_faultOfForm_81 : decode cX4_faultOfForm 81 = .ok (.getfield 12, 3) := by decide +kernel
theorem dX4_faultOfForm_84 : decode cX4_faultOfForm 84 = .ok (.getfield 55, 3) := by decide +kernel
theorem dX4_faultOfForm_87 : decode cX4_faultOfForm 87 = .ok (.invokevirtual 62, 3) := by decide +kernel
theorem dX4_faultOfForm_90 : decode cX4_faultOfForm 90 = .ok (.istore 5, 2) := by decide +kernel
theorem dX4_faultOfForm_92 : decode cX4_faultOfForm 92 = .ok (.iload 5, 2) := by decide +kernel
theorem dX4_faultOfForm_94 : decode cX4_faultOfForm 94 = .ok (.ifCond .eq 6, 3) := by decide +kernel
theorem dX4_faultOfForm_97 : decode cX4_faultOfForm 97 = .ok (.iload 5, 2) := by decide +kernel
theorem dX4_faultOfForm_99 : decode cX4_faultOfForm 99 = .ok (.ireturn, 1) := by decide +kernel
theorem dX4_faultOfForm_100 : decode cX4_faultOfForm 100 = .ok (.aload_n 0, 1) := by decide +kernel
theorem dX4_faultOfForm_101 : decode cX4_faultOfForm 101 = .ok (.getfield 28, 3) := by decide +kernel
theorem dX4_faultOfForm_104 : decode cX4_faultOfForm 104 = .ok (.aload_n 0, 1) := by decide +kernel
theorem dX4_faultOfForm_105 : decode cX4_faultOfForm 105 = .ok (.getfield 12, 3) := by decide +kernel
theorem dX4_faultOfForm_108 : decode cX4_faultOfForm 108 = .ok (.getfield 55, 3) := by decide +kernel
theorem dX4_faultOfForm_111 : decode cX4_faultOfForm 111 = .ok (.aload_n 0, 1) := by decide +kernel
theorem dX4_faultOfForm_112 : decode cX4_faultOfForm 112 = .ok (.getfield 12, 3) := by decide +kernel
theorem dX4_faultOfForm_115 : decode cX4_faultOfForm 115 = .ok (.getfield 65, 3) := by decide +kernel
theorem dX4_faultOfForm_118 : decode cX4_faultOfForm 118 = .ok (.aload_n 0, 1) := by decide +kernel
theorem dX4_faultOfForm_119 : decode cX4_faultOfForm 119 = .ok (.getfield 12, 3) := by decide +kernel
theorem dX4_faultOfForm_122 : decode cX4_faultOfForm 122 = .ok (.getfield 54, 3) := by decide +kernel
theorem dX4_faultOfForm_125 : decode cX4_faultOfForm 125 = .ok (.invokevirtual 69, 3) := by decide +kernel
theorem dX4_faultOfForm_128 : decode cX4_faultOfForm 128 = .ok (.aload_n 0, 1) := by decide +kernel
theorem dX4_faultOfForm_129 : decode cX4_faultOfForm 129 = .ok (.getfield 12, 3) := by decide +kernel
theorem dX4_faultOfForm_132 : decode cX4_faultOfForm 132 = .ok (.getfield 73, 3) := by decide +kernel
theorem dX4_faultOfForm_135 : decode cX4_faultOfForm 135 = .ok (.istore_n 3, 1) := by decide +kernel
theorem dX4_faultOfForm_136 : decode cX4_faultOfForm 136 = .ok (.iinc 4 1, 3) := by decide +kernel
theorem dX4_faultOfForm_139 : decode cX4_faultOfForm 139 = .ok (.goto (-119), 3) := by decide +kernel
theorem dX4_faultOfForm_142 : decode cX4_faultOfForm 142 = .ok (.iconst 2, 1) := by decide +kernel
theorem dX4_faultOfForm_143 : decode cX4_faultOfForm 143 = .ok (.ireturn, 1) := by decide +kernel
theorem dX4_faultOfSense_0 : decode cX4_faultOfSense 0 = .ok (.iconst 2, 1) := by decide +kernel
theorem dX4_faultOfSense_1 : decode cX4_faultOfSense 1 = .ok (.istore_n 2, 1) := by decide +kernel
theorem dX4_faultOfSense_2 : decode cX4_faultOfSense 2 = .ok (.iconst 0, 1) := by decide +kernel
theorem dX4_faultOfSense_3 : decode cX4_faultOfSense 3 = .ok (.istore_n 3, 1) := by decide +kernel
theorem dX4_faultOfSense_4 : decode cX4_faultOfSense 4 = .ok (.iconst 0, 1) := by decide +kernel
theorem dX4_faultOfSense_5 : decode cX4_faultOfSense 5 = .ok (.istore 4, 2) := by decide +kernel
theorem dX4_faultOfSense_7 : decode cX4_faultOfSense 7 = .ok (.iload 4, 2) := by decide +kernel
theorem dX4_faultOfSense_9 : decode cX4_faultOfSense 9 = .ok (.aload_n 0, 1) := by decide +kernel
theorem dX4_faultOfSense_10 : decode cX4_faultOfSense 10 = .ok (.getfield 28, 3) := by decide +kernel
theorem dX4_faultOfSense_13 : decode cX4_faultOfSense 13 = .ok (.getfield 47, 3) := by decide +kernel
theorem dX4_faultOfSense_16 : decode cX4_faultOfSense 16 = .ok (.if_icmp .ge 102, 3) := by decide +kernel
theorem dX4_faultOfSense_19 : decode cX4_faultOfSense 19 = .ok (.aload_n 0, 1) := by decide +kernel
theorem dX4_faultOfSense_20 : decode cX4_faultOfSense 20 = .ok (.getfield 28, 3) := by decide +kernel
theorem dX4_faultOfSense_23 : decode cX4_faultOfSense 23 = .ok (.iload 4, 2) := by decide +kernel
theorem dX4_faultOfSense_25 : decode cX4_faultOfSense 25 = .ok (.invokevirtual 76, 3) := by decide +kernel
theorem dX4_faultOfSense_28 : decode cX4_faultOfSense 28 = .ok (.istore 5, 2) := by decide +kernel
theorem dX4_faultOfSense_30 : decode cX4_faultOfSense 30 = .ok (.iload 5, 2) := by decide +kernel
theorem dX4_faultOfSense_32 : decode cX4_faultOfSense 32 = .ok (.ifCond .lt 80, 3) := by decide +kernel
theorem dX4_faultOfSense_35 : decode cX4_faultOfSense 35 = .ok (.iload 5, 2) := by decide +kernel
theorem dX4_faultOfSense_37 : decode cX4_faultOfSense 37 = .ok (.iconst 5, 1) := by decide +kernel
theorem dX4_faultOfSense_38 : decode cX4_faultOfSense 38 = .ok (.if_icmp .lt 6, 3) := by decide +kernel
theorem dX4_faultOfSense_41 : decode cX4_faultOfSense 41 = .ok (.goto 71, 3) := by decide +kernel
theorem dX4_faultOfSense_44 : decode cX4_faultOfSense 44 = .ok (.aload_n 0, 1) := by decide +kernel
theorem dX4_faultOfSense_45 : decode cX4_faultOfSense 45 = .ok (.iload 4, 2) := by decide +kernel
theorem dX4_faultOfSense_47 : decode cX4_faultOfSense 47 = .ok (.iload 5, 2) := by decide +kernel
theorem dX4_faultOfSense_49 : decode cX4_faultOfSense 49 = .ok (.invokevirtual 79, 3) := by decide +kernel
theorem dX4_faultOfSense_52 : decode cX4_faultOfSense 52 = .ok (.istore 6, 2) := by decide +kernel
theorem dX4_faultOfSense_54 : decode cX4_faultOfSense 54 = .ok (.iload 6, 2) := by decide +kernel
theorem dX4_faultOfSense_56 : decode cX4_faultOfSense 56 = .ok (.ifCond .eq 6, 3) := by decide +kernel
theorem dX4_faultOfSense_59 : decode cX4_faultOfSense 59 = .ok (.iload 6, 2) := by decide +kernel
theorem dX4_faultOfSense_61 : decode cX4_faultOfSense 61 = .ok (.ireturn, 1) := by decide +kernel
theorem dX4_faultOfSense_62 : decode cX4_faultOfSense 62 = .ok (.iload 5, 2) := by decide +kernel
theorem dX4_faultOfSense_64 : decode cX4_faultOfSense 64 = .ok (.ifCond .ne 19, 3) := by decide +kernel
theorem dX4_faultOfSense_67 : decode cX4_faultOfSense 67 = .ok (.aload_n 0, 1) := by decide +kernel
theorem dX4_faultOfSense_68 : decode cX4_faultOfSense 68 = .ok (.getfield 28, 3) := by decide +kernel
theorem dX4_faultOfSense_71 : decode cX4_faultOfSense 71 = .ok (.iload 4, 2) := by decide +kernel
theorem dX4_faultOfSense_73 : decode cX4_faultOfSense 73 = .ok (.iconst 1, 1) := by decide +kernel
theorem dX4_faultOfSense_74 : decode cX4_faultOfSense 74 = .ok (.iadd, 1) := by decide +kernel
theorem dX4_faultOfSense_75 : decode cX4_faultOfSense 75 = .ok (.invokevirtual 83, 3) := by decide +kernel
theorem dX4_faultOfSense_78 : decode cX4_faultOfSense 78 = .ok (.l2i, 1) := by decide +kernel
theorem dX4_faultOfSense_79 : decode cX4_faultOfSense 79 = .ok (.istore_n 2, 1) := by decide +kernel
theorem dX4_faultOfSense_80 : decode cX4_faultOfSense 80 = .ok (.goto 32, 3) := by decide +kernel
theorem dX4_faultOfSense_83 : decode cX4_faultOfSense 83 = .ok (.iload 5, 2) := by decide +kernel
theorem dX4_faultOfSense_85 : decode cX4_faultOfSense 85 = .ok (.iconst 1, 1) := by decide +kernel
theorem dX4_faultOfSense_86 : decode cX4_faultOfSense 86 = .ok (.if_icmp .eq 9, 3) := by decide +kernel
theorem dX4_faultOfSense_89 : decode cX4_faultOfSense 89 = .ok (.iload 5, 2) := by decide +kernel
theorem dX4_faultOfSense_91 : decode cX4_faultOfSense 91 = .ok (.iconst 3, 1) := by decide +kernel
theorem dX4_faultOfSense_92 : decode cX4_faultOfSense 92 = .ok (.if_icmp .ne 20, 3) := by decide +kernel
theorem dX4_faultOfSense_95 : decode cX4_faultOfSense 95 = .ok (.iload_n 3, 1) := by decide +kernel
theorem dX4_faultOfSense_96 : decode cX4_faultOfSense 96 = .ok (.aload_n 0, 1) := by decide +kernel
theorem dX4_faultOfSense_97 : decode cX4_faultOfSense 97 = .ok (.getfield 28, 3) := by decide +kernel
theorem dX4_faultOfSense_100 : decode cX4_faultOfSense 100 = .ok (.iload 4, 2) := by decide +kernel
theorem dX4_faultOfSense_102 : decode cX4_faultOfSense 102 = .ok (.iconst 2, 1) := by decide +kernel
theorem dX4_faultOfSense_103 : decode cX4_faultOfSense 103 = .ok (.iadd, 1) := by decide +kernel
theorem dX4_faultOfSense_104 : decode cX4_faultOfSense 104 = .ok (.invokevirtual 83, 3) := by decide +kernel
theorem dX4_faultOfSense_107 : decode cX4_faultOfSense 107 = .ok (.l2i, 1) := by decide +kernel
theorem dX4_faultOfSense_108 : decode cX4_faultOfSense 108 = .ok (.invokestatic 87, 3) := by decide +kernel
theorem dX4_faultOfSense_111 : decode cX4_faultOfSense 111 = .ok (.istore_n 3, 1) := by decide +kernel
theorem dX4_faultOfSense_112 : decode cX4_faultOfSense 112 = .ok (.iinc 4 1, 3) := by decide +kernel
theorem dX4_faultOfSense_115 : decode cX4_faultOfSense 115 = .ok (.goto (-108), 3) := by decide +kernel
theorem dX4_faultOfSense_118 : decode cX4_faultOfSense 118 = .ok (.aload_n 0, 1) := by decide +kernel
theorem dX4_faultOfSense_119 : decode cX4_faultOfSense 119 = .ok (.iload_n 1, 1) := by decide +kernel
theorem dX4_faultOfSense_120 : decode cX4_faultOfSense 120 = .ok (.putfield 32, 3) := by decide +kernel
theorem dX4_faultOfSense_123 : decode cX4_faultOfSense 123 = .ok (.iload_n 3, 1) := by decide +kernel
theorem dX4_faultOfSense_124 : decode cX4_faultOfSense 124 = .ok (.iload_n 2, 1) := by decide +kernel
theorem dX4_faultOfSense_125 : decode cX4_faultOfSense 125 = .ok (.if_icmp .lt 7, 3) := by decide +kernel
theorem dX4_faultOfSense_128 : decode cX4_faultOfSense 128 = .ok (.iconst 5, 1) := by decide +kernel
theorem dX4_faultOfSense_129 : decode cX4_faultOfSense 129 = .ok (.goto 4, 3) := by decide +kernel
theorem dX4_faultOfSense_132 : decode cX4_faultOfSense 132 = .ok (.iconst 0, 1) := by decide +kernel
theorem dX4_faultOfSense_133 : decode cX4_faultOfSense 133 = .ok (.ireturn, 1) := by decide +kernel
theorem dX4_faultOfTell_0 : decode cX4_faultOfTell 0 = .ok (.iload_n 1, 1) := by decide +kernel
theorem dX4_faultOfTell_1 : decode cX4_faultOfTell 1 = .ok (.iconst 1, 1) := by decide +kernel
theorem dX4_faultOfTell_2 : decode cX4_faultOfTell 2 = .ok (.iadd, 1) := by decide +kernel
theorem dX4_faultOfTell_3 : decode cX4_faultOfTell 3 = .ok (.getstatic 92, 3) := by decide +kernel
theorem dX4_faultOfTell_6 : decode cX4_faultOfTell 6 = .ok (.iload_n 2, 1) := by decide +kernel
theorem dX4_faultOfTell_7 : decode cX4_faultOfTell 7 = .ok (.iaload, 1) := by decide +kernel
theorem dX4_faultOfTell_8 : decode cX4_faultOfTell 8 = .ok (.iadd, 1) := by decide +kernel
theorem dX4_faultOfTell_9 : decode cX4_faultOfTell 9 = .ok (.istore_n 3, 1) := by decide +kernel
theorem dX4_faultOfTell_10 : decode cX4_faultOfTell 10 = .ok (.getstatic 92, 3) := by decide +kernel
theorem dX4_faultOfTell_13 : decode cX4_faultOfTell 13 = .ok (.iload_n 2, 1) := by decide +kernel
theorem dX4_faultOfTell_14 : decode cX4_faultOfTell 14 = .ok (.iaload, 1) := by decide +kernel
theorem dX4_faultOfTell_15 : decode cX4_faultOfTell 15 = .ok (.ifCond .le 32, 3) := by decide +kernel
theorem dX4_faultOfTell_18 : decode cX4_faultOfTell 18 = .ok (.aload_n 0, 1) := by decide +kernel
theorem dX4_faultOfTell_19 : decode cX4_faultOfTell 19 = .ok (.getfield 28, 3) := by decide +kernel
theorem dX4_faultOfTell_22 : decode cX4_faultOfTell 22 = .ok (.iload_n 1, 1) := by decide +kernel
theorem dX4_faultOfTell_23 : decode cX4_faultOfTell 23 = .ok (.iconst 1, 1) := by decide +kernel
theorem dX4_faultOfTell_24 : decode cX4_faultOfTell 24 = .ok (.iadd, 1) := by decide +kernel
theorem dX4_faultOfTell_25 : decode cX4_faultOfTell 25 = .ok (.invokevirtual 96, 3) := by decide +kernel
theorem dX4_faultOfTell_28 : decode cX4_faultOfTell 28 = .ok (.ifCond .eq 19, 3) := by decide +kernel
theorem dX4_faultOfTell_31 : decode cX4_faultOfTell 31 = .ok (.aload_n 0, 1) := by decide +kernel
theorem dX4_faultOfTell_32 : decode cX4_faultOfTell 32 = .ok (.aload_n 0, 1) := by decide +kernel
theorem dX4_faultOfTell_33 : decode cX4_faultOfTell 33 = .ok (.getfield 28, 3) := by decide +kernel
theorem dX4_faultOfTell_36 : decode cX4_faultOfTell 36 = .ok (.iload_n 1, 1) := by decide +kernel
theorem dX4_faultOfTell_37 : decode cX4_faultOfTell 37 = .ok (.iconst 1, 1) := by decide +kernel
theorem dX4_faultOfTell_38 : decode cX4_faultOfTell 38 = .ok (.iadd, 1) := by decide +kernel
theorem dX4_faultOfTell_39 : decode cX4_faultOfTell 39 = .ok (.invokevirtual 100, 3) := by decide +kernel
theorem dX4_faultOfTell_42 : decode cX4_faultOfTell 42 = .ok (.putfield 32, 3) := by decide +kernel
theorem dX4_faultOfTell_45 : decode cX4_faultOfTell 45 = .ok (.iconst 3, 1) := by decide +kernel
theorem dX4_faultOfTell_46 : decode cX4_faultOfTell 46 = .ok (.ireturn, 1) := by decide +kernel
theorem dX4_faultOfTell_47 : decode cX4_faultOfTell 47 = .ok (.iconst 0, 1) := by decide +kernel
theorem dX4_faultOfTell_48 : decode cX4_faultOfTell 48 = .ok (.istore 4, 2) := by decide +kernel
theorem dX4_faultOfTell_50 : decode cX4_faultOfTell 50 = .ok (.iload 4, 2) := by decide +kernel
theorem dX4_faultOfTell_52 : decode cX4_faultOfTell 52 = .ok (.getstatic 103, 3) := by decide +kernel
theorem dX4_faultOfTell_55 : decode cX4_faultOfTell 55 = .ok (.iload_n 2, 1) := by decide +kernel
theorem dX4_faultOfTell_56 : decode cX4_faultOfTell 56 = .ok (.iaload, 1) := by decide +kernel
theorem dX4_faultOfTell_57 : decode cX4_faultOfTell 57 = .ok (.if_icmp .ge 73, 3) := by decide +kernel
theorem dX4_faultOfTell_60 : decode cX4_faultOfTell 60 = .ok (.aload_n 0, 1) := by decide +kernel
theorem dX4_faultOfTell_61 : decode cX4_faultOfTell 61 = .ok (.getfield 28, 3) := by decide +kernel
theorem dX4_faultOfTell_64 : decode cX4_faultOfTell 64 = .ok (.iload_n 3, 1) := by decide +kernel
theorem dX4_faultOfTell_65 : decode cX4_faultOfTell 65 = .ok (.iload 4, 2) := by decide +kernel
theorem dX4_faultOfTell_67 : decode cX4_faultOfTell 67 = .ok (.iadd, 1) := by decide +kernel
theorem dX4_faultOfTell_68 : decode cX4_faultOfTell 68 = .ok (.invokevirtual 83, 3) := by decide +kernel
theorem dX4_faultOfTell_71 : decode cX4_faultOfTell 71 = .ok (.lstore 5, 2) := by decide +kernel
theorem dX4_faultOfTell_73 : decode cX4_faultOfTell 73 = .ok (.lload 5, 2) := by decide +kernel
theorem dX4_faultOfTell_75 : decode cX4_faultOfTell 75 = .ok (.getstatic 106, 3) := by decide +kernel
theorem dX4_faultOfTell_78 : decode cX4_faultOfTell 78 = .ok (.iload_n 2, 1) := by decide +kernel
theorem dX4_faultOfTell_79 : decode cX4_faultOfTell 79 = .ok (.iconst 4, 1) := by decide +kernel
theorem dX4_faultOfTell_80 : decode cX4_faultOfTell 80 = .ok (.imul, 1) := by decide +kernel
theorem dX4_faultOfTell_81 : decode cX4_faultOfTell 81 = .ok (.iload 4, 2) := by decide +kernel
theorem dX4_faultOfTell_83 : decode cX4_faultOfTell 83 = .ok (.iadd, 1) := by decide +kernel
theorem dX4_faultOfTell_84 : decode cX4_faultOfTell 84 = .ok (.iaload, 1) := by decide +kernel
theorem dX4_faultOfTell_85 : decode cX4_faultOfTell 85 = .ok (.i2l, 1) := by decide +kernel
theorem dX4_faultOfTell_86 : decode cX4_faultOfTell 86 = .ok (.lcmp, 1) := by decide +kernel
theorem dX4_faultOfTell_87 : decode cX4_faultOfTell 87 = .ok (.ifCond .lt 20, 3) := by decide +kernel
theorem dX4_faultOfTell_90 : decode cX4_faultOfTell 90 = .ok (.lload 5, 2) := by decide +kernel
theorem dX4_faultOfTell_92 : decode cX4_faultOfTell 92 = .ok (.getstatic 109, 3) := by decide +kernel
theorem dX4_faultOfTell_95 : decode cX4_faultOfTell 95 = .ok (.iload_n 2, 1) := by decide +kernel
theorem dX4_faultOfTell_96 : decode cX4_faultOfTell 96 = .ok (.iconst 4, 1) := by decide +kernel
theorem dX4_faultOfTell_97 : decode cX4_faultOfTell 97 = .ok (.imul, 1) := by decide +kernel
theorem dX4_faultOfTell_98 : decode cX4_faultOfTell 98 = .ok (.iload 4, 2) := by decide +kernel
theorem dX4_faultOfTell_100 : decode cX4_faultOfTell 100 = .ok (.iadd, 1) := by decide +kernel
theorem dX4_faultOfTell_101 : decode cX4_faultOfTell 101 = .ok (.iaload, 1) := by decide +kernel
theorem dX4_faultOfTell_102 : decode cX4_faultOfTell 102 = .ok (.i2l, 1) := by decide +kernel
theorem dX4_faultOfTell_103 : decode cX4_faultOfTell 103 = .ok (.lcmp, 1) := by decide +kernel
theorem dX4_faultOfTell_104 : decode cX4_faultOfTell 104 = .ok (.ifCond .le 20, 3) := by decide +kernel
theorem dX4_faultOfTell_107 : decode cX4_faultOfTell 107 = .ok (.aload_n 0, 1) := by decide +kernel
theorem dX4_faultOfTell_108 : decode cX4_faultOfTell 108 = .ok (.aload_n 0, 1) := by decide +kernel
theorem dX4_faultOfTell_109 : decode cX4_faultOfTell 109 = .ok (.getfield 28, 3) := by decide +kernel
theorem dX4_faultOfTell_112 : decode cX4_faultOfTell 112 = .ok (.iload_n 3, 1) := by decide +kernel
theorem dX4_faultOfTell_113 : decode cX4_faultOfTell 113 = .ok (.iload 4, 2) := by decide +kernel
theorem dX4_faultOfTell_115 : decode cX4_faultOfTell 115 = .ok (.iadd, 1) := by decide +kernel
theorem dX4_faultOfTell_116 : decode cX4_faultOfTell 116 = .ok (.invokevirtual 100, 3) := by decide +kernel
theorem dX4_faultOfTell_119 : decode cX4_faultOfTell 119 = .ok (.putfield 32, 3) := by decide +kernel
theorem dX4_faultOfTell_122 : decode cX4_faultOfTell 122 = .ok (.iconst 5, 1) := by decide +kernel
theorem dX4_faultOfTell_123 : decode cX4_faultOfTell 123 = .ok (.ireturn, 1) := by decide +kernel
theorem dX4_faultOfTell_124 : decode cX4_faultOfTell 124 = .ok (.iinc 4 1, 3) := by decide +kernel
theorem dX4_faultOfTell_127 : decode cX4_faultOfTell 127 = .ok (.goto (-77), 3) := by decide +kernel
theorem dX4_faultOfTell_130 : decode cX4_faultOfTell 130 = .ok (.iconst 0, 1) := by decide +kernel
theorem dX4_faultOfTell_131 : decode cX4_faultOfTell 131 = .ok (.ireturn, 1) := by decide +kernel
theorem dX5_init_0 : decode cX5_init 0 = .ok (.aload_n 0, 1) := by decide +kernel
theorem dX5_init_1 : decode cX5_init 1 = .ok (.invokespecial 3, 3) := by decide +kernel
theorem dX5_init_4 : decode cX5_init 4 = .ok (.aload_n 0, 1) := by decide +kernel
theorem dX5_init_5 : decode cX5_init 5 = .ok (.iconst 2, 1) := by decide +kernel
theorem dX5_init_6 : decode cX5_init 6 = .ok (.putfield 9, 3) := by decide +kernel
theorem dX5_init_9 : decode cX5_init 9 = .ok (.aload_n 0, 1) := by decide +kernel
theorem dX5_init_10 : decode cX5_init 10 = .ok (.iconst 0, 1) := by decide +kernel
theorem dX5_init_11 : decode cX5_init 11 = .ok (.putfield 15, 3) := by decide +kernel
theorem dX5_init_14 : decode cX5_init 14 = .ok (.aload_n 0, 1) := by decide +kernel
theorem dX5_init_15 : decode cX5_init 15 = .ok (.iconst 0, 1) := by decide +kernel
theorem dX5_init_16 : decode cX5_init 16 = .ok (.putfield 18, 3) := by decide +kernel
theorem dX5_init_19 : decode cX5_init 19 = .ok (.aload_n 0, 1) := by decide +kernel
theorem dX5_init_20 : decode cX5_init 20 = .ok (.iconst 0, 1) := by decide +kernel
theorem dX5_init_21 : decode cX5_init 21 = .ok (.putfield 21, 3) := by decide +kernel
theorem dX5_init_24 : decode cX5_init 24 = .ok (.aload_n 0, 1) := by decide +kernel
theorem dX5_init_25 : decode cX5_init 25 = .ok (.iconst 0, 1) := by decide +kernel
theorem dX5_init_26 : decode cX5_init 26 = .ok (.putfield 24, 3) := by decide +kernel
theorem dX5_init_29 : decode cX5_init 29 = .ok (.aload_n 0, 1) := by decide +kernel
theorem dX5_init_30 : decode cX5_init 30 = .ok (.bipush 28, 2) := by decide +kernel
theorem dX5_init_32 : decode cX5_init 32 = .ok (.newarray .int, 2) := by decide +kernel
theorem dX5_init_34 : decode cX5_init 34 = .ok (.putfield 27, 3) := by decide +kernel
theorem dX5_init_37 : decode cX5_init 37 = .ok (.aload_n 0, 1) := by decide +kernel
theorem dX5_init_38 : decode cX5_init 38 = .ok (.bipush 15, 2) := by decide +kernel
theorem dX5_init_40 : decode cX5_init 40 = .ok (.newarray .int, 2) := by decide +kernel
theorem dX5_init_42 : decode cX5_init 42 = .ok (.putfield 31, 3) := by decide +kernel
theorem dX5_init_45 : decode cX5_init 45 = .ok (.aload_n 0, 1) := by decide +kernel
theorem dX5_init_46 : decode cX5_init 46 = .ok (.bipush 8, 2) := by decide +kernel
theorem dX5_init_48 : decode cX5_init 48 = .ok (.newarray .int, 2) := by decide +kernel
theorem dX5_init_50 : decode cX5_init 50 = .ok (.putfield 34, 3) := by decide +kernel
theorem dX5_init_53 : decode cX5_init 53 = .ok (.aload_n 0, 1) := by decide +kernel
theorem dX5_init_54 : decode cX5_init 54 = .ok (.new 37, 3) := by decide +kernel
theorem dX5_init_57 : decode cX5_init 57 = .ok (.dup, 1) := by decide +kernel
theorem dX5_init_58 : decode cX5_init 58 = .ok (.invokespecial 39, 3) := by decide +kernel
theorem dX5_init_61 : decode cX5_init 61 = .ok (.putfield 40, 3) := by decide +kernel
theorem dX5_init_64 : decode cX5_init 64 = .ok (.aload_n 0, 1) := by decide +kernel
theorem dX5_init_65 : decode cX5_init 65 = .ok (.getfield 40, 3) := by decide +kernel
theorem dX5_init_68 : decode cX5_init 68 = .ok (.invokevirtual 44, 3) := by decide +kernel
theorem dX5_init_71 : decode cX5_init 71 = .ok (.return_, 1) := by decide +kernel
theorem dX5_fill_0 : decode cX5_fill 0 = .ok (.aload_n 0, 1) := by decide +kernel
theorem dX5_fill_1 : decode cX5_fill 1 = .ok (.iconst 2, 1) := by decide +kernel
theorem dX5_fill_2 : decode cX5_fill 2 = .ok (.putfield 9, 3) := by decide +kernel
theorem dX5_fill_5 : decode cX5_fill 5 = .ok (.aload_n 0, 1) := by decide +kernel
theorem dX5_fill_6 : decode cX5_fill 6 = .ok (.iconst 0, 1) := by decide +kernel
theorem dX5_fill_7 : decode cX5_fill 7 = .ok (.putfield 15, 3) := by decide +kernel
theorem dX5_fill_10 : decode cX5_fill 10 = .ok (.aload_n 0, 1) := by decide +kernel
theorem dX5_fill_11 : decode cX5_fill 11 = .ok (.iconst 0, 1) := by decide +kernel
theorem dX5_fill_12 : decode cX5_fill 12 = .ok (.putfield 18, 3) := by decide +kernel
theorem dX5_fill_15 : decode cX5_fill 15 = .ok (.aload_n 0, 1) := by decide +kernel
theorem dX5_fill_16 : decode cX5_fill 16 = .ok (.iconst 0, 1) := by decide +kernel
theorem dX5_fill_17 : decode cX5_fill 17 = .ok (.putfield 21, 3) := by decide +kernel
theorem dX5_fill_20 : decode cX5_fill 20 = .ok (.aload_n 0, 1) := by decide +kernel
theorem dX5_fill_21 : decode cX5_fill 21 = .ok (.iconst 0, 1) := by decide +kernel
theorem dX5_fill_22 : decode cX5_fill 22 = .ok (.putfield 24, 3) := by decide +kernel
theorem dX5_fill_25 : decode cX5_fill 25 = .ok (.aload_n 0, 1) := by decide +kernel
theorem dX5_fill_26 : decode cX5_fill 26 = .ok (.getfield 40, 3) := by decide +kernel
theorem dX5_fill_29 : decode cX5_fill 29 = .ok (.invokevirtual 44, 3) := by decide +kernel
theorem dX5_fill_32 : decode cX5_fill 32 = .ok (.iconst 0, 1) := by decide +kernel
theorem dX5_fill_33 : decode cX5_fill 33 = .ok (.istore_n 2, 1) := by decide +kernel
theorem dX5_fill_34 : decode cX5_fill 34 = .ok (.iload_n 2, 1) := by decide +kernel
theorem dX5_fill_35 : decode cX5_fill 35 = .ok (.aload_n 1, 1) := by decide +kernel
theorem dX5_fill_36 : decode cX5_fill 36 = .ok (.getfield 47, 3) := by decide +kernel
theorem dX5_fill_39 : decode cX5_fill 39 = .ok (.if_icmp .ge 56, 3) := by decide +kernel
theorem dX5_fill_42 : decode cX5_fill 42 = .ok (.aload_n 1, 1) := by decide +kernel
theorem dX5_fill_43 : decode cX5_fill 43 = .ok (.iload_n 2, 1) := by decide +kernel
theorem dX5_fill_44 : decode cX5_fill 44 = .ok (.invokevirtual 52, 3) := by decide +kernel
theorem dX5_fill_47 : decode cX5_fill 47 = .ok (.istore_n 3, 1) := by decide +kernel
theorem dX5_fill_48 : decode cX5_fill 48 = .ok (.iload_n 3, 1) := by decide +kernel
theorem dX5_fill_49 : decode cX5_fill 49 = .ok (.iconst 5, 1) := by decide +kernel
theorem dX5_fill_50 : decode cX5_fill 50 = .ok (.if_icmp .lt 26, 3) := by decide +kernel
theorem dX5_fill_53 : decode cX5_fill 53 = .ok (.iload_n 3, 1) := by decide +kernel
theorem dX5_fill_54 : decode cX5_fill 54 = .ok (.bipush 8, 2) := by decide +kernel
theorem dX5_fill_56 : decode cX5_fill 56 = .ok (.if_icmp .ge 20, 3) := by decide +kernel
theorem dX5_fill_59 : decode cX5_fill 59 = .ok (.aload_n 0, 1) := by decide +kernel
theorem dX5_fill_60 : decode cX5_fill 60 = .ok (.getfield 40, 3) := by decide +kernel
theorem dX5_fill_63 : decode cX5_fill 63 = .ok (.iload_n 3, 1) := by decide +kernel
theorem dX5_fill_64 : decode cX5_fill 64 = .ok (.iconst 5, 1) := by decide +kernel
theorem dX5_fill_65 : decode cX5_fill 65 = .ok (.isub, 1) := by decide +kernel
theorem dX5_fill_66 : decode cX5_fill 66 = .ok (.aload_n 1, 1) := by decide +kernel
theorem dX5_fill_67 : decode cX5_fill 67 = .ok (.iload_n 2, 1) := by decide +kernel
theorem dX5_fill_68 : decode cX5_fill 68 = .ok (.iconst 2, 1) := by decide +kernel
theorem dX5_fill_69 : decode cX5_fill 69 = .ok (.iadd, 1) := by decide +kernel
theorem dX5_fill_70 : decode cX5_fill 70 = .ok (.invokevirtual 56, 3) := by decide +kernel
theorem dX5_fill_73 : decode cX5_fill 73 = .ok (.goto 16, 3) := by decide +kernel
theorem dX5_fill_76 : decode cX5_fill 76 = .ok (.iload_n 3, 1) := by decide +kernel
theorem dX5_fill_77 : decode cX5_fill 77 = .ok (.ifCond .lt 12, 3) := by decide +kernel
theorem dX5_fill_80 : decode cX5_fill 80 = .ok (.aload_n 0, 1) := by decide +kernel
theorem dX5_fill_81 : decode cX5_fill 81 = .ok (.iload_n 3, 1) := by decide +kernel
theorem dX5_fill_82 : decode cX5_fill 82 = .ok (.aload_n 1, 1) := by decide +kernel
theorem dX5_fill_83 : decode cX5_fill 83 = .ok (.iload_n 2, 1) := by decide +kernel
theorem dX5_fill_84 : decode cX5_fill 84 = .ok (.iconst 1, 1) := by decide +kernel
theorem dX5_fill_85 : decode cX5_fill 85 = .ok (.iadd, 1) := by decide +kernel
theorem dX5_fill_86 : decode cX5_fill 86 = .ok (.invokevirtual 60, 3) := by decide +kernel
theorem dX5_fill_89 : decode cX5_fill 89 = .ok (.iinc 2 1, 3) := by decide +kernel
theorem dX5_fill_92 : decode cX5_fill 92 = .ok (.goto (-58), 3) := by decide +kernel
theorem dX5_fill_95 : decode cX5_fill 95 = .ok (.return_, 1) := by decide +kernel
theorem dX5_takeTell_0 : decode cX5_takeTell 0 = .ok (.iload_n 1, 1) := by decide +kernel
theorem dX5_takeTell_1 : decode cX5_takeTell 1 = .ok (.ifCond .ne 16, 3) := by decide +kernel
theorem dX5_takeTell_4 : decode cX5_takeTell 4 = .ok (.aload_n 0, 1) := by decide +kernel
theorem dX5_takeTell_5 : decode cX5_takeTell 5 = .ok (.aload_n 2, 1) := by decide +kernel
theorem dX5_takeTell_6 : decode cX5_takeTell 6 = .ok (.iload_n 3, 1) := by decide +kernel
theorem dX5_takeTell_7 : decode cX5_takeTell 7 = .ok (.invokevirtual 63, 3) := by decide +kernel
theorem dX5_takeTell_10 : decode cX5_takeTell 10 = .ok (.l2i, 1) := by decide +kernel
theorem dX5_takeTell_11 : decode cX5_takeTell 11 = .ok (.putfield 9, 3) := by decide +kernel
theorem dX5_takeTell_14 : decode cX5_takeTell 14 = .ok (.goto 195, 3) := by decide +kernel
theorem dX5_takeTell_17 : decode cX5_takeTell 17 = .ok (.iload_n 1, 1) := by decide +kernel
theorem dX5_takeTell_18 : decode cX5_takeTell 18 = .ok (.iconst 4, 1) := by decide +kernel
theorem dX5_takeTell_19 : decode cX5_takeTell 19 = .ok (.if_icmp .ne 16, 3) := by decide +kernel
theorem dX5_takeTell_22 : decode cX5_takeTell 22 = .ok (.aload_n 0, 1) := by decide +kernel
theorem dX5_takeTell_23 : decode cX5_takeTell 23 = .ok (.aload_n 2, 1) := by decide +kernel
theorem dX5_takeTell_24 : decode cX5_takeTell 24 = .ok (.iload_n 3, 1) := by decide +kernel
theorem dX5_takeTell_25 : decode cX5_takeTell 25 = .ok (.invokevirtual 63, 3) := by decide +kernel
theorem dX5_takeTell_28 : decode cX5_takeTell 28 = .ok (.l2i, 1) := by decide +kernel
theorem dX5_takeTell_29 : decode cX5_takeTell 29 = .ok (.putfield 15, 3) := by decide +kernel
theorem dX5_takeTell_32 : decode cX5_takeTell 32 = .ok (.goto 177, 3) := by decide +kernel
theorem dX5_takeTell_35 : decode cX5_takeTell 35 = .ok (.iload_n 1, 1) := by decide +kernel
theorem dX5_takeTell_36 : decode cX5_takeTell 36 = .ok (.iconst 1, 1) := by decide +kernel
theorem dX5_takeTell_37 : decode cX5_takeTell 37 = .ok (.if_icmp .ne 65, 3) := by decide +kernel
theorem dX5_takeTell_40 : decode cX5_takeTell 40 = .ok (.aload_n 0, 1) := by decide +kernel
theorem dX5_takeTell_41 : decode cX5_takeTell 41 = .ok (.getfield 18, 3) := by decide +kernel
theorem dX5_takeTell_44 : decode cX5_takeTell 44 = .ok (.bipush 7, 2) := by decide +kernel
theorem dX5_takeTell_46 : decode cX5_takeTell 46 = .ok (.if_icmp .ge 56, 3) := by decide +kernel
theorem dX5_takeTell_49 : decode cX5_takeTell 49 = .ok (.iconst 0, 1) := by decide +kernel
theorem dX5_takeTell_50 : decode cX5_takeTell 50 = .ok (.istore 4, 2) := by decide +kernel
theorem dX5_takeTell_52 : decode cX5_takeTell 52 = .ok (.iload 4, 2) := by decide +kernel
theorem dX5_takeTell_54 : decode cX5_takeTell 54 = .ok (.iconst 4, 1) := by decide +kernel
theorem dX5_takeTell_55 : decode cX5_takeTell 55 = .ok (.if_icmp .ge 34, 3) := by decide +kernel
theorem dX5_takeTell_58 : decode cX5_takeTell 58 = .ok (.aload_n 0, 1) := by decide +kernel
theorem dX5_takeTell_59 : decode cX5_takeTell 59 = .ok (.getfield 27, 3) := by decide +kernel
theorem dX5_takeTell_62 : decode cX5_takeTell 62 = .ok (.aload_n 0, 1) := by decide +kernel
theorem dX5_takeTell_63 : decode cX5_takeTell 63 = .ok (.getfield 18, 3) := by decide +kernel
theorem dX5_takeTell_66 : decode cX5_takeTell 66 = .ok (.iconst 4, 1) := by decide +kernel
theorem dX5_takeTell_67 : decode cX5_takeTell 67 = .ok (.imul, 1) := by decide +kernel
theorem dX5_takeTell_68 : decode cX5_takeTell 68 = .ok (.iload 4, 2) := by decide +kernel
theorem dX5_takeTell_70 : decode cX5_takeTell 70 = .ok (.iadd, 1) := by decide +kernel
theorem dX5_takeTell_71 : decode cX5_takeTell 71 = .ok (.aload_n 2, 1) := by decide +kernel
theorem dX5_takeTell_72 : decode cX5_takeTell 72 = .ok (.iload_n 3, 1) := by decide +kernel
theorem dX5_takeTell_73 : decode cX5_takeTell 73 = .ok (.iconst 1, 1) := by decide +kernel
theorem dX5_takeTell_74 : decode cX5_takeTell 74 = .ok (.iadd, 1) := by decide +kernel
theorem dX5_takeTell_75 : decode cX5_takeTell 75 = .ok (.iload 4, 2) := by decide +kernel
theorem dX5_takeTell_77 : decode cX5_takeTell 77 = .ok (.iadd, 1) := by decide +kernel
theorem dX5_takeTell_78 : decode cX5_takeTell 78 = .ok (.invokevirtual 63, 3) := by decide +kernel
theorem dX5_takeTell_81 : decode cX5_takeTell 81 = .ok (.l2i, 1) := by decide +kernel
theorem dX5_takeTell_82 : decode cX5_takeTell 82 = .ok (.iastore, 1) := by decide +kernel
theorem dX5_takeTell_83 : decode cX5_takeTell 83 = .ok (.iinc 4 1, 3) := by decide +kernel
theorem dX5_takeTell_86 : decode cX5_takeTell 86 = .ok (.goto (-34), 3) := by decide +kernel
theorem dX5_takeTell_89 : decode cX5_takeTell 89 = .ok (.aload_n 0, 1) := by decide +kernel
theorem dX5_takeTell_90 : decode cX5_takeTell 90 = .ok (.dup, 1) := by decide +kernel
theorem dX5_takeTell_91 : decode cX5_takeTell 91 = .ok (.getfield 18, 3) := by decide +kernel
theorem dX5_takeTell_94 : decode cX5_takeTell 94 = .ok (.iconst 1, 1) := by decide +kernel
theorem dX5_takeTell_95 : decode cX5_takeTell 95 = .ok (.iadd, 1) := by decide +kernel
theorem dX5_takeTell_96 : decode cX5_takeTell 96 = .ok (.putfield 18, 3) := by decide +kernel
theorem dX5_takeTell_99 : decode cX5_takeTell 99 = .ok (.goto 110, 3) := by decide +kernel
theorem dX5_takeTell_102 : decode cX5_takeTell 102 = .ok (.iload_n 1, 1) := by decide +kernel
theorem dX5_takeTell_103 : decode cX5_takeTell 103 = .ok (.iconst 2, 1) := by decide +kernel
theorem dX5_takeTell_104 : decode cX5_takeTell 104 = .ok (.if_icmp .ne 64, 3) := by decide +kernel
theorem dX5_takeTell_107 : decode cX5_takeTell 107 = .ok (.aload_n 0, 1) := by decide +kernel
theorem dX5_takeTell_108 : decode cX5_takeTell 108 = .ok (.getfield 21, 3) := by decide +kernel
theorem dX5_takeTell_111 : decode cX5_takeTell 111 = .ok (.iconst 5, 1) := by decide +kernel
theorem dX5_takeTell_112 : decode cX5_takeTell 112 = .ok (.if_icmp .ge 56, 3) := by decide +kernel
theorem dX5_takeTell_115 : decode cX5_takeTell 115 = .ok (.iconst 0, 1) := by decide +kernel
theorem dX5_takeTell_116 : decode cX5_takeTell 116 = .ok (.istore 4, 2) := by decide +kernel
theorem dX5_takeTell_118 : decode cX5_takeTell 118 = .ok (.iload 4, 2) := by decide +kernel
theorem dX5_takeTell_120 : decode cX5_takeTell 120 = .ok (.iconst 3, 1) := by decide +kernel
theorem dX5_takeTell_121 : decode cX5_takeTell 121 = .ok (.if_icmp .ge 34, 3) := by decide +kernel
theorem dX5_takeTell_124 : decode cX5_takeTell 124 = .ok (.aload_n 0, 1) := by decide +kernel
theorem dX5_takeTell_125 : decode cX5_takeTell 125 = .ok (.getfield 31, 3) := by decide +kernel
theorem dX5_takeTell_128 : decode cX5_takeTell 128 = .ok (.aload_n 0, 1) := by decide +kernel
theorem dX5_takeTell_129 : decode cX5_takeTell 129 = .ok (.getfield 21, 3) := by decide +kernel
theorem dX5_takeTell_132 : decode cX5_takeTell 132 = .ok (.iconst 3, 1) := by decide +kernel
theorem dX5_takeTell_133 : decode cX5_takeTell 133 = .ok (.imul, 1) := by decide +kernel
theorem dX5_takeTell_134 : decode cX5_takeTell 134 = .ok (.iload 4, 2) := by decide +kernel
theorem dX5_takeTell_136 : decode cX5_takeTell 136 = .ok (.iadd, 1) := by decide +kernel
theorem dX5_takeTell_137 : decode cX5_takeTell 137 = .ok (.aload_n 2, 1) := by decide +kernel
theorem dX5_takeTell_138 : decode cX5_takeTell 138 = .ok (.iload_n 3, 1) := by decide +kernel
theorem dX5_takeTell_139 : decode cX5_takeTell 139 = .ok (.iconst 1, 1) := by decide +kernel
theorem dX5_takeTell_140 : decode cX5_takeTell 140 = .ok (.iadd, 1) := by decide +kernel
theorem dX5_takeTell_141 : decode cX5_takeTell 141 = .ok (.iload 4, 2) := by decide +kernel
theorem dX5_takeTell_143 : decode cX5_takeTell 143 = .ok (.iadd, 1) := by decide +kernel
theorem dX5_takeTell_144 : decode cX5_takeTell 144 = .ok (.invokevirtual 63, 3) := by decide +kernel
theorem dX5_takeTell_147 : decode cX5_takeTell 147 = .ok (.l2i, 1) := by decide +kernel
theorem dX5_takeTell_148 : decode cX5_takeTell 148 = .ok (.iastore, 1) := by decide +kernel
theorem dX5_takeTell_149 : decode cX5_takeTell 149 = .ok (.iinc 4 1, 3) := by decide +kernel
theorem dX5_takeTell_152 : decode cX5_takeTell 152 = .ok (.goto (-34), 3) := by decide +kernel
theorem dX5_takeTell_155 : decode cX5_takeTell 155 = .ok (.aload_n 0, 1) := by decide +kernel
theorem dX5_takeTell_156 : decode cX5_takeTell 156 = .ok (.dup, 1) := by decide +kernel
theorem dX5_takeTell_157 : decode cX5_takeTell 157 = .ok (.getfield 21, 3) := by decide +kernel
theorem dX5_takeTell_160 : decode cX5_takeTell 160 = .ok (.iconst 1, 1) := by decide +kernel
theorem dX5_takeTell_161 : decode cX5_takeTell 161 = .ok (.iadd, 1) := by decide +kernel
theorem dX5_takeTell_162 : decode cX5_takeTell 162 = .ok (.putfield 21, 3) := by decide +kernel
theorem dX5_takeTell_165 : decode cX5_takeTell 165 = .ok (.goto 44, 3) := by decide +kernel
theorem dX5_takeTell_168 : decode cX5_takeTell 168 = .ok (.iload_n 1, 1) := by decide +kernel
theorem dX5_takeTell_169 : decode cX5_takeTell 169 = .ok (.iconst 3, 1) := by decide +kernel
theorem dX5_takeTell_170 : decode cX5_takeTell 170 = .ok (.if_icmp .ne 39, 3) := by decide +kernel
theorem dX5_takeTell_173 : decode cX5_takeTell 173 = .ok (.aload_n 0, 1) := by decide +kernel
theorem dX5_takeTell_174 : decode cX5_takeTell 174 = .ok (.getfield 24, 3) := by decide +kernel
theorem dX5_takeTell_177 : decode cX5_takeTell 177 = .ok (.bipush 8, 2) := by decide +kernel
theorem dX5_takeTell_179 : decode cX5_takeTell 179 = .ok (.if_icmp .ge 30, 3) := by decide +kernel
theorem dX5_takeTell_182 : decode cX5_takeTell 182 = .ok (.aload_n 0, 1) := by decide +kernel
theorem dX5_takeTell_183 : decode cX5_takeTell 183 = .ok (.getfield 34, 3) := by decide +kernel
theorem dX5_takeTell_186 : decode cX5_takeTell 186 = .ok (.aload_n 0, 1) := by decide +kernel
theorem dX5_takeTell_187 : decode cX5_takeTell 187 = .ok (.getfield 24, 3) := by decide +kernel
theorem dX5_takeTell_190 : decode cX5_takeTell 190 = .ok (.aload_n 2, 1) := by decide +kernel
theorem dX5_takeTell_191 : decode cX5_takeTell 191 = .ok (.iload_n 3, 1) := by decide +kernel
theorem dX5_takeTell_192 : decode cX5_takeTell 192 = .ok (.iconst 1, 1) := by decide +kernel
theorem dX5_takeTell_193 : decode cX5_takeTell 193 = .ok (.iadd, 1) := by decide +kernel
theorem dX5_takeTell_194 : decode cX5_takeTell 194 = .ok (.invokevirtual 63, 3) := by decide +kernel
theorem dX5_takeTell_197 : decode cX5_takeTell 197 = .ok (.l2i, 1) := by decide +kernel
theorem dX5_takeTell_198 : decode cX5_takeTell 198 = .ok (.iastore, 1) := by decide +kernel
theorem dX5_takeTell_199 : decode cX5_takeTell 199 = .ok (.aload_n 0, 1) := by decide +kernel
theorem dX5_takeTell_200 : decode cX5_takeTell 200 = .ok (.dup, 1) := by decide +kernel
theorem dX5_takeTell_201 : decode cX5_takeTell 201 = .ok (.getfield 24, 3) := by decide +kernel
theorem dX5_takeTell_204 : decode cX5_takeTell 204 = .ok (.iconst 1, 1) := by decide +kernel
theorem dX5_takeTell_205 : decode cX5_takeTell 205 = .ok (.iadd, 1) := by decide +kernel
theorem dX5_takeTell_206 : decode cX5_takeTell 206 = .ok (.putfield 24, 3) := by decide +kernel
theorem dX5_takeTell_209 : decode cX5_takeTell 209 = .ok (.return_, 1) := by decide +kernel
theorem dX5_toldOf_0 : decode cX5_toldOf 0 = .ok (.aload_n 0, 1) := by decide +kernel
theorem dX5_toldOf_1 : decode cX5_toldOf 1 = .ok (.getfield 27, 3) := by decide +kernel
theorem dX5_toldOf_4 : decode cX5_toldOf 4 = .ok (.iload_n 1, 1) := by decide +kernel
theorem dX5_toldOf_5 : decode cX5_toldOf 5 = .ok (.iconst 4, 1) := by decide +kernel
theorem dX5_toldOf_6 : decode cX5_toldOf 6 = .ok (.imul, 1) := by decide +kernel
theorem dX5_toldOf_7 : decode cX5_toldOf 7 = .ok (.iload_n 2, 1) := by decide +kernel
theorem dX5_toldOf_8 : decode cX5_toldOf 8 = .ok (.iadd, 1) := by decide +kernel
theorem dX5_toldOf_9 : decode cX5_toldOf 9 = .ok (.iaload, 1) := by decide +kernel
theorem dX5_toldOf_10 : decode cX5_toldOf 10 = .ok (.ireturn, 1) := by decide +kernel
theorem dX5_slipOf_0 : decode cX5_slipOf 0 = .ok (.aload_n 0, 1) := by decide +kernel
theorem dX5_slipOf_1 : decode cX5_slipOf 1 = .ok (.iload_n 1, 1) := by decide +kernel
theorem dX5_slipOf_2 : decode cX5_slipOf 2 = .ok (.iconst 2, 1) := by decide +kernel
theorem dX5_slipOf_3 : decode cX5_slipOf 3 = .ok (.invokevirtual 67, 3) := by decide +kernel
theorem dX5_slipOf_6 : decode cX5_slipOf 6 = .ok (.ireturn, 1) := by decide +kernel
theorem dX5_worthOf_0 : decode cX5_worthOf 0 = .ok (.aload_n 0, 1) := by decide +kernel
theorem dX5_worthOf_1 : decode cX5_worthOf 1 = .ok (.getfield 31, 3) := by decide +kernel
theorem dX5_worthOf_4 : decode cX5_worthOf 4 = .ok (.iload_n 1, 1) := by decide +kernel
theorem dX5_worthOf_5 : decode cX5_worthOf 5 = .ok (.iconst 3, 1) := by decide +kernel
theorem dX5_worthOf_6 : decode cX5_worthOf 6 = .ok (.imul, 1) := by decide +kernel
theorem dX5_worthOf_7 : decode cX5_worthOf 7 = .ok (.iload_n 2, 1) := by decide +kernel
theorem dX5_worthOf_8 : decode cX5_worthOf 8 = .ok (.iadd, 1) := by decide +kernel
theorem dX5_worthOf_9 : decode cX5_worthOf 9 = .ok (.iaload, 1) := by decide +kernel
theorem dX5_worthOf_10 : decode cX5_worthOf 10 = .ok (.ireturn, 1) := by decide +kernel
theorem dX6_init_0 : decode cX6_init 0 = .ok (.aload_n 0, 1) := by decide +kernel
theorem dX6_init_1 : decode cX6_init 1 = .ok (.invokespecial 3, 3) := by decide +kernel
theorem dX6_init_4 : decode cX6_init 4 = .ok (.aload_n 0, 1) := by decide +kernel
theorem dX6_init_5 : decode cX6_init 5 = .ok (.ldc 9, 2) := by decide +kernel
theorem dX6_init_7 : decode cX6_init 7 = .ok (.invokevirtual 11, 3) := by decide +kernel
theorem dX6_init_10 : decode cX6_init 10 = .ok (.bipush 8, 2) := by decide +kernel
theorem dX6_init_12 : decode cX6_init 12 = .ok (.idiv, 1) := by decide +kernel
theorem dX6_init_13 : decode cX6_init 13 = .ok (.newarray .long, 2) := by decide +kernel
theorem dX6_init_15 : decode cX6_init 15 = .ok (.putfield 17, 3) := by decide +kernel
theorem dX6_init_18 : decode cX6_init 18 = .ok (.aload_n 0, 1) := by decide +kernel
theorem dX6_init_19 : decode cX6_init 19 = .ok (.iconst 3, 1) := by decide +kernel
theorem dX6_init_20 : decode cX6_init 20 = .ok (.putfield 23, 3) := by decide +kernel
theorem dX6_init_23 : decode cX6_init 23 = .ok (.aload_n 0, 1) := by decide +kernel
theorem dX6_init_24 : decode cX6_init 24 = .ok (.lconst 0, 1) := by decide +kernel
theorem dX6_init_25 : decode cX6_init 25 = .ok (.putfield 27, 3) := by decide +kernel
theorem dX6_init_28 : decode cX6_init 28 = .ok (.aload_n 0, 1) := by decide +kernel
theorem dX6_init_29 : decode cX6_init 29 = .ok (.iconst 0, 1) := by decide +kernel
theorem dX6_init_30 : decode cX6_init 30 = .ok (.putfield 31, 3) := by decide +kernel
theorem dX6_init_33 : decode cX6_init 33 = .ok (.aload_n 0, 1) := by decide +kernel
theorem dX6_init_34 : decode cX6_init 34 = .ok (.iconst 0, 1) := by decide +kernel
theorem dX6_init_35 : decode cX6_init 35 = .ok (.putfield 34, 3) := by decide +kernel
theorem dX6_init_38 : decode cX6_init 38 = .ok (.iconst 0, 1) := by decide +kernel
theorem dX6_init_39 : decode cX6_init 39 = .ok (.istore_n 1, 1) := by decide +kernel
theorem dX6_init_40 : decode cX6_init 40 = .ok (.iload_n 1, 1) := by decide +kernel
theorem dX6_init_41 : decode cX6_init 41 = .ok (.aload_n 0, 1) := by decide +kernel
theorem dX6_init_42 : decode cX6_init 42 = .ok (.getfield 17, 3) := by decide +kernel
theorem dX6_init_45 : decode cX6_init 45 = .ok (.arraylength, 1) := by decide +kernel
theorem dX6_init_46 : decode cX6_init 46 = .ok (.if_icmp .ge 74, 3) := by decide +kernel
theorem dX6_init_49 : decode cX6_init 49 = .ok (.lconst 0, 1) := by decide +kernel
theorem dX6_init_50 : decode cX6_init 50 = .ok (.lstore_n 2, 1) := by decide +kernel
theorem dX6_init_51 : decode cX6_init 51 = .ok (.iload_n 1, 1) := by decide +kernel
theorem dX6_init_52 : decode cX6_init 52 = .ok (.bipush 8, 2) := by decide +kernel
theorem dX6_init_54 : decode cX6_init 54 = .ok (.imul, 1) := by decide +kernel
theorem dX6_init_55 : decode cX6_init 55 = .ok (.istore 4, 2) := by decide +kernel
theorem dX6_init_57 : decode cX6_init 57 = .ok (.iload 4, 2) := by decide +kernel
theorem dX6_init_59 : decode cX6_init 59 = .ok (.iload_n 1, 1) := by decide +kernel
theorem dX6_init_60 : decode cX6_init 60 = .ok (.iconst 1, 1) := by decide +kernel
theorem dX6_init_61 : decode cX6_init 61 = .ok (.iadd, 1) := by decide +kernel
theorem dX6_init_62 : decode cX6_init 62 = .ok (.bipush 8, 2) := by decide +kernel
theorem dX6_init_64 : decode cX6_init 64 = .ok (.imul, 1) := by decide +kernel
theorem dX6_init_65 : decode cX6_init 65 = .ok (.if_icmp .ge 42, 3) := by decide +kernel
theorem dX6_init_68 : decode cX6_init 68 = .ok (.ldc 9, 2) := by decide +kernel
theorem dX6_init_70 : decode cX6_init 70 = .ok (.iload 4, 2) := by decide +kernel
theorem dX6_init_72 : decode cX6_init 72 = .ok (.invokevirtual 37, 3) := by decide +kernel
theorem dX6_init_75 : decode cX6_init 75 = .ok (.bipush 32, 2) := by decide +kernel
theorem dX6_init_77 : decode cX6_init 77 = .ok (.if_icmp .eq 30, 3) := by decide +kernel
theorem dX6_init_80 : decode cX6_init 80 = .ok (.lload_n 2, 1) := by decide +kernel
theorem dX6_init_81 : decode cX6_init 81 = .ok (.ldc2_w 41, 3) := by decide +kernel
theorem dX6_init_84 : decode cX6_init 84 = .ok (.lmul, 1) := by decide +kernel
theorem dX6_init_85 : decode cX6_init 85 = .ok (.ldc 9, 2) := by decide +kernel
theorem dX6_init_87 : decode cX6_init 87 = .ok (.iload 4, 2) := by decide +kernel
theorem dX6_init_89 : decode cX6_init 89 = .ok (.invokevirtual 37, 3) := by decide +kernel
theorem dX6_init_92 : decode cX6_init 92 = .ok (.i2l, 1) := by decide +kernel
theorem dX6_init_93 : decode cX6_init 93 = .ok (.ladd, 1) := by decide +kernel
theorem dX6_init_94 : decode cX6_init 94 = .ok (.ldc2_w 43, 3) := by decide +kernel
theorem dX6_init_97 : decode cX6_init 97 = .ok (.lsub, 1) := by decide +kernel
theorem dX6_init_98 : decode cX6_init 98 = .ok (.lconst 1, 1) := by decide +kernel
theorem dX6_init_99 : decode cX6_init 99 = .ok (.ladd, 1) := by decide +kernel
theorem dX6_init_100 : decode cX6_init 100 = .ok (.lstore_n 2, 1) := by decide +kernel
theorem dX6_init_101 : decode cX6_init 101 = .ok (.iinc 4 1, 3) := by decide +kernel
theorem dX6_init_104 : decode cX6_init 104 = .ok (.goto (-47), 3) := by decide +kernel
theorem dX6_init_107 : decode cX6_init 107 = .ok (.aload_n 0, 1) := by decide +kernel
theorem dX6_init_108 : decode cX6_init 108 = .ok (.getfield 17, 3) := by decide +kernel
theorem dX6_init_111 : decode cX6_init 111 = .ok (.iload_n 1, 1) := by decide +kernel
theorem dX6_init_112 : decode cX6_init 112 = .ok (.lload_n 2, 1) := by decide +kernel
theorem dX6_init_113 : decode cX6_init 113 = .ok (.lastore, 1) := by decide +kernel
theorem dX6_init_114 : decode cX6_init 114 = .ok (.iinc 1 1, 3) := by decide +kernel
theorem dX6_init_117 : decode cX6_init 117 = .ok (.goto (-77), 3) := by decide +kernel
theorem dX6_init_120 : decode cX6_init 120 = .ok (.return_, 1) := by decide +kernel
theorem dX6_step_0 : decode cX6_step 0 = .ok (.aload_n 0, 1) := by decide +kernel
theorem dX6_step_1 : decode cX6_step 1 = .ok (.iload_n 3, 1) := by decide +kernel
theorem dX6_step_2 : decode cX6_step 2 = .ok (.putfield 31, 3) := by decide +kernel
theorem dX6_step_5 : decode cX6_step 5 = .ok (.aload_n 0, 1) := by decide +kernel
theorem dX6_step_6 : decode cX6_step 6 = .ok (.getfield 31, 3) := by decide +kernel
theorem dX6_step_9 : decode cX6_step 9 = .ok (.iload_n 2, 1) := by decide +kernel
theorem dX6_step_10 : decode cX6_step 10 = .ok (.if_icmp .ge 28, 3) := by decide +kernel
theorem dX6_step_13 : decode cX6_step 13 = .ok (.aload_n 1, 1) := by decide +kernel
theorem dX6_step_14 : decode cX6_step 14 = .ok (.aload_n 0, 1) := by decide +kernel
theorem dX6_step_15 : decode cX6_step 15 = .ok (.getfield 31, 3) := by decide +kernel
theorem dX6_step_18 : decode cX6_step 18 = .ok (.baload, 1) := by decide +kernel
theorem dX6_step_19 : decode cX6_step 19 = .ok (.invokestatic 45, 3) := by decide +kernel
theorem dX6_step_22 : decode cX6_step 22 = .ok (.ifCond .eq 16, 3) := by decide +kernel
theorem dX6_step_25 : decode cX6_step 25 = .ok (.aload_n 0, 1) := by decide +kernel
theorem dX6_step_26 : decode cX6_step 26 = .ok (.dup, 1) := by decide +kernel
theorem dX6_step_27 : decode cX6_step 27 = .ok (.getfield 31, 3) := by decide +kernel
theorem dX6_step_30 : decode cX6_step 30 = .ok (.iconst 1, 1) := by decide +kernel
theorem dX6_step_31 : decode cX6_step 31 = .ok (.iadd, 1) := by decide +kernel
theorem dX6_step_32 : decode cX6_step 32 = .ok (.putfield 31, 3) := by decide +kernel
theorem dX6_step_35 : decode cX6_step 35 = .ok (.goto (-30), 3) := by decide +kernel
theorem dX6_step_38 : decode cX6_step 38 = .ok (.aload_n 0, 1) := by decide +kernel
theorem dX6_step_39 : decode cX6_step 39 = .ok (.aload_n 0, 1) := by decide +kernel
theorem dX6_step_40 : decode cX6_step 40 = .ok (.getfield 31, 3) := by decide +kernel
theorem dX6_step_43 : decode cX6_step 43 = .ok (.iconst 1, 1) := by decide +kernel
theorem dX6_step_44 : decode cX6_step 44 = .ok (.iadd, 1) := by decide +kernel
theorem dX6_step_45 : decode cX6_step 45 = .ok (.putfield 34, 3) := by decide +kernel
theorem dX6_step_48 : decode cX6_step 48 = .ok (.aload_n 0, 1) := by decide +kernel
theorem dX6_step_49 : decode cX6_step 49 = .ok (.lconst 0, 1) := by decide +kernel
theorem dX6_step_50 : decode cX6_step 50 = .ok (.putfield 27, 3) := by decide +kernel
theorem dX6_step_53 : decode cX6_step 53 = .ok (.aload_n 0, 1) := by decide +kernel
theorem dX6_step_54 : decode cX6_step 54 = .ok (.getfield 31, 3) := by decide +kernel
theorem dX6_step_57 : decode cX6_step 57 = .ok (.iload_n 2, 1) := by decide +kernel
theorem dX6_step_58 : decode cX6_step 58 = .ok (.if_icmp .lt 11, 3) := by decide +kernel
theorem dX6_step_61 : decode cX6_step 61 = .ok (.aload_n 0, 1) := by decide +kernel
theorem dX6_step_62 : decode cX6_step 62 = .ok (.iconst 3, 1) := by decide +kernel
theorem dX6_step_63 : decode cX6_step 63 = .ok (.putfield 23, 3) := by decide +kernel
theorem dX6_step_66 : decode cX6_step 66 = .ok (.goto 78, 3) := by decide +kernel
theorem dX6_step_69 : decode cX6_step 69 = .ok (.aload_n 1, 1) := by decide +kernel
theorem dX6_step_70 : decode cX6_step 70 = .ok (.aload_n 0, 1) := by decide +kernel
theorem dX6_step_71 : decode cX6_step 71 = .ok (.getfield 31, 3) := by decide +kernel
theorem dX6_step_74 : decode cX6_step 74 = .ok (.baload, 1) := by decide +kernel
theorem dX6_step_75 : decode cX6_step 75 = .ok (.invokestatic 49, 3) := by decide +kernel
theorem dX6_step_78 : decode cX6_step 78 = .ok (.ifCond .eq 12, 3) := by decide +kernel
theorem dX6_step_81 : decode cX6_step 81 = .ok (.aload_n 0, 1) := by decide +kernel
theorem dX6_step_82 : decode cX6_step 82 = .ok (.aload_n 1, 1) := by decide +kernel
theorem dX6_step_83 : decode cX6_step 83 = .ok (.iload_n 2, 1) := by decide +kernel
theorem dX6_step_84 : decode cX6_step 84 = .ok (.invokevirtual 52, 3) := by decide +kernel
theorem dX6_step_87 : decode cX6_step 87 = .ok (.goto 57, 3) := by decide +kernel
theorem dX6_step_90 : decode cX6_step 90 = .ok (.aload_n 1, 1) := by decide +kernel
theorem dX6_step_91 : decode cX6_step 91 = .ok (.aload_n 0, 1) := by decide +kernel
theorem dX6_step_92 : decode cX6_step 92 = .ok (.getfield 31, 3) := by decide +kernel
theorem dX6_step_95 : decode cX6_step 95 = .ok (.baload, 1) := by decide +kernel
theorem dX6_step_96 : decode cX6_step 96 = .ok (.invokestatic 56, 3) := by decide +kernel
theorem dX6_step_99 : decode cX6_step 99 = .ok (.ifCond .eq 12, 3) := by decide +kernel
theorem dX6_step_102 : decode cX6_step 102 = .ok (.aload_n 0, 1) := by decide +kernel
theorem dX6_step_103 : decode cX6_step 103 = .ok (.aload_n 1, 1) := by decide +kernel
theorem dX6_step_104 : decode cX6_step 104 = .ok (.iload_n 2, 1) := by decide +kernel
theorem dX6_step_105 : decode cX6_step 105 = .ok (.invokevirtual 59, 3) := by decide +kernel
theorem dX6_step_108 : decode cX6_step 108 = .ok (.goto 36, 3) := by decide +kernel
theorem dX6_step_111 : decode cX6_step 111 = .ok (.aload_n 0, 1) := by decide +kernel
theorem dX6_step_112 : decode cX6_step 112 = .ok (.ldc 62, 2) := by decide +kernel
theorem dX6_step_114 : decode cX6_step 114 = .ok (.aload_n 1, 1) := by decide +kernel
theorem dX6_step_115 : decode cX6_step 115 = .ok (.aload_n 0, 1) := by decide +kernel
theorem dX6_step_116 : decode cX6_step 116 = .ok (.getfield 31, 3) := by decide +kernel
theorem dX6_step_119 : decode cX6_step 119 = .ok (.baload, 1) := by decide +kernel
theorem dX6_step_120 : decode cX6_step 120 = .ok (.sipush 255, 3) := by decide +kernel
theorem dX6_step_123 : decode cX6_step 123 = .ok (.iand, 1) := by decide +kernel
theorem dX6_step_124 : decode cX6_step 124 = .ok (.i2c, 1) := by decide +kernel
theorem dX6_step_125 : decode cX6_step 125 = .ok (.invokevirtual 64, 3) := by decide +kernel
theorem dX6_step_128 : decode cX6_step 128 = .ok (.ifCond .ge 7, 3) := by decide +kernel
theorem dX6_step_131 : decode cX6_step 131 = .ok (.iconst 0, 1) := by decide +kernel
theorem dX6_step_132 : decode cX6_step 132 = .ok (.goto 9, 3) := by decide +kernel
theorem dX6_step_135 : decode cX6_step 135 = .ok (.aload_n 1, 1) := by decide +kernel
theorem dX6_step_136 : decode cX6_step 136 = .ok (.aload_n 0, 1) := by decide +kernel
theorem dX6_step_137 : decode cX6_step 137 = .ok (.getfield 31, 3) := by decide +kernel
theorem dX6_step_140 : decode cX6_step 140 = .ok (.baload, 1) := by decide +kernel
theorem dX6_step_141 : decode cX6_step 141 = .ok (.putfield 23, 3) := by decide +kernel
theorem dX6_step_144 : decode cX6_step 144 = .ok (.return_, 1) := by decide +kernel
theorem dX6_takeLetters_0 : decode cX6_takeLetters 0 = .ok (.aload_n 0, 1) := by decide +kernel
theorem dX6_takeLetters_1 : decode cX6_takeLetters 1 = .ok (.aload_n 0, 1) := by decide +kernel
theorem dX6_takeLetters_2 : decode cX6_takeLetters 2 = .ok (.getfield 31, 3) := by decide +kernel
theorem dX6_takeLetters_5 : decode cX6_takeLetters 5 = .ok (.putfield 34, 3) := by decide +kernel
theorem dX6_takeLetters_8 : decode cX6_takeLetters 8 = .ok (.aload_n 0, 1) := by decide +kernel
theorem dX6_takeLetters_9 : decode cX6_takeLetters 9 = .ok (.getfield 34, 3) := by decide +kernel
theorem dX6_takeLetters_12 : decode cX6_takeLetters 12 = .ok (.iload_n 2, 1) := by decide +kernel
theorem dX6_takeLetters_13 : decode cX6_takeLetters 13 = .ok (.if_icmp .ge 68, 3) := by decide +kernel
theorem dX6_takeLetters_16 : decode cX6_takeLetters 16 = .ok (.aload_n 1, 1) := by decide +kernel
theorem dX6_takeLetters_17 : decode cX6_takeLetters 17 = .ok (.aload_n 0, 1) := by decide +kernel
theorem dX6_takeLetters_18 : decode cX6_takeLetters 18 = .ok (.getfield 34, 3) := by decide +kernel
theorem dX6_takeLetters_21 : decode cX6_takeLetters 21 = .ok (.baload, 1) := by decide +kernel
theorem dX6_takeLetters_22 : decode cX6_takeLetters 22 = .ok (.invokestatic 49, 3) := by decide +kernel
theorem dX6_takeLetters_25 : decode cX6_takeLetters 25 = .ok (.ifCond .eq 56, 3) := by decide +kernel
theorem dX6_takeLetters_28 : decode cX6_takeLetters 28 = .ok (.aload_n 0, 1) := by decide +kernel
theorem dX6_takeLetters_29 : decode cX6_takeLetters 29 = .ok (.getfield 34, 3) := by decide +kernel
theorem dX6_takeLetters_32 : decode cX6_takeLetters 32 = .ok (.aload_n 0, 1) := by decide +kernel
theorem dX6_takeLetters_33 : decode cX6_takeLetters 33 = .ok (.getfield 31, 3) := by decide +kernel
theorem dX6_takeLetters_36 : decode cX6_takeLetters 36 = .ok (.isub, 1) := by decide +kernel
theorem dX6_takeLetters_37 : decode cX6_takeLetters 37 = .ok (.bipush 8, 2) := by decide +kernel
theorem dX6_takeLetters_39 : decode cX6_takeLetters 39 = .ok (.if_icmp .ge 29, 3) := by decide +kernel
theorem dX6_takeLetters_42 : decode cX6_takeLetters 42 = .ok (.aload_n 0, 1) := by decide +kernel
theorem dX6_takeLetters_43 : decode cX6_takeLetters 43 = .ok (.aload_n 0, 1) := by decide +kernel
theorem dX6_takeLetters_44 : decode cX6_takeLetters 44 = .ok (.getfield 27, 3) := by decide +kernel
theorem dX6_takeLetters_47 : decode cX6_takeLetters 47 = .ok (.ldc2_w 41, 3) := by decide +kernel
theorem dX6_takeLetters_50 : decode cX6_takeLetters 50 = .ok (.lmul, 1) := by decide +kernel
theorem dX6_takeLetters_51 : decode cX6_takeLetters 51 = .ok (.aload_n 1, 1) := by decide +kernel
theorem dX6_takeLetters_52 : decode cX6_takeLetters 52 = .ok (.aload_n 0, 1) := by decide +kernel
theorem dX6_takeLetters_53 : decode cX6_takeLetters 53 = .ok (.getfield 34, 3) := by decide +kernel
theorem dX6_takeLetters_56 : decode cX6_takeLetters 56 = .ok (.baload, 1) := by decide +kernel
theorem dX6_takeLetters_57 : decode cX6_takeLetters 57 = .ok (.i2l, 1) := by decide +kernel
