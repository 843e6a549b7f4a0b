theorem dX11_speakersOn_20 : decode cX11_speakersOn 20 = .ok (.iconst 3, 1) := by decide +kernel
theorem dX11_speakersOn_21 : decode cX11_speakersOn 21 = .ok (.invokevirtual 105, 3) := by decide +kernel
theorem dX11_speakersOn_24 : decode cX11_speakersOn 24 = .ok (.iload_n 1, 1) := by decide +kernel
theorem dX11_speakersOn_25 : decode cX11_speakersOn 25 = .ok (.if_icmp .ne 9, 3) := by decide +kernel
theorem dX11_speakersOn_28 : decode cX11_speakersOn 28 = .ok (.iload_n 2, 1) := by decide +kernel
theorem dX11_speakersOn_29 : decode cX11_speakersOn 29 = .ok (.iconst 1, 1) := by decide +kernel
theorem dX11_speakersOn_30 : decode cX11_speakersOn 30 = .ok (.iload_n 3, 1) := by decide +kernel
theorem dX11_speakersOn_31 : decode cX11_speakersOn 31 = .ok (.ishl, 1) := by decide +kernel
theorem dX11_speakersOn_32 : decode cX11_speakersOn 32 = .ok (.ior, 1) := by decide +kernel
theorem dX11_speakersOn_33 : decode cX11_speakersOn 33 = .ok (.istore_n 2, 1) := by decide +kernel
theorem dX11_speakersOn_34 : decode cX11_speakersOn 34 = .ok (.iinc 3 1, 3) := by decide +kernel
theorem dX11_speakersOn_37 : decode cX11_speakersOn 37 = .ok (.goto (-33), 3) := by decide +kernel
theorem dX11_speakersOn_40 : decode cX11_speakersOn 40 = .ok (.iload_n 2, 1) := by decide +kernel
theorem dX11_speakersOn_41 : decode cX11_speakersOn 41 = .ok (.ireturn, 1) := by decide +kernel
theorem dX11_fallenMotions_0 : decode cX11_fallenMotions 0 = .ok (.iconst 0, 1) := by decide +kernel
theorem dX11_fallenMotions_1 : decode cX11_fallenMotions 1 = .ok (.istore_n 1, 1) := by decide +kernel
theorem dX11_fallenMotions_2 : decode cX11_fallenMotions 2 = .ok (.iconst 0, 1) := by decide +kernel
theorem dX11_fallenMotions_3 : decode cX11_fallenMotions 3 = .ok (.istore_n 2, 1) := by decide +kernel
theorem dX11_fallenMotions_4 : decode cX11_fallenMotions 4 = .ok (.iload_n 2, 1) := by decide +kernel
theorem dX11_fallenMotions_5 : decode cX11_fallenMotions 5 = .ok (.aload_n 0, 1) := by decide +kernel
theorem dX11_fallenMotions_6 : decode cX11_fallenMotions 6 = .ok (.getfield 30, 3) := by decide +kernel
theorem dX11_fallenMotions_9 : decode cX11_fallenMotions 9 = .ok (.getfield 281, 3) := by decide +kernel
theorem dX11_fallenMotions_12 : decode cX11_fallenMotions 12 = .ok (.if_icmp .ge 28, 3) := by decide +kernel
theorem dX11_fallenMotions_15 : decode cX11_fallenMotions 15 = .ok (.aload_n 0, 1) := by decide +kernel
theorem dX11_fallenMotions_16 : decode cX11_fallenMotions 16 = .ok (.getfield 37, 3) := by decide +kernel
theorem dX11_fallenMotions_19 : decode cX11_fallenMotions 19 = .ok (.iload_n 2, 1) := by decide +kernel
theorem dX11_fallenMotions_20 : decode cX11_fallenMotions 20 = .ok (.invokevirtual 121, 3) := by decide +kernel
theorem dX11_fallenMotions_23 : decode cX11_fallenMotions 23 = .ok (.bipush (-2), 2) := by decide +kernel
theorem dX11_fallenMotions_25 : decode cX11_fallenMotions 25 = .ok (.if_icmp .eq 9, 3) := by decide +kernel
theorem dX11_fallenMotions_28 : decode cX11_fallenMotions 28 = .ok (.iload_n 1, 1) := by decide +kernel
theorem dX11_fallenMotions_29 : decode cX11_fallenMotions 29 = .ok (.iconst 1, 1) := by decide +kernel
theorem dX11_fallenMotions_30 : decode cX11_fallenMotions 30 = .ok (.iload_n 2, 1) := by decide +kernel
theorem dX11_fallenMotions_31 : decode cX11_fallenMotions 31 = .ok (.ishl, 1) := by decide +kernel
theorem dX11_fallenMotions_32 : decode cX11_fallenMotions 32 = .ok (.ior, 1) := by decide +kernel
theorem dX11_fallenMotions_33 : decode cX11_fallenMotions 33 = .ok (.istore_n 1, 1) := by decide +kernel
theorem dX11_fallenMotions_34 : decode cX11_fallenMotions 34 = .ok (.iinc 2 1, 3) := by decide +kernel
theorem dX11_fallenMotions_37 : decode cX11_fallenMotions 37 = .ok (.goto (-33), 3) := by decide +kernel
theorem dX11_fallenMotions_40 : decode cX11_fallenMotions 40 = .ok (.iload_n 1, 1) := by decide +kernel
theorem dX11_fallenMotions_41 : decode cX11_fallenMotions 41 = .ok (.ireturn, 1) := by decide +kernel
theorem dX11_swornMen_0 : decode cX11_swornMen 0 = .ok (.iconst 0, 1) := by decide +kernel
theorem dX11_swornMen_1 : decode cX11_swornMen 1 = .ok (.istore_n 1, 1) := by decide +kernel
theorem dX11_swornMen_2 : decode cX11_swornMen 2 = .ok (.iconst 0, 1) := by decide +kernel
theorem dX11_swornMen_3 : decode cX11_swornMen 3 = .ok (.istore_n 2, 1) := by decide +kernel
theorem dX11_swornMen_4 : decode cX11_swornMen 4 = .ok (.iload_n 2, 1) := by decide +kernel
theorem dX11_swornMen_5 : decode cX11_swornMen 5 = .ok (.aload_n 0, 1) := by decide +kernel
theorem dX11_swornMen_6 : decode cX11_swornMen 6 = .ok (.getfield 30, 3) := by decide +kernel
theorem dX11_swornMen_9 : decode cX11_swornMen 9 = .ok (.getfield 177, 3) := by decide +kernel
theorem dX11_swornMen_12 : decode cX11_swornMen 12 = .ok (.if_icmp .ge 26, 3) := by decide +kernel
theorem dX11_swornMen_15 : decode cX11_swornMen 15 = .ok (.aload_n 0, 1) := by decide +kernel
theorem dX11_swornMen_16 : decode cX11_swornMen 16 = .ok (.getfield 37, 3) := by decide +kernel
theorem dX11_swornMen_19 : decode cX11_swornMen 19 = .ok (.iload_n 2, 1) := by decide +kernel
theorem dX11_swornMen_20 : decode cX11_swornMen 20 = .ok (.invokevirtual 109, 3) := by decide +kernel
theorem dX11_swornMen_23 : decode cX11_swornMen 23 = .ok (.ifCond .eq 9, 3) := by decide +kernel
theorem dX11_swornMen_26 : decode cX11_swornMen 26 = .ok (.iload_n 1, 1) := by decide +kernel
theorem dX11_swornMen_27 : decode cX11_swornMen 27 = .ok (.iconst 1, 1) := by decide +kernel
theorem dX11_swornMen_28 : decode cX11_swornMen 28 = .ok (.iload_n 2, 1) := by decide +kernel
theorem dX11_swornMen_29 : decode cX11_swornMen 29 = .ok (.ishl, 1) := by decide +kernel
theorem dX11_swornMen_30 : decode cX11_swornMen 30 = .ok (.ior, 1) := by decide +kernel
theorem dX11_swornMen_31 : decode cX11_swornMen 31 = .ok (.istore_n 1, 1) := by decide +kernel
theorem dX11_swornMen_32 : decode cX11_swornMen 32 = .ok (.iinc 2 1, 3) := by decide +kernel
theorem dX11_swornMen_35 : decode cX11_swornMen 35 = .ok (.goto (-31), 3) := by decide +kernel
theorem dX11_swornMen_38 : decode cX11_swornMen 38 = .ok (.iload_n 1, 1) := by decide +kernel
theorem dX11_swornMen_39 : decode cX11_swornMen 39 = .ok (.ireturn, 1) := by decide +kernel
theorem dX11_menWithSpeech_0 : decode cX11_menWithSpeech 0 = .ok (.iconst 0, 1) := by decide +kernel
theorem dX11_menWithSpeech_1 : decode cX11_menWithSpeech 1 = .ok (.istore_n 1, 1) := by decide +kernel
theorem dX11_menWithSpeech_2 : decode cX11_menWithSpeech 2 = .ok (.iconst 0, 1) := by decide +kernel
theorem dX11_menWithSpeech_3 : decode cX11_menWithSpeech 3 = .ok (.istore_n 2, 1) := by decide +kernel
theorem dX11_menWithSpeech_4 : decode cX11_menWithSpeech 4 = .ok (.iload_n 2, 1) := by decide +kernel
theorem dX11_menWithSpeech_5 : decode cX11_menWithSpeech 5 = .ok (.aload_n 0, 1) := by decide +kernel
theorem dX11_menWithSpeech_6 : decode cX11_menWithSpeech 6 = .ok (.getfield 30, 3) := by decide +kernel
theorem dX11_menWithSpeech_9 : decode cX11_menWithSpeech 9 = .ok (.getfield 177, 3) := by decide +kernel
theorem dX11_menWithSpeech_12 : decode cX11_menWithSpeech 12 = .ok (.if_icmp .ge 30, 3) := by decide +kernel
theorem dX11_menWithSpeech_15 : decode cX11_menWithSpeech 15 = .ok (.aload_n 0, 1) := by decide +kernel
theorem dX11_menWithSpeech_16 : decode cX11_menWithSpeech 16 = .ok (.getfield 37, 3) := by decide +kernel
theorem dX11_menWithSpeech_19 : decode cX11_menWithSpeech 19 = .ok (.iload_n 2, 1) := by decide +kernel
theorem dX11_menWithSpeech_20 : decode cX11_menWithSpeech 20 = .ok (.bipush 6, 2) := by decide +kernel
theorem dX11_menWithSpeech_22 : decode cX11_menWithSpeech 22 = .ok (.invokevirtual 105, 3) := by decide +kernel
theorem dX11_menWithSpeech_25 : decode cX11_menWithSpeech 25 = .ok (.bipush (-2), 2) := by decide +kernel
theorem dX11_menWithSpeech_27 : decode cX11_menWithSpeech 27 = .ok (.if_icmp .eq 9, 3) := by decide +kernel
theorem dX11_menWithSpeech_30 : decode cX11_menWithSpeech 30 = .ok (.iload_n 1, 1) := by decide +kernel
theorem dX11_menWithSpeech_31 : decode cX11_menWithSpeech 31 = .ok (.iconst 1, 1) := by decide +kernel
theorem dX11_menWithSpeech_32 : decode cX11_menWithSpeech 32 = .ok (.iload_n 2, 1) := by decide +kernel
theorem dX11_menWithSpeech_33 : decode cX11_menWithSpeech 33 = .ok (.ishl, 1) := by decide +kernel
theorem dX11_menWithSpeech_34 : decode cX11_menWithSpeech 34 = .ok (.ior, 1) := by decide +kernel
theorem dX11_menWithSpeech_35 : decode cX11_menWithSpeech 35 = .ok (.istore_n 1, 1) := by decide +kernel
theorem dX11_menWithSpeech_36 : decode cX11_menWithSpeech 36 = .ok (.iinc 2 1, 3) := by decide +kernel
theorem dX11_menWithSpeech_39 : decode cX11_menWithSpeech 39 = .ok (.goto (-35), 3) := by decide +kernel
theorem dX11_menWithSpeech_42 : decode cX11_menWithSpeech 42 = .ok (.iload_n 1, 1) := by decide +kernel
theorem dX11_menWithSpeech_43 : decode cX11_menWithSpeech 43 = .ok (.ireturn, 1) := by decide +kernel
theorem dX11_overAll_0 : decode cX11_overAll 0 = .ok (.iconst 0, 1) := by decide +kernel
theorem dX11_overAll_1 : decode cX11_overAll 1 = .ok (.istore_n 2, 1) := by decide +kernel
theorem dX11_overAll_2 : decode cX11_overAll 2 = .ok (.iconst 0, 1) := by decide +kernel
theorem dX11_overAll_3 : decode cX11_overAll 3 = .ok (.istore_n 3, 1) := by decide +kernel
theorem dX11_overAll_4 : decode cX11_overAll 4 = .ok (.iload_n 3, 1) := by decide +kernel
theorem dX11_overAll_5 : decode cX11_overAll 5 = .ok (.aload_n 0, 1) := by decide +kernel
theorem dX11_overAll_6 : decode cX11_overAll 6 = .ok (.getfield 30, 3) := by decide +kernel
theorem dX11_overAll_9 : decode cX11_overAll 9 = .ok (.getfield 177, 3) := by decide +kernel
theorem dX11_overAll_12 : decode cX11_overAll 12 = .ok (.if_icmp .ge 21, 3) := by decide +kernel
theorem dX11_overAll_15 : decode cX11_overAll 15 = .ok (.iload_n 2, 1) := by decide +kernel
theorem dX11_overAll_16 : decode cX11_overAll 16 = .ok (.aload_n 0, 1) := by decide +kernel
theorem dX11_overAll_17 : decode cX11_overAll 17 = .ok (.getfield 37, 3) := by decide +kernel
theorem dX11_overAll_20 : decode cX11_overAll 20 = .ok (.iload_n 3, 1) := by decide +kernel
theorem dX11_overAll_21 : decode cX11_overAll 21 = .ok (.iload_n 1, 1) := by decide +kernel
theorem dX11_overAll_22 : decode cX11_overAll 22 = .ok (.invokevirtual 105, 3) := by decide +kernel
theorem dX11_overAll_25 : decode cX11_overAll 25 = .ok (.iadd, 1) := by decide +kernel
theorem dX11_overAll_26 : decode cX11_overAll 26 = .ok (.istore_n 2, 1) := by decide +kernel
theorem dX11_overAll_27 : decode cX11_overAll 27 = .ok (.iinc 3 1, 3) := by decide +kernel
theorem dX11_overAll_30 : decode cX11_overAll 30 = .ok (.goto (-26), 3) := by decide +kernel
theorem dX11_overAll_33 : decode cX11_overAll 33 = .ok (.iload_n 2, 1) := by decide +kernel
theorem dX11_overAll_34 : decode cX11_overAll 34 = .ok (.ireturn, 1) := by decide +kernel
theorem dX11_totalOf_0 : decode cX11_totalOf 0 = .ok (.aload_n 0, 1) := by decide +kernel
theorem dX11_totalOf_1 : decode cX11_totalOf 1 = .ok (.getfield 53, 3) := by decide +kernel
theorem dX11_totalOf_4 : decode cX11_totalOf 4 = .ok (.aload_n 0, 1) := by decide +kernel
theorem dX11_totalOf_5 : decode cX11_totalOf 5 = .ok (.getfield 37, 3) := by decide +kernel
theorem dX11_totalOf_8 : decode cX11_totalOf 8 = .ok (.iload_n 1, 1) := by decide +kernel
theorem dX11_totalOf_9 : decode cX11_totalOf 9 = .ok (.invokevirtual 134, 3) := by decide +kernel
theorem dX11_totalOf_12 : decode cX11_totalOf 12 = .ok (.aload_n 0, 1) := by decide +kernel
theorem dX11_totalOf_13 : decode cX11_totalOf 13 = .ok (.getfield 53, 3) := by decide +kernel
theorem dX11_totalOf_16 : decode cX11_totalOf 16 = .ok (.iload_n 2, 1) := by decide +kernel
theorem dX11_totalOf_17 : decode cX11_totalOf 17 = .ok (.putfield 141, 3) := by decide +kernel
theorem dX11_totalOf_20 : decode cX11_totalOf 20 = .ok (.aload_n 0, 1) := by decide +kernel
theorem dX11_totalOf_21 : decode cX11_totalOf 21 = .ok (.getfield 53, 3) := by decide +kernel
theorem dX11_totalOf_24 : decode cX11_totalOf 24 = .ok (.aload_n 0, 1) := by decide +kernel
theorem dX11_totalOf_25 : decode cX11_totalOf 25 = .ok (.getfield 53, 3) := by decide +kernel
theorem dX11_totalOf_28 : decode cX11_totalOf 28 = .ok (.invokevirtual 147, 3) := by decide +kernel
theorem dX11_totalOf_31 : decode cX11_totalOf 31 = .ok (.invokevirtual 257, 3) := by decide +kernel
theorem dX11_totalOf_34 : decode cX11_totalOf 34 = .ok (.ireturn, 1) := by decide +kernel
theorem dX11_hear_0 : decode cX11_hear 0 = .ok (.aload_n 0, 1) := by decide +kernel
theorem dX11_hear_1 : decode cX11_hear 1 = .ok (.getfield 53, 3) := by decide +kernel
theorem dX11_hear_4 : decode cX11_hear 4 = .ok (.aload_n 0, 1) := by decide +kernel
theorem dX11_hear_5 : decode cX11_hear 5 = .ok (.getfield 37, 3) := by decide +kernel
theorem dX11_hear_8 : decode cX11_hear 8 = .ok (.iload_n 1, 1) := by decide +kernel
theorem dX11_hear_9 : decode cX11_hear 9 = .ok (.invokevirtual 134, 3) := by decide +kernel
theorem dX11_hear_12 : decode cX11_hear 12 = .ok (.aload_n 0, 1) := by decide +kernel
theorem dX11_hear_13 : decode cX11_hear 13 = .ok (.getfield 30, 3) := by decide +kernel
theorem dX11_hear_16 : decode cX11_hear 16 = .ok (.getfield 337, 3) := by decide +kernel
theorem dX11_hear_19 : decode cX11_hear 19 = .ok (.bipush 16, 2) := by decide +kernel
theorem dX11_hear_21 : decode cX11_hear 21 = .ok (.aload_n 0, 1) := by decide +kernel
theorem dX11_hear_22 : decode cX11_hear 22 = .ok (.getfield 37, 3) := by decide +kernel
theorem dX11_hear_25 : decode cX11_hear 25 = .ok (.invokevirtual 198, 3) := by decide +kernel
theorem dX11_hear_28 : decode cX11_hear 28 = .ok (.imul, 1) := by decide +kernel
theorem dX11_hear_29 : decode cX11_hear 29 = .ok (.iload_n 1, 1) := by decide +kernel
theorem dX11_hear_30 : decode cX11_hear 30 = .ok (.iadd, 1) := by decide +kernel
theorem dX11_hear_31 : decode cX11_hear 31 = .ok (.invokestatic 340, 3) := by decide +kernel
theorem dX11_hear_34 : decode cX11_hear 34 = .ok (.istore_n 2, 1) := by decide +kernel
theorem dX11_hear_35 : decode cX11_hear 35 = .ok (.aload_n 0, 1) := by decide +kernel
theorem dX11_hear_36 : decode cX11_hear 36 = .ok (.getfield 53, 3) := by decide +kernel
theorem dX11_hear_39 : decode cX11_hear 39 = .ok (.iload_n 2, 1) := by decide +kernel
theorem dX11_hear_40 : decode cX11_hear 40 = .ok (.aload_n 0, 1) := by decide +kernel
theorem dX11_hear_41 : decode cX11_hear 41 = .ok (.getfield 30, 3) := by decide +kernel
theorem dX11_hear_44 : decode cX11_hear 44 = .ok (.iload_n 1, 1) := by decide +kernel
theorem dX11_hear_45 : decode cX11_hear 45 = .ok (.invokevirtual 343, 3) := by decide +kernel
theorem dX11_hear_48 : decode cX11_hear 48 = .ok (.if_icmp .ge 7, 3) := by decide +kernel
theorem dX11_hear_51 : decode cX11_hear 51 = .ok (.iconst 1, 1) := by decide +kernel
theorem dX11_hear_52 : decode cX11_hear 52 = .ok (.goto 4, 3) := by decide +kernel
theorem dX11_hear_55 : decode cX11_hear 55 = .ok (.iconst 0, 1) := by decide +kernel
theorem dX11_hear_56 : decode cX11_hear 56 = .ok (.putfield 141, 3) := by decide +kernel
theorem dX11_hear_59 : decode cX11_hear 59 = .ok (.aload_n 0, 1) := by decide +kernel
theorem dX11_hear_60 : decode cX11_hear 60 = .ok (.getfield 53, 3) := by decide +kernel
theorem dX11_hear_63 : decode cX11_hear 63 = .ok (.invokevirtual 147, 3) := by decide +kernel
theorem dX11_hear_66 : decode cX11_hear 66 = .ok (.istore_n 3, 1) := by decide +kernel
theorem dX11_hear_67 : decode cX11_hear 67 = .ok (.aload_n 0, 1) := by decide +kernel
theorem dX11_hear_68 : decode cX11_hear 68 = .ok (.getfield 53, 3) := by decide +kernel
theorem dX11_hear_71 : decode cX11_hear 71 = .ok (.iload_n 3, 1) := by decide +kernel
theorem dX11_hear_72 : decode cX11_hear 72 = .ok (.invokevirtual 257, 3) := by decide +kernel
theorem dX11_hear_75 : decode cX11_hear 75 = .ok (.istore 4, 2) := by decide +kernel
theorem dX11_hear_77 : decode cX11_hear 77 = .ok (.aload_n 0, 1) := by decide +kernel
theorem dX11_hear_78 : decode cX11_hear 78 = .ok (.getfield 53, 3) := by decide +kernel
theorem dX11_hear_81 : decode cX11_hear 81 = .ok (.iload 4, 2) := by decide +kernel
theorem dX11_hear_83 : decode cX11_hear 83 = .ok (.invokevirtual 260, 3) := by decide +kernel
theorem dX11_hear_86 : decode cX11_hear 86 = .ok (.aload_n 0, 1) := by decide +kernel
theorem dX11_hear_87 : decode cX11_hear 87 = .ok (.getfield 37, 3) := by decide +kernel
theorem dX11_hear_90 : decode cX11_hear 90 = .ok (.iload_n 1, 1) := by decide +kernel
theorem dX11_hear_91 : decode cX11_hear 91 = .ok (.iconst 2, 1) := by decide +kernel
theorem dX11_hear_92 : decode cX11_hear 92 = .ok (.invokevirtual 105, 3) := by decide +kernel
theorem dX11_hear_95 : decode cX11_hear 95 = .ok (.invokestatic 263, 3) := by decide +kernel
theorem dX11_hear_98 : decode cX11_hear 98 = .ok (.istore 5, 2) := by decide +kernel
theorem dX11_hear_100 : decode cX11_hear 100 = .ok (.aload_n 0, 1) := by decide +kernel
theorem dX11_hear_101 : decode cX11_hear 101 = .ok (.getfield 37, 3) := by decide +kernel
theorem dX11_hear_104 : decode cX11_hear 104 = .ok (.iload_n 1, 1) := by decide +kernel
theorem dX11_hear_105 : decode cX11_hear 105 = .ok (.iload 5, 2) := by decide +kernel
theorem dX11_hear_107 : decode cX11_hear 107 = .ok (.invokevirtual 346, 3) := by decide +kernel
theorem dX11_hear_110 : decode cX11_hear 110 = .ok (.aload_n 0, 1) := by decide +kernel
theorem dX11_hear_111 : decode cX11_hear 111 = .ok (.getfield 37, 3) := by decide +kernel
theorem dX11_hear_114 : decode cX11_hear 114 = .ok (.iload_n 1, 1) := by decide +kernel
theorem dX11_hear_115 : decode cX11_hear 115 = .ok (.bipush 6, 2) := by decide +kernel
theorem dX11_hear_117 : decode cX11_hear 117 = .ok (.iload_n 3, 1) := by decide +kernel
theorem dX11_hear_118 : decode cX11_hear 118 = .ok (.invokevirtual 170, 3) := by decide +kernel
theorem dX11_hear_121 : decode cX11_hear 121 = .ok (.aload_n 0, 1) := by decide +kernel
theorem dX11_hear_122 : decode cX11_hear 122 = .ok (.getfield 37, 3) := by decide +kernel
theorem dX11_hear_125 : decode cX11_hear 125 = .ok (.iload_n 1, 1) := by decide +kernel
theorem dX11_hear_126 : decode cX11_hear 126 = .ok (.bipush 9, 2) := by decide +kernel
theorem dX11_hear_128 : decode cX11_hear 128 = .ok (.aload_n 0, 1) := by decide +kernel
theorem dX11_hear_129 : decode cX11_hear 129 = .ok (.getfield 37, 3) := by decide +kernel
theorem dX11_hear_132 : decode cX11_hear 132 = .ok (.iload_n 1, 1) := by decide +kernel
theorem dX11_hear_133 : decode cX11_hear 133 = .ok (.bipush 9, 2) := by decide +kernel
theorem dX11_hear_135 : decode cX11_hear 135 = .ok (.invokevirtual 105, 3) := by decide +kernel
theorem dX11_hear_138 : decode cX11_hear 138 = .ok (.aload_n 0, 1) := by decide +kernel
theorem dX11_hear_139 : decode cX11_hear 139 = .ok (.getfield 53, 3) := by decide +kernel
theorem dX11_hear_142 : decode cX11_hear 142 = .ok (.getfield 141, 3) := by decide +kernel
theorem dX11_hear_145 : decode cX11_hear 145 = .ok (.iadd, 1) := by decide +kernel
theorem dX11_hear_146 : decode cX11_hear 146 = .ok (.invokevirtual 170, 3) := by decide +kernel
theorem dX11_hear_149 : decode cX11_hear 149 = .ok (.aload_n 0, 1) := by decide +kernel
theorem dX11_hear_150 : decode cX11_hear 150 = .ok (.getfield 37, 3) := by decide +kernel
theorem dX11_hear_153 : decode cX11_hear 153 = .ok (.iload_n 1, 1) := by decide +kernel
theorem dX11_hear_154 : decode cX11_hear 154 = .ok (.iconst 5, 1) := by decide +kernel
theorem dX11_hear_155 : decode cX11_hear 155 = .ok (.iconst 0, 1) := by decide +kernel
theorem dX11_hear_156 : decode cX11_hear 156 = .ok (.invokevirtual 170, 3) := by decide +kernel
theorem dX11_hear_159 : decode cX11_hear 159 = .ok (.aload_n 0, 1) := by decide +kernel
theorem dX11_hear_160 : decode cX11_hear 160 = .ok (.getfield 37, 3) := by decide +kernel
theorem dX11_hear_163 : decode cX11_hear 163 = .ok (.iload_n 1, 1) := by decide +kernel
theorem dX11_hear_164 : decode cX11_hear 164 = .ok (.invokevirtual 167, 3) := by decide +kernel
theorem dX11_hear_167 : decode cX11_hear 167 = .ok (.aload_n 0, 1) := by decide +kernel
theorem dX11_hear_168 : decode cX11_hear 168 = .ok (.getfield 53, 3) := by decide +kernel
theorem dX11_hear_171 : decode cX11_hear 171 = .ok (.getfield 305, 3) := by decide +kernel
theorem dX11_hear_174 : decode cX11_hear 174 = .ok (.iload 4, 2) := by decide +kernel
theorem dX11_hear_176 : decode cX11_hear 176 = .ok (.invokestatic 349, 3) := by decide +kernel
theorem dX11_hear_179 : decode cX11_hear 179 = .ok (.lreturn, 1) := by decide +kernel
theorem dX11_isKnown_0 : decode cX11_isKnown 0 = .ok (.iconst 0, 1) := by decide +kernel
theorem dX11_isKnown_1 : decode cX11_isKnown 1 = .ok (.istore_n 3, 1) := by decide +kernel
theorem dX11_isKnown_2 : decode cX11_isKnown 2 = .ok (.iload_n 3, 1) := by decide +kernel
theorem dX11_isKnown_3 : decode cX11_isKnown 3 = .ok (.iload_n 2, 1) := by decide +kernel
theorem dX11_isKnown_4 : decode cX11_isKnown 4 = .ok (.if_icmp .ge 29, 3) := by decide +kernel
theorem dX11_isKnown_7 : decode cX11_isKnown 7 = .ok (.iload_n 3, 1) := by decide +kernel
theorem dX11_isKnown_8 : decode cX11_isKnown 8 = .ok (.aload_n 0, 1) := by decide +kernel
theorem dX11_isKnown_9 : decode cX11_isKnown 9 = .ok (.getfield 73, 3) := by decide +kernel
theorem dX11_isKnown_12 : decode cX11_isKnown 12 = .ok (.if_icmp .ge 21, 3) := by decide +kernel
theorem dX11_isKnown_15 : decode cX11_isKnown 15 = .ok (.aload_n 0, 1) := by decide +kernel
theorem dX11_isKnown_16 : decode cX11_isKnown 16 = .ok (.getfield 66, 3) := by decide +kernel
theorem dX11_isKnown_19 : decode cX11_isKnown 19 = .ok (.iload_n 3, 1) := by decide +kernel
theorem dX11_isKnown_20 : decode cX11_isKnown 20 = .ok (.iaload, 1) := by decide +kernel
theorem dX11_isKnown_21 : decode cX11_isKnown 21 = .ok (.iload_n 1, 1) := by decide +kernel
theorem dX11_isKnown_22 : decode cX11_isKnown 22 = .ok (.if_icmp .ne 5, 3) := by decide +kernel
theorem dX11_isKnown_25 : decode cX11_isKnown 25 = .ok (.iconst 1, 1) := by decide +kernel
theorem dX11_isKnown_26 : decode cX11_isKnown 26 = .ok (.ireturn, 1) := by decide +kernel
theorem dX11_isKnown_27 : decode cX11_isKnown 27 = .ok (.iinc 3 1, 3) := by decide +kernel
theorem dX11_isKnown_30 : decode cX11_isKnown 30 = .ok (.goto (-28), 3) := by decide +kernel
theorem dX11_isKnown_33 : decode cX11_isKnown 33 = .ok (.iconst 0, 1) := by decide +kernel
theorem dX11_isKnown_34 : decode cX11_isKnown 34 = .ok (.ireturn, 1) := by decide +kernel
theorem dX11_isAsTold_0 : decode cX11_isAsTold 0 = .ok (.iconst 0, 1) := by decide +kernel
theorem dX11_isAsTold_1 : decode cX11_isAsTold 1 = .ok (.istore 4, 2) := by decide +kernel
theorem dX11_isAsTold_3 : decode cX11_isAsTold 3 = .ok (.iload 4, 2) := by decide +kernel
theorem dX11_isAsTold_5 : decode cX11_isAsTold 5 = .ok (.iload_n 2, 1) := by decide +kernel
theorem dX11_isAsTold_6 : decode cX11_isAsTold 6 = .ok (.if_icmp .ge 42, 3) := by decide +kernel
theorem dX11_isAsTold_9 : decode cX11_isAsTold 9 = .ok (.iload 4, 2) := by decide +kernel
theorem dX11_isAsTold_11 : decode cX11_isAsTold 11 = .ok (.aload_n 0, 1) := by decide +kernel
theorem dX11_isAsTold_12 : decode cX11_isAsTold 12 = .ok (.getfield 73, 3) := by decide +kernel
theorem dX11_isAsTold_15 : decode cX11_isAsTold 15 = .ok (.if_icmp .ge 33, 3) := by decide +kernel
theorem dX11_isAsTold_18 : decode cX11_isAsTold 18 = .ok (.aload_n 0, 1) := by decide +kernel
theorem dX11_isAsTold_19 : decode cX11_isAsTold 19 = .ok (.getfield 66, 3) := by decide +kernel
theorem dX11_isAsTold_22 : decode cX11_isAsTold 22 = .ok (.iload 4, 2) := by decide +kernel
theorem dX11_isAsTold_24 : decode cX11_isAsTold 24 = .ok (.iaload, 1) := by decide +kernel
theorem dX11_isAsTold_25 : decode cX11_isAsTold 25 = .ok (.iload_n 1, 1) := by decide +kernel
theorem dX11_isAsTold_26 : decode cX11_isAsTold 26 = .ok (.if_icmp .ne 16, 3) := by decide +kernel
theorem dX11_isAsTold_29 : decode cX11_isAsTold 29 = .ok (.aload_n 0, 1) := by decide +kernel
theorem dX11_isAsTold_30 : decode cX11_isAsTold 30 = .ok (.getfield 70, 3) := by decide +kernel
theorem dX11_isAsTold_33 : decode cX11_isAsTold 33 = .ok (.iload 4, 2) := by decide +kernel
theorem dX11_isAsTold_35 : decode cX11_isAsTold 35 = .ok (.iaload, 1) := by decide +kernel
theorem dX11_isAsTold_36 : decode cX11_isAsTold 36 = .ok (.iload_n 3, 1) := by decide +kernel
theorem dX11_isAsTold_37 : decode cX11_isAsTold 37 = .ok (.if_icmp .eq 5, 3) := by decide +kernel
theorem dX11_isAsTold_40 : decode cX11_isAsTold 40 = .ok (.iconst 0, 1) := by decide +kernel
theorem dX11_isAsTold_41 : decode cX11_isAsTold 41 = .ok (.ireturn, 1) := by decide +kernel
theorem dX11_isAsTold_42 : decode cX11_isAsTold 42 = .ok (.iinc 4 1, 3) := by decide +kernel
theorem dX11_isAsTold_45 : decode cX11_isAsTold 45 = .ok (.goto (-42), 3) := by decide +kernel
theorem dX11_isAsTold_48 : decode cX11_isAsTold 48 = .ok (.iconst 1, 1) := by decide +kernel
theorem dX11_isAsTold_49 : decode cX11_isAsTold 49 = .ok (.ireturn, 1) := by decide +kernel
theorem dX11_setBetween_0 : decode cX11_setBetween 0 = .ok (.iconst 0, 1) := by decide +kernel
theorem dX11_setBetween_1 : decode cX11_setBetween 1 = .ok (.istore_n 3, 1) := by decide +kernel
theorem dX11_setBetween_2 : decode cX11_setBetween 2 = .ok (.iconst 0, 1) := by decide +kernel
theorem dX11_setBetween_3 : decode cX11_setBetween 3 = .ok (.istore 4, 2) := by decide +kernel
theorem dX11_setBetween_5 : decode cX11_setBetween 5 = .ok (.iload 4, 2) := by decide +kernel
theorem dX11_setBetween_7 : decode cX11_setBetween 7 = .ok (.sipush 128, 3) := by decide +kernel
theorem dX11_setBetween_10 : decode cX11_setBetween 10 = .ok (.if_icmp .ge 37, 3) := by decide +kernel
theorem dX11_setBetween_13 : decode cX11_setBetween 13 = .ok (.iload 4, 2) := by decide +kernel
theorem dX11_setBetween_15 : decode cX11_setBetween 15 = .ok (.iload_n 0, 1) := by decide +kernel
theorem dX11_setBetween_16 : decode cX11_setBetween 16 = .ok (.iand, 1) := by decide +kernel
theorem dX11_setBetween_17 : decode cX11_setBetween 17 = .ok (.iload_n 0, 1) := by decide +kernel
theorem dX11_setBetween_18 : decode cX11_setBetween 18 = .ok (.if_icmp .ne 23, 3) := by decide +kernel
theorem dX11_setBetween_21 : decode cX11_setBetween 21 = .ok (.iload 4, 2) := by decide +kernel
theorem dX11_setBetween_23 : decode cX11_setBetween 23 = .ok (.iload_n 1, 1) := by decide +kernel
theorem dX11_setBetween_24 : decode cX11_setBetween 24 = .ok (.iconst (-1), 1) := by decide +kernel
theorem dX11_setBetween_25 : decode cX11_setBetween 25 = .ok (.ixor, 1) := by decide +kernel
theorem dX11_setBetween_26 : decode cX11_setBetween 26 = .ok (.iand, 1) := by decide +kernel
theorem dX11_setBetween_27 : decode cX11_setBetween 27 = .ok (.ifCond .ne 14, 3) := by decide +kernel
theorem dX11_setBetween_30 : decode cX11_setBetween 30 = .ok (.iload_n 3, 1) := by decide +kernel
theorem dX11_setBetween_31 : decode cX11_setBetween 31 = .ok (.iload_n 2, 1) := by decide +kernel
theorem dX11_setBetween_32 : decode cX11_setBetween 32 = .ok (.if_icmp .ne 6, 3) := by decide +kernel
theorem dX11_setBetween_35 : decode cX11_setBetween 35 = .ok (.iload 4, 2) := by decide +kernel
theorem dX11_setBetween_37 : decode cX11_setBetween 37 = .ok (.ireturn, 1) := by decide +kernel
theorem dX11_setBetween_38 : decode cX11_setBetween 38 = .ok (.iinc 3 1, 3) := by decide +kernel
theorem dX11_setBetween_41 : decode cX11_setBetween 41 = .ok (.iinc 4 1, 3) := by decide +kernel
theorem dX11_setBetween_44 : decode cX11_setBetween 44 = .ok (.goto (-39), 3) := by decide +kernel
theorem dX11_setBetween_47 : decode cX11_setBetween 47 = .ok (.iload_n 2, 1) := by decide +kernel
theorem dX11_setBetween_48 : decode cX11_setBetween 48 = .ok (.iconst (-1), 1) := by decide +kernel
theorem dX11_setBetween_49 : decode cX11_setBetween 49 = .ok (.if_icmp .ne 7, 3) := by decide +kernel
theorem dX11_setBetween_52 : decode cX11_setBetween 52 = .ok (.iload_n 3, 1) := by decide +kernel
theorem dX11_setBetween_53 : decode cX11_setBetween 53 = .ok (.goto 4, 3) := by decide +kernel
theorem dX11_setBetween_56 : decode cX11_setBetween 56 = .ok (.iconst (-1), 1) := by decide +kernel
theorem dX11_setBetween_57 : decode cX11_setBetween 57 = .ok (.ireturn, 1) := by decide +kernel
theorem dX11_lessened_0 : decode cX11_lessened 0 = .ok (.iload_n 1, 1) := by decide +kernel
theorem dX11_lessened_1 : decode cX11_lessened 1 = .ok (.istore_n 3, 1) := by decide +kernel
theorem dX11_lessened_2 : decode cX11_lessened 2 = .ok (.iload_n 0, 1) := by decide +kernel
theorem dX11_lessened_3 : decode cX11_lessened 3 = .ok (.istore 4, 2) := by decide +kernel
theorem dX11_lessened_5 : decode cX11_lessened 5 = .ok (.iconst 0, 1) := by decide +kernel
theorem dX11_lessened_6 : decode cX11_lessened 6 = .ok (.istore 5, 2) := by decide +kernel
theorem dX11_lessened_8 : decode cX11_lessened 8 = .ok (.iload 5, 2) := by decide +kernel
theorem dX11_lessened_10 : decode cX11_lessened 10 = .ok (.bipush 64, 2) := by decide +kernel
theorem dX11_lessened_12 : decode cX11_lessened 12 = .ok (.if_icmp .ge 27, 3) := by decide +kernel
theorem dX11_lessened_15 : decode cX11_lessened 15 = .ok (.iload 4, 2) := by decide +kernel
theorem dX11_lessened_17 : decode cX11_lessened 17 = .ok (.ifCond .eq 22, 3) := by decide +kernel
theorem dX11_lessened_20 : decode cX11_lessened 20 = .ok (.iload_n 3, 1) := by decide +kernel
theorem dX11_lessened_21 : decode cX11_lessened 21 = .ok (.iload 4, 2) := by decide +kernel
theorem dX11_lessened_23 : decode cX11_lessened 23 = .ok (.irem, 1) := by decide +kernel
theorem dX11_lessened_24 : decode cX11_lessened 24 = .ok (.istore 6, 2) := by decide +kernel
theorem dX11_lessened_26 : decode cX11_lessened 26 = .ok (.iload 4, 2) := by decide +kernel
theorem dX11_lessened_28 : decode cX11_lessened 28 = .ok (.istore_n 3, 1) := by decide +kernel
theorem dX11_lessened_29 : decode cX11_lessened 29 = .ok (.iload 6, 2) := by decide +kernel
theorem dX11_lessened_31 : decode cX11_lessened 31 = .ok (.istore 4, 2) := by decide +kernel
theorem dX11_lessened_33 : decode cX11_lessened 33 = .ok (.iinc 5 1, 3) := by decide +kernel
theorem dX11_lessened_36 : decode cX11_lessened 36 = .ok (.goto (-28), 3) := by decide +kernel
theorem dX11_lessened_39 : decode cX11_lessened 39 = .ok (.iload_n 2, 1) := by decide +kernel
theorem dX11_lessened_40 : decode cX11_lessened 40 = .ok (.ifCond .eq 7, 3) := by decide +kernel
theorem dX11_lessened_43 : decode cX11_lessened 43 = .ok (.iload_n 1, 1) := by decide +kernel
theorem dX11_lessened_44 : decode cX11_lessened 44 = .ok (.goto 4, 3) := by decide +kernel
theorem dX11_lessened_47 : decode cX11_lessened 47 = .ok (.iload_n 0, 1) := by decide +kernel
theorem dX11_lessened_48 : decode cX11_lessened 48 = .ok (.istore 5, 2) := by decide +kernel
theorem dX11_lessened_50 : decode cX11_lessened 50 = .ok (.iload_n 3, 1) := by decide +kernel
theorem dX11_lessened_51 : decode cX11_lessened 51 = .ok (.ifCond .ne 8, 3) := by decide +kernel
theorem dX11_lessened_54 : decode cX11_lessened 54 = .ok (.iload 5, 2) := by decide +kernel
theorem dX11_lessened_56 : decode cX11_lessened 56 = .ok (.goto 7, 3) := by decide +kernel
theorem dX11_lessened_59 : decode cX11_lessened 59 = .ok (.iload 5, 2) := by decide +kernel
theorem dX11_lessened_61 : decode cX11_lessened 61 = .ok (.iload_n 3, 1) := by decide +kernel
theorem dX11_lessened_62 : decode cX11_lessened 62 = .ok (.idiv, 1) := by decide +kernel
theorem dX11_lessened_63 : decode cX11_lessened 63 = .ok (.ireturn, 1) := by decide +kernel
theorem dX11_lotOfTen_0 : decode cX11_lotOfTen 0 = .ok (.iload_n 0, 1) := by decide +kernel
theorem dX11_lotOfTen_1 : decode cX11_lotOfTen 1 = .ok (.bipush 65, 2) := by decide +kernel
theorem dX11_lotOfTen_3 : decode cX11_lotOfTen 3 = .ok (.invokestatic 353, 3) := by decide +kernel
theorem dX11_lotOfTen_6 : decode cX11_lotOfTen 6 = .ok (.iload_n 1, 1) := by decide +kernel
theorem dX11_lotOfTen_7 : decode cX11_lotOfTen 7 = .ok (.invokestatic 353, 3) := by decide +kernel
theorem dX11_lotOfTen_10 : decode cX11_lotOfTen 10 = .ok (.istore_n 2, 1) := by decide +kernel
theorem dX11_lotOfTen_11 : decode cX11_lotOfTen 11 = .ok (.iload_n 2, 1) := by decide +kernel
theorem dX11_lotOfTen_12 : decode cX11_lotOfTen 12 = .ok (.iconst 1, 1) := by decide +kernel
theorem dX11_lotOfTen_13 : decode cX11_lotOfTen 13 = .ok (.iushr, 1) := by decide +kernel
theorem dX11_lotOfTen_14 : decode cX11_lotOfTen 14 = .ok (.bipush 10, 2) := by decide +kernel
theorem dX11_lotOfTen_16 : decode cX11_lotOfTen 16 = .ok (.irem, 1) := by decide +kernel
theorem dX11_lotOfTen_17 : decode cX11_lotOfTen 17 = .ok (.ireturn, 1) := by decide +kernel
theorem dX11_stirred_0 : decode cX11_stirred 0 = .ok (.iload_n 0, 1) := by decide +kernel
theorem dX11_stirred_1 : decode cX11_stirred 1 = .ok (.iload_n 1, 1) := by decide +kernel
theorem dX11_stirred_2 : decode cX11_stirred 2 = .ok (.ixor, 1) := by decide +kernel
theorem dX11_stirred_3 : decode cX11_stirred 3 = .ok (.ldc_w 356, 3) := by decide +kernel
theorem dX11_stirred_6 : decode cX11_stirred 6 = .ok (.imul, 1) := by decide +kernel
theorem dX11_stirred_7 : decode cX11_stirred 7 = .ok (.sipush 12345, 3) := by decide +kernel
theorem dX11_stirred_10 : decode cX11_stirred 10 = .ok (.iadd, 1) := by decide +kernel
theorem dX11_stirred_11 : decode cX11_stirred 11 = .ok (.istore_n 2, 1) := by decide +kernel
theorem dX11_stirred_12 : decode cX11_stirred 12 = .ok (.iload_n 2, 1) := by decide +kernel
theorem dX11_stirred_13 : decode cX11_stirred 13 = .ok (.iload_n 2, 1) := by decide +kernel
theorem dX11_stirred_14 : decode cX11_stirred 14 = .ok (.bipush 15, 2) := by decide +kernel
theorem dX11_stirred_16 : decode cX11_stirred 16 = .ok (.iushr, 1) := by decide +kernel
theorem dX11_stirred_17 : decode cX11_stirred 17 = .ok (.ixor, 1) := by decide +kernel
theorem dX11_stirred_18 : decode cX11_stirred 18 = .ok (.ireturn, 1) := by decide +kernel
theorem dX12_init_0 : decode cX12_init 0 = .ok (.aload_n 0, 1) := by decide +kernel
theorem dX12_init_1 : decode cX12_init 1 = .ok (.invokespecial 7, 3) := by decide +kernel
theorem dX12_init_4 : decode cX12_init 4 = .ok (.aload_n 0, 1) := by decide +kernel
theorem dX12_init_5 : decode cX12_init 5 = .ok (.sipush 2000, 3) := by decide +kernel
theorem dX12_init_8 : decode cX12_init 8 = .ok (.newarray .byte, 2) := by decide +kernel
theorem dX12_init_10 : decode cX12_init 10 = .ok (.putfield 13, 3) := by decide +kernel
theorem dX12_init_13 : decode cX12_init 13 = .ok (.aload_n 0, 1) := by decide +kernel
theorem dX12_init_14 : decode cX12_init 14 = .ok (.sipush 2000, 3) := by decide +kernel
theorem dX12_init_17 : decode cX12_init 17 = .ok (.newarray .byte, 2) := by decide +kernel
theorem dX12_init_19 : decode cX12_init 19 = .ok (.putfield 17, 3) := by decide +kernel
theorem dX12_init_22 : decode cX12_init 22 = .ok (.aload_n 0, 1) := by decide +kernel
theorem dX12_init_23 : decode cX12_init 23 = .ok (.sipush 403, 3) := by decide +kernel
theorem dX12_init_26 : decode cX12_init 26 = .ok (.newarray .int, 2) := by decide +kernel
theorem dX12_init_28 : decode cX12_init 28 = .ok (.putfield 20, 3) := by decide +kernel
theorem dX12_init_31 : decode cX12_init 31 = .ok (.aload_n 0, 1) := by decide +kernel
theorem dX12_init_32 : decode cX12_init 32 = .ok (.sipush 403, 3) := by decide +kernel
theorem dX12_init_35 : decode cX12_init 35 = .ok (.newarray .int, 2) := by decide +kernel
theorem dX12_init_37 : decode cX12_init 37 = .ok (.putfield 24, 3) := by decide +kernel
theorem dX12_init_40 : decode cX12_init 40 = .ok (.aload_n 0, 1) := by decide +kernel
theorem dX12_init_41 : decode cX12_init 41 = .ok (.sipush 403, 3) := by decide +kernel
theorem dX12_init_44 : decode cX12_init 44 = .ok (.newarray .int, 2) := by decide +kernel
theorem dX12_init_46 : decode cX12_init 46 = .ok (.putfield 27, 3) := by decide +kernel
theorem dX12_init_49 : decode cX12_init 49 = .ok (.aload_n 0, 1) := by decide +kernel
theorem dX12_init_50 : decode cX12_init 50 = .ok (.sipush 403, 3) := by decide +kernel
theorem dX12_init_53 : decode cX12_init 53 = .ok (.newarray .long, 2) := by decide +kernel
theorem dX12_init_55 : decode cX12_init 55 = .ok (.putfield 30, 3) := by decide +kernel
theorem dX12_init_58 : decode cX12_init 58 = .ok (.aload_n 0, 1) := by decide +kernel
theorem dX12_init_59 : decode cX12_init 59 = .ok (.bipush 20, 2) := by decide +kernel
theorem dX12_init_61 : decode cX12_init 61 = .ok (.newarray .long, 2) := by decide +kernel
theorem dX12_init_63 : decode cX12_init 63 = .ok (.putfield 34, 3) := by decide +kernel
theorem dX12_init_66 : decode cX12_init 66 = .ok (.aload_n 0, 1) := by decide +kernel
theorem dX12_init_67 : decode cX12_init 67 = .ok (.iconst (-1), 1) := by decide +kernel
theorem dX12_init_68 : decode cX12_init 68 = .ok (.putfield 37, 3) := by decide +kernel
theorem dX12_init_71 : decode cX12_init 71 = .ok (.aload_n 0, 1) := by decide +kernel
theorem dX12_init_72 : decode cX12_init 72 = .ok (.bipush 20, 2) := by decide +kernel
theorem dX12_init_74 : decode cX12_init 74 = .ok (.newarray .long, 2) := by decide +kernel
theorem dX12_init_76 : decode cX12_init 76 = .ok (.putfield 40, 3) := by decide +kernel
theorem dX12_init_79 : decode cX12_init 79 = .ok (.aload_n 0, 1) := by decide +kernel
theorem dX12_init_80 : decode cX12_init 80 = .ok (.iconst 2, 1) := by decide +kernel
theorem dX12_init_81 : decode cX12_init 81 = .ok (.newarray .int, 2) := by decide +kernel
theorem dX12_init_83 : decode cX12_init 83 = .ok (.putfield 43, 3) := by decide +kernel
theorem dX12_init_86 : decode cX12_init 86 = .ok (.aload_n 0, 1) := by decide +kernel
theorem dX12_init_87 : decode cX12_init 87 = .ok (.iconst 2, 1) := by decide +kernel
theorem dX12_init_88 : decode cX12_init 88 = .ok (.newarray .int, 2) := by decide +kernel
theorem dX12_init_90 : decode cX12_init 90 = .ok (.putfield 46, 3) := by decide +kernel
theorem dX12_init_93 : decode cX12_init 93 = .ok (.aload_n 0, 1) := by decide +kernel
theorem dX12_init_94 : decode cX12_init 94 = .ok (.bipush 14, 2) := by decide +kernel
theorem dX12_init_96 : decode cX12_init 96 = .ok (.newarray .int, 2) := by decide +kernel
theorem dX12_init_98 : decode cX12_init 98 = .ok (.putfield 49, 3) := by decide +kernel
theorem dX12_init_101 : decode cX12_init 101 = .ok (.aload_n 0, 1) := by decide +kernel
theorem dX12_init_102 : decode cX12_init 102 = .ok (.bipush 14, 2) := by decide +kernel
theorem dX12_init_104 : decode cX12_init 104 = .ok (.newarray .int, 2) := by decide +kernel
theorem dX12_init_106 : decode cX12_init 106 = .ok (.putfield 52, 3) := by decide +kernel
theorem dX12_init_109 : decode cX12_init 109 = .ok (.aload_n 0, 1) := by decide +kernel
theorem dX12_init_110 : decode cX12_init 110 = .ok (.bipush 14, 2) := by decide +kernel
theorem dX12_init_112 : decode cX12_init 112 = .ok (.newarray .int, 2) := by decide +kernel
theorem dX12_init_114 : decode cX12_init 114 = .ok (.putfield 55, 3) := by decide +kernel
theorem dX12_init_117 : decode cX12_init 117 = .ok (.aload_n 0, 1) := by decide +kernel
theorem dX12_init_118 : decode cX12_init 118 = .ok (.bipush 14, 2) := by decide +kernel
theorem dX12_init_120 : decode cX12_init 120 = .ok (.newarray .int, 2) := by decide +kernel
theorem dX12_init_122 : decode cX12_init 122 = .ok (.putfield 58, 3) := by decide +kernel
theorem dX12_init_125 : decode cX12_init 125 = .ok (.aload_n 0, 1) := by decide +kernel
theorem dX12_init_126 : decode cX12_init 126 = .ok (.iconst 2, 1) := by decide +kernel
theorem dX12_init_127 : decode cX12_init 127 = .ok (.newarray .int, 2) := by decide +kernel
theorem dX12_init_129 : decode cX12_init 129 = .ok (.putfield 61, 3) := by decide +kernel
theorem dX12_init_132 : decode cX12_init 132 = .ok (.aload_n 0, 1) := by decide +kernel
theorem dX12_init_133 : decode cX12_init 133 = .ok (.bipush 30, 2) := by decide +kernel
theorem dX12_init_135 : decode cX12_init 135 = .ok (.newarray .int, 2) := by decide +kernel
theorem dX12_init_137 : decode cX12_init 137 = .ok (.putfield 64, 3) := by decide +kernel
theorem dX12_init_140 : decode cX12_init 140 = .ok (.aload_n 0, 1) := by decide +kernel
theorem dX12_init_141 : decode cX12_init 141 = .ok (.iconst 2, 1) := by decide +kernel
theorem dX12_init_142 : decode cX12_init 142 = .ok (.newarray .int, 2) := by decide +kernel
theorem dX12_init_144 : decode cX12_init 144 = .ok (.putfield 67, 3) := by decide +kernel
theorem dX12_init_147 : decode cX12_init 147 = .ok (.aload_n 0, 1) := by decide +kernel
theorem dX12_init_148 : decode cX12_init 148 = .ok (.bipush 16, 2) := by decide +kernel
theorem dX12_init_150 : decode cX12_init 150 = .ok (.newarray .int, 2) := by decide +kernel
theorem dX12_init_152 : decode cX12_init 152 = .ok (.putfield 70, 3) := by decide +kernel
theorem dX12_init_155 : decode cX12_init 155 = .ok (.aload_n 0, 1) := by decide +kernel
theorem dX12_init_156 : decode cX12_init 156 = .ok (.iconst 2, 1) := by decide +kernel
theorem dX12_init_157 : decode cX12_init 157 = .ok (.newarray .int, 2) := by decide +kernel
theorem dX12_init_159 : decode cX12_init 159 = .ok (.putfield 73, 3) := by decide +kernel
theorem dX12_init_162 : decode cX12_init 162 = .ok (.aload_n 0, 1) := by decide +kernel
theorem dX12_init_163 : decode cX12_init 163 = .ok (.bipush 6, 2) := by decide +kernel
theorem dX12_init_165 : decode cX12_init 165 = .ok (.newarray .int, 2) := by decide +kernel
theorem dX12_init_167 : decode cX12_init 167 = .ok (.putfield 76, 3) := by decide +kernel
theorem dX12_init_170 : decode cX12_init 170 = .ok (.aload_n 0, 1) := by decide +kernel
theorem dX12_init_171 : decode cX12_init 171 = .ok (.bipush 6, 2) := by decide +kernel
theorem dX12_init_173 : decode cX12_init 173 = .ok (.newarray .int, 2) := by decide +kernel
theorem dX12_init_175 : decode cX12_init 175 = .ok (.putfield 79, 3) := by decide +kernel
theorem dX12_init_178 : decode cX12_init 178 = .ok (.aload_n 0, 1) := by decide +kernel
theorem dX12_init_179 : decode cX12_init 179 = .ok (.sipush 260, 3) := by decide +kernel
theorem dX12_init_182 : decode cX12_init 182 = .ok (.newarray .boolean, 2) := by decide +kernel
theorem dX12_init_184 : decode cX12_init 184 = .ok (.putfield 82, 3) := by decide +kernel
theorem dX12_init_187 : decode cX12_init 187 = .ok (.aload_n 0, 1) := by decide +kernel
theorem dX12_init_188 : decode cX12_init 188 = .ok (.sipush 260, 3) := by decide +kernel
theorem dX12_init_191 : decode cX12_init 191 = .ok (.newarray .int, 2) := by decide +kernel
theorem dX12_init_193 : decode cX12_init 193 = .ok (.putfield 86, 3) := by decide +kernel
theorem dX12_init_196 : decode cX12_init 196 = .ok (.aload_n 0, 1) := by decide +kernel
theorem dX12_init_197 : decode cX12_init 197 = .ok (.sipush 260, 3) := by decide +kernel
theorem dX12_init_200 : decode cX12_init 200 = .ok (.newarray .int, 2) := by decide +kernel
theorem dX12_init_202 : decode cX12_init 202 = .ok (.putfield 89, 3) := by decide +kernel
theorem dX12_init_205 : decode cX12_init 205 = .ok (.aload_n 0, 1) := by decide +kernel
theorem dX12_init_206 : decode cX12_init 206 = .ok (.sipush 260, 3) := by decide +kernel
theorem dX12_init_209 : decode cX12_init 209 = .ok (.newarray .int, 2) := by decide +kernel
theorem dX12_init_211 : decode cX12_init 211 = .ok (.putfield 92, 3) := by decide +kernel
theorem dX12_init_214 : decode cX12_init 214 = .ok (.aload_n 0, 1) := by decide +kernel
theorem dX12_init_215 : decode cX12_init 215 = .ok (.sipush 260, 3) := by decide +kernel
theorem dX12_init_218 : decode cX12_init 218 = .ok (.newarray .int, 2) := by decide +kernel
theorem dX12_init_220 : decode cX12_init 220 = .ok (.putfield 95, 3) := by decide +kernel
theorem dX12_init_223 : decode cX12_init 223 = .ok (.aload_n 0, 1) := by decide +kernel
theorem dX12_init_224 : decode cX12_init 224 = .ok (.sipush 840, 3) := by decide +kernel
theorem dX12_init_227 : decode cX12_init 227 = .ok (.newarray .int, 2) := by decide +kernel
theorem dX12_init_229 : decode cX12_init 229 = .ok (.putfield 98, 3) := by decide +kernel
theorem dX12_init_232 : decode cX12_init 232 = .ok (.aload_n 0, 1) := by decide +kernel
theorem dX12_init_233 : decode cX12_init 233 = .ok (.sipush 840, 3) := by decide +kernel
theorem dX12_init_236 : decode cX12_init 236 = .ok (.newarray .int, 2) := by decide +kernel
theorem dX12_init_238 : decode cX12_init 238 = .ok (.putfield 101, 3) := by decide +kernel
theorem dX12_init_241 : decode cX12_init 241 = .ok (.aload_n 0, 1) := by decide +kernel
theorem dX12_init_242 : decode cX12_init 242 = .ok (.bipush 64, 2) := by decide +kernel
theorem dX12_init_244 : decode cX12_init 244 = .ok (.newarray .int, 2) := by decide +kernel
theorem dX12_init_246 : decode cX12_init 246 = .ok (.putfield 104, 3) := by decide +kernel
theorem dX12_init_249 : decode cX12_init 249 = .ok (.aload_n 0, 1) := by decide +kernel
theorem dX12_init_250 : decode cX12_init 250 = .ok (.bipush 9, 2) := by decide +kernel
theorem dX12_init_252 : decode cX12_init 252 = .ok (.newarray .int, 2) := by decide +kernel
theorem dX12_init_254 : decode cX12_init 254 = .ok (.putfield 107, 3) := by decide +kernel
theorem dX12_init_257 : decode cX12_init 257 = .ok (.aload_n 0, 1) := by decide +kernel
theorem dX12_init_258 : decode cX12_init 258 = .ok (.sipush 400, 3) := by decide +kernel
theorem dX12_init_261 : decode cX12_init 261 = .ok (.newarray .int, 2) := by decide +kernel
theorem dX12_init_263 : decode cX12_init 263 = .ok (.putfield 110, 3) := by decide +kernel
theorem dX12_init_266 : decode cX12_init 266 = .ok (.aload_n 0, 1) := by decide +kernel
theorem dX12_init_267 : decode cX12_init 267 = .ok (.bipush 80, 2) := by decide +kernel
theorem dX12_init_269 : decode cX12_init 269 = .ok (.newarray .int, 2) := by decide +kernel
theorem dX12_init_271 : decode cX12_init 271 = .ok (.putfield 113, 3) := by decide +kernel
theorem dX12_init_274 : decode cX12_init 274 = .ok (.aload_n 0, 1) := by decide +kernel
theorem dX12_init_275 : decode cX12_init 275 = .ok (.bipush 80, 2) := by decide +kernel
theorem dX12_init_277 : decode cX12_init 277 = .ok (.newarray .int, 2) := by decide +kernel
theorem dX12_init_279 : decode cX12_init 279 = .ok (.putfield 116, 3) := by decide +kernel
theorem dX12_init_282 : decode cX12_init 282 = .ok (.aload_n 0, 1) := by decide +kernel
theorem dX12_init_283 : decode cX12_init 283 = .ok (.iconst 3, 1) := by decide +kernel
theorem dX12_init_284 : decode cX12_init 284 = .ok (.newarray .int, 2) := by decide +kernel
theorem dX12_init_286 : decode cX12_init 286 = .ok (.putfield 119, 3) := by decide +kernel
theorem dX12_init_289 : decode cX12_init 289 = .ok (.aload_n 0, 1) := by decide +kernel
theorem dX12_init_290 : decode cX12_init 290 = .ok (.iconst 3, 1) := by decide +kernel
theorem dX12_init_291 : decode cX12_init 291 = .ok (.newarray .int, 2) := by decide +kernel
theorem dX12_init_293 : decode cX12_init 293 = .ok (.putfield 122, 3) := by decide +kernel
theorem dX12_init_296 : decode cX12_init 296 = .ok (.aload_n 0, 1) := by decide +kernel
theorem dX12_init_297 : decode cX12_init 297 = .ok (.sipush 3200, 3) := by decide +kernel
theorem dX12_init_300 : decode cX12_init 300 = .ok (.newarray .int, 2) := by decide +kernel
theorem dX12_init_302 : decode cX12_init 302 = .ok (.putfield 125, 3) := by decide +kernel
theorem dX12_init_305 : decode cX12_init 305 = .ok (.aload_n 0, 1) := by decide +kernel
theorem dX12_init_306 : decode cX12_init 306 = .ok (.iconst 3, 1) := by decide +kernel
theorem dX12_init_307 : decode cX12_init 307 = .ok (.newarray .int, 2) := by decide +kernel
theorem dX12_init_309 : decode cX12_init 309 = .ok (.putfield 128, 3) := by decide +kernel
theorem dX12_init_312 : decode cX12_init 312 = .ok (.aload_n 0, 1) := by decide +kernel
theorem dX12_init_313 : decode cX12_init 313 = .ok (.sipush 128, 3) := by decide +kernel
theorem dX12_init_316 : decode cX12_init 316 = .ok (.newarray .int, 2) := by decide +kernel
theorem dX12_init_318 : decode cX12_init 318 = .ok (.putfield 131, 3) := by decide +kernel
theorem dX12_init_321 : decode cX12_init 321 = .ok (.aload_n 0, 1) := by decide +kernel
theorem dX12_init_322 : decode cX12_init 322 = .ok (.bipush 20, 2) := by decide +kernel
theorem dX12_init_324 : decode cX12_init 324 = .ok (.newarray .int, 2) := by decide +kernel
theorem dX12_init_326 : decode cX12_init 326 = .ok (.putfield 134, 3) := by decide +kernel
theorem dX12_init_329 : decode cX12_init 329 = .ok (.aload_n 0, 1) := by decide +kernel
theorem dX12_init_330 : decode cX12_init 330 = .ok (.bipush 20, 2) := by decide +kernel
theorem dX12_init_332 : decode cX12_init 332 = .ok (.newarray .int, 2) := by decide +kernel
theorem dX12_init_334 : decode cX12_init 334 = .ok (.putfield 137, 3) := by decide +kernel
theorem dX12_init_337 : decode cX12_init 337 = .ok (.aload_n 0, 1) := by decide +kernel
theorem dX12_init_338 : decode cX12_init 338 = .ok (.bipush 14, 2) := by decide +kernel
theorem dX12_init_340 : decode cX12_init 340 = .ok (.newarray .boolean, 2) := by decide +kernel
theorem dX12_init_342 : decode cX12_init 342 = .ok (.putfield 140, 3) := by decide +kernel
theorem dX12_init_345 : decode cX12_init 345 = .ok (.aload_n 0, 1) := by decide +kernel
theorem dX12_init_346 : decode cX12_init 346 = .ok (.iconst 3, 1) := by decide +kernel
theorem dX12_init_347 : decode cX12_init 347 = .ok (.newarray .boolean, 2) := by decide +kernel
theorem dX12_init_349 : decode cX12_init 349 = .ok (.putfield 143, 3) := by decide +kernel
theorem dX12_init_352 : decode cX12_init 352 = .ok (.aload_n 0, 1) := by decide +kernel
theorem dX12_init_353 : decode cX12_init 353 = .ok (.sipush 240, 3) := by decide +kernel
theorem dX12_init_356 : decode cX12_init 356 = .ok (.newarray .int, 2) := by decide +kernel
theorem dX12_init_358 : decode cX12_init 358 = .ok (.putfield 146, 3) := by decide +kernel
theorem dX12_init_361 : decode cX12_init 361 = .ok (.aload_n 0, 1) := by decide +kernel
theorem dX12_init_362 : decode cX12_init 362 = .ok (.iconst 0, 1) := by decide +kernel
theorem dX12_init_363 : decode cX12_init 363 = .ok (.invokevirtual 149, 3) := by decide +kernel
theorem dX12_init_366 : decode cX12_init 366 = .ok (.aload_n 0, 1) := by decide +kernel
theorem dX12_init_367 : decode cX12_init 367 = .ok (.getfield 34, 3) := by decide +kernel
theorem dX12_init_370 : decode cX12_init 370 = .ok (.iconst 0, 1) := by decide +kernel
theorem dX12_init_371 : decode cX12_init 371 = .ok (.bipush 115, 2) := by decide +kernel
theorem dX12_init_373 : decode cX12_init 373 = .ok (.bipush 105, 2) := by decide +kernel
theorem dX12_init_375 : decode cX12_init 375 = .ok (.bipush 100, 2) := by decide +kernel
theorem dX12_init_377 : decode cX12_init 377 = .ok (.bipush 101, 2) := by decide +kernel
theorem dX12_init_379 : decode cX12_init 379 = .ok (.bipush 115, 2) := by decide +kernel
theorem dX12_init_381 : decode cX12_init 381 = .ok (.iconst 0, 1) := by decide +kernel
theorem dX12_init_382 : decode cX12_init 382 = .ok (.iconst 0, 1) := by decide +kernel
theorem dX12_init_383 : decode cX12_init 383 = .ok (.invokestatic 153, 3) := by decide +kernel
theorem dX12_init_386 : decode cX12_init 386 = .ok (.lastore, 1) := by decide +kernel
theorem dX12_init_387 : decode cX12_init 387 = .ok (.aload_n 0, 1) := by decide +kernel
theorem dX12_init_388 : decode cX12_init 388 = .ok (.getfield 34, 3) := by decide +kernel
theorem dX12_init_391 : decode cX12_init 391 = .ok (.iconst 1, 1) := by decide +kernel
theorem dX12_init_392 : decode cX12_init 392 = .ok (.bipush 109, 2) := by decide +kernel
theorem dX12_init_394 : decode cX12_init 394 = .ok (.bipush 97, 2) := by decide +kernel
theorem dX12_init_396 : decode cX12_init 396 = .ok (.bipush 110, 2) := by decide +kernel
theorem dX12_init_398 : decode cX12_init 398 = .ok (.iconst 0, 1) := by decide +kernel
theorem dX12_init_399 : decode cX12_init 399 = .ok (.iconst 0, 1) := by decide +kernel
theorem dX12_init_400 : decode cX12_init 400 = .ok (.iconst 0, 1) := by decide +kernel
theorem dX12_init_401 : decode cX12_init 401 = .ok (.iconst 0, 1) := by decide +kernel
theorem dX12_init_402 : decode cX12_init 402 = .ok (.invokestatic 153, 3) := by decide +kernel
theorem dX12_init_405 : decode cX12_init 405 = .ok (.lastore, 1) := by decide +kernel
theorem dX12_init_406 : decode cX12_init 406 = .ok (.aload_n 0, 1) := by decide +kernel
theorem dX12_init_407 : decode cX12_init 407 = .ok (.getfield 34, 3) := by decide +kernel
theorem dX12_init_410 : decode cX12_init 410 = .ok (.iconst 2, 1) := by decide +kernel
theorem dX12_init_411 : decode cX12_init 411 = .ok (.bipush 109, 2) := by decide +kernel
theorem dX12_init_413 : decode cX12_init 413 = .ok (.bipush 111, 2) := by decide +kernel
theorem dX12_init_415 : decode cX12_init 415 = .ok (.bipush 116, 2) := by decide +kernel
theorem dX12_init_417 : decode cX12_init 417 = .ok (.bipush 105, 2) := by decide +kernel
theorem dX12_init_419 : decode cX12_init 419 = .ok (.bipush 111, 2) := by decide +kernel
theorem dX12_init_421 : decode cX12_init 421 = .ok (.bipush 110, 2) := by decide +kernel
theorem dX12_init_423 : decode cX12_init 423 = .ok (.iconst 0, 1) := by decide +kernel
theorem dX12_init_424 : decode cX12_init 424 = .ok (.invokestatic 153, 3) := by decide +kernel
theorem dX12_init_427 : decode cX12_init 427 = .ok (.lastore, 1) := by decide +kernel
theorem dX12_init_428 : decode cX12_init 428 = .ok (.aload_n 0, 1) := by decide +kernel
theorem dX12_init_429 : decode cX12_init 429 = .ok (.getfield 34, 3) := by decide +kernel
theorem dX12_init_432 : decode cX12_init 432 = .ok (.iconst 3, 1) := by decide +kernel
theorem dX12_init_433 : decode cX12_init 433 = .ok (.bipush 106, 2) := by decide +kernel
theorem dX12_init_435 : decode cX12_init 435 = .ok (.bipush 117, 2) := by decide +kernel
theorem dX12_init_437 : decode cX12_init 437 = .ok (.bipush 114, 2) := by decide +kernel
theorem dX12_init_439 : decode cX12_init 439 = .ok (.bipush 111, 2) := by decide +kernel
theorem dX12_init_441 : decode cX12_init 441 = .ok (.bipush 114, 2) := by decide +kernel
theorem dX12_init_443 : decode cX12_init 443 = .ok (.iconst 0, 1) := by decide +kernel
theorem dX12_init_444 : decode cX12_init 444 = .ok (.iconst 0, 1) := by decide +kernel
theorem dX12_init_445 : decode cX12_init 445 = .ok (.invokestatic 153, 3) := by decide +kernel
theorem dX12_init_448 : decode cX12_init 448 = .ok (.lastore, 1) := by decide +kernel
theorem dX12_init_449 : decode cX12_init 449 = .ok (.aload_n 0, 1) := by decide +kernel
theorem dX12_init_450 : decode cX12_init 450 = .ok (.getfield 34, 3) := by decide +kernel
theorem dX12_init_453 : decode cX12_init 453 = .ok (.iconst 4, 1) := by decide +kernel
theorem dX12_init_454 : decode cX12_init 454 = .ok (.bipush 97, 2) := by decide +kernel
theorem dX12_init_456 : decode cX12_init 456 = .ok (.bipush 114, 2) := by decide +kernel
theorem dX12_init_458 : decode cX12_init 458 = .ok (.bipush 103, 2) := by decide +kernel
theorem dX12_init_460 : decode cX12_init 460 = .ok (.bipush 117, 2) := by decide +kernel
theorem dX12_init_462 : decode cX12_init 462 = .ok (.bipush 101, 2) := by decide +kernel
theorem dX12_init_464 : decode cX12_init 464 = .ok (.bipush 115, 2) := by decide +kernel
theorem dX12_init_466 : decode cX12_init 466 = .ok (.iconst 0, 1) := by decide +kernel
theorem dX12_init_467 : decode cX12_init 467 = .ok (.invokestatic 153, 3) := by decide +kernel
theorem dX12_init_470 : decode cX12_init 470 = .ok (.lastore, 1) := by decide +kernel
theorem dX12_init_471 : decode cX12_init 471 = .ok (.aload_n 0, 1) := by decide +kernel
theorem dX12_init_472 : decode cX12_init 472 = .ok (.getfield 34, 3) := by decide +kernel
theorem dX12_init_475 : decode cX12_init 475 = .ok (.iconst 5, 1) := by decide +kernel
theorem dX12_init_476 : decode cX12_init 476 = .ok (.bipush 109, 2) := by decide +kernel
theorem dX12_init_478 : decode cX12_init 478 = .ok (.bipush 97, 2) := by decide +kernel
theorem dX12_init_480 : decode cX12_init 480 = .ok (.bipush 114, 2) := by decide +kernel
theorem dX12_init_482 : decode cX12_init 482 = .ok (.bipush 107, 2) := by decide +kernel
theorem dX12_init_484 : decode cX12_init 484 = .ok (.bipush 115, 2) := by decide +kernel
theorem dX12_init_486 : decode cX12_init 486 = .ok (.iconst 0, 1) := by decide +kernel
theorem dX12_init_487 : decode cX12_init 487 = .ok (.iconst 0, 1) := by decide +kernel
theorem dX12_init_488 : decode cX12_init 488 = .ok (.invokestatic 153, 3) := by decide +kernel
theorem dX12_init_491 : decode cX12_init 491 = .ok (.lastore, 1) := by decide +kernel
theorem dX12_init_492 : decode cX12_init 492 = .ok (.aload_n 0, 1) := by decide +kernel
theorem dX12_init_493 : decode cX12_init 493 = .ok (.getfield 34, 3) := by decide +kernel
theorem dX12_init_496 : decode cX12_init 496 = .ok (.bipush 6, 2) := by decide +kernel
theorem dX12_init_498 : decode cX12_init 498 = .ok (.bipush 102, 2) := by decide +kernel
theorem dX12_init_500 : decode cX12_init 500 = .ok (.bipush 105, 2) := by decide +kernel
theorem dX12_init_502 : decode cX12_init 502 = .ok (.bipush 110, 2) := by decide +kernel
theorem dX12_init_504 : decode cX12_init 504 = .ok (.bipush 101, 2) := by decide +kernel
theorem dX12_init_506 : decode cX12_init 506 = .ok (.bipush 115, 2) := by decide +kernel
theorem dX12_init_508 : decode cX12_init 508 = .ok (.iconst 0, 1) := by decide +kernel
theorem dX12_init_509 : decode cX12_init 509 = .ok (.iconst 0, 1) := by decide +kernel
theorem dX12_init_510 : decode cX12_init 510 = .ok (.invokestatic 153, 3) := by decide +kernel
theorem dX12_init_513 : decode cX12_init 513 = .ok (.lastore, 1) := by decide +kernel
theorem dX12_init_514 : decode cX12_init 514 = .ok (.aload_n 0, 1) := by decide +kernel
theorem dX12_init_515 : decode cX12_init 515 = .ok (.getfield 34, 3) := by decide +kernel
theorem dX12_init_518 : decode cX12_init 518 = .ok (.bipush 7, 2) := by decide +kernel
theorem dX12_init_520 : decode cX12_init 520 = .ok (.bipush 115, 2) := by decide +kernel
theorem dX12_init_522 : decode cX12_init 522 = .ok (.bipush 101, 2) := by decide +kernel
theorem dX12_init_524 : decode cX12_init 524 = .ok (.bipush 101, 2) := by decide +kernel
theorem dX12_init_526 : decode cX12_init 526 = .ok (.bipush 100, 2) := by decide +kernel
theorem dX12_init_528 : decode cX12_init 528 = .ok (.iconst 0, 1) := by decide +kernel
theorem dX12_init_529 : decode cX12_init 529 = .ok (.iconst 0, 1) := by decide +kernel
theorem dX12_init_530 : decode cX12_init 530 = .ok (.iconst 0, 1) := by decide +kernel
theorem dX12_init_531 : decode cX12_init 531 = .ok (.invokestatic 153, 3) := by decide +kernel
theorem dX12_init_534 : decode cX12_init 534 = .ok (.lastore, 1) := by decide +kernel
theorem dX12_init_535 : decode cX12_init 535 = .ok (.aload_n 0, 1) := by decide +kernel
theorem dX12_init_536 : decode cX12_init 536 = .ok (.getfield 34, 3) := by decide +kernel
theorem dX12_init_539 : decode cX12_init 539 = .ok (.bipush 8, 2) := by decide +kernel
theorem dX12_init_541 : decode cX12_init 541 = .ok (.bipush 105, 2) := by decide +kernel
theorem dX12_init_543 : decode cX12_init 543 = .ok (.bipush 102, 2) := by decide +kernel
theorem dX12_init_545 : decode cX12_init 545 = .ok (.iconst 0, 1) := by decide +kernel
theorem dX12_init_546 : decode cX12_init 546 = .ok (.iconst 0, 1) := by decide +kernel
theorem dX12_init_547 : decode cX12_init 547 = .ok (.iconst 0, 1) := by decide +kernel
theorem dX12_init_548 : decode cX12_init 548 = .ok (.iconst 0, 1) := by decide +kernel
theorem dX12_init_549 : decode cX12_init 549 = .ok (.iconst 0, 1) := by decide +kernel
theorem dX12_init_550 : decode cX12_init 550 = .ok (.invokestatic 153, 3) := by decide +kernel
theorem dX12_init_553 : decode cX12_init 553 = .ok (.lastore, 1) := by decide +kernel
theorem dX12_init_554 : decode cX12_init 554 = .ok (.aload_n 0, 1) := by decide +kernel
theorem dX12_init_555 : decode cX12_init 555 = .ok (.getfield 34, 3) := by decide +kernel
theorem dX12_init_558 : decode cX12_init 558 = .ok (.bipush 9, 2) := by decide +kernel
theorem dX12_init_560 : decode cX12_init 560 = .ok (.bipush 116, 2) := by decide +kernel
theorem dX12_init_562 : decode cX12_init 562 = .ok (.bipush 104, 2) := by decide +kernel
theorem dX12_init_564 : decode cX12_init 564 = .ok (.bipush 101, 2) := by decide +kernel
theorem dX12_init_566 : decode cX12_init 566 = .ok (.bipush 110, 2) := by decide +kernel
theorem dX12_init_568 : decode cX12_init 568 = .ok (.iconst 0, 1) := by decide +kernel
theorem dX12_init_569 : decode cX12_init 569 = .ok (.iconst 0, 1) := by decide +kernel
theorem dX12_init_570 : decode cX12_init 570 = .ok (.iconst 0, 1) := by decide +kernel
theorem dX12_init_571 : decode cX12_init 571 = .ok (.invokestatic 153, 3) := by decide +kernel
theorem dX12_init_574 : decode cX12_init 574 = .ok (.lastore, 1) := by decide +kernel
theorem dX12_init_575 : decode cX12_init 575 = .ok (.aload_n 0, 1) := by decide +kernel
theorem dX12_init_576 : decode cX12_init 576 = .ok (.getfield 34, 3) := by decide +kernel
theorem dX12_init_579 : decode cX12_init 579 = .ok (.bipush 10, 2) := by decide +kernel
theorem dX12_init_581 : decode cX12_init 581 = .ok (.bipush 101, 2) := by decide +kernel
theorem dX12_init_583 : decode cX12_init 583 = .ok (.bipush 108, 2) := by decide +kernel
theorem dX12_init_585 : decode cX12_init 585 = .ok (.bipush 115, 2) := by decide +kernel
theorem dX12_init_587 : decode cX12_init 587 = .ok (.bipush 101, 2) := by decide +kernel
theorem dX12_init_589 : decode cX12_init 589 = .ok (.iconst 0, 1) := by decide +kernel
theorem dX12_init_590 : decode cX12_init 590 = .ok (.iconst 0, 1) := by decide +kernel
theorem dX12_init_591 : decode cX12_init 591 = .ok (.iconst 0, 1) := by decide +kernel
theorem dX12_init_592 : decode cX12_init 592 = .ok (.invokestatic 153, 3) := by decide +kernel
theorem dX12_init_595 : decode cX12_init 595 = .ok (.lastore, 1) := by decide +kernel
theorem dX12_init_596 : decode cX12_init 596 = .ok (.aload_n 0, 1) := by decide +kernel
theorem dX12_init_597 : decode cX12_init 597 = .ok (.getfield 34, 3) := by decide +kernel
theorem dX12_init_600 : decode cX12_init 600 = .ok (.bipush 11, 2) := by decide +kernel
theorem dX12_init_602 : decode cX12_init 602 = .ok (.bipush 115, 2) := by decide +kernel
theorem dX12_init_604 : decode cX12_init 604 = .ok (.bipush 107, 2) := by decide +kernel
theorem dX12_init_606 : decode cX12_init 606 = .ok (.bipush 105, 2) := by decide +kernel
theorem dX12_init_608 : decode cX12_init 608 = .ok (.bipush 108, 2) := by decide +kernel
theorem dX12_init_610 : decode cX12_init 610 = .ok (.bipush 108, 2) := by decide +kernel
theorem dX12_init_612 : decode cX12_init 612 = .ok (.iconst 0, 1) := by decide +kernel
theorem dX12_init_613 : decode cX12_init 613 = .ok (.iconst 0, 1) := by decide +kernel
theorem dX12_init_614 : decode cX12_init 614 = .ok (.invokestatic 153, 3) := by decide +kernel
theorem dX12_init_617 : decode cX12_init 617 = .ok (.lastore, 1) := by decide +kernel
theorem dX12_init_618 : decode cX12_init 618 = .ok (.aload_n 0, 1) := by decide +kernel
theorem dX12_init_619 : decode cX12_init 619 = .ok (.getfield 34, 3) := by decide +kernel
theorem dX12_init_622 : decode cX12_init 622 = .ok (.bipush 12, 2) := by decide +kernel
theorem dX12_init_624 : decode cX12_init 624 = .ok (.bipush 109, 2) := by decide +kernel
theorem dX12_init_626 : decode cX12_init 626 = .ok (.bipush 97, 2) := by decide +kernel
theorem dX12_init_628 : decode cX12_init 628 = .ok (.bipush 110, 2) := by decide +kernel
theorem dX12_init_630 : decode cX12_init 630 = .ok (.bipush 110, 2) := by decide +kernel
theorem dX12_init_632 : decode cX12_init 632 = .ok (.bipush 101, 2) := by decide +kernel
theorem dX12_init_634 : decode cX12_init 634 = .ok (.bipush 114, 2) := by decide +kernel
theorem dX12_init_636 : decode cX12_init 636 = .ok (.iconst 0, 1) := by decide +kernel
theorem dX12_init_637 : decode cX12_init 637 = .ok (.invokestatic 153, 3) := by decide +kernel
theorem dX12_init_640 : decode cX12_init 640 = .ok (.lastore, 1) := by decide +kernel
theorem dX12_init_641 : decode cX12_init 641 = .ok (.aload_n 0, 1) := by decide +kernel
theorem dX12_init_642 : decode cX12_init 642 = .ok (.getfield 34, 3) := by decide +kernel
theorem dX12_init_645 : decode cX12_init 645 = .ok (.bipush 13, 2) := by decide +kernel
theorem dX12_init_647 : decode cX12_init 647 = .ok (.bipush 115, 2) := by decide +kernel
theorem dX12_init_649 : decode cX12_init 649 = .ok (.bipush 108, 2) := by decide +kernel
theorem dX12_init_651 : decode cX12_init 651 = .ok (.bipush 105, 2) := by decide +kernel
theorem dX12_init_653 : decode cX12_init 653 = .ok (.bipush 112, 2) := by decide +kernel
theorem dX12_init_655 : decode cX12_init 655 = .ok (.iconst 0, 1) := by decide +kernel
theorem dX12_init_656 : decode cX12_init 656 = .ok (.iconst 0, 1) := by decide +kernel
theorem dX12_init_657 : decode cX12_init 657 = .ok (.iconst 0, 1) := by decide +kernel
theorem dX12_init_658 : decode cX12_init 658 = .ok (.invokestatic 153, 3) := by decide +kernel
theorem dX12_init_661 : decode cX12_init 661 = .ok (.lastore, 1) := by decide +kernel
theorem dX12_init_662 : decode cX12_init 662 = .ok (.aload_n 0, 1) := by decide +kernel
theorem dX12_init_663 : decode cX12_init 663 = .ok (.getfield 34, 3) := by decide +kernel
theorem dX12_init_666 : decode cX12_init 666 = .ok (.bipush 14, 2) := by decide +kernel
theorem dX12_init_668 : decode cX12_init 668 = .ok (.bipush 112, 2) := by decide +kernel
theorem dX12_init_670 : decode cX12_init 670 = .ok (.bipush 114, 2) := by decide +kernel
theorem dX12_init_672 : decode cX12_init 672 = .ok (.bipush 97, 2) := by decide +kernel
theorem dX12_init_674 : decode cX12_init 674 = .ok (.bipush 105, 2) := by decide +kernel
theorem dX12_init_676 : decode cX12_init 676 = .ok (.bipush 115, 2) := by decide +kernel
theorem dX12_init_678 : decode cX12_init 678 = .ok (.bipush 101, 2) := by decide +kernel
theorem dX12_init_680 : decode cX12_init 680 = .ok (.iconst 0, 1) := by decide +kernel
theorem dX12_init_681 : decode cX12_init 681 = .ok (.invokestatic 153, 3) := by decide +kernel
theorem dX12_init_684 : decode cX12_init 684 = .ok (.lastore, 1) := by decide +kernel
theorem dX12_init_685 : decode cX12_init 685 = .ok (.aload_n 0, 1) := by decide +kernel
theorem dX12_init_686 : decode cX12_init 686 = .ok (.getfield 34, 3) := by decide +kernel
theorem dX12_init_689 : decode cX12_init 689 = .ok (.bipush 15, 2) := by decide +kernel
theorem dX12_init_691 : decode cX12_init 691 = .ok (.bipush 100, 2) := by decide +kernel
theorem dX12_init_693 : decode cX12_init 693 = .ok (.bipush 97, 2) := by decide +kernel
theorem dX12_init_695 : decode cX12_init 695 = .ok (.bipush 121, 2) := by decide +kernel
theorem dX12_init_697 : decode cX12_init 697 = .ok (.iconst 0, 1) := by decide +kernel
theorem dX12_init_698 : decode cX12_init 698 = .ok (.iconst 0, 1) := by decide +kernel
theorem dX12_init_699 : decode cX12_init 699 = .ok (.iconst 0, 1) := by decide +kernel
theorem dX12_init_700 : decode cX12_init 700 = .ok (.iconst 0, 1) := by decide +kernel
theorem dX12_init_701 : decode cX12_init 701 = .ok (.invokestatic 153, 3) := by decide +kernel
theorem dX12_init_704 : decode cX12_init 704 = .ok (.lastore, 1) := by decide +kernel
theorem dX12_init_705 : decode cX12_init 705 = .ok (.aload_n 0, 1) := by decide +kernel
theorem dX12_init_706 : decode cX12_init 706 = .ok (.getfield 34, 3) := by decide +kernel
theorem dX12_init_709 : decode cX12_init 709 = .ok (.bipush 16, 2) := by decide +kernel
theorem dX12_init_711 : decode cX12_init 711 = .ok (.bipush 103, 2) := by decide +kernel
theorem dX12_init_713 : decode cX12_init 713 = .ok (.bipush 111, 2) := by decide +kernel
theorem dX12_init_715 : decode cX12_init 715 = .ok (.bipush 111, 2) := by decide +kernel
theorem dX12_init_717 : decode cX12_init 717 = .ok (.bipush 100, 2) := by decide +kernel
theorem dX12_init_719 : decode cX12_init 719 = .ok (.iconst 0, 1) := by decide +kernel
theorem dX12_init_720 : decode cX12_init 720 = .ok (.iconst 0, 1) := by decide +kernel
theorem dX12_init_721 : decode cX12_init 721 = .ok (.iconst 0, 1) := by decide +kernel
theorem dX12_init_722 : decode cX12_init 722 = .ok (.invokestatic 153, 3) := by decide +kernel
theorem dX12_init_725 : decode cX12_init 725 = .ok (.lastore, 1) := by decide +kernel
theorem dX12_init_726 : decode cX12_init 726 = .ok (.aload_n 0, 1) := by decide +kernel
theorem dX12_init_727 : decode cX12_init 727 = .ok (.getfield 34, 3) := by decide +kernel
theorem dX12_init_730 : decode cX12_init 730 = .ok (.bipush 17, 2) := by decide +kernel
theorem dX12_init_732 : decode cX12_init 732 = .ok (.bipush 108, 2) := by decide +kernel
theorem dX12_init_734 : decode cX12_init 734 = .ok (.bipush 101, 2) := by decide +kernel
theorem dX12_init_736 : decode cX12_init 736 = .ok (.bipush 97, 2) := by decide +kernel
theorem dX12_init_738 : decode cX12_init 738 = .ok (.bipush 110, 2) := by decide +kernel
theorem dX12_init_740 : decode cX12_init 740 = .ok (.iconst 0, 1) := by decide +kernel
theorem dX12_init_741 : decode cX12_init 741 = .ok (.iconst 0, 1) := by decide +kernel
theorem dX12_init_742 : decode cX12_init 742 = .ok (.iconst 0, 1) := by decide +kernel
theorem dX12_init_743 : decode cX12_init 743 = .ok (.invokestatic 153, 3) := by decide +kernel
theorem dX12_init_746 : decode cX12_init 746 = .ok (.lastore, 1) := by decide +kernel
theorem dX12_init_747 : decode cX12_init 747 = .ok (.aload_n 0, 1) := by decide +kernel
theorem dX12_init_748 : decode cX12_init 748 = .ok (.getfield 34, 3) := by decide +kernel
theorem dX12_init_751 : decode cX12_init 751 = .ok (.bipush 18, 2) := by decide +kernel
theorem dX12_init_753 : decode cX12_init 753 = .ok (.bipush 119, 2) := by decide +kernel
theorem dX12_init_755 : decode cX12_init 755 = .ok (.bipush 104, 2) := by decide +kernel
theorem dX12_init_757 : decode cX12_init 757 = .ok (.bipush 105, 2) := by decide +kernel
theorem dX12_init_759 : decode cX12_init 759 = .ok (.bipush 99, 2) := by decide +kernel
theorem dX12_init_761 : decode cX12_init 761 = .ok (.bipush 104, 2) := by decide +kernel
theorem dX12_init_763 : decode cX12_init 763 = .ok (.iconst 0, 1) := by decide +kernel
theorem dX12_init_764 : decode cX12_init 764 = .ok (.iconst 0, 1) := by decide +kernel
theorem dX12_init_765 : decode cX12_init 765 = .ok (.invokestatic 153, 3) := by decide +kernel
theorem dX12_init_768 : decode cX12_init 768 = .ok (.lastore, 1) := by decide +kernel
theorem dX12_init_769 : decode cX12_init 769 = .ok (.aload_n 0, 1) := by decide +kernel
theorem dX12_init_770 : decode cX12_init 770 = .ok (.getfield 34, 3) := by decide +kernel
theorem dX12_init_773 : decode cX12_init 773 = .ok (.bipush 19, 2) := by decide +kernel
theorem dX12_init_775 : decode cX12_init 775 = .ok (.bipush 115, 2) := by decide +kernel
theorem dX12_init_777 : decode cX12_init 777 = .ok (.bipush 119, 2) := by decide +kernel
theorem dX12_init_779 : decode cX12_init 779 = .ok (.bipush 111, 2) := by decide +kernel
theorem dX12_init_781 : decode cX12_init 781 = .ok (.bipush 114, 2) := by decide +kernel
theorem dX12_init_783 : decode cX12_init 783 = .ok (.bipush 110, 2) := by decide +kernel
theorem dX12_init_785 : decode cX12_init 785 = .ok (.iconst 0, 1) := by decide +kernel
theorem dX12_init_786 : decode cX12_init 786 = .ok (.iconst 0, 1) := by decide +kernel
theorem dX12_init_787 : decode cX12_init 787 = .ok (.invokestatic 153, 3) := by decide +kernel
theorem dX12_init_790 : decode cX12_init 790 = .ok (.lastore, 1) := by decide +kernel
theorem dX12_init_791 : decode cX12_init 791 = .ok (.aload_n 0, 1) := by decide +kernel
theorem dX12_init_792 : decode cX12_init 792 = .ok (.invokevirtual 157, 3) := by decide +kernel
theorem dX12_init_795 : decode cX12_init 795 = .ok (.aload_n 0, 1) := by decide +kernel
theorem dX12_init_796 : decode cX12_init 796 = .ok (.invokevirtual 160, 3) := by decide +kernel
theorem dX12_init_799 : decode cX12_init 799 = .ok (.return_, 1) := by decide +kernel
theorem dX12_feed_0 : decode cX12_feed 0 = .ok (.aload_n 0, 1) := by decide +kernel
theorem dX12_feed_1 : decode cX12_feed 1 = .ok (.getfield 163, 3) := by decide +kernel
theorem dX12_feed_4 : decode cX12_feed 4 = .ok (.bipush 20, 2) := by decide +kernel
theorem dX12_feed_6 : decode cX12_feed 6 = .ok (.iadd, 1) := by decide +kernel
theorem dX12_feed_7 : decode cX12_feed 7 = .ok (.sipush 2000, 3) := by decide +kernel
theorem dX12_feed_10 : decode cX12_feed 10 = .ok (.if_icmp .le 5, 3) := by decide +kernel
theorem dX12_feed_13 : decode cX12_feed 13 = .ok (.iconst (-1), 1) := by decide +kernel
theorem dX12_feed_14 : decode cX12_feed 14 = .ok (.ireturn, 1) := by decide +kernel
theorem dX12_feed_15 : decode cX12_feed 15 = .ok (.aload_n 0, 1) := by decide +kernel
theorem dX12_feed_16 : decode cX12_feed 16 = .ok (.iload_n 1, 1) := by decide +kernel
theorem dX12_feed_17 : decode cX12_feed 17 = .ok (.invokevirtual 166, 3) := by decide +kernel
theorem dX12_feed_20 : decode cX12_feed 20 = .ok (.aload_n 0, 1) := by decide +kernel
theorem dX12_feed_21 : decode cX12_feed 21 = .ok (.iload_n 2, 1) := by decide +kernel
theorem dX12_feed_22 : decode cX12_feed 22 = .ok (.invokevirtual 166, 3) := by decide +kernel
theorem dX12_feed_25 : decode cX12_feed 25 = .ok (.aload_n 0, 1) := by decide +kernel
theorem dX12_feed_26 : decode cX12_feed 26 = .ok (.iload_n 3, 1) := by decide +kernel
theorem dX12_feed_27 : decode cX12_feed 27 = .ok (.invokevirtual 166, 3) := by decide +kernel
theorem dX12_feed_30 : decode cX12_feed 30 = .ok (.aload_n 0, 1) := by decide +kernel
theorem dX12_feed_31 : decode cX12_feed 31 = .ok (.iload 4, 2) := by decide +kernel
theorem dX12_feed_33 : decode cX12_feed 33 = .ok (.invokevirtual 166, 3) := by decide +kernel
theorem dX12_feed_36 : decode cX12_feed 36 = .ok (.aload_n 0, 1) := by decide +kernel
theorem dX12_feed_37 : decode cX12_feed 37 = .ok (.iload 5, 2) := by decide +kernel
theorem dX12_feed_39 : decode cX12_feed 39 = .ok (.invokevirtual 166, 3) := by decide +kernel
theorem dX12_feed_42 : decode cX12_feed 42 = .ok (.aload_n 0, 1) := by decide +kernel
theorem dX12_feed_43 : decode cX12_feed 43 = .ok (.getfield 163, 3) := by decide +kernel
theorem dX12_feed_46 : decode cX12_feed 46 = .ok (.ireturn, 1) := by decide +kernel
theorem dX12_put_0 : decode cX12_put 0 = .ok (.bipush 24, 2) := by decide +kernel
theorem dX12_put_2 : decode cX12_put 2 = .ok (.istore_n 2, 1) := by decide +kernel
theorem dX12_put_3 : decode cX12_put 3 = .ok (.iload_n 2, 1) := by decide +kernel
theorem dX12_put_4 : decode cX12_put 4 = .ok (.ifCond .lt 32, 3) := by decide +kernel
theorem dX12_put_7 : decode cX12_put 7 = .ok (.aload_n 0, 1) := by decide +kernel
theorem dX12_put_8 : decode cX12_put 8 = .ok (.getfield 13, 3) := by decide +kernel
theorem dX12_put_11 : decode cX12_put 11 = .ok (.aload_n 0, 1) := by decide +kernel
theorem dX12_put_12 : decode cX12_put 12 = .ok (.getfield 163, 3) := by decide +kernel
theorem dX12_put_15 : decode cX12_put 15 = .ok (.iload_n 1, 1) := by decide +kernel
theorem dX12_put_16 : decode cX12_put 16 = .ok (.iload_n 2, 1) := by decide +kernel
theorem dX12_put_17 : decode cX12_put 17 = .ok (.ishr, 1) := by decide +kernel
theorem dX12_put_18 : decode cX12_put 18 = .ok (.i2b, 1) := by decide +kernel
theorem dX12_put_19 : decode cX12_put 19 = .ok (.bastore, 1) := by decide +kernel
theorem dX12_put_20 : decode cX12_put 20 = .ok (.aload_n 0, 1) := by decide +kernel
theorem dX12_put_21 : decode cX12_put 21 = .ok (.dup, 1) := by decide +kernel
theorem dX12_put_22 : decode cX12_put 22 = .ok (.getfield 163, 3) := by decide +kernel
theorem dX12_put_25 : decode cX12_put 25 = .ok (.iconst 1, 1) := by decide +kernel
theorem dX12_put_26 : decode cX12_put 26 = .ok (.iadd, 1) := by decide +kernel
theorem dX12_put_27 : decode cX12_put 27 = .ok (.putfield 163, 3) := by decide +kernel
theorem dX12_put_30 : decode cX12_put 30 = .ok (.iinc 2 (-8), 3) := by decide +kernel
theorem dX12_put_33 : decode cX12_put 33 = .ok (.goto (-30), 3) := by decide +kernel
theorem dX12_put_36 : decode cX12_put 36 = .ok (.return_, 1) := by decide +kernel
theorem dX12_back_0 : decode cX12_back 0 = .ok (.iload_n 1, 1) := by decide +kernel
theorem dX12_back_1 : decode cX12_back 1 = .ok (.ifCond .lt 11, 3) := by decide +kernel
theorem dX12_back_4 : decode cX12_back 4 = .ok (.iload_n 1, 1) := by decide +kernel
theorem dX12_back_5 : decode cX12_back 5 = .ok (.aload_n 0, 1) := by decide +kernel
theorem dX12_back_6 : decode cX12_back 6 = .ok (.getfield 163, 3) := by decide +kernel
theorem dX12_back_9 : decode cX12_back 9 = .ok (.if_icmp .le 5, 3) := by decide +kernel
theorem dX12_back_12 : decode cX12_back 12 = .ok (.iconst (-1), 1) := by decide +kernel
theorem dX12_back_13 : decode cX12_back 13 = .ok (.ireturn, 1) := by decide +kernel
theorem dX12_back_14 : decode cX12_back 14 = .ok (.aload_n 0, 1) := by decide +kernel
theorem dX12_back_15 : decode cX12_back 15 = .ok (.dup, 1) := by decide +kernel
theorem dX12_back_16 : decode cX12_back 16 = .ok (.getfield 163, 3) := by decide +kernel
theorem dX12_back_19 : decode cX12_back 19 = .ok (.iload_n 1, 1) := by decide +kernel
theorem dX12_back_20 : decode cX12_back 20 = .ok (.isub, 1) := by decide +kernel
theorem dX12_back_21 : decode cX12_back 21 = .ok (.putfield 163, 3) := by decide +kernel
theorem dX12_back_24 : decode cX12_back 24 = .ok (.aload_n 0, 1) := by decide +kernel
theorem dX12_back_25 : decode cX12_back 25 = .ok (.getfield 163, 3) := by decide +kernel
theorem dX12_back_28 : decode cX12_back 28 = .ok (.ireturn, 1) := by decide +kernel
theorem dX12_byteAt_0 : decode cX12_byteAt 0 = .ok (.iload_n 1, 1) := by decide +kernel
theorem dX12_byteAt_1 : decode cX12_byteAt 1 = .ok (.aload_n 0, 1) := by decide +kernel
theorem dX12_byteAt_2 : decode cX12_byteAt 2 = .ok (.getfield 169, 3) := by decide +kernel
theorem dX12_byteAt_5 : decode cX12_byteAt 5 = .ok (.if_icmp .ge 16, 3) := by decide +kernel
theorem dX12_byteAt_8 : decode cX12_byteAt 8 = .ok (.aload_n 0, 1) := by decide +kernel
theorem dX12_byteAt_9 : decode cX12_byteAt 9 = .ok (.getfield 17, 3) := by decide +kernel
theorem dX12_byteAt_12 : decode cX12_byteAt 12 = .ok (.iload_n 1, 1) := by decide +kernel
theorem dX12_byteAt_13 : decode cX12_byteAt 13 = .ok (.baload, 1) := by decide +kernel
theorem dX12_byteAt_14 : decode cX12_byteAt 14 = .ok (.sipush 255, 3) := by decide +kernel
theorem dX12_byteAt_17 : decode cX12_byteAt 17 = .ok (.iand, 1) := by decide +kernel
theorem dX12_byteAt_18 : decode cX12_byteAt 18 = .ok (.goto 4, 3) := by decide +kernel
theorem dX12_byteAt_21 : decode cX12_byteAt 21 = .ok (.iconst 0, 1) := by decide +kernel
theorem dX12_byteAt_22 : decode cX12_byteAt 22 = .ok (.ireturn, 1) := by decide +kernel
theorem dX12_isDigit_0 : decode cX12_isDigit 0 = .ok (.iload_n 0, 1) := by decide +kernel
theorem dX12_isDigit_1 : decode cX12_isDigit 1 = .ok (.bipush 48, 2) := by decide +kernel
theorem dX12_isDigit_3 : decode cX12_isDigit 3 = .ok (.if_icmp .lt 13, 3) := by decide +kernel
theorem dX12_isDigit_6 : decode cX12_isDigit 6 = .ok (.iload_n 0, 1) := by decide +kernel
theorem dX12_isDigit_7 : decode cX12_isDigit 7 = .ok (.bipush 57, 2) := by decide +kernel
theorem dX12_isDigit_9 : decode cX12_isDigit 9 = .ok (.if_icmp .gt 7, 3) := by decide +kernel
theorem dX12_isDigit_12 : decode cX12_isDigit 12 = .ok (.iconst 1, 1) := by decide +kernel
theorem dX12_isDigit_13 : decode cX12_isDigit 13 = .ok (.goto 4, 3) := by decide +kernel
theorem dX12_isDigit_16 : decode cX12_isDigit 16 = .ok (.iconst 0, 1) := by decide +kernel
theorem dX12_isDigit_17 : decode cX12_isDigit 17 = .ok (.ireturn, 1) := by decide +kernel
theorem dX12_isLetter_0 : decode cX12_isLetter 0 = .ok (.iload_n 0, 1) := by decide +kernel
theorem dX12_isLetter_1 : decode cX12_isLetter 1 = .ok (.bipush 97, 2) := by decide +kernel
theorem dX12_isLetter_3 : decode cX12_isLetter 3 = .ok (.if_icmp .lt 13, 3) := by decide +kernel
theorem dX12_isLetter_6 : decode cX12_isLetter 6 = .ok (.iload_n 0, 1) := by decide +kernel
theorem dX12_isLetter_7 : decode cX12_isLetter 7 = .ok (.bipush 122, 2) := by decide +kernel
theorem dX12_isLetter_9 : decode cX12_isLetter 9 = .ok (.if_icmp .gt 7, 3) := by decide +kernel
theorem dX12_isLetter_12 : decode cX12_isLetter 12 = .ok (.iconst 1, 1) := by decide +kernel
theorem dX12_isLetter_13 : decode cX12_isLetter 13 = .ok (.goto 4, 3) := by decide +kernel
theorem dX12_isLetter_16 : decode cX12_isLetter 16 = .ok (.iconst 0, 1) := by decide +kernel
theorem dX12_isLetter_17 : decode cX12_isLetter 17 = .ok (.ireturn, 1) := by decide +kernel
theorem dX12_appends_0 : decode cX12_appends 0 = .ok (.iload_n 2, 1) := by decide +kernel
theorem dX12_appends_1 : decode cX12_appends 1 = .ok (.ifCond .ne 7, 3) := by decide +kernel
theorem dX12_appends_4 : decode cX12_appends 4 = .ok (.lload_n 0, 1) := by decide +kernel
theorem dX12_appends_5 : decode cX12_appends 5 = .ok (.goto 16, 3) := by decide +kernel
theorem dX12_appends_8 : decode cX12_appends 8 = .ok (.ldc2_w 172, 3) := by decide +kernel
theorem dX12_appends_11 : decode cX12_appends 11 = .ok (.lload_n 0, 1) := by decide +kernel
theorem dX12_appends_12 : decode cX12_appends 12 = .ok (.lmul, 1) := by decide +kernel
theorem dX12_appends_13 : decode cX12_appends 13 = .ok (.iload_n 2, 1) := by decide +kernel
theorem dX12_appends_14 : decode cX12_appends 14 = .ok (.bipush 97, 2) := by decide +kernel
theorem dX12_appends_16 : decode cX12_appends 16 = .ok (.isub, 1) := by decide +kernel
theorem dX12_appends_17 : decode cX12_appends 17 = .ok (.iconst 1, 1) := by decide +kernel
theorem dX12_appends_18 : decode cX12_appends 18 = .ok (.iadd, 1) := by decide +kernel
theorem dX12_appends_19 : decode cX12_appends 19 = .ok (.i2l, 1) := by decide +kernel
theorem dX12_appends_20 : decode cX12_appends 20 = .ok (.ladd, 1) := by decide +kernel
theorem dX12_appends_21 : decode cX12_appends 21 = .ok (.lreturn, 1) := by decide +kernel
theorem dX12_word_0 : decode cX12_word 0 = .ok (.lconst 0, 1) := by decide +kernel
theorem dX12_word_1 : decode cX12_word 1 = .ok (.iload_n 0, 1) := by decide +kernel
theorem dX12_word_2 : decode cX12_word 2 = .ok (.invokestatic 174, 3) := by decide +kernel
theorem dX12_word_5 : decode cX12_word 5 = .ok (.iload_n 1, 1) := by decide +kernel
theorem dX12_word_6 : decode cX12_word 6 = .ok (.invokestatic 174, 3) := by decide +kernel
theorem dX12_word_9 : decode cX12_word 9 = .ok (.iload_n 2, 1) := by decide +kernel
theorem dX12_word_10 : decode cX12_word 10 = .ok (.invokestatic 174, 3) := by decide +kernel
theorem dX12_word_13 : decode cX12_word 13 = .ok (.iload_n 3, 1) := by decide +kernel
theorem dX12_word_14 : decode cX12_word 14 = .ok (.invokestatic 174, 3) := by decide +kernel
theorem dX12_word_17 : decode cX12_word 17 = .ok (.iload 4, 2) := by decide +kernel
theorem dX12_word_19 : decode cX12_word 19 = .ok (.invokestatic 174, 3) := by decide +kernel
theorem dX12_word_22 : decode cX12_word 22 = .ok (.iload 5, 2) := by decide +kernel
theorem dX12_word_24 : decode cX12_word 24 = .ok (.invokestatic 174, 3) := by decide +kernel
theorem dX12_word_27 : decode cX12_word 27 = .ok (.iload 6, 2) := by decide +kernel
theorem dX12_word_29 : decode cX12_word 29 = .ok (.invokestatic 174, 3) := by decide +kernel
theorem dX12_word_32 : decode cX12_word 32 = .ok (.lreturn, 1) := by decide +kernel
theorem dX12_token_0 : decode cX12_token 0 = .ok (.aload_n 0, 1) := by decide +kernel
theorem dX12_token_1 : decode cX12_token 1 = .ok (.getfield 20, 3) := by decide +kernel
theorem dX12_token_4 : decode cX12_token 4 = .ok (.aload_n 0, 1) := by decide +kernel
theorem dX12_token_5 : decode cX12_token 5 = .ok (.getfield 178, 3) := by decide +kernel
theorem dX12_token_8 : decode cX12_token 8 = .ok (.iload_n 1, 1) := by decide +kernel
theorem dX12_token_9 : decode cX12_token 9 = .ok (.iastore, 1) := by decide +kernel
theorem dX12_token_10 : decode cX12_token 10 = .ok (.aload_n 0, 1) := by decide +kernel
theorem dX12_token_11 : decode cX12_token 11 = .ok (.getfield 24, 3) := by decide +kernel
theorem dX12_token_14 : decode cX12_token 14 = .ok (.aload_n 0, 1) := by decide +kernel
theorem dX12_token_15 : decode cX12_token 15 = .ok (.getfield 178, 3) := by decide +kernel
theorem dX12_token_18 : decode cX12_token 18 = .ok (.iload_n 2, 1) := by decide +kernel
theorem dX12_token_19 : decode cX12_token 19 = .ok (.iastore, 1) := by decide +kernel
theorem dX12_token_20 : decode cX12_token 20 = .ok (.aload_n 0, 1) := by decide +kernel
theorem dX12_token_21 : decode cX12_token 21 = .ok (.getfield 27, 3) := by decide +kernel
theorem dX12_token_24 : decode cX12_token 24 = .ok (.aload_n 0, 1) := by decide +kernel
theorem dX12_token_25 : decode cX12_token 25 = .ok (.getfield 178, 3) := by decide +kernel
theorem dX12_token_28 : decode cX12_token 28 = .ok (.iload_n 3, 1) := by decide +kernel
theorem dX12_token_29 : decode cX12_token 29 = .ok (.iastore, 1) := by decide +kernel
theorem dX12_token_30 : decode cX12_token 30 = .ok (.aload_n 0, 1) := by decide +kernel
theorem dX12_token_31 : decode cX12_token 31 = .ok (.getfield 30, 3) := by decide +kernel
theorem dX12_token_34 : decode cX12_token 34 = .ok (.aload_n 0, 1) := by decide +kernel
theorem dX12_token_35 : decode cX12_token 35 = .ok (.getfield 178, 3) := by decide +kernel
theorem dX12_token_38 : decode cX12_token 38 = .ok (.lload 4, 2) := by decide +kernel
theorem dX12_token_40 : decode cX12_token 40 = .ok (.lastore, 1) := by decide +kernel
theorem dX12_token_41 : decode cX12_token 41 = .ok (.aload_n 0, 1) := by decide +kernel
theorem dX12_token_42 : decode cX12_token 42 = .ok (.dup, 1) := by decide +kernel
theorem dX12_token_43 : decode cX12_token 43 = .ok (.getfield 178, 3) := by decide +kernel
theorem dX12_token_46 : decode cX12_token 46 = .ok (.iconst 1, 1) := by decide +kernel
theorem dX12_token_47 : decode cX12_token 47 = .ok (.iadd, 1) := by decide +kernel
theorem dX12_token_48 : decode cX12_token 48 = .ok (.putfield 178, 3) := by decide +kernel
theorem dX12_token_51 : decode cX12_token 51 = .ok (.return_, 1) := by decide +kernel
theorem dX12_cut_0 : decode cX12_cut 0 = .ok (.aload_n 0, 1) := by decide +kernel
theorem dX12_cut_1 : decode cX12_cut 1 = .ok (.iconst 0, 1) := by decide +kernel
theorem dX12_cut_2 : decode cX12_cut 2 = .ok (.putfield 178, 3) := by decide +kernel
theorem dX12_cut_5 : decode cX12_cut 5 = .ok (.iconst 0, 1) := by decide +kernel
theorem dX12_cut_6 : decode cX12_cut 6 = .ok (.istore_n 1, 1) := by decide +kernel
theorem dX12_cut_7 : decode cX12_cut 7 = .ok (.aload_n 0, 1) := by decide +kernel
theorem dX12_cut_8 : decode cX12_cut 8 = .ok (.getfield 178, 3) := by decide +kernel
theorem dX12_cut_11 : decode cX12_cut 11 = .ok (.sipush 400, 3) := by decide +kernel
theorem dX12_cut_14 : decode cX12_cut 14 = .ok (.if_icmp .gt 280, 3) := by decide +kernel
theorem dX12_cut_17 : decode cX12_cut 17 = .ok (.aload_n 0, 1) := by decide +kernel
theorem dX12_cut_18 : decode cX12_cut 18 = .ok (.iload_n 1, 1) := by decide +kernel
theorem dX12_cut_19 : decode cX12_cut 19 = .ok (.invokevirtual 181, 3) := by decide +kernel
theorem dX12_cut_22 : decode cX12_cut 22 = .ok (.istore_n 2, 1) := by decide +kernel
theorem dX12_cut_23 : decode cX12_cut 23 = .ok (.iload_n 1, 1) := by decide +kernel
theorem dX12_cut_24 : decode cX12_cut 24 = .ok (.aload_n 0, 1) := by decide +kernel
theorem dX12_cut_25 : decode cX12_cut 25 = .ok (.getfield 169, 3) := by decide +kernel
theorem dX12_cut_28 : decode cX12_cut 28 = .ok (.if_icmp .lt 15, 3) := by decide +kernel
theorem dX12_cut_31 : decode cX12_cut 31 = .ok (.aload_n 0, 1) := by decide +kernel
theorem dX12_cut_32 : decode cX12_cut 32 = .ok (.iconst 0, 1) := by decide +kernel
theorem dX12_cut_33 : decode cX12_cut 33 = .ok (.aload_n 0, 1) := by decide +kernel
theorem dX12_cut_34 : decode cX12_cut 34 = .ok (.getfield 169, 3) := by decide +kernel
theorem dX12_cut_37 : decode cX12_cut 37 = .ok (.iconst 0, 1) := by decide +kernel
theorem dX12_cut_38 : decode cX12_cut 38 = .ok (.lconst 0, 1) := by decide +kernel
theorem dX12_cut_39 : decode cX12_cut 39 = .ok (.invokevirtual 185, 3) := by decide +kernel
theorem dX12_cut_42 : decode cX12_cut 42 = .ok (.return_, 1) := by decide +kernel
theorem dX12_cut_43 : decode cX12_cut 43 = .ok (.iload_n 2, 1) := by decide +kernel
theorem dX12_cut_44 : decode cX12_cut 44 = .ok (.bipush 9, 2) := by decide +kernel
theorem dX12_cut_46 : decode cX12_cut 46 = .ok (.if_icmp .eq 21, 3) := by decide +kernel
theorem dX12_cut_49 : decode cX12_cut 49 = .ok (.iload_n 2, 1) := by decide +kernel
theorem dX12_cut_50 : decode cX12_cut 50 = .ok (.bipush 10, 2) := by decide +kernel
theorem dX12_cut_52 : decode cX12_cut 52 = .ok (.if_icmp .eq 15, 3) := by decide +kernel
theorem dX12_cut_55 : decode cX12_cut 55 = .ok (.iload_n 2, 1) := by decide +kernel
theorem dX12_cut_56 : decode cX12_cut 56 = .ok (.bipush 13, 2) := by decide +kernel
theorem dX12_cut_58 : decode cX12_cut 58 = .ok (.if_icmp .eq 9, 3) := by decide +kernel
theorem dX12_cut_61 : decode cX12_cut 61 = .ok (.iload_n 2, 1) := by decide +kernel
theorem dX12_cut_62 : decode cX12_cut 62 = .ok (.bipush 32, 2) := by decide +kernel
theorem dX12_cut_64 : decode cX12_cut 64 = .ok (.if_icmp .ne 9, 3) := by decide +kernel
theorem dX12_cut_67 : decode cX12_cut 67 = .ok (.iinc 1 1, 3) := by decide +kernel
theorem dX12_cut_70 : decode cX12_cut 70 = .ok (.goto 221, 3) := by decide +kernel
theorem dX12_cut_73 : decode cX12_cut 73 = .ok (.iload_n 2, 1) := by decide +kernel
theorem dX12_cut_74 : decode cX12_cut 74 = .ok (.invokestatic 189, 3) := by decide +kernel
theorem dX12_cut_77 : decode cX12_cut 77 = .ok (.ifCond .eq 119, 3) := by decide +kernel
theorem dX12_cut_80 : decode cX12_cut 80 = .ok (.iconst 0, 1) := by decide +kernel
theorem dX12_cut_81 : decode cX12_cut 81 = .ok (.istore_n 3, 1) := by decide +kernel
theorem dX12_cut_82 : decode cX12_cut 82 = .ok (.lconst 0, 1) := by decide +kernel
theorem dX12_cut_83 : decode cX12_cut 83 = .ok (.lstore 4, 2) := by decide +kernel
theorem dX12_cut_85 : decode cX12_cut 85 = .ok (.aload_n 0, 1) := by decide +kernel
theorem dX12_cut_86 : decode cX12_cut 86 = .ok (.iload_n 1, 1) := by decide +kernel
theorem dX12_cut_87 : decode cX12_cut 87 = .ok (.iload_n 3, 1) := by decide +kernel
theorem dX12_cut_88 : decode cX12_cut 88 = .ok (.iadd, 1) := by decide +kernel
theorem dX12_cut_89 : decode cX12_cut 89 = .ok (.invokevirtual 181, 3) := by decide +kernel
theorem dX12_cut_92 : decode cX12_cut 92 = .ok (.invokestatic 189, 3) := by decide +kernel
theorem dX12_cut_95 : decode cX12_cut 95 = .ok (.ifCond .eq 29, 3) := by decide +kernel
theorem dX12_cut_98 : decode cX12_cut 98 = .ok (.iload_n 3, 1) := by decide +kernel
theorem dX12_cut_99 : decode cX12_cut 99 = .ok (.bipush 8, 2) := by decide +kernel
theorem dX12_cut_101 : decode cX12_cut 101 = .ok (.if_icmp .ge 17, 3) := by decide +kernel
theorem dX12_cut_104 : decode cX12_cut 104 = .ok (.lload 4, 2) := by decide +kernel
theorem dX12_cut_106 : decode cX12_cut 106 = .ok (.aload_n 0, 1) := by decide +kernel
theorem dX12_cut_107 : decode cX12_cut 107 = .ok (.iload_n 1, 1) := by decide +kernel
theorem dX12_cut_108 : decode cX12_cut 108 = .ok (.iload_n 3, 1) := by decide +kernel
theorem dX12_cut_109 : decode cX12_cut 109 = .ok (.iadd, 1) := by decide +kernel
theorem dX12_cut_110 : decode cX12_cut 110 = .ok (.invokevirtual 181, 3) := by decide +kernel
theorem dX12_cut_113 : decode cX12_cut 113 = .ok (.invokestatic 174, 3) := by decide +kernel
theorem dX12_cut_116 : decode cX12_cut 116 = .ok (.lstore 4, 2) := by decide +kernel
theorem dX12_cut_118 : decode cX12_cut 118 = .ok (.iinc 3 1, 3) := by decide +kernel
theorem dX12_cut_121 : decode cX12_cut 121 = .ok (.goto (-36), 3) := by decide +kernel
theorem dX12_cut_124 : decode cX12_cut 124 = .ok (.iload_n 3, 1) := by decide +kernel
theorem dX12_cut_125 : decode cX12_cut 125 = .ok (.bipush 8, 2) := by decide +kernel
theorem dX12_cut_127 : decode cX12_cut 127 = .ok (.if_icmp .le 7, 3) := by decide +kernel
theorem dX12_cut_130 : decode cX12_cut 130 = .ok (.iconst 3, 1) := by decide +kernel
theorem dX12_cut_131 : decode cX12_cut 131 = .ok (.goto 4, 3) := by decide +kernel
theorem dX12_cut_134 : decode cX12_cut 134 = .ok (.iconst 1, 1) := by decide +kernel
theorem dX12_cut_135 : decode cX12_cut 135 = .ok (.istore 6, 2) := by decide +kernel
theorem dX12_cut_137 : decode cX12_cut 137 = .ok (.iload_n 3, 1) := by decide +kernel
theorem dX12_cut_138 : decode cX12_cut 138 = .ok (.bipush 7, 2) := by decide +kernel
theorem dX12_cut_140 : decode cX12_cut 140 = .ok (.if_icmp .gt 39, 3) := by decide +kernel
theorem dX12_cut_143 : decode cX12_cut 143 = .ok (.iconst 0, 1) := by decide +kernel
theorem dX12_cut_144 : decode cX12_cut 144 = .ok (.istore 7, 2) := by decide +kernel
theorem dX12_cut_146 : decode cX12_cut 146 = .ok (.iload 7, 2) := by decide +kernel
theorem dX12_cut_148 : decode cX12_cut 148 = .ok (.bipush 20, 2) := by decide +kernel
theorem dX12_cut_150 : decode cX12_cut 150 = .ok (.if_icmp .ge 29, 3) := by decide +kernel
theorem dX12_cut_153 : decode cX12_cut 153 = .ok (.aload_n 0, 1) := by decide +kernel
theorem dX12_cut_154 : decode cX12_cut 154 = .ok (.getfield 34, 3) := by decide +kernel
theorem dX12_cut_157 : decode cX12_cut 157 = .ok (.iload 7, 2) := by decide +kernel
theorem dX12_cut_159 : decode cX12_cut 159 = .ok (.laload, 1) := by decide +kernel
theorem dX12_cut_160 : decode cX12_cut 160 = .ok (.lload 4, 2) := by decide +kernel
theorem dX12_cut_162 : decode cX12_cut 162 = .ok (.lcmp, 1) := by decide +kernel
theorem dX12_cut_163 : decode cX12_cut 163 = .ok (.ifCond .ne 10, 3) := by decide +kernel
theorem dX12_cut_166 : decode cX12_cut 166 = .ok (.bipush 20, 2) := by decide +kernel
theorem dX12_cut_168 : decode cX12_cut 168 = .ok (.iload 7, 2) := by decide +kernel
theorem dX12_cut_170 : decode cX12_cut 170 = .ok (.iadd, 1) := by decide +kernel
theorem dX12_cut_171 : decode cX12_cut 171 = .ok (.istore 6, 2) := by decide +kernel
theorem dX12_cut_173 : decode cX12_cut 173 = .ok (.iinc 7 1, 3) := by decide +kernel
theorem dX12_cut_176 : decode cX12_cut 176 = .ok (.goto (-30), 3) := by decide +kernel
theorem dX12_cut_179 : decode cX12_cut 179 = .ok (.aload_n 0, 1) := by decide +kernel
theorem dX12_cut_180 : decode cX12_cut 180 = .ok (.iload 6, 2) := by decide +kernel
theorem dX12_cut_182 : decode cX12_cut 182 = .ok (.iload_n 1, 1) := by decide +kernel
theorem dX12_cut_183 : decode cX12_cut 183 = .ok (.iconst 0, 1) := by decide +kernel
theorem dX12_cut_184 : decode cX12_cut 184 = .ok (.lload 4, 2) := by decide +kernel
theorem dX12_cut_186 : decode cX12_cut 186 = .ok (.invokevirtual 185, 3) := by decide +kernel
theorem dX12_cut_189 : decode cX12_cut 189 = .ok (.iload_n 1, 1) := by decide +kernel
theorem dX12_cut_190 : decode cX12_cut 190 = .ok (.iload_n 3, 1) := by decide +kernel
theorem dX12_cut_191 : decode cX12_cut 191 = .ok (.iadd, 1) := by decide +kernel
theorem dX12_cut_192 : decode cX12_cut 192 = .ok (.istore_n 1, 1) := by decide +kernel
theorem dX12_cut_193 : decode cX12_cut 193 = .ok (.goto 98, 3) := by decide +kernel
theorem dX12_cut_196 : decode cX12_cut 196 = .ok (.iload_n 2, 1) := by decide +kernel
theorem dX12_cut_197 : decode cX12_cut 197 = .ok (.invokestatic 193, 3) := by decide +kernel
theorem dX12_cut_200 : decode cX12_cut 200 = .ok (.ifCond .eq 75, 3) := by decide +kernel
theorem dX12_cut_203 : decode cX12_cut 203 = .ok (.iconst 0, 1) := by decide +kernel
theorem dX12_cut_204 : decode cX12_cut 204 = .ok (.istore_n 3, 1) := by decide +kernel
theorem dX12_cut_205 : decode cX12_cut 205 = .ok (.iconst 0, 1) := by decide +kernel
theorem dX12_cut_206 : decode cX12_cut 206 = .ok (.istore 4, 2) := by decide +kernel
theorem dX12_cut_208 : decode cX12_cut 208 = .ok (.aload_n 0, 1) := by decide +kernel
theorem dX12_cut_209 : decode cX12_cut 209 = .ok (.iload_n 1, 1) := by decide +kernel
theorem dX12_cut_210 : decode cX12_cut 210 = .ok (.iload_n 3, 1) := by decide +kernel
theorem dX12_cut_211 : decode cX12_cut 211 = .ok (.iadd, 1) := by decide +kernel
theorem dX12_cut_212 : decode cX12_cut 212 = .ok (.invokevirtual 181, 3) := by decide +kernel
theorem dX12_cut_215 : decode cX12_cut 215 = .ok (.invokestatic 193, 3) := by decide +kernel
theorem dX12_cut_218 : decode cX12_cut 218 = .ok (.ifCond .eq 32, 3) := by decide +kernel
theorem dX12_cut_221 : decode cX12_cut 221 = .ok (.iload_n 3, 1) := by decide +kernel
theorem dX12_cut_222 : decode cX12_cut 222 = .ok (.iconst 4, 1) := by decide +kernel
theorem dX12_cut_223 : decode cX12_cut 223 = .ok (.if_icmp .ge 21, 3) := by decide +kernel
theorem dX12_cut_226 : decode cX12_cut 226 = .ok (.bipush 10, 2) := by decide +kernel
theorem dX12_cut_228 : decode cX12_cut 228 = .ok (.iload 4, 2) := by decide +kernel
theorem dX12_cut_230 : decode cX12_cut 230 = .ok (.imul, 1) := by decide +kernel
theorem dX12_cut_231 : decode cX12_cut 231 = .ok (.aload_n 0, 1) := by decide +kernel
theorem dX12_cut_232 : decode cX12_cut 232 = .ok (.iload_n 1, 1) := by decide +kernel
theorem dX12_cut_233 : decode cX12_cut 233 = .ok (.iload_n 3, 1) := by decide +kernel
theorem dX12_cut_234 : decode cX12_cut 234 = .ok (.iadd, 1) := by decide +kernel
theorem dX12_cut_235 : decode cX12_cut 235 = .ok (.invokevirtual 181, 3) := by decide +kernel
theorem dX12_cut_238 : decode cX12_cut 238 = .ok (.iadd, 1) := by decide +kernel
theorem dX12_cut_239 : decode cX12_cut 239 = .ok (.bipush 48, 2) := by decide +kernel
theorem dX12_cut_241 : decode cX12_cut 241 = .ok (.isub, 1) := by decide +kernel
theorem dX12_cut_242 : decode cX12_cut 242 = .ok (.istore 4, 2) := by decide +kernel
theorem dX12_cut_244 : decode cX12_cut 244 = .ok (.iinc 3 1, 3) := by decide +kernel
theorem dX12_cut_247 : decode cX12_cut 247 = .ok (.goto (-39), 3) := by decide +kernel
theorem dX12_cut_250 : decode cX12_cut 250 = .ok (.aload_n 0, 1) := by decide +kernel
theorem dX12_cut_251 : decode cX12_cut 251 = .ok (.iload_n 3, 1) := by decide +kernel
theorem dX12_cut_252 : decode cX12_cut 252 = .ok (.iconst 4, 1) := by decide +kernel
theorem dX12_cut_253 : decode cX12_cut 253 = .ok (.if_icmp .le 7, 3) := by decide +kernel
theorem dX12_cut_256 : decode cX12_cut 256 = .ok (.iconst 3, 1) := by decide +kernel
theorem dX12_cut_257 : decode cX12_cut 257 = .ok (.goto 4, 3) := by decide +kernel
theorem dX12_cut_260 : decode cX12_cut 260 = .ok (.iconst 2, 1) := by decide +kernel
theorem dX12_cut_261 : decode cX12_cut 261 = .ok (.iload_n 1, 1) := by decide +kernel
theorem dX12_cut_262 : decode cX12_cut 262 = .ok (.iload 4, 2) := by decide +kernel
theorem dX12_cut_264 : decode cX12_cut 264 = .ok (.lconst 0, 1) := by decide +kernel
theorem dX12_cut_265 : decode cX12_cut 265 = .ok (.invokevirtual 185, 3) := by decide +kernel
theorem dX12_cut_268 : decode cX12_cut 268 = .ok (.iload_n 1, 1) := by decide +kernel
theorem dX12_cut_269 : decode cX12_cut 269 = .ok (.iload_n 3, 1) := by decide +kernel
theorem dX12_cut_270 : decode cX12_cut 270 = .ok (.iadd, 1) := by decide +kernel
theorem dX12_cut_271 : decode cX12_cut 271 = .ok (.istore_n 1, 1) := by decide +kernel
theorem dX12_cut_272 : decode cX12_cut 272 = .ok (.goto 19, 3) := by decide +kernel
theorem dX12_cut_275 : decode cX12_cut 275 = .ok (.iload_n 1, 1) := by decide +kernel
theorem dX12_cut_276 : decode cX12_cut 276 = .ok (.aload_n 0, 1) := by decide +kernel
theorem dX12_cut_277 : decode cX12_cut 277 = .ok (.iload_n 1, 1) := by decide +kernel
theorem dX12_cut_278 : decode cX12_cut 278 = .ok (.iload_n 2, 1) := by decide +kernel
theorem dX12_cut_279 : decode cX12_cut 279 = .ok (.aload_n 0, 1) := by decide +kernel
theorem dX12_cut_280 : decode cX12_cut 280 = .ok (.iload_n 1, 1) := by decide +kernel
theorem dX12_cut_281 : decode cX12_cut 281 = .ok (.iconst 1, 1) := by decide +kernel
theorem dX12_cut_282 : decode cX12_cut 282 = .ok (.iadd, 1) := by decide +kernel
theorem dX12_cut_283 : decode cX12_cut 283 = .ok (.invokevirtual 181, 3) := by decide +kernel
theorem dX12_cut_286 : decode cX12_cut 286 = .ok (.invokevirtual 196, 3) := by decide +kernel
theorem dX12_cut_289 : decode cX12_cut 289 = .ok (.iadd, 1) := by decide +kernel
theorem dX12_cut_290 : decode cX12_cut 290 = .ok (.istore_n 1, 1) := by decide +kernel
theorem dX12_cut_291 : decode cX12_cut 291 = .ok (.goto (-284), 3) := by decide +kernel
theorem dX12_cut_294 : decode cX12_cut 294 = .ok (.return_, 1) := by decide +kernel
theorem dX12_sign_0 : decode cX12_sign 0 = .ok (.iload_n 2, 1) := by decide +kernel
theorem dX12_sign_1 : decode cX12_sign 1 = .ok (.bipush 59, 2) := by decide +kernel
theorem dX12_sign_3 : decode cX12_sign 3 = .ok (.if_icmp .ne 7, 3) := by decide +kernel
theorem dX12_sign_6 : decode cX12_sign 6 = .ok (.iconst 4, 1) := by decide +kernel
theorem dX12_sign_7 : decode cX12_sign 7 = .ok (.goto 36, 3) := by decide +kernel
theorem dX12_sign_10 : decode cX12_sign 10 = .ok (.iload_n 2, 1) := by decide +kernel
theorem dX12_sign_11 : decode cX12_sign 11 = .ok (.bipush 61, 2) := by decide +kernel
theorem dX12_sign_13 : decode cX12_sign 13 = .ok (.if_icmp .ne 7, 3) := by decide +kernel
theorem dX12_sign_16 : decode cX12_sign 16 = .ok (.iconst 5, 1) := by decide +kernel
theorem dX12_sign_17 : decode cX12_sign 17 = .ok (.goto 26, 3) := by decide +kernel
theorem dX12_sign_20 : decode cX12_sign 20 = .ok (.iload_n 2, 1) := by decide +kernel
theorem dX12_sign_21 : decode cX12_sign 21 = .ok (.bipush 40, 2) := by decide +kernel
theorem dX12_sign_23 : decode cX12_sign 23 = .ok (.if_icmp .ne 8, 3) := by decide +kernel
theorem dX12_sign_26 : decode cX12_sign 26 = .ok (.bipush 6, 2) := by decide +kernel
theorem dX12_sign_28 : decode cX12_sign 28 = .ok (.goto 15, 3) := by decide +kernel
theorem dX12_sign_31 : decode cX12_sign 31 = .ok (.iload_n 2, 1) := by decide +kernel
theorem dX12_sign_32 : decode cX12_sign 32 = .ok (.bipush 41, 2) := by decide +kernel
theorem dX12_sign_34 : decode cX12_sign 34 = .ok (.if_icmp .ne 8, 3) := by decide +kernel
theorem dX12_sign_37 : decode cX12_sign 37 = .ok (.bipush 7, 2) := by decide +kernel
theorem dX12_sign_39 : decode cX12_sign 39 = .ok (.goto 4, 3) := by decide +kernel
theorem dX12_sign_42 : decode cX12_sign 42 = .ok (.iconst 3, 1) := by decide +kernel
theorem dX12_sign_43 : decode cX12_sign 43 = .ok (.istore 4, 2) := by decide +kernel
theorem dX12_sign_45 : decode cX12_sign 45 = .ok (.iload_n 2, 1) := by decide +kernel
theorem dX12_sign_46 : decode cX12_sign 46 = .ok (.bipush 43, 2) := by decide +kernel
theorem dX12_sign_48 : decode cX12_sign 48 = .ok (.if_icmp .ne 7, 3) := by decide +kernel
theorem dX12_sign_51 : decode cX12_sign 51 = .ok (.bipush 8, 2) := by decide +kernel
theorem dX12_sign_53 : decode cX12_sign 53 = .ok (.istore 4, 2) := by decide +kernel
theorem dX12_sign_55 : decode cX12_sign 55 = .ok (.iload_n 2, 1) := by decide +kernel
theorem dX12_sign_56 : decode cX12_sign 56 = .ok (.bipush 45, 2) := by decide +kernel
theorem dX12_sign_58 : decode cX12_sign 58 = .ok (.if_icmp .ne 7, 3) := by decide +kernel
theorem dX12_sign_61 : decode cX12_sign 61 = .ok (.bipush 9, 2) := by decide +kernel
theorem dX12_sign_63 : decode cX12_sign 63 = .ok (.istore 4, 2) := by decide +kernel
theorem dX12_sign_65 : decode cX12_sign 65 = .ok (.iload_n 2, 1) := by decide +kernel
theorem dX12_sign_66 : decode cX12_sign 66 = .ok (.bipush 42, 2) := by decide +kernel
theorem dX12_sign_68 : decode cX12_sign 68 = .ok (.if_icmp .ne 7, 3) := by decide +kernel
theorem dX12_sign_71 : decode cX12_sign 71 = .ok (.bipush 10, 2) := by decide +kernel
theorem dX12_sign_73 : decode cX12_sign 73 = .ok (.istore 4, 2) := by decide +kernel
theorem dX12_sign_75 : decode cX12_sign 75 = .ok (.iload_n 2, 1) := by decide +kernel
theorem dX12_sign_76 : decode cX12_sign 76 = .ok (.bipush 47, 2) := by decide +kernel
theorem dX12_sign_78 : decode cX12_sign 78 = .ok (.if_icmp .ne 7, 3) := by decide +kernel
theorem dX12_sign_81 : decode cX12_sign 81 = .ok (.bipush 15, 2) := by decide +kernel
theorem dX12_sign_83 : decode cX12_sign 83 = .ok (.istore 4, 2) := by decide +kernel
theorem dX12_sign_85 : decode cX12_sign 85 = .ok (.iload_n 2, 1) := by decide +kernel
theorem dX12_sign_86 : decode cX12_sign 86 = .ok (.bipush 60, 2) := by decide +kernel
theorem dX12_sign_88 : decode cX12_sign 88 = .ok (.if_icmp .ne 7, 3) := by decide +kernel
theorem dX12_sign_91 : decode cX12_sign 91 = .ok (.bipush 13, 2) := by decide +kernel
theorem dX12_sign_93 : decode cX12_sign 93 = .ok (.istore 4, 2) := by decide +kernel
theorem dX12_sign_95 : decode cX12_sign 95 = .ok (.aload_n 0, 1) := by decide +kernel
theorem dX12_sign_96 : decode cX12_sign 96 = .ok (.iload 4, 2) := by decide +kernel
theorem dX12_sign_98 : decode cX12_sign 98 = .ok (.iload_n 1, 1) := by decide +kernel
theorem dX12_sign_99 : decode cX12_sign 99 = .ok (.iconst 0, 1) := by decide +kernel
theorem dX12_sign_100 : decode cX12_sign 100 = .ok (.lconst 0, 1) := by decide +kernel
theorem dX12_sign_101 : decode cX12_sign 101 = .ok (.invokevirtual 185, 3) := by decide +kernel
theorem dX12_sign_104 : decode cX12_sign 104 = .ok (.iconst 1, 1) := by decide +kernel
theorem dX12_sign_105 : decode cX12_sign 105 = .ok (.ireturn, 1) := by decide +kernel
theorem dX12_is_0 : decode cX12_is 0 = .ok (.aload_n 0, 1) := by decide +kernel
theorem dX12_is_1 : decode cX12_is 1 = .ok (.getfield 200, 3) := by decide +kernel
theorem dX12_is_4 : decode cX12_is 4 = .ok (.ifCond .ne 20, 3) := by decide +kernel
theorem dX12_is_7 : decode cX12_is 7 = .ok (.aload_n 0, 1) := by decide +kernel
theorem dX12_is_8 : decode cX12_is 8 = .ok (.getfield 20, 3) := by decide +kernel
theorem dX12_is_11 : decode cX12_is 11 = .ok (.aload_n 0, 1) := by decide +kernel
theorem dX12_is_12 : decode cX12_is 12 = .ok (.getfield 203, 3) := by decide +kernel
theorem dX12_is_15 : decode cX12_is 15 = .ok (.iaload, 1) := by decide +kernel
theorem dX12_is_16 : decode cX12_is 16 = .ok (.iload_n 1, 1) := by decide +kernel
theorem dX12_is_17 : decode cX12_is 17 = .ok (.if_icmp .ne 7, 3) := by decide +kernel
theorem dX12_is_20 : decode cX12_is 20 = .ok (.iconst 1, 1) := by decide +kernel
theorem dX12_is_21 : decode cX12_is 21 = .ok (.goto 4, 3) := by decide +kernel
theorem dX12_is_24 : decode cX12_is 24 = .ok (.iconst 0, 1) := by decide +kernel
theorem dX12_is_25 : decode cX12_is 25 = .ok (.ireturn, 1) := by decide +kernel
theorem dX12_fail_0 : decode cX12_fail 0 = .ok (.aload_n 0, 1) := by decide +kernel
theorem dX12_fail_1 : decode cX12_fail 1 = .ok (.getfield 200, 3) := by decide +kernel
theorem dX12_fail_4 : decode cX12_fail 4 = .ok (.ifCond .le 4, 3) := by decide +kernel
theorem dX12_fail_7 : decode cX12_fail 7 = .ok (.return_, 1) := by decide +kernel
theorem dX12_fail_8 : decode cX12_fail 8 = .ok (.aload_n 0, 1) := by decide +kernel
theorem dX12_fail_9 : decode cX12_fail 9 = .ok (.iload_n 1, 1) := by decide +kernel
theorem dX12_fail_10 : decode cX12_fail 10 = .ok (.putfield 200, 3) := by decide +kernel
theorem dX12_fail_13 : decode cX12_fail 13 = .ok (.aload_n 0, 1) := by decide +kernel
theorem dX12_fail_14 : decode cX12_fail 14 = .ok (.aload_n 0, 1) := by decide +kernel
theorem dX12_fail_15 : decode cX12_fail 15 = .ok (.getfield 24, 3) := by decide +kernel
theorem dX12_fail_18 : decode cX12_fail 18 = .ok (.aload_n 0, 1) := by decide +kernel
theorem dX12_fail_19 : decode cX12_fail 19 = .ok (.getfield 203, 3) := by decide +kernel
theorem dX12_fail_22 : decode cX12_fail 22 = .ok (.iaload, 1) := by decide +kernel
theorem dX12_fail_23 : decode cX12_fail 23 = .ok (.putfield 206, 3) := by decide +kernel
theorem dX12_fail_26 : decode cX12_fail 26 = .ok (.return_, 1) := by decide +kernel
theorem dX12_wrong_0 : decode cX12_wrong 0 = .ok (.aload_n 0, 1) := by decide +kernel
theorem dX12_wrong_1 : decode cX12_wrong 1 = .ok (.getfield 24, 3) := by decide +kernel
theorem dX12_wrong_4 : decode cX12_wrong 4 = .ok (.iload_n 2, 1) := by decide +kernel
theorem dX12_wrong_5 : decode cX12_wrong 5 = .ok (.iaload, 1) := by decide +kernel
theorem dX12_wrong_6 : decode cX12_wrong 6 = .ok (.istore_n 3, 1) := by decide +kernel
theorem dX12_wrong_7 : decode cX12_wrong 7 = .ok (.aload_n 0, 1) := by decide +kernel
theorem dX12_wrong_8 : decode cX12_wrong 8 = .ok (.getfield 200, 3) := by decide +kernel
theorem dX12_wrong_11 : decode cX12_wrong 11 = .ok (.ifCond .gt 34, 3) := by decide +kernel
theorem dX12_wrong_14 : decode cX12_wrong 14 = .ok (.aload_n 0, 1) := by decide +kernel
theorem dX12_wrong_15 : decode cX12_wrong 15 = .ok (.getfield 209, 3) := by decide +kernel
theorem dX12_wrong_18 : decode cX12_wrong 18 = .ok (.ifCond .eq 28, 3) := by decide +kernel
theorem dX12_wrong_21 : decode cX12_wrong 21 = .ok (.iload_n 3, 1) := by decide +kernel
theorem dX12_wrong_22 : decode cX12_wrong 22 = .ok (.aload_n 0, 1) := by decide +kernel
theorem dX12_wrong_23 : decode cX12_wrong 23 = .ok (.getfield 212, 3) := by decide +kernel
theorem dX12_wrong_26 : decode cX12_wrong 26 = .ok (.if_icmp .gt 19, 3) := by decide +kernel
theorem dX12_wrong_29 : decode cX12_wrong 29 = .ok (.iload_n 3, 1) := by decide +kernel
theorem dX12_wrong_30 : decode cX12_wrong 30 = .ok (.aload_n 0, 1) := by decide +kernel
theorem dX12_wrong_31 : decode cX12_wrong 31 = .ok (.getfield 212, 3) := by decide +kernel
theorem dX12_wrong_34 : decode cX12_wrong 34 = .ok (.if_icmp .ne 12, 3) := by decide +kernel
theorem dX12_wrong_37 : decode cX12_wrong 37 = .ok (.iload_n 1, 1) := by decide +kernel
theorem dX12_wrong_38 : decode cX12_wrong 38 = .ok (.aload_n 0, 1) := by decide +kernel
theorem dX12_wrong_39 : decode cX12_wrong 39 = .ok (.getfield 209, 3) := by decide +kernel
theorem dX12_wrong_42 : decode cX12_wrong 42 = .ok (.if_icmp .lt 4, 3) := by decide +kernel
theorem dX12_wrong_45 : decode cX12_wrong 45 = .ok (.return_, 1) := by decide +kernel
theorem dX12_wrong_46 : decode cX12_wrong 46 = .ok (.aload_n 0, 1) := by decide +kernel
theorem dX12_wrong_47 : decode cX12_wrong 47 = .ok (.iload_n 1, 1) := by decide +kernel
theorem dX12_wrong_48 : decode cX12_wrong 48 = .ok (.putfield 209, 3) := by decide +kernel
theorem dX12_wrong_51 : decode cX12_wrong 51 = .ok (.aload_n 0, 1) := by decide +kernel
theorem dX12_wrong_52 : decode cX12_wrong 52 = .ok (.iload_n 3, 1) := by decide +kernel
theorem dX12_wrong_53 : decode cX12_wrong 53 = .ok (.putfield 212, 3) := by decide +kernel
theorem dX12_wrong_56 : decode cX12_wrong 56 = .ok (.return_, 1) := by decide +kernel
theorem dX12_goesOn_0 : decode cX12_goesOn 0 = .ok (.aload_n 0, 1) := by decide +kernel
theorem dX12_goesOn_1 : decode cX12_goesOn 1 = .ok (.getfield 203, 3) := by decide +kernel
theorem dX12_goesOn_4 : decode cX12_goesOn 4 = .ok (.sipush 400, 3) := by decide +kernel
theorem dX12_goesOn_7 : decode cX12_goesOn 7 = .ok (.if_icmp .ne 11, 3) := by decide +kernel
theorem dX12_goesOn_10 : decode cX12_goesOn 10 = .ok (.aload_n 0, 1) := by decide +kernel
theorem dX12_goesOn_11 : decode cX12_goesOn 11 = .ok (.iconst 2, 1) := by decide +kernel
theorem dX12_goesOn_12 : decode cX12_goesOn 12 = .ok (.invokevirtual 215, 3) := by decide +kernel
theorem dX12_goesOn_15 : decode cX12_goesOn 15 = .ok (.goto 13, 3) := by decide +kernel
theorem dX12_goesOn_18 : decode cX12_goesOn 18 = .ok (.aload_n 0, 1) := by decide +kernel
theorem dX12_goesOn_19 : decode cX12_goesOn 19 = .ok (.dup, 1) := by decide +kernel
theorem dX12_goesOn_20 : decode cX12_goesOn 20 = .ok (.getfield 203, 3) := by decide +kernel
theorem dX12_goesOn_23 : decode cX12_goesOn 23 = .ok (.iconst 1, 1) := by decide +kernel
theorem dX12_goesOn_24 : decode cX12_goesOn 24 = .ok (.iadd, 1) := by decide +kernel
theorem dX12_goesOn_25 : decode cX12_goesOn 25 = .ok (.putfield 203, 3) := by decide +kernel
theorem dX12_goesOn_28 : decode cX12_goesOn 28 = .ok (.return_, 1) := by decide +kernel
theorem dX12_must_0 : decode cX12_must 0 = .ok (.aload_n 0, 1) := by decide +kernel
theorem dX12_must_1 : decode cX12_must 1 = .ok (.iload_n 1, 1) := by decide +kernel
theorem dX12_must_2 : decode cX12_must 2 = .ok (.invokevirtual 218, 3) := by decide +kernel
theorem dX12_must_5 : decode cX12_must 5 = .ok (.ifCond .eq 10, 3) := by decide +kernel
theorem dX12_must_8 : decode cX12_must 8 = .ok (.aload_n 0, 1) := by decide +kernel
theorem dX12_must_9 : decode cX12_must 9 = .ok (.invokevirtual 221, 3) := by decide +kernel
theorem dX12_must_12 : decode cX12_must 12 = .ok (.goto 8, 3) := by decide +kernel
theorem dX12_must_15 : decode cX12_must 15 = .ok (.aload_n 0, 1) := by decide +kernel
theorem dX12_must_16 : decode cX12_must 16 = .ok (.iconst 1, 1) := by decide +kernel
theorem dX12_must_17 : decode cX12_must 17 = .ok (.invokevirtual 215, 3) := by decide +kernel
theorem dX12_must_20 : decode cX12_must 20 = .ok (.return_, 1) := by decide +kernel
theorem dX12_plain_0 : decode cX12_plain 0 = .ok (.aload_n 0, 1) := by decide +kernel
theorem dX12_plain_1 : decode cX12_plain 1 = .ok (.getfield 43, 3) := by decide +kernel
theorem dX12_plain_4 : decode cX12_plain 4 = .ok (.iload_n 1, 1) := by decide +kernel
theorem dX12_plain_5 : decode cX12_plain 5 = .ok (.iconst 2, 1) := by decide +kernel
theorem dX12_plain_6 : decode cX12_plain 6 = .ok (.iastore, 1) := by decide +kernel
theorem dX12_plain_7 : decode cX12_plain 7 = .ok (.aload_n 0, 1) := by decide +kernel
theorem dX12_plain_8 : decode cX12_plain 8 = .ok (.getfield 46, 3) := by decide +kernel
theorem dX12_plain_11 : decode cX12_plain 11 = .ok (.iload_n 1, 1) := by decide +kernel
theorem dX12_plain_12 : decode cX12_plain 12 = .ok (.iconst 0, 1) := by decide +kernel
theorem dX12_plain_13 : decode cX12_plain 13 = .ok (.iastore, 1) := by decide +kernel
theorem dX12_plain_14 : decode cX12_plain 14 = .ok (.aload_n 0, 1) := by decide +kernel
theorem dX12_plain_15 : decode cX12_plain 15 = .ok (.getfield 61, 3) := by decide +kernel
theorem dX12_plain_18 : decode cX12_plain 18 = .ok (.iload_n 1, 1) := by decide +kernel
theorem dX12_plain_19 : decode cX12_plain 19 = .ok (.iconst 0, 1) := by decide +kernel
theorem dX12_plain_20 : decode cX12_plain 20 = .ok (.iastore, 1) := by decide +kernel
theorem dX12_plain_21 : decode cX12_plain 21 = .ok (.aload_n 0, 1) := by decide +kernel
theorem dX12_plain_22 : decode cX12_plain 22 = .ok (.getfield 67, 3) := by decide +kernel
theorem dX12_plain_25 : decode cX12_plain 25 = .ok (.iload_n 1, 1) := by decide +kernel
theorem dX12_plain_26 : decode cX12_plain 26 = .ok (.iconst 0, 1) := by decide +kernel
theorem dX12_plain_27 : decode cX12_plain 27 = .ok (.iastore, 1) := by decide +kernel
theorem dX12_plain_28 : decode cX12_plain 28 = .ok (.aload_n 0, 1) := by decide +kernel
theorem dX12_plain_29 : decode cX12_plain 29 = .ok (.getfield 73, 3) := by decide +kernel
theorem dX12_plain_32 : decode cX12_plain 32 = .ok (.iload_n 1, 1) := by decide +kernel
theorem dX12_plain_33 : decode cX12_plain 33 = .ok (.iconst 0, 1) := by decide +kernel
theorem dX12_plain_34 : decode cX12_plain 34 = .ok (.iastore, 1) := by decide +kernel
theorem dX12_plain_35 : decode cX12_plain 35 = .ok (.iconst 0, 1) := by decide +kernel
theorem dX12_plain_36 : decode cX12_plain 36 = .ok (.istore_n 2, 1) := by decide +kernel
theorem dX12_plain_37 : decode cX12_plain 37 = .ok (.iload_n 2, 1) := by decide +kernel
theorem dX12_plain_38 : decode cX12_plain 38 = .ok (.iconst 3, 1) := by decide +kernel
theorem dX12_plain_39 : decode cX12_plain 39 = .ok (.if_icmp .ge 31, 3) := by decide +kernel
theorem dX12_plain_42 : decode cX12_plain 42 = .ok (.aload_n 0, 1) := by decide +kernel
theorem dX12_plain_43 : decode cX12_plain 43 = .ok (.getfield 76, 3) := by decide +kernel
theorem dX12_plain_46 : decode cX12_plain 46 = .ok (.iconst 3, 1) := by decide +kernel
theorem dX12_plain_47 : decode cX12_plain 47 = .ok (.iload_n 1, 1) := by decide +kernel
theorem dX12_plain_48 : decode cX12_plain 48 = .ok (.imul, 1) := by decide +kernel
theorem dX12_plain_49 : decode cX12_plain 49 = .ok (.iload_n 2, 1) := by decide +kernel
theorem dX12_plain_50 : decode cX12_plain 50 = .ok (.iadd, 1) := by decide +kernel
theorem dX12_plain_51 : decode cX12_plain 51 = .ok (.iconst 0, 1) := by decide +kernel
theorem dX12_plain_52 : decode cX12_plain 52 = .ok (.iastore, 1) := by decide +kernel
theorem dX12_plain_53 : decode cX12_plain 53 = .ok (.aload_n 0, 1) := by decide +kernel
theorem dX12_plain_54 : decode cX12_plain 54 = .ok (.getfield 79, 3) := by decide +kernel
theorem dX12_plain_57 : decode cX12_plain 57 = .ok (.iconst 3, 1) := by decide +kernel
theorem dX12_plain_58 : decode cX12_plain 58 = .ok (.iload_n 1, 1) := by decide +kernel
theorem dX12_plain_59 : decode cX12_plain 59 = .ok (.imul, 1) := by decide +kernel
theorem dX12_plain_60 : decode cX12_plain 60 = .ok (.iload_n 2, 1) := by decide +kernel
theorem dX12_plain_61 : decode cX12_plain 61 = .ok (.iadd, 1) := by decide +kernel
theorem dX12_plain_62 : decode cX12_plain 62 = .ok (.iconst 0, 1) := by decide +kernel
theorem dX12_plain_63 : decode cX12_plain 63 = .ok (.iastore, 1) := by decide +kernel
theorem dX12_plain_64 : decode cX12_plain 64 = .ok (.iinc 2 1, 3) := by decide +kernel
theorem dX12_plain_67 : decode cX12_plain 67 = .ok (.goto (-30), 3) := by decide +kernel
theorem dX12_plain_70 : decode cX12_plain 70 = .ok (.return_, 1) := by decide +kernel
theorem dX12_read_0 : decode cX12_read 0 = .ok (.aload_n 0, 1) := by decide +kernel
theorem dX12_read_1 : decode cX12_read 1 = .ok (.aload_n 0, 1) := by decide +kernel
theorem dX12_read_2 : decode cX12_read 2 = .ok (.getfield 163, 3) := by decide +kernel
theorem dX12_read_5 : decode cX12_read 5 = .ok (.putfield 169, 3) := by decide +kernel
theorem dX12_read_8 : decode cX12_read 8 = .ok (.iconst 0, 1) := by decide +kernel
theorem dX12_read_9 : decode cX12_read 9 = .ok (.istore_n 1, 1) := by decide +kernel
theorem dX12_read_10 : decode cX12_read 10 = .ok (.iload_n 1, 1) := by decide +kernel
theorem dX12_read_11 : decode cX12_read 11 = .ok (.aload_n 0, 1) := by decide +kernel
theorem dX12_read_12 : decode cX12_read 12 = .ok (.getfield 169, 3) := by decide +kernel
theorem dX12_read_15 : decode cX12_read 15 = .ok (.if_icmp .ge 21, 3) := by decide +kernel
theorem dX12_read_18 : decode cX12_read 18 = .ok (.aload_n 0, 1) := by decide +kernel
theorem dX12_read_19 : decode cX12_read 19 = .ok (.getfield 17, 3) := by decide +kernel
theorem dX12_read_22 : decode cX12_read 22 = .ok (.iload_n 1, 1) := by decide +kernel
theorem dX12_read_23 : decode cX12_read 23 = .ok (.aload_n 0, 1) := by decide +kernel
theorem dX12_read_24 : decode cX12_read 24 = .ok (.getfield 13, 3) := by decide +kernel
theorem dX12_read_27 : decode cX12_read 27 = .ok (.iload_n 1, 1) := by decide +kernel
theorem dX12_read_28 : decode cX12_read 28 = .ok (.baload, 1) := by decide +kernel
theorem dX12_read_29 : decode cX12_read 29 = .ok (.bastore, 1) := by decide +kernel
theorem dX12_read_30 : decode cX12_read 30 = .ok (.iinc 1 1, 3) := by decide +kernel
theorem dX12_read_33 : decode cX12_read 33 = .ok (.goto (-23), 3) := by decide +kernel
theorem dX12_read_36 : decode cX12_read 36 = .ok (.aload_n 0, 1) := by decide +kernel
theorem dX12_read_37 : decode cX12_read 37 = .ok (.iconst 0, 1) := by decide +kernel
theorem dX12_read_38 : decode cX12_read 38 = .ok (.putfield 163, 3) := by decide +kernel
theorem dX12_read_41 : decode cX12_read 41 = .ok (.aload_n 0, 1) := by decide +kernel
theorem dX12_read_42 : decode cX12_read 42 = .ok (.invokevirtual 224, 3) := by decide +kernel
theorem dX12_read_45 : decode cX12_read 45 = .ok (.aload_n 0, 1) := by decide +kernel
theorem dX12_read_46 : decode cX12_read 46 = .ok (.iconst 0, 1) := by decide +kernel
theorem dX12_read_47 : decode cX12_read 47 = .ok (.putfield 203, 3) := by decide +kernel
theorem dX12_read_50 : decode cX12_read 50 = .ok (.aload_n 0, 1) := by decide +kernel
theorem dX12_read_51 : decode cX12_read 51 = .ok (.iconst 0, 1) := by decide +kernel
theorem dX12_read_52 : decode cX12_read 52 = .ok (.putfield 227, 3) := by decide +kernel
theorem dX12_read_55 : decode cX12_read 55 = .ok (.aload_n 0, 1) := by decide +kernel
theorem dX12_read_56 : decode cX12_read 56 = .ok (.iconst 0, 1) := by decide +kernel
theorem dX12_read_57 : decode cX12_read 57 = .ok (.putfield 200, 3) := by decide +kernel
theorem dX12_read_60 : decode cX12_read 60 = .ok (.aload_n 0, 1) := by decide +kernel
theorem dX12_read_61 : decode cX12_read 61 = .ok (.iconst 0, 1) := by decide +kernel
theorem dX12_read_62 : decode cX12_read 62 = .ok (.putfield 209, 3) := by decide +kernel
theorem dX12_read_65 : decode cX12_read 65 = .ok (.aload_n 0, 1) := by decide +kernel
theorem dX12_read_66 : decode cX12_read 66 = .ok (.iconst 1, 1) := by decide +kernel
theorem dX12_read_67 : decode cX12_read 67 = .ok (.aload_n 0, 1) := by decide +kernel
theorem dX12_read_68 : decode cX12_read 68 = .ok (.getfield 230, 3) := by decide +kernel
theorem dX12_read_71 : decode cX12_read 71 = .ok (.isub, 1) := by decide +kernel
theorem dX12_read_72 : decode cX12_read 72 = .ok (.putfield 233, 3) := by decide +kernel
theorem dX12_read_75 : decode cX12_read 75 = .ok (.aload_n 0, 1) := by decide +kernel
theorem dX12_read_76 : decode cX12_read 76 = .ok (.iconst 0, 1) := by decide +kernel
theorem dX12_read_77 : decode cX12_read 77 = .ok (.putfield 236, 3) := by decide +kernel
theorem dX12_read_80 : decode cX12_read 80 = .ok (.aload_n 0, 1) := by decide +kernel
theorem dX12_read_81 : decode cX12_read 81 = .ok (.aload_n 0, 1) := by decide +kernel
theorem dX12_read_82 : decode cX12_read 82 = .ok (.getfield 233, 3) := by decide +kernel
theorem dX12_read_85 : decode cX12_read 85 = .ok (.invokevirtual 149, 3) := by decide +kernel
theorem dX12_read_88 : decode cX12_read 88 = .ok (.aload_n 0, 1) := by decide +kernel
theorem dX12_read_89 : decode cX12_read 89 = .ok (.sipush 130, 3) := by decide +kernel
theorem dX12_read_92 : decode cX12_read 92 = .ok (.aload_n 0, 1) := by decide +kernel
theorem dX12_read_93 : decode cX12_read 93 = .ok (.getfield 233, 3) := by decide +kernel
theorem dX12_read_96 : decode cX12_read 96 = .ok (.imul, 1) := by decide +kernel
theorem dX12_read_97 : decode cX12_read 97 = .ok (.putfield 239, 3) := by decide +kernel
theorem dX12_read_100 : decode cX12_read 100 = .ok (.aload_n 0, 1) := by decide +kernel
theorem dX12_read_101 : decode cX12_read 101 = .ok (.sipush 420, 3) := by decide +kernel
theorem dX12_read_104 : decode cX12_read 104 = .ok (.aload_n 0, 1) := by decide +kernel
theorem dX12_read_105 : decode cX12_read 105 = .ok (.getfield 233, 3) := by decide +kernel
theorem dX12_read_108 : decode cX12_read 108 = .ok (.imul, 1) := by decide +kernel
theorem dX12_read_109 : decode cX12_read 109 = .ok (.putfield 242, 3) := by decide +kernel
theorem dX12_read_112 : decode cX12_read 112 = .ok (.aload_n 0, 1) := by decide +kernel
theorem dX12_read_113 : decode cX12_read 113 = .ok (.getfield 200, 3) := by decide +kernel
theorem dX12_read_116 : decode cX12_read 116 = .ok (.ifCond .ne 18, 3) := by decide +kernel
theorem dX12_read_119 : decode cX12_read 119 = .ok (.aload_n 0, 1) := by decide +kernel
theorem dX12_read_120 : decode cX12_read 120 = .ok (.iconst 0, 1) := by decide +kernel
theorem dX12_read_121 : decode cX12_read 121 = .ok (.invokevirtual 218, 3) := by decide +kernel
theorem dX12_read_124 : decode cX12_read 124 = .ok (.ifCond .ne 10, 3) := by decide +kernel
theorem dX12_read_127 : decode cX12_read 127 = .ok (.aload_n 0, 1) := by decide +kernel
theorem dX12_read_128 : decode cX12_read 128 = .ok (.invokevirtual 245, 3) := by decide +kernel
theorem dX12_read_131 : decode cX12_read 131 = .ok (.goto (-19), 3) := by decide +kernel
theorem dX12_read_134 : decode cX12_read 134 = .ok (.aload_n 0, 1) := by decide +kernel
theorem dX12_read_135 : decode cX12_read 135 = .ok (.getfield 200, 3) := by decide +kernel
theorem dX12_read_138 : decode cX12_read 138 = .ok (.ifCond .ne 19, 3) := by decide +kernel
theorem dX12_read_141 : decode cX12_read 141 = .ok (.aload_n 0, 1) := by decide +kernel
theorem dX12_read_142 : decode cX12_read 142 = .ok (.invokevirtual 248, 3) := by decide +kernel
theorem dX12_read_145 : decode cX12_read 145 = .ok (.ifCond .ne 12, 3) := by decide +kernel
theorem dX12_read_148 : decode cX12_read 148 = .ok (.aload_n 0, 1) := by decide +kernel
theorem dX12_read_149 : decode cX12_read 149 = .ok (.iconst 5, 1) := by decide +kernel
theorem dX12_read_150 : decode cX12_read 150 = .ok (.aload_n 0, 1) := by decide +kernel
theorem dX12_read_151 : decode cX12_read 151 = .ok (.getfield 203, 3) := by decide +kernel
theorem dX12_read_154 : decode cX12_read 154 = .ok (.invokevirtual 252, 3) := by decide +kernel
theorem dX12_read_157 : decode cX12_read 157 = .ok (.aload_n 0, 1) := by decide +kernel
theorem dX12_read_158 : decode cX12_read 158 = .ok (.aload_n 0, 1) := by decide +kernel
theorem dX12_read_159 : decode cX12_read 159 = .ok (.getfield 200, 3) := by decide +kernel
theorem dX12_read_162 : decode cX12_read 162 = .ok (.ifCond .le 10, 3) := by decide +kernel
theorem dX12_read_165 : decode cX12_read 165 = .ok (.aload_n 0, 1) := by decide +kernel
theorem dX12_read_166 : decode cX12_read 166 = .ok (.getfield 206, 3) := by decide +kernel
theorem dX12_read_169 : decode cX12_read 169 = .ok (.goto 18, 3) := by decide +kernel
theorem dX12_read_172 : decode cX12_read 172 = .ok (.aload_n 0, 1) := by decide +kernel
theorem dX12_read_173 : decode cX12_read 173 = .ok (.getfield 209, 3) := by decide +kernel
theorem dX12_read_176 : decode cX12_read 176 = .ok (.ifCond .le 10, 3) := by decide +kernel
theorem dX12_read_179 : decode cX12_read 179 = .ok (.aload_n 0, 1) := by decide +kernel
theorem dX12_read_180 : decode cX12_read 180 = .ok (.getfield 212, 3) := by decide +kernel
theorem dX12_read_183 : decode cX12_read 183 = .ok (.goto 4, 3) := by decide +kernel
theorem dX12_read_186 : decode cX12_read 186 = .ok (.iconst (-1), 1) := by decide +kernel
theorem dX12_read_187 : decode cX12_read 187 = .ok (.putfield 37, 3) := by decide +kernel
theorem dX12_read_190 : decode cX12_read 190 = .ok (.aload_n 0, 1) := by decide +kernel
theorem dX12_read_191 : decode cX12_read 191 = .ok (.getfield 200, 3) := by decide +kernel
theorem dX12_read_194 : decode cX12_read 194 = .ok (.ifCond .le 8, 3) := by decide +kernel
theorem dX12_read_197 : decode cX12_read 197 = .ok (.aload_n 0, 1) := by decide +kernel
theorem dX12_read_198 : decode cX12_read 198 = .ok (.getfield 200, 3) := by decide +kernel
theorem dX12_read_201 : decode cX12_read 201 = .ok (.ireturn, 1) := by decide +kernel
theorem dX12_read_202 : decode cX12_read 202 = .ok (.aload_n 0, 1) := by decide +kernel
theorem dX12_read_203 : decode cX12_read 203 = .ok (.getfield 209, 3) := by decide +kernel
theorem dX12_read_206 : decode cX12_read 206 = .ok (.ifCond .le 8, 3) := by decide +kernel
theorem dX12_read_209 : decode cX12_read 209 = .ok (.aload_n 0, 1) := by decide +kernel
theorem dX12_read_210 : decode cX12_read 210 = .ok (.getfield 209, 3) := by decide +kernel
theorem dX12_read_213 : decode cX12_read 213 = .ok (.ireturn, 1) := by decide +kernel
theorem dX12_read_214 : decode cX12_read 214 = .ok (.aload_n 0, 1) := by decide +kernel
theorem dX12_read_215 : decode cX12_read 215 = .ok (.aload_n 0, 1) := by decide +kernel
theorem dX12_read_216 : decode cX12_read 216 = .ok (.getfield 233, 3) := by decide +kernel
theorem dX12_read_219 : decode cX12_read 219 = .ok (.putfield 230, 3) := by decide +kernel
theorem dX12_read_222 : decode cX12_read 222 = .ok (.aload_n 0, 1) := by decide +kernel
theorem dX12_read_223 : decode cX12_read 223 = .ok (.invokevirtual 157, 3) := by decide +kernel
theorem dX12_read_226 : decode cX12_read 226 = .ok (.aload_n 0, 1) := by decide +kernel
theorem dX12_read_227 : decode cX12_read 227 = .ok (.invokevirtual 160, 3) := by decide +kernel
theorem dX12_read_230 : decode cX12_read 230 = .ok (.aload_n 0, 1) := by decide +kernel
theorem dX12_read_231 : decode cX12_read 231 = .ok (.iconst 0, 1) := by decide +kernel
theorem dX12_read_232 : decode cX12_read 232 = .ok (.putfield 256, 3) := by decide +kernel
theorem dX12_read_235 : decode cX12_read 235 = .ok (.aload_n 0, 1) := by decide +kernel
theorem dX12_read_236 : decode cX12_read 236 = .ok (.iconst 0, 1) := by decide +kernel
theorem dX12_read_237 : decode cX12_read 237 = .ok (.putfield 259, 3) := by decide +kernel
theorem dX12_read_240 : decode cX12_read 240 = .ok (.iconst 0, 1) := by decide +kernel
theorem dX12_read_241 : decode cX12_read 241 = .ok (.istore_n 1, 1) := by decide +kernel
theorem dX12_read_242 : decode cX12_read 242 = .ok (.iload_n 1, 1) := by decide +kernel
theorem dX12_read_243 : decode cX12_read 243 = .ok (.iconst 3, 1) := by decide +kernel
theorem dX12_read_244 : decode cX12_read 244 = .ok (.if_icmp .ge 16, 3) := by decide +kernel
theorem dX12_read_247 : decode cX12_read 247 = .ok (.aload_n 0, 1) := by decide +kernel
theorem dX12_read_248 : decode cX12_read 248 = .ok (.getfield 143, 3) := by decide +kernel
theorem dX12_read_251 : decode cX12_read 251 = .ok (.iload_n 1, 1) := by decide +kernel
theorem dX12_read_252 : decode cX12_read 252 = .ok (.iconst 0, 1) := by decide +kernel
theorem dX12_read_253 : decode cX12_read 253 = .ok (.bastore, 1) := by decide +kernel
theorem dX12_read_254 : decode cX12_read 254 = .ok (.iinc 1 1, 3) := by decide +kernel
theorem dX12_read_257 : decode cX12_read 257 = .ok (.goto (-15), 3) := by decide +kernel
theorem dX12_read_260 : decode cX12_read 260 = .ok (.iconst 0, 1) := by decide +kernel
theorem dX12_read_261 : decode cX12_read 261 = .ok (.ireturn, 1) := by decide +kernel
theorem dX12_place_0 : decode cX12_place 0 = .ok (.aload_n 0, 1) := by decide +kernel
theorem dX12_place_1 : decode cX12_place 1 = .ok (.getfield 37, 3) := by decide +kernel
theorem dX12_place_4 : decode cX12_place 4 = .ok (.ireturn, 1) := by decide +kernel
theorem dX12_areSides_0 : decode cX12_areSides 0 = .ok (.iconst 0, 1) := by decide +kernel
theorem dX12_areSides_1 : decode cX12_areSides 1 = .ok (.istore_n 1, 1) := by decide +kernel
theorem dX12_areSides_2 : decode cX12_areSides 2 = .ok (.iload_n 1, 1) := by decide +kernel
theorem dX12_areSides_3 : decode cX12_areSides 3 = .ok (.aload_n 0, 1) := by decide +kernel
theorem dX12_areSides_4 : decode cX12_areSides 4 = .ok (.getfield 46, 3) := by decide +kernel
theorem dX12_areSides_7 : decode cX12_areSides 7 = .ok (.aload_n 0, 1) := by decide +kernel
theorem dX12_areSides_8 : decode cX12_areSides 8 = .ok (.getfield 233, 3) := by decide +kernel
theorem dX12_areSides_11 : decode cX12_areSides 11 = .ok (.iaload, 1) := by decide +kernel
theorem dX12_areSides_12 : decode cX12_areSides 12 = .ok (.if_icmp .ge 37, 3) := by decide +kernel
theorem dX12_areSides_15 : decode cX12_areSides 15 = .ok (.aload_n 0, 1) := by decide +kernel
theorem dX12_areSides_16 : decode cX12_areSides 16 = .ok (.getfield 49, 3) := by decide +kernel
theorem dX12_areSides_19 : decode cX12_areSides 19 = .ok (.bipush 7, 2) := by decide +kernel
theorem dX12_areSides_21 : decode cX12_areSides 21 = .ok (.aload_n 0, 1) := by decide +kernel
theorem dX12_areSides_22 : decode cX12_areSides 22 = .ok (.getfield 233, 3) := by decide +kernel
theorem dX12_areSides_25 : decode cX12_areSides 25 = .ok (.imul, 1) := by decide +kernel
theorem dX12_areSides_26 : decode cX12_areSides 26 = .ok (.iload_n 1, 1) := by decide +kernel
theorem dX12_areSides_27 : decode cX12_areSides 27 = .ok (.iadd, 1) := by decide +kernel
theorem dX12_areSides_28 : decode cX12_areSides 28 = .ok (.iaload, 1) := by decide +kernel
theorem dX12_areSides_29 : decode cX12_areSides 29 = .ok (.aload_n 0, 1) := by decide +kernel
theorem dX12_areSides_30 : decode cX12_areSides 30 = .ok (.getfield 43, 3) := by decide +kernel
theorem dX12_areSides_33 : decode cX12_areSides 33 = .ok (.aload_n 0, 1) := by decide +kernel
theorem dX12_areSides_34 : decode cX12_areSides 34 = .ok (.getfield 233, 3) := by decide +kernel
theorem dX12_areSides_37 : decode cX12_areSides 37 = .ok (.iaload, 1) := by decide +kernel
theorem dX12_areSides_38 : decode cX12_areSides 38 = .ok (.if_icmp .lt 5, 3) := by decide +kernel
theorem dX12_areSides_41 : decode cX12_areSides 41 = .ok (.iconst 0, 1) := by decide +kernel
theorem dX12_areSides_42 : decode cX12_areSides 42 = .ok (.ireturn, 1) := by decide +kernel
theorem dX12_areSides_43 : decode cX12_areSides 43 = .ok (.iinc 1 1, 3) := by decide +kernel
theorem dX12_areSides_46 : decode cX12_areSides 46 = .ok (.goto (-44), 3) := by decide +kernel
theorem dX12_areSides_49 : decode cX12_areSides 49 = .ok (.iconst 0, 1) := by decide +kernel
theorem dX12_areSides_50 : decode cX12_areSides 50 = .ok (.istore_n 1, 1) := by decide +kernel
theorem dX12_areSides_51 : decode cX12_areSides 51 = .ok (.iload_n 1, 1) := by decide +kernel
theorem dX12_areSides_52 : decode cX12_areSides 52 = .ok (.aload_n 0, 1) := by decide +kernel
theorem dX12_areSides_53 : decode cX12_areSides 53 = .ok (.getfield 67, 3) := by decide +kernel
theorem dX12_areSides_56 : decode cX12_areSides 56 = .ok (.aload_n 0, 1) := by decide +kernel
theorem dX12_areSides_57 : decode cX12_areSides 57 = .ok (.getfield 233, 3) := by decide +kernel
theorem dX12_areSides_60 : decode cX12_areSides 60 = .ok (.iaload, 1) := by decide +kernel
theorem dX12_areSides_61 : decode cX12_areSides 61 = .ok (.if_icmp .ge 37, 3) := by decide +kernel
theorem dX12_areSides_64 : decode cX12_areSides 64 = .ok (.aload_n 0, 1) := by decide +kernel
theorem dX12_areSides_65 : decode cX12_areSides 65 = .ok (.getfield 70, 3) := by decide +kernel
theorem dX12_areSides_68 : decode cX12_areSides 68 = .ok (.bipush 8, 2) := by decide +kernel
theorem dX12_areSides_70 : decode cX12_areSides 70 = .ok (.aload_n 0, 1) := by decide +kernel
theorem dX12_areSides_71 : decode cX12_areSides 71 = .ok (.getfield 233, 3) := by decide +kernel
theorem dX12_areSides_74 : decode cX12_areSides 74 = .ok (.imul, 1) := by decide +kernel
theorem dX12_areSides_75 : decode cX12_areSides 75 = .ok (.iload_n 1, 1) := by decide +kernel
theorem dX12_areSides_76 : decode cX12_areSides 76 = .ok (.iadd, 1) := by decide +kernel
theorem dX12_areSides_77 : decode cX12_areSides 77 = .ok (.iaload, 1) := by decide +kernel
theorem dX12_areSides_78 : decode cX12_areSides 78 = .ok (.aload_n 0, 1) := by decide +kernel
theorem dX12_areSides_79 : decode cX12_areSides 79 = .ok (.getfield 43, 3) := by decide +kernel
theorem dX12_areSides_82 : decode cX12_areSides 82 = .ok (.aload_n 0, 1) := by decide +kernel
theorem dX12_areSides_83 : decode cX12_areSides 83 = .ok (.getfield 233, 3) := by decide +kernel
theorem dX12_areSides_86 : decode cX12_areSides 86 = .ok (.iaload, 1) := by decide +kernel
theorem dX12_areSides_87 : decode cX12_areSides 87 = .ok (.if_icmp .lt 5, 3) := by decide +kernel
theorem dX12_areSides_90 : decode cX12_areSides 90 = .ok (.iconst 0, 1) := by decide +kernel
theorem dX12_areSides_91 : decode cX12_areSides 91 = .ok (.ireturn, 1) := by decide +kernel
theorem dX12_areSides_92 : decode cX12_areSides 92 = .ok (.iinc 1 1, 3) := by decide +kernel
theorem dX12_areSides_95 : decode cX12_areSides 95 = .ok (.goto (-44), 3) := by decide +kernel
theorem dX12_areSides_98 : decode cX12_areSides 98 = .ok (.iconst 1, 1) := by decide +kernel
theorem dX12_areSides_99 : decode cX12_areSides 99 = .ok (.ireturn, 1) := by decide +kernel
theorem dX12_roomFor_0 : decode cX12_roomFor 0 = .ok (.iload_n 1, 1) := by decide +kernel
theorem dX12_roomFor_1 : decode cX12_roomFor 1 = .ok (.iload_n 2, 1) := by decide +kernel
theorem dX12_roomFor_2 : decode cX12_roomFor 2 = .ok (.if_icmp .ne 8, 3) := by decide +kernel
theorem dX12_roomFor_5 : decode cX12_roomFor 5 = .ok (.aload_n 0, 1) := by decide +kernel
theorem dX12_roomFor_6 : decode cX12_roomFor 6 = .ok (.iconst 2, 1) := by decide +kernel
theorem dX12_roomFor_7 : decode cX12_roomFor 7 = .ok (.invokevirtual 215, 3) := by decide +kernel
theorem dX12_roomFor_10 : decode cX12_roomFor 10 = .ok (.aload_n 0, 1) := by decide +kernel
theorem dX12_roomFor_11 : decode cX12_roomFor 11 = .ok (.getfield 200, 3) := by decide +kernel
theorem dX12_roomFor_14 : decode cX12_roomFor 14 = .ok (.ifCond .ne 7, 3) := by decide +kernel
theorem dX12_roomFor_17 : decode cX12_roomFor 17 = .ok (.aload_n 0, 1) := by decide +kernel
theorem dX12_roomFor_18 : decode cX12_roomFor 18 = .ok (.invokevirtual 221, 3) := by decide +kernel
theorem dX12_roomFor_21 : decode cX12_roomFor 21 = .ok (.return_, 1) := by decide +kernel
theorem dX12_tellOne_0 : decode cX12_tellOne 0 = .ok (.aload_n 0, 1) := by decide +kernel
theorem dX12_tellOne_1 : decode cX12_tellOne 1 = .ok (.getfield 20, 3) := by decide +kernel
theorem dX12_tellOne_4 : decode cX12_tellOne 4 = .ok (.aload_n 0, 1) := by decide +kernel
theorem dX12_tellOne_5 : decode cX12_tellOne 5 = .ok (.getfield 203, 3) := by decide +kernel
theorem dX12_tellOne_8 : decode cX12_tellOne 8 = .ok (.iaload, 1) := by decide +kernel
theorem dX12_tellOne_9 : decode cX12_tellOne 9 = .ok (.tableswitch 189 20 27 #[47, 74, 103, 131, 189, 189, 189, 160], 47) := by decide +kernel
theorem dX12_tellOne_56 : decode cX12_tellOne 56 = .ok (.aload_n 0, 1) := by decide +kernel
theorem dX12_tellOne_57 : decode cX12_tellOne 57 = .ok (.invokevirtual 221, 3) := by decide +kernel
theorem dX12_tellOne_60 : decode cX12_tellOne 60 = .ok (.aload_n 0, 1) := by decide +kernel
theorem dX12_tellOne_61 : decode cX12_tellOne 61 = .ok (.getfield 43, 3) := by decide +kernel
theorem dX12_tellOne_64 : decode cX12_tellOne 64 = .ok (.aload_n 0, 1) := by decide +kernel
theorem dX12_tellOne_65 : decode cX12_tellOne 65 = .ok (.getfield 233, 3) := by decide +kernel
theorem dX12_tellOne_68 : decode cX12_tellOne 68 = .ok (.aload_n 0, 1) := by decide +kernel
theorem dX12_tellOne_69 : decode cX12_tellOne 69 = .ok (.iconst 2, 1) := by decide +kernel
theorem dX12_tellOne_70 : decode cX12_tellOne 70 = .ok (.iconst 3, 1) := by decide +kernel
theorem dX12_tellOne_71 : decode cX12_tellOne 71 = .ok (.invokevirtual 262, 3) := by decide +kernel
theorem dX12_tellOne_74 : decode cX12_tellOne 74 = .ok (.iastore, 1) := by decide +kernel
theorem dX12_tellOne_75 : decode cX12_tellOne 75 = .ok (.aload_n 0, 1) := by decide +kernel
theorem dX12_tellOne_76 : decode cX12_tellOne 76 = .ok (.iconst 4, 1) := by decide +kernel
theorem dX12_tellOne_77 : decode cX12_tellOne 77 = .ok (.invokevirtual 266, 3) := by decide +kernel
theorem dX12_tellOne_80 : decode cX12_tellOne 80 = .ok (.goto 171, 3) := by decide +kernel
theorem dX12_tellOne_83 : decode cX12_tellOne 83 = .ok (.aload_n 0, 1) := by decide +kernel
theorem dX12_tellOne_84 : decode cX12_tellOne 84 = .ok (.aload_n 0, 1) := by decide +kernel
theorem dX12_tellOne_85 : decode cX12_tellOne 85 = .ok (.getfield 46, 3) := by decide +kernel
theorem dX12_tellOne_88 : decode cX12_tellOne 88 = .ok (.aload_n 0, 1) := by decide +kernel
theorem dX12_tellOne_89 : decode cX12_tellOne 89 = .ok (.getfield 233, 3) := by decide +kernel
theorem dX12_tellOne_92 : decode cX12_tellOne 92 = .ok (.iaload, 1) := by decide +kernel
theorem dX12_tellOne_93 : decode cX12_tellOne 93 = .ok (.bipush 7, 2) := by decide +kernel
theorem dX12_tellOne_95 : decode cX12_tellOne 95 = .ok (.invokevirtual 269, 3) := by decide +kernel
theorem dX12_tellOne_98 : decode cX12_tellOne 98 = .ok (.aload_n 0, 1) := by decide +kernel
theorem dX12_tellOne_99 : decode cX12_tellOne 99 = .ok (.getfield 200, 3) := by decide +kernel
theorem dX12_tellOne_102 : decode cX12_tellOne 102 = .ok (.ifCond .ne 149, 3) := by decide +kernel
theorem dX12_tellOne_105 : decode cX12_tellOne 105 = .ok (.aload_n 0, 1) := by decide +kernel
theorem dX12_tellOne_106 : decode cX12_tellOne 106 = .ok (.invokevirtual 272, 3) := by decide +kernel
theorem dX12_tellOne_109 : decode cX12_tellOne 109 = .ok (.goto 142, 3) := by decide +kernel
theorem dX12_tellOne_112 : decode cX12_tellOne 112 = .ok (.aload_n 0, 1) := by decide +kernel
theorem dX12_tellOne_113 : decode cX12_tellOne 113 = .ok (.aload_n 0, 1) := by decide +kernel
theorem dX12_tellOne_114 : decode cX12_tellOne 114 = .ok (.getfield 61, 3) := by decide +kernel
theorem dX12_tellOne_117 : decode cX12_tellOne 117 = .ok (.aload_n 0, 1) := by decide +kernel
theorem dX12_tellOne_118 : decode cX12_tellOne 118 = .ok (.getfield 233, 3) := by decide +kernel
theorem dX12_tellOne_121 : decode cX12_tellOne 121 = .ok (.iaload, 1) := by decide +kernel
theorem dX12_tellOne_122 : decode cX12_tellOne 122 = .ok (.iconst 5, 1) := by decide +kernel
theorem dX12_tellOne_123 : decode cX12_tellOne 123 = .ok (.invokevirtual 269, 3) := by decide +kernel
theorem dX12_tellOne_126 : decode cX12_tellOne 126 = .ok (.aload_n 0, 1) := by decide +kernel
theorem dX12_tellOne_127 : decode cX12_tellOne 127 = .ok (.getfield 200, 3) := by decide +kernel
theorem dX12_tellOne_130 : decode cX12_tellOne 130 = .ok (.ifCond .ne 121, 3) := by decide +kernel
theorem dX12_tellOne_133 : decode cX12_tellOne 133 = .ok (.aload_n 0, 1) := by decide +kernel
theorem dX12_tellOne_134 : decode cX12_tellOne 134 = .ok (.invokevirtual 275, 3) := by decide +kernel
theorem dX12_tellOne_137 : decode cX12_tellOne 137 = .ok (.goto 114, 3) := by decide +kernel
theorem dX12_tellOne_140 : decode cX12_tellOne 140 = .ok (.aload_n 0, 1) := by decide +kernel
theorem dX12_tellOne_141 : decode cX12_tellOne 141 = .ok (.aload_n 0, 1) := by decide +kernel
theorem dX12_tellOne_142 : decode cX12_tellOne 142 = .ok (.getfield 67, 3) := by decide +kernel
theorem dX12_tellOne_145 : decode cX12_tellOne 145 = .ok (.aload_n 0, 1) := by decide +kernel
theorem dX12_tellOne_146 : decode cX12_tellOne 146 = .ok (.getfield 233, 3) := by decide +kernel
theorem dX12_tellOne_149 : decode cX12_tellOne 149 = .ok (.iaload, 1) := by decide +kernel
theorem dX12_tellOne_150 : decode cX12_tellOne 150 = .ok (.bipush 8, 2) := by decide +kernel
theorem dX12_tellOne_152 : decode cX12_tellOne 152 = .ok (.invokevirtual 269, 3) := by decide +kernel
theorem dX12_tellOne_155 : decode cX12_tellOne 155 = .ok (.aload_n 0, 1) := by decide +kernel
theorem dX12_tellOne_156 : decode cX12_tellOne 156 = .ok (.getfield 200, 3) := by decide +kernel
theorem dX12_tellOne_159 : decode cX12_tellOne 159 = .ok (.ifCond .ne 92, 3) := by decide +kernel
theorem dX12_tellOne_162 : decode cX12_tellOne 162 = .ok (.aload_n 0, 1) := by decide +kernel
theorem dX12_tellOne_163 : decode cX12_tellOne 163 = .ok (.invokevirtual 278, 3) := by decide +kernel
theorem dX12_tellOne_166 : decode cX12_tellOne 166 = .ok (.goto 85, 3) := by decide +kernel
theorem dX12_tellOne_169 : decode cX12_tellOne 169 = .ok (.aload_n 0, 1) := by decide +kernel
theorem dX12_tellOne_170 : decode cX12_tellOne 170 = .ok (.invokevirtual 221, 3) := by decide +kernel
theorem dX12_tellOne_173 : decode cX12_tellOne 173 = .ok (.aload_n 0, 1) := by decide +kernel
theorem dX12_tellOne_174 : decode cX12_tellOne 174 = .ok (.getfield 73, 3) := by decide +kernel
theorem dX12_tellOne_177 : decode cX12_tellOne 177 = .ok (.aload_n 0, 1) := by decide +kernel
theorem dX12_tellOne_178 : decode cX12_tellOne 178 = .ok (.getfield 233, 3) := by decide +kernel
theorem dX12_tellOne_181 : decode cX12_tellOne 181 = .ok (.aload_n 0, 1) := by decide +kernel
theorem dX12_tellOne_182 : decode cX12_tellOne 182 = .ok (.iconst 0, 1) := by decide +kernel
theorem dX12_tellOne_183 : decode cX12_tellOne 183 = .ok (.sipush 9999, 3) := by decide +kernel
theorem dX12_tellOne_186 : decode cX12_tellOne 186 = .ok (.invokevirtual 262, 3) := by decide +kernel
theorem dX12_tellOne_189 : decode cX12_tellOne 189 = .ok (.iastore, 1) := by decide +kernel
theorem dX12_tellOne_190 : decode cX12_tellOne 190 = .ok (.aload_n 0, 1) := by decide +kernel
theorem dX12_tellOne_191 : decode cX12_tellOne 191 = .ok (.iconst 4, 1) := by decide +kernel
theorem dX12_tellOne_192 : decode cX12_tellOne 192 = .ok (.invokevirtual 266, 3) := by decide +kernel
theorem dX12_tellOne_195 : decode cX12_tellOne 195 = .ok (.goto 56, 3) := by decide +kernel
theorem dX12_tellOne_198 : decode cX12_tellOne 198 = .ok (.aload_n 0, 1) := by decide +kernel
theorem dX12_tellOne_199 : decode cX12_tellOne 199 = .ok (.getfield 20, 3) := by decide +kernel
theorem dX12_tellOne_202 : decode cX12_tellOne 202 = .ok (.aload_n 0, 1) := by decide +kernel
theorem dX12_tellOne_203 : decode cX12_tellOne 203 = .ok (.getfield 203, 3) := by decide +kernel
theorem dX12_tellOne_206 : decode cX12_tellOne 206 = .ok (.iaload, 1) := by decide +kernel
theorem dX12_tellOne_207 : decode cX12_tellOne 207 = .ok (.bipush 24, 2) := by decide +kernel
theorem dX12_tellOne_209 : decode cX12_tellOne 209 = .ok (.isub, 1) := by decide +kernel
theorem dX12_tellOne_210 : decode cX12_tellOne 210 = .ok (.istore_n 1, 1) := by decide +kernel
theorem dX12_tellOne_211 : decode cX12_tellOne 211 = .ok (.iload_n 1, 1) := by decide +kernel
theorem dX12_tellOne_212 : decode cX12_tellOne 212 = .ok (.ifCond .lt 17, 3) := by decide +kernel
theorem dX12_tellOne_215 : decode cX12_tellOne 215 = .ok (.aload_n 0, 1) := by decide +kernel
theorem dX12_tellOne_216 : decode cX12_tellOne 216 = .ok (.getfield 20, 3) := by decide +kernel
theorem dX12_tellOne_219 : decode cX12_tellOne 219 = .ok (.aload_n 0, 1) := by decide +kernel
theorem dX12_tellOne_220 : decode cX12_tellOne 220 = .ok (.getfield 203, 3) := by decide +kernel
theorem dX12_tellOne_223 : decode cX12_tellOne 223 = .ok (.iaload, 1) := by decide +kernel
theorem dX12_tellOne_224 : decode cX12_tellOne 224 = .ok (.bipush 26, 2) := by decide +kernel
theorem dX12_tellOne_226 : decode cX12_tellOne 226 = .ok (.if_icmp .le 8, 3) := by decide +kernel
theorem dX12_tellOne_229 : decode cX12_tellOne 229 = .ok (.aload_n 0, 1) := by decide +kernel
theorem dX12_tellOne_230 : decode cX12_tellOne 230 = .ok (.iconst 1, 1) := by decide +kernel
theorem dX12_tellOne_231 : decode cX12_tellOne 231 = .ok (.invokevirtual 215, 3) := by decide +kernel
theorem dX12_tellOne_234 : decode cX12_tellOne 234 = .ok (.aload_n 0, 1) := by decide +kernel
theorem dX12_tellOne_235 : decode cX12_tellOne 235 = .ok (.getfield 200, 3) := by decide +kernel
theorem dX12_tellOne_238 : decode cX12_tellOne 238 = .ok (.ifCond .le 4, 3) := by decide +kernel
theorem dX12_tellOne_241 : decode cX12_tellOne 241 = .ok (.return_, 1) := by decide +kernel
theorem dX12_tellOne_242 : decode cX12_tellOne 242 = .ok (.aload_n 0, 1) := by decide +kernel
theorem dX12_tellOne_243 : decode cX12_tellOne 243 = .ok (.invokevirtual 221, 3) := by decide +kernel
theorem dX12_tellOne_246 : decode cX12_tellOne 246 = .ok (.aload_n 0, 1) := by decide +kernel
theorem dX12_tellOne_247 : decode cX12_tellOne 247 = .ok (.iload_n 1, 1) := by decide +kernel
theorem dX12_tellOne_248 : decode cX12_tellOne 248 = .ok (.invokevirtual 281, 3) := by decide +kernel
theorem dX12_tellOne_251 : decode cX12_tellOne 251 = .ok (.return_, 1) := by decide +kernel
theorem dX12_named_0 : decode cX12_named 0 = .ok (.aload_n 0, 1) := by decide +kernel
theorem dX12_named_1 : decode cX12_named 1 = .ok (.getfield 203, 3) := by decide +kernel
theorem dX12_named_4 : decode cX12_named 4 = .ok (.istore_n 1, 1) := by decide +kernel
theorem dX12_named_5 : decode cX12_named 5 = .ok (.aload_n 0, 1) := by decide +kernel
theorem dX12_named_6 : decode cX12_named 6 = .ok (.iconst 1, 1) := by decide +kernel
theorem dX12_named_7 : decode cX12_named 7 = .ok (.invokevirtual 266, 3) := by decide +kernel
theorem dX12_named_10 : decode cX12_named 10 = .ok (.iconst 0, 1) := by decide +kernel
theorem dX12_named_11 : decode cX12_named 11 = .ok (.istore_n 2, 1) := by decide +kernel
theorem dX12_named_12 : decode cX12_named 12 = .ok (.iload_n 2, 1) := by decide +kernel
theorem dX12_named_13 : decode cX12_named 13 = .ok (.aload_n 0, 1) := by decide +kernel
theorem dX12_named_14 : decode cX12_named 14 = .ok (.getfield 236, 3) := by decide +kernel
theorem dX12_named_17 : decode cX12_named 17 = .ok (.if_icmp .ge 38, 3) := by decide +kernel
theorem dX12_named_20 : decode cX12_named 20 = .ok (.aload_n 0, 1) := by decide +kernel
theorem dX12_named_21 : decode cX12_named 21 = .ok (.getfield 200, 3) := by decide +kernel
theorem dX12_named_24 : decode cX12_named 24 = .ok (.ifCond .ne 31, 3) := by decide +kernel
theorem dX12_named_27 : decode cX12_named 27 = .ok (.aload_n 0, 1) := by decide +kernel
theorem dX12_named_28 : decode cX12_named 28 = .ok (.getfield 40, 3) := by decide +kernel
theorem dX12_named_31 : decode cX12_named 31 = .ok (.iload_n 2, 1) := by decide +kernel
theorem dX12_named_32 : decode cX12_named 32 = .ok (.laload, 1) := by decide +kernel
theorem dX12_named_33 : decode cX12_named 33 = .ok (.aload_n 0, 1) := by decide +kernel
theorem dX12_named_34 : decode cX12_named 34 = .ok (.getfield 30, 3) := by decide +kernel
theorem dX12_named_37 : decode cX12_named 37 = .ok (.iload_n 1, 1) := by decide +kernel
theorem dX12_named_38 : decode cX12_named 38 = .ok (.laload, 1) := by decide +kernel
theorem dX12_named_39 : decode cX12_named 39 = .ok (.lcmp, 1) := by decide +kernel
theorem dX12_named_40 : decode cX12_named 40 = .ok (.ifCond .ne 9, 3) := by decide +kernel
theorem dX12_named_43 : decode cX12_named 43 = .ok (.aload_n 0, 1) := by decide +kernel
theorem dX12_named_44 : decode cX12_named 44 = .ok (.iconst 3, 1) := by decide +kernel
theorem dX12_named_45 : decode cX12_named 45 = .ok (.iload_n 1, 1) := by decide +kernel
theorem dX12_named_46 : decode cX12_named 46 = .ok (.invokevirtual 252, 3) := by decide +kernel
theorem dX12_named_49 : decode cX12_named 49 = .ok (.iinc 2 1, 3) := by decide +kernel
theorem dX12_named_52 : decode cX12_named 52 = .ok (.goto (-40), 3) := by decide +kernel
theorem dX12_named_55 : decode cX12_named 55 = .ok (.iload_n 1, 1) := by decide +kernel
theorem dX12_named_56 : decode cX12_named 56 = .ok (.ireturn, 1) := by decide +kernel
theorem dX12_ends_0 : decode cX12_ends 0 = .ok (.aload_n 0, 1) := by decide +kernel
theorem dX12_ends_1 : decode cX12_ends 1 = .ok (.iconst 4, 1) := by decide +kernel
theorem dX12_ends_2 : decode cX12_ends 2 = .ok (.invokevirtual 266, 3) := by decide +kernel
theorem dX12_ends_5 : decode cX12_ends 5 = .ok (.aload_n 0, 1) := by decide +kernel
theorem dX12_ends_6 : decode cX12_ends 6 = .ok (.getfield 200, 3) := by decide +kernel
theorem dX12_ends_9 : decode cX12_ends 9 = .ok (.ifCond .le 4, 3) := by decide +kernel
theorem dX12_ends_12 : decode cX12_ends 12 = .ok (.return_, 1) := by decide +kernel
theorem dX12_ends_13 : decode cX12_ends 13 = .ok (.aload_n 0, 1) := by decide +kernel
theorem dX12_ends_14 : decode cX12_ends 14 = .ok (.getfield 40, 3) := by decide +kernel
theorem dX12_ends_17 : decode cX12_ends 17 = .ok (.aload_n 0, 1) := by decide +kernel
theorem dX12_ends_18 : decode cX12_ends 18 = .ok (.getfield 236, 3) := by decide +kernel
theorem dX12_ends_21 : decode cX12_ends 21 = .ok (.aload_n 0, 1) := by decide +kernel
theorem dX12_ends_22 : decode cX12_ends 22 = .ok (.getfield 30, 3) := by decide +kernel
theorem dX12_ends_25 : decode cX12_ends 25 = .ok (.iload_n 1, 1) := by decide +kernel
theorem dX12_ends_26 : decode cX12_ends 26 = .ok (.laload, 1) := by decide +kernel
theorem dX12_ends_27 : decode cX12_ends 27 = .ok (.lastore, 1) := by decide +kernel
theorem dX12_ends_28 : decode cX12_ends 28 = .ok (.aload_n 0, 1) := by decide +kernel
theorem dX12_ends_29 : decode cX12_ends 29 = .ok (.dup, 1) := by decide +kernel
theorem dX12_ends_30 : decode cX12_ends 30 = .ok (.getfield 236, 3) := by decide +kernel
theorem dX12_ends_33 : decode cX12_ends 33 = .ok (.iconst 1, 1) := by decide +kernel
theorem dX12_ends_34 : decode cX12_ends 34 = .ok (.iadd, 1) := by decide +kernel
theorem dX12_ends_35 : decode cX12_ends 35 = .ok (.putfield 236, 3) := by decide +kernel
theorem dX12_ends_38 : decode cX12_ends 38 = .ok (.return_, 1) := by decide +kernel
theorem dX12_bounded_0 : decode cX12_bounded 0 = .ok (.aload_n 0, 1) := by decide +kernel
theorem dX12_bounded_1 : decode cX12_bounded 1 = .ok (.getfield 200, 3) := by decide +kernel
theorem dX12_bounded_4 : decode cX12_bounded 4 = .ok (.ifCond .gt 11, 3) := by decide +kernel
theorem dX12_bounded_7 : decode cX12_bounded 7 = .ok (.aload_n 0, 1) := by decide +kernel
theorem dX12_bounded_8 : decode cX12_bounded 8 = .ok (.iconst 2, 1) := by decide +kernel
theorem dX12_bounded_9 : decode cX12_bounded 9 = .ok (.invokevirtual 218, 3) := by decide +kernel
theorem dX12_bounded_12 : decode cX12_bounded 12 = .ok (.ifCond .ne 10, 3) := by decide +kernel
theorem dX12_bounded_15 : decode cX12_bounded 15 = .ok (.aload_n 0, 1) := by decide +kernel
theorem dX12_bounded_16 : decode cX12_bounded 16 = .ok (.iconst 1, 1) := by decide +kernel
theorem dX12_bounded_17 : decode cX12_bounded 17 = .ok (.invokevirtual 215, 3) := by decide +kernel
theorem dX12_bounded_20 : decode cX12_bounded 20 = .ok (.iload_n 1, 1) := by decide +kernel
theorem dX12_bounded_21 : decode cX12_bounded 21 = .ok (.ireturn, 1) := by decide +kernel
theorem dX12_bounded_22 : decode cX12_bounded 22 = .ok (.aload_n 0, 1) := by decide +kernel
theorem dX12_bounded_23 : decode cX12_bounded 23 = .ok (.getfield 27, 3) := by decide +kernel
theorem dX12_bounded_26 : decode cX12_bounded 26 = .ok (.aload_n 0, 1) := by decide +kernel
theorem dX12_bounded_27 : decode cX12_bounded 27 = .ok (.getfield 203, 3) := by decide +kernel
theorem dX12_bounded_30 : decode cX12_bounded 30 = .ok (.iaload, 1) := by decide +kernel
theorem dX12_bounded_31 : decode cX12_bounded 31 = .ok (.istore_n 3, 1) := by decide +kernel
theorem dX12_bounded_32 : decode cX12_bounded 32 = .ok (.iload_n 3, 1) := by decide +kernel
theorem dX12_bounded_33 : decode cX12_bounded 33 = .ok (.iload_n 1, 1) := by decide +kernel
theorem dX12_bounded_34 : decode cX12_bounded 34 = .ok (.if_icmp .lt 8, 3) := by decide +kernel
theorem dX12_bounded_37 : decode cX12_bounded 37 = .ok (.iload_n 3, 1) := by decide +kernel
theorem dX12_bounded_38 : decode cX12_bounded 38 = .ok (.iload_n 2, 1) := by decide +kernel
theorem dX12_bounded_39 : decode cX12_bounded 39 = .ok (.if_icmp .le 12, 3) := by decide +kernel
theorem dX12_bounded_42 : decode cX12_bounded 42 = .ok (.aload_n 0, 1) := by decide +kernel
theorem dX12_bounded_43 : decode cX12_bounded 43 = .ok (.iconst 5, 1) := by decide +kernel
theorem dX12_bounded_44 : decode cX12_bounded 44 = .ok (.aload_n 0, 1) := by decide +kernel
theorem dX12_bounded_45 : decode cX12_bounded 45 = .ok (.getfield 203, 3) := by decide +kernel
theorem dX12_bounded_48 : decode cX12_bounded 48 = .ok (.invokevirtual 252, 3) := by decide +kernel
theorem dX12_bounded_51 : decode cX12_bounded 51 = .ok (.aload_n 0, 1) := by decide +kernel
theorem dX12_bounded_52 : decode cX12_bounded 52 = .ok (.invokevirtual 221, 3) := by decide +kernel
theorem dX12_bounded_55 : decode cX12_bounded 55 = .ok (.iload_n 3, 1) := by decide +kernel
theorem dX12_bounded_56 : decode cX12_bounded 56 = .ok (.ireturn, 1) := by decide +kernel
theorem dX12_tellMan_0 : decode cX12_tellMan 0 = .ok (.bipush 7, 2) := by decide +kernel
theorem dX12_tellMan_2 : decode cX12_tellMan 2 = .ok (.aload_n 0, 1) := by decide +kernel
theorem dX12_tellMan_3 : decode cX12_tellMan 3 = .ok (.getfield 233, 3) := by decide +kernel
theorem dX12_tellMan_6 : decode cX12_tellMan 6 = .ok (.imul, 1) := by decide +kernel
theorem dX12_tellMan_7 : decode cX12_tellMan 7 = .ok (.aload_n 0, 1) := by decide +kernel
theorem dX12_tellMan_8 : decode cX12_tellMan 8 = .ok (.getfield 46, 3) := by decide +kernel
theorem dX12_tellMan_11 : decode cX12_tellMan 11 = .ok (.aload_n 0, 1) := by decide +kernel
theorem dX12_tellMan_12 : decode cX12_tellMan 12 = .ok (.getfield 233, 3) := by decide +kernel
theorem dX12_tellMan_15 : decode cX12_tellMan 15 = .ok (.iaload, 1) := by decide +kernel
theorem dX12_tellMan_16 : decode cX12_tellMan 16 = .ok (.iadd, 1) := by decide +kernel
theorem dX12_tellMan_17 : decode cX12_tellMan 17 = .ok (.istore_n 1, 1) := by decide +kernel
theorem dX12_tellMan_18 : decode cX12_tellMan 18 = .ok (.aload_n 0, 1) := by decide +kernel
theorem dX12_tellMan_19 : decode cX12_tellMan 19 = .ok (.invokevirtual 284, 3) := by decide +kernel
theorem dX12_tellMan_22 : decode cX12_tellMan 22 = .ok (.istore_n 2, 1) := by decide +kernel
theorem dX12_tellMan_23 : decode cX12_tellMan 23 = .ok (.aload_n 0, 1) := by decide +kernel
theorem dX12_tellMan_24 : decode cX12_tellMan 24 = .ok (.getfield 49, 3) := by decide +kernel
theorem dX12_tellMan_27 : decode cX12_tellMan 27 = .ok (.iload_n 1, 1) := by decide +kernel
theorem dX12_tellMan_28 : decode cX12_tellMan 28 = .ok (.aload_n 0, 1) := by decide +kernel
theorem dX12_tellMan_29 : decode cX12_tellMan 29 = .ok (.iconst 0, 1) := by decide +kernel
theorem dX12_tellMan_30 : decode cX12_tellMan 30 = .ok (.iconst 2, 1) := by decide +kernel
theorem dX12_tellMan_31 : decode cX12_tellMan 31 = .ok (.invokevirtual 262, 3) := by decide +kernel
theorem dX12_tellMan_34 : decode cX12_tellMan 34 = .ok (.iastore, 1) := by decide +kernel
theorem dX12_tellMan_35 : decode cX12_tellMan 35 = .ok (.aload_n 0, 1) := by decide +kernel
theorem dX12_tellMan_36 : decode cX12_tellMan 36 = .ok (.getfield 52, 3) := by decide +kernel
theorem dX12_tellMan_39 : decode cX12_tellMan 39 = .ok (.iload_n 1, 1) := by decide +kernel
theorem dX12_tellMan_40 : decode cX12_tellMan 40 = .ok (.aload_n 0, 1) := by decide +kernel
theorem dX12_tellMan_41 : decode cX12_tellMan 41 = .ok (.iconst 1, 1) := by decide +kernel
theorem dX12_tellMan_42 : decode cX12_tellMan 42 = .ok (.bipush 9, 2) := by decide +kernel
theorem dX12_tellMan_44 : decode cX12_tellMan 44 = .ok (.invokevirtual 262, 3) := by decide +kernel
theorem dX12_tellMan_47 : decode cX12_tellMan 47 = .ok (.iastore, 1) := by decide +kernel
theorem dX12_tellMan_48 : decode cX12_tellMan 48 = .ok (.aload_n 0, 1) := by decide +kernel
theorem dX12_tellMan_49 : decode cX12_tellMan 49 = .ok (.getfield 55, 3) := by decide +kernel
theorem dX12_tellMan_52 : decode cX12_tellMan 52 = .ok (.iload_n 1, 1) := by decide +kernel
theorem dX12_tellMan_53 : decode cX12_tellMan 53 = .ok (.aload_n 0, 1) := by decide +kernel
theorem dX12_tellMan_54 : decode cX12_tellMan 54 = .ok (.iconst 0, 1) := by decide +kernel
theorem dX12_tellMan_55 : decode cX12_tellMan 55 = .ok (.bipush 10, 2) := by decide +kernel
theorem dX12_tellMan_57 : decode cX12_tellMan 57 = .ok (.invokevirtual 262, 3) := by decide +kernel
theorem dX12_tellMan_60 : decode cX12_tellMan 60 = .ok (.iastore, 1) := by decide +kernel
theorem dX12_tellMan_61 : decode cX12_tellMan 61 = .ok (.aload_n 0, 1) := by decide +kernel
theorem dX12_tellMan_62 : decode cX12_tellMan 62 = .ok (.getfield 58, 3) := by decide +kernel
theorem dX12_tellMan_65 : decode cX12_tellMan 65 = .ok (.iload_n 1, 1) := by decide +kernel
theorem dX12_tellMan_66 : decode cX12_tellMan 66 = .ok (.aload_n 0, 1) := by decide +kernel
theorem dX12_tellMan_67 : decode cX12_tellMan 67 = .ok (.iconst 0, 1) := by decide +kernel
theorem dX12_tellMan_68 : decode cX12_tellMan 68 = .ok (.sipush 999, 3) := by decide +kernel
theorem dX12_tellMan_71 : decode cX12_tellMan 71 = .ok (.invokevirtual 262, 3) := by decide +kernel
theorem dX12_tellMan_74 : decode cX12_tellMan 74 = .ok (.iastore, 1) := by decide +kernel
theorem dX12_tellMan_75 : decode cX12_tellMan 75 = .ok (.aload_n 0, 1) := by decide +kernel
theorem dX12_tellMan_76 : decode cX12_tellMan 76 = .ok (.iload_n 2, 1) := by decide +kernel
theorem dX12_tellMan_77 : decode cX12_tellMan 77 = .ok (.invokevirtual 288, 3) := by decide +kernel
theorem dX12_tellMan_80 : decode cX12_tellMan 80 = .ok (.aload_n 0, 1) := by decide +kernel
theorem dX12_tellMan_81 : decode cX12_tellMan 81 = .ok (.getfield 200, 3) := by decide +kernel
theorem dX12_tellMan_84 : decode cX12_tellMan 84 = .ok (.ifCond .ne 16, 3) := by decide +kernel
theorem dX12_tellMan_87 : decode cX12_tellMan 87 = .ok (.aload_n 0, 1) := by decide +kernel
theorem dX12_tellMan_88 : decode cX12_tellMan 88 = .ok (.getfield 46, 3) := by decide +kernel
theorem dX12_tellMan_91 : decode cX12_tellMan 91 = .ok (.aload_n 0, 1) := by decide +kernel
theorem dX12_tellMan_92 : decode cX12_tellMan 92 = .ok (.getfield 233, 3) := by decide +kernel
theorem dX12_tellMan_95 : decode cX12_tellMan 95 = .ok (.dup2, 1) := by decide +kernel
theorem dX12_tellMan_96 : decode cX12_tellMan 96 = .ok (.iaload, 1) := by decide +kernel
theorem dX12_tellMan_97 : decode cX12_tellMan 97 = .ok (.iconst 1, 1) := by decide +kernel
theorem dX12_tellMan_98 : decode cX12_tellMan 98 = .ok (.iadd, 1) := by decide +kernel
theorem dX12_tellMan_99 : decode cX12_tellMan 99 = .ok (.iastore, 1) := by decide +kernel
theorem dX12_tellMan_100 : decode cX12_tellMan 100 = .ok (.return_, 1) := by decide +kernel
theorem dX12_tellMotion_0 : decode cX12_tellMotion 0 = .ok (.iconst 5, 1) := by decide +kernel
theorem dX12_tellMotion_1 : decode cX12_tellMotion 1 = .ok (.aload_n 0, 1) := by decide +kernel
theorem dX12_tellMotion_2 : decode cX12_tellMotion 2 = .ok (.getfield 233, 3) := by decide +kernel
theorem dX12_tellMotion_5 : decode cX12_tellMotion 5 = .ok (.imul, 1) := by decide +kernel
theorem dX12_tellMotion_6 : decode cX12_tellMotion 6 = .ok (.aload_n 0, 1) := by decide +kernel
theorem dX12_tellMotion_7 : decode cX12_tellMotion 7 = .ok (.getfield 61, 3) := by decide +kernel
theorem dX12_tellMotion_10 : decode cX12_tellMotion 10 = .ok (.aload_n 0, 1) := by decide +kernel
theorem dX12_tellMotion_11 : decode cX12_tellMotion 11 = .ok (.getfield 233, 3) := by decide +kernel
theorem dX12_tellMotion_14 : decode cX12_tellMotion 14 = .ok (.iaload, 1) := by decide +kernel
theorem dX12_tellMotion_15 : decode cX12_tellMotion 15 = .ok (.iadd, 1) := by decide +kernel
theorem dX12_tellMotion_16 : decode cX12_tellMotion 16 = .ok (.istore_n 1, 1) := by decide +kernel
theorem dX12_tellMotion_17 : decode cX12_tellMotion 17 = .ok (.aload_n 0, 1) := by decide +kernel
theorem dX12_tellMotion_18 : decode cX12_tellMotion 18 = .ok (.invokevirtual 284, 3) := by decide +kernel
theorem dX12_tellMotion_21 : decode cX12_tellMotion 21 = .ok (.istore_n 2, 1) := by decide +kernel
theorem dX12_tellMotion_22 : decode cX12_tellMotion 22 = .ok (.iconst 0, 1) := by decide +kernel
theorem dX12_tellMotion_23 : decode cX12_tellMotion 23 = .ok (.istore_n 3, 1) := by decide +kernel
theorem dX12_tellMotion_24 : decode cX12_tellMotion 24 = .ok (.iload_n 3, 1) := by decide +kernel
theorem dX12_tellMotion_25 : decode cX12_tellMotion 25 = .ok (.iconst 3, 1) := by decide +kernel
theorem dX12_tellMotion_26 : decode cX12_tellMotion 26 = .ok (.if_icmp .ge 26, 3) := by decide +kernel
theorem dX12_tellMotion_29 : decode cX12_tellMotion 29 = .ok (.aload_n 0, 1) := by decide +kernel
theorem dX12_tellMotion_30 : decode cX12_tellMotion 30 = .ok (.getfield 64, 3) := by decide +kernel
theorem dX12_tellMotion_33 : decode cX12_tellMotion 33 = .ok (.iconst 3, 1) := by decide +kernel
theorem dX12_tellMotion_34 : decode cX12_tellMotion 34 = .ok (.iload_n 1, 1) := by decide +kernel
theorem dX12_tellMotion_35 : decode cX12_tellMotion 35 = .ok (.imul, 1) := by decide +kernel
theorem dX12_tellMotion_36 : decode cX12_tellMotion 36 = .ok (.iload_n 3, 1) := by decide +kernel
theorem dX12_tellMotion_37 : decode cX12_tellMotion 37 = .ok (.iadd, 1) := by decide +kernel
theorem dX12_tellMotion_38 : decode cX12_tellMotion 38 = .ok (.aload_n 0, 1) := by decide +kernel
theorem dX12_tellMotion_39 : decode cX12_tellMotion 39 = .ok (.iconst 0, 1) := by decide +kernel
theorem dX12_tellMotion_40 : decode cX12_tellMotion 40 = .ok (.bipush 99, 2) := by decide +kernel
theorem dX12_tellMotion_42 : decode cX12_tellMotion 42 = .ok (.invokevirtual 262, 3) := by decide +kernel
theorem dX12_tellMotion_45 : decode cX12_tellMotion 45 = .ok (.iastore, 1) := by decide +kernel
theorem dX12_tellMotion_46 : decode cX12_tellMotion 46 = .ok (.iinc 3 1, 3) := by decide +kernel
theorem dX12_tellMotion_49 : decode cX12_tellMotion 49 = .ok (.goto (-25), 3) := by decide +kernel
theorem dX12_tellMotion_52 : decode cX12_tellMotion 52 = .ok (.aload_n 0, 1) := by decide +kernel
theorem dX12_tellMotion_53 : decode cX12_tellMotion 53 = .ok (.iload_n 2, 1) := by decide +kernel
theorem dX12_tellMotion_54 : decode cX12_tellMotion 54 = .ok (.invokevirtual 288, 3) := by decide +kernel
theorem dX12_tellMotion_57 : decode cX12_tellMotion 57 = .ok (.aload_n 0, 1) := by decide +kernel
theorem dX12_tellMotion_58 : decode cX12_tellMotion 58 = .ok (.getfield 200, 3) := by decide +kernel
theorem dX12_tellMotion_61 : decode cX12_tellMotion 61 = .ok (.ifCond .ne 16, 3) := by decide +kernel
theorem dX12_tellMotion_64 : decode cX12_tellMotion 64 = .ok (.aload_n 0, 1) := by decide +kernel
theorem dX12_tellMotion_65 : decode cX12_tellMotion 65 = .ok (.getfield 61, 3) := by decide +kernel
theorem dX12_tellMotion_68 : decode cX12_tellMotion 68 = .ok (.aload_n 0, 1) := by decide +kernel
theorem dX12_tellMotion_69 : decode cX12_tellMotion 69 = .ok (.getfield 233, 3) := by decide +kernel
theorem dX12_tellMotion_72 : decode cX12_tellMotion 72 = .ok (.dup2, 1) := by decide +kernel
theorem dX12_tellMotion_73 : decode cX12_tellMotion 73 = .ok (.iaload, 1) := by decide +kernel
theorem dX12_tellMotion_74 : decode cX12_tellMotion 74 = .ok (.iconst 1, 1) := by decide +kernel
theorem dX12_tellMotion_75 : decode cX12_tellMotion 75 = .ok (.iadd, 1) := by decide +kernel
theorem dX12_tellMotion_76 : decode cX12_tellMotion 76 = .ok (.iastore, 1) := by decide +kernel
theorem dX12_tellMotion_77 : decode cX12_tellMotion 77 = .ok (.return_, 1) := by decide +kernel
theorem dX12_tellJuror_0 : decode cX12_tellJuror 0 = .ok (.aload_n 0, 1) := by decide +kernel
theorem dX12_tellJuror_1 : decode cX12_tellJuror 1 = .ok (.invokevirtual 284, 3) := by decide +kernel
theorem dX12_tellJuror_4 : decode cX12_tellJuror 4 = .ok (.istore_n 1, 1) := by decide +kernel
theorem dX12_tellJuror_5 : decode cX12_tellJuror 5 = .ok (.aload_n 0, 1) := by decide +kernel
theorem dX12_tellJuror_6 : decode cX12_tellJuror 6 = .ok (.getfield 70, 3) := by decide +kernel
theorem dX12_tellJuror_9 : decode cX12_tellJuror 9 = .ok (.bipush 8, 2) := by decide +kernel
theorem dX12_tellJuror_11 : decode cX12_tellJuror 11 = .ok (.aload_n 0, 1) := by decide +kernel
theorem dX12_tellJuror_12 : decode cX12_tellJuror 12 = .ok (.getfield 233, 3) := by decide +kernel
theorem dX12_tellJuror_15 : decode cX12_tellJuror 15 = .ok (.imul, 1) := by decide +kernel
theorem dX12_tellJuror_16 : decode cX12_tellJuror 16 = .ok (.aload_n 0, 1) := by decide +kernel
theorem dX12_tellJuror_17 : decode cX12_tellJuror 17 = .ok (.getfield 67, 3) := by decide +kernel
theorem dX12_tellJuror_20 : decode cX12_tellJuror 20 = .ok (.aload_n 0, 1) := by decide +kernel
theorem dX12_tellJuror_21 : decode cX12_tellJuror 21 = .ok (.getfield 233, 3) := by decide +kernel
theorem dX12_tellJuror_24 : decode cX12_tellJuror 24 = .ok (.iaload, 1) := by decide +kernel
theorem dX12_tellJuror_25 : decode cX12_tellJuror 25 = .ok (.iadd, 1) := by decide +kernel
theorem dX12_tellJuror_26 : decode cX12_tellJuror 26 = .ok (.aload_n 0, 1) := by decide +kernel
theorem dX12_tellJuror_27 : decode cX12_tellJuror 27 = .ok (.iconst 0, 1) := by decide +kernel
theorem dX12_tellJuror_28 : decode cX12_tellJuror 28 = .ok (.iconst 2, 1) := by decide +kernel
theorem dX12_tellJuror_29 : decode cX12_tellJuror 29 = .ok (.invokevirtual 262, 3) := by decide +kernel
theorem dX12_tellJuror_32 : decode cX12_tellJuror 32 = .ok (.iastore, 1) := by decide +kernel
theorem dX12_tellJuror_33 : decode cX12_tellJuror 33 = .ok (.aload_n 0, 1) := by decide +kernel
theorem dX12_tellJuror_34 : decode cX12_tellJuror 34 = .ok (.iload_n 1, 1) := by decide +kernel
theorem dX12_tellJuror_35 : decode cX12_tellJuror 35 = .ok (.invokevirtual 288, 3) := by decide +kernel
theorem dX12_tellJuror_38 : decode cX12_tellJuror 38 = .ok (.aload_n 0, 1) := by decide +kernel
theorem dX12_tellJuror_39 : decode cX12_tellJuror 39 = .ok (.getfield 200, 3) := by decide +kernel
theorem dX12_tellJuror_42 : decode cX12_tellJuror 42 = .ok (.ifCond .ne 16, 3) := by decide +kernel
theorem dX12_tellJuror_45 : decode cX12_tellJuror 45 = .ok (.aload_n 0, 1) := by decide +kernel
theorem dX12_tellJuror_46 : decode cX12_tellJuror 46 = .ok (.getfield 67, 3) := by decide +kernel
theorem dX12_tellJuror_49 : decode cX12_tellJuror 49 = .ok (.aload_n 0, 1) := by decide +kernel
theorem dX12_tellJuror_50 : decode cX12_tellJuror 50 = .ok (.getfield 233, 3) := by decide +kernel
theorem dX12_tellJuror_53 : decode cX12_tellJuror 53 = .ok (.dup2, 1) := by decide +kernel
theorem dX12_tellJuror_54 : decode cX12_tellJuror 54 = .ok (.iaload, 1) := by decide +kernel
theorem dX12_tellJuror_55 : decode cX12_tellJuror 55 = .ok (.iconst 1, 1) := by decide +kernel
theorem dX12_tellJuror_56 : decode cX12_tellJuror 56 = .ok (.iadd, 1) := by decide +kernel
theorem dX12_tellJuror_57 : decode cX12_tellJuror 57 = .ok (.iastore, 1) := by decide +kernel
theorem dX12_tellJuror_58 : decode cX12_tellJuror 58 = .ok (.return_, 1) := by decide +kernel
theorem dX12_tellLaw_0 : decode cX12_tellLaw 0 = .ok (.aload_n 0, 1) := by decide +kernel
theorem dX12_tellLaw_1 : decode cX12_tellLaw 1 = .ok (.iconst 5, 1) := by decide +kernel
theorem dX12_tellLaw_2 : decode cX12_tellLaw 2 = .ok (.invokevirtual 266, 3) := by decide +kernel
theorem dX12_tellLaw_5 : decode cX12_tellLaw 5 = .ok (.aload_n 0, 1) := by decide +kernel
theorem dX12_tellLaw_6 : decode cX12_tellLaw 6 = .ok (.getfield 239, 3) := by decide +kernel
theorem dX12_tellLaw_9 : decode cX12_tellLaw 9 = .ok (.istore_n 2, 1) := by decide +kernel
theorem dX12_tellLaw_10 : decode cX12_tellLaw 10 = .ok (.iconst 0, 1) := by decide +kernel
theorem dX12_tellLaw_11 : decode cX12_tellLaw 11 = .ok (.istore_n 3, 1) := by decide +kernel
theorem dX12_tellLaw_12 : decode cX12_tellLaw 12 = .ok (.aload_n 0, 1) := by decide +kernel
theorem dX12_tellLaw_13 : decode cX12_tellLaw 13 = .ok (.getfield 200, 3) := by decide +kernel
theorem dX12_tellLaw_16 : decode cX12_tellLaw 16 = .ok (.ifCond .ne 113, 3) := by decide +kernel
theorem dX12_tellLaw_19 : decode cX12_tellLaw 19 = .ok (.aload_n 0, 1) := by decide +kernel
theorem dX12_tellLaw_20 : decode cX12_tellLaw 20 = .ok (.bipush 28, 2) := by decide +kernel
theorem dX12_tellLaw_22 : decode cX12_tellLaw 22 = .ok (.invokevirtual 218, 3) := by decide +kernel
theorem dX12_tellLaw_25 : decode cX12_tellLaw 25 = .ok (.ifCond .eq 104, 3) := by decide +kernel
theorem dX12_tellLaw_28 : decode cX12_tellLaw 28 = .ok (.iload_n 3, 1) := by decide +kernel
theorem dX12_tellLaw_29 : decode cX12_tellLaw 29 = .ok (.iconst 4, 1) := by decide +kernel
theorem dX12_tellLaw_30 : decode cX12_tellLaw 30 = .ok (.if_icmp .ne 8, 3) := by decide +kernel
theorem dX12_tellLaw_33 : decode cX12_tellLaw 33 = .ok (.aload_n 0, 1) := by decide +kernel
theorem dX12_tellLaw_34 : decode cX12_tellLaw 34 = .ok (.iconst 2, 1) := by decide +kernel
theorem dX12_tellLaw_35 : decode cX12_tellLaw 35 = .ok (.invokevirtual 215, 3) := by decide +kernel
theorem dX12_tellLaw_38 : decode cX12_tellLaw 38 = .ok (.aload_n 0, 1) := by decide +kernel
theorem dX12_tellLaw_39 : decode cX12_tellLaw 39 = .ok (.getfield 200, 3) := by decide +kernel
theorem dX12_tellLaw_42 : decode cX12_tellLaw 42 = .ok (.ifCond .le 4, 3) := by decide +kernel
theorem dX12_tellLaw_45 : decode cX12_tellLaw 45 = .ok (.return_, 1) := by decide +kernel
theorem dX12_tellLaw_46 : decode cX12_tellLaw 46 = .ok (.iinc 3 1, 3) := by decide +kernel
theorem dX12_tellLaw_49 : decode cX12_tellLaw 49 = .ok (.aload_n 0, 1) := by decide +kernel
theorem dX12_tellLaw_50 : decode cX12_tellLaw 50 = .ok (.invokevirtual 221, 3) := by decide +kernel
theorem dX12_tellLaw_53 : decode cX12_tellLaw 53 = .ok (.aload_n 0, 1) := by decide +kernel
theorem dX12_tellLaw_54 : decode cX12_tellLaw 54 = .ok (.getfield 82, 3) := by decide +kernel
theorem dX12_tellLaw_57 : decode cX12_tellLaw 57 = .ok (.aload_n 0, 1) := by decide +kernel
theorem dX12_tellLaw_58 : decode cX12_tellLaw 58 = .ok (.getfield 239, 3) := by decide +kernel
theorem dX12_tellLaw_61 : decode cX12_tellLaw 61 = .ok (.iconst 1, 1) := by decide +kernel
theorem dX12_tellLaw_62 : decode cX12_tellLaw 62 = .ok (.bastore, 1) := by decide +kernel
theorem dX12_tellLaw_63 : decode cX12_tellLaw 63 = .ok (.aload_n 0, 1) := by decide +kernel
theorem dX12_tellLaw_64 : decode cX12_tellLaw 64 = .ok (.getfield 86, 3) := by decide +kernel
theorem dX12_tellLaw_67 : decode cX12_tellLaw 67 = .ok (.aload_n 0, 1) := by decide +kernel
theorem dX12_tellLaw_68 : decode cX12_tellLaw 68 = .ok (.getfield 239, 3) := by decide +kernel
theorem dX12_tellLaw_71 : decode cX12_tellLaw 71 = .ok (.aload_n 0, 1) := by decide +kernel
theorem dX12_tellLaw_72 : decode cX12_tellLaw 72 = .ok (.getfield 242, 3) := by decide +kernel
theorem dX12_tellLaw_75 : decode cX12_tellLaw 75 = .ok (.iastore, 1) := by decide +kernel
theorem dX12_tellLaw_76 : decode cX12_tellLaw 76 = .ok (.aload_n 0, 1) := by decide +kernel
theorem dX12_tellLaw_77 : decode cX12_tellLaw 77 = .ok (.invokevirtual 291, 3) := by decide +kernel
theorem dX12_tellLaw_80 : decode cX12_tellLaw 80 = .ok (.aload_n 0, 1) := by decide +kernel
theorem dX12_tellLaw_81 : decode cX12_tellLaw 81 = .ok (.bipush 13, 2) := by decide +kernel
theorem dX12_tellLaw_83 : decode cX12_tellLaw 83 = .ok (.invokevirtual 266, 3) := by decide +kernel
theorem dX12_tellLaw_86 : decode cX12_tellLaw 86 = .ok (.aload_n 0, 1) := by decide +kernel
theorem dX12_tellLaw_87 : decode cX12_tellLaw 87 = .ok (.getfield 89, 3) := by decide +kernel
theorem dX12_tellLaw_90 : decode cX12_tellLaw 90 = .ok (.aload_n 0, 1) := by decide +kernel
theorem dX12_tellLaw_91 : decode cX12_tellLaw 91 = .ok (.getfield 239, 3) := by decide +kernel
theorem dX12_tellLaw_94 : decode cX12_tellLaw 94 = .ok (.aload_n 0, 1) := by decide +kernel
theorem dX12_tellLaw_95 : decode cX12_tellLaw 95 = .ok (.getfield 242, 3) := by decide +kernel
theorem dX12_tellLaw_98 : decode cX12_tellLaw 98 = .ok (.iastore, 1) := by decide +kernel
theorem dX12_tellLaw_99 : decode cX12_tellLaw 99 = .ok (.aload_n 0, 1) := by decide +kernel
theorem dX12_tellLaw_100 : decode cX12_tellLaw 100 = .ok (.getfield 200, 3) := by decide +kernel
theorem dX12_tellLaw_103 : decode cX12_tellLaw 103 = .ok (.ifCond .ne 7, 3) := by decide +kernel
theorem dX12_tellLaw_106 : decode cX12_tellLaw 106 = .ok (.aload_n 0, 1) := by decide +kernel
theorem dX12_tellLaw_107 : decode cX12_tellLaw 107 = .ok (.invokevirtual 291, 3) := by decide +kernel
theorem dX12_tellLaw_110 : decode cX12_tellLaw 110 = .ok (.aload_n 0, 1) := by decide +kernel
theorem dX12_tellLaw_111 : decode cX12_tellLaw 111 = .ok (.bipush 29, 2) := by decide +kernel
theorem dX12_tellLaw_113 : decode cX12_tellLaw 113 = .ok (.invokevirtual 266, 3) := by decide +kernel
theorem dX12_tellLaw_116 : decode cX12_tellLaw 116 = .ok (.aload_n 0, 1) := by decide +kernel
theorem dX12_tellLaw_117 : decode cX12_tellLaw 117 = .ok (.invokevirtual 294, 3) := by decide +kernel
theorem dX12_tellLaw_120 : decode cX12_tellLaw 120 = .ok (.aload_n 0, 1) := by decide +kernel
theorem dX12_tellLaw_121 : decode cX12_tellLaw 121 = .ok (.bipush 30, 2) := by decide +kernel
theorem dX12_tellLaw_123 : decode cX12_tellLaw 123 = .ok (.invokevirtual 266, 3) := by decide +kernel
theorem dX12_tellLaw_126 : decode cX12_tellLaw 126 = .ok (.goto (-114), 3) := by decide +kernel
theorem dX12_tellLaw_129 : decode cX12_tellLaw 129 = .ok (.aload_n 0, 1) := by decide +kernel
theorem dX12_tellLaw_130 : decode cX12_tellLaw 130 = .ok (.getfield 82, 3) := by decide +kernel
theorem dX12_tellLaw_133 : decode cX12_tellLaw 133 = .ok (.aload_n 0, 1) := by decide +kernel
theorem dX12_tellLaw_134 : decode cX12_tellLaw 134 = .ok (.getfield 239, 3) := by decide +kernel
theorem dX12_tellLaw_137 : decode cX12_tellLaw 137 = .ok (.iconst 0, 1) := by decide +kernel
theorem dX12_tellLaw_138 : decode cX12_tellLaw 138 = .ok (.bastore, 1) := by decide +kernel
theorem dX12_tellLaw_139 : decode cX12_tellLaw 139 = .ok (.aload_n 0, 1) := by decide +kernel
theorem dX12_tellLaw_140 : decode cX12_tellLaw 140 = .ok (.invokevirtual 294, 3) := by decide +kernel
theorem dX12_tellLaw_143 : decode cX12_tellLaw 143 = .ok (.aload_n 0, 1) := by decide +kernel
theorem dX12_tellLaw_144 : decode cX12_tellLaw 144 = .ok (.iconst 4, 1) := by decide +kernel
theorem dX12_tellLaw_145 : decode cX12_tellLaw 145 = .ok (.invokevirtual 266, 3) := by decide +kernel
theorem dX12_tellLaw_148 : decode cX12_tellLaw 148 = .ok (.aload_n 0, 1) := by decide +kernel
theorem dX12_tellLaw_149 : decode cX12_tellLaw 149 = .ok (.getfield 200, 3) := by decide +kernel
theorem dX12_tellLaw_152 : decode cX12_tellLaw 152 = .ok (.ifCond .le 4, 3) := by decide +kernel
theorem dX12_tellLaw_155 : decode cX12_tellLaw 155 = .ok (.return_, 1) := by decide +kernel
theorem dX12_tellLaw_156 : decode cX12_tellLaw 156 = .ok (.aload_n 0, 1) := by decide +kernel
theorem dX12_tellLaw_157 : decode cX12_tellLaw 157 = .ok (.getfield 76, 3) := by decide +kernel
theorem dX12_tellLaw_160 : decode cX12_tellLaw 160 = .ok (.iconst 3, 1) := by decide +kernel
theorem dX12_tellLaw_161 : decode cX12_tellLaw 161 = .ok (.aload_n 0, 1) := by decide +kernel
theorem dX12_tellLaw_162 : decode cX12_tellLaw 162 = .ok (.getfield 233, 3) := by decide +kernel
theorem dX12_tellLaw_165 : decode cX12_tellLaw 165 = .ok (.imul, 1) := by decide +kernel
theorem dX12_tellLaw_166 : decode cX12_tellLaw 166 = .ok (.iload_n 1, 1) := by decide +kernel
theorem dX12_tellLaw_167 : decode cX12_tellLaw 167 = .ok (.iadd, 1) := by decide +kernel
theorem dX12_tellLaw_168 : decode cX12_tellLaw 168 = .ok (.iload_n 2, 1) := by decide +kernel
theorem dX12_tellLaw_169 : decode cX12_tellLaw 169 = .ok (.iastore, 1) := by decide +kernel
theorem dX12_tellLaw_170 : decode cX12_tellLaw 170 = .ok (.aload_n 0, 1) := by decide +kernel
theorem dX12_tellLaw_171 : decode cX12_tellLaw 171 = .ok (.getfield 79, 3) := by decide +kernel
theorem dX12_tellLaw_174 : decode cX12_tellLaw 174 = .ok (.iconst 3, 1) := by decide +kernel
theorem dX12_tellLaw_175 : decode cX12_tellLaw 175 = .ok (.aload_n 0, 1) := by decide +kernel
theorem dX12_tellLaw_176 : decode cX12_tellLaw 176 = .ok (.getfield 233, 3) := by decide +kernel
theorem dX12_tellLaw_179 : decode cX12_tellLaw 179 = .ok (.imul, 1) := by decide +kernel
theorem dX12_tellLaw_180 : decode cX12_tellLaw 180 = .ok (.iload_n 1, 1) := by decide +kernel
theorem dX12_tellLaw_181 : decode cX12_tellLaw 181 = .ok (.iadd, 1) := by decide +kernel
theorem dX12_tellLaw_182 : decode cX12_tellLaw 182 = .ok (.aload_n 0, 1) := by decide +kernel
theorem dX12_tellLaw_183 : decode cX12_tellLaw 183 = .ok (.getfield 239, 3) := by decide +kernel
theorem dX12_tellLaw_186 : decode cX12_tellLaw 186 = .ok (.iastore, 1) := by decide +kernel
theorem dX12_tellLaw_187 : decode cX12_tellLaw 187 = .ok (.return_, 1) := by decide +kernel
theorem dX12_term_0 : decode cX12_term 0 = .ok (.aload_n 0, 1) := by decide +kernel
theorem dX12_term_1 : decode cX12_term 1 = .ok (.getfield 92, 3) := by decide +kernel
theorem dX12_term_4 : decode cX12_term 4 = .ok (.aload_n 0, 1) := by decide +kernel
theorem dX12_term_5 : decode cX12_term 5 = .ok (.getfield 239, 3) := by decide +kernel
theorem dX12_term_8 : decode cX12_term 8 = .ok (.aload_n 0, 1) := by decide +kernel
theorem dX12_term_9 : decode cX12_term 9 = .ok (.getfield 242, 3) := by decide +kernel
theorem dX12_term_12 : decode cX12_term 12 = .ok (.iastore, 1) := by decide +kernel
theorem dX12_term_13 : decode cX12_term 13 = .ok (.aload_n 0, 1) := by decide +kernel
theorem dX12_term_14 : decode cX12_term 14 = .ok (.getfield 200, 3) := by decide +kernel
theorem dX12_term_17 : decode cX12_term 17 = .ok (.ifCond .ne 7, 3) := by decide +kernel
theorem dX12_term_20 : decode cX12_term 20 = .ok (.aload_n 0, 1) := by decide +kernel
theorem dX12_term_21 : decode cX12_term 21 = .ok (.invokevirtual 291, 3) := by decide +kernel
theorem dX12_term_24 : decode cX12_term 24 = .ok (.aload_n 0, 1) := by decide +kernel
theorem dX12_term_25 : decode cX12_term 25 = .ok (.getfield 95, 3) := by decide +kernel
theorem dX12_term_28 : decode cX12_term 28 = .ok (.aload_n 0, 1) := by decide +kernel
theorem dX12_term_29 : decode cX12_term 29 = .ok (.getfield 239, 3) := by decide +kernel
theorem dX12_term_32 : decode cX12_term 32 = .ok (.aload_n 0, 1) := by decide +kernel
theorem dX12_term_33 : decode cX12_term 33 = .ok (.getfield 242, 3) := by decide +kernel
theorem dX12_term_36 : decode cX12_term 36 = .ok (.iastore, 1) := by decide +kernel
theorem dX12_term_37 : decode cX12_term 37 = .ok (.aload_n 0, 1) := by decide +kernel
theorem dX12_term_38 : decode cX12_term 38 = .ok (.dup, 1) := by decide +kernel
theorem dX12_term_39 : decode cX12_term 39 = .ok (.getfield 239, 3) := by decide +kernel
theorem dX12_term_42 : decode cX12_term 42 = .ok (.iconst 1, 1) := by decide +kernel
theorem dX12_term_43 : decode cX12_term 43 = .ok (.iadd, 1) := by decide +kernel
theorem dX12_term_44 : decode cX12_term 44 = .ok (.putfield 239, 3) := by decide +kernel
theorem dX12_term_47 : decode cX12_term 47 = .ok (.return_, 1) := by decide +kernel
theorem dX12_emit_0 : decode cX12_emit 0 = .ok (.aload_n 0, 1) := by decide +kernel
theorem dX12_emit_1 : decode cX12_emit 1 = .ok (.getfield 98, 3) := by decide +kernel
theorem dX12_emit_4 : decode cX12_emit 4 = .ok (.aload_n 0, 1) := by decide +kernel
theorem dX12_emit_5 : decode cX12_emit 5 = .ok (.getfield 242, 3) := by decide +kernel
theorem dX12_emit_8 : decode cX12_emit 8 = .ok (.iload_n 1, 1) := by decide +kernel
theorem dX12_emit_9 : decode cX12_emit 9 = .ok (.iastore, 1) := by decide +kernel
theorem dX12_emit_10 : decode cX12_emit 10 = .ok (.aload_n 0, 1) := by decide +kernel
theorem dX12_emit_11 : decode cX12_emit 11 = .ok (.getfield 101, 3) := by decide +kernel
theorem dX12_emit_14 : decode cX12_emit 14 = .ok (.aload_n 0, 1) := by decide +kernel
theorem dX12_emit_15 : decode cX12_emit 15 = .ok (.getfield 242, 3) := by decide +kernel
theorem dX12_emit_18 : decode cX12_emit 18 = .ok (.iload_n 2, 1) := by decide +kernel
theorem dX12_emit_19 : decode cX12_emit 19 = .ok (.iastore, 1) := by decide +kernel
theorem dX12_emit_20 : decode cX12_emit 20 = .ok (.aload_n 0, 1) := by decide +kernel
theorem dX12_emit_21 : decode cX12_emit 21 = .ok (.dup, 1) := by decide +kernel
theorem dX12_emit_22 : decode cX12_emit 22 = .ok (.getfield 242, 3) := by decide +kernel
theorem dX12_emit_25 : decode cX12_emit 25 = .ok (.iconst 1, 1) := by decide +kernel
theorem dX12_emit_26 : decode cX12_emit 26 = .ok (.iadd, 1) := by decide +kernel
theorem dX12_emit_27 : decode cX12_emit 27 = .ok (.putfield 242, 3) := by decide +kernel
theorem dX12_emit_30 : decode cX12_emit 30 = .ok (.return_, 1) := by decide +kernel
theorem dX12_comesOut_0 : decode cX12_comesOut 0 = .ok (.aload_n 0, 1) := by decide +kernel
theorem dX12_comesOut_1 : decode cX12_comesOut 1 = .ok (.getfield 297, 3) := by decide +kernel
theorem dX12_comesOut_4 : decode cX12_comesOut 4 = .ok (.ifCond .le 87, 3) := by decide +kernel
theorem dX12_comesOut_7 : decode cX12_comesOut 7 = .ok (.aload_n 0, 1) := by decide +kernel
theorem dX12_comesOut_8 : decode cX12_comesOut 8 = .ok (.getfield 104, 3) := by decide +kernel
theorem dX12_comesOut_11 : decode cX12_comesOut 11 = .ok (.aload_n 0, 1) := by decide +kernel
theorem dX12_comesOut_12 : decode cX12_comesOut 12 = .ok (.getfield 297, 3) := by decide +kernel
theorem dX12_comesOut_15 : decode cX12_comesOut 15 = .ok (.iconst 1, 1) := by decide +kernel
theorem dX12_comesOut_16 : decode cX12_comesOut 16 = .ok (.isub, 1) := by decide +kernel
theorem dX12_comesOut_17 : decode cX12_comesOut 17 = .ok (.iaload, 1) := by decide +kernel
theorem dX12_comesOut_18 : decode cX12_comesOut 18 = .ok (.istore_n 2, 1) := by decide +kernel
theorem dX12_comesOut_19 : decode cX12_comesOut 19 = .ok (.iload_n 2, 1) := by decide +kernel
theorem dX12_comesOut_20 : decode cX12_comesOut 20 = .ok (.bipush 6, 2) := by decide +kernel
theorem dX12_comesOut_22 : decode cX12_comesOut 22 = .ok (.if_icmp .eq 19, 3) := by decide +kernel
theorem dX12_comesOut_25 : decode cX12_comesOut 25 = .ok (.iload_n 1, 1) := by decide +kernel
theorem dX12_comesOut_26 : decode cX12_comesOut 26 = .ok (.ifCond .eq 16, 3) := by decide +kernel
theorem dX12_comesOut_29 : decode cX12_comesOut 29 = .ok (.iload_n 2, 1) := by decide +kernel
theorem dX12_comesOut_30 : decode cX12_comesOut 30 = .ok (.bipush 8, 2) := by decide +kernel
theorem dX12_comesOut_32 : decode cX12_comesOut 32 = .ok (.if_icmp .eq 9, 3) := by decide +kernel
theorem dX12_comesOut_35 : decode cX12_comesOut 35 = .ok (.iload_n 2, 1) := by decide +kernel
theorem dX12_comesOut_36 : decode cX12_comesOut 36 = .ok (.bipush 9, 2) := by decide +kernel
theorem dX12_comesOut_38 : decode cX12_comesOut 38 = .ok (.if_icmp .ne 4, 3) := by decide +kernel
theorem dX12_comesOut_41 : decode cX12_comesOut 41 = .ok (.return_, 1) := by decide +kernel
theorem dX12_comesOut_42 : decode cX12_comesOut 42 = .ok (.aload_n 0, 1) := by decide +kernel
theorem dX12_comesOut_43 : decode cX12_comesOut 43 = .ok (.dup, 1) := by decide +kernel
theorem dX12_comesOut_44 : decode cX12_comesOut 44 = .ok (.getfield 297, 3) := by decide +kernel
theorem dX12_comesOut_47 : decode cX12_comesOut 47 = .ok (.iconst 1, 1) := by decide +kernel
theorem dX12_comesOut_48 : decode cX12_comesOut 48 = .ok (.isub, 1) := by decide +kernel
theorem dX12_comesOut_49 : decode cX12_comesOut 49 = .ok (.putfield 297, 3) := by decide +kernel
theorem dX12_comesOut_52 : decode cX12_comesOut 52 = .ok (.aload_n 0, 1) := by decide +kernel
theorem dX12_comesOut_53 : decode cX12_comesOut 53 = .ok (.iload_n 2, 1) := by decide +kernel
theorem dX12_comesOut_54 : decode cX12_comesOut 54 = .ok (.bipush 8, 2) := by decide +kernel
theorem dX12_comesOut_56 : decode cX12_comesOut 56 = .ok (.if_icmp .ne 7, 3) := by decide +kernel
theorem dX12_comesOut_59 : decode cX12_comesOut 59 = .ok (.iconst 2, 1) := by decide +kernel
theorem dX12_comesOut_60 : decode cX12_comesOut 60 = .ok (.goto 24, 3) := by decide +kernel
theorem dX12_comesOut_63 : decode cX12_comesOut 63 = .ok (.iload_n 2, 1) := by decide +kernel
theorem dX12_comesOut_64 : decode cX12_comesOut 64 = .ok (.bipush 9, 2) := by decide +kernel
theorem dX12_comesOut_66 : decode cX12_comesOut 66 = .ok (.if_icmp .ne 7, 3) := by decide +kernel
theorem dX12_comesOut_69 : decode cX12_comesOut 69 = .ok (.iconst 3, 1) := by decide +kernel
theorem dX12_comesOut_70 : decode cX12_comesOut 70 = .ok (.goto 14, 3) := by decide +kernel
theorem dX12_comesOut_73 : decode cX12_comesOut 73 = .ok (.iload_n 2, 1) := by decide +kernel
theorem dX12_comesOut_74 : decode cX12_comesOut 74 = .ok (.bipush 10, 2) := by decide +kernel
theorem dX12_comesOut_76 : decode cX12_comesOut 76 = .ok (.if_icmp .ne 7, 3) := by decide +kernel
theorem dX12_comesOut_79 : decode cX12_comesOut 79 = .ok (.iconst 4, 1) := by decide +kernel
theorem dX12_comesOut_80 : decode cX12_comesOut 80 = .ok (.goto 4, 3) := by decide +kernel
theorem dX12_comesOut_83 : decode cX12_comesOut 83 = .ok (.iconst 5, 1) := by decide +kernel
theorem dX12_comesOut_84 : decode cX12_comesOut 84 = .ok (.iconst 0, 1) := by decide +kernel
theorem dX12_comesOut_85 : decode cX12_comesOut 85 = .ok (.invokevirtual 300, 3) := by decide +kernel
theorem dX12_comesOut_88 : decode cX12_comesOut 88 = .ok (.goto (-88), 3) := by decide +kernel
theorem dX12_comesOut_91 : decode cX12_comesOut 91 = .ok (.return_, 1) := by decide +kernel
theorem dX12_expression_0 : decode cX12_expression 0 = .ok (.aload_n 0, 1) := by decide +kernel
theorem dX12_expression_1 : decode cX12_expression 1 = .ok (.iconst 0, 1) := by decide +kernel
theorem dX12_expression_2 : decode cX12_expression 2 = .ok (.putfield 297, 3) := by decide +kernel
theorem dX12_expression_5 : decode cX12_expression 5 = .ok (.aload_n 0, 1) := by decide +kernel
theorem dX12_expression_6 : decode cX12_expression 6 = .ok (.getfield 227, 3) := by decide +kernel
theorem dX12_expression_9 : decode cX12_expression 9 = .ok (.istore_n 1, 1) := by decide +kernel
theorem dX12_expression_10 : decode cX12_expression 10 = .ok (.iconst 1, 1) := by decide +kernel
theorem dX12_expression_11 : decode cX12_expression 11 = .ok (.istore_n 2, 1) := by decide +kernel
theorem dX12_expression_12 : decode cX12_expression 12 = .ok (.iload_n 2, 1) := by decide +kernel
theorem dX12_expression_13 : decode cX12_expression 13 = .ok (.ifCond .eq 259, 3) := by decide +kernel
theorem dX12_expression_16 : decode cX12_expression 16 = .ok (.aload_n 0, 1) := by decide +kernel
theorem dX12_expression_17 : decode cX12_expression 17 = .ok (.getfield 200, 3) := by decide +kernel
theorem dX12_expression_20 : decode cX12_expression 20 = .ok (.ifCond .ne 252, 3) := by decide +kernel
theorem dX12_expression_23 : decode cX12_expression 23 = .ok (.aload_n 0, 1) := by decide +kernel
theorem dX12_expression_24 : decode cX12_expression 24 = .ok (.bipush 6, 2) := by decide +kernel
theorem dX12_expression_26 : decode cX12_expression 26 = .ok (.invokevirtual 218, 3) := by decide +kernel
theorem dX12_expression_29 : decode cX12_expression 29 = .ok (.ifCond .eq 55, 3) := by decide +kernel
theorem dX12_expression_32 : decode cX12_expression 32 = .ok (.aload_n 0, 1) := by decide +kernel
theorem dX12_expression_33 : decode cX12_expression 33 = .ok (.getfield 227, 3) := by decide +kernel
theorem dX12_expression_36 : decode cX12_expression 36 = .ok (.bipush 6, 2) := by decide +kernel
theorem dX12_expression_38 : decode cX12_expression 38 = .ok (.if_icmp .ne 8, 3) := by decide +kernel
theorem dX12_expression_41 : decode cX12_expression 41 = .ok (.aload_n 0, 1) := by decide +kernel
theorem dX12_expression_42 : decode cX12_expression 42 = .ok (.iconst 2, 1) := by decide +kernel
theorem dX12_expression_43 : decode cX12_expression 43 = .ok (.invokevirtual 215, 3) := by decide +kernel
theorem dX12_expression_46 : decode cX12_expression 46 = .ok (.aload_n 0, 1) := by decide +kernel
theorem dX12_expression_47 : decode cX12_expression 47 = .ok (.dup, 1) := by decide +kernel
theorem dX12_expression_48 : decode cX12_expression 48 = .ok (.getfield 227, 3) := by decide +kernel
theorem dX12_expression_51 : decode cX12_expression 51 = .ok (.iconst 1, 1) := by decide +kernel
theorem dX12_expression_52 : decode cX12_expression 52 = .ok (.iadd, 1) := by decide +kernel
theorem dX12_expression_53 : decode cX12_expression 53 = .ok (.putfield 227, 3) := by decide +kernel
theorem dX12_expression_56 : decode cX12_expression 56 = .ok (.aload_n 0, 1) := by decide +kernel
theorem dX12_expression_57 : decode cX12_expression 57 = .ok (.invokevirtual 221, 3) := by decide +kernel
theorem dX12_expression_60 : decode cX12_expression 60 = .ok (.aload_n 0, 1) := by decide +kernel
theorem dX12_expression_61 : decode cX12_expression 61 = .ok (.getfield 104, 3) := by decide +kernel
theorem dX12_expression_64 : decode cX12_expression 64 = .ok (.aload_n 0, 1) := by decide +kernel
theorem dX12_expression_65 : decode cX12_expression 65 = .ok (.getfield 297, 3) := by decide +kernel
theorem dX12_expression_68 : decode cX12_expression 68 = .ok (.bipush 6, 2) := by decide +kernel
theorem dX12_expression_70 : decode cX12_expression 70 = .ok (.iastore, 1) := by decide +kernel
theorem dX12_expression_71 : decode cX12_expression 71 = .ok (.aload_n 0, 1) := by decide +kernel
theorem dX12_expression_72 : decode cX12_expression 72 = .ok (.dup, 1) := by decide +kernel
theorem dX12_expression_73 : decode cX12_expression 73 = .ok (.getfield 297, 3) := by decide +kernel
theorem dX12_expression_76 : decode cX12_expression 76 = .ok (.iconst 1, 1) := by decide +kernel
theorem dX12_expression_77 : decode cX12_expression 77 = .ok (.iadd, 1) := by decide +kernel
theorem dX12_expression_78 : decode cX12_expression 78 = .ok (.putfield 297, 3) := by decide +kernel
theorem dX12_expression_81 : decode cX12_expression 81 = .ok (.goto (-58), 3) := by decide +kernel
theorem dX12_expression_84 : decode cX12_expression 84 = .ok (.aload_n 0, 1) := by decide +kernel
theorem dX12_expression_85 : decode cX12_expression 85 = .ok (.invokevirtual 303, 3) := by decide +kernel
theorem dX12_expression_88 : decode cX12_expression 88 = .ok (.aload_n 0, 1) := by decide +kernel
theorem dX12_expression_89 : decode cX12_expression 89 = .ok (.getfield 200, 3) := by decide +kernel
theorem dX12_expression_92 : decode cX12_expression 92 = .ok (.ifCond .le 4, 3) := by decide +kernel
theorem dX12_expression_95 : decode cX12_expression 95 = .ok (.return_, 1) := by decide +kernel
theorem dX12_expression_96 : decode cX12_expression 96 = .ok (.aload_n 0, 1) := by decide +kernel
theorem dX12_expression_97 : decode cX12_expression 97 = .ok (.bipush 7, 2) := by decide +kernel
theorem dX12_expression_99 : decode cX12_expression 99 = .ok (.invokevirtual 218, 3) := by decide +kernel
theorem dX12_expression_102 : decode cX12_expression 102 = .ok (.ifCond .eq 43, 3) := by decide +kernel
theorem dX12_expression_105 : decode cX12_expression 105 = .ok (.aload_n 0, 1) := by decide +kernel
theorem dX12_expression_106 : decode cX12_expression 106 = .ok (.getfield 227, 3) := by decide +kernel
theorem dX12_expression_109 : decode cX12_expression 109 = .ok (.iload_n 1, 1) := by decide +kernel
theorem dX12_expression_110 : decode cX12_expression 110 = .ok (.if_icmp .le 35, 3) := by decide +kernel
theorem dX12_expression_113 : decode cX12_expression 113 = .ok (.aload_n 0, 1) := by decide +kernel
theorem dX12_expression_114 : decode cX12_expression 114 = .ok (.iconst 0, 1) := by decide +kernel
theorem dX12_expression_115 : decode cX12_expression 115 = .ok (.invokevirtual 306, 3) := by decide +kernel
theorem dX12_expression_118 : decode cX12_expression 118 = .ok (.aload_n 0, 1) := by decide +kernel
theorem dX12_expression_119 : decode cX12_expression 119 = .ok (.dup, 1) := by decide +kernel
theorem dX12_expression_120 : decode cX12_expression 120 = .ok (.getfield 297, 3) := by decide +kernel
theorem dX12_expression_123 : decode cX12_expression 123 = .ok (.iconst 1, 1) := by decide +kernel
theorem dX12_expression_124 : decode cX12_expression 124 = .ok (.isub, 1) := by decide +kernel
theorem dX12_expression_125 : decode cX12_expression 125 = .ok (.putfield 297, 3) := by decide +kernel
theorem dX12_expression_128 : decode cX12_expression 128 = .ok (.aload_n 0, 1) := by decide +kernel
theorem dX12_expression_129 : decode cX12_expression 129 = .ok (.dup, 1) := by decide +kernel
theorem dX12_expression_130 : decode cX12_expression 130 = .ok (.getfield 227, 3) := by decide +kernel
theorem dX12_expression_133 : decode cX12_expression 133 = .ok (.iconst 1, 1) := by decide +kernel
theorem dX12_expression_134 : decode cX12_expression 134 = .ok (.isub, 1) := by decide +kernel
theorem dX12_expression_135 : decode cX12_expression 135 = .ok (.putfield 227, 3) := by decide +kernel
theorem dX12_expression_138 : decode cX12_expression 138 = .ok (.aload_n 0, 1) := by decide +kernel
theorem dX12_expression_139 : decode cX12_expression 139 = .ok (.invokevirtual 221, 3) := by decide +kernel
theorem dX12_expression_142 : decode cX12_expression 142 = .ok (.goto (-46), 3) := by decide +kernel
theorem dX12_expression_145 : decode cX12_expression 145 = .ok (.aload_n 0, 1) := by decide +kernel
theorem dX12_expression_146 : decode cX12_expression 146 = .ok (.bipush 8, 2) := by decide +kernel
theorem dX12_expression_148 : decode cX12_expression 148 = .ok (.invokevirtual 218, 3) := by decide +kernel
theorem dX12_expression_151 : decode cX12_expression 151 = .ok (.ifCond .ne 30, 3) := by decide +kernel
theorem dX12_expression_154 : decode cX12_expression 154 = .ok (.aload_n 0, 1) := by decide +kernel
theorem dX12_expression_155 : decode cX12_expression 155 = .ok (.bipush 9, 2) := by decide +kernel
theorem dX12_expression_157 : decode cX12_expression 157 = .ok (.invokevirtual 218, 3) := by decide +kernel
theorem dX12_expression_160 : decode cX12_expression 160 = .ok (.ifCond .ne 21, 3) := by decide +kernel
theorem dX12_expression_163 : decode cX12_expression 163 = .ok (.aload_n 0, 1) := by decide +kernel
theorem dX12_expression_164 : decode cX12_expression 164 = .ok (.bipush 10, 2) := by decide +kernel
theorem dX12_expression_166 : decode cX12_expression 166 = .ok (.invokevirtual 218, 3) := by decide +kernel
theorem dX12_expression_169 : decode cX12_expression 169 = .ok (.ifCond .ne 12, 3) := by decide +kernel
theorem dX12_expression_172 : decode cX12_expression 172 = .ok (.aload_n 0, 1) := by decide +kernel
theorem dX12_expression_173 : decode cX12_expression 173 = .ok (.bipush 15, 2) := by decide +kernel
theorem dX12_expression_175 : decode cX12_expression 175 = .ok (.invokevirtual 218, 3) := by decide +kernel
theorem dX12_expression_178 : decode cX12_expression 178 = .ok (.ifCond .eq 7, 3) := by decide +kernel
theorem dX12_expression_181 : decode cX12_expression 181 = .ok (.iconst 1, 1) := by decide +kernel
theorem dX12_expression_182 : decode cX12_expression 182 = .ok (.goto 4, 3) := by decide +kernel
theorem dX12_expression_185 : decode cX12_expression 185 = .ok (.iconst 0, 1) := by decide +kernel
theorem dX12_expression_186 : decode cX12_expression 186 = .ok (.istore_n 2, 1) := by decide +kernel
theorem dX12_expression_187 : decode cX12_expression 187 = .ok (.iload_n 2, 1) := by decide +kernel
theorem dX12_expression_188 : decode cX12_expression 188 = .ok (.ifCond .ne 22, 3) := by decide +kernel
theorem dX12_expression_191 : decode cX12_expression 191 = .ok (.aload_n 0, 1) := by decide +kernel
theorem dX12_expression_192 : decode cX12_expression 192 = .ok (.getfield 227, 3) := by decide +kernel
theorem dX12_expression_195 : decode cX12_expression 195 = .ok (.iload_n 1, 1) := by decide +kernel
theorem dX12_expression_196 : decode cX12_expression 196 = .ok (.if_icmp .le 8, 3) := by decide +kernel
theorem dX12_expression_199 : decode cX12_expression 199 = .ok (.aload_n 0, 1) := by decide +kernel
theorem dX12_expression_200 : decode cX12_expression 200 = .ok (.iconst 1, 1) := by decide +kernel
theorem dX12_expression_201 : decode cX12_expression 201 = .ok (.invokevirtual 215, 3) := by decide +kernel
theorem dX12_expression_204 : decode cX12_expression 204 = .ok (.aload_n 0, 1) := by decide +kernel
theorem dX12_expression_205 : decode cX12_expression 205 = .ok (.iconst 0, 1) := by decide +kernel
theorem dX12_expression_206 : decode cX12_expression 206 = .ok (.invokevirtual 306, 3) := by decide +kernel
theorem dX12_expression_209 : decode cX12_expression 209 = .ok (.return_, 1) := by decide +kernel
theorem dX12_expression_210 : decode cX12_expression 210 = .ok (.aload_n 0, 1) := by decide +kernel
theorem dX12_expression_211 : decode cX12_expression 211 = .ok (.aload_n 0, 1) := by decide +kernel
theorem dX12_expression_212 : decode cX12_expression 212 = .ok (.bipush 10, 2) := by decide +kernel
theorem dX12_expression_214 : decode cX12_expression 214 = .ok (.invokevirtual 218, 3) := by decide +kernel
theorem dX12_expression_217 : decode cX12_expression 217 = .ok (.ifCond .ne 12, 3) := by decide +kernel
theorem dX12_expression_220 : decode cX12_expression 220 = .ok (.aload_n 0, 1) := by decide +kernel
theorem dX12_expression_221 : decode cX12_expression 221 = .ok (.bipush 15, 2) := by decide +kernel
theorem dX12_expression_223 : decode cX12_expression 223 = .ok (.invokevirtual 218, 3) := by decide +kernel
theorem dX12_expression_226 : decode cX12_expression 226 = .ok (.ifCond .eq 7, 3) := by decide +kernel
theorem dX12_expression_229 : decode cX12_expression 229 = .ok (.iconst 1, 1) := by decide +kernel
theorem dX12_expression_230 : decode cX12_expression 230 = .ok (.goto 4, 3) := by decide +kernel
theorem dX12_expression_233 : decode cX12_expression 233 = .ok (.iconst 0, 1) := by decide +kernel
theorem dX12_expression_234 : decode cX12_expression 234 = .ok (.invokevirtual 306, 3) := by decide +kernel
theorem dX12_expression_237 : decode cX12_expression 237 = .ok (.aload_n 0, 1) := by decide +kernel
theorem dX12_expression_238 : decode cX12_expression 238 = .ok (.getfield 104, 3) := by decide +kernel
theorem dX12_expression_241 : decode cX12_expression 241 = .ok (.aload_n 0, 1) := by decide +kernel
theorem dX12_expression_242 : decode cX12_expression 242 = .ok (.getfield 297, 3) := by decide +kernel
theorem dX12_expression_245 : decode cX12_expression 245 = .ok (.aload_n 0, 1) := by decide +kernel
theorem dX12_expression_246 : decode cX12_expression 246 = .ok (.getfield 20, 3) := by decide +kernel
theorem dX12_expression_249 : decode cX12_expression 249 = .ok (.aload_n 0, 1) := by decide +kernel
theorem dX12_expression_250 : decode cX12_expression 250 = .ok (.getfield 203, 3) := by decide +kernel
theorem dX12_expression_253 : decode cX12_expression 253 = .ok (.iaload, 1) := by decide +kernel
theorem dX12_expression_254 : decode cX12_expression 254 = .ok (.iastore, 1) := by decide +kernel
theorem dX12_expression_255 : decode cX12_expression 255 = .ok (.aload_n 0, 1) := by decide +kernel
theorem dX12_expression_256 : decode cX12_expression 256 = .ok (.dup, 1) := by decide +kernel
theorem dX12_expression_257 : decode cX12_expression 257 = .ok (.getfield 297, 3) := by decide +kernel
theorem dX12_expression_260 : decode cX12_expression 260 = .ok (.iconst 1, 1) := by decide +kernel
theorem dX12_expression_261 : decode cX12_expression 261 = .ok (.iadd, 1) := by decide +kernel
theorem dX12_expression_262 : decode cX12_expression 262 = .ok (.putfield 297, 3) := by decide +kernel
theorem dX12_expression_265 : decode cX12_expression 265 = .ok (.aload_n 0, 1) := by decide +kernel
theorem dX12_expression_266 : decode cX12_expression 266 = .ok (.invokevirtual 221, 3) := by decide +kernel
theorem dX12_expression_269 : decode cX12_expression 269 = .ok (.goto (-257), 3) := by decide +kernel
theorem dX12_expression_272 : decode cX12_expression 272 = .ok (.return_, 1) := by decide +kernel
theorem dX12_unit_0 : decode cX12_unit 0 = .ok (.aload_n 0, 1) := by decide +kernel
theorem dX12_unit_1 : decode cX12_unit 1 = .ok (.iconst 2, 1) := by decide +kernel
theorem dX12_unit_2 : decode cX12_unit 2 = .ok (.invokevirtual 218, 3) := by decide +kernel
theorem dX12_unit_5 : decode cX12_unit 5 = .ok (.ifCond .eq 24, 3) := by decide +kernel
theorem dX12_unit_8 : decode cX12_unit 8 = .ok (.aload_n 0, 1) := by decide +kernel
theorem dX12_unit_9 : decode cX12_unit 9 = .ok (.iconst 0, 1) := by decide +kernel
theorem dX12_unit_10 : decode cX12_unit 10 = .ok (.aload_n 0, 1) := by decide +kernel
theorem dX12_unit_11 : decode cX12_unit 11 = .ok (.getfield 27, 3) := by decide +kernel
theorem dX12_unit_14 : decode cX12_unit 14 = .ok (.aload_n 0, 1) := by decide +kernel
theorem dX12_unit_15 : decode cX12_unit 15 = .ok (.getfield 203, 3) := by decide +kernel
theorem dX12_unit_18 : decode cX12_unit 18 = .ok (.iaload, 1) := by decide +kernel
theorem dX12_unit_19 : decode cX12_unit 19 = .ok (.invokevirtual 300, 3) := by decide +kernel
theorem dX12_unit_22 : decode cX12_unit 22 = .ok (.aload_n 0, 1) := by decide +kernel
theorem dX12_unit_23 : decode cX12_unit 23 = .ok (.invokevirtual 221, 3) := by decide +kernel
theorem dX12_unit_26 : decode cX12_unit 26 = .ok (.goto 67, 3) := by decide +kernel
theorem dX12_unit_29 : decode cX12_unit 29 = .ok (.aload_n 0, 1) := by decide +kernel
theorem dX12_unit_30 : decode cX12_unit 30 = .ok (.getfield 200, 3) := by decide +kernel
theorem dX12_unit_33 : decode cX12_unit 33 = .ok (.ifCond .ne 55, 3) := by decide +kernel
theorem dX12_unit_36 : decode cX12_unit 36 = .ok (.aload_n 0, 1) := by decide +kernel
theorem dX12_unit_37 : decode cX12_unit 37 = .ok (.getfield 20, 3) := by decide +kernel
theorem dX12_unit_40 : decode cX12_unit 40 = .ok (.aload_n 0, 1) := by decide +kernel
theorem dX12_unit_41 : decode cX12_unit 41 = .ok (.getfield 203, 3) := by decide +kernel
theorem dX12_unit_44 : decode cX12_unit 44 = .ok (.iaload, 1) := by decide +kernel
theorem dX12_unit_45 : decode cX12_unit 45 = .ok (.bipush 31, 2) := by decide +kernel
theorem dX12_unit_47 : decode cX12_unit 47 = .ok (.if_icmp .lt 41, 3) := by decide +kernel
theorem dX12_unit_50 : decode cX12_unit 50 = .ok (.aload_n 0, 1) := by decide +kernel
theorem dX12_unit_51 : decode cX12_unit 51 = .ok (.getfield 20, 3) := by decide +kernel
theorem dX12_unit_54 : decode cX12_unit 54 = .ok (.aload_n 0, 1) := by decide +kernel
theorem dX12_unit_55 : decode cX12_unit 55 = .ok (.getfield 203, 3) := by decide +kernel
theorem dX12_unit_58 : decode cX12_unit 58 = .ok (.iaload, 1) := by decide +kernel
theorem dX12_unit_59 : decode cX12_unit 59 = .ok (.bipush 39, 2) := by decide +kernel
theorem dX12_unit_61 : decode cX12_unit 61 = .ok (.if_icmp .gt 27, 3) := by decide +kernel
theorem dX12_unit_64 : decode cX12_unit 64 = .ok (.aload_n 0, 1) := by decide +kernel
theorem dX12_unit_65 : decode cX12_unit 65 = .ok (.iconst 1, 1) := by decide +kernel
theorem dX12_unit_66 : decode cX12_unit 66 = .ok (.aload_n 0, 1) := by decide +kernel
theorem dX12_unit_67 : decode cX12_unit 67 = .ok (.getfield 20, 3) := by decide +kernel
theorem dX12_unit_70 : decode cX12_unit 70 = .ok (.aload_n 0, 1) := by decide +kernel
theorem dX12_unit_71 : decode cX12_unit 71 = .ok (.getfield 203, 3) := by decide +kernel
theorem dX12_unit_74 : decode cX12_unit 74 = .ok (.iaload, 1) := by decide +kernel
theorem dX12_unit_75 : decode cX12_unit 75 = .ok (.bipush 31, 2) := by decide +kernel
theorem dX12_unit_77 : decode cX12_unit 77 = .ok (.isub, 1) := by decide +kernel
theorem dX12_unit_78 : decode cX12_unit 78 = .ok (.invokevirtual 300, 3) := by decide +kernel
theorem dX12_unit_81 : decode cX12_unit 81 = .ok (.aload_n 0, 1) := by decide +kernel
theorem dX12_unit_82 : decode cX12_unit 82 = .ok (.invokevirtual 221, 3) := by decide +kernel
theorem dX12_unit_85 : decode cX12_unit 85 = .ok (.goto 8, 3) := by decide +kernel
theorem dX12_unit_88 : decode cX12_unit 88 = .ok (.aload_n 0, 1) := by decide +kernel
theorem dX12_unit_89 : decode cX12_unit 89 = .ok (.iconst 1, 1) := by decide +kernel
theorem dX12_unit_90 : decode cX12_unit 90 = .ok (.invokevirtual 215, 3) := by decide +kernel
theorem dX12_unit_93 : decode cX12_unit 93 = .ok (.return_, 1) := by decide +kernel
theorem dX12_termOf_0 : decode cX12_termOf 0 = .ok (.iconst 0, 1) := by decide +kernel
theorem dX12_termOf_1 : decode cX12_termOf 1 = .ok (.istore_n 3, 1) := by decide +kernel
theorem dX12_termOf_2 : decode cX12_termOf 2 = .ok (.iload_n 1, 1) := by decide +kernel
theorem dX12_termOf_3 : decode cX12_termOf 3 = .ok (.istore 4, 2) := by decide +kernel
theorem dX12_termOf_5 : decode cX12_termOf 5 = .ok (.iload 4, 2) := by decide +kernel
theorem dX12_termOf_7 : decode cX12_termOf 7 = .ok (.iload_n 2, 1) := by decide +kernel
theorem dX12_termOf_8 : decode cX12_termOf 8 = .ok (.if_icmp .ge 157, 3) := by decide +kernel
theorem dX12_termOf_11 : decode cX12_termOf 11 = .ok (.aload_n 0, 1) := by decide +kernel
theorem dX12_termOf_12 : decode cX12_termOf 12 = .ok (.getfield 98, 3) := by decide +kernel
theorem dX12_termOf_15 : decode cX12_termOf 15 = .ok (.iload 4, 2) := by decide +kernel
theorem dX12_termOf_17 : decode cX12_termOf 17 = .ok (.iaload, 1) := by decide +kernel
theorem dX12_termOf_18 : decode cX12_termOf 18 = .ok (.istore 5, 2) := by decide +kernel
theorem dX12_termOf_20 : decode cX12_termOf 20 = .ok (.iload 5, 2) := by decide +kernel
theorem dX12_termOf_22 : decode cX12_termOf 22 = .ok (.iconst 2, 1) := by decide +kernel
theorem dX12_termOf_23 : decode cX12_termOf 23 = .ok (.if_icmp .ge 42, 3) := by decide +kernel
theorem dX12_termOf_26 : decode cX12_termOf 26 = .ok (.aload_n 0, 1) := by decide +kernel
theorem dX12_termOf_27 : decode cX12_termOf 27 = .ok (.getfield 110, 3) := by decide +kernel
theorem dX12_termOf_30 : decode cX12_termOf 30 = .ok (.iload_n 3, 1) := by decide +kernel
theorem dX12_termOf_31 : decode cX12_termOf 31 = .ok (.iload 5, 2) := by decide +kernel
theorem dX12_termOf_33 : decode cX12_termOf 33 = .ok (.ifCond .ne 13, 3) := by decide +kernel
theorem dX12_termOf_36 : decode cX12_termOf 36 = .ok (.aload_n 0, 1) := by decide +kernel
theorem dX12_termOf_37 : decode cX12_termOf 37 = .ok (.getfield 101, 3) := by decide +kernel
theorem dX12_termOf_40 : decode cX12_termOf 40 = .ok (.iload 4, 2) := by decide +kernel
theorem dX12_termOf_42 : decode cX12_termOf 42 = .ok (.iaload, 1) := by decide +kernel
theorem dX12_termOf_43 : decode cX12_termOf 43 = .ok (.goto 15, 3) := by decide +kernel
theorem dX12_termOf_46 : decode cX12_termOf 46 = .ok (.aload_n 0, 1) := by decide +kernel
theorem dX12_termOf_47 : decode cX12_termOf 47 = .ok (.getfield 107, 3) := by decide +kernel
theorem dX12_termOf_50 : decode cX12_termOf 50 = .ok (.aload_n 0, 1) := by decide +kernel
theorem dX12_termOf_51 : decode cX12_termOf 51 = .ok (.getfield 101, 3) := by decide +kernel
theorem dX12_termOf_54 : decode cX12_termOf 54 = .ok (.iload 4, 2) := by decide +kernel
theorem dX12_termOf_56 : decode cX12_termOf 56 = .ok (.iaload, 1) := by decide +kernel
theorem dX12_termOf_57 : decode cX12_termOf 57 = .ok (.iaload, 1) := by decide +kernel
theorem dX12_termOf_58 : decode cX12_termOf 58 = .ok (.iastore, 1) := by decide +kernel
theorem dX12_termOf_59 : decode cX12_termOf 59 = .ok (.iinc 3 1, 3) := by decide +kernel
theorem dX12_termOf_62 : decode cX12_termOf 62 = .ok (.goto 97, 3) := by decide +kernel
theorem dX12_termOf_65 : decode cX12_termOf 65 = .ok (.iinc 3 (-1), 3) := by decide +kernel
theorem dX12_termOf_68 : decode cX12_termOf 68 = .ok (.aload_n 0, 1) := by decide +kernel
theorem dX12_termOf_69 : decode cX12_termOf 69 = .ok (.getfield 110, 3) := by decide +kernel
theorem dX12_termOf_72 : decode cX12_termOf 72 = .ok (.iload_n 3, 1) := by decide +kernel
theorem dX12_termOf_73 : decode cX12_termOf 73 = .ok (.iconst 1, 1) := by decide +kernel
theorem dX12_termOf_74 : decode cX12_termOf 74 = .ok (.isub, 1) := by decide +kernel
theorem dX12_termOf_75 : decode cX12_termOf 75 = .ok (.iaload, 1) := by decide +kernel
theorem dX12_termOf_76 : decode cX12_termOf 76 = .ok (.istore 6, 2) := by decide +kernel
theorem dX12_termOf_78 : decode cX12_termOf 78 = .ok (.aload_n 0, 1) := by decide +kernel
theorem dX12_termOf_79 : decode cX12_termOf 79 = .ok (.getfield 110, 3) := by decide +kernel
theorem dX12_termOf_82 : decode cX12_termOf 82 = .ok (.iload_n 3, 1) := by decide +kernel
theorem dX12_termOf_83 : decode cX12_termOf 83 = .ok (.iaload, 1) := by decide +kernel
theorem dX12_termOf_84 : decode cX12_termOf 84 = .ok (.istore 7, 2) := by decide +kernel
theorem dX12_termOf_86 : decode cX12_termOf 86 = .ok (.iload 5, 2) := by decide +kernel
theorem dX12_termOf_88 : decode cX12_termOf 88 = .ok (.iconst 5, 1) := by decide +kernel
theorem dX12_termOf_89 : decode cX12_termOf 89 = .ok (.if_icmp .ne 15, 3) := by decide +kernel
theorem dX12_termOf_92 : decode cX12_termOf 92 = .ok (.iload 7, 2) := by decide +kernel
theorem dX12_termOf_94 : decode cX12_termOf 94 = .ok (.ifCond .ne 10, 3) := by decide +kernel
theorem dX12_termOf_97 : decode cX12_termOf 97 = .ok (.aload_n 0, 1) := by decide +kernel
theorem dX12_termOf_98 : decode cX12_termOf 98 = .ok (.iconst 1, 1) := by decide +kernel
theorem dX12_termOf_99 : decode cX12_termOf 99 = .ok (.putfield 310, 3) := by decide +kernel
theorem dX12_termOf_102 : decode cX12_termOf 102 = .ok (.iconst 0, 1) := by decide +kernel
theorem dX12_termOf_103 : decode cX12_termOf 103 = .ok (.ireturn, 1) := by decide +kernel
theorem dX12_termOf_104 : decode cX12_termOf 104 = .ok (.aload_n 0, 1) := by decide +kernel
theorem dX12_termOf_105 : decode cX12_termOf 105 = .ok (.getfield 110, 3) := by decide +kernel
theorem dX12_termOf_108 : decode cX12_termOf 108 = .ok (.iload_n 3, 1) := by decide +kernel
theorem dX12_termOf_109 : decode cX12_termOf 109 = .ok (.iconst 1, 1) := by decide +kernel
theorem dX12_termOf_110 : decode cX12_termOf 110 = .ok (.isub, 1) := by decide +kernel
theorem dX12_termOf_111 : decode cX12_termOf 111 = .ok (.iload 5, 2) := by decide +kernel
theorem dX12_termOf_113 : decode cX12_termOf 113 = .ok (.iconst 2, 1) := by decide +kernel
theorem dX12_termOf_114 : decode cX12_termOf 114 = .ok (.if_icmp .ne 11, 3) := by decide +kernel
theorem dX12_termOf_117 : decode cX12_termOf 117 = .ok (.iload 6, 2) := by decide +kernel
theorem dX12_termOf_119 : decode cX12_termOf 119 = .ok (.iload 7, 2) := by decide +kernel
theorem dX12_termOf_121 : decode cX12_termOf 121 = .ok (.iadd, 1) := by decide +kernel
theorem dX12_termOf_122 : decode cX12_termOf 122 = .ok (.goto 36, 3) := by decide +kernel
theorem dX12_termOf_125 : decode cX12_termOf 125 = .ok (.iload 5, 2) := by decide +kernel
theorem dX12_termOf_127 : decode cX12_termOf 127 = .ok (.iconst 3, 1) := by decide +kernel
theorem dX12_termOf_128 : decode cX12_termOf 128 = .ok (.if_icmp .ne 11, 3) := by decide +kernel
theorem dX12_termOf_131 : decode cX12_termOf 131 = .ok (.iload 6, 2) := by decide +kernel
theorem dX12_termOf_133 : decode cX12_termOf 133 = .ok (.iload 7, 2) := by decide +kernel
theorem dX12_termOf_135 : decode cX12_termOf 135 = .ok (.isub, 1) := by decide +kernel
theorem dX12_termOf_136 : decode cX12_termOf 136 = .ok (.goto 22, 3) := by decide +kernel
theorem dX12_termOf_139 : decode cX12_termOf 139 = .ok (.iload 5, 2) := by decide +kernel
theorem dX12_termOf_141 : decode cX12_termOf 141 = .ok (.iconst 4, 1) := by decide +kernel
theorem dX12_termOf_142 : decode cX12_termOf 142 = .ok (.if_icmp .ne 11, 3) := by decide +kernel
theorem dX12_termOf_145 : decode cX12_termOf 145 = .ok (.iload 6, 2) := by decide +kernel
theorem dX12_termOf_147 : decode cX12_termOf 147 = .ok (.iload 7, 2) := by decide +kernel
theorem dX12_termOf_149 : decode cX12_termOf 149 = .ok (.imul, 1) := by decide +kernel
theorem dX12_termOf_150 : decode cX12_termOf 150 = .ok (.goto 8, 3) := by decide +kernel
theorem dX12_termOf_153 : decode cX12_termOf 153 = .ok (.iload 6, 2) := by decide +kernel
theorem dX12_termOf_155 : decode cX12_termOf 155 = .ok (.iload 7, 2) := by decide +kernel
theorem dX12_termOf_157 : decode cX12_termOf 157 = .ok (.idiv, 1) := by decide +kernel
theorem dX12_termOf_158 : decode cX12_termOf 158 = .ok (.iastore, 1) := by decide +kernel
theorem dX12_termOf_159 : decode cX12_termOf 159 = .ok (.iinc 4 1, 3) := by decide +kernel
theorem dX12_termOf_162 : decode cX12_termOf 162 = .ok (.goto (-157), 3) := by decide +kernel
theorem dX12_termOf_165 : decode cX12_termOf 165 = .ok (.aload_n 0, 1) := by decide +kernel
theorem dX12_termOf_166 : decode cX12_termOf 166 = .ok (.getfield 110, 3) := by decide +kernel
theorem dX12_termOf_169 : decode cX12_termOf 169 = .ok (.iconst 0, 1) := by decide +kernel
theorem dX12_termOf_170 : decode cX12_termOf 170 = .ok (.iaload, 1) := by decide +kernel
theorem dX12_termOf_171 : decode cX12_termOf 171 = .ok (.ireturn, 1) := by decide +kernel
theorem dX12_in_0 : decode cX12_in 0 = .ok (.iload_n 0, 1) := by decide +kernel
theorem dX12_in_1 : decode cX12_in 1 = .ok (.iload_n 1, 1) := by decide +kernel
theorem dX12_in_2 : decode cX12_in 2 = .ok (.if_icmp .lt 12, 3) := by decide +kernel
theorem dX12_in_5 : decode cX12_in 5 = .ok (.iload_n 0, 1) := by decide +kernel
theorem dX12_in_6 : decode cX12_in 6 = .ok (.iload_n 2, 1) := by decide +kernel
theorem dX12_in_7 : decode cX12_in 7 = .ok (.if_icmp .gt 7, 3) := by decide +kernel
theorem dX12_in_10 : decode cX12_in 10 = .ok (.iconst 1, 1) := by decide +kernel
theorem dX12_in_11 : decode cX12_in 11 = .ok (.goto 4, 3) := by decide +kernel
theorem dX12_in_14 : decode cX12_in 14 = .ok (.iconst 0, 1) := by decide +kernel
theorem dX12_in_15 : decode cX12_in 15 = .ok (.ireturn, 1) := by decide +kernel
theorem dX12_bits_0 : decode cX12_bits 0 = .ok (.iconst 0, 1) := by decide +kernel
theorem dX12_bits_1 : decode cX12_bits 1 = .ok (.istore_n 1, 1) := by decide +kernel
theorem dX12_bits_2 : decode cX12_bits 2 = .ok (.iconst 0, 1) := by decide +kernel
theorem dX12_bits_3 : decode cX12_bits 3 = .ok (.istore_n 2, 1) := by decide +kernel
theorem dX12_bits_4 : decode cX12_bits 4 = .ok (.iload_n 2, 1) := by decide +kernel
theorem dX12_bits_5 : decode cX12_bits 5 = .ok (.bipush 8, 2) := by decide +kernel
theorem dX12_bits_7 : decode cX12_bits 7 = .ok (.if_icmp .ge 17, 3) := by decide +kernel
theorem dX12_bits_10 : decode cX12_bits 10 = .ok (.iload_n 1, 1) := by decide +kernel
theorem dX12_bits_11 : decode cX12_bits 11 = .ok (.iload_n 0, 1) := by decide +kernel
theorem dX12_bits_12 : decode cX12_bits 12 = .ok (.iload_n 2, 1) := by decide +kernel
theorem dX12_bits_13 : decode cX12_bits 13 = .ok (.ishr, 1) := by decide +kernel
theorem dX12_bits_14 : decode cX12_bits 14 = .ok (.iconst 1, 1) := by decide +kernel
theorem dX12_bits_15 : decode cX12_bits 15 = .ok (.iand, 1) := by decide +kernel
theorem dX12_bits_16 : decode cX12_bits 16 = .ok (.iadd, 1) := by decide +kernel
theorem dX12_bits_17 : decode cX12_bits 17 = .ok (.istore_n 1, 1) := by decide +kernel
theorem dX12_bits_18 : decode cX12_bits 18 = .ok (.iinc 2 1, 3) := by decide +kernel
theorem dX12_bits_21 : decode cX12_bits 21 = .ok (.goto (-17), 3) := by decide +kernel
theorem dX12_bits_24 : decode cX12_bits 24 = .ok (.iload_n 1, 1) := by decide +kernel
theorem dX12_bits_25 : decode cX12_bits 25 = .ok (.ireturn, 1) := by decide +kernel
theorem dX12_isMan_0 : decode cX12_isMan 0 = .ok (.iload_n 1, 1) := by decide +kernel
theorem dX12_isMan_1 : decode cX12_isMan 1 = .ok (.iconst 0, 1) := by decide +kernel
theorem dX12_isMan_2 : decode cX12_isMan 2 = .ok (.aload_n 0, 1) := by decide +kernel
theorem dX12_isMan_3 : decode cX12_isMan 3 = .ok (.getfield 46, 3) := by decide +kernel
theorem dX12_isMan_6 : decode cX12_isMan 6 = .ok (.aload_n 0, 1) := by decide +kernel
theorem dX12_isMan_7 : decode cX12_isMan 7 = .ok (.getfield 230, 3) := by decide +kernel
theorem dX12_isMan_10 : decode cX12_isMan 10 = .ok (.iaload, 1) := by decide +kernel
theorem dX12_isMan_11 : decode cX12_isMan 11 = .ok (.iconst 1, 1) := by decide +kernel
theorem dX12_isMan_12 : decode cX12_isMan 12 = .ok (.isub, 1) := by decide +kernel
theorem dX12_isMan_13 : decode cX12_isMan 13 = .ok (.invokestatic 314, 3) := by decide +kernel
theorem dX12_isMan_16 : decode cX12_isMan 16 = .ok (.ireturn, 1) := by decide +kernel
theorem dX12_isMotion_0 : decode cX12_isMotion 0 = .ok (.iload_n 1, 1) := by decide +kernel
theorem dX12_isMotion_1 : decode cX12_isMotion 1 = .ok (.iconst 0, 1) := by decide +kernel
theorem dX12_isMotion_2 : decode cX12_isMotion 2 = .ok (.aload_n 0, 1) := by decide +kernel
theorem dX12_isMotion_3 : decode cX12_isMotion 3 = .ok (.getfield 61, 3) := by decide +kernel
theorem dX12_isMotion_6 : decode cX12_isMotion 6 = .ok (.aload_n 0, 1) := by decide +kernel
theorem dX12_isMotion_7 : decode cX12_isMotion 7 = .ok (.getfield 230, 3) := by decide +kernel
theorem dX12_isMotion_10 : decode cX12_isMotion 10 = .ok (.iaload, 1) := by decide +kernel
theorem dX12_isMotion_11 : decode cX12_isMotion 11 = .ok (.iconst 1, 1) := by decide +kernel
theorem dX12_isMotion_12 : decode cX12_isMotion 12 = .ok (.isub, 1) := by decide +kernel
theorem dX12_isMotion_13 : decode cX12_isMotion 13 = .ok (.invokestatic 314, 3) := by decide +kernel
theorem dX12_isMotion_16 : decode cX12_isMotion 16 = .ok (.ireturn, 1) := by decide +kernel
theorem dX12_isSide_0 : decode cX12_isSide 0 = .ok (.iload_n 1, 1) := by decide +kernel
theorem dX12_isSide_1 : decode cX12_isSide 1 = .ok (.iconst 0, 1) := by decide +kernel
theorem dX12_isSide_2 : decode cX12_isSide 2 = .ok (.aload_n 0, 1) := by decide +kernel
theorem dX12_isSide_3 : decode cX12_isSide 3 = .ok (.getfield 43, 3) := by decide +kernel
theorem dX12_isSide_6 : decode cX12_isSide 6 = .ok (.aload_n 0, 1) := by decide +kernel
theorem dX12_isSide_7 : decode cX12_isSide 7 = .ok (.getfield 230, 3) := by decide +kernel
theorem dX12_isSide_10 : decode cX12_isSide 10 = .ok (.iaload, 1) := by decide +kernel
theorem dX12_isSide_11 : decode cX12_isSide 11 = .ok (.iconst 1, 1) := by decide +kernel
theorem dX12_isSide_12 : decode cX12_isSide 12 = .ok (.isub, 1) := by decide +kernel
theorem dX12_isSide_13 : decode cX12_isSide 13 = .ok (.invokestatic 314, 3) := by decide +kernel
theorem dX12_isSide_16 : decode cX12_isSide 16 = .ok (.ireturn, 1) := by decide +kernel
theorem dX12_begins_0 : decode cX12_begins 0 = .ok (.iconst 0, 1) := by decide +kernel
theorem dX12_begins_1 : decode cX12_begins 1 = .ok (.istore_n 1, 1) := by decide +kernel
theorem dX12_begins_2 : decode cX12_begins 2 = .ok (.iload_n 1, 1) := by decide +kernel
theorem dX12_begins_3 : decode cX12_begins 3 = .ok (.bipush 80, 2) := by decide +kernel
theorem dX12_begins_5 : decode cX12_begins 5 = .ok (.if_icmp .ge 16, 3) := by decide +kernel
theorem dX12_begins_8 : decode cX12_begins 8 = .ok (.aload_n 0, 1) := by decide +kernel
theorem dX12_begins_9 : decode cX12_begins 9 = .ok (.getfield 116, 3) := by decide +kernel
theorem dX12_begins_12 : decode cX12_begins 12 = .ok (.iload_n 1, 1) := by decide +kernel
theorem dX12_begins_13 : decode cX12_begins 13 = .ok (.iconst 0, 1) := by decide +kernel
theorem dX12_begins_14 : decode cX12_begins 14 = .ok (.iastore, 1) := by decide +kernel
theorem dX12_begins_15 : decode cX12_begins 15 = .ok (.iinc 1 1, 3) := by decide +kernel
theorem dX12_begins_18 : decode cX12_begins 18 = .ok (.goto (-16), 3) := by decide +kernel
theorem dX12_begins_21 : decode cX12_begins 21 = .ok (.iconst 0, 1) := by decide +kernel
theorem dX12_begins_22 : decode cX12_begins 22 = .ok (.istore_n 1, 1) := by decide +kernel
theorem dX12_begins_23 : decode cX12_begins 23 = .ok (.iload_n 1, 1) := by decide +kernel
theorem dX12_begins_24 : decode cX12_begins 24 = .ok (.bipush 7, 2) := by decide +kernel
theorem dX12_begins_26 : decode cX12_begins 26 = .ok (.if_icmp .ge 130, 3) := by decide +kernel
theorem dX12_begins_29 : decode cX12_begins 29 = .ok (.aload_n 0, 1) := by decide +kernel
theorem dX12_begins_30 : decode cX12_begins 30 = .ok (.getfield 116, 3) := by decide +kernel
theorem dX12_begins_33 : decode cX12_begins 33 = .ok (.iload_n 1, 1) := by decide +kernel
theorem dX12_begins_34 : decode cX12_begins 34 = .ok (.iload_n 1, 1) := by decide +kernel
theorem dX12_begins_35 : decode cX12_begins 35 = .ok (.aload_n 0, 1) := by decide +kernel
theorem dX12_begins_36 : decode cX12_begins 36 = .ok (.getfield 46, 3) := by decide +kernel
theorem dX12_begins_39 : decode cX12_begins 39 = .ok (.aload_n 0, 1) := by decide +kernel
theorem dX12_begins_40 : decode cX12_begins 40 = .ok (.getfield 230, 3) := by decide +kernel
theorem dX12_begins_43 : decode cX12_begins 43 = .ok (.iaload, 1) := by decide +kernel
theorem dX12_begins_44 : decode cX12_begins 44 = .ok (.if_icmp .ge 20, 3) := by decide +kernel
theorem dX12_begins_47 : decode cX12_begins 47 = .ok (.aload_n 0, 1) := by decide +kernel
theorem dX12_begins_48 : decode cX12_begins 48 = .ok (.getfield 49, 3) := by decide +kernel
theorem dX12_begins_51 : decode cX12_begins 51 = .ok (.bipush 7, 2) := by decide +kernel
theorem dX12_begins_53 : decode cX12_begins 53 = .ok (.aload_n 0, 1) := by decide +kernel
theorem dX12_begins_54 : decode cX12_begins 54 = .ok (.getfield 230, 3) := by decide +kernel
theorem dX12_begins_57 : decode cX12_begins 57 = .ok (.imul, 1) := by decide +kernel
theorem dX12_begins_58 : decode cX12_begins 58 = .ok (.iload_n 1, 1) := by decide +kernel
theorem dX12_begins_59 : decode cX12_begins 59 = .ok (.iadd, 1) := by decide +kernel
theorem dX12_begins_60 : decode cX12_begins 60 = .ok (.iaload, 1) := by decide +kernel
theorem dX12_begins_61 : decode cX12_begins 61 = .ok (.goto 4, 3) := by decide +kernel
theorem dX12_begins_64 : decode cX12_begins 64 = .ok (.iconst 0, 1) := by decide +kernel
theorem dX12_begins_65 : decode cX12_begins 65 = .ok (.iastore, 1) := by decide +kernel
theorem dX12_begins_66 : decode cX12_begins 66 = .ok (.aload_n 0, 1) := by decide +kernel
theorem dX12_begins_67 : decode cX12_begins 67 = .ok (.getfield 116, 3) := by decide +kernel
theorem dX12_begins_70 : decode cX12_begins 70 = .ok (.bipush 7, 2) := by decide +kernel
theorem dX12_begins_72 : decode cX12_begins 72 = .ok (.iload_n 1, 1) := by decide +kernel
theorem dX12_begins_73 : decode cX12_begins 73 = .ok (.iadd, 1) := by decide +kernel
theorem dX12_begins_74 : decode cX12_begins 74 = .ok (.bipush (-2), 2) := by decide +kernel
theorem dX12_begins_76 : decode cX12_begins 76 = .ok (.iastore, 1) := by decide +kernel
theorem dX12_begins_77 : decode cX12_begins 77 = .ok (.aload_n 0, 1) := by decide +kernel
theorem dX12_begins_78 : decode cX12_begins 78 = .ok (.getfield 116, 3) := by decide +kernel
theorem dX12_begins_81 : decode cX12_begins 81 = .ok (.bipush 14, 2) := by decide +kernel
theorem dX12_begins_83 : decode cX12_begins 83 = .ok (.iload_n 1, 1) := by decide +kernel
theorem dX12_begins_84 : decode cX12_begins 84 = .ok (.iadd, 1) := by decide +kernel
theorem dX12_begins_85 : decode cX12_begins 85 = .ok (.iload_n 1, 1) := by decide +kernel
theorem dX12_begins_86 : decode cX12_begins 86 = .ok (.aload_n 0, 1) := by decide +kernel
theorem dX12_begins_87 : decode cX12_begins 87 = .ok (.getfield 46, 3) := by decide +kernel
theorem dX12_begins_90 : decode cX12_begins 90 = .ok (.aload_n 0, 1) := by decide +kernel
theorem dX12_begins_91 : decode cX12_begins 91 = .ok (.getfield 230, 3) := by decide +kernel
theorem dX12_begins_94 : decode cX12_begins 94 = .ok (.iaload, 1) := by decide +kernel
theorem dX12_begins_95 : decode cX12_begins 95 = .ok (.if_icmp .ge 20, 3) := by decide +kernel
theorem dX12_begins_98 : decode cX12_begins 98 = .ok (.aload_n 0, 1) := by decide +kernel
theorem dX12_begins_99 : decode cX12_begins 99 = .ok (.getfield 58, 3) := by decide +kernel
theorem dX12_begins_102 : decode cX12_begins 102 = .ok (.bipush 7, 2) := by decide +kernel
theorem dX12_begins_104 : decode cX12_begins 104 = .ok (.aload_n 0, 1) := by decide +kernel
theorem dX12_begins_105 : decode cX12_begins 105 = .ok (.getfield 230, 3) := by decide +kernel
theorem dX12_begins_108 : decode cX12_begins 108 = .ok (.imul, 1) := by decide +kernel
theorem dX12_begins_109 : decode cX12_begins 109 = .ok (.iload_n 1, 1) := by decide +kernel
theorem dX12_begins_110 : decode cX12_begins 110 = .ok (.iadd, 1) := by decide +kernel
theorem dX12_begins_111 : decode cX12_begins 111 = .ok (.iaload, 1) := by decide +kernel
theorem dX12_begins_112 : decode cX12_begins 112 = .ok (.goto 4, 3) := by decide +kernel
theorem dX12_begins_115 : decode cX12_begins 115 = .ok (.iconst 0, 1) := by decide +kernel
theorem dX12_begins_116 : decode cX12_begins 116 = .ok (.iastore, 1) := by decide +kernel
theorem dX12_begins_117 : decode cX12_begins 117 = .ok (.aload_n 0, 1) := by decide +kernel
theorem dX12_begins_118 : decode cX12_begins 118 = .ok (.getfield 116, 3) := by decide +kernel
theorem dX12_begins_121 : decode cX12_begins 121 = .ok (.bipush 21, 2) := by decide +kernel
theorem dX12_begins_123 : decode cX12_begins 123 = .ok (.iload_n 1, 1) := by decide +kernel
theorem dX12_begins_124 : decode cX12_begins 124 = .ok (.iadd, 1) := by decide +kernel
theorem dX12_begins_125 : decode cX12_begins 125 = .ok (.bipush (-2), 2) := by decide +kernel
theorem dX12_begins_127 : decode cX12_begins 127 = .ok (.iastore, 1) := by decide +kernel
theorem dX12_begins_128 : decode cX12_begins 128 = .ok (.aload_n 0, 1) := by decide +kernel
theorem dX12_begins_129 : decode cX12_begins 129 = .ok (.getfield 116, 3) := by decide +kernel
theorem dX12_begins_132 : decode cX12_begins 132 = .ok (.bipush 42, 2) := by decide +kernel
theorem dX12_begins_134 : decode cX12_begins 134 = .ok (.iload_n 1, 1) := by decide +kernel
theorem dX12_begins_135 : decode cX12_begins 135 = .ok (.iadd, 1) := by decide +kernel
theorem dX12_begins_136 : decode cX12_begins 136 = .ok (.bipush (-2), 2) := by decide +kernel
theorem dX12_begins_138 : decode cX12_begins 138 = .ok (.iastore, 1) := by decide +kernel
theorem dX12_begins_139 : decode cX12_begins 139 = .ok (.aload_n 0, 1) := by decide +kernel
theorem dX12_begins_140 : decode cX12_begins 140 = .ok (.getfield 116, 3) := by decide +kernel
theorem dX12_begins_143 : decode cX12_begins 143 = .ok (.bipush 49, 2) := by decide +kernel
theorem dX12_begins_145 : decode cX12_begins 145 = .ok (.iload_n 1, 1) := by decide +kernel
theorem dX12_begins_146 : decode cX12_begins 146 = .ok (.iadd, 1) := by decide +kernel
theorem dX12_begins_147 : decode cX12_begins 147 = .ok (.bipush (-2), 2) := by decide +kernel
theorem dX12_begins_149 : decode cX12_begins 149 = .ok (.iastore, 1) := by decide +kernel
theorem dX12_begins_150 : decode cX12_begins 150 = .ok (.iinc 1 1, 3) := by decide +kernel
theorem dX12_begins_153 : decode cX12_begins 153 = .ok (.goto (-130), 3) := by decide +kernel
theorem dX12_begins_156 : decode cX12_begins 156 = .ok (.iconst 0, 1) := by decide +kernel
theorem dX12_begins_157 : decode cX12_begins 157 = .ok (.istore_n 1, 1) := by decide +kernel
theorem dX12_begins_158 : decode cX12_begins 158 = .ok (.iload_n 1, 1) := by decide +kernel
theorem dX12_begins_159 : decode cX12_begins 159 = .ok (.iconst 5, 1) := by decide +kernel
theorem dX12_begins_160 : decode cX12_begins 160 = .ok (.if_icmp .ge 20, 3) := by decide +kernel
theorem dX12_begins_163 : decode cX12_begins 163 = .ok (.aload_n 0, 1) := by decide +kernel
theorem dX12_begins_164 : decode cX12_begins 164 = .ok (.getfield 116, 3) := by decide +kernel
theorem dX12_begins_167 : decode cX12_begins 167 = .ok (.bipush 70, 2) := by decide +kernel
theorem dX12_begins_169 : decode cX12_begins 169 = .ok (.iload_n 1, 1) := by decide +kernel
theorem dX12_begins_170 : decode cX12_begins 170 = .ok (.iadd, 1) := by decide +kernel
theorem dX12_begins_171 : decode cX12_begins 171 = .ok (.bipush (-2), 2) := by decide +kernel
theorem dX12_begins_173 : decode cX12_begins 173 = .ok (.iastore, 1) := by decide +kernel
theorem dX12_begins_174 : decode cX12_begins 174 = .ok (.iinc 1 1, 3) := by decide +kernel
theorem dX12_begins_177 : decode cX12_begins 177 = .ok (.goto (-19), 3) := by decide +kernel
theorem dX12_begins_180 : decode cX12_begins 180 = .ok (.aload_n 0, 1) := by decide +kernel
theorem dX12_begins_181 : decode cX12_begins 181 = .ok (.aload_n 0, 1) := by decide +kernel
theorem dX12_begins_182 : decode cX12_begins 182 = .ok (.getfield 73, 3) := by decide +kernel
theorem dX12_begins_185 : decode cX12_begins 185 = .ok (.aload_n 0, 1) := by decide +kernel
theorem dX12_begins_186 : decode cX12_begins 186 = .ok (.getfield 230, 3) := by decide +kernel
theorem dX12_begins_189 : decode cX12_begins 189 = .ok (.iaload, 1) := by decide +kernel
theorem dX12_begins_190 : decode cX12_begins 190 = .ok (.putfield 318, 3) := by decide +kernel
theorem dX12_begins_193 : decode cX12_begins 193 = .ok (.return_, 1) := by decide +kernel
theorem dX12_keepsRow_0 : decode cX12_keepsRow 0 = .ok (.iconst 0, 1) := by decide +kernel
theorem dX12_keepsRow_1 : decode cX12_keepsRow 1 = .ok (.istore_n 1, 1) := by decide +kernel
theorem dX12_keepsRow_2 : decode cX12_keepsRow 2 = .ok (.iload_n 1, 1) := by decide +kernel
theorem dX12_keepsRow_3 : decode cX12_keepsRow 3 = .ok (.bipush 80, 2) := by decide +kernel
theorem dX12_keepsRow_5 : decode cX12_keepsRow 5 = .ok (.if_icmp .ge 21, 3) := by decide +kernel
theorem dX12_keepsRow_8 : decode cX12_keepsRow 8 = .ok (.aload_n 0, 1) := by decide +kernel
theorem dX12_keepsRow_9 : decode cX12_keepsRow 9 = .ok (.getfield 113, 3) := by decide +kernel
theorem dX12_keepsRow_12 : decode cX12_keepsRow 12 = .ok (.iload_n 1, 1) := by decide +kernel
theorem dX12_keepsRow_13 : decode cX12_keepsRow 13 = .ok (.aload_n 0, 1) := by decide +kernel
theorem dX12_keepsRow_14 : decode cX12_keepsRow 14 = .ok (.getfield 116, 3) := by decide +kernel
theorem dX12_keepsRow_17 : decode cX12_keepsRow 17 = .ok (.iload_n 1, 1) := by decide +kernel
theorem dX12_keepsRow_18 : decode cX12_keepsRow 18 = .ok (.iaload, 1) := by decide +kernel
theorem dX12_keepsRow_19 : decode cX12_keepsRow 19 = .ok (.iastore, 1) := by decide +kernel
theorem dX12_keepsRow_20 : decode cX12_keepsRow 20 = .ok (.iinc 1 1, 3) := by decide +kernel
theorem dX12_keepsRow_23 : decode cX12_keepsRow 23 = .ok (.goto (-21), 3) := by decide +kernel
theorem dX12_keepsRow_26 : decode cX12_keepsRow 26 = .ok (.return_, 1) := by decide +kernel
theorem dX12_copies_0 : decode cX12_copies 0 = .ok (.iconst 0, 1) := by decide +kernel
theorem dX12_copies_1 : decode cX12_copies 1 = .ok (.istore_n 1, 1) := by decide +kernel
theorem dX12_copies_2 : decode cX12_copies 2 = .ok (.iload_n 1, 1) := by decide +kernel
theorem dX12_copies_3 : decode cX12_copies 3 = .ok (.bipush 80, 2) := by decide +kernel
theorem dX12_copies_5 : decode cX12_copies 5 = .ok (.if_icmp .ge 21, 3) := by decide +kernel
theorem dX12_copies_8 : decode cX12_copies 8 = .ok (.aload_n 0, 1) := by decide +kernel
theorem dX12_copies_9 : decode cX12_copies 9 = .ok (.getfield 116, 3) := by decide +kernel
theorem dX12_copies_12 : decode cX12_copies 12 = .ok (.iload_n 1, 1) := by decide +kernel
theorem dX12_copies_13 : decode cX12_copies 13 = .ok (.aload_n 0, 1) := by decide +kernel
theorem dX12_copies_14 : decode cX12_copies 14 = .ok (.getfield 113, 3) := by decide +kernel
theorem dX12_copies_17 : decode cX12_copies 17 = .ok (.iload_n 1, 1) := by decide +kernel
theorem dX12_copies_18 : decode cX12_copies 18 = .ok (.iaload, 1) := by decide +kernel
theorem dX12_copies_19 : decode cX12_copies 19 = .ok (.iastore, 1) := by decide +kernel
theorem dX12_copies_20 : decode cX12_copies 20 = .ok (.iinc 1 1, 3) := by decide +kernel
theorem dX12_copies_23 : decode cX12_copies 23 = .ok (.goto (-21), 3) := by decide +kernel
theorem dX12_copies_26 : decode cX12_copies 26 = .ok (.aload_n 0, 1) := by decide +kernel
theorem dX12_copies_27 : decode cX12_copies 27 = .ok (.aload_n 0, 1) := by decide +kernel
theorem dX12_copies_28 : decode cX12_copies 28 = .ok (.getfield 73, 3) := by decide +kernel
theorem dX12_copies_31 : decode cX12_copies 31 = .ok (.aload_n 0, 1) := by decide +kernel
theorem dX12_copies_32 : decode cX12_copies 32 = .ok (.getfield 230, 3) := by decide +kernel
theorem dX12_copies_35 : decode cX12_copies 35 = .ok (.iaload, 1) := by decide +kernel
theorem dX12_copies_36 : decode cX12_copies 36 = .ok (.putfield 318, 3) := by decide +kernel
theorem dX12_copies_39 : decode cX12_copies 39 = .ok (.return_, 1) := by decide +kernel
theorem dX12_mixed_0 : decode cX12_mixed 0 = .ok (.iload_n 0, 1) := by decide +kernel
theorem dX12_mixed_1 : decode cX12_mixed 1 = .ok (.iload_n 1, 1) := by decide +kernel
theorem dX12_mixed_2 : decode cX12_mixed 2 = .ok (.ixor, 1) := by decide +kernel
theorem dX12_mixed_3 : decode cX12_mixed 3 = .ok (.ldc_w 321, 3) := by decide +kernel
theorem dX12_mixed_6 : decode cX12_mixed 6 = .ok (.imul, 1) := by decide +kernel
theorem dX12_mixed_7 : decode cX12_mixed 7 = .ok (.sipush 12345, 3) := by decide +kernel
theorem dX12_mixed_10 : decode cX12_mixed 10 = .ok (.iadd, 1) := by decide +kernel
theorem dX12_mixed_11 : decode cX12_mixed 11 = .ok (.istore_n 2, 1) := by decide +kernel
theorem dX12_mixed_12 : decode cX12_mixed 12 = .ok (.iload_n 2, 1) := by decide +kernel
theorem dX12_mixed_13 : decode cX12_mixed 13 = .ok (.iload_n 2, 1) := by decide +kernel
theorem dX12_mixed_14 : decode cX12_mixed 14 = .ok (.bipush 15, 2) := by decide +kernel
theorem dX12_mixed_16 : decode cX12_mixed 16 = .ok (.iushr, 1) := by decide +kernel
theorem dX12_mixed_17 : decode cX12_mixed 17 = .ok (.ixor, 1) := by decide +kernel
theorem dX12_mixed_18 : decode cX12_mixed 18 = .ok (.ireturn, 1) := by decide +kernel
theorem dX12_slips_0 : decode cX12_slips 0 = .ok (.aload_n 0, 1) := by decide +kernel
theorem dX12_slips_1 : decode cX12_slips 1 = .ok (.getfield 318, 3) := by decide +kernel
theorem dX12_slips_4 : decode cX12_slips 4 = .ok (.bipush 65, 2) := by decide +kernel
theorem dX12_slips_6 : decode cX12_slips 6 = .ok (.invokestatic 322, 3) := by decide +kernel
theorem dX12_slips_9 : decode cX12_slips 9 = .ok (.bipush 16, 2) := by decide +kernel
theorem dX12_slips_11 : decode cX12_slips 11 = .ok (.aload_n 0, 1) := by decide +kernel
theorem dX12_slips_12 : decode cX12_slips 12 = .ok (.getfield 116, 3) := by decide +kernel
theorem dX12_slips_15 : decode cX12_slips 15 = .ok (.bipush 75, 2) := by decide +kernel
theorem dX12_slips_17 : decode cX12_slips 17 = .ok (.iaload, 1) := by decide +kernel
theorem dX12_slips_18 : decode cX12_slips 18 = .ok (.imul, 1) := by decide +kernel
theorem dX12_slips_19 : decode cX12_slips 19 = .ok (.iload_n 1, 1) := by decide +kernel
theorem dX12_slips_20 : decode cX12_slips 20 = .ok (.iadd, 1) := by decide +kernel
theorem dX12_slips_21 : decode cX12_slips 21 = .ok (.invokestatic 322, 3) := by decide +kernel
theorem dX12_slips_24 : decode cX12_slips 24 = .ok (.iconst 1, 1) := by decide +kernel
theorem dX12_slips_25 : decode cX12_slips 25 = .ok (.iushr, 1) := by decide +kernel
theorem dX12_slips_26 : decode cX12_slips 26 = .ok (.bipush 10, 2) := by decide +kernel
theorem dX12_slips_28 : decode cX12_slips 28 = .ok (.irem, 1) := by decide +kernel
theorem dX12_slips_29 : decode cX12_slips 29 = .ok (.aload_n 0, 1) := by decide +kernel
theorem dX12_slips_30 : decode cX12_slips 30 = .ok (.getfield 55, 3) := by decide +kernel
theorem dX12_slips_33 : decode cX12_slips 33 = .ok (.bipush 7, 2) := by decide +kernel
theorem dX12_slips_35 : decode cX12_slips 35 = .ok (.aload_n 0, 1) := by decide +kernel
theorem dX12_slips_36 : decode cX12_slips 36 = .ok (.getfield 230, 3) := by decide +kernel
theorem dX12_slips_39 : decode cX12_slips 39 = .ok (.imul, 1) := by decide +kernel
theorem dX12_slips_40 : decode cX12_slips 40 = .ok (.iload_n 1, 1) := by decide +kernel
theorem dX12_slips_41 : decode cX12_slips 41 = .ok (.iadd, 1) := by decide +kernel
theorem dX12_slips_42 : decode cX12_slips 42 = .ok (.iaload, 1) := by decide +kernel
