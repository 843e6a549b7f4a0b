theorem dX12_slips_43 : decode cX12_slips 43 = .ok (.if_icmp .ge 7, 3) := by decide +kernel
theorem dX12_slips_46 : decode cX12_slips 46 = .ok (.iconst 1, 1) := by decide +kernel
theorem dX12_slips_47 : decode cX12_slips 47 = .ok (.goto 4, 3) := by decide +kernel
theorem dX12_slips_50 : decode cX12_slips 50 = .ok (.iconst 0, 1) := by decide +kernel
theorem dX12_slips_51 : decode cX12_slips 51 = .ok (.ireturn, 1) := by decide +kernel
theorem dX12_pleadsFor_0 : decode cX12_pleadsFor 0 = .ok (.aload_n 0, 1) := by decide +kernel
theorem dX12_pleadsFor_1 : decode cX12_pleadsFor 1 = .ok (.getfield 116, 3) := by decide +kernel
theorem dX12_pleadsFor_4 : decode cX12_pleadsFor 4 = .ok (.bipush 7, 2) := by decide +kernel
theorem dX12_pleadsFor_6 : decode cX12_pleadsFor 6 = .ok (.iload_n 1, 1) := by decide +kernel
theorem dX12_pleadsFor_7 : decode cX12_pleadsFor 7 = .ok (.iadd, 1) := by decide +kernel
theorem dX12_pleadsFor_8 : decode cX12_pleadsFor 8 = .ok (.iaload, 1) := by decide +kernel
theorem dX12_pleadsFor_9 : decode cX12_pleadsFor 9 = .ok (.ifCond .lt 15, 3) := by decide +kernel
theorem dX12_pleadsFor_12 : decode cX12_pleadsFor 12 = .ok (.aload_n 0, 1) := by decide +kernel
theorem dX12_pleadsFor_13 : decode cX12_pleadsFor 13 = .ok (.getfield 116, 3) := by decide +kernel
theorem dX12_pleadsFor_16 : decode cX12_pleadsFor 16 = .ok (.bipush 7, 2) := by decide +kernel
theorem dX12_pleadsFor_18 : decode cX12_pleadsFor 18 = .ok (.iload_n 1, 1) := by decide +kernel
theorem dX12_pleadsFor_19 : decode cX12_pleadsFor 19 = .ok (.iadd, 1) := by decide +kernel
theorem dX12_pleadsFor_20 : decode cX12_pleadsFor 20 = .ok (.iaload, 1) := by decide +kernel
theorem dX12_pleadsFor_21 : decode cX12_pleadsFor 21 = .ok (.goto 21, 3) := by decide +kernel
theorem dX12_pleadsFor_24 : decode cX12_pleadsFor 24 = .ok (.aload_n 0, 1) := by decide +kernel
theorem dX12_pleadsFor_25 : decode cX12_pleadsFor 25 = .ok (.getfield 116, 3) := by decide +kernel
theorem dX12_pleadsFor_28 : decode cX12_pleadsFor 28 = .ok (.iload_n 1, 1) := by decide +kernel
theorem dX12_pleadsFor_29 : decode cX12_pleadsFor 29 = .ok (.iaload, 1) := by decide +kernel
theorem dX12_pleadsFor_30 : decode cX12_pleadsFor 30 = .ok (.iconst 1, 1) := by decide +kernel
theorem dX12_pleadsFor_31 : decode cX12_pleadsFor 31 = .ok (.iadd, 1) := by decide +kernel
theorem dX12_pleadsFor_32 : decode cX12_pleadsFor 32 = .ok (.aload_n 0, 1) := by decide +kernel
theorem dX12_pleadsFor_33 : decode cX12_pleadsFor 33 = .ok (.getfield 43, 3) := by decide +kernel
theorem dX12_pleadsFor_36 : decode cX12_pleadsFor 36 = .ok (.aload_n 0, 1) := by decide +kernel
theorem dX12_pleadsFor_37 : decode cX12_pleadsFor 37 = .ok (.getfield 230, 3) := by decide +kernel
theorem dX12_pleadsFor_40 : decode cX12_pleadsFor 40 = .ok (.iaload, 1) := by decide +kernel
theorem dX12_pleadsFor_41 : decode cX12_pleadsFor 41 = .ok (.irem, 1) := by decide +kernel
theorem dX12_pleadsFor_42 : decode cX12_pleadsFor 42 = .ok (.ireturn, 1) := by decide +kernel
theorem dX12_looks_0 : decode cX12_looks 0 = .ok (.aload_n 0, 1) := by decide +kernel
theorem dX12_looks_1 : decode cX12_looks 1 = .ok (.getfield 107, 3) := by decide +kernel
theorem dX12_looks_4 : decode cX12_looks 4 = .ok (.iconst 0, 1) := by decide +kernel
theorem dX12_looks_5 : decode cX12_looks 5 = .ok (.aload_n 0, 1) := by decide +kernel
theorem dX12_looks_6 : decode cX12_looks 6 = .ok (.getfield 52, 3) := by decide +kernel
theorem dX12_looks_9 : decode cX12_looks 9 = .ok (.bipush 7, 2) := by decide +kernel
theorem dX12_looks_11 : decode cX12_looks 11 = .ok (.aload_n 0, 1) := by decide +kernel
theorem dX12_looks_12 : decode cX12_looks 12 = .ok (.getfield 230, 3) := by decide +kernel
theorem dX12_looks_15 : decode cX12_looks 15 = .ok (.imul, 1) := by decide +kernel
theorem dX12_looks_16 : decode cX12_looks 16 = .ok (.iload_n 1, 1) := by decide +kernel
theorem dX12_looks_17 : decode cX12_looks 17 = .ok (.iadd, 1) := by decide +kernel
theorem dX12_looks_18 : decode cX12_looks 18 = .ok (.iaload, 1) := by decide +kernel
theorem dX12_looks_19 : decode cX12_looks 19 = .ok (.iastore, 1) := by decide +kernel
theorem dX12_looks_20 : decode cX12_looks 20 = .ok (.aload_n 0, 1) := by decide +kernel
theorem dX12_looks_21 : decode cX12_looks 21 = .ok (.getfield 107, 3) := by decide +kernel
theorem dX12_looks_24 : decode cX12_looks 24 = .ok (.iconst 1, 1) := by decide +kernel
theorem dX12_looks_25 : decode cX12_looks 25 = .ok (.iload_n 2, 1) := by decide +kernel
theorem dX12_looks_26 : decode cX12_looks 26 = .ok (.iastore, 1) := by decide +kernel
theorem dX12_looks_27 : decode cX12_looks 27 = .ok (.aload_n 0, 1) := by decide +kernel
theorem dX12_looks_28 : decode cX12_looks 28 = .ok (.getfield 107, 3) := by decide +kernel
theorem dX12_looks_31 : decode cX12_looks 31 = .ok (.iconst 2, 1) := by decide +kernel
theorem dX12_looks_32 : decode cX12_looks 32 = .ok (.iload_n 3, 1) := by decide +kernel
theorem dX12_looks_33 : decode cX12_looks 33 = .ok (.iastore, 1) := by decide +kernel
theorem dX12_looks_34 : decode cX12_looks 34 = .ok (.aload_n 0, 1) := by decide +kernel
theorem dX12_looks_35 : decode cX12_looks 35 = .ok (.getfield 107, 3) := by decide +kernel
theorem dX12_looks_38 : decode cX12_looks 38 = .ok (.iconst 3, 1) := by decide +kernel
theorem dX12_looks_39 : decode cX12_looks 39 = .ok (.aload_n 0, 1) := by decide +kernel
theorem dX12_looks_40 : decode cX12_looks 40 = .ok (.getfield 116, 3) := by decide +kernel
theorem dX12_looks_43 : decode cX12_looks 43 = .ok (.bipush 35, 2) := by decide +kernel
theorem dX12_looks_45 : decode cX12_looks 45 = .ok (.iload_n 1, 1) := by decide +kernel
theorem dX12_looks_46 : decode cX12_looks 46 = .ok (.iadd, 1) := by decide +kernel
theorem dX12_looks_47 : decode cX12_looks 47 = .ok (.iaload, 1) := by decide +kernel
theorem dX12_looks_48 : decode cX12_looks 48 = .ok (.iastore, 1) := by decide +kernel
theorem dX12_looks_49 : decode cX12_looks 49 = .ok (.aload_n 0, 1) := by decide +kernel
theorem dX12_looks_50 : decode cX12_looks 50 = .ok (.getfield 107, 3) := by decide +kernel
theorem dX12_looks_53 : decode cX12_looks 53 = .ok (.iconst 4, 1) := by decide +kernel
theorem dX12_looks_54 : decode cX12_looks 54 = .ok (.aload_n 0, 1) := by decide +kernel
theorem dX12_looks_55 : decode cX12_looks 55 = .ok (.getfield 116, 3) := by decide +kernel
theorem dX12_looks_58 : decode cX12_looks 58 = .ok (.bipush 75, 2) := by decide +kernel
theorem dX12_looks_60 : decode cX12_looks 60 = .ok (.iaload, 1) := by decide +kernel
theorem dX12_looks_61 : decode cX12_looks 61 = .ok (.iastore, 1) := by decide +kernel
theorem dX12_looks_62 : decode cX12_looks 62 = .ok (.aload_n 0, 1) := by decide +kernel
theorem dX12_looks_63 : decode cX12_looks 63 = .ok (.getfield 107, 3) := by decide +kernel
theorem dX12_looks_66 : decode cX12_looks 66 = .ok (.iconst 5, 1) := by decide +kernel
theorem dX12_looks_67 : decode cX12_looks 67 = .ok (.iconst 0, 1) := by decide +kernel
theorem dX12_looks_68 : decode cX12_looks 68 = .ok (.iastore, 1) := by decide +kernel
theorem dX12_looks_69 : decode cX12_looks 69 = .ok (.aload_n 0, 1) := by decide +kernel
theorem dX12_looks_70 : decode cX12_looks 70 = .ok (.getfield 107, 3) := by decide +kernel
theorem dX12_looks_73 : decode cX12_looks 73 = .ok (.bipush 6, 2) := by decide +kernel
theorem dX12_looks_75 : decode cX12_looks 75 = .ok (.iconst 0, 1) := by decide +kernel
theorem dX12_looks_76 : decode cX12_looks 76 = .ok (.iastore, 1) := by decide +kernel
theorem dX12_looks_77 : decode cX12_looks 77 = .ok (.aload_n 0, 1) := by decide +kernel
theorem dX12_looks_78 : decode cX12_looks 78 = .ok (.getfield 107, 3) := by decide +kernel
theorem dX12_looks_81 : decode cX12_looks 81 = .ok (.bipush 7, 2) := by decide +kernel
theorem dX12_looks_83 : decode cX12_looks 83 = .ok (.iload_n 1, 1) := by decide +kernel
theorem dX12_looks_84 : decode cX12_looks 84 = .ok (.iastore, 1) := by decide +kernel
theorem dX12_looks_85 : decode cX12_looks 85 = .ok (.aload_n 0, 1) := by decide +kernel
theorem dX12_looks_86 : decode cX12_looks 86 = .ok (.getfield 107, 3) := by decide +kernel
theorem dX12_looks_89 : decode cX12_looks 89 = .ok (.bipush 8, 2) := by decide +kernel
theorem dX12_looks_91 : decode cX12_looks 91 = .ok (.aload_n 0, 1) := by decide +kernel
theorem dX12_looks_92 : decode cX12_looks 92 = .ok (.getfield 116, 3) := by decide +kernel
theorem dX12_looks_95 : decode cX12_looks 95 = .ok (.bipush 7, 2) := by decide +kernel
theorem dX12_looks_97 : decode cX12_looks 97 = .ok (.iload_n 1, 1) := by decide +kernel
theorem dX12_looks_98 : decode cX12_looks 98 = .ok (.iadd, 1) := by decide +kernel
theorem dX12_looks_99 : decode cX12_looks 99 = .ok (.iaload, 1) := by decide +kernel
theorem dX12_looks_100 : decode cX12_looks 100 = .ok (.ifCond .lt 7, 3) := by decide +kernel
theorem dX12_looks_103 : decode cX12_looks 103 = .ok (.iconst 1, 1) := by decide +kernel
theorem dX12_looks_104 : decode cX12_looks 104 = .ok (.goto 4, 3) := by decide +kernel
theorem dX12_looks_107 : decode cX12_looks 107 = .ok (.iconst 0, 1) := by decide +kernel
theorem dX12_looks_108 : decode cX12_looks 108 = .ok (.iastore, 1) := by decide +kernel
theorem dX12_looks_109 : decode cX12_looks 109 = .ok (.return_, 1) := by decide +kernel
theorem dX12_asks_0 : decode cX12_asks 0 = .ok (.iconst 3, 1) := by decide +kernel
theorem dX12_asks_1 : decode cX12_asks 1 = .ok (.aload_n 0, 1) := by decide +kernel
theorem dX12_asks_2 : decode cX12_asks 2 = .ok (.getfield 230, 3) := by decide +kernel
theorem dX12_asks_5 : decode cX12_asks 5 = .ok (.imul, 1) := by decide +kernel
theorem dX12_asks_6 : decode cX12_asks 6 = .ok (.iload_n 1, 1) := by decide +kernel
theorem dX12_asks_7 : decode cX12_asks 7 = .ok (.iadd, 1) := by decide +kernel
theorem dX12_asks_8 : decode cX12_asks 8 = .ok (.istore 5, 2) := by decide +kernel
theorem dX12_asks_10 : decode cX12_asks 10 = .ok (.iload_n 2, 1) := by decide +kernel
theorem dX12_asks_11 : decode cX12_asks 11 = .ok (.istore 6, 2) := by decide +kernel
theorem dX12_asks_13 : decode cX12_asks 13 = .ok (.aload_n 0, 1) := by decide +kernel
theorem dX12_asks_14 : decode cX12_asks 14 = .ok (.getfield 76, 3) := by decide +kernel
theorem dX12_asks_17 : decode cX12_asks 17 = .ok (.iload 5, 2) := by decide +kernel
theorem dX12_asks_19 : decode cX12_asks 19 = .ok (.iaload, 1) := by decide +kernel
theorem dX12_asks_20 : decode cX12_asks 20 = .ok (.aload_n 0, 1) := by decide +kernel
theorem dX12_asks_21 : decode cX12_asks 21 = .ok (.getfield 79, 3) := by decide +kernel
theorem dX12_asks_24 : decode cX12_asks 24 = .ok (.iload 5, 2) := by decide +kernel
theorem dX12_asks_26 : decode cX12_asks 26 = .ok (.iaload, 1) := by decide +kernel
theorem dX12_asks_27 : decode cX12_asks 27 = .ok (.if_icmp .ge 11, 3) := by decide +kernel
theorem dX12_asks_30 : decode cX12_asks 30 = .ok (.aload_n 0, 1) := by decide +kernel
theorem dX12_asks_31 : decode cX12_asks 31 = .ok (.iload 5, 2) := by decide +kernel
theorem dX12_asks_33 : decode cX12_asks 33 = .ok (.invokevirtual 325, 3) := by decide +kernel
theorem dX12_asks_36 : decode cX12_asks 36 = .ok (.istore 6, 2) := by decide +kernel
theorem dX12_asks_38 : decode cX12_asks 38 = .ok (.iload 6, 2) := by decide +kernel
theorem dX12_asks_40 : decode cX12_asks 40 = .ok (.iload_n 3, 1) := by decide +kernel
theorem dX12_asks_41 : decode cX12_asks 41 = .ok (.if_icmp .ge 7, 3) := by decide +kernel
theorem dX12_asks_44 : decode cX12_asks 44 = .ok (.iload_n 3, 1) := by decide +kernel
theorem dX12_asks_45 : decode cX12_asks 45 = .ok (.goto 17, 3) := by decide +kernel
theorem dX12_asks_48 : decode cX12_asks 48 = .ok (.iload 6, 2) := by decide +kernel
theorem dX12_asks_50 : decode cX12_asks 50 = .ok (.iload 4, 2) := by decide +kernel
theorem dX12_asks_52 : decode cX12_asks 52 = .ok (.if_icmp .le 8, 3) := by decide +kernel
theorem dX12_asks_55 : decode cX12_asks 55 = .ok (.iload 4, 2) := by decide +kernel
theorem dX12_asks_57 : decode cX12_asks 57 = .ok (.goto 5, 3) := by decide +kernel
theorem dX12_asks_60 : decode cX12_asks 60 = .ok (.iload 6, 2) := by decide +kernel
theorem dX12_asks_62 : decode cX12_asks 62 = .ok (.ireturn, 1) := by decide +kernel
theorem dX12_lawTells_0 : decode cX12_lawTells 0 = .ok (.aload_n 0, 1) := by decide +kernel
theorem dX12_lawTells_1 : decode cX12_lawTells 1 = .ok (.iconst 0, 1) := by decide +kernel
theorem dX12_lawTells_2 : decode cX12_lawTells 2 = .ok (.putfield 310, 3) := by decide +kernel
theorem dX12_lawTells_5 : decode cX12_lawTells 5 = .ok (.aload_n 0, 1) := by decide +kernel
theorem dX12_lawTells_6 : decode cX12_lawTells 6 = .ok (.getfield 76, 3) := by decide +kernel
theorem dX12_lawTells_9 : decode cX12_lawTells 9 = .ok (.iload_n 1, 1) := by decide +kernel
theorem dX12_lawTells_10 : decode cX12_lawTells 10 = .ok (.iaload, 1) := by decide +kernel
theorem dX12_lawTells_11 : decode cX12_lawTells 11 = .ok (.istore_n 2, 1) := by decide +kernel
theorem dX12_lawTells_12 : decode cX12_lawTells 12 = .ok (.iload_n 2, 1) := by decide +kernel
theorem dX12_lawTells_13 : decode cX12_lawTells 13 = .ok (.aload_n 0, 1) := by decide +kernel
theorem dX12_lawTells_14 : decode cX12_lawTells 14 = .ok (.getfield 79, 3) := by decide +kernel
theorem dX12_lawTells_17 : decode cX12_lawTells 17 = .ok (.iload_n 1, 1) := by decide +kernel
theorem dX12_lawTells_18 : decode cX12_lawTells 18 = .ok (.iaload, 1) := by decide +kernel
theorem dX12_lawTells_19 : decode cX12_lawTells 19 = .ok (.if_icmp .ge 101, 3) := by decide +kernel
theorem dX12_lawTells_22 : decode cX12_lawTells 22 = .ok (.aload_n 0, 1) := by decide +kernel
theorem dX12_lawTells_23 : decode cX12_lawTells 23 = .ok (.getfield 82, 3) := by decide +kernel
theorem dX12_lawTells_26 : decode cX12_lawTells 26 = .ok (.iload_n 2, 1) := by decide +kernel
theorem dX12_lawTells_27 : decode cX12_lawTells 27 = .ok (.baload, 1) := by decide +kernel
theorem dX12_lawTells_28 : decode cX12_lawTells 28 = .ok (.ifCond .eq 56, 3) := by decide +kernel
theorem dX12_lawTells_31 : decode cX12_lawTells 31 = .ok (.aload_n 0, 1) := by decide +kernel
theorem dX12_lawTells_32 : decode cX12_lawTells 32 = .ok (.aload_n 0, 1) := by decide +kernel
theorem dX12_lawTells_33 : decode cX12_lawTells 33 = .ok (.getfield 86, 3) := by decide +kernel
theorem dX12_lawTells_36 : decode cX12_lawTells 36 = .ok (.iload_n 2, 1) := by decide +kernel
theorem dX12_lawTells_37 : decode cX12_lawTells 37 = .ok (.iaload, 1) := by decide +kernel
theorem dX12_lawTells_38 : decode cX12_lawTells 38 = .ok (.aload_n 0, 1) := by decide +kernel
theorem dX12_lawTells_39 : decode cX12_lawTells 39 = .ok (.getfield 89, 3) := by decide +kernel
theorem dX12_lawTells_42 : decode cX12_lawTells 42 = .ok (.iload_n 2, 1) := by decide +kernel
theorem dX12_lawTells_43 : decode cX12_lawTells 43 = .ok (.iaload, 1) := by decide +kernel
theorem dX12_lawTells_44 : decode cX12_lawTells 44 = .ok (.invokevirtual 328, 3) := by decide +kernel
theorem dX12_lawTells_47 : decode cX12_lawTells 47 = .ok (.istore_n 3, 1) := by decide +kernel
theorem dX12_lawTells_48 : decode cX12_lawTells 48 = .ok (.aload_n 0, 1) := by decide +kernel
theorem dX12_lawTells_49 : decode cX12_lawTells 49 = .ok (.aload_n 0, 1) := by decide +kernel
theorem dX12_lawTells_50 : decode cX12_lawTells 50 = .ok (.getfield 89, 3) := by decide +kernel
theorem dX12_lawTells_53 : decode cX12_lawTells 53 = .ok (.iload_n 2, 1) := by decide +kernel
theorem dX12_lawTells_54 : decode cX12_lawTells 54 = .ok (.iaload, 1) := by decide +kernel
theorem dX12_lawTells_55 : decode cX12_lawTells 55 = .ok (.aload_n 0, 1) := by decide +kernel
theorem dX12_lawTells_56 : decode cX12_lawTells 56 = .ok (.getfield 92, 3) := by decide +kernel
theorem dX12_lawTells_59 : decode cX12_lawTells 59 = .ok (.iload_n 2, 1) := by decide +kernel
theorem dX12_lawTells_60 : decode cX12_lawTells 60 = .ok (.iaload, 1) := by decide +kernel
theorem dX12_lawTells_61 : decode cX12_lawTells 61 = .ok (.invokevirtual 328, 3) := by decide +kernel
theorem dX12_lawTells_64 : decode cX12_lawTells 64 = .ok (.istore 4, 2) := by decide +kernel
theorem dX12_lawTells_66 : decode cX12_lawTells 66 = .ok (.aload_n 0, 1) := by decide +kernel
theorem dX12_lawTells_67 : decode cX12_lawTells 67 = .ok (.getfield 310, 3) := by decide +kernel
theorem dX12_lawTells_70 : decode cX12_lawTells 70 = .ok (.ifCond .eq 5, 3) := by decide +kernel
theorem dX12_lawTells_73 : decode cX12_lawTells 73 = .ok (.iconst 0, 1) := by decide +kernel
theorem dX12_lawTells_74 : decode cX12_lawTells 74 = .ok (.ireturn, 1) := by decide +kernel
theorem dX12_lawTells_75 : decode cX12_lawTells 75 = .ok (.iload_n 3, 1) := by decide +kernel
theorem dX12_lawTells_76 : decode cX12_lawTells 76 = .ok (.iload 4, 2) := by decide +kernel
theorem dX12_lawTells_78 : decode cX12_lawTells 78 = .ok (.if_icmp .lt 6, 3) := by decide +kernel
theorem dX12_lawTells_81 : decode cX12_lawTells 81 = .ok (.goto 33, 3) := by decide +kernel
theorem dX12_lawTells_84 : decode cX12_lawTells 84 = .ok (.aload_n 0, 1) := by decide +kernel
theorem dX12_lawTells_85 : decode cX12_lawTells 85 = .ok (.aload_n 0, 1) := by decide +kernel
theorem dX12_lawTells_86 : decode cX12_lawTells 86 = .ok (.getfield 92, 3) := by decide +kernel
theorem dX12_lawTells_89 : decode cX12_lawTells 89 = .ok (.iload_n 2, 1) := by decide +kernel
theorem dX12_lawTells_90 : decode cX12_lawTells 90 = .ok (.iaload, 1) := by decide +kernel
theorem dX12_lawTells_91 : decode cX12_lawTells 91 = .ok (.aload_n 0, 1) := by decide +kernel
theorem dX12_lawTells_92 : decode cX12_lawTells 92 = .ok (.getfield 95, 3) := by decide +kernel
theorem dX12_lawTells_95 : decode cX12_lawTells 95 = .ok (.iload_n 2, 1) := by decide +kernel
theorem dX12_lawTells_96 : decode cX12_lawTells 96 = .ok (.iaload, 1) := by decide +kernel
theorem dX12_lawTells_97 : decode cX12_lawTells 97 = .ok (.invokevirtual 328, 3) := by decide +kernel
theorem dX12_lawTells_100 : decode cX12_lawTells 100 = .ok (.istore_n 3, 1) := by decide +kernel
theorem dX12_lawTells_101 : decode cX12_lawTells 101 = .ok (.aload_n 0, 1) := by decide +kernel
theorem dX12_lawTells_102 : decode cX12_lawTells 102 = .ok (.getfield 310, 3) := by decide +kernel
theorem dX12_lawTells_105 : decode cX12_lawTells 105 = .ok (.ifCond .eq 7, 3) := by decide +kernel
theorem dX12_lawTells_108 : decode cX12_lawTells 108 = .ok (.iconst 0, 1) := by decide +kernel
theorem dX12_lawTells_109 : decode cX12_lawTells 109 = .ok (.goto 4, 3) := by decide +kernel
theorem dX12_lawTells_112 : decode cX12_lawTells 112 = .ok (.iload_n 3, 1) := by decide +kernel
theorem dX12_lawTells_113 : decode cX12_lawTells 113 = .ok (.ireturn, 1) := by decide +kernel
theorem dX12_lawTells_114 : decode cX12_lawTells 114 = .ok (.iinc 2 1, 3) := by decide +kernel
theorem dX12_lawTells_117 : decode cX12_lawTells 117 = .ok (.goto (-105), 3) := by decide +kernel
theorem dX12_lawTells_120 : decode cX12_lawTells 120 = .ok (.iconst 0, 1) := by decide +kernel
theorem dX12_lawTells_121 : decode cX12_lawTells 121 = .ok (.ireturn, 1) := by decide +kernel
theorem dX12_goodOf_0 : decode cX12_goodOf 0 = .ok (.aload_n 0, 1) := by decide +kernel
theorem dX12_goodOf_1 : decode cX12_goodOf 1 = .ok (.iload_n 1, 1) := by decide +kernel
theorem dX12_goodOf_2 : decode cX12_goodOf 2 = .ok (.iload_n 2, 1) := by decide +kernel
theorem dX12_goodOf_3 : decode cX12_goodOf 3 = .ok (.iload_n 3, 1) := by decide +kernel
theorem dX12_goodOf_4 : decode cX12_goodOf 4 = .ok (.invokevirtual 331, 3) := by decide +kernel
theorem dX12_goodOf_7 : decode cX12_goodOf 7 = .ok (.aload_n 0, 1) := by decide +kernel
theorem dX12_goodOf_8 : decode cX12_goodOf 8 = .ok (.iconst 0, 1) := by decide +kernel
theorem dX12_goodOf_9 : decode cX12_goodOf 9 = .ok (.aload_n 0, 1) := by decide +kernel
theorem dX12_goodOf_10 : decode cX12_goodOf 10 = .ok (.getfield 52, 3) := by decide +kernel
theorem dX12_goodOf_13 : decode cX12_goodOf 13 = .ok (.bipush 7, 2) := by decide +kernel
theorem dX12_goodOf_15 : decode cX12_goodOf 15 = .ok (.aload_n 0, 1) := by decide +kernel
theorem dX12_goodOf_16 : decode cX12_goodOf 16 = .ok (.getfield 230, 3) := by decide +kernel
theorem dX12_goodOf_19 : decode cX12_goodOf 19 = .ok (.imul, 1) := by decide +kernel
theorem dX12_goodOf_20 : decode cX12_goodOf 20 = .ok (.iload_n 1, 1) := by decide +kernel
theorem dX12_goodOf_21 : decode cX12_goodOf 21 = .ok (.iadd, 1) := by decide +kernel
theorem dX12_goodOf_22 : decode cX12_goodOf 22 = .ok (.iaload, 1) := by decide +kernel
theorem dX12_goodOf_23 : decode cX12_goodOf 23 = .ok (.iconst 0, 1) := by decide +kernel
theorem dX12_goodOf_24 : decode cX12_goodOf 24 = .ok (.bipush 99, 2) := by decide +kernel
theorem dX12_goodOf_26 : decode cX12_goodOf 26 = .ok (.invokevirtual 335, 3) := by decide +kernel
theorem dX12_goodOf_29 : decode cX12_goodOf 29 = .ok (.ireturn, 1) := by decide +kernel
theorem dX12_goodNow_0 : decode cX12_goodNow 0 = .ok (.aload_n 0, 1) := by decide +kernel
theorem dX12_goodNow_1 : decode cX12_goodNow 1 = .ok (.getfield 116, 3) := by decide +kernel
theorem dX12_goodNow_4 : decode cX12_goodNow 4 = .ok (.bipush 49, 2) := by decide +kernel
theorem dX12_goodNow_6 : decode cX12_goodNow 6 = .ok (.iload_n 1, 1) := by decide +kernel
theorem dX12_goodNow_7 : decode cX12_goodNow 7 = .ok (.iadd, 1) := by decide +kernel
theorem dX12_goodNow_8 : decode cX12_goodNow 8 = .ok (.iaload, 1) := by decide +kernel
theorem dX12_goodNow_9 : decode cX12_goodNow 9 = .ok (.ifCond .lt 15, 3) := by decide +kernel
theorem dX12_goodNow_12 : decode cX12_goodNow 12 = .ok (.aload_n 0, 1) := by decide +kernel
theorem dX12_goodNow_13 : decode cX12_goodNow 13 = .ok (.getfield 116, 3) := by decide +kernel
theorem dX12_goodNow_16 : decode cX12_goodNow 16 = .ok (.bipush 56, 2) := by decide +kernel
theorem dX12_goodNow_18 : decode cX12_goodNow 18 = .ok (.iload_n 1, 1) := by decide +kernel
theorem dX12_goodNow_19 : decode cX12_goodNow 19 = .ok (.iadd, 1) := by decide +kernel
theorem dX12_goodNow_20 : decode cX12_goodNow 20 = .ok (.iaload, 1) := by decide +kernel
theorem dX12_goodNow_21 : decode cX12_goodNow 21 = .ok (.goto 18, 3) := by decide +kernel
theorem dX12_goodNow_24 : decode cX12_goodNow 24 = .ok (.aload_n 0, 1) := by decide +kernel
theorem dX12_goodNow_25 : decode cX12_goodNow 25 = .ok (.iload_n 1, 1) := by decide +kernel
theorem dX12_goodNow_26 : decode cX12_goodNow 26 = .ok (.aload_n 0, 1) := by decide +kernel
theorem dX12_goodNow_27 : decode cX12_goodNow 27 = .ok (.getfield 116, 3) := by decide +kernel
theorem dX12_goodNow_30 : decode cX12_goodNow 30 = .ok (.bipush 28, 2) := by decide +kernel
theorem dX12_goodNow_32 : decode cX12_goodNow 32 = .ok (.iload_n 1, 1) := by decide +kernel
theorem dX12_goodNow_33 : decode cX12_goodNow 33 = .ok (.iadd, 1) := by decide +kernel
theorem dX12_goodNow_34 : decode cX12_goodNow 34 = .ok (.iaload, 1) := by decide +kernel
theorem dX12_goodNow_35 : decode cX12_goodNow 35 = .ok (.iload_n 2, 1) := by decide +kernel
theorem dX12_goodNow_36 : decode cX12_goodNow 36 = .ok (.invokevirtual 339, 3) := by decide +kernel
theorem dX12_goodNow_39 : decode cX12_goodNow 39 = .ok (.ireturn, 1) := by decide +kernel
theorem dX12_markBy_0 : decode cX12_markBy 0 = .ok (.iload_n 3, 1) := by decide +kernel
theorem dX12_markBy_1 : decode cX12_markBy 1 = .ok (.iconst 1, 1) := by decide +kernel
theorem dX12_markBy_2 : decode cX12_markBy 2 = .ok (.if_icmp .ne 5, 3) := by decide +kernel
theorem dX12_markBy_5 : decode cX12_markBy 5 = .ok (.iconst 4, 1) := by decide +kernel
theorem dX12_markBy_6 : decode cX12_markBy 6 = .ok (.ireturn, 1) := by decide +kernel
theorem dX12_markBy_7 : decode cX12_markBy 7 = .ok (.aload_n 0, 1) := by decide +kernel
theorem dX12_markBy_8 : decode cX12_markBy 8 = .ok (.iload_n 2, 1) := by decide +kernel
theorem dX12_markBy_9 : decode cX12_markBy 9 = .ok (.iload_n 3, 1) := by decide +kernel
theorem dX12_markBy_10 : decode cX12_markBy 10 = .ok (.iload 4, 2) := by decide +kernel
theorem dX12_markBy_12 : decode cX12_markBy 12 = .ok (.invokevirtual 331, 3) := by decide +kernel
theorem dX12_markBy_15 : decode cX12_markBy 15 = .ok (.aload_n 0, 1) := by decide +kernel
theorem dX12_markBy_16 : decode cX12_markBy 16 = .ok (.getfield 107, 3) := by decide +kernel
theorem dX12_markBy_19 : decode cX12_markBy 19 = .ok (.iconst 5, 1) := by decide +kernel
theorem dX12_markBy_20 : decode cX12_markBy 20 = .ok (.iload 5, 2) := by decide +kernel
theorem dX12_markBy_22 : decode cX12_markBy 22 = .ok (.iastore, 1) := by decide +kernel
theorem dX12_markBy_23 : decode cX12_markBy 23 = .ok (.aload_n 0, 1) := by decide +kernel
theorem dX12_markBy_24 : decode cX12_markBy 24 = .ok (.getfield 107, 3) := by decide +kernel
theorem dX12_markBy_27 : decode cX12_markBy 27 = .ok (.bipush 6, 2) := by decide +kernel
theorem dX12_markBy_29 : decode cX12_markBy 29 = .ok (.aload_n 0, 1) := by decide +kernel
theorem dX12_markBy_30 : decode cX12_markBy 30 = .ok (.getfield 70, 3) := by decide +kernel
theorem dX12_markBy_33 : decode cX12_markBy 33 = .ok (.bipush 8, 2) := by decide +kernel
theorem dX12_markBy_35 : decode cX12_markBy 35 = .ok (.aload_n 0, 1) := by decide +kernel
theorem dX12_markBy_36 : decode cX12_markBy 36 = .ok (.getfield 230, 3) := by decide +kernel
theorem dX12_markBy_39 : decode cX12_markBy 39 = .ok (.imul, 1) := by decide +kernel
theorem dX12_markBy_40 : decode cX12_markBy 40 = .ok (.iload_n 1, 1) := by decide +kernel
theorem dX12_markBy_41 : decode cX12_markBy 41 = .ok (.iadd, 1) := by decide +kernel
theorem dX12_markBy_42 : decode cX12_markBy 42 = .ok (.iaload, 1) := by decide +kernel
theorem dX12_markBy_43 : decode cX12_markBy 43 = .ok (.aload_n 0, 1) := by decide +kernel
theorem dX12_markBy_44 : decode cX12_markBy 44 = .ok (.iload_n 2, 1) := by decide +kernel
theorem dX12_markBy_45 : decode cX12_markBy 45 = .ok (.invokevirtual 342, 3) := by decide +kernel
theorem dX12_markBy_48 : decode cX12_markBy 48 = .ok (.if_icmp .ne 7, 3) := by decide +kernel
theorem dX12_markBy_51 : decode cX12_markBy 51 = .ok (.iconst 1, 1) := by decide +kernel
theorem dX12_markBy_52 : decode cX12_markBy 52 = .ok (.goto 4, 3) := by decide +kernel
theorem dX12_markBy_55 : decode cX12_markBy 55 = .ok (.iconst 0, 1) := by decide +kernel
theorem dX12_markBy_56 : decode cX12_markBy 56 = .ok (.iastore, 1) := by decide +kernel
theorem dX12_markBy_57 : decode cX12_markBy 57 = .ok (.aload_n 0, 1) := by decide +kernel
theorem dX12_markBy_58 : decode cX12_markBy 58 = .ok (.getfield 107, 3) := by decide +kernel
theorem dX12_markBy_61 : decode cX12_markBy 61 = .ok (.bipush 7, 2) := by decide +kernel
theorem dX12_markBy_63 : decode cX12_markBy 63 = .ok (.iload_n 1, 1) := by decide +kernel
theorem dX12_markBy_64 : decode cX12_markBy 64 = .ok (.iastore, 1) := by decide +kernel
theorem dX12_markBy_65 : decode cX12_markBy 65 = .ok (.aload_n 0, 1) := by decide +kernel
theorem dX12_markBy_66 : decode cX12_markBy 66 = .ok (.iconst 1, 1) := by decide +kernel
theorem dX12_markBy_67 : decode cX12_markBy 67 = .ok (.iload 5, 2) := by decide +kernel
theorem dX12_markBy_69 : decode cX12_markBy 69 = .ok (.iconst 1, 1) := by decide +kernel
theorem dX12_markBy_70 : decode cX12_markBy 70 = .ok (.bipush 9, 2) := by decide +kernel
theorem dX12_markBy_72 : decode cX12_markBy 72 = .ok (.invokevirtual 335, 3) := by decide +kernel
theorem dX12_markBy_75 : decode cX12_markBy 75 = .ok (.istore 6, 2) := by decide +kernel
theorem dX12_markBy_77 : decode cX12_markBy 77 = .ok (.iload_n 3, 1) := by decide +kernel
theorem dX12_markBy_78 : decode cX12_markBy 78 = .ok (.iconst 2, 1) := by decide +kernel
theorem dX12_markBy_79 : decode cX12_markBy 79 = .ok (.if_icmp .ne 28, 3) := by decide +kernel
theorem dX12_markBy_82 : decode cX12_markBy 82 = .ok (.iload 6, 2) := by decide +kernel
theorem dX12_markBy_84 : decode cX12_markBy 84 = .ok (.iconst 2, 1) := by decide +kernel
theorem dX12_markBy_85 : decode cX12_markBy 85 = .ok (.irem, 1) := by decide +kernel
theorem dX12_markBy_86 : decode cX12_markBy 86 = .ok (.iconst 1, 1) := by decide +kernel
theorem dX12_markBy_87 : decode cX12_markBy 87 = .ok (.if_icmp .ne 20, 3) := by decide +kernel
theorem dX12_markBy_90 : decode cX12_markBy 90 = .ok (.iload 6, 2) := by decide +kernel
theorem dX12_markBy_92 : decode cX12_markBy 92 = .ok (.iconst 1, 1) := by decide +kernel
theorem dX12_markBy_93 : decode cX12_markBy 93 = .ok (.if_icmp .ne 7, 3) := by decide +kernel
theorem dX12_markBy_96 : decode cX12_markBy 96 = .ok (.iconst 2, 1) := by decide +kernel
theorem dX12_markBy_97 : decode cX12_markBy 97 = .ok (.goto 12, 3) := by decide +kernel
theorem dX12_markBy_100 : decode cX12_markBy 100 = .ok (.iload 6, 2) := by decide +kernel
theorem dX12_markBy_102 : decode cX12_markBy 102 = .ok (.iconst 1, 1) := by decide +kernel
theorem dX12_markBy_103 : decode cX12_markBy 103 = .ok (.isub, 1) := by decide +kernel
theorem dX12_markBy_104 : decode cX12_markBy 104 = .ok (.goto 5, 3) := by decide +kernel
theorem dX12_markBy_107 : decode cX12_markBy 107 = .ok (.iload 6, 2) := by decide +kernel
theorem dX12_markBy_109 : decode cX12_markBy 109 = .ok (.ireturn, 1) := by decide +kernel
theorem dX12_sumBy_0 : decode cX12_sumBy 0 = .ok (.iconst 0, 1) := by decide +kernel
theorem dX12_sumBy_1 : decode cX12_sumBy 1 = .ok (.istore 6, 2) := by decide +kernel
theorem dX12_sumBy_3 : decode cX12_sumBy 3 = .ok (.iconst 0, 1) := by decide +kernel
theorem dX12_sumBy_4 : decode cX12_sumBy 4 = .ok (.istore 7, 2) := by decide +kernel
theorem dX12_sumBy_6 : decode cX12_sumBy 6 = .ok (.iload 7, 2) := by decide +kernel
theorem dX12_sumBy_8 : decode cX12_sumBy 8 = .ok (.aload_n 0, 1) := by decide +kernel
theorem dX12_sumBy_9 : decode cX12_sumBy 9 = .ok (.getfield 67, 3) := by decide +kernel
theorem dX12_sumBy_12 : decode cX12_sumBy 12 = .ok (.aload_n 0, 1) := by decide +kernel
theorem dX12_sumBy_13 : decode cX12_sumBy 13 = .ok (.getfield 230, 3) := by decide +kernel
theorem dX12_sumBy_16 : decode cX12_sumBy 16 = .ok (.iaload, 1) := by decide +kernel
theorem dX12_sumBy_17 : decode cX12_sumBy 17 = .ok (.if_icmp .ge 36, 3) := by decide +kernel
theorem dX12_sumBy_20 : decode cX12_sumBy 20 = .ok (.iload 5, 2) := by decide +kernel
theorem dX12_sumBy_22 : decode cX12_sumBy 22 = .ok (.iload 7, 2) := by decide +kernel
theorem dX12_sumBy_24 : decode cX12_sumBy 24 = .ok (.ishr, 1) := by decide +kernel
theorem dX12_sumBy_25 : decode cX12_sumBy 25 = .ok (.iconst 1, 1) := by decide +kernel
theorem dX12_sumBy_26 : decode cX12_sumBy 26 = .ok (.iand, 1) := by decide +kernel
theorem dX12_sumBy_27 : decode cX12_sumBy 27 = .ok (.iconst 1, 1) := by decide +kernel
theorem dX12_sumBy_28 : decode cX12_sumBy 28 = .ok (.if_icmp .ne 19, 3) := by decide +kernel
theorem dX12_sumBy_31 : decode cX12_sumBy 31 = .ok (.iload 6, 2) := by decide +kernel
theorem dX12_sumBy_33 : decode cX12_sumBy 33 = .ok (.aload_n 0, 1) := by decide +kernel
theorem dX12_sumBy_34 : decode cX12_sumBy 34 = .ok (.iload 7, 2) := by decide +kernel
theorem dX12_sumBy_36 : decode cX12_sumBy 36 = .ok (.iload_n 1, 1) := by decide +kernel
theorem dX12_sumBy_37 : decode cX12_sumBy 37 = .ok (.iload_n 2, 1) := by decide +kernel
theorem dX12_sumBy_38 : decode cX12_sumBy 38 = .ok (.iload_n 3, 1) := by decide +kernel
theorem dX12_sumBy_39 : decode cX12_sumBy 39 = .ok (.iload 4, 2) := by decide +kernel
theorem dX12_sumBy_41 : decode cX12_sumBy 41 = .ok (.invokevirtual 345, 3) := by decide +kernel
theorem dX12_sumBy_44 : decode cX12_sumBy 44 = .ok (.iadd, 1) := by decide +kernel
theorem dX12_sumBy_45 : decode cX12_sumBy 45 = .ok (.istore 6, 2) := by decide +kernel
theorem dX12_sumBy_47 : decode cX12_sumBy 47 = .ok (.iinc 7 1, 3) := by decide +kernel
theorem dX12_sumBy_50 : decode cX12_sumBy 50 = .ok (.goto (-44), 3) := by decide +kernel
theorem dX12_sumBy_53 : decode cX12_sumBy 53 = .ok (.iload 6, 2) := by decide +kernel
theorem dX12_sumBy_55 : decode cX12_sumBy 55 = .ok (.ireturn, 1) := by decide +kernel
theorem dX12_sumNow_0 : decode cX12_sumNow 0 = .ok (.aload_n 0, 1) := by decide +kernel
theorem dX12_sumNow_1 : decode cX12_sumNow 1 = .ok (.iload_n 1, 1) := by decide +kernel
theorem dX12_sumNow_2 : decode cX12_sumNow 2 = .ok (.aload_n 0, 1) := by decide +kernel
theorem dX12_sumNow_3 : decode cX12_sumNow 3 = .ok (.getfield 116, 3) := by decide +kernel
theorem dX12_sumNow_6 : decode cX12_sumNow 6 = .ok (.bipush 28, 2) := by decide +kernel
theorem dX12_sumNow_8 : decode cX12_sumNow 8 = .ok (.iload_n 1, 1) := by decide +kernel
theorem dX12_sumNow_9 : decode cX12_sumNow 9 = .ok (.iadd, 1) := by decide +kernel
theorem dX12_sumNow_10 : decode cX12_sumNow 10 = .ok (.iaload, 1) := by decide +kernel
theorem dX12_sumNow_11 : decode cX12_sumNow 11 = .ok (.iload_n 2, 1) := by decide +kernel
theorem dX12_sumNow_12 : decode cX12_sumNow 12 = .ok (.aload_n 0, 1) := by decide +kernel
theorem dX12_sumNow_13 : decode cX12_sumNow 13 = .ok (.iload_n 1, 1) := by decide +kernel
theorem dX12_sumNow_14 : decode cX12_sumNow 14 = .ok (.iload_n 2, 1) := by decide +kernel
theorem dX12_sumNow_15 : decode cX12_sumNow 15 = .ok (.invokevirtual 349, 3) := by decide +kernel
theorem dX12_sumNow_18 : decode cX12_sumNow 18 = .ok (.sipush 255, 3) := by decide +kernel
theorem dX12_sumNow_21 : decode cX12_sumNow 21 = .ok (.invokevirtual 352, 3) := by decide +kernel
theorem dX12_sumNow_24 : decode cX12_sumNow 24 = .ok (.ireturn, 1) := by decide +kernel
theorem dX12_speakers_0 : decode cX12_speakers 0 = .ok (.iconst 0, 1) := by decide +kernel
theorem dX12_speakers_1 : decode cX12_speakers 1 = .ok (.istore_n 2, 1) := by decide +kernel
theorem dX12_speakers_2 : decode cX12_speakers 2 = .ok (.iconst 0, 1) := by decide +kernel
theorem dX12_speakers_3 : decode cX12_speakers 3 = .ok (.istore_n 3, 1) := by decide +kernel
theorem dX12_speakers_4 : decode cX12_speakers 4 = .ok (.iload_n 3, 1) := by decide +kernel
theorem dX12_speakers_5 : decode cX12_speakers 5 = .ok (.aload_n 0, 1) := by decide +kernel
theorem dX12_speakers_6 : decode cX12_speakers 6 = .ok (.getfield 46, 3) := by decide +kernel
theorem dX12_speakers_9 : decode cX12_speakers 9 = .ok (.aload_n 0, 1) := by decide +kernel
theorem dX12_speakers_10 : decode cX12_speakers 10 = .ok (.getfield 230, 3) := by decide +kernel
theorem dX12_speakers_13 : decode cX12_speakers 13 = .ok (.iaload, 1) := by decide +kernel
theorem dX12_speakers_14 : decode cX12_speakers 14 = .ok (.if_icmp .ge 28, 3) := by decide +kernel
theorem dX12_speakers_17 : decode cX12_speakers 17 = .ok (.aload_n 0, 1) := by decide +kernel
theorem dX12_speakers_18 : decode cX12_speakers 18 = .ok (.getfield 116, 3) := by decide +kernel
theorem dX12_speakers_21 : decode cX12_speakers 21 = .ok (.bipush 21, 2) := by decide +kernel
theorem dX12_speakers_23 : decode cX12_speakers 23 = .ok (.iload_n 3, 1) := by decide +kernel
theorem dX12_speakers_24 : decode cX12_speakers 24 = .ok (.iadd, 1) := by decide +kernel
theorem dX12_speakers_25 : decode cX12_speakers 25 = .ok (.iaload, 1) := by decide +kernel
theorem dX12_speakers_26 : decode cX12_speakers 26 = .ok (.iload_n 1, 1) := by decide +kernel
theorem dX12_speakers_27 : decode cX12_speakers 27 = .ok (.if_icmp .ne 9, 3) := by decide +kernel
theorem dX12_speakers_30 : decode cX12_speakers 30 = .ok (.iload_n 2, 1) := by decide +kernel
theorem dX12_speakers_31 : decode cX12_speakers 31 = .ok (.iconst 1, 1) := by decide +kernel
theorem dX12_speakers_32 : decode cX12_speakers 32 = .ok (.iload_n 3, 1) := by decide +kernel
theorem dX12_speakers_33 : decode cX12_speakers 33 = .ok (.ishl, 1) := by decide +kernel
theorem dX12_speakers_34 : decode cX12_speakers 34 = .ok (.ior, 1) := by decide +kernel
theorem dX12_speakers_35 : decode cX12_speakers 35 = .ok (.istore_n 2, 1) := by decide +kernel
theorem dX12_speakers_36 : decode cX12_speakers 36 = .ok (.iinc 3 1, 3) := by decide +kernel
theorem dX12_speakers_39 : decode cX12_speakers 39 = .ok (.goto (-35), 3) := by decide +kernel
theorem dX12_speakers_42 : decode cX12_speakers 42 = .ok (.iload_n 2, 1) := by decide +kernel
theorem dX12_speakers_43 : decode cX12_speakers 43 = .ok (.ireturn, 1) := by decide +kernel
theorem dX12_fillsSums_0 : decode cX12_fillsSums 0 = .ok (.iconst 0, 1) := by decide +kernel
theorem dX12_fillsSums_1 : decode cX12_fillsSums 1 = .ok (.istore 4, 2) := by decide +kernel
theorem dX12_fillsSums_3 : decode cX12_fillsSums 3 = .ok (.iload 4, 2) := by decide +kernel
theorem dX12_fillsSums_5 : decode cX12_fillsSums 5 = .ok (.iconst 3, 1) := by decide +kernel
theorem dX12_fillsSums_6 : decode cX12_fillsSums 6 = .ok (.if_icmp .ge 25, 3) := by decide +kernel
theorem dX12_fillsSums_9 : decode cX12_fillsSums 9 = .ok (.aload_n 0, 1) := by decide +kernel
theorem dX12_fillsSums_10 : decode cX12_fillsSums 10 = .ok (.getfield 119, 3) := by decide +kernel
theorem dX12_fillsSums_13 : decode cX12_fillsSums 13 = .ok (.iload 4, 2) := by decide +kernel
theorem dX12_fillsSums_15 : decode cX12_fillsSums 15 = .ok (.iconst 0, 1) := by decide +kernel
theorem dX12_fillsSums_16 : decode cX12_fillsSums 16 = .ok (.iastore, 1) := by decide +kernel
theorem dX12_fillsSums_17 : decode cX12_fillsSums 17 = .ok (.aload_n 0, 1) := by decide +kernel
theorem dX12_fillsSums_18 : decode cX12_fillsSums 18 = .ok (.getfield 122, 3) := by decide +kernel
theorem dX12_fillsSums_21 : decode cX12_fillsSums 21 = .ok (.iload 4, 2) := by decide +kernel
theorem dX12_fillsSums_23 : decode cX12_fillsSums 23 = .ok (.iconst 0, 1) := by decide +kernel
theorem dX12_fillsSums_24 : decode cX12_fillsSums 24 = .ok (.iastore, 1) := by decide +kernel
theorem dX12_fillsSums_25 : decode cX12_fillsSums 25 = .ok (.iinc 4 1, 3) := by decide +kernel
theorem dX12_fillsSums_28 : decode cX12_fillsSums 28 = .ok (.goto (-25), 3) := by decide +kernel
theorem dX12_fillsSums_31 : decode cX12_fillsSums 31 = .ok (.iconst 0, 1) := by decide +kernel
theorem dX12_fillsSums_32 : decode cX12_fillsSums 32 = .ok (.istore 4, 2) := by decide +kernel
theorem dX12_fillsSums_34 : decode cX12_fillsSums 34 = .ok (.iload 4, 2) := by decide +kernel
theorem dX12_fillsSums_36 : decode cX12_fillsSums 36 = .ok (.aload_n 0, 1) := by decide +kernel
theorem dX12_fillsSums_37 : decode cX12_fillsSums 37 = .ok (.getfield 46, 3) := by decide +kernel
theorem dX12_fillsSums_40 : decode cX12_fillsSums 40 = .ok (.aload_n 0, 1) := by decide +kernel
theorem dX12_fillsSums_41 : decode cX12_fillsSums 41 = .ok (.getfield 230, 3) := by decide +kernel
theorem dX12_fillsSums_44 : decode cX12_fillsSums 44 = .ok (.iaload, 1) := by decide +kernel
theorem dX12_fillsSums_45 : decode cX12_fillsSums 45 = .ok (.if_icmp .ge 90, 3) := by decide +kernel
theorem dX12_fillsSums_48 : decode cX12_fillsSums 48 = .ok (.aload_n 0, 1) := by decide +kernel
theorem dX12_fillsSums_49 : decode cX12_fillsSums 49 = .ok (.getfield 116, 3) := by decide +kernel
theorem dX12_fillsSums_52 : decode cX12_fillsSums 52 = .ok (.bipush 21, 2) := by decide +kernel
theorem dX12_fillsSums_54 : decode cX12_fillsSums 54 = .ok (.iload 4, 2) := by decide +kernel
theorem dX12_fillsSums_56 : decode cX12_fillsSums 56 = .ok (.iadd, 1) := by decide +kernel
theorem dX12_fillsSums_57 : decode cX12_fillsSums 57 = .ok (.iaload, 1) := by decide +kernel
theorem dX12_fillsSums_58 : decode cX12_fillsSums 58 = .ok (.iload_n 1, 1) := by decide +kernel
theorem dX12_fillsSums_59 : decode cX12_fillsSums 59 = .ok (.if_icmp .eq 6, 3) := by decide +kernel
theorem dX12_fillsSums_62 : decode cX12_fillsSums 62 = .ok (.goto 67, 3) := by decide +kernel
theorem dX12_fillsSums_65 : decode cX12_fillsSums 65 = .ok (.iload_n 2, 1) := by decide +kernel
theorem dX12_fillsSums_66 : decode cX12_fillsSums 66 = .ok (.iload 4, 2) := by decide +kernel
theorem dX12_fillsSums_68 : decode cX12_fillsSums 68 = .ok (.ishr, 1) := by decide +kernel
theorem dX12_fillsSums_69 : decode cX12_fillsSums 69 = .ok (.iconst 1, 1) := by decide +kernel
theorem dX12_fillsSums_70 : decode cX12_fillsSums 70 = .ok (.iand, 1) := by decide +kernel
theorem dX12_fillsSums_71 : decode cX12_fillsSums 71 = .ok (.istore 5, 2) := by decide +kernel
theorem dX12_fillsSums_73 : decode cX12_fillsSums 73 = .ok (.aload_n 0, 1) := by decide +kernel
theorem dX12_fillsSums_74 : decode cX12_fillsSums 74 = .ok (.iload 4, 2) := by decide +kernel
theorem dX12_fillsSums_76 : decode cX12_fillsSums 76 = .ok (.invokevirtual 342, 3) := by decide +kernel
theorem dX12_fillsSums_79 : decode cX12_fillsSums 79 = .ok (.istore 6, 2) := by decide +kernel
theorem dX12_fillsSums_81 : decode cX12_fillsSums 81 = .ok (.aload_n 0, 1) := by decide +kernel
theorem dX12_fillsSums_82 : decode cX12_fillsSums 82 = .ok (.getfield 119, 3) := by decide +kernel
theorem dX12_fillsSums_85 : decode cX12_fillsSums 85 = .ok (.iload 6, 2) := by decide +kernel
theorem dX12_fillsSums_87 : decode cX12_fillsSums 87 = .ok (.dup2, 1) := by decide +kernel
theorem dX12_fillsSums_88 : decode cX12_fillsSums 88 = .ok (.iaload, 1) := by decide +kernel
theorem dX12_fillsSums_89 : decode cX12_fillsSums 89 = .ok (.aload_n 0, 1) := by decide +kernel
theorem dX12_fillsSums_90 : decode cX12_fillsSums 90 = .ok (.iload 4, 2) := by decide +kernel
theorem dX12_fillsSums_92 : decode cX12_fillsSums 92 = .ok (.aload_n 0, 1) := by decide +kernel
theorem dX12_fillsSums_93 : decode cX12_fillsSums 93 = .ok (.getfield 116, 3) := by decide +kernel
theorem dX12_fillsSums_96 : decode cX12_fillsSums 96 = .ok (.bipush 28, 2) := by decide +kernel
theorem dX12_fillsSums_98 : decode cX12_fillsSums 98 = .ok (.iload 4, 2) := by decide +kernel
theorem dX12_fillsSums_100 : decode cX12_fillsSums 100 = .ok (.iadd, 1) := by decide +kernel
theorem dX12_fillsSums_101 : decode cX12_fillsSums 101 = .ok (.iaload, 1) := by decide +kernel
theorem dX12_fillsSums_102 : decode cX12_fillsSums 102 = .ok (.iload 5, 2) := by decide +kernel
theorem dX12_fillsSums_104 : decode cX12_fillsSums 104 = .ok (.aload_n 0, 1) := by decide +kernel
theorem dX12_fillsSums_105 : decode cX12_fillsSums 105 = .ok (.iload 4, 2) := by decide +kernel
theorem dX12_fillsSums_107 : decode cX12_fillsSums 107 = .ok (.iload 5, 2) := by decide +kernel
theorem dX12_fillsSums_109 : decode cX12_fillsSums 109 = .ok (.invokevirtual 349, 3) := by decide +kernel
theorem dX12_fillsSums_112 : decode cX12_fillsSums 112 = .ok (.iload_n 3, 1) := by decide +kernel
theorem dX12_fillsSums_113 : decode cX12_fillsSums 113 = .ok (.invokevirtual 352, 3) := by decide +kernel
theorem dX12_fillsSums_116 : decode cX12_fillsSums 116 = .ok (.iadd, 1) := by decide +kernel
theorem dX12_fillsSums_117 : decode cX12_fillsSums 117 = .ok (.iastore, 1) := by decide +kernel
theorem dX12_fillsSums_118 : decode cX12_fillsSums 118 = .ok (.aload_n 0, 1) := by decide +kernel
theorem dX12_fillsSums_119 : decode cX12_fillsSums 119 = .ok (.getfield 122, 3) := by decide +kernel
theorem dX12_fillsSums_122 : decode cX12_fillsSums 122 = .ok (.iload 6, 2) := by decide +kernel
theorem dX12_fillsSums_124 : decode cX12_fillsSums 124 = .ok (.dup2, 1) := by decide +kernel
theorem dX12_fillsSums_125 : decode cX12_fillsSums 125 = .ok (.iaload, 1) := by decide +kernel
theorem dX12_fillsSums_126 : decode cX12_fillsSums 126 = .ok (.iconst 1, 1) := by decide +kernel
theorem dX12_fillsSums_127 : decode cX12_fillsSums 127 = .ok (.iadd, 1) := by decide +kernel
theorem dX12_fillsSums_128 : decode cX12_fillsSums 128 = .ok (.iastore, 1) := by decide +kernel
theorem dX12_fillsSums_129 : decode cX12_fillsSums 129 = .ok (.iinc 4 1, 3) := by decide +kernel
theorem dX12_fillsSums_132 : decode cX12_fillsSums 132 = .ok (.goto (-98), 3) := by decide +kernel
theorem dX12_fillsSums_135 : decode cX12_fillsSums 135 = .ok (.return_, 1) := by decide +kernel
theorem dX12_meanOf_0 : decode cX12_meanOf 0 = .ok (.aload_n 0, 1) := by decide +kernel
theorem dX12_meanOf_1 : decode cX12_meanOf 1 = .ok (.getfield 119, 3) := by decide +kernel
theorem dX12_meanOf_4 : decode cX12_meanOf 4 = .ok (.iload_n 1, 1) := by decide +kernel
theorem dX12_meanOf_5 : decode cX12_meanOf 5 = .ok (.iaload, 1) := by decide +kernel
theorem dX12_meanOf_6 : decode cX12_meanOf 6 = .ok (.sipush 420, 3) := by decide +kernel
theorem dX12_meanOf_9 : decode cX12_meanOf 9 = .ok (.imul, 1) := by decide +kernel
theorem dX12_meanOf_10 : decode cX12_meanOf 10 = .ok (.aload_n 0, 1) := by decide +kernel
theorem dX12_meanOf_11 : decode cX12_meanOf 11 = .ok (.getfield 122, 3) := by decide +kernel
theorem dX12_meanOf_14 : decode cX12_meanOf 14 = .ok (.iload_n 1, 1) := by decide +kernel
theorem dX12_meanOf_15 : decode cX12_meanOf 15 = .ok (.iaload, 1) := by decide +kernel
theorem dX12_meanOf_16 : decode cX12_meanOf 16 = .ok (.idiv, 1) := by decide +kernel
theorem dX12_meanOf_17 : decode cX12_meanOf 17 = .ok (.ireturn, 1) := by decide +kernel
theorem dX12_bestSide_0 : decode cX12_bestSide 0 = .ok (.bipush (-2), 2) := by decide +kernel
theorem dX12_bestSide_2 : decode cX12_bestSide 2 = .ok (.istore_n 1, 1) := by decide +kernel
theorem dX12_bestSide_3 : decode cX12_bestSide 3 = .ok (.iconst 0, 1) := by decide +kernel
theorem dX12_bestSide_4 : decode cX12_bestSide 4 = .ok (.istore_n 2, 1) := by decide +kernel
theorem dX12_bestSide_5 : decode cX12_bestSide 5 = .ok (.iload_n 2, 1) := by decide +kernel
theorem dX12_bestSide_6 : decode cX12_bestSide 6 = .ok (.iconst 3, 1) := by decide +kernel
theorem dX12_bestSide_7 : decode cX12_bestSide 7 = .ok (.if_icmp .ge 37, 3) := by decide +kernel
theorem dX12_bestSide_10 : decode cX12_bestSide 10 = .ok (.aload_n 0, 1) := by decide +kernel
theorem dX12_bestSide_11 : decode cX12_bestSide 11 = .ok (.getfield 122, 3) := by decide +kernel
theorem dX12_bestSide_14 : decode cX12_bestSide 14 = .ok (.iload_n 2, 1) := by decide +kernel
theorem dX12_bestSide_15 : decode cX12_bestSide 15 = .ok (.iaload, 1) := by decide +kernel
theorem dX12_bestSide_16 : decode cX12_bestSide 16 = .ok (.ifCond .le 22, 3) := by decide +kernel
theorem dX12_bestSide_19 : decode cX12_bestSide 19 = .ok (.iload_n 1, 1) := by decide +kernel
theorem dX12_bestSide_20 : decode cX12_bestSide 20 = .ok (.ifCond .lt 16, 3) := by decide +kernel
theorem dX12_bestSide_23 : decode cX12_bestSide 23 = .ok (.aload_n 0, 1) := by decide +kernel
theorem dX12_bestSide_24 : decode cX12_bestSide 24 = .ok (.iload_n 2, 1) := by decide +kernel
theorem dX12_bestSide_25 : decode cX12_bestSide 25 = .ok (.invokevirtual 355, 3) := by decide +kernel
theorem dX12_bestSide_28 : decode cX12_bestSide 28 = .ok (.aload_n 0, 1) := by decide +kernel
theorem dX12_bestSide_29 : decode cX12_bestSide 29 = .ok (.iload_n 1, 1) := by decide +kernel
theorem dX12_bestSide_30 : decode cX12_bestSide 30 = .ok (.invokevirtual 355, 3) := by decide +kernel
theorem dX12_bestSide_33 : decode cX12_bestSide 33 = .ok (.if_icmp .le 5, 3) := by decide +kernel
theorem dX12_bestSide_36 : decode cX12_bestSide 36 = .ok (.iload_n 2, 1) := by decide +kernel
theorem dX12_bestSide_37 : decode cX12_bestSide 37 = .ok (.istore_n 1, 1) := by decide +kernel
theorem dX12_bestSide_38 : decode cX12_bestSide 38 = .ok (.iinc 2 1, 3) := by decide +kernel
theorem dX12_bestSide_41 : decode cX12_bestSide 41 = .ok (.goto (-36), 3) := by decide +kernel
theorem dX12_bestSide_44 : decode cX12_bestSide 44 = .ok (.iload_n 1, 1) := by decide +kernel
theorem dX12_bestSide_45 : decode cX12_bestSide 45 = .ok (.ireturn, 1) := by decide +kernel
theorem dX12_fallsTo_0 : decode cX12_fallsTo 0 = .ok (.aload_n 0, 1) := by decide +kernel
theorem dX12_fallsTo_1 : decode cX12_fallsTo 1 = .ok (.getfield 67, 3) := by decide +kernel
theorem dX12_fallsTo_4 : decode cX12_fallsTo 4 = .ok (.aload_n 0, 1) := by decide +kernel
theorem dX12_fallsTo_5 : decode cX12_fallsTo 5 = .ok (.getfield 230, 3) := by decide +kernel
theorem dX12_fallsTo_8 : decode cX12_fallsTo 8 = .ok (.iaload, 1) := by decide +kernel
theorem dX12_fallsTo_9 : decode cX12_fallsTo 9 = .ok (.ifCond .ne 6, 3) := by decide +kernel
theorem dX12_fallsTo_12 : decode cX12_fallsTo 12 = .ok (.bipush (-2), 2) := by decide +kernel
theorem dX12_fallsTo_14 : decode cX12_fallsTo 14 = .ok (.ireturn, 1) := by decide +kernel
theorem dX12_fallsTo_15 : decode cX12_fallsTo 15 = .ok (.aload_n 0, 1) := by decide +kernel
theorem dX12_fallsTo_16 : decode cX12_fallsTo 16 = .ok (.iload_n 1, 1) := by decide +kernel
theorem dX12_fallsTo_17 : decode cX12_fallsTo 17 = .ok (.iload_n 2, 1) := by decide +kernel
theorem dX12_fallsTo_18 : decode cX12_fallsTo 18 = .ok (.sipush 255, 3) := by decide +kernel
theorem dX12_fallsTo_21 : decode cX12_fallsTo 21 = .ok (.invokevirtual 358, 3) := by decide +kernel
theorem dX12_fallsTo_24 : decode cX12_fallsTo 24 = .ok (.aload_n 0, 1) := by decide +kernel
theorem dX12_fallsTo_25 : decode cX12_fallsTo 25 = .ok (.invokevirtual 361, 3) := by decide +kernel
theorem dX12_fallsTo_28 : decode cX12_fallsTo 28 = .ok (.ireturn, 1) := by decide +kernel
theorem dX12_fineOf_0 : decode cX12_fineOf 0 = .ok (.aload_n 0, 1) := by decide +kernel
theorem dX12_fineOf_1 : decode cX12_fineOf 1 = .ok (.iload_n 1, 1) := by decide +kernel
theorem dX12_fineOf_2 : decode cX12_fineOf 2 = .ok (.iload_n 2, 1) := by decide +kernel
theorem dX12_fineOf_3 : decode cX12_fineOf 3 = .ok (.invokevirtual 364, 3) := by decide +kernel
theorem dX12_fineOf_6 : decode cX12_fineOf 6 = .ok (.aload_n 0, 1) := by decide +kernel
theorem dX12_fineOf_7 : decode cX12_fineOf 7 = .ok (.getfield 67, 3) := by decide +kernel
theorem dX12_fineOf_10 : decode cX12_fineOf 10 = .ok (.aload_n 0, 1) := by decide +kernel
theorem dX12_fineOf_11 : decode cX12_fineOf 11 = .ok (.getfield 230, 3) := by decide +kernel
theorem dX12_fineOf_14 : decode cX12_fineOf 14 = .ok (.iaload, 1) := by decide +kernel
theorem dX12_fineOf_15 : decode cX12_fineOf 15 = .ok (.idiv, 1) := by decide +kernel
theorem dX12_fineOf_16 : decode cX12_fineOf 16 = .ok (.istore_n 3, 1) := by decide +kernel
theorem dX12_fineOf_17 : decode cX12_fineOf 17 = .ok (.aload_n 0, 1) := by decide +kernel
theorem dX12_fineOf_18 : decode cX12_fineOf 18 = .ok (.iload_n 1, 1) := by decide +kernel
theorem dX12_fineOf_19 : decode cX12_fineOf 19 = .ok (.aload_n 0, 1) := by decide +kernel
theorem dX12_fineOf_20 : decode cX12_fineOf 20 = .ok (.getfield 116, 3) := by decide +kernel
theorem dX12_fineOf_23 : decode cX12_fineOf 23 = .ok (.bipush 28, 2) := by decide +kernel
theorem dX12_fineOf_25 : decode cX12_fineOf 25 = .ok (.iload_n 1, 1) := by decide +kernel
theorem dX12_fineOf_26 : decode cX12_fineOf 26 = .ok (.iadd, 1) := by decide +kernel
theorem dX12_fineOf_27 : decode cX12_fineOf 27 = .ok (.iaload, 1) := by decide +kernel
theorem dX12_fineOf_28 : decode cX12_fineOf 28 = .ok (.iload_n 2, 1) := by decide +kernel
theorem dX12_fineOf_29 : decode cX12_fineOf 29 = .ok (.invokevirtual 331, 3) := by decide +kernel
theorem dX12_fineOf_32 : decode cX12_fineOf 32 = .ok (.aload_n 0, 1) := by decide +kernel
theorem dX12_fineOf_33 : decode cX12_fineOf 33 = .ok (.getfield 107, 3) := by decide +kernel
theorem dX12_fineOf_36 : decode cX12_fineOf 36 = .ok (.iconst 3, 1) := by decide +kernel
theorem dX12_fineOf_37 : decode cX12_fineOf 37 = .ok (.iconst 0, 1) := by decide +kernel
theorem dX12_fineOf_38 : decode cX12_fineOf 38 = .ok (.iastore, 1) := by decide +kernel
theorem dX12_fineOf_39 : decode cX12_fineOf 39 = .ok (.aload_n 0, 1) := by decide +kernel
theorem dX12_fineOf_40 : decode cX12_fineOf 40 = .ok (.getfield 107, 3) := by decide +kernel
theorem dX12_fineOf_43 : decode cX12_fineOf 43 = .ok (.iconst 5, 1) := by decide +kernel
theorem dX12_fineOf_44 : decode cX12_fineOf 44 = .ok (.iload_n 3, 1) := by decide +kernel
theorem dX12_fineOf_45 : decode cX12_fineOf 45 = .ok (.iastore, 1) := by decide +kernel
theorem dX12_fineOf_46 : decode cX12_fineOf 46 = .ok (.aload_n 0, 1) := by decide +kernel
theorem dX12_fineOf_47 : decode cX12_fineOf 47 = .ok (.iconst 2, 1) := by decide +kernel
theorem dX12_fineOf_48 : decode cX12_fineOf 48 = .ok (.iconst 0, 1) := by decide +kernel
theorem dX12_fineOf_49 : decode cX12_fineOf 49 = .ok (.iconst 0, 1) := by decide +kernel
theorem dX12_fineOf_50 : decode cX12_fineOf 50 = .ok (.bipush 99, 2) := by decide +kernel
theorem dX12_fineOf_52 : decode cX12_fineOf 52 = .ok (.invokevirtual 335, 3) := by decide +kernel
theorem dX12_fineOf_55 : decode cX12_fineOf 55 = .ok (.istore 4, 2) := by decide +kernel
theorem dX12_fineOf_57 : decode cX12_fineOf 57 = .ok (.iload 4, 2) := by decide +kernel
theorem dX12_fineOf_59 : decode cX12_fineOf 59 = .ok (.aload_n 0, 1) := by decide +kernel
theorem dX12_fineOf_60 : decode cX12_fineOf 60 = .ok (.getfield 116, 3) := by decide +kernel
theorem dX12_fineOf_63 : decode cX12_fineOf 63 = .ok (.bipush 14, 2) := by decide +kernel
theorem dX12_fineOf_65 : decode cX12_fineOf 65 = .ok (.iload_n 1, 1) := by decide +kernel
theorem dX12_fineOf_66 : decode cX12_fineOf 66 = .ok (.iadd, 1) := by decide +kernel
theorem dX12_fineOf_67 : decode cX12_fineOf 67 = .ok (.iaload, 1) := by decide +kernel
theorem dX12_fineOf_68 : decode cX12_fineOf 68 = .ok (.if_icmp .ge 8, 3) := by decide +kernel
theorem dX12_fineOf_71 : decode cX12_fineOf 71 = .ok (.iload 4, 2) := by decide +kernel
theorem dX12_fineOf_73 : decode cX12_fineOf 73 = .ok (.goto 12, 3) := by decide +kernel
theorem dX12_fineOf_76 : decode cX12_fineOf 76 = .ok (.aload_n 0, 1) := by decide +kernel
theorem dX12_fineOf_77 : decode cX12_fineOf 77 = .ok (.getfield 116, 3) := by decide +kernel
theorem dX12_fineOf_80 : decode cX12_fineOf 80 = .ok (.bipush 14, 2) := by decide +kernel
theorem dX12_fineOf_82 : decode cX12_fineOf 82 = .ok (.iload_n 1, 1) := by decide +kernel
theorem dX12_fineOf_83 : decode cX12_fineOf 83 = .ok (.iadd, 1) := by decide +kernel
theorem dX12_fineOf_84 : decode cX12_fineOf 84 = .ok (.iaload, 1) := by decide +kernel
theorem dX12_fineOf_85 : decode cX12_fineOf 85 = .ok (.ireturn, 1) := by decide +kernel
theorem dX12_silences_0 : decode cX12_silences 0 = .ok (.aload_n 0, 1) := by decide +kernel
theorem dX12_silences_1 : decode cX12_silences 1 = .ok (.getfield 116, 3) := by decide +kernel
theorem dX12_silences_4 : decode cX12_silences 4 = .ok (.bipush 21, 2) := by decide +kernel
theorem dX12_silences_6 : decode cX12_silences 6 = .ok (.iload_n 1, 1) := by decide +kernel
theorem dX12_silences_7 : decode cX12_silences 7 = .ok (.iadd, 1) := by decide +kernel
theorem dX12_silences_8 : decode cX12_silences 8 = .ok (.bipush (-2), 2) := by decide +kernel
theorem dX12_silences_10 : decode cX12_silences 10 = .ok (.iastore, 1) := by decide +kernel
theorem dX12_silences_11 : decode cX12_silences 11 = .ok (.aload_n 0, 1) := by decide +kernel
theorem dX12_silences_12 : decode cX12_silences 12 = .ok (.getfield 116, 3) := by decide +kernel
theorem dX12_silences_15 : decode cX12_silences 15 = .ok (.bipush 28, 2) := by decide +kernel
theorem dX12_silences_17 : decode cX12_silences 17 = .ok (.iload_n 1, 1) := by decide +kernel
theorem dX12_silences_18 : decode cX12_silences 18 = .ok (.iadd, 1) := by decide +kernel
theorem dX12_silences_19 : decode cX12_silences 19 = .ok (.iconst 0, 1) := by decide +kernel
theorem dX12_silences_20 : decode cX12_silences 20 = .ok (.iastore, 1) := by decide +kernel
theorem dX12_silences_21 : decode cX12_silences 21 = .ok (.aload_n 0, 1) := by decide +kernel
theorem dX12_silences_22 : decode cX12_silences 22 = .ok (.getfield 116, 3) := by decide +kernel
theorem dX12_silences_25 : decode cX12_silences 25 = .ok (.bipush 49, 2) := by decide +kernel
theorem dX12_silences_27 : decode cX12_silences 27 = .ok (.iload_n 1, 1) := by decide +kernel
theorem dX12_silences_28 : decode cX12_silences 28 = .ok (.iadd, 1) := by decide +kernel
theorem dX12_silences_29 : decode cX12_silences 29 = .ok (.bipush (-2), 2) := by decide +kernel
theorem dX12_silences_31 : decode cX12_silences 31 = .ok (.iastore, 1) := by decide +kernel
theorem dX12_silences_32 : decode cX12_silences 32 = .ok (.aload_n 0, 1) := by decide +kernel
theorem dX12_silences_33 : decode cX12_silences 33 = .ok (.getfield 116, 3) := by decide +kernel
theorem dX12_silences_36 : decode cX12_silences 36 = .ok (.bipush 56, 2) := by decide +kernel
theorem dX12_silences_38 : decode cX12_silences 38 = .ok (.iload_n 1, 1) := by decide +kernel
theorem dX12_silences_39 : decode cX12_silences 39 = .ok (.iadd, 1) := by decide +kernel
theorem dX12_silences_40 : decode cX12_silences 40 = .ok (.iconst 0, 1) := by decide +kernel
theorem dX12_silences_41 : decode cX12_silences 41 = .ok (.iastore, 1) := by decide +kernel
theorem dX12_silences_42 : decode cX12_silences 42 = .ok (.return_, 1) := by decide +kernel
theorem dX12_sits_0 : decode cX12_sits 0 = .ok (.aload_n 0, 1) := by decide +kernel
theorem dX12_sits_1 : decode cX12_sits 1 = .ok (.iload_n 1, 1) := by decide +kernel
theorem dX12_sits_2 : decode cX12_sits 2 = .ok (.invokevirtual 367, 3) := by decide +kernel
theorem dX12_sits_5 : decode cX12_sits 5 = .ok (.istore_n 2, 1) := by decide +kernel
theorem dX12_sits_6 : decode cX12_sits 6 = .ok (.iconst 0, 1) := by decide +kernel
theorem dX12_sits_7 : decode cX12_sits 7 = .ok (.istore_n 3, 1) := by decide +kernel
theorem dX12_sits_8 : decode cX12_sits 8 = .ok (.iconst 0, 1) := by decide +kernel
theorem dX12_sits_9 : decode cX12_sits 9 = .ok (.istore 4, 2) := by decide +kernel
theorem dX12_sits_11 : decode cX12_sits 11 = .ok (.iload 4, 2) := by decide +kernel
theorem dX12_sits_13 : decode cX12_sits 13 = .ok (.aload_n 0, 1) := by decide +kernel
theorem dX12_sits_14 : decode cX12_sits 14 = .ok (.getfield 46, 3) := by decide +kernel
theorem dX12_sits_17 : decode cX12_sits 17 = .ok (.aload_n 0, 1) := by decide +kernel
theorem dX12_sits_18 : decode cX12_sits 18 = .ok (.getfield 230, 3) := by decide +kernel
theorem dX12_sits_21 : decode cX12_sits 21 = .ok (.iaload, 1) := by decide +kernel
theorem dX12_sits_22 : decode cX12_sits 22 = .ok (.if_icmp .ge 35, 3) := by decide +kernel
theorem dX12_sits_25 : decode cX12_sits 25 = .ok (.iload_n 2, 1) := by decide +kernel
theorem dX12_sits_26 : decode cX12_sits 26 = .ok (.iload 4, 2) := by decide +kernel
theorem dX12_sits_28 : decode cX12_sits 28 = .ok (.ishr, 1) := by decide +kernel
theorem dX12_sits_29 : decode cX12_sits 29 = .ok (.iconst 1, 1) := by decide +kernel
theorem dX12_sits_30 : decode cX12_sits 30 = .ok (.iand, 1) := by decide +kernel
theorem dX12_sits_31 : decode cX12_sits 31 = .ok (.iconst 1, 1) := by decide +kernel
theorem dX12_sits_32 : decode cX12_sits 32 = .ok (.if_icmp .ne 19, 3) := by decide +kernel
theorem dX12_sits_35 : decode cX12_sits 35 = .ok (.aload_n 0, 1) := by decide +kernel
theorem dX12_sits_36 : decode cX12_sits 36 = .ok (.iload 4, 2) := by decide +kernel
theorem dX12_sits_38 : decode cX12_sits 38 = .ok (.invokevirtual 370, 3) := by decide +kernel
theorem dX12_sits_41 : decode cX12_sits 41 = .ok (.ifCond .eq 10, 3) := by decide +kernel
theorem dX12_sits_44 : decode cX12_sits 44 = .ok (.iload_n 3, 1) := by decide +kernel
theorem dX12_sits_45 : decode cX12_sits 45 = .ok (.iconst 1, 1) := by decide +kernel
theorem dX12_sits_46 : decode cX12_sits 46 = .ok (.iload 4, 2) := by decide +kernel
theorem dX12_sits_48 : decode cX12_sits 48 = .ok (.ishl, 1) := by decide +kernel
theorem dX12_sits_49 : decode cX12_sits 49 = .ok (.ior, 1) := by decide +kernel
theorem dX12_sits_50 : decode cX12_sits 50 = .ok (.istore_n 3, 1) := by decide +kernel
theorem dX12_sits_51 : decode cX12_sits 51 = .ok (.iinc 4 1, 3) := by decide +kernel
theorem dX12_sits_54 : decode cX12_sits 54 = .ok (.goto (-43), 3) := by decide +kernel
theorem dX12_sits_57 : decode cX12_sits 57 = .ok (.aload_n 0, 1) := by decide +kernel
theorem dX12_sits_58 : decode cX12_sits 58 = .ok (.iload_n 1, 1) := by decide +kernel
theorem dX12_sits_59 : decode cX12_sits 59 = .ok (.iload_n 3, 1) := by decide +kernel
theorem dX12_sits_60 : decode cX12_sits 60 = .ok (.invokevirtual 373, 3) := by decide +kernel
theorem dX12_sits_63 : decode cX12_sits 63 = .ok (.istore 4, 2) := by decide +kernel
theorem dX12_sits_65 : decode cX12_sits 65 = .ok (.iconst 0, 1) := by decide +kernel
theorem dX12_sits_66 : decode cX12_sits 66 = .ok (.istore 5, 2) := by decide +kernel
theorem dX12_sits_68 : decode cX12_sits 68 = .ok (.iload 5, 2) := by decide +kernel
theorem dX12_sits_70 : decode cX12_sits 70 = .ok (.aload_n 0, 1) := by decide +kernel
theorem dX12_sits_71 : decode cX12_sits 71 = .ok (.getfield 46, 3) := by decide +kernel
theorem dX12_sits_74 : decode cX12_sits 74 = .ok (.aload_n 0, 1) := by decide +kernel
theorem dX12_sits_75 : decode cX12_sits 75 = .ok (.getfield 230, 3) := by decide +kernel
theorem dX12_sits_78 : decode cX12_sits 78 = .ok (.iaload, 1) := by decide +kernel
theorem dX12_sits_79 : decode cX12_sits 79 = .ok (.if_icmp .ge 116, 3) := by decide +kernel
theorem dX12_sits_82 : decode cX12_sits 82 = .ok (.iload_n 2, 1) := by decide +kernel
theorem dX12_sits_83 : decode cX12_sits 83 = .ok (.iload 5, 2) := by decide +kernel
theorem dX12_sits_85 : decode cX12_sits 85 = .ok (.ishr, 1) := by decide +kernel
theorem dX12_sits_86 : decode cX12_sits 86 = .ok (.iconst 1, 1) := by decide +kernel
theorem dX12_sits_87 : decode cX12_sits 87 = .ok (.iand, 1) := by decide +kernel
theorem dX12_sits_88 : decode cX12_sits 88 = .ok (.ifCond .ne 6, 3) := by decide +kernel
theorem dX12_sits_91 : decode cX12_sits 91 = .ok (.goto 98, 3) := by decide +kernel
theorem dX12_sits_94 : decode cX12_sits 94 = .ok (.iload_n 3, 1) := by decide +kernel
theorem dX12_sits_95 : decode cX12_sits 95 = .ok (.iload 5, 2) := by decide +kernel
theorem dX12_sits_97 : decode cX12_sits 97 = .ok (.ishr, 1) := by decide +kernel
theorem dX12_sits_98 : decode cX12_sits 98 = .ok (.iconst 1, 1) := by decide +kernel
theorem dX12_sits_99 : decode cX12_sits 99 = .ok (.iand, 1) := by decide +kernel
theorem dX12_sits_100 : decode cX12_sits 100 = .ok (.istore 6, 2) := by decide +kernel
theorem dX12_sits_102 : decode cX12_sits 102 = .ok (.aload_n 0, 1) := by decide +kernel
theorem dX12_sits_103 : decode cX12_sits 103 = .ok (.iload 5, 2) := by decide +kernel
theorem dX12_sits_105 : decode cX12_sits 105 = .ok (.iload 6, 2) := by decide +kernel
theorem dX12_sits_107 : decode cX12_sits 107 = .ok (.invokevirtual 376, 3) := by decide +kernel
theorem dX12_sits_110 : decode cX12_sits 110 = .ok (.istore 7, 2) := by decide +kernel
theorem dX12_sits_112 : decode cX12_sits 112 = .ok (.aload_n 0, 1) := by decide +kernel
theorem dX12_sits_113 : decode cX12_sits 113 = .ok (.getfield 116, 3) := by decide +kernel
theorem dX12_sits_116 : decode cX12_sits 116 = .ok (.bipush 14, 2) := by decide +kernel
theorem dX12_sits_118 : decode cX12_sits 118 = .ok (.iload 5, 2) := by decide +kernel
theorem dX12_sits_120 : decode cX12_sits 120 = .ok (.iadd, 1) := by decide +kernel
theorem dX12_sits_121 : decode cX12_sits 121 = .ok (.dup2, 1) := by decide +kernel
theorem dX12_sits_122 : decode cX12_sits 122 = .ok (.iaload, 1) := by decide +kernel
theorem dX12_sits_123 : decode cX12_sits 123 = .ok (.iload 7, 2) := by decide +kernel
theorem dX12_sits_125 : decode cX12_sits 125 = .ok (.isub, 1) := by decide +kernel
theorem dX12_sits_126 : decode cX12_sits 126 = .ok (.iastore, 1) := by decide +kernel
theorem dX12_sits_127 : decode cX12_sits 127 = .ok (.aload_n 0, 1) := by decide +kernel
theorem dX12_sits_128 : decode cX12_sits 128 = .ok (.getfield 116, 3) := by decide +kernel
theorem dX12_sits_131 : decode cX12_sits 131 = .ok (.bipush 76, 2) := by decide +kernel
theorem dX12_sits_133 : decode cX12_sits 133 = .ok (.dup2, 1) := by decide +kernel
theorem dX12_sits_134 : decode cX12_sits 134 = .ok (.iaload, 1) := by decide +kernel
theorem dX12_sits_135 : decode cX12_sits 135 = .ok (.iload 7, 2) := by decide +kernel
theorem dX12_sits_137 : decode cX12_sits 137 = .ok (.iadd, 1) := by decide +kernel
theorem dX12_sits_138 : decode cX12_sits 138 = .ok (.iastore, 1) := by decide +kernel
theorem dX12_sits_139 : decode cX12_sits 139 = .ok (.aload_n 0, 1) := by decide +kernel
theorem dX12_sits_140 : decode cX12_sits 140 = .ok (.getfield 116, 3) := by decide +kernel
theorem dX12_sits_143 : decode cX12_sits 143 = .ok (.bipush 42, 2) := by decide +kernel
theorem dX12_sits_145 : decode cX12_sits 145 = .ok (.iload 5, 2) := by decide +kernel
theorem dX12_sits_147 : decode cX12_sits 147 = .ok (.iadd, 1) := by decide +kernel
theorem dX12_sits_148 : decode cX12_sits 148 = .ok (.aload_n 0, 1) := by decide +kernel
theorem dX12_sits_149 : decode cX12_sits 149 = .ok (.iload 5, 2) := by decide +kernel
theorem dX12_sits_151 : decode cX12_sits 151 = .ok (.iload 6, 2) := by decide +kernel
theorem dX12_sits_153 : decode cX12_sits 153 = .ok (.invokevirtual 349, 3) := by decide +kernel
theorem dX12_sits_156 : decode cX12_sits 156 = .ok (.iastore, 1) := by decide +kernel
theorem dX12_sits_157 : decode cX12_sits 157 = .ok (.aload_n 0, 1) := by decide +kernel
theorem dX12_sits_158 : decode cX12_sits 158 = .ok (.getfield 116, 3) := by decide +kernel
theorem dX12_sits_161 : decode cX12_sits 161 = .ok (.bipush 63, 2) := by decide +kernel
theorem dX12_sits_163 : decode cX12_sits 163 = .ok (.iload 5, 2) := by decide +kernel
theorem dX12_sits_165 : decode cX12_sits 165 = .ok (.iadd, 1) := by decide +kernel
theorem dX12_sits_166 : decode cX12_sits 166 = .ok (.dup2, 1) := by decide +kernel
theorem dX12_sits_167 : decode cX12_sits 167 = .ok (.iaload, 1) := by decide +kernel
theorem dX12_sits_168 : decode cX12_sits 168 = .ok (.iload 6, 2) := by decide +kernel
theorem dX12_sits_170 : decode cX12_sits 170 = .ok (.iadd, 1) := by decide +kernel
theorem dX12_sits_171 : decode cX12_sits 171 = .ok (.iastore, 1) := by decide +kernel
theorem dX12_sits_172 : decode cX12_sits 172 = .ok (.aload_n 0, 1) := by decide +kernel
theorem dX12_sits_173 : decode cX12_sits 173 = .ok (.getfield 116, 3) := by decide +kernel
theorem dX12_sits_176 : decode cX12_sits 176 = .ok (.bipush 35, 2) := by decide +kernel
theorem dX12_sits_178 : decode cX12_sits 178 = .ok (.iload 5, 2) := by decide +kernel
theorem dX12_sits_180 : decode cX12_sits 180 = .ok (.iadd, 1) := by decide +kernel
theorem dX12_sits_181 : decode cX12_sits 181 = .ok (.iconst 0, 1) := by decide +kernel
theorem dX12_sits_182 : decode cX12_sits 182 = .ok (.iastore, 1) := by decide +kernel
theorem dX12_sits_183 : decode cX12_sits 183 = .ok (.aload_n 0, 1) := by decide +kernel
theorem dX12_sits_184 : decode cX12_sits 184 = .ok (.iload 5, 2) := by decide +kernel
theorem dX12_sits_186 : decode cX12_sits 186 = .ok (.invokevirtual 379, 3) := by decide +kernel
theorem dX12_sits_189 : decode cX12_sits 189 = .ok (.iinc 5 1, 3) := by decide +kernel
theorem dX12_sits_192 : decode cX12_sits 192 = .ok (.goto (-124), 3) := by decide +kernel
theorem dX12_sits_195 : decode cX12_sits 195 = .ok (.aload_n 0, 1) := by decide +kernel
theorem dX12_sits_196 : decode cX12_sits 196 = .ok (.getfield 116, 3) := by decide +kernel
theorem dX12_sits_199 : decode cX12_sits 199 = .ok (.bipush 70, 2) := by decide +kernel
theorem dX12_sits_201 : decode cX12_sits 201 = .ok (.iload_n 1, 1) := by decide +kernel
theorem dX12_sits_202 : decode cX12_sits 202 = .ok (.iadd, 1) := by decide +kernel
theorem dX12_sits_203 : decode cX12_sits 203 = .ok (.iload 4, 2) := by decide +kernel
theorem dX12_sits_205 : decode cX12_sits 205 = .ok (.iastore, 1) := by decide +kernel
theorem dX12_sits_206 : decode cX12_sits 206 = .ok (.aload_n 0, 1) := by decide +kernel
theorem dX12_sits_207 : decode cX12_sits 207 = .ok (.getfield 116, 3) := by decide +kernel
theorem dX12_sits_210 : decode cX12_sits 210 = .ok (.bipush 75, 2) := by decide +kernel
theorem dX12_sits_212 : decode cX12_sits 212 = .ok (.dup2, 1) := by decide +kernel
theorem dX12_sits_213 : decode cX12_sits 213 = .ok (.iaload, 1) := by decide +kernel
theorem dX12_sits_214 : decode cX12_sits 214 = .ok (.iconst 1, 1) := by decide +kernel
theorem dX12_sits_215 : decode cX12_sits 215 = .ok (.iadd, 1) := by decide +kernel
theorem dX12_sits_216 : decode cX12_sits 216 = .ok (.iastore, 1) := by decide +kernel
theorem dX12_sits_217 : decode cX12_sits 217 = .ok (.iload 4, 2) := by decide +kernel
theorem dX12_sits_219 : decode cX12_sits 219 = .ok (.ireturn, 1) := by decide +kernel
theorem dX12_man_0 : decode cX12_man 0 = .ok (.aload_n 0, 1) := by decide +kernel
theorem dX12_man_1 : decode cX12_man 1 = .ok (.iload_n 1, 1) := by decide +kernel
theorem dX12_man_2 : decode cX12_man 2 = .ok (.invokevirtual 382, 3) := by decide +kernel
theorem dX12_man_5 : decode cX12_man 5 = .ok (.ifCond .ne 5, 3) := by decide +kernel
theorem dX12_man_8 : decode cX12_man 8 = .ok (.iconst (-1), 1) := by decide +kernel
theorem dX12_man_9 : decode cX12_man 9 = .ok (.ireturn, 1) := by decide +kernel
theorem dX12_man_10 : decode cX12_man 10 = .ok (.aload_n 0, 1) := by decide +kernel
theorem dX12_man_11 : decode cX12_man 11 = .ok (.invokevirtual 385, 3) := by decide +kernel
theorem dX12_man_14 : decode cX12_man 14 = .ok (.iload_n 2, 1) := by decide +kernel
theorem dX12_man_15 : decode cX12_man 15 = .ok (.tableswitch 151 0 9 #[53, 60, 78, 84, 84, 99, 126, 126, 126, 141], 53) := by decide +kernel
theorem dX12_man_68 : decode cX12_man 68 = .ok (.aload_n 0, 1) := by decide +kernel
theorem dX12_man_69 : decode cX12_man 69 = .ok (.getfield 116, 3) := by decide +kernel
theorem dX12_man_72 : decode cX12_man 72 = .ok (.iload_n 1, 1) := by decide +kernel
theorem dX12_man_73 : decode cX12_man 73 = .ok (.iaload, 1) := by decide +kernel
theorem dX12_man_74 : decode cX12_man 74 = .ok (.ireturn, 1) := by decide +kernel
theorem dX12_man_75 : decode cX12_man 75 = .ok (.aload_n 0, 1) := by decide +kernel
theorem dX12_man_76 : decode cX12_man 76 = .ok (.getfield 116, 3) := by decide +kernel
theorem dX12_man_79 : decode cX12_man 79 = .ok (.bipush 7, 2) := by decide +kernel
theorem dX12_man_81 : decode cX12_man 81 = .ok (.iload_n 1, 1) := by decide +kernel
theorem dX12_man_82 : decode cX12_man 82 = .ok (.iadd, 1) := by decide +kernel
theorem dX12_man_83 : decode cX12_man 83 = .ok (.iaload, 1) := by decide +kernel
theorem dX12_man_84 : decode cX12_man 84 = .ok (.ifCond .lt 7, 3) := by decide +kernel
theorem dX12_man_87 : decode cX12_man 87 = .ok (.iconst 1, 1) := by decide +kernel
theorem dX12_man_88 : decode cX12_man 88 = .ok (.goto 4, 3) := by decide +kernel
theorem dX12_man_91 : decode cX12_man 91 = .ok (.iconst 0, 1) := by decide +kernel
theorem dX12_man_92 : decode cX12_man 92 = .ok (.ireturn, 1) := by decide +kernel
theorem dX12_man_93 : decode cX12_man 93 = .ok (.aload_n 0, 1) := by decide +kernel
theorem dX12_man_94 : decode cX12_man 94 = .ok (.iload_n 1, 1) := by decide +kernel
theorem dX12_man_95 : decode cX12_man 95 = .ok (.invokevirtual 342, 3) := by decide +kernel
theorem dX12_man_98 : decode cX12_man 98 = .ok (.ireturn, 1) := by decide +kernel
theorem dX12_man_99 : decode cX12_man 99 = .ok (.aload_n 0, 1) := by decide +kernel
theorem dX12_man_100 : decode cX12_man 100 = .ok (.getfield 116, 3) := by decide +kernel
theorem dX12_man_103 : decode cX12_man 103 = .ok (.bipush 7, 2) := by decide +kernel
theorem dX12_man_105 : decode cX12_man 105 = .ok (.iload_n 2, 1) := by decide +kernel
theorem dX12_man_106 : decode cX12_man 106 = .ok (.imul, 1) := by decide +kernel
theorem dX12_man_107 : decode cX12_man 107 = .ok (.bipush 7, 2) := by decide +kernel
theorem dX12_man_109 : decode cX12_man 109 = .ok (.isub, 1) := by decide +kernel
theorem dX12_man_110 : decode cX12_man 110 = .ok (.iload_n 1, 1) := by decide +kernel
theorem dX12_man_111 : decode cX12_man 111 = .ok (.iadd, 1) := by decide +kernel
theorem dX12_man_112 : decode cX12_man 112 = .ok (.iaload, 1) := by decide +kernel
theorem dX12_man_113 : decode cX12_man 113 = .ok (.ireturn, 1) := by decide +kernel
theorem dX12_man_114 : decode cX12_man 114 = .ok (.aload_n 0, 1) := by decide +kernel
theorem dX12_man_115 : decode cX12_man 115 = .ok (.getfield 116, 3) := by decide +kernel
theorem dX12_man_118 : decode cX12_man 118 = .ok (.bipush 21, 2) := by decide +kernel
theorem dX12_man_120 : decode cX12_man 120 = .ok (.iload_n 1, 1) := by decide +kernel
theorem dX12_man_121 : decode cX12_man 121 = .ok (.iadd, 1) := by decide +kernel
theorem dX12_man_122 : decode cX12_man 122 = .ok (.iaload, 1) := by decide +kernel
theorem dX12_man_123 : decode cX12_man 123 = .ok (.ifCond .ge 8, 3) := by decide +kernel
theorem dX12_man_126 : decode cX12_man 126 = .ok (.bipush (-2), 2) := by decide +kernel
theorem dX12_man_128 : decode cX12_man 128 = .ok (.goto 12, 3) := by decide +kernel
theorem dX12_man_131 : decode cX12_man 131 = .ok (.aload_n 0, 1) := by decide +kernel
theorem dX12_man_132 : decode cX12_man 132 = .ok (.getfield 116, 3) := by decide +kernel
theorem dX12_man_135 : decode cX12_man 135 = .ok (.bipush 28, 2) := by decide +kernel
theorem dX12_man_137 : decode cX12_man 137 = .ok (.iload_n 1, 1) := by decide +kernel
theorem dX12_man_138 : decode cX12_man 138 = .ok (.iadd, 1) := by decide +kernel
theorem dX12_man_139 : decode cX12_man 139 = .ok (.iaload, 1) := by decide +kernel
theorem dX12_man_140 : decode cX12_man 140 = .ok (.ireturn, 1) := by decide +kernel
theorem dX12_man_141 : decode cX12_man 141 = .ok (.aload_n 0, 1) := by decide +kernel
theorem dX12_man_142 : decode cX12_man 142 = .ok (.getfield 116, 3) := by decide +kernel
theorem dX12_man_145 : decode cX12_man 145 = .ok (.bipush 7, 2) := by decide +kernel
theorem dX12_man_147 : decode cX12_man 147 = .ok (.iload_n 2, 1) := by decide +kernel
theorem dX12_man_148 : decode cX12_man 148 = .ok (.imul, 1) := by decide +kernel
theorem dX12_man_149 : decode cX12_man 149 = .ok (.bipush 7, 2) := by decide +kernel
theorem dX12_man_151 : decode cX12_man 151 = .ok (.isub, 1) := by decide +kernel
theorem dX12_man_152 : decode cX12_man 152 = .ok (.iload_n 1, 1) := by decide +kernel
theorem dX12_man_153 : decode cX12_man 153 = .ok (.iadd, 1) := by decide +kernel
theorem dX12_man_154 : decode cX12_man 154 = .ok (.iaload, 1) := by decide +kernel
theorem dX12_man_155 : decode cX12_man 155 = .ok (.ireturn, 1) := by decide +kernel
theorem dX12_man_156 : decode cX12_man 156 = .ok (.aload_n 0, 1) := by decide +kernel
theorem dX12_man_157 : decode cX12_man 157 = .ok (.getfield 116, 3) := by decide +kernel
theorem dX12_man_160 : decode cX12_man 160 = .ok (.bipush 63, 2) := by decide +kernel
theorem dX12_man_162 : decode cX12_man 162 = .ok (.iload_n 1, 1) := by decide +kernel
theorem dX12_man_163 : decode cX12_man 163 = .ok (.iadd, 1) := by decide +kernel
theorem dX12_man_164 : decode cX12_man 164 = .ok (.iaload, 1) := by decide +kernel
theorem dX12_man_165 : decode cX12_man 165 = .ok (.ireturn, 1) := by decide +kernel
theorem dX12_man_166 : decode cX12_man 166 = .ok (.iconst (-1), 1) := by decide +kernel
theorem dX12_man_167 : decode cX12_man 167 = .ok (.ireturn, 1) := by decide +kernel
theorem dX12_motion_0 : decode cX12_motion 0 = .ok (.aload_n 0, 1) := by decide +kernel
theorem dX12_motion_1 : decode cX12_motion 1 = .ok (.iload_n 1, 1) := by decide +kernel
theorem dX12_motion_2 : decode cX12_motion 2 = .ok (.invokevirtual 388, 3) := by decide +kernel
theorem dX12_motion_5 : decode cX12_motion 5 = .ok (.ifCond .ne 5, 3) := by decide +kernel
theorem dX12_motion_8 : decode cX12_motion 8 = .ok (.iconst (-1), 1) := by decide +kernel
theorem dX12_motion_9 : decode cX12_motion 9 = .ok (.ireturn, 1) := by decide +kernel
theorem dX12_motion_10 : decode cX12_motion 10 = .ok (.aload_n 0, 1) := by decide +kernel
theorem dX12_motion_11 : decode cX12_motion 11 = .ok (.invokevirtual 385, 3) := by decide +kernel
theorem dX12_motion_14 : decode cX12_motion 14 = .ok (.iload_n 2, 1) := by decide +kernel
theorem dX12_motion_15 : decode cX12_motion 15 = .ok (.tableswitch 69 0 4 #[33, 43, 49, 49, 49], 33) := by decide +kernel
theorem dX12_motion_48 : decode cX12_motion 48 = .ok (.aload_n 0, 1) := by decide +kernel
theorem dX12_motion_49 : decode cX12_motion 49 = .ok (.getfield 116, 3) := by decide +kernel
theorem dX12_motion_52 : decode cX12_motion 52 = .ok (.bipush 70, 2) := by decide +kernel
theorem dX12_motion_54 : decode cX12_motion 54 = .ok (.iload_n 1, 1) := by decide +kernel
theorem dX12_motion_55 : decode cX12_motion 55 = .ok (.iadd, 1) := by decide +kernel
theorem dX12_motion_56 : decode cX12_motion 56 = .ok (.iaload, 1) := by decide +kernel
theorem dX12_motion_57 : decode cX12_motion 57 = .ok (.ireturn, 1) := by decide +kernel
theorem dX12_motion_58 : decode cX12_motion 58 = .ok (.aload_n 0, 1) := by decide +kernel
theorem dX12_motion_59 : decode cX12_motion 59 = .ok (.iload_n 1, 1) := by decide +kernel
theorem dX12_motion_60 : decode cX12_motion 60 = .ok (.invokevirtual 367, 3) := by decide +kernel
theorem dX12_motion_63 : decode cX12_motion 63 = .ok (.ireturn, 1) := by decide +kernel
theorem dX12_motion_64 : decode cX12_motion 64 = .ok (.aload_n 0, 1) := by decide +kernel
theorem dX12_motion_65 : decode cX12_motion 65 = .ok (.getfield 64, 3) := by decide +kernel
theorem dX12_motion_68 : decode cX12_motion 68 = .ok (.iconst 3, 1) := by decide +kernel
theorem dX12_motion_69 : decode cX12_motion 69 = .ok (.iconst 5, 1) := by decide +kernel
theorem dX12_motion_70 : decode cX12_motion 70 = .ok (.aload_n 0, 1) := by decide +kernel
theorem dX12_motion_71 : decode cX12_motion 71 = .ok (.getfield 230, 3) := by decide +kernel
theorem dX12_motion_74 : decode cX12_motion 74 = .ok (.imul, 1) := by decide +kernel
theorem dX12_motion_75 : decode cX12_motion 75 = .ok (.iload_n 1, 1) := by decide +kernel
theorem dX12_motion_76 : decode cX12_motion 76 = .ok (.iadd, 1) := by decide +kernel
theorem dX12_motion_77 : decode cX12_motion 77 = .ok (.imul, 1) := by decide +kernel
theorem dX12_motion_78 : decode cX12_motion 78 = .ok (.iload_n 2, 1) := by decide +kernel
theorem dX12_motion_79 : decode cX12_motion 79 = .ok (.iadd, 1) := by decide +kernel
theorem dX12_motion_80 : decode cX12_motion 80 = .ok (.iconst 2, 1) := by decide +kernel
theorem dX12_motion_81 : decode cX12_motion 81 = .ok (.isub, 1) := by decide +kernel
theorem dX12_motion_82 : decode cX12_motion 82 = .ok (.iaload, 1) := by decide +kernel
theorem dX12_motion_83 : decode cX12_motion 83 = .ok (.ireturn, 1) := by decide +kernel
theorem dX12_motion_84 : decode cX12_motion 84 = .ok (.iconst (-1), 1) := by decide +kernel
theorem dX12_motion_85 : decode cX12_motion 85 = .ok (.ireturn, 1) := by decide +kernel
theorem dX12_argues_0 : decode cX12_argues 0 = .ok (.aload_n 0, 1) := by decide +kernel
theorem dX12_argues_1 : decode cX12_argues 1 = .ok (.iload_n 1, 1) := by decide +kernel
theorem dX12_argues_2 : decode cX12_argues 2 = .ok (.invokevirtual 382, 3) := by decide +kernel
theorem dX12_argues_5 : decode cX12_argues 5 = .ok (.ifCond .eq 12, 3) := by decide +kernel
theorem dX12_argues_8 : decode cX12_argues 8 = .ok (.iload_n 2, 1) := by decide +kernel
theorem dX12_argues_9 : decode cX12_argues 9 = .ok (.iconst 0, 1) := by decide +kernel
theorem dX12_argues_10 : decode cX12_argues 10 = .ok (.iconst 3, 1) := by decide +kernel
theorem dX12_argues_11 : decode cX12_argues 11 = .ok (.invokestatic 314, 3) := by decide +kernel
theorem dX12_argues_14 : decode cX12_argues 14 = .ok (.ifCond .ne 5, 3) := by decide +kernel
theorem dX12_argues_17 : decode cX12_argues 17 = .ok (.iconst (-1), 1) := by decide +kernel
theorem dX12_argues_18 : decode cX12_argues 18 = .ok (.ireturn, 1) := by decide +kernel
theorem dX12_argues_19 : decode cX12_argues 19 = .ok (.aload_n 0, 1) := by decide +kernel
theorem dX12_argues_20 : decode cX12_argues 20 = .ok (.invokevirtual 385, 3) := by decide +kernel
theorem dX12_argues_23 : decode cX12_argues 23 = .ok (.aload_n 0, 1) := by decide +kernel
theorem dX12_argues_24 : decode cX12_argues 24 = .ok (.iload_n 1, 1) := by decide +kernel
theorem dX12_argues_25 : decode cX12_argues 25 = .ok (.iload_n 2, 1) := by decide +kernel
theorem dX12_argues_26 : decode cX12_argues 26 = .ok (.iload_n 3, 1) := by decide +kernel
theorem dX12_argues_27 : decode cX12_argues 27 = .ok (.ifCond .eq 7, 3) := by decide +kernel
theorem dX12_argues_30 : decode cX12_argues 30 = .ok (.iconst 1, 1) := by decide +kernel
theorem dX12_argues_31 : decode cX12_argues 31 = .ok (.goto 4, 3) := by decide +kernel
theorem dX12_argues_34 : decode cX12_argues 34 = .ok (.iconst 0, 1) := by decide +kernel
theorem dX12_argues_35 : decode cX12_argues 35 = .ok (.invokevirtual 339, 3) := by decide +kernel
theorem dX12_argues_38 : decode cX12_argues 38 = .ok (.ireturn, 1) := by decide +kernel
theorem dX12_mark_0 : decode cX12_mark 0 = .ok (.iload_n 1, 1) := by decide +kernel
theorem dX12_mark_1 : decode cX12_mark 1 = .ok (.iconst 0, 1) := by decide +kernel
theorem dX12_mark_2 : decode cX12_mark 2 = .ok (.aload_n 0, 1) := by decide +kernel
theorem dX12_mark_3 : decode cX12_mark 3 = .ok (.getfield 67, 3) := by decide +kernel
theorem dX12_mark_6 : decode cX12_mark 6 = .ok (.aload_n 0, 1) := by decide +kernel
theorem dX12_mark_7 : decode cX12_mark 7 = .ok (.getfield 230, 3) := by decide +kernel
theorem dX12_mark_10 : decode cX12_mark 10 = .ok (.iaload, 1) := by decide +kernel
theorem dX12_mark_11 : decode cX12_mark 11 = .ok (.iconst 1, 1) := by decide +kernel
theorem dX12_mark_12 : decode cX12_mark 12 = .ok (.isub, 1) := by decide +kernel
theorem dX12_mark_13 : decode cX12_mark 13 = .ok (.invokestatic 314, 3) := by decide +kernel
theorem dX12_mark_16 : decode cX12_mark 16 = .ok (.ifCond .eq 11, 3) := by decide +kernel
theorem dX12_mark_19 : decode cX12_mark 19 = .ok (.aload_n 0, 1) := by decide +kernel
theorem dX12_mark_20 : decode cX12_mark 20 = .ok (.iload_n 2, 1) := by decide +kernel
theorem dX12_mark_21 : decode cX12_mark 21 = .ok (.invokevirtual 382, 3) := by decide +kernel
theorem dX12_mark_24 : decode cX12_mark 24 = .ok (.ifCond .ne 5, 3) := by decide +kernel
theorem dX12_mark_27 : decode cX12_mark 27 = .ok (.iconst (-1), 1) := by decide +kernel
theorem dX12_mark_28 : decode cX12_mark 28 = .ok (.ireturn, 1) := by decide +kernel
theorem dX12_mark_29 : decode cX12_mark 29 = .ok (.aload_n 0, 1) := by decide +kernel
theorem dX12_mark_30 : decode cX12_mark 30 = .ok (.invokevirtual 385, 3) := by decide +kernel
theorem dX12_mark_33 : decode cX12_mark 33 = .ok (.aload_n 0, 1) := by decide +kernel
theorem dX12_mark_34 : decode cX12_mark 34 = .ok (.getfield 116, 3) := by decide +kernel
theorem dX12_mark_37 : decode cX12_mark 37 = .ok (.bipush 21, 2) := by decide +kernel
theorem dX12_mark_39 : decode cX12_mark 39 = .ok (.iload_n 2, 1) := by decide +kernel
theorem dX12_mark_40 : decode cX12_mark 40 = .ok (.iadd, 1) := by decide +kernel
theorem dX12_mark_41 : decode cX12_mark 41 = .ok (.iaload, 1) := by decide +kernel
theorem dX12_mark_42 : decode cX12_mark 42 = .ok (.ifCond .ge 8, 3) := by decide +kernel
theorem dX12_mark_45 : decode cX12_mark 45 = .ok (.bipush (-2), 2) := by decide +kernel
theorem dX12_mark_47 : decode cX12_mark 47 = .ok (.goto 41, 3) := by decide +kernel
theorem dX12_mark_50 : decode cX12_mark 50 = .ok (.aload_n 0, 1) := by decide +kernel
theorem dX12_mark_51 : decode cX12_mark 51 = .ok (.iload_n 1, 1) := by decide +kernel
theorem dX12_mark_52 : decode cX12_mark 52 = .ok (.iload_n 2, 1) := by decide +kernel
theorem dX12_mark_53 : decode cX12_mark 53 = .ok (.aload_n 0, 1) := by decide +kernel
theorem dX12_mark_54 : decode cX12_mark 54 = .ok (.getfield 116, 3) := by decide +kernel
theorem dX12_mark_57 : decode cX12_mark 57 = .ok (.bipush 28, 2) := by decide +kernel
theorem dX12_mark_59 : decode cX12_mark 59 = .ok (.iload_n 2, 1) := by decide +kernel
theorem dX12_mark_60 : decode cX12_mark 60 = .ok (.iadd, 1) := by decide +kernel
theorem dX12_mark_61 : decode cX12_mark 61 = .ok (.iaload, 1) := by decide +kernel
theorem dX12_mark_62 : decode cX12_mark 62 = .ok (.iload_n 3, 1) := by decide +kernel
theorem dX12_mark_63 : decode cX12_mark 63 = .ok (.ifCond .eq 7, 3) := by decide +kernel
theorem dX12_mark_66 : decode cX12_mark 66 = .ok (.iconst 1, 1) := by decide +kernel
theorem dX12_mark_67 : decode cX12_mark 67 = .ok (.goto 4, 3) := by decide +kernel
theorem dX12_mark_70 : decode cX12_mark 70 = .ok (.iconst 0, 1) := by decide +kernel
theorem dX12_mark_71 : decode cX12_mark 71 = .ok (.aload_n 0, 1) := by decide +kernel
theorem dX12_mark_72 : decode cX12_mark 72 = .ok (.iload_n 2, 1) := by decide +kernel
theorem dX12_mark_73 : decode cX12_mark 73 = .ok (.iload_n 3, 1) := by decide +kernel
theorem dX12_mark_74 : decode cX12_mark 74 = .ok (.ifCond .eq 7, 3) := by decide +kernel
theorem dX12_mark_77 : decode cX12_mark 77 = .ok (.iconst 1, 1) := by decide +kernel
theorem dX12_mark_78 : decode cX12_mark 78 = .ok (.goto 4, 3) := by decide +kernel
theorem dX12_mark_81 : decode cX12_mark 81 = .ok (.iconst 0, 1) := by decide +kernel
theorem dX12_mark_82 : decode cX12_mark 82 = .ok (.invokevirtual 349, 3) := by decide +kernel
theorem dX12_mark_85 : decode cX12_mark 85 = .ok (.invokevirtual 345, 3) := by decide +kernel
theorem dX12_mark_88 : decode cX12_mark 88 = .ok (.ireturn, 1) := by decide +kernel
theorem dX12_sum_0 : decode cX12_sum 0 = .ok (.aload_n 0, 1) := by decide +kernel
theorem dX12_sum_1 : decode cX12_sum 1 = .ok (.iload_n 1, 1) := by decide +kernel
theorem dX12_sum_2 : decode cX12_sum 2 = .ok (.invokevirtual 382, 3) := by decide +kernel
theorem dX12_sum_5 : decode cX12_sum 5 = .ok (.ifCond .ne 5, 3) := by decide +kernel
theorem dX12_sum_8 : decode cX12_sum 8 = .ok (.iconst (-1), 1) := by decide +kernel
theorem dX12_sum_9 : decode cX12_sum 9 = .ok (.ireturn, 1) := by decide +kernel
theorem dX12_sum_10 : decode cX12_sum 10 = .ok (.aload_n 0, 1) := by decide +kernel
theorem dX12_sum_11 : decode cX12_sum 11 = .ok (.invokevirtual 385, 3) := by decide +kernel
theorem dX12_sum_14 : decode cX12_sum 14 = .ok (.aload_n 0, 1) := by decide +kernel
theorem dX12_sum_15 : decode cX12_sum 15 = .ok (.getfield 116, 3) := by decide +kernel
theorem dX12_sum_18 : decode cX12_sum 18 = .ok (.bipush 21, 2) := by decide +kernel
theorem dX12_sum_20 : decode cX12_sum 20 = .ok (.iload_n 1, 1) := by decide +kernel
theorem dX12_sum_21 : decode cX12_sum 21 = .ok (.iadd, 1) := by decide +kernel
theorem dX12_sum_22 : decode cX12_sum 22 = .ok (.iaload, 1) := by decide +kernel
theorem dX12_sum_23 : decode cX12_sum 23 = .ok (.ifCond .ge 8, 3) := by decide +kernel
theorem dX12_sum_26 : decode cX12_sum 26 = .ok (.bipush (-2), 2) := by decide +kernel
theorem dX12_sum_28 : decode cX12_sum 28 = .ok (.goto 17, 3) := by decide +kernel
theorem dX12_sum_31 : decode cX12_sum 31 = .ok (.aload_n 0, 1) := by decide +kernel
theorem dX12_sum_32 : decode cX12_sum 32 = .ok (.iload_n 1, 1) := by decide +kernel
theorem dX12_sum_33 : decode cX12_sum 33 = .ok (.iload_n 2, 1) := by decide +kernel
theorem dX12_sum_34 : decode cX12_sum 34 = .ok (.ifCond .eq 7, 3) := by decide +kernel
theorem dX12_sum_37 : decode cX12_sum 37 = .ok (.iconst 1, 1) := by decide +kernel
theorem dX12_sum_38 : decode cX12_sum 38 = .ok (.goto 4, 3) := by decide +kernel
theorem dX12_sum_41 : decode cX12_sum 41 = .ok (.iconst 0, 1) := by decide +kernel
theorem dX12_sum_42 : decode cX12_sum 42 = .ok (.invokevirtual 364, 3) := by decide +kernel
theorem dX12_sum_45 : decode cX12_sum 45 = .ok (.ireturn, 1) := by decide +kernel
theorem dX12_keeps_0 : decode cX12_keeps 0 = .ok (.aload_n 0, 1) := by decide +kernel
theorem dX12_keeps_1 : decode cX12_keeps 1 = .ok (.getfield 256, 3) := by decide +kernel
theorem dX12_keeps_4 : decode cX12_keeps 4 = .ok (.bipush 40, 2) := by decide +kernel
theorem dX12_keeps_6 : decode cX12_keeps 6 = .ok (.if_icmp .ne 43, 3) := by decide +kernel
theorem dX12_keeps_9 : decode cX12_keeps 9 = .ok (.iconst 0, 1) := by decide +kernel
theorem dX12_keeps_10 : decode cX12_keeps 10 = .ok (.istore_n 1, 1) := by decide +kernel
theorem dX12_keeps_11 : decode cX12_keeps 11 = .ok (.iload_n 1, 1) := by decide +kernel
theorem dX12_keeps_12 : decode cX12_keeps 12 = .ok (.sipush 3120, 3) := by decide +kernel
theorem dX12_keeps_15 : decode cX12_keeps 15 = .ok (.if_icmp .ge 24, 3) := by decide +kernel
theorem dX12_keeps_18 : decode cX12_keeps 18 = .ok (.aload_n 0, 1) := by decide +kernel
theorem dX12_keeps_19 : decode cX12_keeps 19 = .ok (.getfield 125, 3) := by decide +kernel
theorem dX12_keeps_22 : decode cX12_keeps 22 = .ok (.iload_n 1, 1) := by decide +kernel
theorem dX12_keeps_23 : decode cX12_keeps 23 = .ok (.aload_n 0, 1) := by decide +kernel
theorem dX12_keeps_24 : decode cX12_keeps 24 = .ok (.getfield 125, 3) := by decide +kernel
theorem dX12_keeps_27 : decode cX12_keeps 27 = .ok (.iload_n 1, 1) := by decide +kernel
theorem dX12_keeps_28 : decode cX12_keeps 28 = .ok (.bipush 80, 2) := by decide +kernel
theorem dX12_keeps_30 : decode cX12_keeps 30 = .ok (.iadd, 1) := by decide +kernel
theorem dX12_keeps_31 : decode cX12_keeps 31 = .ok (.iaload, 1) := by decide +kernel
theorem dX12_keeps_32 : decode cX12_keeps 32 = .ok (.iastore, 1) := by decide +kernel
theorem dX12_keeps_33 : decode cX12_keeps 33 = .ok (.iinc 1 1, 3) := by decide +kernel
theorem dX12_keeps_36 : decode cX12_keeps 36 = .ok (.goto (-25), 3) := by decide +kernel
theorem dX12_keeps_39 : decode cX12_keeps 39 = .ok (.aload_n 0, 1) := by decide +kernel
theorem dX12_keeps_40 : decode cX12_keeps 40 = .ok (.dup, 1) := by decide +kernel
theorem dX12_keeps_41 : decode cX12_keeps 41 = .ok (.getfield 256, 3) := by decide +kernel
theorem dX12_keeps_44 : decode cX12_keeps 44 = .ok (.iconst 1, 1) := by decide +kernel
theorem dX12_keeps_45 : decode cX12_keeps 45 = .ok (.isub, 1) := by decide +kernel
theorem dX12_keeps_46 : decode cX12_keeps 46 = .ok (.putfield 256, 3) := by decide +kernel
theorem dX12_keeps_49 : decode cX12_keeps 49 = .ok (.iconst 0, 1) := by decide +kernel
theorem dX12_keeps_50 : decode cX12_keeps 50 = .ok (.istore_n 1, 1) := by decide +kernel
theorem dX12_keeps_51 : decode cX12_keeps 51 = .ok (.iload_n 1, 1) := by decide +kernel
theorem dX12_keeps_52 : decode cX12_keeps 52 = .ok (.bipush 80, 2) := by decide +kernel
theorem dX12_keeps_54 : decode cX12_keeps 54 = .ok (.if_icmp .ge 29, 3) := by decide +kernel
theorem dX12_keeps_57 : decode cX12_keeps 57 = .ok (.aload_n 0, 1) := by decide +kernel
theorem dX12_keeps_58 : decode cX12_keeps 58 = .ok (.getfield 125, 3) := by decide +kernel
theorem dX12_keeps_61 : decode cX12_keeps 61 = .ok (.bipush 80, 2) := by decide +kernel
theorem dX12_keeps_63 : decode cX12_keeps 63 = .ok (.aload_n 0, 1) := by decide +kernel
theorem dX12_keeps_64 : decode cX12_keeps 64 = .ok (.getfield 256, 3) := by decide +kernel
theorem dX12_keeps_67 : decode cX12_keeps 67 = .ok (.imul, 1) := by decide +kernel
theorem dX12_keeps_68 : decode cX12_keeps 68 = .ok (.iload_n 1, 1) := by decide +kernel
theorem dX12_keeps_69 : decode cX12_keeps 69 = .ok (.iadd, 1) := by decide +kernel
theorem dX12_keeps_70 : decode cX12_keeps 70 = .ok (.aload_n 0, 1) := by decide +kernel
theorem dX12_keeps_71 : decode cX12_keeps 71 = .ok (.getfield 113, 3) := by decide +kernel
theorem dX12_keeps_74 : decode cX12_keeps 74 = .ok (.iload_n 1, 1) := by decide +kernel
theorem dX12_keeps_75 : decode cX12_keeps 75 = .ok (.iaload, 1) := by decide +kernel
theorem dX12_keeps_76 : decode cX12_keeps 76 = .ok (.iastore, 1) := by decide +kernel
theorem dX12_keeps_77 : decode cX12_keeps 77 = .ok (.iinc 1 1, 3) := by decide +kernel
theorem dX12_keeps_80 : decode cX12_keeps 80 = .ok (.goto (-29), 3) := by decide +kernel
theorem dX12_keeps_83 : decode cX12_keeps 83 = .ok (.aload_n 0, 1) := by decide +kernel
theorem dX12_keeps_84 : decode cX12_keeps 84 = .ok (.dup, 1) := by decide +kernel
theorem dX12_keeps_85 : decode cX12_keeps 85 = .ok (.getfield 256, 3) := by decide +kernel
theorem dX12_keeps_88 : decode cX12_keeps 88 = .ok (.iconst 1, 1) := by decide +kernel
theorem dX12_keeps_89 : decode cX12_keeps 89 = .ok (.iadd, 1) := by decide +kernel
theorem dX12_keeps_90 : decode cX12_keeps 90 = .ok (.putfield 256, 3) := by decide +kernel
theorem dX12_keeps_93 : decode cX12_keeps 93 = .ok (.aload_n 0, 1) := by decide +kernel
theorem dX12_keeps_94 : decode cX12_keeps 94 = .ok (.invokevirtual 160, 3) := by decide +kernel
theorem dX12_keeps_97 : decode cX12_keeps 97 = .ok (.return_, 1) := by decide +kernel
theorem dX12_speak_0 : decode cX12_speak 0 = .ok (.aload_n 0, 1) := by decide +kernel
theorem dX12_speak_1 : decode cX12_speak 1 = .ok (.iload_n 1, 1) := by decide +kernel
theorem dX12_speak_2 : decode cX12_speak 2 = .ok (.invokevirtual 382, 3) := by decide +kernel
theorem dX12_speak_5 : decode cX12_speak 5 = .ok (.ifCond .ne 5, 3) := by decide +kernel
theorem dX12_speak_8 : decode cX12_speak 8 = .ok (.iconst 0, 1) := by decide +kernel
theorem dX12_speak_9 : decode cX12_speak 9 = .ok (.ireturn, 1) := by decide +kernel
theorem dX12_speak_10 : decode cX12_speak 10 = .ok (.aload_n 0, 1) := by decide +kernel
theorem dX12_speak_11 : decode cX12_speak 11 = .ok (.invokevirtual 385, 3) := by decide +kernel
theorem dX12_speak_14 : decode cX12_speak 14 = .ok (.iload_n 2, 1) := by decide +kernel
theorem dX12_speak_15 : decode cX12_speak 15 = .ok (.iconst (-1), 1) := by decide +kernel
theorem dX12_speak_16 : decode cX12_speak 16 = .ok (.if_icmp .ne 25, 3) := by decide +kernel
theorem dX12_speak_19 : decode cX12_speak 19 = .ok (.aload_n 0, 1) := by decide +kernel
theorem dX12_speak_20 : decode cX12_speak 20 = .ok (.getfield 116, 3) := by decide +kernel
theorem dX12_speak_23 : decode cX12_speak 23 = .ok (.bipush 21, 2) := by decide +kernel
theorem dX12_speak_25 : decode cX12_speak 25 = .ok (.iload_n 1, 1) := by decide +kernel
theorem dX12_speak_26 : decode cX12_speak 26 = .ok (.iadd, 1) := by decide +kernel
theorem dX12_speak_27 : decode cX12_speak 27 = .ok (.iaload, 1) := by decide +kernel
theorem dX12_speak_28 : decode cX12_speak 28 = .ok (.ifCond .ge 5, 3) := by decide +kernel
theorem dX12_speak_31 : decode cX12_speak 31 = .ok (.iconst 0, 1) := by decide +kernel
theorem dX12_speak_32 : decode cX12_speak 32 = .ok (.ireturn, 1) := by decide +kernel
theorem dX12_speak_33 : decode cX12_speak 33 = .ok (.aload_n 0, 1) := by decide +kernel
theorem dX12_speak_34 : decode cX12_speak 34 = .ok (.iload_n 1, 1) := by decide +kernel
theorem dX12_speak_35 : decode cX12_speak 35 = .ok (.invokevirtual 379, 3) := by decide +kernel
theorem dX12_speak_38 : decode cX12_speak 38 = .ok (.goto 80, 3) := by decide +kernel
theorem dX12_speak_41 : decode cX12_speak 41 = .ok (.aload_n 0, 1) := by decide +kernel
theorem dX12_speak_42 : decode cX12_speak 42 = .ok (.iload_n 2, 1) := by decide +kernel
theorem dX12_speak_43 : decode cX12_speak 43 = .ok (.invokevirtual 388, 3) := by decide +kernel
theorem dX12_speak_46 : decode cX12_speak 46 = .ok (.ifCond .eq 50, 3) := by decide +kernel
theorem dX12_speak_49 : decode cX12_speak 49 = .ok (.iload_n 3, 1) := by decide +kernel
theorem dX12_speak_50 : decode cX12_speak 50 = .ok (.iconst 0, 1) := by decide +kernel
theorem dX12_speak_51 : decode cX12_speak 51 = .ok (.iconst 3, 1) := by decide +kernel
theorem dX12_speak_52 : decode cX12_speak 52 = .ok (.invokestatic 314, 3) := by decide +kernel
theorem dX12_speak_55 : decode cX12_speak 55 = .ok (.ifCond .eq 41, 3) := by decide +kernel
theorem dX12_speak_58 : decode cX12_speak 58 = .ok (.aload_n 0, 1) := by decide +kernel
theorem dX12_speak_59 : decode cX12_speak 59 = .ok (.getfield 116, 3) := by decide +kernel
theorem dX12_speak_62 : decode cX12_speak 62 = .ok (.bipush 70, 2) := by decide +kernel
theorem dX12_speak_64 : decode cX12_speak 64 = .ok (.iload_n 2, 1) := by decide +kernel
theorem dX12_speak_65 : decode cX12_speak 65 = .ok (.iadd, 1) := by decide +kernel
theorem dX12_speak_66 : decode cX12_speak 66 = .ok (.iaload, 1) := by decide +kernel
theorem dX12_speak_67 : decode cX12_speak 67 = .ok (.ifCond .ge 29, 3) := by decide +kernel
theorem dX12_speak_70 : decode cX12_speak 70 = .ok (.aload_n 0, 1) := by decide +kernel
theorem dX12_speak_71 : decode cX12_speak 71 = .ok (.getfield 116, 3) := by decide +kernel
theorem dX12_speak_74 : decode cX12_speak 74 = .ok (.bipush 21, 2) := by decide +kernel
theorem dX12_speak_76 : decode cX12_speak 76 = .ok (.iload_n 1, 1) := by decide +kernel
theorem dX12_speak_77 : decode cX12_speak 77 = .ok (.iadd, 1) := by decide +kernel
theorem dX12_speak_78 : decode cX12_speak 78 = .ok (.iaload, 1) := by decide +kernel
theorem dX12_speak_79 : decode cX12_speak 79 = .ok (.iload_n 2, 1) := by decide +kernel
theorem dX12_speak_80 : decode cX12_speak 80 = .ok (.if_icmp .ne 18, 3) := by decide +kernel
theorem dX12_speak_83 : decode cX12_speak 83 = .ok (.aload_n 0, 1) := by decide +kernel
theorem dX12_speak_84 : decode cX12_speak 84 = .ok (.getfield 116, 3) := by decide +kernel
theorem dX12_speak_87 : decode cX12_speak 87 = .ok (.bipush 28, 2) := by decide +kernel
theorem dX12_speak_89 : decode cX12_speak 89 = .ok (.iload_n 1, 1) := by decide +kernel
theorem dX12_speak_90 : decode cX12_speak 90 = .ok (.iadd, 1) := by decide +kernel
theorem dX12_speak_91 : decode cX12_speak 91 = .ok (.iaload, 1) := by decide +kernel
theorem dX12_speak_92 : decode cX12_speak 92 = .ok (.iload_n 3, 1) := by decide +kernel
theorem dX12_speak_93 : decode cX12_speak 93 = .ok (.if_icmp .ne 5, 3) := by decide +kernel
theorem dX12_speak_96 : decode cX12_speak 96 = .ok (.iconst 0, 1) := by decide +kernel
theorem dX12_speak_97 : decode cX12_speak 97 = .ok (.ireturn, 1) := by decide +kernel
theorem dX12_speak_98 : decode cX12_speak 98 = .ok (.aload_n 0, 1) := by decide +kernel
theorem dX12_speak_99 : decode cX12_speak 99 = .ok (.getfield 116, 3) := by decide +kernel
theorem dX12_speak_102 : decode cX12_speak 102 = .ok (.bipush 21, 2) := by decide +kernel
theorem dX12_speak_104 : decode cX12_speak 104 = .ok (.iload_n 1, 1) := by decide +kernel
theorem dX12_speak_105 : decode cX12_speak 105 = .ok (.iadd, 1) := by decide +kernel
theorem dX12_speak_106 : decode cX12_speak 106 = .ok (.iload_n 2, 1) := by decide +kernel
theorem dX12_speak_107 : decode cX12_speak 107 = .ok (.iastore, 1) := by decide +kernel
theorem dX12_speak_108 : decode cX12_speak 108 = .ok (.aload_n 0, 1) := by decide +kernel
theorem dX12_speak_109 : decode cX12_speak 109 = .ok (.getfield 116, 3) := by decide +kernel
theorem dX12_speak_112 : decode cX12_speak 112 = .ok (.bipush 28, 2) := by decide +kernel
theorem dX12_speak_114 : decode cX12_speak 114 = .ok (.iload_n 1, 1) := by decide +kernel
theorem dX12_speak_115 : decode cX12_speak 115 = .ok (.iadd, 1) := by decide +kernel
theorem dX12_speak_116 : decode cX12_speak 116 = .ok (.iload_n 3, 1) := by decide +kernel
theorem dX12_speak_117 : decode cX12_speak 117 = .ok (.iastore, 1) := by decide +kernel
theorem dX12_speak_118 : decode cX12_speak 118 = .ok (.aload_n 0, 1) := by decide +kernel
theorem dX12_speak_119 : decode cX12_speak 119 = .ok (.invokevirtual 391, 3) := by decide +kernel
theorem dX12_speak_122 : decode cX12_speak 122 = .ok (.iconst 1, 1) := by decide +kernel
theorem dX12_speak_123 : decode cX12_speak 123 = .ok (.ireturn, 1) := by decide +kernel
theorem dX12_praise_0 : decode cX12_praise 0 = .ok (.aload_n 0, 1) := by decide +kernel
theorem dX12_praise_1 : decode cX12_praise 1 = .ok (.iload_n 1, 1) := by decide +kernel
theorem dX12_praise_2 : decode cX12_praise 2 = .ok (.invokevirtual 382, 3) := by decide +kernel
theorem dX12_praise_5 : decode cX12_praise 5 = .ok (.ifCond .ne 5, 3) := by decide +kernel
theorem dX12_praise_8 : decode cX12_praise 8 = .ok (.iconst (-1), 1) := by decide +kernel
theorem dX12_praise_9 : decode cX12_praise 9 = .ok (.ireturn, 1) := by decide +kernel
theorem dX12_praise_10 : decode cX12_praise 10 = .ok (.aload_n 0, 1) := by decide +kernel
theorem dX12_praise_11 : decode cX12_praise 11 = .ok (.getfield 113, 3) := by decide +kernel
theorem dX12_praise_14 : decode cX12_praise 14 = .ok (.bipush 35, 2) := by decide +kernel
theorem dX12_praise_16 : decode cX12_praise 16 = .ok (.iload_n 1, 1) := by decide +kernel
theorem dX12_praise_17 : decode cX12_praise 17 = .ok (.iadd, 1) := by decide +kernel
theorem dX12_praise_18 : decode cX12_praise 18 = .ok (.iaload, 1) := by decide +kernel
theorem dX12_praise_19 : decode cX12_praise 19 = .ok (.bipush 9, 2) := by decide +kernel
theorem dX12_praise_21 : decode cX12_praise 21 = .ok (.if_icmp .ne 6, 3) := by decide +kernel
theorem dX12_praise_24 : decode cX12_praise 24 = .ok (.bipush (-2), 2) := by decide +kernel
theorem dX12_praise_26 : decode cX12_praise 26 = .ok (.ireturn, 1) := by decide +kernel
theorem dX12_praise_27 : decode cX12_praise 27 = .ok (.aload_n 0, 1) := by decide +kernel
theorem dX12_praise_28 : decode cX12_praise 28 = .ok (.invokevirtual 385, 3) := by decide +kernel
theorem dX12_praise_31 : decode cX12_praise 31 = .ok (.aload_n 0, 1) := by decide +kernel
theorem dX12_praise_32 : decode cX12_praise 32 = .ok (.getfield 116, 3) := by decide +kernel
theorem dX12_praise_35 : decode cX12_praise 35 = .ok (.bipush 35, 2) := by decide +kernel
theorem dX12_praise_37 : decode cX12_praise 37 = .ok (.iload_n 1, 1) := by decide +kernel
theorem dX12_praise_38 : decode cX12_praise 38 = .ok (.iadd, 1) := by decide +kernel
theorem dX12_praise_39 : decode cX12_praise 39 = .ok (.dup2, 1) := by decide +kernel
theorem dX12_praise_40 : decode cX12_praise 40 = .ok (.iaload, 1) := by decide +kernel
theorem dX12_praise_41 : decode cX12_praise 41 = .ok (.iconst 1, 1) := by decide +kernel
theorem dX12_praise_42 : decode cX12_praise 42 = .ok (.iadd, 1) := by decide +kernel
theorem dX12_praise_43 : decode cX12_praise 43 = .ok (.iastore, 1) := by decide +kernel
theorem dX12_praise_44 : decode cX12_praise 44 = .ok (.aload_n 0, 1) := by decide +kernel
theorem dX12_praise_45 : decode cX12_praise 45 = .ok (.invokevirtual 391, 3) := by decide +kernel
theorem dX12_praise_48 : decode cX12_praise 48 = .ok (.aload_n 0, 1) := by decide +kernel
theorem dX12_praise_49 : decode cX12_praise 49 = .ok (.getfield 113, 3) := by decide +kernel
theorem dX12_praise_52 : decode cX12_praise 52 = .ok (.bipush 35, 2) := by decide +kernel
theorem dX12_praise_54 : decode cX12_praise 54 = .ok (.iload_n 1, 1) := by decide +kernel
theorem dX12_praise_55 : decode cX12_praise 55 = .ok (.iadd, 1) := by decide +kernel
theorem dX12_praise_56 : decode cX12_praise 56 = .ok (.iaload, 1) := by decide +kernel
theorem dX12_praise_57 : decode cX12_praise 57 = .ok (.ireturn, 1) := by decide +kernel
theorem dX12_reads_0 : decode cX12_reads 0 = .ok (.aload_n 0, 1) := by decide +kernel
theorem dX12_reads_1 : decode cX12_reads 1 = .ok (.iload_n 1, 1) := by decide +kernel
theorem dX12_reads_2 : decode cX12_reads 2 = .ok (.invokevirtual 382, 3) := by decide +kernel
theorem dX12_reads_5 : decode cX12_reads 5 = .ok (.ifCond .eq 16, 3) := by decide +kernel
theorem dX12_reads_8 : decode cX12_reads 8 = .ok (.aload_n 0, 1) := by decide +kernel
theorem dX12_reads_9 : decode cX12_reads 9 = .ok (.iload_n 2, 1) := by decide +kernel
theorem dX12_reads_10 : decode cX12_reads 10 = .ok (.invokevirtual 382, 3) := by decide +kernel
theorem dX12_reads_13 : decode cX12_reads 13 = .ok (.ifCond .eq 8, 3) := by decide +kernel
theorem dX12_reads_16 : decode cX12_reads 16 = .ok (.iload_n 1, 1) := by decide +kernel
theorem dX12_reads_17 : decode cX12_reads 17 = .ok (.iload_n 2, 1) := by decide +kernel
theorem dX12_reads_18 : decode cX12_reads 18 = .ok (.if_icmp .ne 5, 3) := by decide +kernel
theorem dX12_reads_21 : decode cX12_reads 21 = .ok (.iconst (-1), 1) := by decide +kernel
theorem dX12_reads_22 : decode cX12_reads 22 = .ok (.ireturn, 1) := by decide +kernel
theorem dX12_reads_23 : decode cX12_reads 23 = .ok (.aload_n 0, 1) := by decide +kernel
theorem dX12_reads_24 : decode cX12_reads 24 = .ok (.invokevirtual 385, 3) := by decide +kernel
theorem dX12_reads_27 : decode cX12_reads 27 = .ok (.aload_n 0, 1) := by decide +kernel
theorem dX12_reads_28 : decode cX12_reads 28 = .ok (.getfield 116, 3) := by decide +kernel
theorem dX12_reads_31 : decode cX12_reads 31 = .ok (.bipush 42, 2) := by decide +kernel
theorem dX12_reads_33 : decode cX12_reads 33 = .ok (.iload_n 2, 1) := by decide +kernel
theorem dX12_reads_34 : decode cX12_reads 34 = .ok (.iadd, 1) := by decide +kernel
theorem dX12_reads_35 : decode cX12_reads 35 = .ok (.iaload, 1) := by decide +kernel
theorem dX12_reads_36 : decode cX12_reads 36 = .ok (.istore_n 3, 1) := by decide +kernel
theorem dX12_reads_37 : decode cX12_reads 37 = .ok (.aload_n 0, 1) := by decide +kernel
theorem dX12_reads_38 : decode cX12_reads 38 = .ok (.getfield 116, 3) := by decide +kernel
theorem dX12_reads_41 : decode cX12_reads 41 = .ok (.bipush 21, 2) := by decide +kernel
theorem dX12_reads_43 : decode cX12_reads 43 = .ok (.iload_n 1, 1) := by decide +kernel
theorem dX12_reads_44 : decode cX12_reads 44 = .ok (.iadd, 1) := by decide +kernel
theorem dX12_reads_45 : decode cX12_reads 45 = .ok (.iaload, 1) := by decide +kernel
theorem dX12_reads_46 : decode cX12_reads 46 = .ok (.ifCond .lt 33, 3) := by decide +kernel
theorem dX12_reads_49 : decode cX12_reads 49 = .ok (.iload_n 3, 1) := by decide +kernel
theorem dX12_reads_50 : decode cX12_reads 50 = .ok (.ifCond .lt 29, 3) := by decide +kernel
theorem dX12_reads_53 : decode cX12_reads 53 = .ok (.aload_n 0, 1) := by decide +kernel
theorem dX12_reads_54 : decode cX12_reads 54 = .ok (.getfield 116, 3) := by decide +kernel
theorem dX12_reads_57 : decode cX12_reads 57 = .ok (.bipush 49, 2) := by decide +kernel
theorem dX12_reads_59 : decode cX12_reads 59 = .ok (.iload_n 1, 1) := by decide +kernel
theorem dX12_reads_60 : decode cX12_reads 60 = .ok (.iadd, 1) := by decide +kernel
theorem dX12_reads_61 : decode cX12_reads 61 = .ok (.iaload, 1) := by decide +kernel
theorem dX12_reads_62 : decode cX12_reads 62 = .ok (.iload_n 2, 1) := by decide +kernel
theorem dX12_reads_63 : decode cX12_reads 63 = .ok (.if_icmp .eq 16, 3) := by decide +kernel
theorem dX12_reads_66 : decode cX12_reads 66 = .ok (.iload_n 3, 1) := by decide +kernel
theorem dX12_reads_67 : decode cX12_reads 67 = .ok (.aload_n 0, 1) := by decide +kernel
theorem dX12_reads_68 : decode cX12_reads 68 = .ok (.getfield 116, 3) := by decide +kernel
theorem dX12_reads_71 : decode cX12_reads 71 = .ok (.bipush 14, 2) := by decide +kernel
theorem dX12_reads_73 : decode cX12_reads 73 = .ok (.iload_n 1, 1) := by decide +kernel
theorem dX12_reads_74 : decode cX12_reads 74 = .ok (.iadd, 1) := by decide +kernel
theorem dX12_reads_75 : decode cX12_reads 75 = .ok (.iaload, 1) := by decide +kernel
theorem dX12_reads_76 : decode cX12_reads 76 = .ok (.if_icmp .le 6, 3) := by decide +kernel
theorem dX12_reads_79 : decode cX12_reads 79 = .ok (.bipush (-2), 2) := by decide +kernel
theorem dX12_reads_81 : decode cX12_reads 81 = .ok (.ireturn, 1) := by decide +kernel
theorem dX12_reads_82 : decode cX12_reads 82 = .ok (.aload_n 0, 1) := by decide +kernel
theorem dX12_reads_83 : decode cX12_reads 83 = .ok (.getfield 116, 3) := by decide +kernel
theorem dX12_reads_86 : decode cX12_reads 86 = .ok (.bipush 49, 2) := by decide +kernel
theorem dX12_reads_88 : decode cX12_reads 88 = .ok (.iload_n 1, 1) := by decide +kernel
theorem dX12_reads_89 : decode cX12_reads 89 = .ok (.iadd, 1) := by decide +kernel
theorem dX12_reads_90 : decode cX12_reads 90 = .ok (.iload_n 2, 1) := by decide +kernel
theorem dX12_reads_91 : decode cX12_reads 91 = .ok (.iastore, 1) := by decide +kernel
theorem dX12_reads_92 : decode cX12_reads 92 = .ok (.aload_n 0, 1) := by decide +kernel
theorem dX12_reads_93 : decode cX12_reads 93 = .ok (.getfield 116, 3) := by decide +kernel
theorem dX12_reads_96 : decode cX12_reads 96 = .ok (.bipush 56, 2) := by decide +kernel
theorem dX12_reads_98 : decode cX12_reads 98 = .ok (.iload_n 1, 1) := by decide +kernel
theorem dX12_reads_99 : decode cX12_reads 99 = .ok (.iadd, 1) := by decide +kernel
theorem dX12_reads_100 : decode cX12_reads 100 = .ok (.iload_n 3, 1) := by decide +kernel
theorem dX12_reads_101 : decode cX12_reads 101 = .ok (.iastore, 1) := by decide +kernel
theorem dX12_reads_102 : decode cX12_reads 102 = .ok (.aload_n 0, 1) := by decide +kernel
theorem dX12_reads_103 : decode cX12_reads 103 = .ok (.getfield 116, 3) := by decide +kernel
theorem dX12_reads_106 : decode cX12_reads 106 = .ok (.bipush 14, 2) := by decide +kernel
theorem dX12_reads_108 : decode cX12_reads 108 = .ok (.iload_n 1, 1) := by decide +kernel
theorem dX12_reads_109 : decode cX12_reads 109 = .ok (.iadd, 1) := by decide +kernel
theorem dX12_reads_110 : decode cX12_reads 110 = .ok (.dup2, 1) := by decide +kernel
theorem dX12_reads_111 : decode cX12_reads 111 = .ok (.iaload, 1) := by decide +kernel
theorem dX12_reads_112 : decode cX12_reads 112 = .ok (.iload_n 3, 1) := by decide +kernel
theorem dX12_reads_113 : decode cX12_reads 113 = .ok (.isub, 1) := by decide +kernel
theorem dX12_reads_114 : decode cX12_reads 114 = .ok (.iastore, 1) := by decide +kernel
theorem dX12_reads_115 : decode cX12_reads 115 = .ok (.aload_n 0, 1) := by decide +kernel
theorem dX12_reads_116 : decode cX12_reads 116 = .ok (.getfield 116, 3) := by decide +kernel
theorem dX12_reads_119 : decode cX12_reads 119 = .ok (.bipush 14, 2) := by decide +kernel
theorem dX12_reads_121 : decode cX12_reads 121 = .ok (.iload_n 2, 1) := by decide +kernel
theorem dX12_reads_122 : decode cX12_reads 122 = .ok (.iadd, 1) := by decide +kernel
theorem dX12_reads_123 : decode cX12_reads 123 = .ok (.dup2, 1) := by decide +kernel
theorem dX12_reads_124 : decode cX12_reads 124 = .ok (.iaload, 1) := by decide +kernel
theorem dX12_reads_125 : decode cX12_reads 125 = .ok (.iload_n 3, 1) := by decide +kernel
theorem dX12_reads_126 : decode cX12_reads 126 = .ok (.iadd, 1) := by decide +kernel
theorem dX12_reads_127 : decode cX12_reads 127 = .ok (.iastore, 1) := by decide +kernel
theorem dX12_reads_128 : decode cX12_reads 128 = .ok (.aload_n 0, 1) := by decide +kernel
theorem dX12_reads_129 : decode cX12_reads 129 = .ok (.invokevirtual 391, 3) := by decide +kernel
theorem dX12_reads_132 : decode cX12_reads 132 = .ok (.aload_n 0, 1) := by decide +kernel
theorem dX12_reads_133 : decode cX12_reads 133 = .ok (.getfield 113, 3) := by decide +kernel
theorem dX12_reads_136 : decode cX12_reads 136 = .ok (.bipush 14, 2) := by decide +kernel
theorem dX12_reads_138 : decode cX12_reads 138 = .ok (.iload_n 1, 1) := by decide +kernel
theorem dX12_reads_139 : decode cX12_reads 139 = .ok (.iadd, 1) := by decide +kernel
theorem dX12_reads_140 : decode cX12_reads 140 = .ok (.iaload, 1) := by decide +kernel
theorem dX12_reads_141 : decode cX12_reads 141 = .ok (.ireturn, 1) := by decide +kernel
theorem dX12_swears_0 : decode cX12_swears 0 = .ok (.aload_n 0, 1) := by decide +kernel
theorem dX12_swears_1 : decode cX12_swears 1 = .ok (.getfield 116, 3) := by decide +kernel
theorem dX12_swears_4 : decode cX12_swears 4 = .ok (.bipush 7, 2) := by decide +kernel
theorem dX12_swears_6 : decode cX12_swears 6 = .ok (.iload_n 1, 1) := by decide +kernel
theorem dX12_swears_7 : decode cX12_swears 7 = .ok (.iadd, 1) := by decide +kernel
theorem dX12_swears_8 : decode cX12_swears 8 = .ok (.aload_n 0, 1) := by decide +kernel
theorem dX12_swears_9 : decode cX12_swears 9 = .ok (.getfield 116, 3) := by decide +kernel
theorem dX12_swears_12 : decode cX12_swears 12 = .ok (.iload_n 1, 1) := by decide +kernel
theorem dX12_swears_13 : decode cX12_swears 13 = .ok (.iaload, 1) := by decide +kernel
theorem dX12_swears_14 : decode cX12_swears 14 = .ok (.iastore, 1) := by decide +kernel
theorem dX12_swears_15 : decode cX12_swears 15 = .ok (.aload_n 0, 1) := by decide +kernel
theorem dX12_swears_16 : decode cX12_swears 16 = .ok (.getfield 116, 3) := by decide +kernel
theorem dX12_swears_19 : decode cX12_swears 19 = .ok (.iload_n 1, 1) := by decide +kernel
theorem dX12_swears_20 : decode cX12_swears 20 = .ok (.iload_n 2, 1) := by decide +kernel
theorem dX12_swears_21 : decode cX12_swears 21 = .ok (.iastore, 1) := by decide +kernel
theorem dX12_swears_22 : decode cX12_swears 22 = .ok (.return_, 1) := by decide +kernel
theorem dX12_swear_0 : decode cX12_swear 0 = .ok (.aload_n 0, 1) := by decide +kernel
theorem dX12_swear_1 : decode cX12_swear 1 = .ok (.iload_n 1, 1) := by decide +kernel
theorem dX12_swear_2 : decode cX12_swear 2 = .ok (.invokevirtual 382, 3) := by decide +kernel
theorem dX12_swear_5 : decode cX12_swear 5 = .ok (.ifCond .eq 33, 3) := by decide +kernel
theorem dX12_swear_8 : decode cX12_swear 8 = .ok (.aload_n 0, 1) := by decide +kernel
theorem dX12_swear_9 : decode cX12_swear 9 = .ok (.iload_n 2, 1) := by decide +kernel
theorem dX12_swear_10 : decode cX12_swear 10 = .ok (.invokevirtual 394, 3) := by decide +kernel
theorem dX12_swear_13 : decode cX12_swear 13 = .ok (.ifCond .eq 25, 3) := by decide +kernel
theorem dX12_swear_16 : decode cX12_swear 16 = .ok (.aload_n 0, 1) := by decide +kernel
theorem dX12_swear_17 : decode cX12_swear 17 = .ok (.getfield 113, 3) := by decide +kernel
theorem dX12_swear_20 : decode cX12_swear 20 = .ok (.bipush 7, 2) := by decide +kernel
theorem dX12_swear_22 : decode cX12_swear 22 = .ok (.iload_n 1, 1) := by decide +kernel
theorem dX12_swear_23 : decode cX12_swear 23 = .ok (.iadd, 1) := by decide +kernel
theorem dX12_swear_24 : decode cX12_swear 24 = .ok (.iaload, 1) := by decide +kernel
theorem dX12_swear_25 : decode cX12_swear 25 = .ok (.ifCond .ge 13, 3) := by decide +kernel
theorem dX12_swear_28 : decode cX12_swear 28 = .ok (.aload_n 0, 1) := by decide +kernel
theorem dX12_swear_29 : decode cX12_swear 29 = .ok (.getfield 113, 3) := by decide +kernel
theorem dX12_swear_32 : decode cX12_swear 32 = .ok (.iload_n 1, 1) := by decide +kernel
theorem dX12_swear_33 : decode cX12_swear 33 = .ok (.iaload, 1) := by decide +kernel
theorem dX12_swear_34 : decode cX12_swear 34 = .ok (.iload_n 2, 1) := by decide +kernel
theorem dX12_swear_35 : decode cX12_swear 35 = .ok (.if_icmp .ne 5, 3) := by decide +kernel
theorem dX12_swear_38 : decode cX12_swear 38 = .ok (.iconst 0, 1) := by decide +kernel
theorem dX12_swear_39 : decode cX12_swear 39 = .ok (.ireturn, 1) := by decide +kernel
theorem dX12_swear_40 : decode cX12_swear 40 = .ok (.aload_n 0, 1) := by decide +kernel
theorem dX12_swear_41 : decode cX12_swear 41 = .ok (.invokevirtual 385, 3) := by decide +kernel
theorem dX12_swear_44 : decode cX12_swear 44 = .ok (.aload_n 0, 1) := by decide +kernel
theorem dX12_swear_45 : decode cX12_swear 45 = .ok (.iload_n 1, 1) := by decide +kernel
theorem dX12_swear_46 : decode cX12_swear 46 = .ok (.iload_n 2, 1) := by decide +kernel
theorem dX12_swear_47 : decode cX12_swear 47 = .ok (.invokevirtual 397, 3) := by decide +kernel
theorem dX12_swear_50 : decode cX12_swear 50 = .ok (.aload_n 0, 1) := by decide +kernel
theorem dX12_swear_51 : decode cX12_swear 51 = .ok (.invokevirtual 391, 3) := by decide +kernel
theorem dX12_swear_54 : decode cX12_swear 54 = .ok (.iconst 1, 1) := by decide +kernel
theorem dX12_swear_55 : decode cX12_swear 55 = .ok (.ireturn, 1) := by decide +kernel
theorem dX12_session_0 : decode cX12_session 0 = .ok (.aload_n 0, 1) := by decide +kernel
theorem dX12_session_1 : decode cX12_session 1 = .ok (.iload_n 1, 1) := by decide +kernel
theorem dX12_session_2 : decode cX12_session 2 = .ok (.invokevirtual 388, 3) := by decide +kernel
theorem dX12_session_5 : decode cX12_session 5 = .ok (.ifCond .ne 5, 3) := by decide +kernel
theorem dX12_session_8 : decode cX12_session 8 = .ok (.iconst (-1), 1) := by decide +kernel
theorem dX12_session_9 : decode cX12_session 9 = .ok (.ireturn, 1) := by decide +kernel
theorem dX12_session_10 : decode cX12_session 10 = .ok (.aload_n 0, 1) := by decide +kernel
theorem dX12_session_11 : decode cX12_session 11 = .ok (.invokevirtual 385, 3) := by decide +kernel
theorem dX12_session_14 : decode cX12_session 14 = .ok (.aload_n 0, 1) := by decide +kernel
theorem dX12_session_15 : decode cX12_session 15 = .ok (.getfield 116, 3) := by decide +kernel
theorem dX12_session_18 : decode cX12_session 18 = .ok (.bipush 70, 2) := by decide +kernel
theorem dX12_session_20 : decode cX12_session 20 = .ok (.iload_n 1, 1) := by decide +kernel
theorem dX12_session_21 : decode cX12_session 21 = .ok (.iadd, 1) := by decide +kernel
theorem dX12_session_22 : decode cX12_session 22 = .ok (.iaload, 1) := by decide +kernel
theorem dX12_session_23 : decode cX12_session 23 = .ok (.ifCond .ge 23, 3) := by decide +kernel
theorem dX12_session_26 : decode cX12_session 26 = .ok (.aload_n 0, 1) := by decide +kernel
theorem dX12_session_27 : decode cX12_session 27 = .ok (.iload_n 1, 1) := by decide +kernel
theorem dX12_session_28 : decode cX12_session 28 = .ok (.invokevirtual 367, 3) := by decide +kernel
theorem dX12_session_31 : decode cX12_session 31 = .ok (.ifCond .eq 15, 3) := by decide +kernel
theorem dX12_session_34 : decode cX12_session 34 = .ok (.aload_n 0, 1) := by decide +kernel
theorem dX12_session_35 : decode cX12_session 35 = .ok (.getfield 67, 3) := by decide +kernel
theorem dX12_session_38 : decode cX12_session 38 = .ok (.aload_n 0, 1) := by decide +kernel
theorem dX12_session_39 : decode cX12_session 39 = .ok (.getfield 230, 3) := by decide +kernel
theorem dX12_session_42 : decode cX12_session 42 = .ok (.iaload, 1) := by decide +kernel
theorem dX12_session_43 : decode cX12_session 43 = .ok (.ifCond .ne 6, 3) := by decide +kernel
theorem dX12_session_46 : decode cX12_session 46 = .ok (.bipush (-2), 2) := by decide +kernel
theorem dX12_session_48 : decode cX12_session 48 = .ok (.ireturn, 1) := by decide +kernel
theorem dX12_session_49 : decode cX12_session 49 = .ok (.aload_n 0, 1) := by decide +kernel
theorem dX12_session_50 : decode cX12_session 50 = .ok (.iload_n 1, 1) := by decide +kernel
theorem dX12_session_51 : decode cX12_session 51 = .ok (.invokevirtual 400, 3) := by decide +kernel
theorem dX12_session_54 : decode cX12_session 54 = .ok (.istore_n 2, 1) := by decide +kernel
theorem dX12_session_55 : decode cX12_session 55 = .ok (.aload_n 0, 1) := by decide +kernel
theorem dX12_session_56 : decode cX12_session 56 = .ok (.invokevirtual 391, 3) := by decide +kernel
theorem dX12_session_59 : decode cX12_session 59 = .ok (.iload_n 2, 1) := by decide +kernel
theorem dX12_session_60 : decode cX12_session 60 = .ok (.ireturn, 1) := by decide +kernel
theorem dX12_undo_0 : decode cX12_undo 0 = .ok (.aload_n 0, 1) := by decide +kernel
theorem dX12_undo_1 : decode cX12_undo 1 = .ok (.getfield 256, 3) := by decide +kernel
theorem dX12_undo_4 : decode cX12_undo 4 = .ok (.ifCond .ne 5, 3) := by decide +kernel
theorem dX12_undo_7 : decode cX12_undo 7 = .ok (.iconst 0, 1) := by decide +kernel
theorem dX12_undo_8 : decode cX12_undo 8 = .ok (.ireturn, 1) := by decide +kernel
theorem dX12_undo_9 : decode cX12_undo 9 = .ok (.aload_n 0, 1) := by decide +kernel
theorem dX12_undo_10 : decode cX12_undo 10 = .ok (.dup, 1) := by decide +kernel
theorem dX12_undo_11 : decode cX12_undo 11 = .ok (.getfield 256, 3) := by decide +kernel
theorem dX12_undo_14 : decode cX12_undo 14 = .ok (.iconst 1, 1) := by decide +kernel
theorem dX12_undo_15 : decode cX12_undo 15 = .ok (.isub, 1) := by decide +kernel
theorem dX12_undo_16 : decode cX12_undo 16 = .ok (.putfield 256, 3) := by decide +kernel
theorem dX12_undo_19 : decode cX12_undo 19 = .ok (.iconst 0, 1) := by decide +kernel
theorem dX12_undo_20 : decode cX12_undo 20 = .ok (.istore_n 1, 1) := by decide +kernel
theorem dX12_undo_21 : decode cX12_undo 21 = .ok (.iload_n 1, 1) := by decide +kernel
theorem dX12_undo_22 : decode cX12_undo 22 = .ok (.bipush 80, 2) := by decide +kernel
theorem dX12_undo_24 : decode cX12_undo 24 = .ok (.if_icmp .ge 29, 3) := by decide +kernel
theorem dX12_undo_27 : decode cX12_undo 27 = .ok (.aload_n 0, 1) := by decide +kernel
theorem dX12_undo_28 : decode cX12_undo 28 = .ok (.getfield 113, 3) := by decide +kernel
theorem dX12_undo_31 : decode cX12_undo 31 = .ok (.iload_n 1, 1) := by decide +kernel
theorem dX12_undo_32 : decode cX12_undo 32 = .ok (.aload_n 0, 1) := by decide +kernel
theorem dX12_undo_33 : decode cX12_undo 33 = .ok (.getfield 125, 3) := by decide +kernel
theorem dX12_undo_36 : decode cX12_undo 36 = .ok (.bipush 80, 2) := by decide +kernel
theorem dX12_undo_38 : decode cX12_undo 38 = .ok (.aload_n 0, 1) := by decide +kernel
theorem dX12_undo_39 : decode cX12_undo 39 = .ok (.getfield 256, 3) := by decide +kernel
theorem dX12_undo_42 : decode cX12_undo 42 = .ok (.imul, 1) := by decide +kernel
theorem dX12_undo_43 : decode cX12_undo 43 = .ok (.iload_n 1, 1) := by decide +kernel
theorem dX12_undo_44 : decode cX12_undo 44 = .ok (.iadd, 1) := by decide +kernel
theorem dX12_undo_45 : decode cX12_undo 45 = .ok (.iaload, 1) := by decide +kernel
theorem dX12_undo_46 : decode cX12_undo 46 = .ok (.iastore, 1) := by decide +kernel
theorem dX12_undo_47 : decode cX12_undo 47 = .ok (.iinc 1 1, 3) := by decide +kernel
theorem dX12_undo_50 : decode cX12_undo 50 = .ok (.goto (-29), 3) := by decide +kernel
theorem dX12_undo_53 : decode cX12_undo 53 = .ok (.iconst 1, 1) := by decide +kernel
theorem dX12_undo_54 : decode cX12_undo 54 = .ok (.ireturn, 1) := by decide +kernel
theorem dX12_now_0 : decode cX12_now 0 = .ok (.aload_n 0, 1) := by decide +kernel
theorem dX12_now_1 : decode cX12_now 1 = .ok (.iload_n 1, 1) := by decide +kernel
theorem dX12_now_2 : decode cX12_now 2 = .ok (.invokevirtual 388, 3) := by decide +kernel
theorem dX12_now_5 : decode cX12_now 5 = .ok (.ifCond .eq 16, 3) := by decide +kernel
theorem dX12_now_8 : decode cX12_now 8 = .ok (.iload_n 2, 1) := by decide +kernel
theorem dX12_now_9 : decode cX12_now 9 = .ok (.iconst (-1), 1) := by decide +kernel
theorem dX12_now_10 : decode cX12_now 10 = .ok (.if_icmp .eq 13, 3) := by decide +kernel
theorem dX12_now_13 : decode cX12_now 13 = .ok (.aload_n 0, 1) := by decide +kernel
theorem dX12_now_14 : decode cX12_now 14 = .ok (.iload_n 2, 1) := by decide +kernel
theorem dX12_now_15 : decode cX12_now 15 = .ok (.invokevirtual 394, 3) := by decide +kernel
theorem dX12_now_18 : decode cX12_now 18 = .ok (.ifCond .ne 5, 3) := by decide +kernel
theorem dX12_now_21 : decode cX12_now 21 = .ok (.iconst (-1), 1) := by decide +kernel
theorem dX12_now_22 : decode cX12_now 22 = .ok (.ireturn, 1) := by decide +kernel
theorem dX12_now_23 : decode cX12_now 23 = .ok (.aload_n 0, 1) := by decide +kernel
theorem dX12_now_24 : decode cX12_now 24 = .ok (.invokevirtual 385, 3) := by decide +kernel
theorem dX12_now_27 : decode cX12_now 27 = .ok (.iload_n 2, 1) := by decide +kernel
theorem dX12_now_28 : decode cX12_now 28 = .ok (.iconst (-1), 1) := by decide +kernel
theorem dX12_now_29 : decode cX12_now 29 = .ok (.if_icmp .ne 10, 3) := by decide +kernel
theorem dX12_now_32 : decode cX12_now 32 = .ok (.aload_n 0, 1) := by decide +kernel
theorem dX12_now_33 : decode cX12_now 33 = .ok (.iload_n 1, 1) := by decide +kernel
theorem dX12_now_34 : decode cX12_now 34 = .ok (.iconst 0, 1) := by decide +kernel
theorem dX12_now_35 : decode cX12_now 35 = .ok (.invokevirtual 373, 3) := by decide +kernel
theorem dX12_now_38 : decode cX12_now 38 = .ok (.ireturn, 1) := by decide +kernel
theorem dX12_now_39 : decode cX12_now 39 = .ok (.aload_n 0, 1) := by decide +kernel
theorem dX12_now_40 : decode cX12_now 40 = .ok (.iload_n 1, 1) := by decide +kernel
theorem dX12_now_41 : decode cX12_now 41 = .ok (.iconst 0, 1) := by decide +kernel
theorem dX12_now_42 : decode cX12_now 42 = .ok (.sipush 255, 3) := by decide +kernel
theorem dX12_now_45 : decode cX12_now 45 = .ok (.invokevirtual 358, 3) := by decide +kernel
theorem dX12_now_48 : decode cX12_now 48 = .ok (.aload_n 0, 1) := by decide +kernel
theorem dX12_now_49 : decode cX12_now 49 = .ok (.getfield 119, 3) := by decide +kernel
theorem dX12_now_52 : decode cX12_now 52 = .ok (.iload_n 2, 1) := by decide +kernel
theorem dX12_now_53 : decode cX12_now 53 = .ok (.iaload, 1) := by decide +kernel
theorem dX12_now_54 : decode cX12_now 54 = .ok (.ireturn, 1) := by decide +kernel
theorem dX12_common_0 : decode cX12_common 0 = .ok (.iload_n 0, 1) := by decide +kernel
theorem dX12_common_1 : decode cX12_common 1 = .ok (.istore_n 2, 1) := by decide +kernel
theorem dX12_common_2 : decode cX12_common 2 = .ok (.iload_n 1, 1) := by decide +kernel
theorem dX12_common_3 : decode cX12_common 3 = .ok (.istore_n 3, 1) := by decide +kernel
theorem dX12_common_4 : decode cX12_common 4 = .ok (.iload_n 3, 1) := by decide +kernel
theorem dX12_common_5 : decode cX12_common 5 = .ok (.ifCond .eq 16, 3) := by decide +kernel
theorem dX12_common_8 : decode cX12_common 8 = .ok (.iload_n 2, 1) := by decide +kernel
theorem dX12_common_9 : decode cX12_common 9 = .ok (.iload_n 3, 1) := by decide +kernel
theorem dX12_common_10 : decode cX12_common 10 = .ok (.irem, 1) := by decide +kernel
theorem dX12_common_11 : decode cX12_common 11 = .ok (.istore 4, 2) := by decide +kernel
theorem dX12_common_13 : decode cX12_common 13 = .ok (.iload_n 3, 1) := by decide +kernel
theorem dX12_common_14 : decode cX12_common 14 = .ok (.istore_n 2, 1) := by decide +kernel
theorem dX12_common_15 : decode cX12_common 15 = .ok (.iload 4, 2) := by decide +kernel
theorem dX12_common_17 : decode cX12_common 17 = .ok (.istore_n 3, 1) := by decide +kernel
theorem dX12_common_18 : decode cX12_common 18 = .ok (.goto (-14), 3) := by decide +kernel
theorem dX12_common_21 : decode cX12_common 21 = .ok (.iload_n 2, 1) := by decide +kernel
theorem dX12_common_22 : decode cX12_common 22 = .ok (.ireturn, 1) := by decide +kernel
theorem dX12_tens_0 : decode cX12_tens 0 = .ok (.iconst 1, 1) := by decide +kernel
theorem dX12_tens_1 : decode cX12_tens 1 = .ok (.istore_n 1, 1) := by decide +kernel
theorem dX12_tens_2 : decode cX12_tens 2 = .ok (.iconst 0, 1) := by decide +kernel
theorem dX12_tens_3 : decode cX12_tens 3 = .ok (.istore_n 2, 1) := by decide +kernel
theorem dX12_tens_4 : decode cX12_tens 4 = .ok (.iload_n 2, 1) := by decide +kernel
theorem dX12_tens_5 : decode cX12_tens 5 = .ok (.iload_n 0, 1) := by decide +kernel
theorem dX12_tens_6 : decode cX12_tens 6 = .ok (.if_icmp .ge 14, 3) := by decide +kernel
theorem dX12_tens_9 : decode cX12_tens 9 = .ok (.iload_n 1, 1) := by decide +kernel
theorem dX12_tens_10 : decode cX12_tens 10 = .ok (.bipush 10, 2) := by decide +kernel
theorem dX12_tens_12 : decode cX12_tens 12 = .ok (.imul, 1) := by decide +kernel
theorem dX12_tens_13 : decode cX12_tens 13 = .ok (.istore_n 1, 1) := by decide +kernel
theorem dX12_tens_14 : decode cX12_tens 14 = .ok (.iinc 2 1, 3) := by decide +kernel
theorem dX12_tens_17 : decode cX12_tens 17 = .ok (.goto (-13), 3) := by decide +kernel
theorem dX12_tens_20 : decode cX12_tens 20 = .ok (.iload_n 1, 1) := by decide +kernel
theorem dX12_tens_21 : decode cX12_tens 21 = .ok (.ireturn, 1) := by decide +kernel
theorem dX12_oftenFalls_0 : decode cX12_oftenFalls 0 = .ok (.aload_n 0, 1) := by decide +kernel
theorem dX12_oftenFalls_1 : decode cX12_oftenFalls 1 = .ok (.iload_n 1, 1) := by decide +kernel
theorem dX12_oftenFalls_2 : decode cX12_oftenFalls 2 = .ok (.invokevirtual 367, 3) := by decide +kernel
theorem dX12_oftenFalls_5 : decode cX12_oftenFalls 5 = .ok (.istore_n 3, 1) := by decide +kernel
theorem dX12_oftenFalls_6 : decode cX12_oftenFalls 6 = .ok (.iconst 0, 1) := by decide +kernel
theorem dX12_oftenFalls_7 : decode cX12_oftenFalls 7 = .ok (.istore 4, 2) := by decide +kernel
theorem dX12_oftenFalls_9 : decode cX12_oftenFalls 9 = .ok (.iconst 0, 1) := by decide +kernel
theorem dX12_oftenFalls_10 : decode cX12_oftenFalls 10 = .ok (.istore 5, 2) := by decide +kernel
theorem dX12_oftenFalls_12 : decode cX12_oftenFalls 12 = .ok (.iload 5, 2) := by decide +kernel
theorem dX12_oftenFalls_14 : decode cX12_oftenFalls 14 = .ok (.iload_n 3, 1) := by decide +kernel
theorem dX12_oftenFalls_15 : decode cX12_oftenFalls 15 = .ok (.if_icmp .gt 132, 3) := by decide +kernel
theorem dX12_oftenFalls_18 : decode cX12_oftenFalls 18 = .ok (.iload 5, 2) := by decide +kernel
theorem dX12_oftenFalls_20 : decode cX12_oftenFalls 20 = .ok (.iload_n 3, 1) := by decide +kernel
theorem dX12_oftenFalls_21 : decode cX12_oftenFalls 21 = .ok (.iconst (-1), 1) := by decide +kernel
theorem dX12_oftenFalls_22 : decode cX12_oftenFalls 22 = .ok (.ixor, 1) := by decide +kernel
theorem dX12_oftenFalls_23 : decode cX12_oftenFalls 23 = .ok (.iand, 1) := by decide +kernel
theorem dX12_oftenFalls_24 : decode cX12_oftenFalls 24 = .ok (.ifCond .eq 6, 3) := by decide +kernel
theorem dX12_oftenFalls_27 : decode cX12_oftenFalls 27 = .ok (.goto 114, 3) := by decide +kernel
theorem dX12_oftenFalls_30 : decode cX12_oftenFalls 30 = .ok (.iconst 1, 1) := by decide +kernel
theorem dX12_oftenFalls_31 : decode cX12_oftenFalls 31 = .ok (.istore 6, 2) := by decide +kernel
theorem dX12_oftenFalls_33 : decode cX12_oftenFalls 33 = .ok (.iconst 0, 1) := by decide +kernel
theorem dX12_oftenFalls_34 : decode cX12_oftenFalls 34 = .ok (.istore 7, 2) := by decide +kernel
theorem dX12_oftenFalls_36 : decode cX12_oftenFalls 36 = .ok (.iload 7, 2) := by decide +kernel
theorem dX12_oftenFalls_38 : decode cX12_oftenFalls 38 = .ok (.aload_n 0, 1) := by decide +kernel
theorem dX12_oftenFalls_39 : decode cX12_oftenFalls 39 = .ok (.getfield 46, 3) := by decide +kernel
theorem dX12_oftenFalls_42 : decode cX12_oftenFalls 42 = .ok (.aload_n 0, 1) := by decide +kernel
theorem dX12_oftenFalls_43 : decode cX12_oftenFalls 43 = .ok (.getfield 230, 3) := by decide +kernel
theorem dX12_oftenFalls_46 : decode cX12_oftenFalls 46 = .ok (.iaload, 1) := by decide +kernel
theorem dX12_oftenFalls_47 : decode cX12_oftenFalls 47 = .ok (.if_icmp .ge 71, 3) := by decide +kernel
theorem dX12_oftenFalls_50 : decode cX12_oftenFalls 50 = .ok (.iload_n 3, 1) := by decide +kernel
theorem dX12_oftenFalls_51 : decode cX12_oftenFalls 51 = .ok (.iload 7, 2) := by decide +kernel
theorem dX12_oftenFalls_53 : decode cX12_oftenFalls 53 = .ok (.ishr, 1) := by decide +kernel
theorem dX12_oftenFalls_54 : decode cX12_oftenFalls 54 = .ok (.iconst 1, 1) := by decide +kernel
theorem dX12_oftenFalls_55 : decode cX12_oftenFalls 55 = .ok (.iand, 1) := by decide +kernel
theorem dX12_oftenFalls_56 : decode cX12_oftenFalls 56 = .ok (.iconst 1, 1) := by decide +kernel
theorem dX12_oftenFalls_57 : decode cX12_oftenFalls 57 = .ok (.if_icmp .ne 55, 3) := by decide +kernel
theorem dX12_oftenFalls_60 : decode cX12_oftenFalls 60 = .ok (.iload 6, 2) := by decide +kernel
theorem dX12_oftenFalls_62 : decode cX12_oftenFalls 62 = .ok (.iload 5, 2) := by decide +kernel
theorem dX12_oftenFalls_64 : decode cX12_oftenFalls 64 = .ok (.iload 7, 2) := by decide +kernel
theorem dX12_oftenFalls_66 : decode cX12_oftenFalls 66 = .ok (.ishr, 1) := by decide +kernel
theorem dX12_oftenFalls_67 : decode cX12_oftenFalls 67 = .ok (.iconst 1, 1) := by decide +kernel
theorem dX12_oftenFalls_68 : decode cX12_oftenFalls 68 = .ok (.iand, 1) := by decide +kernel
theorem dX12_oftenFalls_69 : decode cX12_oftenFalls 69 = .ok (.iconst 1, 1) := by decide +kernel
theorem dX12_oftenFalls_70 : decode cX12_oftenFalls 70 = .ok (.if_icmp .ne 21, 3) := by decide +kernel
theorem dX12_oftenFalls_73 : decode cX12_oftenFalls 73 = .ok (.aload_n 0, 1) := by decide +kernel
theorem dX12_oftenFalls_74 : decode cX12_oftenFalls 74 = .ok (.getfield 55, 3) := by decide +kernel
theorem dX12_oftenFalls_77 : decode cX12_oftenFalls 77 = .ok (.bipush 7, 2) := by decide +kernel
theorem dX12_oftenFalls_79 : decode cX12_oftenFalls 79 = .ok (.aload_n 0, 1) := by decide +kernel
theorem dX12_oftenFalls_80 : decode cX12_oftenFalls 80 = .ok (.getfield 230, 3) := by decide +kernel
theorem dX12_oftenFalls_83 : decode cX12_oftenFalls 83 = .ok (.imul, 1) := by decide +kernel
theorem dX12_oftenFalls_84 : decode cX12_oftenFalls 84 = .ok (.iload 7, 2) := by decide +kernel
theorem dX12_oftenFalls_86 : decode cX12_oftenFalls 86 = .ok (.iadd, 1) := by decide +kernel
theorem dX12_oftenFalls_87 : decode cX12_oftenFalls 87 = .ok (.iaload, 1) := by decide +kernel
theorem dX12_oftenFalls_88 : decode cX12_oftenFalls 88 = .ok (.goto 21, 3) := by decide +kernel
theorem dX12_oftenFalls_91 : decode cX12_oftenFalls 91 = .ok (.bipush 10, 2) := by decide +kernel
theorem dX12_oftenFalls_93 : decode cX12_oftenFalls 93 = .ok (.aload_n 0, 1) := by decide +kernel
theorem dX12_oftenFalls_94 : decode cX12_oftenFalls 94 = .ok (.getfield 55, 3) := by decide +kernel
theorem dX12_oftenFalls_97 : decode cX12_oftenFalls 97 = .ok (.bipush 7, 2) := by decide +kernel
theorem dX12_oftenFalls_99 : decode cX12_oftenFalls 99 = .ok (.aload_n 0, 1) := by decide +kernel
theorem dX12_oftenFalls_100 : decode cX12_oftenFalls 100 = .ok (.getfield 230, 3) := by decide +kernel
theorem dX12_oftenFalls_103 : decode cX12_oftenFalls 103 = .ok (.imul, 1) := by decide +kernel
theorem dX12_oftenFalls_104 : decode cX12_oftenFalls 104 = .ok (.iload 7, 2) := by decide +kernel
theorem dX12_oftenFalls_106 : decode cX12_oftenFalls 106 = .ok (.iadd, 1) := by decide +kernel
theorem dX12_oftenFalls_107 : decode cX12_oftenFalls 107 = .ok (.iaload, 1) := by decide +kernel
theorem dX12_oftenFalls_108 : decode cX12_oftenFalls 108 = .ok (.isub, 1) := by decide +kernel
theorem dX12_oftenFalls_109 : decode cX12_oftenFalls 109 = .ok (.imul, 1) := by decide +kernel
theorem dX12_oftenFalls_110 : decode cX12_oftenFalls 110 = .ok (.istore 6, 2) := by decide +kernel
theorem dX12_oftenFalls_112 : decode cX12_oftenFalls 112 = .ok (.iinc 7 1, 3) := by decide +kernel
theorem dX12_oftenFalls_115 : decode cX12_oftenFalls 115 = .ok (.goto (-79), 3) := by decide +kernel
theorem dX12_oftenFalls_118 : decode cX12_oftenFalls 118 = .ok (.iload 6, 2) := by decide +kernel
theorem dX12_oftenFalls_120 : decode cX12_oftenFalls 120 = .ok (.ifCond .le 21, 3) := by decide +kernel
theorem dX12_oftenFalls_123 : decode cX12_oftenFalls 123 = .ok (.aload_n 0, 1) := by decide +kernel
theorem dX12_oftenFalls_124 : decode cX12_oftenFalls 124 = .ok (.iload_n 1, 1) := by decide +kernel
theorem dX12_oftenFalls_125 : decode cX12_oftenFalls 125 = .ok (.iload 5, 2) := by decide +kernel
theorem dX12_oftenFalls_127 : decode cX12_oftenFalls 127 = .ok (.invokevirtual 373, 3) := by decide +kernel
theorem dX12_oftenFalls_130 : decode cX12_oftenFalls 130 = .ok (.iload_n 2, 1) := by decide +kernel
theorem dX12_oftenFalls_131 : decode cX12_oftenFalls 131 = .ok (.if_icmp .ne 10, 3) := by decide +kernel
theorem dX12_oftenFalls_134 : decode cX12_oftenFalls 134 = .ok (.iload 4, 2) := by decide +kernel
theorem dX12_oftenFalls_136 : decode cX12_oftenFalls 136 = .ok (.iload 6, 2) := by decide +kernel
theorem dX12_oftenFalls_138 : decode cX12_oftenFalls 138 = .ok (.iadd, 1) := by decide +kernel
theorem dX12_oftenFalls_139 : decode cX12_oftenFalls 139 = .ok (.istore 4, 2) := by decide +kernel
theorem dX12_oftenFalls_141 : decode cX12_oftenFalls 141 = .ok (.iinc 5 1, 3) := by decide +kernel
theorem dX12_oftenFalls_144 : decode cX12_oftenFalls 144 = .ok (.goto (-132), 3) := by decide +kernel
theorem dX12_oftenFalls_147 : decode cX12_oftenFalls 147 = .ok (.iload 4, 2) := by decide +kernel
theorem dX12_oftenFalls_149 : decode cX12_oftenFalls 149 = .ok (.ireturn, 1) := by decide +kernel
theorem dX12_lineOf_0 : decode cX12_lineOf 0 = .ok (.aload_n 0, 1) := by decide +kernel
theorem dX12_lineOf_1 : decode cX12_lineOf 1 = .ok (.iload_n 2, 1) := by decide +kernel
theorem dX12_lineOf_2 : decode cX12_lineOf 2 = .ok (.invokevirtual 367, 3) := by decide +kernel
theorem dX12_lineOf_5 : decode cX12_lineOf 5 = .ok (.invokestatic 403, 3) := by decide +kernel
theorem dX12_lineOf_8 : decode cX12_lineOf 8 = .ok (.invokestatic 406, 3) := by decide +kernel
theorem dX12_lineOf_11 : decode cX12_lineOf 11 = .ok (.istore 4, 2) := by decide +kernel
theorem dX12_lineOf_13 : decode cX12_lineOf 13 = .ok (.iload_n 1, 1) := by decide +kernel
theorem dX12_lineOf_14 : decode cX12_lineOf 14 = .ok (.iload 4, 2) := by decide +kernel
theorem dX12_lineOf_16 : decode cX12_lineOf 16 = .ok (.invokestatic 409, 3) := by decide +kernel
theorem dX12_lineOf_19 : decode cX12_lineOf 19 = .ok (.istore 5, 2) := by decide +kernel
theorem dX12_lineOf_21 : decode cX12_lineOf 21 = .ok (.iload_n 3, 1) := by decide +kernel
theorem dX12_lineOf_22 : decode cX12_lineOf 22 = .ok (.ifCond .eq 8, 3) := by decide +kernel
theorem dX12_lineOf_25 : decode cX12_lineOf 25 = .ok (.iload 4, 2) := by decide +kernel
theorem dX12_lineOf_27 : decode cX12_lineOf 27 = .ok (.goto 4, 3) := by decide +kernel
theorem dX12_lineOf_30 : decode cX12_lineOf 30 = .ok (.iload_n 1, 1) := by decide +kernel
theorem dX12_lineOf_31 : decode cX12_lineOf 31 = .ok (.iload 5, 2) := by decide +kernel
theorem dX12_lineOf_33 : decode cX12_lineOf 33 = .ok (.idiv, 1) := by decide +kernel
theorem dX12_lineOf_34 : decode cX12_lineOf 34 = .ok (.ireturn, 1) := by decide +kernel
theorem dX12_isAsked_0 : decode cX12_isAsked 0 = .ok (.aload_n 0, 1) := by decide +kernel
theorem dX12_isAsked_1 : decode cX12_isAsked 1 = .ok (.iload_n 1, 1) := by decide +kernel
theorem dX12_isAsked_2 : decode cX12_isAsked 2 = .ok (.invokevirtual 388, 3) := by decide +kernel
theorem dX12_isAsked_5 : decode cX12_isAsked 5 = .ok (.ifCond .eq 15, 3) := by decide +kernel
theorem dX12_isAsked_8 : decode cX12_isAsked 8 = .ok (.aload_n 0, 1) := by decide +kernel
theorem dX12_isAsked_9 : decode cX12_isAsked 9 = .ok (.iload_n 2, 1) := by decide +kernel
theorem dX12_isAsked_10 : decode cX12_isAsked 10 = .ok (.invokevirtual 394, 3) := by decide +kernel
theorem dX12_isAsked_13 : decode cX12_isAsked 13 = .ok (.ifCond .eq 7, 3) := by decide +kernel
theorem dX12_isAsked_16 : decode cX12_isAsked 16 = .ok (.iconst 1, 1) := by decide +kernel
theorem dX12_isAsked_17 : decode cX12_isAsked 17 = .ok (.goto 4, 3) := by decide +kernel
theorem dX12_isAsked_20 : decode cX12_isAsked 20 = .ok (.iconst 0, 1) := by decide +kernel
theorem dX12_isAsked_21 : decode cX12_isAsked 21 = .ok (.ireturn, 1) := by decide +kernel
theorem dX12_likely_0 : decode cX12_likely 0 = .ok (.aload_n 0, 1) := by decide +kernel
theorem dX12_likely_1 : decode cX12_likely 1 = .ok (.iload_n 1, 1) := by decide +kernel
theorem dX12_likely_2 : decode cX12_likely 2 = .ok (.iload_n 2, 1) := by decide +kernel
theorem dX12_likely_3 : decode cX12_likely 3 = .ok (.invokevirtual 412, 3) := by decide +kernel
theorem dX12_likely_6 : decode cX12_likely 6 = .ok (.ifCond .ne 5, 3) := by decide +kernel
theorem dX12_likely_9 : decode cX12_likely 9 = .ok (.iconst (-1), 1) := by decide +kernel
theorem dX12_likely_10 : decode cX12_likely 10 = .ok (.ireturn, 1) := by decide +kernel
theorem dX12_likely_11 : decode cX12_likely 11 = .ok (.aload_n 0, 1) := by decide +kernel
theorem dX12_likely_12 : decode cX12_likely 12 = .ok (.invokevirtual 385, 3) := by decide +kernel
theorem dX12_likely_15 : decode cX12_likely 15 = .ok (.aload_n 0, 1) := by decide +kernel
theorem dX12_likely_16 : decode cX12_likely 16 = .ok (.aload_n 0, 1) := by decide +kernel
theorem dX12_likely_17 : decode cX12_likely 17 = .ok (.iload_n 1, 1) := by decide +kernel
theorem dX12_likely_18 : decode cX12_likely 18 = .ok (.iload_n 2, 1) := by decide +kernel
theorem dX12_likely_19 : decode cX12_likely 19 = .ok (.invokevirtual 416, 3) := by decide +kernel
theorem dX12_likely_22 : decode cX12_likely 22 = .ok (.iload_n 1, 1) := by decide +kernel
theorem dX12_likely_23 : decode cX12_likely 23 = .ok (.iload_n 3, 1) := by decide +kernel
theorem dX12_likely_24 : decode cX12_likely 24 = .ok (.invokevirtual 419, 3) := by decide +kernel
theorem dX12_likely_27 : decode cX12_likely 27 = .ok (.ireturn, 1) := by decide +kernel
theorem dX12_change_0 : decode cX12_change 0 = .ok (.aload_n 0, 1) := by decide +kernel
theorem dX12_change_1 : decode cX12_change 1 = .ok (.iload_n 1, 1) := by decide +kernel
theorem dX12_change_2 : decode cX12_change 2 = .ok (.iload_n 2, 1) := by decide +kernel
theorem dX12_change_3 : decode cX12_change 3 = .ok (.invokevirtual 412, 3) := by decide +kernel
theorem dX12_change_6 : decode cX12_change 6 = .ok (.ifCond .eq 12, 3) := by decide +kernel
theorem dX12_change_9 : decode cX12_change 9 = .ok (.iload_n 3, 1) := by decide +kernel
theorem dX12_change_10 : decode cX12_change 10 = .ok (.iconst 0, 1) := by decide +kernel
theorem dX12_change_11 : decode cX12_change 11 = .ok (.iconst 1, 1) := by decide +kernel
theorem dX12_change_12 : decode cX12_change 12 = .ok (.invokestatic 314, 3) := by decide +kernel
theorem dX12_change_15 : decode cX12_change 15 = .ok (.ifCond .ne 5, 3) := by decide +kernel
theorem dX12_change_18 : decode cX12_change 18 = .ok (.iconst (-1), 1) := by decide +kernel
theorem dX12_change_19 : decode cX12_change 19 = .ok (.ireturn, 1) := by decide +kernel
theorem dX12_change_20 : decode cX12_change 20 = .ok (.aload_n 0, 1) := by decide +kernel
theorem dX12_change_21 : decode cX12_change 21 = .ok (.invokevirtual 385, 3) := by decide +kernel
theorem dX12_change_24 : decode cX12_change 24 = .ok (.aload_n 0, 1) := by decide +kernel
theorem dX12_change_25 : decode cX12_change 25 = .ok (.iload_n 1, 1) := by decide +kernel
theorem dX12_change_26 : decode cX12_change 26 = .ok (.invokevirtual 367, 3) := by decide +kernel
theorem dX12_change_29 : decode cX12_change 29 = .ok (.istore 4, 2) := by decide +kernel
theorem dX12_change_31 : decode cX12_change 31 = .ok (.iconst 0, 1) := by decide +kernel
theorem dX12_change_32 : decode cX12_change 32 = .ok (.istore 5, 2) := by decide +kernel
theorem dX12_change_34 : decode cX12_change 34 = .ok (.iload 5, 2) := by decide +kernel
theorem dX12_change_36 : decode cX12_change 36 = .ok (.aload_n 0, 1) := by decide +kernel
theorem dX12_change_37 : decode cX12_change 37 = .ok (.getfield 46, 3) := by decide +kernel
theorem dX12_change_40 : decode cX12_change 40 = .ok (.aload_n 0, 1) := by decide +kernel
theorem dX12_change_41 : decode cX12_change 41 = .ok (.getfield 230, 3) := by decide +kernel
theorem dX12_change_44 : decode cX12_change 44 = .ok (.iaload, 1) := by decide +kernel
theorem dX12_change_45 : decode cX12_change 45 = .ok (.if_icmp .ge 33, 3) := by decide +kernel
theorem dX12_change_48 : decode cX12_change 48 = .ok (.aload_n 0, 1) := by decide +kernel
theorem dX12_change_49 : decode cX12_change 49 = .ok (.getfield 113, 3) := by decide +kernel
theorem dX12_change_52 : decode cX12_change 52 = .ok (.bipush 7, 2) := by decide +kernel
theorem dX12_change_54 : decode cX12_change 54 = .ok (.iload 5, 2) := by decide +kernel
theorem dX12_change_56 : decode cX12_change 56 = .ok (.iadd, 1) := by decide +kernel
theorem dX12_change_57 : decode cX12_change 57 = .ok (.iaload, 1) := by decide +kernel
theorem dX12_change_58 : decode cX12_change 58 = .ok (.ifCond .lt 14, 3) := by decide +kernel
theorem dX12_change_61 : decode cX12_change 61 = .ok (.iload 4, 2) := by decide +kernel
theorem dX12_change_63 : decode cX12_change 63 = .ok (.iconst 1, 1) := by decide +kernel
theorem dX12_change_64 : decode cX12_change 64 = .ok (.iload 5, 2) := by decide +kernel
theorem dX12_change_66 : decode cX12_change 66 = .ok (.ishl, 1) := by decide +kernel
theorem dX12_change_67 : decode cX12_change 67 = .ok (.iconst (-1), 1) := by decide +kernel
theorem dX12_change_68 : decode cX12_change 68 = .ok (.ixor, 1) := by decide +kernel
theorem dX12_change_69 : decode cX12_change 69 = .ok (.iand, 1) := by decide +kernel
theorem dX12_change_70 : decode cX12_change 70 = .ok (.istore 4, 2) := by decide +kernel
theorem dX12_change_72 : decode cX12_change 72 = .ok (.iinc 5 1, 3) := by decide +kernel
theorem dX12_change_75 : decode cX12_change 75 = .ok (.goto (-41), 3) := by decide +kernel
theorem dX12_change_78 : decode cX12_change 78 = .ok (.bipush (-2), 2) := by decide +kernel
theorem dX12_change_80 : decode cX12_change 80 = .ok (.istore 5, 2) := by decide +kernel
theorem dX12_change_82 : decode cX12_change 82 = .ok (.iconst 0, 1) := by decide +kernel
theorem dX12_change_83 : decode cX12_change 83 = .ok (.istore 6, 2) := by decide +kernel
theorem dX12_change_85 : decode cX12_change 85 = .ok (.iload 6, 2) := by decide +kernel
theorem dX12_change_87 : decode cX12_change 87 = .ok (.iload 4, 2) := by decide +kernel
theorem dX12_change_89 : decode cX12_change 89 = .ok (.if_icmp .gt 117, 3) := by decide +kernel
theorem dX12_change_92 : decode cX12_change 92 = .ok (.iload 6, 2) := by decide +kernel
theorem dX12_change_94 : decode cX12_change 94 = .ok (.iload 4, 2) := by decide +kernel
theorem dX12_change_96 : decode cX12_change 96 = .ok (.iconst (-1), 1) := by decide +kernel
theorem dX12_change_97 : decode cX12_change 97 = .ok (.ixor, 1) := by decide +kernel
theorem dX12_change_98 : decode cX12_change 98 = .ok (.iand, 1) := by decide +kernel
theorem dX12_change_99 : decode cX12_change 99 = .ok (.ifCond .ne 101, 3) := by decide +kernel
theorem dX12_change_102 : decode cX12_change 102 = .ok (.iload 5, 2) := by decide +kernel
theorem dX12_change_104 : decode cX12_change 104 = .ok (.ifCond .lt 19, 3) := by decide +kernel
theorem dX12_change_107 : decode cX12_change 107 = .ok (.iload 6, 2) := by decide +kernel
theorem dX12_change_109 : decode cX12_change 109 = .ok (.invokestatic 403, 3) := by decide +kernel
theorem dX12_change_112 : decode cX12_change 112 = .ok (.iload 5, 2) := by decide +kernel
theorem dX12_change_114 : decode cX12_change 114 = .ok (.invokestatic 403, 3) := by decide +kernel
theorem dX12_change_117 : decode cX12_change 117 = .ok (.if_icmp .lt 6, 3) := by decide +kernel
theorem dX12_change_120 : decode cX12_change 120 = .ok (.goto 80, 3) := by decide +kernel
theorem dX12_change_123 : decode cX12_change 123 = .ok (.aload_n 0, 1) := by decide +kernel
theorem dX12_change_124 : decode cX12_change 124 = .ok (.invokevirtual 385, 3) := by decide +kernel
theorem dX12_change_127 : decode cX12_change 127 = .ok (.iconst 0, 1) := by decide +kernel
theorem dX12_change_128 : decode cX12_change 128 = .ok (.istore 7, 2) := by decide +kernel
theorem dX12_change_130 : decode cX12_change 130 = .ok (.iload 7, 2) := by decide +kernel
theorem dX12_change_132 : decode cX12_change 132 = .ok (.aload_n 0, 1) := by decide +kernel
theorem dX12_change_133 : decode cX12_change 133 = .ok (.getfield 46, 3) := by decide +kernel
theorem dX12_change_136 : decode cX12_change 136 = .ok (.aload_n 0, 1) := by decide +kernel
theorem dX12_change_137 : decode cX12_change 137 = .ok (.getfield 230, 3) := by decide +kernel
theorem dX12_change_140 : decode cX12_change 140 = .ok (.iaload, 1) := by decide +kernel
theorem dX12_change_141 : decode cX12_change 141 = .ok (.if_icmp .ge 45, 3) := by decide +kernel
theorem dX12_change_144 : decode cX12_change 144 = .ok (.iload 6, 2) := by decide +kernel
theorem dX12_change_146 : decode cX12_change 146 = .ok (.iload 7, 2) := by decide +kernel
theorem dX12_change_148 : decode cX12_change 148 = .ok (.ishr, 1) := by decide +kernel
theorem dX12_change_149 : decode cX12_change 149 = .ok (.iconst 1, 1) := by decide +kernel
theorem dX12_change_150 : decode cX12_change 150 = .ok (.iand, 1) := by decide +kernel
theorem dX12_change_151 : decode cX12_change 151 = .ok (.iconst 1, 1) := by decide +kernel
theorem dX12_change_152 : decode cX12_change 152 = .ok (.if_icmp .ne 28, 3) := by decide +kernel
theorem dX12_change_155 : decode cX12_change 155 = .ok (.aload_n 0, 1) := by decide +kernel
theorem dX12_change_156 : decode cX12_change 156 = .ok (.iload 7, 2) := by decide +kernel
theorem dX12_change_158 : decode cX12_change 158 = .ok (.aload_n 0, 1) := by decide +kernel
theorem dX12_change_159 : decode cX12_change 159 = .ok (.getfield 116, 3) := by decide +kernel
theorem dX12_change_162 : decode cX12_change 162 = .ok (.iload 7, 2) := by decide +kernel
theorem dX12_change_164 : decode cX12_change 164 = .ok (.iaload, 1) := by decide +kernel
theorem dX12_change_165 : decode cX12_change 165 = .ok (.iconst 1, 1) := by decide +kernel
theorem dX12_change_166 : decode cX12_change 166 = .ok (.iadd, 1) := by decide +kernel
theorem dX12_change_167 : decode cX12_change 167 = .ok (.aload_n 0, 1) := by decide +kernel
theorem dX12_change_168 : decode cX12_change 168 = .ok (.getfield 43, 3) := by decide +kernel
theorem dX12_change_171 : decode cX12_change 171 = .ok (.aload_n 0, 1) := by decide +kernel
theorem dX12_change_172 : decode cX12_change 172 = .ok (.getfield 230, 3) := by decide +kernel
theorem dX12_change_175 : decode cX12_change 175 = .ok (.iaload, 1) := by decide +kernel
theorem dX12_change_176 : decode cX12_change 176 = .ok (.irem, 1) := by decide +kernel
theorem dX12_change_177 : decode cX12_change 177 = .ok (.invokevirtual 397, 3) := by decide +kernel
theorem dX12_change_180 : decode cX12_change 180 = .ok (.iinc 7 1, 3) := by decide +kernel
theorem dX12_change_183 : decode cX12_change 183 = .ok (.goto (-53), 3) := by decide +kernel
theorem dX12_change_186 : decode cX12_change 186 = .ok (.aload_n 0, 1) := by decide +kernel
theorem dX12_change_187 : decode cX12_change 187 = .ok (.iload_n 1, 1) := by decide +kernel
theorem dX12_change_188 : decode cX12_change 188 = .ok (.iconst 0, 1) := by decide +kernel
theorem dX12_change_189 : decode cX12_change 189 = .ok (.invokevirtual 373, 3) := by decide +kernel
theorem dX12_change_192 : decode cX12_change 192 = .ok (.iload_n 2, 1) := by decide +kernel
theorem dX12_change_193 : decode cX12_change 193 = .ok (.if_icmp .ne 7, 3) := by decide +kernel
theorem dX12_change_196 : decode cX12_change 196 = .ok (.iload 6, 2) := by decide +kernel
theorem dX12_change_198 : decode cX12_change 198 = .ok (.istore 5, 2) := by decide +kernel
theorem dX12_change_200 : decode cX12_change 200 = .ok (.iinc 6 1, 3) := by decide +kernel
theorem dX12_change_203 : decode cX12_change 203 = .ok (.goto (-118), 3) := by decide +kernel
theorem dX12_change_206 : decode cX12_change 206 = .ok (.iload 5, 2) := by decide +kernel
theorem dX12_change_208 : decode cX12_change 208 = .ok (.ifCond .lt 8, 3) := by decide +kernel
theorem dX12_change_211 : decode cX12_change 211 = .ok (.iload_n 3, 1) := by decide +kernel
theorem dX12_change_212 : decode cX12_change 212 = .ok (.iconst 1, 1) := by decide +kernel
theorem dX12_change_213 : decode cX12_change 213 = .ok (.if_icmp .ne 8, 3) := by decide +kernel
theorem dX12_change_216 : decode cX12_change 216 = .ok (.iload 5, 2) := by decide +kernel
theorem dX12_change_218 : decode cX12_change 218 = .ok (.goto 8, 3) := by decide +kernel
theorem dX12_change_221 : decode cX12_change 221 = .ok (.iload 5, 2) := by decide +kernel
theorem dX12_change_223 : decode cX12_change 223 = .ok (.invokestatic 403, 3) := by decide +kernel
theorem dX12_change_226 : decode cX12_change 226 = .ok (.ireturn, 1) := by decide +kernel
theorem dX12_setsManners_0 : decode cX12_setsManners 0 = .ok (.iconst 0, 1) := by decide +kernel
theorem dX12_setsManners_1 : decode cX12_setsManners 1 = .ok (.istore_n 2, 1) := by decide +kernel
theorem dX12_setsManners_2 : decode cX12_setsManners 2 = .ok (.iload_n 2, 1) := by decide +kernel
theorem dX12_setsManners_3 : decode cX12_setsManners 3 = .ok (.aload_n 0, 1) := by decide +kernel
theorem dX12_setsManners_4 : decode cX12_setsManners 4 = .ok (.getfield 423, 3) := by decide +kernel
theorem dX12_setsManners_7 : decode cX12_setsManners 7 = .ok (.if_icmp .ge 37, 3) := by decide +kernel
theorem dX12_setsManners_10 : decode cX12_setsManners 10 = .ok (.aload_n 0, 1) := by decide +kernel
theorem dX12_setsManners_11 : decode cX12_setsManners 11 = .ok (.getfield 116, 3) := by decide +kernel
theorem dX12_setsManners_14 : decode cX12_setsManners 14 = .ok (.bipush 28, 2) := by decide +kernel
theorem dX12_setsManners_16 : decode cX12_setsManners 16 = .ok (.aload_n 0, 1) := by decide +kernel
theorem dX12_setsManners_17 : decode cX12_setsManners 17 = .ok (.getfield 128, 3) := by decide +kernel
theorem dX12_setsManners_20 : decode cX12_setsManners 20 = .ok (.iload_n 2, 1) := by decide +kernel
theorem dX12_setsManners_21 : decode cX12_setsManners 21 = .ok (.iaload, 1) := by decide +kernel
theorem dX12_setsManners_22 : decode cX12_setsManners 22 = .ok (.iadd, 1) := by decide +kernel
theorem dX12_setsManners_23 : decode cX12_setsManners 23 = .ok (.iload_n 1, 1) := by decide +kernel
theorem dX12_setsManners_24 : decode cX12_setsManners 24 = .ok (.iconst 2, 1) := by decide +kernel
theorem dX12_setsManners_25 : decode cX12_setsManners 25 = .ok (.aload_n 0, 1) := by decide +kernel
theorem dX12_setsManners_26 : decode cX12_setsManners 26 = .ok (.getfield 423, 3) := by decide +kernel
theorem dX12_setsManners_29 : decode cX12_setsManners 29 = .ok (.iconst 1, 1) := by decide +kernel
theorem dX12_setsManners_30 : decode cX12_setsManners 30 = .ok (.isub, 1) := by decide +kernel
theorem dX12_setsManners_31 : decode cX12_setsManners 31 = .ok (.iload_n 2, 1) := by decide +kernel
theorem dX12_setsManners_32 : decode cX12_setsManners 32 = .ok (.isub, 1) := by decide +kernel
theorem dX12_setsManners_33 : decode cX12_setsManners 33 = .ok (.imul, 1) := by decide +kernel
theorem dX12_setsManners_34 : decode cX12_setsManners 34 = .ok (.ishr, 1) := by decide +kernel
theorem dX12_setsManners_35 : decode cX12_setsManners 35 = .ok (.iconst 3, 1) := by decide +kernel
theorem dX12_setsManners_36 : decode cX12_setsManners 36 = .ok (.iand, 1) := by decide +kernel
theorem dX12_setsManners_37 : decode cX12_setsManners 37 = .ok (.iastore, 1) := by decide +kernel
theorem dX12_setsManners_38 : decode cX12_setsManners 38 = .ok (.iinc 2 1, 3) := by decide +kernel
theorem dX12_setsManners_41 : decode cX12_setsManners 41 = .ok (.goto (-39), 3) := by decide +kernel
theorem dX12_setsManners_44 : decode cX12_setsManners 44 = .ok (.return_, 1) := by decide +kernel
theorem dX12_fillsChosen_0 : decode cX12_fillsChosen 0 = .ok (.aload_n 0, 1) := by decide +kernel
theorem dX12_fillsChosen_1 : decode cX12_fillsChosen 1 = .ok (.invokevirtual 385, 3) := by decide +kernel
theorem dX12_fillsChosen_4 : decode cX12_fillsChosen 4 = .ok (.aload_n 0, 1) := by decide +kernel
theorem dX12_fillsChosen_5 : decode cX12_fillsChosen 5 = .ok (.iconst 0, 1) := by decide +kernel
theorem dX12_fillsChosen_6 : decode cX12_fillsChosen 6 = .ok (.putfield 423, 3) := by decide +kernel
theorem dX12_fillsChosen_9 : decode cX12_fillsChosen 9 = .ok (.iconst 0, 1) := by decide +kernel
theorem dX12_fillsChosen_10 : decode cX12_fillsChosen 10 = .ok (.istore_n 3, 1) := by decide +kernel
theorem dX12_fillsChosen_11 : decode cX12_fillsChosen 11 = .ok (.iload_n 3, 1) := by decide +kernel
theorem dX12_fillsChosen_12 : decode cX12_fillsChosen 12 = .ok (.aload_n 0, 1) := by decide +kernel
theorem dX12_fillsChosen_13 : decode cX12_fillsChosen 13 = .ok (.getfield 46, 3) := by decide +kernel
theorem dX12_fillsChosen_16 : decode cX12_fillsChosen 16 = .ok (.aload_n 0, 1) := by decide +kernel
theorem dX12_fillsChosen_17 : decode cX12_fillsChosen 17 = .ok (.getfield 230, 3) := by decide +kernel
theorem dX12_fillsChosen_20 : decode cX12_fillsChosen 20 = .ok (.iaload, 1) := by decide +kernel
theorem dX12_fillsChosen_21 : decode cX12_fillsChosen 21 = .ok (.if_icmp .ge 63, 3) := by decide +kernel
theorem dX12_fillsChosen_24 : decode cX12_fillsChosen 24 = .ok (.aload_n 0, 1) := by decide +kernel
theorem dX12_fillsChosen_25 : decode cX12_fillsChosen 25 = .ok (.getfield 116, 3) := by decide +kernel
theorem dX12_fillsChosen_28 : decode cX12_fillsChosen 28 = .ok (.bipush 21, 2) := by decide +kernel
theorem dX12_fillsChosen_30 : decode cX12_fillsChosen 30 = .ok (.iload_n 3, 1) := by decide +kernel
theorem dX12_fillsChosen_31 : decode cX12_fillsChosen 31 = .ok (.iadd, 1) := by decide +kernel
theorem dX12_fillsChosen_32 : decode cX12_fillsChosen 32 = .ok (.iaload, 1) := by decide +kernel
theorem dX12_fillsChosen_33 : decode cX12_fillsChosen 33 = .ok (.iload_n 1, 1) := by decide +kernel
theorem dX12_fillsChosen_34 : decode cX12_fillsChosen 34 = .ok (.if_icmp .ne 44, 3) := by decide +kernel
theorem dX12_fillsChosen_37 : decode cX12_fillsChosen 37 = .ok (.aload_n 0, 1) := by decide +kernel
theorem dX12_fillsChosen_38 : decode cX12_fillsChosen 38 = .ok (.getfield 116, 3) := by decide +kernel
theorem dX12_fillsChosen_41 : decode cX12_fillsChosen 41 = .ok (.iload_n 3, 1) := by decide +kernel
theorem dX12_fillsChosen_42 : decode cX12_fillsChosen 42 = .ok (.iaload, 1) := by decide +kernel
theorem dX12_fillsChosen_43 : decode cX12_fillsChosen 43 = .ok (.iload_n 2, 1) := by decide +kernel
theorem dX12_fillsChosen_44 : decode cX12_fillsChosen 44 = .ok (.if_icmp .ne 34, 3) := by decide +kernel
theorem dX12_fillsChosen_47 : decode cX12_fillsChosen 47 = .ok (.aload_n 0, 1) := by decide +kernel
theorem dX12_fillsChosen_48 : decode cX12_fillsChosen 48 = .ok (.getfield 423, 3) := by decide +kernel
theorem dX12_fillsChosen_51 : decode cX12_fillsChosen 51 = .ok (.iconst 3, 1) := by decide +kernel
theorem dX12_fillsChosen_52 : decode cX12_fillsChosen 52 = .ok (.if_icmp .ne 6, 3) := by decide +kernel
theorem dX12_fillsChosen_55 : decode cX12_fillsChosen 55 = .ok (.goto 23, 3) := by decide +kernel
theorem dX12_fillsChosen_58 : decode cX12_fillsChosen 58 = .ok (.aload_n 0, 1) := by decide +kernel
theorem dX12_fillsChosen_59 : decode cX12_fillsChosen 59 = .ok (.getfield 128, 3) := by decide +kernel
theorem dX12_fillsChosen_62 : decode cX12_fillsChosen 62 = .ok (.aload_n 0, 1) := by decide +kernel
theorem dX12_fillsChosen_63 : decode cX12_fillsChosen 63 = .ok (.getfield 423, 3) := by decide +kernel
theorem dX12_fillsChosen_66 : decode cX12_fillsChosen 66 = .ok (.iload_n 3, 1) := by decide +kernel
theorem dX12_fillsChosen_67 : decode cX12_fillsChosen 67 = .ok (.iastore, 1) := by decide +kernel
theorem dX12_fillsChosen_68 : decode cX12_fillsChosen 68 = .ok (.aload_n 0, 1) := by decide +kernel
theorem dX12_fillsChosen_69 : decode cX12_fillsChosen 69 = .ok (.dup, 1) := by decide +kernel
theorem dX12_fillsChosen_70 : decode cX12_fillsChosen 70 = .ok (.getfield 423, 3) := by decide +kernel
theorem dX12_fillsChosen_73 : decode cX12_fillsChosen 73 = .ok (.iconst 1, 1) := by decide +kernel
theorem dX12_fillsChosen_74 : decode cX12_fillsChosen 74 = .ok (.iadd, 1) := by decide +kernel
theorem dX12_fillsChosen_75 : decode cX12_fillsChosen 75 = .ok (.putfield 423, 3) := by decide +kernel
theorem dX12_fillsChosen_78 : decode cX12_fillsChosen 78 = .ok (.iinc 3 1, 3) := by decide +kernel
theorem dX12_fillsChosen_81 : decode cX12_fillsChosen 81 = .ok (.goto (-70), 3) := by decide +kernel
theorem dX12_fillsChosen_84 : decode cX12_fillsChosen 84 = .ok (.aload_n 0, 1) := by decide +kernel
theorem dX12_fillsChosen_85 : decode cX12_fillsChosen 85 = .ok (.iconst (-1), 1) := by decide +kernel
theorem dX12_fillsChosen_86 : decode cX12_fillsChosen 86 = .ok (.putfield 426, 3) := by decide +kernel
theorem dX12_fillsChosen_89 : decode cX12_fillsChosen 89 = .ok (.iconst 0, 1) := by decide +kernel
theorem dX12_fillsChosen_90 : decode cX12_fillsChosen 90 = .ok (.istore_n 3, 1) := by decide +kernel
theorem dX12_fillsChosen_91 : decode cX12_fillsChosen 91 = .ok (.iload_n 3, 1) := by decide +kernel
theorem dX12_fillsChosen_92 : decode cX12_fillsChosen 92 = .ok (.iconst 1, 1) := by decide +kernel
theorem dX12_fillsChosen_93 : decode cX12_fillsChosen 93 = .ok (.iconst 2, 1) := by decide +kernel
theorem dX12_fillsChosen_94 : decode cX12_fillsChosen 94 = .ok (.aload_n 0, 1) := by decide +kernel
theorem dX12_fillsChosen_95 : decode cX12_fillsChosen 95 = .ok (.getfield 423, 3) := by decide +kernel
theorem dX12_fillsChosen_98 : decode cX12_fillsChosen 98 = .ok (.imul, 1) := by decide +kernel
theorem dX12_fillsChosen_99 : decode cX12_fillsChosen 99 = .ok (.ishl, 1) := by decide +kernel
theorem dX12_fillsChosen_100 : decode cX12_fillsChosen 100 = .ok (.if_icmp .ge 52, 3) := by decide +kernel
theorem dX12_fillsChosen_103 : decode cX12_fillsChosen 103 = .ok (.aload_n 0, 1) := by decide +kernel
theorem dX12_fillsChosen_104 : decode cX12_fillsChosen 104 = .ok (.iload_n 3, 1) := by decide +kernel
theorem dX12_fillsChosen_105 : decode cX12_fillsChosen 105 = .ok (.invokevirtual 429, 3) := by decide +kernel
theorem dX12_fillsChosen_108 : decode cX12_fillsChosen 108 = .ok (.aload_n 0, 1) := by decide +kernel
theorem dX12_fillsChosen_109 : decode cX12_fillsChosen 109 = .ok (.iload_n 1, 1) := by decide +kernel
theorem dX12_fillsChosen_110 : decode cX12_fillsChosen 110 = .ok (.iload_n 2, 1) := by decide +kernel
theorem dX12_fillsChosen_111 : decode cX12_fillsChosen 111 = .ok (.invokevirtual 416, 3) := by decide +kernel
theorem dX12_fillsChosen_114 : decode cX12_fillsChosen 114 = .ok (.istore 4, 2) := by decide +kernel
theorem dX12_fillsChosen_116 : decode cX12_fillsChosen 116 = .ok (.aload_n 0, 1) := by decide +kernel
theorem dX12_fillsChosen_117 : decode cX12_fillsChosen 117 = .ok (.getfield 426, 3) := by decide +kernel
theorem dX12_fillsChosen_120 : decode cX12_fillsChosen 120 = .ok (.ifCond .lt 15, 3) := by decide +kernel
theorem dX12_fillsChosen_123 : decode cX12_fillsChosen 123 = .ok (.iload 4, 2) := by decide +kernel
theorem dX12_fillsChosen_125 : decode cX12_fillsChosen 125 = .ok (.aload_n 0, 1) := by decide +kernel
theorem dX12_fillsChosen_126 : decode cX12_fillsChosen 126 = .ok (.getfield 432, 3) := by decide +kernel
theorem dX12_fillsChosen_129 : decode cX12_fillsChosen 129 = .ok (.if_icmp .gt 6, 3) := by decide +kernel
theorem dX12_fillsChosen_132 : decode cX12_fillsChosen 132 = .ok (.goto 14, 3) := by decide +kernel
theorem dX12_fillsChosen_135 : decode cX12_fillsChosen 135 = .ok (.aload_n 0, 1) := by decide +kernel
theorem dX12_fillsChosen_136 : decode cX12_fillsChosen 136 = .ok (.iload_n 3, 1) := by decide +kernel
theorem dX12_fillsChosen_137 : decode cX12_fillsChosen 137 = .ok (.putfield 426, 3) := by decide +kernel
theorem dX12_fillsChosen_140 : decode cX12_fillsChosen 140 = .ok (.aload_n 0, 1) := by decide +kernel
theorem dX12_fillsChosen_141 : decode cX12_fillsChosen 141 = .ok (.iload 4, 2) := by decide +kernel
theorem dX12_fillsChosen_143 : decode cX12_fillsChosen 143 = .ok (.putfield 432, 3) := by decide +kernel
theorem dX12_fillsChosen_146 : decode cX12_fillsChosen 146 = .ok (.iinc 3 1, 3) := by decide +kernel
theorem dX12_fillsChosen_149 : decode cX12_fillsChosen 149 = .ok (.goto (-58), 3) := by decide +kernel
theorem dX12_fillsChosen_152 : decode cX12_fillsChosen 152 = .ok (.return_, 1) := by decide +kernel
theorem dX12_choose_0 : decode cX12_choose 0 = .ok (.aload_n 0, 1) := by decide +kernel
theorem dX12_choose_1 : decode cX12_choose 1 = .ok (.iload_n 1, 1) := by decide +kernel
theorem dX12_choose_2 : decode cX12_choose 2 = .ok (.iload_n 2, 1) := by decide +kernel
theorem dX12_choose_3 : decode cX12_choose 3 = .ok (.invokevirtual 412, 3) := by decide +kernel
theorem dX12_choose_6 : decode cX12_choose 6 = .ok (.ifCond .eq 7, 3) := by decide +kernel
theorem dX12_choose_9 : decode cX12_choose 9 = .ok (.iload_n 3, 1) := by decide +kernel
theorem dX12_choose_10 : decode cX12_choose 10 = .ok (.ifCond .ge 5, 3) := by decide +kernel
theorem dX12_choose_13 : decode cX12_choose 13 = .ok (.iconst (-1), 1) := by decide +kernel
theorem dX12_choose_14 : decode cX12_choose 14 = .ok (.ireturn, 1) := by decide +kernel
theorem dX12_choose_15 : decode cX12_choose 15 = .ok (.aload_n 0, 1) := by decide +kernel
theorem dX12_choose_16 : decode cX12_choose 16 = .ok (.iload_n 1, 1) := by decide +kernel
theorem dX12_choose_17 : decode cX12_choose 17 = .ok (.iload_n 2, 1) := by decide +kernel
theorem dX12_choose_18 : decode cX12_choose 18 = .ok (.invokevirtual 435, 3) := by decide +kernel
theorem dX12_choose_21 : decode cX12_choose 21 = .ok (.iload_n 3, 1) := by decide +kernel
theorem dX12_choose_22 : decode cX12_choose 22 = .ok (.aload_n 0, 1) := by decide +kernel
theorem dX12_choose_23 : decode cX12_choose 23 = .ok (.getfield 423, 3) := by decide +kernel
theorem dX12_choose_26 : decode cX12_choose 26 = .ok (.if_icmp .ge 23, 3) := by decide +kernel
theorem dX12_choose_29 : decode cX12_choose 29 = .ok (.aload_n 0, 1) := by decide +kernel
theorem dX12_choose_30 : decode cX12_choose 30 = .ok (.getfield 426, 3) := by decide +kernel
theorem dX12_choose_33 : decode cX12_choose 33 = .ok (.iconst 2, 1) := by decide +kernel
theorem dX12_choose_34 : decode cX12_choose 34 = .ok (.aload_n 0, 1) := by decide +kernel
theorem dX12_choose_35 : decode cX12_choose 35 = .ok (.getfield 423, 3) := by decide +kernel
theorem dX12_choose_38 : decode cX12_choose 38 = .ok (.iconst 1, 1) := by decide +kernel
theorem dX12_choose_39 : decode cX12_choose 39 = .ok (.isub, 1) := by decide +kernel
theorem dX12_choose_40 : decode cX12_choose 40 = .ok (.iload_n 3, 1) := by decide +kernel
theorem dX12_choose_41 : decode cX12_choose 41 = .ok (.isub, 1) := by decide +kernel
theorem dX12_choose_42 : decode cX12_choose 42 = .ok (.imul, 1) := by decide +kernel
theorem dX12_choose_43 : decode cX12_choose 43 = .ok (.ishr, 1) := by decide +kernel
theorem dX12_choose_44 : decode cX12_choose 44 = .ok (.iconst 3, 1) := by decide +kernel
theorem dX12_choose_45 : decode cX12_choose 45 = .ok (.iand, 1) := by decide +kernel
theorem dX12_choose_46 : decode cX12_choose 46 = .ok (.goto 4, 3) := by decide +kernel
theorem dX12_choose_49 : decode cX12_choose 49 = .ok (.iconst (-1), 1) := by decide +kernel
theorem dX12_choose_50 : decode cX12_choose 50 = .ok (.ireturn, 1) := by decide +kernel
theorem dX12_chosen_0 : decode cX12_chosen 0 = .ok (.aload_n 0, 1) := by decide +kernel
theorem dX12_chosen_1 : decode cX12_chosen 1 = .ok (.iload_n 1, 1) := by decide +kernel
theorem dX12_chosen_2 : decode cX12_chosen 2 = .ok (.iload_n 2, 1) := by decide +kernel
theorem dX12_chosen_3 : decode cX12_chosen 3 = .ok (.invokevirtual 412, 3) := by decide +kernel
theorem dX12_chosen_6 : decode cX12_chosen 6 = .ok (.ifCond .ne 5, 3) := by decide +kernel
theorem dX12_chosen_9 : decode cX12_chosen 9 = .ok (.iconst (-1), 1) := by decide +kernel
theorem dX12_chosen_10 : decode cX12_chosen 10 = .ok (.ireturn, 1) := by decide +kernel
theorem dX12_chosen_11 : decode cX12_chosen 11 = .ok (.aload_n 0, 1) := by decide +kernel
theorem dX12_chosen_12 : decode cX12_chosen 12 = .ok (.iload_n 1, 1) := by decide +kernel
theorem dX12_chosen_13 : decode cX12_chosen 13 = .ok (.iload_n 2, 1) := by decide +kernel
theorem dX12_chosen_14 : decode cX12_chosen 14 = .ok (.invokevirtual 435, 3) := by decide +kernel
theorem dX12_chosen_17 : decode cX12_chosen 17 = .ok (.aload_n 0, 1) := by decide +kernel
theorem dX12_chosen_18 : decode cX12_chosen 18 = .ok (.aload_n 0, 1) := by decide +kernel
theorem dX12_chosen_19 : decode cX12_chosen 19 = .ok (.getfield 432, 3) := by decide +kernel
theorem dX12_chosen_22 : decode cX12_chosen 22 = .ok (.iload_n 1, 1) := by decide +kernel
theorem dX12_chosen_23 : decode cX12_chosen 23 = .ok (.iload_n 3, 1) := by decide +kernel
theorem dX12_chosen_24 : decode cX12_chosen 24 = .ok (.invokevirtual 419, 3) := by decide +kernel
theorem dX12_chosen_27 : decode cX12_chosen 27 = .ok (.ireturn, 1) := by decide +kernel
theorem dX12_hasBy_0 : decode cX12_hasBy 0 = .ok (.aload_n 0, 1) := by decide +kernel
theorem dX12_hasBy_1 : decode cX12_hasBy 1 = .ok (.getfield 131, 3) := by decide +kernel
theorem dX12_hasBy_4 : decode cX12_hasBy 4 = .ok (.iload_n 3, 1) := by decide +kernel
theorem dX12_hasBy_5 : decode cX12_hasBy 5 = .ok (.iaload, 1) := by decide +kernel
theorem dX12_hasBy_6 : decode cX12_hasBy 6 = .ok (.aload_n 0, 1) := by decide +kernel
theorem dX12_hasBy_7 : decode cX12_hasBy 7 = .ok (.getfield 116, 3) := by decide +kernel
theorem dX12_hasBy_10 : decode cX12_hasBy 10 = .ok (.iload_n 2, 1) := by decide +kernel
theorem dX12_hasBy_11 : decode cX12_hasBy 11 = .ok (.iaload, 1) := by decide +kernel
theorem dX12_hasBy_12 : decode cX12_hasBy 12 = .ok (.if_icmp .ne 28, 3) := by decide +kernel
theorem dX12_hasBy_15 : decode cX12_hasBy 15 = .ok (.aload_n 0, 1) := by decide +kernel
theorem dX12_hasBy_16 : decode cX12_hasBy 16 = .ok (.getfield 64, 3) := by decide +kernel
theorem dX12_hasBy_19 : decode cX12_hasBy 19 = .ok (.iconst 3, 1) := by decide +kernel
theorem dX12_hasBy_20 : decode cX12_hasBy 20 = .ok (.iconst 5, 1) := by decide +kernel
theorem dX12_hasBy_21 : decode cX12_hasBy 21 = .ok (.aload_n 0, 1) := by decide +kernel
theorem dX12_hasBy_22 : decode cX12_hasBy 22 = .ok (.getfield 230, 3) := by decide +kernel
theorem dX12_hasBy_25 : decode cX12_hasBy 25 = .ok (.imul, 1) := by decide +kernel
theorem dX12_hasBy_26 : decode cX12_hasBy 26 = .ok (.iload_n 1, 1) := by decide +kernel
theorem dX12_hasBy_27 : decode cX12_hasBy 27 = .ok (.iadd, 1) := by decide +kernel
theorem dX12_hasBy_28 : decode cX12_hasBy 28 = .ok (.imul, 1) := by decide +kernel
theorem dX12_hasBy_29 : decode cX12_hasBy 29 = .ok (.aload_n 0, 1) := by decide +kernel
theorem dX12_hasBy_30 : decode cX12_hasBy 30 = .ok (.getfield 116, 3) := by decide +kernel
theorem dX12_hasBy_33 : decode cX12_hasBy 33 = .ok (.iload_n 2, 1) := by decide +kernel
theorem dX12_hasBy_34 : decode cX12_hasBy 34 = .ok (.iaload, 1) := by decide +kernel
theorem dX12_hasBy_35 : decode cX12_hasBy 35 = .ok (.iadd, 1) := by decide +kernel
theorem dX12_hasBy_36 : decode cX12_hasBy 36 = .ok (.iaload, 1) := by decide +kernel
theorem dX12_hasBy_37 : decode cX12_hasBy 37 = .ok (.goto 4, 3) := by decide +kernel
theorem dX12_hasBy_40 : decode cX12_hasBy 40 = .ok (.iconst 0, 1) := by decide +kernel
theorem dX12_hasBy_41 : decode cX12_hasBy 41 = .ok (.ireturn, 1) := by decide +kernel
theorem dX12_isResting_0 : decode cX12_isResting 0 = .ok (.iconst 0, 1) := by decide +kernel
theorem dX12_isResting_1 : decode cX12_isResting 1 = .ok (.istore 4, 2) := by decide +kernel
theorem dX12_isResting_3 : decode cX12_isResting 3 = .ok (.iload 4, 2) := by decide +kernel
theorem dX12_isResting_5 : decode cX12_isResting 5 = .ok (.aload_n 0, 1) := by decide +kernel
theorem dX12_isResting_6 : decode cX12_isResting 6 = .ok (.getfield 46, 3) := by decide +kernel
theorem dX12_isResting_9 : decode cX12_isResting 9 = .ok (.aload_n 0, 1) := by decide +kernel
theorem dX12_isResting_10 : decode cX12_isResting 10 = .ok (.getfield 230, 3) := by decide +kernel
theorem dX12_isResting_13 : decode cX12_isResting 13 = .ok (.iaload, 1) := by decide +kernel
theorem dX12_isResting_14 : decode cX12_isResting 14 = .ok (.if_icmp .ge 45, 3) := by decide +kernel
theorem dX12_isResting_17 : decode cX12_isResting 17 = .ok (.iload_n 3, 1) := by decide +kernel
theorem dX12_isResting_18 : decode cX12_isResting 18 = .ok (.iload 4, 2) := by decide +kernel
theorem dX12_isResting_20 : decode cX12_isResting 20 = .ok (.ishr, 1) := by decide +kernel
theorem dX12_isResting_21 : decode cX12_isResting 21 = .ok (.iconst 1, 1) := by decide +kernel
theorem dX12_isResting_22 : decode cX12_isResting 22 = .ok (.iand, 1) := by decide +kernel
theorem dX12_isResting_23 : decode cX12_isResting 23 = .ok (.iconst 1, 1) := by decide +kernel
theorem dX12_isResting_24 : decode cX12_isResting 24 = .ok (.if_icmp .ne 29, 3) := by decide +kernel
theorem dX12_isResting_27 : decode cX12_isResting 27 = .ok (.aload_n 0, 1) := by decide +kernel
theorem dX12_isResting_28 : decode cX12_isResting 28 = .ok (.iload_n 1, 1) := by decide +kernel
theorem dX12_isResting_29 : decode cX12_isResting 29 = .ok (.iload 4, 2) := by decide +kernel
theorem dX12_isResting_31 : decode cX12_isResting 31 = .ok (.iload_n 2, 1) := by decide +kernel
theorem dX12_isResting_32 : decode cX12_isResting 32 = .ok (.iconst 1, 1) := by decide +kernel
theorem dX12_isResting_33 : decode cX12_isResting 33 = .ok (.iload 4, 2) := by decide +kernel
theorem dX12_isResting_35 : decode cX12_isResting 35 = .ok (.ishl, 1) := by decide +kernel
theorem dX12_isResting_36 : decode cX12_isResting 36 = .ok (.ixor, 1) := by decide +kernel
theorem dX12_isResting_37 : decode cX12_isResting 37 = .ok (.invokevirtual 438, 3) := by decide +kernel
theorem dX12_isResting_40 : decode cX12_isResting 40 = .ok (.aload_n 0, 1) := by decide +kernel
theorem dX12_isResting_41 : decode cX12_isResting 41 = .ok (.iload_n 1, 1) := by decide +kernel
theorem dX12_isResting_42 : decode cX12_isResting 42 = .ok (.iload 4, 2) := by decide +kernel
theorem dX12_isResting_44 : decode cX12_isResting 44 = .ok (.iload_n 2, 1) := by decide +kernel
theorem dX12_isResting_45 : decode cX12_isResting 45 = .ok (.invokevirtual 438, 3) := by decide +kernel
theorem dX12_isResting_48 : decode cX12_isResting 48 = .ok (.if_icmp .le 5, 3) := by decide +kernel
theorem dX12_isResting_51 : decode cX12_isResting 51 = .ok (.iconst 0, 1) := by decide +kernel
theorem dX12_isResting_52 : decode cX12_isResting 52 = .ok (.ireturn, 1) := by decide +kernel
theorem dX12_isResting_53 : decode cX12_isResting 53 = .ok (.iinc 4 1, 3) := by decide +kernel
theorem dX12_isResting_56 : decode cX12_isResting 56 = .ok (.goto (-53), 3) := by decide +kernel
theorem dX12_isResting_59 : decode cX12_isResting 59 = .ok (.iconst 1, 1) := by decide +kernel
theorem dX12_isResting_60 : decode cX12_isResting 60 = .ok (.ireturn, 1) := by decide +kernel
theorem dX12_mumble_0 : decode cX12_mumble 0 = .ok (.aload_n 0, 1) := by decide +kernel
theorem dX12_mumble_1 : decode cX12_mumble 1 = .ok (.iload_n 1, 1) := by decide +kernel
theorem dX12_mumble_2 : decode cX12_mumble 2 = .ok (.invokevirtual 388, 3) := by decide +kernel
theorem dX12_mumble_5 : decode cX12_mumble 5 = .ok (.ifCond .eq 8, 3) := by decide +kernel
theorem dX12_mumble_8 : decode cX12_mumble 8 = .ok (.iload_n 2, 1) := by decide +kernel
theorem dX12_mumble_9 : decode cX12_mumble 9 = .ok (.iconst (-1), 1) := by decide +kernel
theorem dX12_mumble_10 : decode cX12_mumble 10 = .ok (.if_icmp .ge 5, 3) := by decide +kernel
theorem dX12_mumble_13 : decode cX12_mumble 13 = .ok (.iconst (-1), 1) := by decide +kernel
theorem dX12_mumble_14 : decode cX12_mumble 14 = .ok (.ireturn, 1) := by decide +kernel
theorem dX12_mumble_15 : decode cX12_mumble 15 = .ok (.aload_n 0, 1) := by decide +kernel
theorem dX12_mumble_16 : decode cX12_mumble 16 = .ok (.invokevirtual 385, 3) := by decide +kernel
theorem dX12_mumble_19 : decode cX12_mumble 19 = .ok (.aload_n 0, 1) := by decide +kernel
theorem dX12_mumble_20 : decode cX12_mumble 20 = .ok (.iload_n 1, 1) := by decide +kernel
theorem dX12_mumble_21 : decode cX12_mumble 21 = .ok (.invokevirtual 367, 3) := by decide +kernel
theorem dX12_mumble_24 : decode cX12_mumble 24 = .ok (.istore_n 3, 1) := by decide +kernel
theorem dX12_mumble_25 : decode cX12_mumble 25 = .ok (.iconst 0, 1) := by decide +kernel
theorem dX12_mumble_26 : decode cX12_mumble 26 = .ok (.istore 4, 2) := by decide +kernel
theorem dX12_mumble_28 : decode cX12_mumble 28 = .ok (.iload 4, 2) := by decide +kernel
theorem dX12_mumble_30 : decode cX12_mumble 30 = .ok (.sipush 128, 3) := by decide +kernel
theorem dX12_mumble_33 : decode cX12_mumble 33 = .ok (.if_icmp .ge 81, 3) := by decide +kernel
theorem dX12_mumble_36 : decode cX12_mumble 36 = .ok (.aload_n 0, 1) := by decide +kernel
theorem dX12_mumble_37 : decode cX12_mumble 37 = .ok (.invokevirtual 385, 3) := by decide +kernel
theorem dX12_mumble_40 : decode cX12_mumble 40 = .ok (.iconst 0, 1) := by decide +kernel
theorem dX12_mumble_41 : decode cX12_mumble 41 = .ok (.istore 5, 2) := by decide +kernel
theorem dX12_mumble_43 : decode cX12_mumble 43 = .ok (.iload 5, 2) := by decide +kernel
theorem dX12_mumble_45 : decode cX12_mumble 45 = .ok (.aload_n 0, 1) := by decide +kernel
theorem dX12_mumble_46 : decode cX12_mumble 46 = .ok (.getfield 46, 3) := by decide +kernel
theorem dX12_mumble_49 : decode cX12_mumble 49 = .ok (.aload_n 0, 1) := by decide +kernel
theorem dX12_mumble_50 : decode cX12_mumble 50 = .ok (.getfield 230, 3) := by decide +kernel
theorem dX12_mumble_53 : decode cX12_mumble 53 = .ok (.iaload, 1) := by decide +kernel
theorem dX12_mumble_54 : decode cX12_mumble 54 = .ok (.if_icmp .ge 41, 3) := by decide +kernel
theorem dX12_mumble_57 : decode cX12_mumble 57 = .ok (.iload 4, 2) := by decide +kernel
theorem dX12_mumble_59 : decode cX12_mumble 59 = .ok (.iload 5, 2) := by decide +kernel
theorem dX12_mumble_61 : decode cX12_mumble 61 = .ok (.ishr, 1) := by decide +kernel
theorem dX12_mumble_62 : decode cX12_mumble 62 = .ok (.iconst 1, 1) := by decide +kernel
theorem dX12_mumble_63 : decode cX12_mumble 63 = .ok (.iand, 1) := by decide +kernel
theorem dX12_mumble_64 : decode cX12_mumble 64 = .ok (.iconst 1, 1) := by decide +kernel
theorem dX12_mumble_65 : decode cX12_mumble 65 = .ok (.if_icmp .ne 24, 3) := by decide +kernel
theorem dX12_mumble_68 : decode cX12_mumble 68 = .ok (.iload_n 3, 1) := by decide +kernel
theorem dX12_mumble_69 : decode cX12_mumble 69 = .ok (.iload 5, 2) := by decide +kernel
theorem dX12_mumble_71 : decode cX12_mumble 71 = .ok (.ishr, 1) := by decide +kernel
theorem dX12_mumble_72 : decode cX12_mumble 72 = .ok (.iconst 1, 1) := by decide +kernel
theorem dX12_mumble_73 : decode cX12_mumble 73 = .ok (.iand, 1) := by decide +kernel
theorem dX12_mumble_74 : decode cX12_mumble 74 = .ok (.iconst 1, 1) := by decide +kernel
theorem dX12_mumble_75 : decode cX12_mumble 75 = .ok (.if_icmp .ne 14, 3) := by decide +kernel
theorem dX12_mumble_78 : decode cX12_mumble 78 = .ok (.aload_n 0, 1) := by decide +kernel
theorem dX12_mumble_79 : decode cX12_mumble 79 = .ok (.getfield 116, 3) := by decide +kernel
theorem dX12_mumble_82 : decode cX12_mumble 82 = .ok (.bipush 28, 2) := by decide +kernel
theorem dX12_mumble_84 : decode cX12_mumble 84 = .ok (.iload 5, 2) := by decide +kernel
theorem dX12_mumble_86 : decode cX12_mumble 86 = .ok (.iadd, 1) := by decide +kernel
theorem dX12_mumble_87 : decode cX12_mumble 87 = .ok (.iconst 1, 1) := by decide +kernel
theorem dX12_mumble_88 : decode cX12_mumble 88 = .ok (.iastore, 1) := by decide +kernel
theorem dX12_mumble_89 : decode cX12_mumble 89 = .ok (.iinc 5 1, 3) := by decide +kernel
theorem dX12_mumble_92 : decode cX12_mumble 92 = .ok (.goto (-49), 3) := by decide +kernel
theorem dX12_mumble_95 : decode cX12_mumble 95 = .ok (.aload_n 0, 1) := by decide +kernel
theorem dX12_mumble_96 : decode cX12_mumble 96 = .ok (.getfield 131, 3) := by decide +kernel
theorem dX12_mumble_99 : decode cX12_mumble 99 = .ok (.iload 4, 2) := by decide +kernel
theorem dX12_mumble_101 : decode cX12_mumble 101 = .ok (.aload_n 0, 1) := by decide +kernel
theorem dX12_mumble_102 : decode cX12_mumble 102 = .ok (.iload_n 1, 1) := by decide +kernel
theorem dX12_mumble_103 : decode cX12_mumble 103 = .ok (.iconst 0, 1) := by decide +kernel
theorem dX12_mumble_104 : decode cX12_mumble 104 = .ok (.invokevirtual 373, 3) := by decide +kernel
theorem dX12_mumble_107 : decode cX12_mumble 107 = .ok (.iastore, 1) := by decide +kernel
theorem dX12_mumble_108 : decode cX12_mumble 108 = .ok (.iinc 4 1, 3) := by decide +kernel
theorem dX12_mumble_111 : decode cX12_mumble 111 = .ok (.goto (-83), 3) := by decide +kernel
theorem dX12_mumble_114 : decode cX12_mumble 114 = .ok (.aload_n 0, 1) := by decide +kernel
theorem dX12_mumble_115 : decode cX12_mumble 115 = .ok (.invokevirtual 385, 3) := by decide +kernel
theorem dX12_mumble_118 : decode cX12_mumble 118 = .ok (.iconst 0, 1) := by decide +kernel
theorem dX12_mumble_119 : decode cX12_mumble 119 = .ok (.istore 4, 2) := by decide +kernel
theorem dX12_mumble_121 : decode cX12_mumble 121 = .ok (.iconst 0, 1) := by decide +kernel
theorem dX12_mumble_122 : decode cX12_mumble 122 = .ok (.istore 5, 2) := by decide +kernel
theorem dX12_mumble_124 : decode cX12_mumble 124 = .ok (.iload 5, 2) := by decide +kernel
theorem dX12_mumble_126 : decode cX12_mumble 126 = .ok (.sipush 128, 3) := by decide +kernel
theorem dX12_mumble_129 : decode cX12_mumble 129 = .ok (.if_icmp .ge 44, 3) := by decide +kernel
theorem dX12_mumble_132 : decode cX12_mumble 132 = .ok (.iload 5, 2) := by decide +kernel
theorem dX12_mumble_134 : decode cX12_mumble 134 = .ok (.iload_n 3, 1) := by decide +kernel
theorem dX12_mumble_135 : decode cX12_mumble 135 = .ok (.iconst (-1), 1) := by decide +kernel
theorem dX12_mumble_136 : decode cX12_mumble 136 = .ok (.ixor, 1) := by decide +kernel
theorem dX12_mumble_137 : decode cX12_mumble 137 = .ok (.iand, 1) := by decide +kernel
theorem dX12_mumble_138 : decode cX12_mumble 138 = .ok (.ifCond .ne 29, 3) := by decide +kernel
theorem dX12_mumble_141 : decode cX12_mumble 141 = .ok (.aload_n 0, 1) := by decide +kernel
theorem dX12_mumble_142 : decode cX12_mumble 142 = .ok (.iload_n 1, 1) := by decide +kernel
theorem dX12_mumble_143 : decode cX12_mumble 143 = .ok (.iload 5, 2) := by decide +kernel
theorem dX12_mumble_145 : decode cX12_mumble 145 = .ok (.iload_n 3, 1) := by decide +kernel
theorem dX12_mumble_146 : decode cX12_mumble 146 = .ok (.invokevirtual 441, 3) := by decide +kernel
theorem dX12_mumble_149 : decode cX12_mumble 149 = .ok (.ifCond .ne 6, 3) := by decide +kernel
theorem dX12_mumble_152 : decode cX12_mumble 152 = .ok (.goto 15, 3) := by decide +kernel
theorem dX12_mumble_155 : decode cX12_mumble 155 = .ok (.iload 4, 2) := by decide +kernel
theorem dX12_mumble_157 : decode cX12_mumble 157 = .ok (.iload_n 2, 1) := by decide +kernel
theorem dX12_mumble_158 : decode cX12_mumble 158 = .ok (.if_icmp .ne 6, 3) := by decide +kernel
theorem dX12_mumble_161 : decode cX12_mumble 161 = .ok (.iload 5, 2) := by decide +kernel
theorem dX12_mumble_163 : decode cX12_mumble 163 = .ok (.ireturn, 1) := by decide +kernel
theorem dX12_mumble_164 : decode cX12_mumble 164 = .ok (.iinc 4 1, 3) := by decide +kernel
theorem dX12_mumble_167 : decode cX12_mumble 167 = .ok (.iinc 5 1, 3) := by decide +kernel
theorem dX12_mumble_170 : decode cX12_mumble 170 = .ok (.goto (-46), 3) := by decide +kernel
theorem dX12_mumble_173 : decode cX12_mumble 173 = .ok (.iload_n 2, 1) := by decide +kernel
theorem dX12_mumble_174 : decode cX12_mumble 174 = .ok (.iconst (-1), 1) := by decide +kernel
theorem dX12_mumble_175 : decode cX12_mumble 175 = .ok (.if_icmp .ne 8, 3) := by decide +kernel
theorem dX12_mumble_178 : decode cX12_mumble 178 = .ok (.iload 4, 2) := by decide +kernel
theorem dX12_mumble_180 : decode cX12_mumble 180 = .ok (.goto 4, 3) := by decide +kernel
theorem dX12_mumble_183 : decode cX12_mumble 183 = .ok (.iconst (-1), 1) := by decide +kernel
theorem dX12_mumble_184 : decode cX12_mumble 184 = .ok (.ireturn, 1) := by decide +kernel
theorem dX12_apartNow_0 : decode cX12_apartNow 0 = .ok (.iconst (-1), 1) := by decide +kernel
theorem dX12_apartNow_1 : decode cX12_apartNow 1 = .ok (.istore_n 1, 1) := by decide +kernel
theorem dX12_apartNow_2 : decode cX12_apartNow 2 = .ok (.iconst (-1), 1) := by decide +kernel
theorem dX12_apartNow_3 : decode cX12_apartNow 3 = .ok (.istore_n 2, 1) := by decide +kernel
theorem dX12_apartNow_4 : decode cX12_apartNow 4 = .ok (.iconst 0, 1) := by decide +kernel
theorem dX12_apartNow_5 : decode cX12_apartNow 5 = .ok (.istore_n 3, 1) := by decide +kernel
theorem dX12_apartNow_6 : decode cX12_apartNow 6 = .ok (.iload_n 3, 1) := by decide +kernel
theorem dX12_apartNow_7 : decode cX12_apartNow 7 = .ok (.iconst 3, 1) := by decide +kernel
theorem dX12_apartNow_8 : decode cX12_apartNow 8 = .ok (.if_icmp .ge 50, 3) := by decide +kernel
theorem dX12_apartNow_11 : decode cX12_apartNow 11 = .ok (.aload_n 0, 1) := by decide +kernel
theorem dX12_apartNow_12 : decode cX12_apartNow 12 = .ok (.getfield 122, 3) := by decide +kernel
theorem dX12_apartNow_15 : decode cX12_apartNow 15 = .ok (.iload_n 3, 1) := by decide +kernel
theorem dX12_apartNow_16 : decode cX12_apartNow 16 = .ok (.iaload, 1) := by decide +kernel
theorem dX12_apartNow_17 : decode cX12_apartNow 17 = .ok (.ifCond .ne 6, 3) := by decide +kernel
theorem dX12_apartNow_20 : decode cX12_apartNow 20 = .ok (.goto 32, 3) := by decide +kernel
theorem dX12_apartNow_23 : decode cX12_apartNow 23 = .ok (.aload_n 0, 1) := by decide +kernel
theorem dX12_apartNow_24 : decode cX12_apartNow 24 = .ok (.iload_n 3, 1) := by decide +kernel
theorem dX12_apartNow_25 : decode cX12_apartNow 25 = .ok (.invokevirtual 355, 3) := by decide +kernel
theorem dX12_apartNow_28 : decode cX12_apartNow 28 = .ok (.istore 4, 2) := by decide +kernel
theorem dX12_apartNow_30 : decode cX12_apartNow 30 = .ok (.iload_n 1, 1) := by decide +kernel
theorem dX12_apartNow_31 : decode cX12_apartNow 31 = .ok (.ifCond .lt 9, 3) := by decide +kernel
theorem dX12_apartNow_34 : decode cX12_apartNow 34 = .ok (.iload 4, 2) := by decide +kernel
theorem dX12_apartNow_36 : decode cX12_apartNow 36 = .ok (.iload_n 1, 1) := by decide +kernel
theorem dX12_apartNow_37 : decode cX12_apartNow 37 = .ok (.if_icmp .ge 6, 3) := by decide +kernel
theorem dX12_apartNow_40 : decode cX12_apartNow 40 = .ok (.iload 4, 2) := by decide +kernel
theorem dX12_apartNow_42 : decode cX12_apartNow 42 = .ok (.istore_n 1, 1) := by decide +kernel
theorem dX12_apartNow_43 : decode cX12_apartNow 43 = .ok (.iload 4, 2) := by decide +kernel
theorem dX12_apartNow_45 : decode cX12_apartNow 45 = .ok (.iload_n 2, 1) := by decide +kernel
theorem dX12_apartNow_46 : decode cX12_apartNow 46 = .ok (.if_icmp .le 6, 3) := by decide +kernel
theorem dX12_apartNow_49 : decode cX12_apartNow 49 = .ok (.iload 4, 2) := by decide +kernel
theorem dX12_apartNow_51 : decode cX12_apartNow 51 = .ok (.istore_n 2, 1) := by decide +kernel
theorem dX12_apartNow_52 : decode cX12_apartNow 52 = .ok (.iinc 3 1, 3) := by decide +kernel
theorem dX12_apartNow_55 : decode cX12_apartNow 55 = .ok (.goto (-49), 3) := by decide +kernel
theorem dX12_apartNow_58 : decode cX12_apartNow 58 = .ok (.iload_n 2, 1) := by decide +kernel
theorem dX12_apartNow_59 : decode cX12_apartNow 59 = .ok (.iload_n 1, 1) := by decide +kernel
theorem dX12_apartNow_60 : decode cX12_apartNow 60 = .ok (.isub, 1) := by decide +kernel
theorem dX12_apartNow_61 : decode cX12_apartNow 61 = .ok (.ireturn, 1) := by decide +kernel
theorem dX12_jury_0 : decode cX12_jury 0 = .ok (.aload_n 0, 1) := by decide +kernel
theorem dX12_jury_1 : decode cX12_jury 1 = .ok (.iload_n 1, 1) := by decide +kernel
theorem dX12_jury_2 : decode cX12_jury 2 = .ok (.invokevirtual 388, 3) := by decide +kernel
theorem dX12_jury_5 : decode cX12_jury 5 = .ok (.ifCond .eq 22, 3) := by decide +kernel
theorem dX12_jury_8 : decode cX12_jury 8 = .ok (.iload_n 2, 1) := by decide +kernel
theorem dX12_jury_9 : decode cX12_jury 9 = .ok (.iconst 1, 1) := by decide +kernel
theorem dX12_jury_10 : decode cX12_jury 10 = .ok (.bipush 8, 2) := by decide +kernel
theorem dX12_jury_12 : decode cX12_jury 12 = .ok (.invokestatic 314, 3) := by decide +kernel
theorem dX12_jury_15 : decode cX12_jury 15 = .ok (.ifCond .eq 12, 3) := by decide +kernel
theorem dX12_jury_18 : decode cX12_jury 18 = .ok (.iload_n 3, 1) := by decide +kernel
theorem dX12_jury_19 : decode cX12_jury 19 = .ok (.iconst 0, 1) := by decide +kernel
theorem dX12_jury_20 : decode cX12_jury 20 = .ok (.iconst 1, 1) := by decide +kernel
theorem dX12_jury_21 : decode cX12_jury 21 = .ok (.invokestatic 314, 3) := by decide +kernel
theorem dX12_jury_24 : decode cX12_jury 24 = .ok (.ifCond .ne 5, 3) := by decide +kernel
theorem dX12_jury_27 : decode cX12_jury 27 = .ok (.iconst (-1), 1) := by decide +kernel
theorem dX12_jury_28 : decode cX12_jury 28 = .ok (.ireturn, 1) := by decide +kernel
theorem dX12_jury_29 : decode cX12_jury 29 = .ok (.aload_n 0, 1) := by decide +kernel
theorem dX12_jury_30 : decode cX12_jury 30 = .ok (.invokevirtual 385, 3) := by decide +kernel
theorem dX12_jury_33 : decode cX12_jury 33 = .ok (.iload_n 2, 1) := by decide +kernel
theorem dX12_jury_34 : decode cX12_jury 34 = .ok (.aload_n 0, 1) := by decide +kernel
theorem dX12_jury_35 : decode cX12_jury 35 = .ok (.getfield 67, 3) := by decide +kernel
theorem dX12_jury_38 : decode cX12_jury 38 = .ok (.aload_n 0, 1) := by decide +kernel
theorem dX12_jury_39 : decode cX12_jury 39 = .ok (.getfield 230, 3) := by decide +kernel
theorem dX12_jury_42 : decode cX12_jury 42 = .ok (.iaload, 1) := by decide +kernel
theorem dX12_jury_43 : decode cX12_jury 43 = .ok (.if_icmp .gt 11, 3) := by decide +kernel
theorem dX12_jury_46 : decode cX12_jury 46 = .ok (.aload_n 0, 1) := by decide +kernel
theorem dX12_jury_47 : decode cX12_jury 47 = .ok (.iload_n 1, 1) := by decide +kernel
theorem dX12_jury_48 : decode cX12_jury 48 = .ok (.invokevirtual 367, 3) := by decide +kernel
theorem dX12_jury_51 : decode cX12_jury 51 = .ok (.ifCond .ne 6, 3) := by decide +kernel
theorem dX12_jury_54 : decode cX12_jury 54 = .ok (.bipush (-2), 2) := by decide +kernel
theorem dX12_jury_56 : decode cX12_jury 56 = .ok (.ireturn, 1) := by decide +kernel
theorem dX12_jury_57 : decode cX12_jury 57 = .ok (.iconst (-1), 1) := by decide +kernel
theorem dX12_jury_58 : decode cX12_jury 58 = .ok (.istore 4, 2) := by decide +kernel
theorem dX12_jury_60 : decode cX12_jury 60 = .ok (.iconst 0, 1) := by decide +kernel
theorem dX12_jury_61 : decode cX12_jury 61 = .ok (.istore 5, 2) := by decide +kernel
theorem dX12_jury_63 : decode cX12_jury 63 = .ok (.iconst 0, 1) := by decide +kernel
theorem dX12_jury_64 : decode cX12_jury 64 = .ok (.istore 6, 2) := by decide +kernel
theorem dX12_jury_66 : decode cX12_jury 66 = .ok (.iload 6, 2) := by decide +kernel
theorem dX12_jury_68 : decode cX12_jury 68 = .ok (.iconst 1, 1) := by decide +kernel
theorem dX12_jury_69 : decode cX12_jury 69 = .ok (.aload_n 0, 1) := by decide +kernel
theorem dX12_jury_70 : decode cX12_jury 70 = .ok (.getfield 67, 3) := by decide +kernel
theorem dX12_jury_73 : decode cX12_jury 73 = .ok (.aload_n 0, 1) := by decide +kernel
theorem dX12_jury_74 : decode cX12_jury 74 = .ok (.getfield 230, 3) := by decide +kernel
theorem dX12_jury_77 : decode cX12_jury 77 = .ok (.iaload, 1) := by decide +kernel
theorem dX12_jury_78 : decode cX12_jury 78 = .ok (.ishl, 1) := by decide +kernel
theorem dX12_jury_79 : decode cX12_jury 79 = .ok (.if_icmp .ge 58, 3) := by decide +kernel
theorem dX12_jury_82 : decode cX12_jury 82 = .ok (.iload 6, 2) := by decide +kernel
theorem dX12_jury_84 : decode cX12_jury 84 = .ok (.invokestatic 403, 3) := by decide +kernel
theorem dX12_jury_87 : decode cX12_jury 87 = .ok (.iload_n 2, 1) := by decide +kernel
theorem dX12_jury_88 : decode cX12_jury 88 = .ok (.if_icmp .eq 6, 3) := by decide +kernel
theorem dX12_jury_91 : decode cX12_jury 91 = .ok (.goto 40, 3) := by decide +kernel
theorem dX12_jury_94 : decode cX12_jury 94 = .ok (.aload_n 0, 1) := by decide +kernel
theorem dX12_jury_95 : decode cX12_jury 95 = .ok (.iload_n 1, 1) := by decide +kernel
theorem dX12_jury_96 : decode cX12_jury 96 = .ok (.iconst 0, 1) := by decide +kernel
theorem dX12_jury_97 : decode cX12_jury 97 = .ok (.iload 6, 2) := by decide +kernel
theorem dX12_jury_99 : decode cX12_jury 99 = .ok (.invokevirtual 358, 3) := by decide +kernel
theorem dX12_jury_102 : decode cX12_jury 102 = .ok (.aload_n 0, 1) := by decide +kernel
theorem dX12_jury_103 : decode cX12_jury 103 = .ok (.invokevirtual 444, 3) := by decide +kernel
theorem dX12_jury_106 : decode cX12_jury 106 = .ok (.istore 7, 2) := by decide +kernel
theorem dX12_jury_108 : decode cX12_jury 108 = .ok (.iload 4, 2) := by decide +kernel
theorem dX12_jury_110 : decode cX12_jury 110 = .ok (.ifCond .lt 13, 3) := by decide +kernel
theorem dX12_jury_113 : decode cX12_jury 113 = .ok (.iload 7, 2) := by decide +kernel
theorem dX12_jury_115 : decode cX12_jury 115 = .ok (.iload 5, 2) := by decide +kernel
theorem dX12_jury_117 : decode cX12_jury 117 = .ok (.if_icmp .lt 6, 3) := by decide +kernel
theorem dX12_jury_120 : decode cX12_jury 120 = .ok (.goto 11, 3) := by decide +kernel
theorem dX12_jury_123 : decode cX12_jury 123 = .ok (.iload 6, 2) := by decide +kernel
theorem dX12_jury_125 : decode cX12_jury 125 = .ok (.istore 4, 2) := by decide +kernel
theorem dX12_jury_127 : decode cX12_jury 127 = .ok (.iload 7, 2) := by decide +kernel
theorem dX12_jury_129 : decode cX12_jury 129 = .ok (.istore 5, 2) := by decide +kernel
theorem dX12_jury_131 : decode cX12_jury 131 = .ok (.iinc 6 1, 3) := by decide +kernel
theorem dX12_jury_134 : decode cX12_jury 134 = .ok (.goto (-68), 3) := by decide +kernel
theorem dX12_jury_137 : decode cX12_jury 137 = .ok (.iload_n 3, 1) := by decide +kernel
theorem dX12_jury_138 : decode cX12_jury 138 = .ok (.ifCond .ne 8, 3) := by decide +kernel
theorem dX12_jury_141 : decode cX12_jury 141 = .ok (.iload 4, 2) := by decide +kernel
theorem dX12_jury_143 : decode cX12_jury 143 = .ok (.goto 12, 3) := by decide +kernel
theorem dX12_jury_146 : decode cX12_jury 146 = .ok (.iload 5, 2) := by decide +kernel
theorem dX12_jury_148 : decode cX12_jury 148 = .ok (.bipush 100, 2) := by decide +kernel
theorem dX12_jury_150 : decode cX12_jury 150 = .ok (.imul, 1) := by decide +kernel
theorem dX12_jury_151 : decode cX12_jury 151 = .ok (.sipush 420, 3) := by decide +kernel
theorem dX12_jury_154 : decode cX12_jury 154 = .ok (.idiv, 1) := by decide +kernel
theorem dX12_jury_155 : decode cX12_jury 155 = .ok (.ireturn, 1) := by decide +kernel
theorem dX12_say_0 : decode cX12_say 0 = .ok (.aload_n 0, 1) := by decide +kernel
theorem dX12_say_1 : decode cX12_say 1 = .ok (.iload_n 1, 1) := by decide +kernel
theorem dX12_say_2 : decode cX12_say 2 = .ok (.invokevirtual 382, 3) := by decide +kernel
theorem dX12_say_5 : decode cX12_say 5 = .ok (.ifCond .eq 13, 3) := by decide +kernel
theorem dX12_say_8 : decode cX12_say 8 = .ok (.iload_n 2, 1) := by decide +kernel
theorem dX12_say_9 : decode cX12_say 9 = .ok (.iconst 0, 1) := by decide +kernel
theorem dX12_say_10 : decode cX12_say 10 = .ok (.bipush 99, 2) := by decide +kernel
theorem dX12_say_12 : decode cX12_say 12 = .ok (.invokestatic 314, 3) := by decide +kernel
theorem dX12_say_15 : decode cX12_say 15 = .ok (.ifCond .ne 5, 3) := by decide +kernel
theorem dX12_say_18 : decode cX12_say 18 = .ok (.iconst (-1), 1) := by decide +kernel
theorem dX12_say_19 : decode cX12_say 19 = .ok (.ireturn, 1) := by decide +kernel
theorem dX12_say_20 : decode cX12_say 20 = .ok (.aload_n 0, 1) := by decide +kernel
theorem dX12_say_21 : decode cX12_say 21 = .ok (.invokevirtual 385, 3) := by decide +kernel
theorem dX12_say_24 : decode cX12_say 24 = .ok (.iconst 0, 1) := by decide +kernel
theorem dX12_say_25 : decode cX12_say 25 = .ok (.istore_n 3, 1) := by decide +kernel
theorem dX12_say_26 : decode cX12_say 26 = .ok (.iload_n 3, 1) := by decide +kernel
theorem dX12_say_27 : decode cX12_say 27 = .ok (.bipush 99, 2) := by decide +kernel
theorem dX12_say_29 : decode cX12_say 29 = .ok (.if_icmp .gt 26, 3) := by decide +kernel
theorem dX12_say_32 : decode cX12_say 32 = .ok (.aload_n 0, 1) := by decide +kernel
theorem dX12_say_33 : decode cX12_say 33 = .ok (.iload_n 1, 1) := by decide +kernel
theorem dX12_say_34 : decode cX12_say 34 = .ok (.iconst 0, 1) := by decide +kernel
theorem dX12_say_35 : decode cX12_say 35 = .ok (.iconst 0, 1) := by decide +kernel
theorem dX12_say_36 : decode cX12_say 36 = .ok (.iload_n 3, 1) := by decide +kernel
theorem dX12_say_37 : decode cX12_say 37 = .ok (.sipush 255, 3) := by decide +kernel
theorem dX12_say_40 : decode cX12_say 40 = .ok (.invokevirtual 352, 3) := by decide +kernel
theorem dX12_say_43 : decode cX12_say 43 = .ok (.iload_n 2, 1) := by decide +kernel
theorem dX12_say_44 : decode cX12_say 44 = .ok (.if_icmp .lt 5, 3) := by decide +kernel
theorem dX12_say_47 : decode cX12_say 47 = .ok (.iload_n 3, 1) := by decide +kernel
theorem dX12_say_48 : decode cX12_say 48 = .ok (.ireturn, 1) := by decide +kernel
theorem dX12_say_49 : decode cX12_say 49 = .ok (.iinc 3 1, 3) := by decide +kernel
theorem dX12_say_52 : decode cX12_say 52 = .ok (.goto (-26), 3) := by decide +kernel
theorem dX12_say_55 : decode cX12_say 55 = .ok (.bipush (-2), 2) := by decide +kernel
theorem dX12_say_57 : decode cX12_say 57 = .ok (.ireturn, 1) := by decide +kernel
theorem dX12_fine_0 : decode cX12_fine 0 = .ok (.aload_n 0, 1) := by decide +kernel
theorem dX12_fine_1 : decode cX12_fine 1 = .ok (.iload_n 1, 1) := by decide +kernel
theorem dX12_fine_2 : decode cX12_fine 2 = .ok (.invokevirtual 382, 3) := by decide +kernel
theorem dX12_fine_5 : decode cX12_fine 5 = .ok (.ifCond .ne 5, 3) := by decide +kernel
theorem dX12_fine_8 : decode cX12_fine 8 = .ok (.iconst (-1), 1) := by decide +kernel
theorem dX12_fine_9 : decode cX12_fine 9 = .ok (.ireturn, 1) := by decide +kernel
theorem dX12_fine_10 : decode cX12_fine 10 = .ok (.aload_n 0, 1) := by decide +kernel
theorem dX12_fine_11 : decode cX12_fine 11 = .ok (.invokevirtual 385, 3) := by decide +kernel
theorem dX12_fine_14 : decode cX12_fine 14 = .ok (.aload_n 0, 1) := by decide +kernel
theorem dX12_fine_15 : decode cX12_fine 15 = .ok (.getfield 116, 3) := by decide +kernel
theorem dX12_fine_18 : decode cX12_fine 18 = .ok (.bipush 21, 2) := by decide +kernel
theorem dX12_fine_20 : decode cX12_fine 20 = .ok (.iload_n 1, 1) := by decide +kernel
theorem dX12_fine_21 : decode cX12_fine 21 = .ok (.iadd, 1) := by decide +kernel
theorem dX12_fine_22 : decode cX12_fine 22 = .ok (.iaload, 1) := by decide +kernel
theorem dX12_fine_23 : decode cX12_fine 23 = .ok (.ifCond .lt 15, 3) := by decide +kernel
theorem dX12_fine_26 : decode cX12_fine 26 = .ok (.aload_n 0, 1) := by decide +kernel
theorem dX12_fine_27 : decode cX12_fine 27 = .ok (.getfield 67, 3) := by decide +kernel
theorem dX12_fine_30 : decode cX12_fine 30 = .ok (.aload_n 0, 1) := by decide +kernel
theorem dX12_fine_31 : decode cX12_fine 31 = .ok (.getfield 230, 3) := by decide +kernel
theorem dX12_fine_34 : decode cX12_fine 34 = .ok (.iaload, 1) := by decide +kernel
theorem dX12_fine_35 : decode cX12_fine 35 = .ok (.ifCond .ne 8, 3) := by decide +kernel
theorem dX12_fine_38 : decode cX12_fine 38 = .ok (.bipush (-2), 2) := by decide +kernel
theorem dX12_fine_40 : decode cX12_fine 40 = .ok (.goto 17, 3) := by decide +kernel
theorem dX12_fine_43 : decode cX12_fine 43 = .ok (.aload_n 0, 1) := by decide +kernel
theorem dX12_fine_44 : decode cX12_fine 44 = .ok (.iload_n 1, 1) := by decide +kernel
theorem dX12_fine_45 : decode cX12_fine 45 = .ok (.iload_n 2, 1) := by decide +kernel
theorem dX12_fine_46 : decode cX12_fine 46 = .ok (.ifCond .eq 7, 3) := by decide +kernel
theorem dX12_fine_49 : decode cX12_fine 49 = .ok (.iconst 1, 1) := by decide +kernel
theorem dX12_fine_50 : decode cX12_fine 50 = .ok (.goto 4, 3) := by decide +kernel
theorem dX12_fine_53 : decode cX12_fine 53 = .ok (.iconst 0, 1) := by decide +kernel
theorem dX12_fine_54 : decode cX12_fine 54 = .ok (.invokevirtual 376, 3) := by decide +kernel
theorem dX12_fine_57 : decode cX12_fine 57 = .ok (.ireturn, 1) := by decide +kernel
theorem dX12_ahead_0 : decode cX12_ahead 0 = .ok (.aload_n 0, 1) := by decide +kernel
theorem dX12_ahead_1 : decode cX12_ahead 1 = .ok (.iload_n 1, 1) := by decide +kernel
theorem dX12_ahead_2 : decode cX12_ahead 2 = .ok (.invokevirtual 388, 3) := by decide +kernel
theorem dX12_ahead_5 : decode cX12_ahead 5 = .ok (.ifCond .ne 5, 3) := by decide +kernel
theorem dX12_ahead_8 : decode cX12_ahead 8 = .ok (.iconst (-1), 1) := by decide +kernel
theorem dX12_ahead_9 : decode cX12_ahead 9 = .ok (.ireturn, 1) := by decide +kernel
theorem dX12_ahead_10 : decode cX12_ahead 10 = .ok (.aload_n 0, 1) := by decide +kernel
theorem dX12_ahead_11 : decode cX12_ahead 11 = .ok (.invokevirtual 385, 3) := by decide +kernel
theorem dX12_ahead_14 : decode cX12_ahead 14 = .ok (.aload_n 0, 1) := by decide +kernel
theorem dX12_ahead_15 : decode cX12_ahead 15 = .ok (.iload_n 1, 1) := by decide +kernel
theorem dX12_ahead_16 : decode cX12_ahead 16 = .ok (.iconst 0, 1) := by decide +kernel
theorem dX12_ahead_17 : decode cX12_ahead 17 = .ok (.invokevirtual 373, 3) := by decide +kernel
theorem dX12_ahead_20 : decode cX12_ahead 20 = .ok (.istore_n 2, 1) := by decide +kernel
theorem dX12_ahead_21 : decode cX12_ahead 21 = .ok (.iload_n 2, 1) := by decide +kernel
theorem dX12_ahead_22 : decode cX12_ahead 22 = .ok (.ifCond .ge 6, 3) := by decide +kernel
theorem dX12_ahead_25 : decode cX12_ahead 25 = .ok (.bipush (-2), 2) := by decide +kernel
theorem dX12_ahead_27 : decode cX12_ahead 27 = .ok (.ireturn, 1) := by decide +kernel
theorem dX12_ahead_28 : decode cX12_ahead 28 = .ok (.iconst (-1), 1) := by decide +kernel
theorem dX12_ahead_29 : decode cX12_ahead 29 = .ok (.istore_n 3, 1) := by decide +kernel
theorem dX12_ahead_30 : decode cX12_ahead 30 = .ok (.iconst 0, 1) := by decide +kernel
theorem dX12_ahead_31 : decode cX12_ahead 31 = .ok (.istore 4, 2) := by decide +kernel
theorem dX12_ahead_33 : decode cX12_ahead 33 = .ok (.iload 4, 2) := by decide +kernel
theorem dX12_ahead_35 : decode cX12_ahead 35 = .ok (.iconst 3, 1) := by decide +kernel
theorem dX12_ahead_36 : decode cX12_ahead 36 = .ok (.if_icmp .ge 42, 3) := by decide +kernel
theorem dX12_ahead_39 : decode cX12_ahead 39 = .ok (.iload 4, 2) := by decide +kernel
theorem dX12_ahead_41 : decode cX12_ahead 41 = .ok (.iload_n 2, 1) := by decide +kernel
theorem dX12_ahead_42 : decode cX12_ahead 42 = .ok (.if_icmp .eq 30, 3) := by decide +kernel
theorem dX12_ahead_45 : decode cX12_ahead 45 = .ok (.aload_n 0, 1) := by decide +kernel
theorem dX12_ahead_46 : decode cX12_ahead 46 = .ok (.getfield 122, 3) := by decide +kernel
theorem dX12_ahead_49 : decode cX12_ahead 49 = .ok (.iload 4, 2) := by decide +kernel
theorem dX12_ahead_51 : decode cX12_ahead 51 = .ok (.iaload, 1) := by decide +kernel
theorem dX12_ahead_52 : decode cX12_ahead 52 = .ok (.ifCond .le 20, 3) := by decide +kernel
theorem dX12_ahead_55 : decode cX12_ahead 55 = .ok (.aload_n 0, 1) := by decide +kernel
theorem dX12_ahead_56 : decode cX12_ahead 56 = .ok (.iload 4, 2) := by decide +kernel
theorem dX12_ahead_58 : decode cX12_ahead 58 = .ok (.invokevirtual 355, 3) := by decide +kernel
theorem dX12_ahead_61 : decode cX12_ahead 61 = .ok (.iload_n 3, 1) := by decide +kernel
theorem dX12_ahead_62 : decode cX12_ahead 62 = .ok (.if_icmp .le 10, 3) := by decide +kernel
theorem dX12_ahead_65 : decode cX12_ahead 65 = .ok (.aload_n 0, 1) := by decide +kernel
theorem dX12_ahead_66 : decode cX12_ahead 66 = .ok (.iload 4, 2) := by decide +kernel
theorem dX12_ahead_68 : decode cX12_ahead 68 = .ok (.invokevirtual 355, 3) := by decide +kernel
theorem dX12_ahead_71 : decode cX12_ahead 71 = .ok (.istore_n 3, 1) := by decide +kernel
theorem dX12_ahead_72 : decode cX12_ahead 72 = .ok (.iinc 4 1, 3) := by decide +kernel
theorem dX12_ahead_75 : decode cX12_ahead 75 = .ok (.goto (-42), 3) := by decide +kernel
theorem dX12_ahead_78 : decode cX12_ahead 78 = .ok (.iload_n 3, 1) := by decide +kernel
theorem dX12_ahead_79 : decode cX12_ahead 79 = .ok (.ifCond .ge 8, 3) := by decide +kernel
theorem dX12_ahead_82 : decode cX12_ahead 82 = .ok (.bipush (-2), 2) := by decide +kernel
theorem dX12_ahead_84 : decode cX12_ahead 84 = .ok (.goto 17, 3) := by decide +kernel
theorem dX12_ahead_87 : decode cX12_ahead 87 = .ok (.aload_n 0, 1) := by decide +kernel
theorem dX12_ahead_88 : decode cX12_ahead 88 = .ok (.iload_n 2, 1) := by decide +kernel
theorem dX12_ahead_89 : decode cX12_ahead 89 = .ok (.invokevirtual 355, 3) := by decide +kernel
theorem dX12_ahead_92 : decode cX12_ahead 92 = .ok (.iload_n 3, 1) := by decide +kernel
theorem dX12_ahead_93 : decode cX12_ahead 93 = .ok (.isub, 1) := by decide +kernel
theorem dX12_ahead_94 : decode cX12_ahead 94 = .ok (.bipush 100, 2) := by decide +kernel
theorem dX12_ahead_96 : decode cX12_ahead 96 = .ok (.imul, 1) := by decide +kernel
theorem dX12_ahead_97 : decode cX12_ahead 97 = .ok (.sipush 420, 3) := by decide +kernel
theorem dX12_ahead_100 : decode cX12_ahead 100 = .ok (.idiv, 1) := by decide +kernel
theorem dX12_ahead_101 : decode cX12_ahead 101 = .ok (.ireturn, 1) := by decide +kernel
theorem dX12_givenBy_0 : decode cX12_givenBy 0 = .ok (.iconst 0, 1) := by decide +kernel
theorem dX12_givenBy_1 : decode cX12_givenBy 1 = .ok (.istore_n 3, 1) := by decide +kernel
theorem dX12_givenBy_2 : decode cX12_givenBy 2 = .ok (.iconst 0, 1) := by decide +kernel
theorem dX12_givenBy_3 : decode cX12_givenBy 3 = .ok (.istore 4, 2) := by decide +kernel
theorem dX12_givenBy_5 : decode cX12_givenBy 5 = .ok (.iload 4, 2) := by decide +kernel
theorem dX12_givenBy_7 : decode cX12_givenBy 7 = .ok (.aload_n 0, 1) := by decide +kernel
theorem dX12_givenBy_8 : decode cX12_givenBy 8 = .ok (.getfield 46, 3) := by decide +kernel
theorem dX12_givenBy_11 : decode cX12_givenBy 11 = .ok (.aload_n 0, 1) := by decide +kernel
theorem dX12_givenBy_12 : decode cX12_givenBy 12 = .ok (.getfield 230, 3) := by decide +kernel
theorem dX12_givenBy_15 : decode cX12_givenBy 15 = .ok (.iaload, 1) := by decide +kernel
theorem dX12_givenBy_16 : decode cX12_givenBy 16 = .ok (.if_icmp .ge 51, 3) := by decide +kernel
theorem dX12_givenBy_19 : decode cX12_givenBy 19 = .ok (.aload_n 0, 1) := by decide +kernel
theorem dX12_givenBy_20 : decode cX12_givenBy 20 = .ok (.getfield 116, 3) := by decide +kernel
theorem dX12_givenBy_23 : decode cX12_givenBy 23 = .ok (.bipush 21, 2) := by decide +kernel
theorem dX12_givenBy_25 : decode cX12_givenBy 25 = .ok (.iload 4, 2) := by decide +kernel
theorem dX12_givenBy_27 : decode cX12_givenBy 27 = .ok (.iadd, 1) := by decide +kernel
theorem dX12_givenBy_28 : decode cX12_givenBy 28 = .ok (.iaload, 1) := by decide +kernel
theorem dX12_givenBy_29 : decode cX12_givenBy 29 = .ok (.iload_n 2, 1) := by decide +kernel
theorem dX12_givenBy_30 : decode cX12_givenBy 30 = .ok (.if_icmp .ne 31, 3) := by decide +kernel
theorem dX12_givenBy_33 : decode cX12_givenBy 33 = .ok (.iload_n 3, 1) := by decide +kernel
theorem dX12_givenBy_34 : decode cX12_givenBy 34 = .ok (.aload_n 0, 1) := by decide +kernel
theorem dX12_givenBy_35 : decode cX12_givenBy 35 = .ok (.iload_n 1, 1) := by decide +kernel
theorem dX12_givenBy_36 : decode cX12_givenBy 36 = .ok (.iload 4, 2) := by decide +kernel
theorem dX12_givenBy_38 : decode cX12_givenBy 38 = .ok (.aload_n 0, 1) := by decide +kernel
theorem dX12_givenBy_39 : decode cX12_givenBy 39 = .ok (.getfield 116, 3) := by decide +kernel
theorem dX12_givenBy_42 : decode cX12_givenBy 42 = .ok (.bipush 28, 2) := by decide +kernel
theorem dX12_givenBy_44 : decode cX12_givenBy 44 = .ok (.iload 4, 2) := by decide +kernel
theorem dX12_givenBy_46 : decode cX12_givenBy 46 = .ok (.iadd, 1) := by decide +kernel
theorem dX12_givenBy_47 : decode cX12_givenBy 47 = .ok (.iaload, 1) := by decide +kernel
theorem dX12_givenBy_48 : decode cX12_givenBy 48 = .ok (.iconst 0, 1) := by decide +kernel
theorem dX12_givenBy_49 : decode cX12_givenBy 49 = .ok (.aload_n 0, 1) := by decide +kernel
theorem dX12_givenBy_50 : decode cX12_givenBy 50 = .ok (.iload 4, 2) := by decide +kernel
theorem dX12_givenBy_52 : decode cX12_givenBy 52 = .ok (.iconst 0, 1) := by decide +kernel
theorem dX12_givenBy_53 : decode cX12_givenBy 53 = .ok (.invokevirtual 349, 3) := by decide +kernel
theorem dX12_givenBy_56 : decode cX12_givenBy 56 = .ok (.invokevirtual 345, 3) := by decide +kernel
theorem dX12_givenBy_59 : decode cX12_givenBy 59 = .ok (.iadd, 1) := by decide +kernel
theorem dX12_givenBy_60 : decode cX12_givenBy 60 = .ok (.istore_n 3, 1) := by decide +kernel
theorem dX12_givenBy_61 : decode cX12_givenBy 61 = .ok (.iinc 4 1, 3) := by decide +kernel
theorem dX12_givenBy_64 : decode cX12_givenBy 64 = .ok (.goto (-59), 3) := by decide +kernel
theorem dX12_givenBy_67 : decode cX12_givenBy 67 = .ok (.iload_n 3, 1) := by decide +kernel
theorem dX12_givenBy_68 : decode cX12_givenBy 68 = .ok (.ireturn, 1) := by decide +kernel
theorem dX12_harsh_0 : decode cX12_harsh 0 = .ok (.aload_n 0, 1) := by decide +kernel
theorem dX12_harsh_1 : decode cX12_harsh 1 = .ok (.iload_n 1, 1) := by decide +kernel
theorem dX12_harsh_2 : decode cX12_harsh 2 = .ok (.invokevirtual 388, 3) := by decide +kernel
theorem dX12_harsh_5 : decode cX12_harsh 5 = .ok (.ifCond .ne 5, 3) := by decide +kernel
theorem dX12_harsh_8 : decode cX12_harsh 8 = .ok (.iconst (-1), 1) := by decide +kernel
theorem dX12_harsh_9 : decode cX12_harsh 9 = .ok (.ireturn, 1) := by decide +kernel
theorem dX12_harsh_10 : decode cX12_harsh 10 = .ok (.aload_n 0, 1) := by decide +kernel
theorem dX12_harsh_11 : decode cX12_harsh 11 = .ok (.invokevirtual 385, 3) := by decide +kernel
theorem dX12_harsh_14 : decode cX12_harsh 14 = .ok (.aload_n 0, 1) := by decide +kernel
theorem dX12_harsh_15 : decode cX12_harsh 15 = .ok (.getfield 67, 3) := by decide +kernel
theorem dX12_harsh_18 : decode cX12_harsh 18 = .ok (.aload_n 0, 1) := by decide +kernel
theorem dX12_harsh_19 : decode cX12_harsh 19 = .ok (.getfield 230, 3) := by decide +kernel
theorem dX12_harsh_22 : decode cX12_harsh 22 = .ok (.iaload, 1) := by decide +kernel
theorem dX12_harsh_23 : decode cX12_harsh 23 = .ok (.ifCond .eq 11, 3) := by decide +kernel
theorem dX12_harsh_26 : decode cX12_harsh 26 = .ok (.aload_n 0, 1) := by decide +kernel
theorem dX12_harsh_27 : decode cX12_harsh 27 = .ok (.iload_n 1, 1) := by decide +kernel
theorem dX12_harsh_28 : decode cX12_harsh 28 = .ok (.invokevirtual 367, 3) := by decide +kernel
theorem dX12_harsh_31 : decode cX12_harsh 31 = .ok (.ifCond .ne 6, 3) := by decide +kernel
theorem dX12_harsh_34 : decode cX12_harsh 34 = .ok (.bipush (-2), 2) := by decide +kernel
theorem dX12_harsh_36 : decode cX12_harsh 36 = .ok (.ireturn, 1) := by decide +kernel
theorem dX12_harsh_37 : decode cX12_harsh 37 = .ok (.iconst 0, 1) := by decide +kernel
theorem dX12_harsh_38 : decode cX12_harsh 38 = .ok (.istore_n 3, 1) := by decide +kernel
theorem dX12_harsh_39 : decode cX12_harsh 39 = .ok (.iconst 1, 1) := by decide +kernel
theorem dX12_harsh_40 : decode cX12_harsh 40 = .ok (.istore 4, 2) := by decide +kernel
theorem dX12_harsh_42 : decode cX12_harsh 42 = .ok (.iload 4, 2) := by decide +kernel
theorem dX12_harsh_44 : decode cX12_harsh 44 = .ok (.aload_n 0, 1) := by decide +kernel
theorem dX12_harsh_45 : decode cX12_harsh 45 = .ok (.getfield 67, 3) := by decide +kernel
theorem dX12_harsh_48 : decode cX12_harsh 48 = .ok (.aload_n 0, 1) := by decide +kernel
theorem dX12_harsh_49 : decode cX12_harsh 49 = .ok (.getfield 230, 3) := by decide +kernel
theorem dX12_harsh_52 : decode cX12_harsh 52 = .ok (.iaload, 1) := by decide +kernel
theorem dX12_harsh_53 : decode cX12_harsh 53 = .ok (.if_icmp .ge 51, 3) := by decide +kernel
theorem dX12_harsh_56 : decode cX12_harsh 56 = .ok (.iload_n 2, 1) := by decide +kernel
theorem dX12_harsh_57 : decode cX12_harsh 57 = .ok (.ifCond .eq 22, 3) := by decide +kernel
theorem dX12_harsh_60 : decode cX12_harsh 60 = .ok (.aload_n 0, 1) := by decide +kernel
theorem dX12_harsh_61 : decode cX12_harsh 61 = .ok (.iload 4, 2) := by decide +kernel
theorem dX12_harsh_63 : decode cX12_harsh 63 = .ok (.iload_n 1, 1) := by decide +kernel
theorem dX12_harsh_64 : decode cX12_harsh 64 = .ok (.invokevirtual 447, 3) := by decide +kernel
theorem dX12_harsh_67 : decode cX12_harsh 67 = .ok (.aload_n 0, 1) := by decide +kernel
theorem dX12_harsh_68 : decode cX12_harsh 68 = .ok (.iload_n 3, 1) := by decide +kernel
theorem dX12_harsh_69 : decode cX12_harsh 69 = .ok (.iload_n 1, 1) := by decide +kernel
theorem dX12_harsh_70 : decode cX12_harsh 70 = .ok (.invokevirtual 447, 3) := by decide +kernel
theorem dX12_harsh_73 : decode cX12_harsh 73 = .ok (.if_icmp .le 25, 3) := by decide +kernel
theorem dX12_harsh_76 : decode cX12_harsh 76 = .ok (.goto 19, 3) := by decide +kernel
theorem dX12_harsh_79 : decode cX12_harsh 79 = .ok (.aload_n 0, 1) := by decide +kernel
theorem dX12_harsh_80 : decode cX12_harsh 80 = .ok (.iload 4, 2) := by decide +kernel
theorem dX12_harsh_82 : decode cX12_harsh 82 = .ok (.iload_n 1, 1) := by decide +kernel
theorem dX12_harsh_83 : decode cX12_harsh 83 = .ok (.invokevirtual 447, 3) := by decide +kernel
theorem dX12_harsh_86 : decode cX12_harsh 86 = .ok (.aload_n 0, 1) := by decide +kernel
theorem dX12_harsh_87 : decode cX12_harsh 87 = .ok (.iload_n 3, 1) := by decide +kernel
theorem dX12_harsh_88 : decode cX12_harsh 88 = .ok (.iload_n 1, 1) := by decide +kernel
theorem dX12_harsh_89 : decode cX12_harsh 89 = .ok (.invokevirtual 447, 3) := by decide +kernel
theorem dX12_harsh_92 : decode cX12_harsh 92 = .ok (.if_icmp .ge 6, 3) := by decide +kernel
theorem dX12_harsh_95 : decode cX12_harsh 95 = .ok (.iload 4, 2) := by decide +kernel
theorem dX12_harsh_97 : decode cX12_harsh 97 = .ok (.istore_n 3, 1) := by decide +kernel
theorem dX12_harsh_98 : decode cX12_harsh 98 = .ok (.iinc 4 1, 3) := by decide +kernel
theorem dX12_harsh_101 : decode cX12_harsh 101 = .ok (.goto (-59), 3) := by decide +kernel
theorem dX12_harsh_104 : decode cX12_harsh 104 = .ok (.iload_n 3, 1) := by decide +kernel
theorem dX12_harsh_105 : decode cX12_harsh 105 = .ok (.ireturn, 1) := by decide +kernel
theorem dX12_praiseFor_0 : decode cX12_praiseFor 0 = .ok (.aload_n 0, 1) := by decide +kernel
theorem dX12_praiseFor_1 : decode cX12_praiseFor 1 = .ok (.iload_n 1, 1) := by decide +kernel
theorem dX12_praiseFor_2 : decode cX12_praiseFor 2 = .ok (.iload_n 2, 1) := by decide +kernel
theorem dX12_praiseFor_3 : decode cX12_praiseFor 3 = .ok (.invokevirtual 412, 3) := by decide +kernel
theorem dX12_praiseFor_6 : decode cX12_praiseFor 6 = .ok (.ifCond .eq 11, 3) := by decide +kernel
theorem dX12_praiseFor_9 : decode cX12_praiseFor 9 = .ok (.aload_n 0, 1) := by decide +kernel
theorem dX12_praiseFor_10 : decode cX12_praiseFor 10 = .ok (.iload_n 3, 1) := by decide +kernel
theorem dX12_praiseFor_11 : decode cX12_praiseFor 11 = .ok (.invokevirtual 382, 3) := by decide +kernel
theorem dX12_praiseFor_14 : decode cX12_praiseFor 14 = .ok (.ifCond .ne 5, 3) := by decide +kernel
theorem dX12_praiseFor_17 : decode cX12_praiseFor 17 = .ok (.iconst (-1), 1) := by decide +kernel
theorem dX12_praiseFor_18 : decode cX12_praiseFor 18 = .ok (.ireturn, 1) := by decide +kernel
theorem dX12_praiseFor_19 : decode cX12_praiseFor 19 = .ok (.aload_n 0, 1) := by decide +kernel
theorem dX12_praiseFor_20 : decode cX12_praiseFor 20 = .ok (.invokevirtual 385, 3) := by decide +kernel
theorem dX12_praiseFor_23 : decode cX12_praiseFor 23 = .ok (.aload_n 0, 1) := by decide +kernel
theorem dX12_praiseFor_24 : decode cX12_praiseFor 24 = .ok (.getfield 116, 3) := by decide +kernel
theorem dX12_praiseFor_27 : decode cX12_praiseFor 27 = .ok (.bipush 21, 2) := by decide +kernel
theorem dX12_praiseFor_29 : decode cX12_praiseFor 29 = .ok (.iload_n 3, 1) := by decide +kernel
theorem dX12_praiseFor_30 : decode cX12_praiseFor 30 = .ok (.iadd, 1) := by decide +kernel
theorem dX12_praiseFor_31 : decode cX12_praiseFor 31 = .ok (.iaload, 1) := by decide +kernel
theorem dX12_praiseFor_32 : decode cX12_praiseFor 32 = .ok (.iload_n 1, 1) := by decide +kernel
theorem dX12_praiseFor_33 : decode cX12_praiseFor 33 = .ok (.if_icmp .eq 6, 3) := by decide +kernel
theorem dX12_praiseFor_36 : decode cX12_praiseFor 36 = .ok (.bipush (-2), 2) := by decide +kernel
theorem dX12_praiseFor_38 : decode cX12_praiseFor 38 = .ok (.ireturn, 1) := by decide +kernel
theorem dX12_praiseFor_39 : decode cX12_praiseFor 39 = .ok (.iconst 0, 1) := by decide +kernel
theorem dX12_praiseFor_40 : decode cX12_praiseFor 40 = .ok (.istore 4, 2) := by decide +kernel
theorem dX12_praiseFor_42 : decode cX12_praiseFor 42 = .ok (.aload_n 0, 1) := by decide +kernel
theorem dX12_praiseFor_43 : decode cX12_praiseFor 43 = .ok (.getfield 113, 3) := by decide +kernel
theorem dX12_praiseFor_46 : decode cX12_praiseFor 46 = .ok (.bipush 35, 2) := by decide +kernel
theorem dX12_praiseFor_48 : decode cX12_praiseFor 48 = .ok (.iload_n 3, 1) := by decide +kernel
theorem dX12_praiseFor_49 : decode cX12_praiseFor 49 = .ok (.iadd, 1) := by decide +kernel
theorem dX12_praiseFor_50 : decode cX12_praiseFor 50 = .ok (.iaload, 1) := by decide +kernel
theorem dX12_praiseFor_51 : decode cX12_praiseFor 51 = .ok (.iload 4, 2) := by decide +kernel
theorem dX12_praiseFor_53 : decode cX12_praiseFor 53 = .ok (.iadd, 1) := by decide +kernel
theorem dX12_praiseFor_54 : decode cX12_praiseFor 54 = .ok (.bipush 9, 2) := by decide +kernel
theorem dX12_praiseFor_56 : decode cX12_praiseFor 56 = .ok (.if_icmp .gt 43, 3) := by decide +kernel
theorem dX12_praiseFor_59 : decode cX12_praiseFor 59 = .ok (.aload_n 0, 1) := by decide +kernel
theorem dX12_praiseFor_60 : decode cX12_praiseFor 60 = .ok (.getfield 116, 3) := by decide +kernel
theorem dX12_praiseFor_63 : decode cX12_praiseFor 63 = .ok (.bipush 35, 2) := by decide +kernel
theorem dX12_praiseFor_65 : decode cX12_praiseFor 65 = .ok (.iload_n 3, 1) := by decide +kernel
theorem dX12_praiseFor_66 : decode cX12_praiseFor 66 = .ok (.iadd, 1) := by decide +kernel
theorem dX12_praiseFor_67 : decode cX12_praiseFor 67 = .ok (.aload_n 0, 1) := by decide +kernel
theorem dX12_praiseFor_68 : decode cX12_praiseFor 68 = .ok (.getfield 113, 3) := by decide +kernel
theorem dX12_praiseFor_71 : decode cX12_praiseFor 71 = .ok (.bipush 35, 2) := by decide +kernel
theorem dX12_praiseFor_73 : decode cX12_praiseFor 73 = .ok (.iload_n 3, 1) := by decide +kernel
theorem dX12_praiseFor_74 : decode cX12_praiseFor 74 = .ok (.iadd, 1) := by decide +kernel
theorem dX12_praiseFor_75 : decode cX12_praiseFor 75 = .ok (.iaload, 1) := by decide +kernel
theorem dX12_praiseFor_76 : decode cX12_praiseFor 76 = .ok (.iload 4, 2) := by decide +kernel
theorem dX12_praiseFor_78 : decode cX12_praiseFor 78 = .ok (.iadd, 1) := by decide +kernel
theorem dX12_praiseFor_79 : decode cX12_praiseFor 79 = .ok (.iastore, 1) := by decide +kernel
theorem dX12_praiseFor_80 : decode cX12_praiseFor 80 = .ok (.aload_n 0, 1) := by decide +kernel
theorem dX12_praiseFor_81 : decode cX12_praiseFor 81 = .ok (.iload_n 1, 1) := by decide +kernel
theorem dX12_praiseFor_82 : decode cX12_praiseFor 82 = .ok (.iconst 0, 1) := by decide +kernel
theorem dX12_praiseFor_83 : decode cX12_praiseFor 83 = .ok (.invokevirtual 373, 3) := by decide +kernel
theorem dX12_praiseFor_86 : decode cX12_praiseFor 86 = .ok (.iload_n 2, 1) := by decide +kernel
theorem dX12_praiseFor_87 : decode cX12_praiseFor 87 = .ok (.if_icmp .ne 6, 3) := by decide +kernel
theorem dX12_praiseFor_90 : decode cX12_praiseFor 90 = .ok (.iload 4, 2) := by decide +kernel
theorem dX12_praiseFor_92 : decode cX12_praiseFor 92 = .ok (.ireturn, 1) := by decide +kernel
theorem dX12_praiseFor_93 : decode cX12_praiseFor 93 = .ok (.iinc 4 1, 3) := by decide +kernel
theorem dX12_praiseFor_96 : decode cX12_praiseFor 96 = .ok (.goto (-54), 3) := by decide +kernel
theorem dX12_praiseFor_99 : decode cX12_praiseFor 99 = .ok (.bipush (-2), 2) := by decide +kernel
theorem dX12_praiseFor_101 : decode cX12_praiseFor 101 = .ok (.ireturn, 1) := by decide +kernel
theorem dX12_old_0 : decode cX12_old 0 = .ok (.aload_n 0, 1) := by decide +kernel
theorem dX12_old_1 : decode cX12_old 1 = .ok (.iload_n 1, 1) := by decide +kernel
theorem dX12_old_2 : decode cX12_old 2 = .ok (.invokevirtual 382, 3) := by decide +kernel
theorem dX12_old_5 : decode cX12_old 5 = .ok (.ifCond .eq 16, 3) := by decide +kernel
theorem dX12_old_8 : decode cX12_old 8 = .ok (.aload_n 0, 1) := by decide +kernel
theorem dX12_old_9 : decode cX12_old 9 = .ok (.iload_n 2, 1) := by decide +kernel
theorem dX12_old_10 : decode cX12_old 10 = .ok (.invokevirtual 382, 3) := by decide +kernel
theorem dX12_old_13 : decode cX12_old 13 = .ok (.ifCond .eq 8, 3) := by decide +kernel
theorem dX12_old_16 : decode cX12_old 16 = .ok (.iload_n 1, 1) := by decide +kernel
theorem dX12_old_17 : decode cX12_old 17 = .ok (.iload_n 2, 1) := by decide +kernel
theorem dX12_old_18 : decode cX12_old 18 = .ok (.if_icmp .ne 7, 3) := by decide +kernel
theorem dX12_old_21 : decode cX12_old 21 = .ok (.sipush (-10000), 3) := by decide +kernel
theorem dX12_old_24 : decode cX12_old 24 = .ok (.ireturn, 1) := by decide +kernel
theorem dX12_old_25 : decode cX12_old 25 = .ok (.aload_n 0, 1) := by decide +kernel
theorem dX12_old_26 : decode cX12_old 26 = .ok (.invokevirtual 385, 3) := by decide +kernel
theorem dX12_old_29 : decode cX12_old 29 = .ok (.aload_n 0, 1) := by decide +kernel
theorem dX12_old_30 : decode cX12_old 30 = .ok (.getfield 116, 3) := by decide +kernel
theorem dX12_old_33 : decode cX12_old 33 = .ok (.bipush 21, 2) := by decide +kernel
theorem dX12_old_35 : decode cX12_old 35 = .ok (.iload_n 1, 1) := by decide +kernel
theorem dX12_old_36 : decode cX12_old 36 = .ok (.iadd, 1) := by decide +kernel
theorem dX12_old_37 : decode cX12_old 37 = .ok (.iaload, 1) := by decide +kernel
theorem dX12_old_38 : decode cX12_old 38 = .ok (.ifCond .lt 15, 3) := by decide +kernel
theorem dX12_old_41 : decode cX12_old 41 = .ok (.aload_n 0, 1) := by decide +kernel
theorem dX12_old_42 : decode cX12_old 42 = .ok (.getfield 116, 3) := by decide +kernel
theorem dX12_old_45 : decode cX12_old 45 = .ok (.bipush 42, 2) := by decide +kernel
theorem dX12_old_47 : decode cX12_old 47 = .ok (.iload_n 2, 1) := by decide +kernel
theorem dX12_old_48 : decode cX12_old 48 = .ok (.iadd, 1) := by decide +kernel
theorem dX12_old_49 : decode cX12_old 49 = .ok (.iaload, 1) := by decide +kernel
theorem dX12_old_50 : decode cX12_old 50 = .ok (.ifCond .ge 7, 3) := by decide +kernel
theorem dX12_old_53 : decode cX12_old 53 = .ok (.sipush (-10000), 3) := by decide +kernel
theorem dX12_old_56 : decode cX12_old 56 = .ok (.ireturn, 1) := by decide +kernel
theorem dX12_old_57 : decode cX12_old 57 = .ok (.aload_n 0, 1) := by decide +kernel
theorem dX12_old_58 : decode cX12_old 58 = .ok (.iload_n 1, 1) := by decide +kernel
theorem dX12_old_59 : decode cX12_old 59 = .ok (.aload_n 0, 1) := by decide +kernel
theorem dX12_old_60 : decode cX12_old 60 = .ok (.getfield 116, 3) := by decide +kernel
theorem dX12_old_63 : decode cX12_old 63 = .ok (.bipush 28, 2) := by decide +kernel
theorem dX12_old_65 : decode cX12_old 65 = .ok (.iload_n 1, 1) := by decide +kernel
theorem dX12_old_66 : decode cX12_old 66 = .ok (.iadd, 1) := by decide +kernel
theorem dX12_old_67 : decode cX12_old 67 = .ok (.iaload, 1) := by decide +kernel
theorem dX12_old_68 : decode cX12_old 68 = .ok (.iconst 0, 1) := by decide +kernel
theorem dX12_old_69 : decode cX12_old 69 = .ok (.aload_n 0, 1) := by decide +kernel
theorem dX12_old_70 : decode cX12_old 70 = .ok (.getfield 116, 3) := by decide +kernel
theorem dX12_old_73 : decode cX12_old 73 = .ok (.bipush 42, 2) := by decide +kernel
theorem dX12_old_75 : decode cX12_old 75 = .ok (.iload_n 2, 1) := by decide +kernel
theorem dX12_old_76 : decode cX12_old 76 = .ok (.iadd, 1) := by decide +kernel
theorem dX12_old_77 : decode cX12_old 77 = .ok (.iaload, 1) := by decide +kernel
theorem dX12_old_78 : decode cX12_old 78 = .ok (.sipush 255, 3) := by decide +kernel
theorem dX12_old_81 : decode cX12_old 81 = .ok (.invokevirtual 352, 3) := by decide +kernel
theorem dX12_old_84 : decode cX12_old 84 = .ok (.aload_n 0, 1) := by decide +kernel
theorem dX12_old_85 : decode cX12_old 85 = .ok (.iload_n 1, 1) := by decide +kernel
theorem dX12_old_86 : decode cX12_old 86 = .ok (.iconst 0, 1) := by decide +kernel
theorem dX12_old_87 : decode cX12_old 87 = .ok (.invokevirtual 364, 3) := by decide +kernel
theorem dX12_old_90 : decode cX12_old 90 = .ok (.isub, 1) := by decide +kernel
theorem dX12_old_91 : decode cX12_old 91 = .ok (.ireturn, 1) := by decide +kernel
theorem dX12_year_0 : decode cX12_year 0 = .ok (.aload_n 0, 1) := by decide +kernel
theorem dX12_year_1 : decode cX12_year 1 = .ok (.iload_n 1, 1) := by decide +kernel
theorem dX12_year_2 : decode cX12_year 2 = .ok (.invokevirtual 394, 3) := by decide +kernel
theorem dX12_year_5 : decode cX12_year 5 = .ok (.ifCond .eq 13, 3) := by decide +kernel
theorem dX12_year_8 : decode cX12_year 8 = .ok (.iload_n 2, 1) := by decide +kernel
theorem dX12_year_9 : decode cX12_year 9 = .ok (.iconst 1, 1) := by decide +kernel
theorem dX12_year_10 : decode cX12_year 10 = .ok (.bipush 20, 2) := by decide +kernel
theorem dX12_year_12 : decode cX12_year 12 = .ok (.invokestatic 314, 3) := by decide +kernel
theorem dX12_year_15 : decode cX12_year 15 = .ok (.ifCond .ne 5, 3) := by decide +kernel
theorem dX12_year_18 : decode cX12_year 18 = .ok (.iconst (-1), 1) := by decide +kernel
theorem dX12_year_19 : decode cX12_year 19 = .ok (.ireturn, 1) := by decide +kernel
theorem dX12_year_20 : decode cX12_year 20 = .ok (.iconst 0, 1) := by decide +kernel
theorem dX12_year_21 : decode cX12_year 21 = .ok (.istore_n 3, 1) := by decide +kernel
theorem dX12_year_22 : decode cX12_year 22 = .ok (.iconst 0, 1) := by decide +kernel
theorem dX12_year_23 : decode cX12_year 23 = .ok (.istore 4, 2) := by decide +kernel
theorem dX12_year_25 : decode cX12_year 25 = .ok (.iload 4, 2) := by decide +kernel
theorem dX12_year_27 : decode cX12_year 27 = .ok (.iload_n 2, 1) := by decide +kernel
theorem dX12_year_28 : decode cX12_year 28 = .ok (.if_icmp .ge 112, 3) := by decide +kernel
theorem dX12_year_31 : decode cX12_year 31 = .ok (.aload_n 0, 1) := by decide +kernel
theorem dX12_year_32 : decode cX12_year 32 = .ok (.invokevirtual 385, 3) := by decide +kernel
theorem dX12_year_35 : decode cX12_year 35 = .ok (.aload_n 0, 1) := by decide +kernel
theorem dX12_year_36 : decode cX12_year 36 = .ok (.dup, 1) := by decide +kernel
theorem dX12_year_37 : decode cX12_year 37 = .ok (.getfield 318, 3) := by decide +kernel
theorem dX12_year_40 : decode cX12_year 40 = .ok (.iload 4, 2) := by decide +kernel
theorem dX12_year_42 : decode cX12_year 42 = .ok (.iadd, 1) := by decide +kernel
theorem dX12_year_43 : decode cX12_year 43 = .ok (.putfield 318, 3) := by decide +kernel
theorem dX12_year_46 : decode cX12_year 46 = .ok (.iconst 0, 1) := by decide +kernel
theorem dX12_year_47 : decode cX12_year 47 = .ok (.istore 5, 2) := by decide +kernel
theorem dX12_year_49 : decode cX12_year 49 = .ok (.iload 5, 2) := by decide +kernel
theorem dX12_year_51 : decode cX12_year 51 = .ok (.aload_n 0, 1) := by decide +kernel
theorem dX12_year_52 : decode cX12_year 52 = .ok (.getfield 61, 3) := by decide +kernel
theorem dX12_year_55 : decode cX12_year 55 = .ok (.aload_n 0, 1) := by decide +kernel
theorem dX12_year_56 : decode cX12_year 56 = .ok (.getfield 230, 3) := by decide +kernel
theorem dX12_year_59 : decode cX12_year 59 = .ok (.iaload, 1) := by decide +kernel
theorem dX12_year_60 : decode cX12_year 60 = .ok (.if_icmp .ge 74, 3) := by decide +kernel
theorem dX12_year_63 : decode cX12_year 63 = .ok (.aload_n 0, 1) := by decide +kernel
theorem dX12_year_64 : decode cX12_year 64 = .ok (.getfield 67, 3) := by decide +kernel
theorem dX12_year_67 : decode cX12_year 67 = .ok (.aload_n 0, 1) := by decide +kernel
theorem dX12_year_68 : decode cX12_year 68 = .ok (.getfield 230, 3) := by decide +kernel
theorem dX12_year_71 : decode cX12_year 71 = .ok (.iaload, 1) := by decide +kernel
theorem dX12_year_72 : decode cX12_year 72 = .ok (.ifCond .le 62, 3) := by decide +kernel
theorem dX12_year_75 : decode cX12_year 75 = .ok (.aload_n 0, 1) := by decide +kernel
theorem dX12_year_76 : decode cX12_year 76 = .ok (.getfield 116, 3) := by decide +kernel
theorem dX12_year_79 : decode cX12_year 79 = .ok (.bipush 70, 2) := by decide +kernel
theorem dX12_year_81 : decode cX12_year 81 = .ok (.iload 5, 2) := by decide +kernel
theorem dX12_year_83 : decode cX12_year 83 = .ok (.iadd, 1) := by decide +kernel
theorem dX12_year_84 : decode cX12_year 84 = .ok (.iaload, 1) := by decide +kernel
theorem dX12_year_85 : decode cX12_year 85 = .ok (.ifCond .ge 43, 3) := by decide +kernel
theorem dX12_year_88 : decode cX12_year 88 = .ok (.aload_n 0, 1) := by decide +kernel
theorem dX12_year_89 : decode cX12_year 89 = .ok (.iload 5, 2) := by decide +kernel
theorem dX12_year_91 : decode cX12_year 91 = .ok (.invokevirtual 367, 3) := by decide +kernel
theorem dX12_year_94 : decode cX12_year 94 = .ok (.ifCond .eq 34, 3) := by decide +kernel
theorem dX12_year_97 : decode cX12_year 97 = .ok (.aload_n 0, 1) := by decide +kernel
theorem dX12_year_98 : decode cX12_year 98 = .ok (.iload 5, 2) := by decide +kernel
theorem dX12_year_100 : decode cX12_year 100 = .ok (.invokevirtual 400, 3) := by decide +kernel
theorem dX12_year_103 : decode cX12_year 103 = .ok (.iload_n 1, 1) := by decide +kernel
theorem dX12_year_104 : decode cX12_year 104 = .ok (.if_icmp .ne 24, 3) := by decide +kernel
theorem dX12_year_107 : decode cX12_year 107 = .ok (.iload_n 3, 1) := by decide +kernel
theorem dX12_year_108 : decode cX12_year 108 = .ok (.aload_n 0, 1) := by decide +kernel
theorem dX12_year_109 : decode cX12_year 109 = .ok (.getfield 64, 3) := by decide +kernel
theorem dX12_year_112 : decode cX12_year 112 = .ok (.iconst 3, 1) := by decide +kernel
theorem dX12_year_113 : decode cX12_year 113 = .ok (.iconst 5, 1) := by decide +kernel
theorem dX12_year_114 : decode cX12_year 114 = .ok (.aload_n 0, 1) := by decide +kernel
theorem dX12_year_115 : decode cX12_year 115 = .ok (.getfield 230, 3) := by decide +kernel
theorem dX12_year_118 : decode cX12_year 118 = .ok (.imul, 1) := by decide +kernel
theorem dX12_year_119 : decode cX12_year 119 = .ok (.iload 5, 2) := by decide +kernel
theorem dX12_year_121 : decode cX12_year 121 = .ok (.iadd, 1) := by decide +kernel
theorem dX12_year_122 : decode cX12_year 122 = .ok (.imul, 1) := by decide +kernel
theorem dX12_year_123 : decode cX12_year 123 = .ok (.iload_n 1, 1) := by decide +kernel
theorem dX12_year_124 : decode cX12_year 124 = .ok (.iadd, 1) := by decide +kernel
theorem dX12_year_125 : decode cX12_year 125 = .ok (.iaload, 1) := by decide +kernel
theorem dX12_year_126 : decode cX12_year 126 = .ok (.iadd, 1) := by decide +kernel
theorem dX12_year_127 : decode cX12_year 127 = .ok (.istore_n 3, 1) := by decide +kernel
theorem dX12_year_128 : decode cX12_year 128 = .ok (.iinc 5 1, 3) := by decide +kernel
theorem dX12_year_131 : decode cX12_year 131 = .ok (.goto (-82), 3) := by decide +kernel
theorem dX12_year_134 : decode cX12_year 134 = .ok (.iinc 4 1, 3) := by decide +kernel
theorem dX12_year_137 : decode cX12_year 137 = .ok (.goto (-112), 3) := by decide +kernel
theorem dX12_year_140 : decode cX12_year 140 = .ok (.iload_n 3, 1) := by decide +kernel
theorem dX12_year_141 : decode cX12_year 141 = .ok (.ireturn, 1) := by decide +kernel
theorem dX12_tell_0 : decode cX12_tell 0 = .ok (.aload_n 0, 1) := by decide +kernel
theorem dX12_tell_1 : decode cX12_tell 1 = .ok (.getfield 259, 3) := by decide +kernel
theorem dX12_tell_4 : decode cX12_tell 4 = .ok (.bipush 20, 2) := by decide +kernel
theorem dX12_tell_6 : decode cX12_tell 6 = .ok (.if_icmp .eq 21, 3) := by decide +kernel
theorem dX12_tell_9 : decode cX12_tell 9 = .ok (.aload_n 0, 1) := by decide +kernel
theorem dX12_tell_10 : decode cX12_tell 10 = .ok (.iload_n 1, 1) := by decide +kernel
theorem dX12_tell_11 : decode cX12_tell 11 = .ok (.invokevirtual 382, 3) := by decide +kernel
theorem dX12_tell_14 : decode cX12_tell 14 = .ok (.ifCond .eq 13, 3) := by decide +kernel
theorem dX12_tell_17 : decode cX12_tell 17 = .ok (.iload_n 2, 1) := by decide +kernel
theorem dX12_tell_18 : decode cX12_tell 18 = .ok (.iconst 0, 1) := by decide +kernel
theorem dX12_tell_19 : decode cX12_tell 19 = .ok (.bipush 99, 2) := by decide +kernel
theorem dX12_tell_21 : decode cX12_tell 21 = .ok (.invokestatic 314, 3) := by decide +kernel
theorem dX12_tell_24 : decode cX12_tell 24 = .ok (.ifCond .ne 5, 3) := by decide +kernel
theorem dX12_tell_27 : decode cX12_tell 27 = .ok (.iconst (-1), 1) := by decide +kernel
theorem dX12_tell_28 : decode cX12_tell 28 = .ok (.ireturn, 1) := by decide +kernel
theorem dX12_tell_29 : decode cX12_tell 29 = .ok (.aload_n 0, 1) := by decide +kernel
theorem dX12_tell_30 : decode cX12_tell 30 = .ok (.getfield 134, 3) := by decide +kernel
theorem dX12_tell_33 : decode cX12_tell 33 = .ok (.aload_n 0, 1) := by decide +kernel
theorem dX12_tell_34 : decode cX12_tell 34 = .ok (.getfield 259, 3) := by decide +kernel
theorem dX12_tell_37 : decode cX12_tell 37 = .ok (.iload_n 1, 1) := by decide +kernel
theorem dX12_tell_38 : decode cX12_tell 38 = .ok (.iastore, 1) := by decide +kernel
theorem dX12_tell_39 : decode cX12_tell 39 = .ok (.aload_n 0, 1) := by decide +kernel
theorem dX12_tell_40 : decode cX12_tell 40 = .ok (.getfield 137, 3) := by decide +kernel
theorem dX12_tell_43 : decode cX12_tell 43 = .ok (.aload_n 0, 1) := by decide +kernel
theorem dX12_tell_44 : decode cX12_tell 44 = .ok (.getfield 259, 3) := by decide +kernel
theorem dX12_tell_47 : decode cX12_tell 47 = .ok (.iload_n 2, 1) := by decide +kernel
theorem dX12_tell_48 : decode cX12_tell 48 = .ok (.iastore, 1) := by decide +kernel
theorem dX12_tell_49 : decode cX12_tell 49 = .ok (.aload_n 0, 1) := by decide +kernel
theorem dX12_tell_50 : decode cX12_tell 50 = .ok (.dup, 1) := by decide +kernel
theorem dX12_tell_51 : decode cX12_tell 51 = .ok (.getfield 259, 3) := by decide +kernel
theorem dX12_tell_54 : decode cX12_tell 54 = .ok (.iconst 1, 1) := by decide +kernel
theorem dX12_tell_55 : decode cX12_tell 55 = .ok (.iadd, 1) := by decide +kernel
theorem dX12_tell_56 : decode cX12_tell 56 = .ok (.putfield 259, 3) := by decide +kernel
theorem dX12_tell_59 : decode cX12_tell 59 = .ok (.aload_n 0, 1) := by decide +kernel
theorem dX12_tell_60 : decode cX12_tell 60 = .ok (.getfield 259, 3) := by decide +kernel
theorem dX12_tell_63 : decode cX12_tell 63 = .ok (.iconst 1, 1) := by decide +kernel
theorem dX12_tell_64 : decode cX12_tell 64 = .ok (.isub, 1) := by decide +kernel
theorem dX12_tell_65 : decode cX12_tell 65 = .ok (.ireturn, 1) := by decide +kernel
theorem dX12_forget_0 : decode cX12_forget 0 = .ok (.aload_n 0, 1) := by decide +kernel
theorem dX12_forget_1 : decode cX12_forget 1 = .ok (.getfield 259, 3) := by decide +kernel
theorem dX12_forget_4 : decode cX12_forget 4 = .ok (.istore_n 1, 1) := by decide +kernel
theorem dX12_forget_5 : decode cX12_forget 5 = .ok (.aload_n 0, 1) := by decide +kernel
theorem dX12_forget_6 : decode cX12_forget 6 = .ok (.iconst 0, 1) := by decide +kernel
theorem dX12_forget_7 : decode cX12_forget 7 = .ok (.putfield 259, 3) := by decide +kernel
theorem dX12_forget_10 : decode cX12_forget 10 = .ok (.iload_n 1, 1) := by decide +kernel
theorem dX12_forget_11 : decode cX12_forget 11 = .ok (.ireturn, 1) := by decide +kernel
theorem dX12_isSo_0 : decode cX12_isSo 0 = .ok (.iconst 0, 1) := by decide +kernel
theorem dX12_isSo_1 : decode cX12_isSo 1 = .ok (.istore 4, 2) := by decide +kernel
theorem dX12_isSo_3 : decode cX12_isSo 3 = .ok (.iload 4, 2) := by decide +kernel
theorem dX12_isSo_5 : decode cX12_isSo 5 = .ok (.iload_n 3, 1) := by decide +kernel
theorem dX12_isSo_6 : decode cX12_isSo 6 = .ok (.if_icmp .ge 50, 3) := by decide +kernel
theorem dX12_isSo_9 : decode cX12_isSo 9 = .ok (.aload_n 0, 1) := by decide +kernel
theorem dX12_isSo_10 : decode cX12_isSo 10 = .ok (.getfield 134, 3) := by decide +kernel
theorem dX12_isSo_13 : decode cX12_isSo 13 = .ok (.iload 4, 2) := by decide +kernel
theorem dX12_isSo_15 : decode cX12_isSo 15 = .ok (.iaload, 1) := by decide +kernel
theorem dX12_isSo_16 : decode cX12_isSo 16 = .ok (.iload_n 1, 1) := by decide +kernel
theorem dX12_isSo_17 : decode cX12_isSo 17 = .ok (.if_icmp .ne 33, 3) := by decide +kernel
theorem dX12_isSo_20 : decode cX12_isSo 20 = .ok (.aload_n 0, 1) := by decide +kernel
theorem dX12_isSo_21 : decode cX12_isSo 21 = .ok (.getfield 116, 3) := by decide +kernel
theorem dX12_isSo_24 : decode cX12_isSo 24 = .ok (.bipush 21, 2) := by decide +kernel
theorem dX12_isSo_26 : decode cX12_isSo 26 = .ok (.iload_n 1, 1) := by decide +kernel
theorem dX12_isSo_27 : decode cX12_isSo 27 = .ok (.iadd, 1) := by decide +kernel
theorem dX12_isSo_28 : decode cX12_isSo 28 = .ok (.iaload, 1) := by decide +kernel
theorem dX12_isSo_29 : decode cX12_isSo 29 = .ok (.ifCond .lt 19, 3) := by decide +kernel
theorem dX12_isSo_32 : decode cX12_isSo 32 = .ok (.aload_n 0, 1) := by decide +kernel
theorem dX12_isSo_33 : decode cX12_isSo 33 = .ok (.iload_n 1, 1) := by decide +kernel
theorem dX12_isSo_34 : decode cX12_isSo 34 = .ok (.iload_n 2, 1) := by decide +kernel
theorem dX12_isSo_35 : decode cX12_isSo 35 = .ok (.invokevirtual 364, 3) := by decide +kernel
theorem dX12_isSo_38 : decode cX12_isSo 38 = .ok (.aload_n 0, 1) := by decide +kernel
theorem dX12_isSo_39 : decode cX12_isSo 39 = .ok (.getfield 137, 3) := by decide +kernel
theorem dX12_isSo_42 : decode cX12_isSo 42 = .ok (.iload 4, 2) := by decide +kernel
theorem dX12_isSo_44 : decode cX12_isSo 44 = .ok (.iaload, 1) := by decide +kernel
theorem dX12_isSo_45 : decode cX12_isSo 45 = .ok (.if_icmp .eq 5, 3) := by decide +kernel
theorem dX12_isSo_48 : decode cX12_isSo 48 = .ok (.iconst 0, 1) := by decide +kernel
theorem dX12_isSo_49 : decode cX12_isSo 49 = .ok (.ireturn, 1) := by decide +kernel
