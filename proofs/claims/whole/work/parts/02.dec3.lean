theorem dX12_verdict_2 : decode cX12_verdict 2 = .ok (.putfield 171, 3) := by decide +kernel
theorem dX12_verdict_5 : decode cX12_verdict 5 = .ok (.iload_n 1, 1) := by decide +kernel
theorem dX12_verdict_6 : decode cX12_verdict 6 = .ok (.iconst 0, 1) := by decide +kernel
theorem dX12_verdict_7 : decode cX12_verdict 7 = .ok (.bipush 9, 2) := by decide +kernel
theorem dX12_verdict_9 : decode cX12_verdict 9 = .ok (.invokestatic 301, 3) := by decide +kernel
theorem dX12_verdict_12 : decode cX12_verdict 12 = .ok (.ifCond .eq 11, 3) := by decide +kernel
theorem dX12_verdict_15 : decode cX12_verdict 15 = .ok (.aload_n 0, 1) := by decide +kernel
theorem dX12_verdict_16 : decode cX12_verdict 16 = .ok (.iload_n 1, 1) := by decide +kernel
theorem dX12_verdict_17 : decode cX12_verdict 17 = .ok (.invokevirtual 445, 3) := by decide +kernel
theorem dX12_verdict_20 : decode cX12_verdict 20 = .ok (.goto 4, 3) := by decide +kernel
theorem dX12_verdict_23 : decode cX12_verdict 23 = .ok (.iconst (-1), 1) := by decide +kernel
theorem dX12_verdict_24 : decode cX12_verdict 24 = .ok (.ireturn, 1) := by decide +kernel
theorem dX12_votes_0 : decode cX12_votes 0 = .ok (.aload_n 0, 1) := by decide +kernel
theorem dX12_votes_1 : decode cX12_votes 1 = .ok (.iconst 0, 1) := by decide +kernel
theorem dX12_votes_2 : decode cX12_votes 2 = .ok (.putfield 171, 3) := by decide +kernel
theorem dX12_votes_5 : decode cX12_votes 5 = .ok (.iload_n 1, 1) := by decide +kernel
theorem dX12_votes_6 : decode cX12_votes 6 = .ok (.iconst 0, 1) := by decide +kernel
theorem dX12_votes_7 : decode cX12_votes 7 = .ok (.bipush 9, 2) := by decide +kernel
theorem dX12_votes_9 : decode cX12_votes 9 = .ok (.invokestatic 301, 3) := by decide +kernel
theorem dX12_votes_12 : decode cX12_votes 12 = .ok (.ifCond .eq 15, 3) := by decide +kernel
theorem dX12_votes_15 : decode cX12_votes 15 = .ok (.aload_n 0, 1) := by decide +kernel
theorem dX12_votes_16 : decode cX12_votes 16 = .ok (.aload_n 0, 1) := by decide +kernel
theorem dX12_votes_17 : decode cX12_votes 17 = .ok (.iload_n 1, 1) := by decide +kernel
theorem dX12_votes_18 : decode cX12_votes 18 = .ok (.invokevirtual 445, 3) := by decide +kernel
theorem dX12_votes_21 : decode cX12_votes 21 = .ok (.invokevirtual 439, 3) := by decide +kernel
theorem dX12_votes_24 : decode cX12_votes 24 = .ok (.goto 4, 3) := by decide +kernel
theorem dX12_votes_27 : decode cX12_votes 27 = .ok (.iconst (-1), 1) := by decide +kernel
theorem dX12_votes_28 : decode cX12_votes 28 = .ok (.ireturn, 1) := by decide +kernel
theorem dX12_power_0 : decode cX12_power 0 = .ok (.aload_n 0, 1) := by decide +kernel
theorem dX12_power_1 : decode cX12_power 1 = .ok (.iconst 0, 1) := by decide +kernel
theorem dX12_power_2 : decode cX12_power 2 = .ok (.putfield 171, 3) := by decide +kernel
theorem dX12_power_5 : decode cX12_power 5 = .ok (.aload_n 0, 1) := by decide +kernel
theorem dX12_power_6 : decode cX12_power 6 = .ok (.iload_n 1, 1) := by decide +kernel
theorem dX12_power_7 : decode cX12_power 7 = .ok (.invokevirtual 414, 3) := by decide +kernel
theorem dX12_power_10 : decode cX12_power 10 = .ok (.ifCond .eq 25, 3) := by decide +kernel
theorem dX12_power_13 : decode cX12_power 13 = .ok (.iload_n 2, 1) := by decide +kernel
theorem dX12_power_14 : decode cX12_power 14 = .ok (.iconst 0, 1) := by decide +kernel
theorem dX12_power_15 : decode cX12_power 15 = .ok (.sipush 999, 3) := by decide +kernel
theorem dX12_power_18 : decode cX12_power 18 = .ok (.invokestatic 301, 3) := by decide +kernel
theorem dX12_power_21 : decode cX12_power 21 = .ok (.ifCond .eq 14, 3) := by decide +kernel
theorem dX12_power_24 : decode cX12_power 24 = .ok (.aload_n 0, 1) := by decide +kernel
theorem dX12_power_25 : decode cX12_power 25 = .ok (.getfield 120, 3) := by decide +kernel
theorem dX12_power_28 : decode cX12_power 28 = .ok (.iconst 1, 1) := by decide +kernel
theorem dX12_power_29 : decode cX12_power 29 = .ok (.iload_n 1, 1) := by decide +kernel
theorem dX12_power_30 : decode cX12_power 30 = .ok (.iadd, 1) := by decide +kernel
theorem dX12_power_31 : decode cX12_power 31 = .ok (.iaload, 1) := by decide +kernel
theorem dX12_power_32 : decode cX12_power 32 = .ok (.ifCond .ge 5, 3) := by decide +kernel
theorem dX12_power_35 : decode cX12_power 35 = .ok (.iconst (-1), 1) := by decide +kernel
theorem dX12_power_36 : decode cX12_power 36 = .ok (.ireturn, 1) := by decide +kernel
theorem dX12_power_37 : decode cX12_power 37 = .ok (.aload_n 0, 1) := by decide +kernel
theorem dX12_power_38 : decode cX12_power 38 = .ok (.invokevirtual 436, 3) := by decide +kernel
theorem dX12_power_41 : decode cX12_power 41 = .ok (.iconst 1, 1) := by decide +kernel
theorem dX12_power_42 : decode cX12_power 42 = .ok (.iload_n 1, 1) := by decide +kernel
theorem dX12_power_43 : decode cX12_power 43 = .ok (.ishl, 1) := by decide +kernel
theorem dX12_power_44 : decode cX12_power 44 = .ok (.iconst (-1), 1) := by decide +kernel
theorem dX12_power_45 : decode cX12_power 45 = .ok (.ixor, 1) := by decide +kernel
theorem dX12_power_46 : decode cX12_power 46 = .ok (.iand, 1) := by decide +kernel
theorem dX12_power_47 : decode cX12_power 47 = .ok (.istore_n 3, 1) := by decide +kernel
theorem dX12_power_48 : decode cX12_power 48 = .ok (.iconst 0, 1) := by decide +kernel
theorem dX12_power_49 : decode cX12_power 49 = .ok (.istore 4, 2) := by decide +kernel
theorem dX12_power_51 : decode cX12_power 51 = .ok (.iconst 0, 1) := by decide +kernel
theorem dX12_power_52 : decode cX12_power 52 = .ok (.istore 5, 2) := by decide +kernel
theorem dX12_power_54 : decode cX12_power 54 = .ok (.iload 5, 2) := by decide +kernel
theorem dX12_power_56 : decode cX12_power 56 = .ok (.bipush 64, 2) := by decide +kernel
theorem dX12_power_58 : decode cX12_power 58 = .ok (.if_icmp .ge 58, 3) := by decide +kernel
theorem dX12_power_61 : decode cX12_power 61 = .ok (.iload 5, 2) := by decide +kernel
theorem dX12_power_63 : decode cX12_power 63 = .ok (.iload_n 3, 1) := by decide +kernel
theorem dX12_power_64 : decode cX12_power 64 = .ok (.iconst (-1), 1) := by decide +kernel
theorem dX12_power_65 : decode cX12_power 65 = .ok (.ixor, 1) := by decide +kernel
theorem dX12_power_66 : decode cX12_power 66 = .ok (.iand, 1) := by decide +kernel
theorem dX12_power_67 : decode cX12_power 67 = .ok (.ifCond .eq 6, 3) := by decide +kernel
theorem dX12_power_70 : decode cX12_power 70 = .ok (.goto 40, 3) := by decide +kernel
theorem dX12_power_73 : decode cX12_power 73 = .ok (.aload_n 0, 1) := by decide +kernel
theorem dX12_power_74 : decode cX12_power 74 = .ok (.iload 5, 2) := by decide +kernel
theorem dX12_power_76 : decode cX12_power 76 = .ok (.invokevirtual 439, 3) := by decide +kernel
theorem dX12_power_79 : decode cX12_power 79 = .ok (.istore 6, 2) := by decide +kernel
theorem dX12_power_81 : decode cX12_power 81 = .ok (.iload 4, 2) := by decide +kernel
theorem dX12_power_83 : decode cX12_power 83 = .ok (.iload 6, 2) := by decide +kernel
theorem dX12_power_85 : decode cX12_power 85 = .ok (.iload_n 2, 1) := by decide +kernel
theorem dX12_power_86 : decode cX12_power 86 = .ok (.if_icmp .ge 20, 3) := by decide +kernel
theorem dX12_power_89 : decode cX12_power 89 = .ok (.iload 6, 2) := by decide +kernel
theorem dX12_power_91 : decode cX12_power 91 = .ok (.aload_n 0, 1) := by decide +kernel
theorem dX12_power_92 : decode cX12_power 92 = .ok (.getfield 26, 3) := by decide +kernel
theorem dX12_power_95 : decode cX12_power 95 = .ok (.iload_n 1, 1) := by decide +kernel
theorem dX12_power_96 : decode cX12_power 96 = .ok (.iaload, 1) := by decide +kernel
theorem dX12_power_97 : decode cX12_power 97 = .ok (.iadd, 1) := by decide +kernel
theorem dX12_power_98 : decode cX12_power 98 = .ok (.iload_n 2, 1) := by decide +kernel
theorem dX12_power_99 : decode cX12_power 99 = .ok (.if_icmp .lt 7, 3) := by decide +kernel
theorem dX12_power_102 : decode cX12_power 102 = .ok (.iconst 1, 1) := by decide +kernel
theorem dX12_power_103 : decode cX12_power 103 = .ok (.goto 4, 3) := by decide +kernel
theorem dX12_power_106 : decode cX12_power 106 = .ok (.iconst 0, 1) := by decide +kernel
theorem dX12_power_107 : decode cX12_power 107 = .ok (.iadd, 1) := by decide +kernel
theorem dX12_power_108 : decode cX12_power 108 = .ok (.istore 4, 2) := by decide +kernel
theorem dX12_power_110 : decode cX12_power 110 = .ok (.iinc 5 1, 3) := by decide +kernel
theorem dX12_power_113 : decode cX12_power 113 = .ok (.goto (-59), 3) := by decide +kernel
theorem dX12_power_116 : decode cX12_power 116 = .ok (.iload 4, 2) := by decide +kernel
theorem dX12_power_118 : decode cX12_power 118 = .ok (.ireturn, 1) := by decide +kernel
theorem dX12_fitsAll_0 : decode cX12_fitsAll 0 = .ok (.iconst 0, 1) := by decide +kernel
theorem dX12_fitsAll_1 : decode cX12_fitsAll 1 = .ok (.istore_n 3, 1) := by decide +kernel
theorem dX12_fitsAll_2 : decode cX12_fitsAll 2 = .ok (.iload_n 3, 1) := by decide +kernel
theorem dX12_fitsAll_3 : decode cX12_fitsAll 3 = .ok (.aload_n 0, 1) := by decide +kernel
theorem dX12_fitsAll_4 : decode cX12_fitsAll 4 = .ok (.getfield 448, 3) := by decide +kernel
theorem dX12_fitsAll_7 : decode cX12_fitsAll 7 = .ok (.if_icmp .ge 28, 3) := by decide +kernel
theorem dX12_fitsAll_10 : decode cX12_fitsAll 10 = .ok (.aload_n 0, 1) := by decide +kernel
theorem dX12_fitsAll_11 : decode cX12_fitsAll 11 = .ok (.iload_n 1, 1) := by decide +kernel
theorem dX12_fitsAll_12 : decode cX12_fitsAll 12 = .ok (.iload_n 2, 1) := by decide +kernel
theorem dX12_fitsAll_13 : decode cX12_fitsAll 13 = .ok (.aload_n 0, 1) := by decide +kernel
theorem dX12_fitsAll_14 : decode cX12_fitsAll 14 = .ok (.getfield 120, 3) := by decide +kernel
theorem dX12_fitsAll_17 : decode cX12_fitsAll 17 = .ok (.iconst 0, 1) := by decide +kernel
theorem dX12_fitsAll_18 : decode cX12_fitsAll 18 = .ok (.iaload, 1) := by decide +kernel
theorem dX12_fitsAll_19 : decode cX12_fitsAll 19 = .ok (.iload_n 3, 1) := by decide +kernel
theorem dX12_fitsAll_20 : decode cX12_fitsAll 20 = .ok (.iadd, 1) := by decide +kernel
theorem dX12_fitsAll_21 : decode cX12_fitsAll 21 = .ok (.invokevirtual 406, 3) := by decide +kernel
theorem dX12_fitsAll_24 : decode cX12_fitsAll 24 = .ok (.ifCond .ne 5, 3) := by decide +kernel
theorem dX12_fitsAll_27 : decode cX12_fitsAll 27 = .ok (.iconst 0, 1) := by decide +kernel
theorem dX12_fitsAll_28 : decode cX12_fitsAll 28 = .ok (.ireturn, 1) := by decide +kernel
theorem dX12_fitsAll_29 : decode cX12_fitsAll 29 = .ok (.iinc 3 1, 3) := by decide +kernel
theorem dX12_fitsAll_32 : decode cX12_fitsAll 32 = .ok (.goto (-30), 3) := by decide +kernel
theorem dX12_fitsAll_35 : decode cX12_fitsAll 35 = .ok (.iconst 1, 1) := by decide +kernel
theorem dX12_fitsAll_36 : decode cX12_fitsAll 36 = .ok (.ireturn, 1) := by decide +kernel
theorem dX12_fillsFrom_0 : decode cX12_fillsFrom 0 = .ok (.iload_n 1, 1) := by decide +kernel
theorem dX12_fillsFrom_1 : decode cX12_fillsFrom 1 = .ok (.aload_n 0, 1) := by decide +kernel
theorem dX12_fillsFrom_2 : decode cX12_fillsFrom 2 = .ok (.getfield 13, 3) := by decide +kernel
theorem dX12_fillsFrom_5 : decode cX12_fillsFrom 5 = .ok (.iconst 0, 1) := by decide +kernel
theorem dX12_fillsFrom_6 : decode cX12_fillsFrom 6 = .ok (.iaload, 1) := by decide +kernel
theorem dX12_fillsFrom_7 : decode cX12_fillsFrom 7 = .ok (.if_icmp .ne 48, 3) := by decide +kernel
theorem dX12_fillsFrom_10 : decode cX12_fillsFrom 10 = .ok (.iload_n 3, 1) := by decide +kernel
theorem dX12_fillsFrom_11 : decode cX12_fillsFrom 11 = .ok (.aload_n 0, 1) := by decide +kernel
theorem dX12_fillsFrom_12 : decode cX12_fillsFrom 12 = .ok (.getfield 451, 3) := by decide +kernel
theorem dX12_fillsFrom_15 : decode cX12_fillsFrom 15 = .ok (.if_icmp .gt 4, 3) := by decide +kernel
theorem dX12_fillsFrom_18 : decode cX12_fillsFrom 18 = .ok (.return_, 1) := by decide +kernel
theorem dX12_fillsFrom_19 : decode cX12_fillsFrom 19 = .ok (.aload_n 0, 1) := by decide +kernel
theorem dX12_fillsFrom_20 : decode cX12_fillsFrom 20 = .ok (.iload_n 3, 1) := by decide +kernel
theorem dX12_fillsFrom_21 : decode cX12_fillsFrom 21 = .ok (.putfield 451, 3) := by decide +kernel
theorem dX12_fillsFrom_24 : decode cX12_fillsFrom 24 = .ok (.iconst 0, 1) := by decide +kernel
theorem dX12_fillsFrom_25 : decode cX12_fillsFrom 25 = .ok (.istore 4, 2) := by decide +kernel
theorem dX12_fillsFrom_27 : decode cX12_fillsFrom 27 = .ok (.iload 4, 2) := by decide +kernel
theorem dX12_fillsFrom_29 : decode cX12_fillsFrom 29 = .ok (.bipush 6, 2) := by decide +kernel
theorem dX12_fillsFrom_31 : decode cX12_fillsFrom 31 = .ok (.if_icmp .ge 23, 3) := by decide +kernel
theorem dX12_fillsFrom_34 : decode cX12_fillsFrom 34 = .ok (.aload_n 0, 1) := by decide +kernel
theorem dX12_fillsFrom_35 : decode cX12_fillsFrom 35 = .ok (.getfield 138, 3) := by decide +kernel
theorem dX12_fillsFrom_38 : decode cX12_fillsFrom 38 = .ok (.iload 4, 2) := by decide +kernel
theorem dX12_fillsFrom_40 : decode cX12_fillsFrom 40 = .ok (.aload_n 0, 1) := by decide +kernel
theorem dX12_fillsFrom_41 : decode cX12_fillsFrom 41 = .ok (.getfield 135, 3) := by decide +kernel
theorem dX12_fillsFrom_44 : decode cX12_fillsFrom 44 = .ok (.iload 4, 2) := by decide +kernel
theorem dX12_fillsFrom_46 : decode cX12_fillsFrom 46 = .ok (.iaload, 1) := by decide +kernel
theorem dX12_fillsFrom_47 : decode cX12_fillsFrom 47 = .ok (.iastore, 1) := by decide +kernel
theorem dX12_fillsFrom_48 : decode cX12_fillsFrom 48 = .ok (.iinc 4 1, 3) := by decide +kernel
theorem dX12_fillsFrom_51 : decode cX12_fillsFrom 51 = .ok (.goto (-24), 3) := by decide +kernel
theorem dX12_fillsFrom_54 : decode cX12_fillsFrom 54 = .ok (.return_, 1) := by decide +kernel
theorem dX12_fillsFrom_55 : decode cX12_fillsFrom 55 = .ok (.iconst 0, 1) := by decide +kernel
theorem dX12_fillsFrom_56 : decode cX12_fillsFrom 56 = .ok (.istore 4, 2) := by decide +kernel
theorem dX12_fillsFrom_58 : decode cX12_fillsFrom 58 = .ok (.iload 4, 2) := by decide +kernel
theorem dX12_fillsFrom_60 : decode cX12_fillsFrom 60 = .ok (.aload_n 0, 1) := by decide +kernel
theorem dX12_fillsFrom_61 : decode cX12_fillsFrom 61 = .ok (.getfield 13, 3) := by decide +kernel
theorem dX12_fillsFrom_64 : decode cX12_fillsFrom 64 = .ok (.iconst 1, 1) := by decide +kernel
theorem dX12_fillsFrom_65 : decode cX12_fillsFrom 65 = .ok (.iaload, 1) := by decide +kernel
theorem dX12_fillsFrom_66 : decode cX12_fillsFrom 66 = .ok (.if_icmp .ge 66, 3) := by decide +kernel
theorem dX12_fillsFrom_69 : decode cX12_fillsFrom 69 = .ok (.iload_n 2, 1) := by decide +kernel
theorem dX12_fillsFrom_70 : decode cX12_fillsFrom 70 = .ok (.iload 4, 2) := by decide +kernel
theorem dX12_fillsFrom_72 : decode cX12_fillsFrom 72 = .ok (.ishr, 1) := by decide +kernel
theorem dX12_fillsFrom_73 : decode cX12_fillsFrom 73 = .ok (.iconst 1, 1) := by decide +kernel
theorem dX12_fillsFrom_74 : decode cX12_fillsFrom 74 = .ok (.iand, 1) := by decide +kernel
theorem dX12_fillsFrom_75 : decode cX12_fillsFrom 75 = .ok (.iconst 1, 1) := by decide +kernel
theorem dX12_fillsFrom_76 : decode cX12_fillsFrom 76 = .ok (.if_icmp .eq 50, 3) := by decide +kernel
theorem dX12_fillsFrom_79 : decode cX12_fillsFrom 79 = .ok (.aload_n 0, 1) := by decide +kernel
theorem dX12_fillsFrom_80 : decode cX12_fillsFrom 80 = .ok (.getfield 141, 3) := by decide +kernel
theorem dX12_fillsFrom_83 : decode cX12_fillsFrom 83 = .ok (.bipush 6, 2) := by decide +kernel
theorem dX12_fillsFrom_85 : decode cX12_fillsFrom 85 = .ok (.iload_n 1, 1) := by decide +kernel
theorem dX12_fillsFrom_86 : decode cX12_fillsFrom 86 = .ok (.imul, 1) := by decide +kernel
theorem dX12_fillsFrom_87 : decode cX12_fillsFrom 87 = .ok (.iload 4, 2) := by decide +kernel
theorem dX12_fillsFrom_89 : decode cX12_fillsFrom 89 = .ok (.iadd, 1) := by decide +kernel
theorem dX12_fillsFrom_90 : decode cX12_fillsFrom 90 = .ok (.baload, 1) := by decide +kernel
theorem dX12_fillsFrom_91 : decode cX12_fillsFrom 91 = .ok (.ifCond .ne 6, 3) := by decide +kernel
theorem dX12_fillsFrom_94 : decode cX12_fillsFrom 94 = .ok (.goto 32, 3) := by decide +kernel
theorem dX12_fillsFrom_97 : decode cX12_fillsFrom 97 = .ok (.aload_n 0, 1) := by decide +kernel
theorem dX12_fillsFrom_98 : decode cX12_fillsFrom 98 = .ok (.getfield 135, 3) := by decide +kernel
theorem dX12_fillsFrom_101 : decode cX12_fillsFrom 101 = .ok (.iload_n 1, 1) := by decide +kernel
theorem dX12_fillsFrom_102 : decode cX12_fillsFrom 102 = .ok (.iload 4, 2) := by decide +kernel
theorem dX12_fillsFrom_104 : decode cX12_fillsFrom 104 = .ok (.iastore, 1) := by decide +kernel
theorem dX12_fillsFrom_105 : decode cX12_fillsFrom 105 = .ok (.aload_n 0, 1) := by decide +kernel
theorem dX12_fillsFrom_106 : decode cX12_fillsFrom 106 = .ok (.iload_n 1, 1) := by decide +kernel
theorem dX12_fillsFrom_107 : decode cX12_fillsFrom 107 = .ok (.iconst 1, 1) := by decide +kernel
theorem dX12_fillsFrom_108 : decode cX12_fillsFrom 108 = .ok (.iadd, 1) := by decide +kernel
theorem dX12_fillsFrom_109 : decode cX12_fillsFrom 109 = .ok (.iload_n 2, 1) := by decide +kernel
theorem dX12_fillsFrom_110 : decode cX12_fillsFrom 110 = .ok (.iconst 1, 1) := by decide +kernel
theorem dX12_fillsFrom_111 : decode cX12_fillsFrom 111 = .ok (.iload 4, 2) := by decide +kernel
theorem dX12_fillsFrom_113 : decode cX12_fillsFrom 113 = .ok (.ishl, 1) := by decide +kernel
theorem dX12_fillsFrom_114 : decode cX12_fillsFrom 114 = .ok (.ior, 1) := by decide +kernel
theorem dX12_fillsFrom_115 : decode cX12_fillsFrom 115 = .ok (.iload_n 3, 1) := by decide +kernel
theorem dX12_fillsFrom_116 : decode cX12_fillsFrom 116 = .ok (.aload_n 0, 1) := by decide +kernel
theorem dX12_fillsFrom_117 : decode cX12_fillsFrom 117 = .ok (.getfield 26, 3) := by decide +kernel
theorem dX12_fillsFrom_120 : decode cX12_fillsFrom 120 = .ok (.iload_n 1, 1) := by decide +kernel
theorem dX12_fillsFrom_121 : decode cX12_fillsFrom 121 = .ok (.iaload, 1) := by decide +kernel
theorem dX12_fillsFrom_122 : decode cX12_fillsFrom 122 = .ok (.iadd, 1) := by decide +kernel
theorem dX12_fillsFrom_123 : decode cX12_fillsFrom 123 = .ok (.invokevirtual 454, 3) := by decide +kernel
theorem dX12_fillsFrom_126 : decode cX12_fillsFrom 126 = .ok (.iinc 4 1, 3) := by decide +kernel
theorem dX12_fillsFrom_129 : decode cX12_fillsFrom 129 = .ok (.goto (-71), 3) := by decide +kernel
theorem dX12_fillsFrom_132 : decode cX12_fillsFrom 132 = .ok (.aload_n 0, 1) := by decide +kernel
theorem dX12_fillsFrom_133 : decode cX12_fillsFrom 133 = .ok (.getfield 135, 3) := by decide +kernel
theorem dX12_fillsFrom_136 : decode cX12_fillsFrom 136 = .ok (.iload_n 1, 1) := by decide +kernel
theorem dX12_fillsFrom_137 : decode cX12_fillsFrom 137 = .ok (.iconst (-1), 1) := by decide +kernel
theorem dX12_fillsFrom_138 : decode cX12_fillsFrom 138 = .ok (.iastore, 1) := by decide +kernel
theorem dX12_fillsFrom_139 : decode cX12_fillsFrom 139 = .ok (.aload_n 0, 1) := by decide +kernel
theorem dX12_fillsFrom_140 : decode cX12_fillsFrom 140 = .ok (.iload_n 1, 1) := by decide +kernel
theorem dX12_fillsFrom_141 : decode cX12_fillsFrom 141 = .ok (.iconst 1, 1) := by decide +kernel
theorem dX12_fillsFrom_142 : decode cX12_fillsFrom 142 = .ok (.iadd, 1) := by decide +kernel
theorem dX12_fillsFrom_143 : decode cX12_fillsFrom 143 = .ok (.iload_n 2, 1) := by decide +kernel
theorem dX12_fillsFrom_144 : decode cX12_fillsFrom 144 = .ok (.iload_n 3, 1) := by decide +kernel
theorem dX12_fillsFrom_145 : decode cX12_fillsFrom 145 = .ok (.invokevirtual 454, 3) := by decide +kernel
theorem dX12_fillsFrom_148 : decode cX12_fillsFrom 148 = .ok (.return_, 1) := by decide +kernel
theorem dX12_fill_0 : decode cX12_fill 0 = .ok (.aload_n 0, 1) := by decide +kernel
theorem dX12_fill_1 : decode cX12_fill 1 = .ok (.iconst 0, 1) := by decide +kernel
theorem dX12_fill_2 : decode cX12_fill 2 = .ok (.putfield 171, 3) := by decide +kernel
theorem dX12_fill_5 : decode cX12_fill 5 = .ok (.iload_n 1, 1) := by decide +kernel
theorem dX12_fill_6 : decode cX12_fill 6 = .ok (.iconst 1, 1) := by decide +kernel
theorem dX12_fill_7 : decode cX12_fill 7 = .ok (.bipush 8, 2) := by decide +kernel
theorem dX12_fill_9 : decode cX12_fill 9 = .ok (.invokestatic 301, 3) := by decide +kernel
theorem dX12_fill_12 : decode cX12_fill 12 = .ok (.ifCond .eq 16, 3) := by decide +kernel
theorem dX12_fill_15 : decode cX12_fill 15 = .ok (.iload_n 2, 1) := by decide +kernel
theorem dX12_fill_16 : decode cX12_fill 16 = .ok (.iconst (-1), 1) := by decide +kernel
theorem dX12_fill_17 : decode cX12_fill 17 = .ok (.if_icmp .eq 14, 3) := by decide +kernel
theorem dX12_fill_20 : decode cX12_fill 20 = .ok (.aload_n 0, 1) := by decide +kernel
theorem dX12_fill_21 : decode cX12_fill 21 = .ok (.iload_n 2, 1) := by decide +kernel
theorem dX12_fill_22 : decode cX12_fill 22 = .ok (.invokevirtual 414, 3) := by decide +kernel
theorem dX12_fill_25 : decode cX12_fill 25 = .ok (.ifCond .ne 6, 3) := by decide +kernel
theorem dX12_fill_28 : decode cX12_fill 28 = .ok (.bipush (-2), 2) := by decide +kernel
theorem dX12_fill_30 : decode cX12_fill 30 = .ok (.ireturn, 1) := by decide +kernel
theorem dX12_fill_31 : decode cX12_fill 31 = .ok (.aload_n 0, 1) := by decide +kernel
theorem dX12_fill_32 : decode cX12_fill 32 = .ok (.iload_n 1, 1) := by decide +kernel
theorem dX12_fill_33 : decode cX12_fill 33 = .ok (.putfield 448, 3) := by decide +kernel
theorem dX12_fill_36 : decode cX12_fill 36 = .ok (.iconst 0, 1) := by decide +kernel
theorem dX12_fill_37 : decode cX12_fill 37 = .ok (.istore_n 3, 1) := by decide +kernel
theorem dX12_fill_38 : decode cX12_fill 38 = .ok (.iload_n 3, 1) := by decide +kernel
theorem dX12_fill_39 : decode cX12_fill 39 = .ok (.aload_n 0, 1) := by decide +kernel
theorem dX12_fill_40 : decode cX12_fill 40 = .ok (.getfield 13, 3) := by decide +kernel
theorem dX12_fill_43 : decode cX12_fill 43 = .ok (.iconst 0, 1) := by decide +kernel
theorem dX12_fill_44 : decode cX12_fill 44 = .ok (.iaload, 1) := by decide +kernel
theorem dX12_fill_45 : decode cX12_fill 45 = .ok (.if_icmp .ge 70, 3) := by decide +kernel
theorem dX12_fill_48 : decode cX12_fill 48 = .ok (.iconst 0, 1) := by decide +kernel
theorem dX12_fill_49 : decode cX12_fill 49 = .ok (.istore 4, 2) := by decide +kernel
theorem dX12_fill_51 : decode cX12_fill 51 = .ok (.iload 4, 2) := by decide +kernel
theorem dX12_fill_53 : decode cX12_fill 53 = .ok (.aload_n 0, 1) := by decide +kernel
theorem dX12_fill_54 : decode cX12_fill 54 = .ok (.getfield 13, 3) := by decide +kernel
theorem dX12_fill_57 : decode cX12_fill 57 = .ok (.iconst 1, 1) := by decide +kernel
theorem dX12_fill_58 : decode cX12_fill 58 = .ok (.iaload, 1) := by decide +kernel
theorem dX12_fill_59 : decode cX12_fill 59 = .ok (.if_icmp .ge 50, 3) := by decide +kernel
theorem dX12_fill_62 : decode cX12_fill 62 = .ok (.aload_n 0, 1) := by decide +kernel
theorem dX12_fill_63 : decode cX12_fill 63 = .ok (.getfield 141, 3) := by decide +kernel
theorem dX12_fill_66 : decode cX12_fill 66 = .ok (.bipush 6, 2) := by decide +kernel
theorem dX12_fill_68 : decode cX12_fill 68 = .ok (.iload_n 3, 1) := by decide +kernel
theorem dX12_fill_69 : decode cX12_fill 69 = .ok (.imul, 1) := by decide +kernel
theorem dX12_fill_70 : decode cX12_fill 70 = .ok (.iload 4, 2) := by decide +kernel
theorem dX12_fill_72 : decode cX12_fill 72 = .ok (.iadd, 1) := by decide +kernel
theorem dX12_fill_73 : decode cX12_fill 73 = .ok (.aload_n 0, 1) := by decide +kernel
theorem dX12_fill_74 : decode cX12_fill 74 = .ok (.getfield 120, 3) := by decide +kernel
theorem dX12_fill_77 : decode cX12_fill 77 = .ok (.bipush 7, 2) := by decide +kernel
theorem dX12_fill_79 : decode cX12_fill 79 = .ok (.iload_n 3, 1) := by decide +kernel
theorem dX12_fill_80 : decode cX12_fill 80 = .ok (.iadd, 1) := by decide +kernel
theorem dX12_fill_81 : decode cX12_fill 81 = .ok (.iaload, 1) := by decide +kernel
theorem dX12_fill_82 : decode cX12_fill 82 = .ok (.bipush 9, 2) := by decide +kernel
theorem dX12_fill_84 : decode cX12_fill 84 = .ok (.if_icmp .ge 17, 3) := by decide +kernel
theorem dX12_fill_87 : decode cX12_fill 87 = .ok (.aload_n 0, 1) := by decide +kernel
theorem dX12_fill_88 : decode cX12_fill 88 = .ok (.iload_n 3, 1) := by decide +kernel
theorem dX12_fill_89 : decode cX12_fill 89 = .ok (.iload 4, 2) := by decide +kernel
theorem dX12_fill_91 : decode cX12_fill 91 = .ok (.invokevirtual 458, 3) := by decide +kernel
theorem dX12_fill_94 : decode cX12_fill 94 = .ok (.ifCond .eq 7, 3) := by decide +kernel
theorem dX12_fill_97 : decode cX12_fill 97 = .ok (.iconst 1, 1) := by decide +kernel
theorem dX12_fill_98 : decode cX12_fill 98 = .ok (.goto 4, 3) := by decide +kernel
theorem dX12_fill_101 : decode cX12_fill 101 = .ok (.iconst 0, 1) := by decide +kernel
theorem dX12_fill_102 : decode cX12_fill 102 = .ok (.bastore, 1) := by decide +kernel
theorem dX12_fill_103 : decode cX12_fill 103 = .ok (.iinc 4 1, 3) := by decide +kernel
theorem dX12_fill_106 : decode cX12_fill 106 = .ok (.goto (-55), 3) := by decide +kernel
theorem dX12_fill_109 : decode cX12_fill 109 = .ok (.iinc 3 1, 3) := by decide +kernel
theorem dX12_fill_112 : decode cX12_fill 112 = .ok (.goto (-74), 3) := by decide +kernel
theorem dX12_fill_115 : decode cX12_fill 115 = .ok (.aload_n 0, 1) := by decide +kernel
theorem dX12_fill_116 : decode cX12_fill 116 = .ok (.iconst (-1), 1) := by decide +kernel
theorem dX12_fill_117 : decode cX12_fill 117 = .ok (.putfield 451, 3) := by decide +kernel
theorem dX12_fill_120 : decode cX12_fill 120 = .ok (.aload_n 0, 1) := by decide +kernel
theorem dX12_fill_121 : decode cX12_fill 121 = .ok (.iconst 0, 1) := by decide +kernel
theorem dX12_fill_122 : decode cX12_fill 122 = .ok (.iconst 0, 1) := by decide +kernel
theorem dX12_fill_123 : decode cX12_fill 123 = .ok (.iconst 0, 1) := by decide +kernel
theorem dX12_fill_124 : decode cX12_fill 124 = .ok (.invokevirtual 454, 3) := by decide +kernel
theorem dX12_fill_127 : decode cX12_fill 127 = .ok (.iload_n 2, 1) := by decide +kernel
theorem dX12_fill_128 : decode cX12_fill 128 = .ok (.iconst (-1), 1) := by decide +kernel
theorem dX12_fill_129 : decode cX12_fill 129 = .ok (.if_icmp .ne 10, 3) := by decide +kernel
theorem dX12_fill_132 : decode cX12_fill 132 = .ok (.aload_n 0, 1) := by decide +kernel
theorem dX12_fill_133 : decode cX12_fill 133 = .ok (.getfield 451, 3) := by decide +kernel
theorem dX12_fill_136 : decode cX12_fill 136 = .ok (.goto 9, 3) := by decide +kernel
theorem dX12_fill_139 : decode cX12_fill 139 = .ok (.aload_n 0, 1) := by decide +kernel
theorem dX12_fill_140 : decode cX12_fill 140 = .ok (.getfield 138, 3) := by decide +kernel
theorem dX12_fill_143 : decode cX12_fill 143 = .ok (.iload_n 2, 1) := by decide +kernel
theorem dX12_fill_144 : decode cX12_fill 144 = .ok (.iaload, 1) := by decide +kernel
theorem dX12_fill_145 : decode cX12_fill 145 = .ok (.ireturn, 1) := by decide +kernel
theorem dX12_say_0 : decode cX12_say 0 = .ok (.aload_n 0, 1) := by decide +kernel
theorem dX12_say_1 : decode cX12_say 1 = .ok (.iconst 0, 1) := by decide +kernel
theorem dX12_say_2 : decode cX12_say 2 = .ok (.putfield 171, 3) := by decide +kernel
theorem dX12_say_5 : decode cX12_say 5 = .ok (.aload_n 0, 1) := by decide +kernel
theorem dX12_say_6 : decode cX12_say 6 = .ok (.iload_n 1, 1) := by decide +kernel
theorem dX12_say_7 : decode cX12_say 7 = .ok (.invokevirtual 417, 3) := by decide +kernel
theorem dX12_say_10 : decode cX12_say 10 = .ok (.ifCond .eq 24, 3) := by decide +kernel
theorem dX12_say_13 : decode cX12_say 13 = .ok (.iload_n 2, 1) := by decide +kernel
theorem dX12_say_14 : decode cX12_say 14 = .ok (.iconst 0, 1) := by decide +kernel
theorem dX12_say_15 : decode cX12_say 15 = .ok (.bipush 9, 2) := by decide +kernel
theorem dX12_say_17 : decode cX12_say 17 = .ok (.invokestatic 301, 3) := by decide +kernel
theorem dX12_say_20 : decode cX12_say 20 = .ok (.ifCond .eq 14, 3) := by decide +kernel
theorem dX12_say_23 : decode cX12_say 23 = .ok (.aload_n 0, 1) := by decide +kernel
theorem dX12_say_24 : decode cX12_say 24 = .ok (.getfield 105, 3) := by decide +kernel
theorem dX12_say_27 : decode cX12_say 27 = .ok (.iconst 0, 1) := by decide +kernel
theorem dX12_say_28 : decode cX12_say 28 = .ok (.iaload, 1) := by decide +kernel
theorem dX12_say_29 : decode cX12_say 29 = .ok (.bipush 8, 2) := by decide +kernel
theorem dX12_say_31 : decode cX12_say 31 = .ok (.if_icmp .ne 5, 3) := by decide +kernel
theorem dX12_say_34 : decode cX12_say 34 = .ok (.iconst 0, 1) := by decide +kernel
theorem dX12_say_35 : decode cX12_say 35 = .ok (.ireturn, 1) := by decide +kernel
theorem dX12_say_36 : decode cX12_say 36 = .ok (.aload_n 0, 1) := by decide +kernel
theorem dX12_say_37 : decode cX12_say 37 = .ok (.getfield 108, 3) := by decide +kernel
theorem dX12_say_40 : decode cX12_say 40 = .ok (.aload_n 0, 1) := by decide +kernel
theorem dX12_say_41 : decode cX12_say 41 = .ok (.getfield 105, 3) := by decide +kernel
theorem dX12_say_44 : decode cX12_say 44 = .ok (.iconst 0, 1) := by decide +kernel
theorem dX12_say_45 : decode cX12_say 45 = .ok (.iaload, 1) := by decide +kernel
theorem dX12_say_46 : decode cX12_say 46 = .ok (.iload_n 1, 1) := by decide +kernel
theorem dX12_say_47 : decode cX12_say 47 = .ok (.iastore, 1) := by decide +kernel
theorem dX12_say_48 : decode cX12_say 48 = .ok (.aload_n 0, 1) := by decide +kernel
theorem dX12_say_49 : decode cX12_say 49 = .ok (.getfield 111, 3) := by decide +kernel
theorem dX12_say_52 : decode cX12_say 52 = .ok (.aload_n 0, 1) := by decide +kernel
theorem dX12_say_53 : decode cX12_say 53 = .ok (.getfield 105, 3) := by decide +kernel
theorem dX12_say_56 : decode cX12_say 56 = .ok (.iconst 0, 1) := by decide +kernel
theorem dX12_say_57 : decode cX12_say 57 = .ok (.iaload, 1) := by decide +kernel
theorem dX12_say_58 : decode cX12_say 58 = .ok (.iload_n 2, 1) := by decide +kernel
theorem dX12_say_59 : decode cX12_say 59 = .ok (.iastore, 1) := by decide +kernel
theorem dX12_say_60 : decode cX12_say 60 = .ok (.aload_n 0, 1) := by decide +kernel
theorem dX12_say_61 : decode cX12_say 61 = .ok (.getfield 114, 3) := by decide +kernel
theorem dX12_say_64 : decode cX12_say 64 = .ok (.aload_n 0, 1) := by decide +kernel
theorem dX12_say_65 : decode cX12_say 65 = .ok (.getfield 105, 3) := by decide +kernel
theorem dX12_say_68 : decode cX12_say 68 = .ok (.iconst 0, 1) := by decide +kernel
theorem dX12_say_69 : decode cX12_say 69 = .ok (.iaload, 1) := by decide +kernel
theorem dX12_say_70 : decode cX12_say 70 = .ok (.iload_n 3, 1) := by decide +kernel
theorem dX12_say_71 : decode cX12_say 71 = .ok (.bastore, 1) := by decide +kernel
theorem dX12_say_72 : decode cX12_say 72 = .ok (.aload_n 0, 1) := by decide +kernel
theorem dX12_say_73 : decode cX12_say 73 = .ok (.getfield 105, 3) := by decide +kernel
theorem dX12_say_76 : decode cX12_say 76 = .ok (.iconst 0, 1) := by decide +kernel
theorem dX12_say_77 : decode cX12_say 77 = .ok (.dup2, 1) := by decide +kernel
theorem dX12_say_78 : decode cX12_say 78 = .ok (.iaload, 1) := by decide +kernel
theorem dX12_say_79 : decode cX12_say 79 = .ok (.iconst 1, 1) := by decide +kernel
theorem dX12_say_80 : decode cX12_say 80 = .ok (.iadd, 1) := by decide +kernel
theorem dX12_say_81 : decode cX12_say 81 = .ok (.iastore, 1) := by decide +kernel
theorem dX12_say_82 : decode cX12_say 82 = .ok (.iconst 1, 1) := by decide +kernel
theorem dX12_say_83 : decode cX12_say 83 = .ok (.ireturn, 1) := by decide +kernel
theorem dX12_isAsSaid_0 : decode cX12_isAsSaid 0 = .ok (.iconst 0, 1) := by decide +kernel
theorem dX12_isAsSaid_1 : decode cX12_isAsSaid 1 = .ok (.istore_n 2, 1) := by decide +kernel
theorem dX12_isAsSaid_2 : decode cX12_isAsSaid 2 = .ok (.iload_n 2, 1) := by decide +kernel
theorem dX12_isAsSaid_3 : decode cX12_isAsSaid 3 = .ok (.aload_n 0, 1) := by decide +kernel
theorem dX12_isAsSaid_4 : decode cX12_isAsSaid 4 = .ok (.getfield 105, 3) := by decide +kernel
theorem dX12_isAsSaid_7 : decode cX12_isAsSaid 7 = .ok (.iconst 0, 1) := by decide +kernel
theorem dX12_isAsSaid_8 : decode cX12_isAsSaid 8 = .ok (.iaload, 1) := by decide +kernel
theorem dX12_isAsSaid_9 : decode cX12_isAsSaid 9 = .ok (.if_icmp .ge 37, 3) := by decide +kernel
theorem dX12_isAsSaid_12 : decode cX12_isAsSaid 12 = .ok (.aload_n 0, 1) := by decide +kernel
theorem dX12_isAsSaid_13 : decode cX12_isAsSaid 13 = .ok (.iload_n 1, 1) := by decide +kernel
theorem dX12_isAsSaid_14 : decode cX12_isAsSaid 14 = .ok (.aload_n 0, 1) := by decide +kernel
theorem dX12_isAsSaid_15 : decode cX12_isAsSaid 15 = .ok (.getfield 108, 3) := by decide +kernel
theorem dX12_isAsSaid_18 : decode cX12_isAsSaid 18 = .ok (.iload_n 2, 1) := by decide +kernel
theorem dX12_isAsSaid_19 : decode cX12_isAsSaid 19 = .ok (.iaload, 1) := by decide +kernel
theorem dX12_isAsSaid_20 : decode cX12_isAsSaid 20 = .ok (.aload_n 0, 1) := by decide +kernel
theorem dX12_isAsSaid_21 : decode cX12_isAsSaid 21 = .ok (.getfield 111, 3) := by decide +kernel
theorem dX12_isAsSaid_24 : decode cX12_isAsSaid 24 = .ok (.iload_n 2, 1) := by decide +kernel
theorem dX12_isAsSaid_25 : decode cX12_isAsSaid 25 = .ok (.iaload, 1) := by decide +kernel
theorem dX12_isAsSaid_26 : decode cX12_isAsSaid 26 = .ok (.invokevirtual 442, 3) := by decide +kernel
theorem dX12_isAsSaid_29 : decode cX12_isAsSaid 29 = .ok (.aload_n 0, 1) := by decide +kernel
theorem dX12_isAsSaid_30 : decode cX12_isAsSaid 30 = .ok (.getfield 114, 3) := by decide +kernel
theorem dX12_isAsSaid_33 : decode cX12_isAsSaid 33 = .ok (.iload_n 2, 1) := by decide +kernel
theorem dX12_isAsSaid_34 : decode cX12_isAsSaid 34 = .ok (.baload, 1) := by decide +kernel
theorem dX12_isAsSaid_35 : decode cX12_isAsSaid 35 = .ok (.if_icmp .eq 5, 3) := by decide +kernel
theorem dX12_isAsSaid_38 : decode cX12_isAsSaid 38 = .ok (.iconst 0, 1) := by decide +kernel
theorem dX12_isAsSaid_39 : decode cX12_isAsSaid 39 = .ok (.ireturn, 1) := by decide +kernel
theorem dX12_isAsSaid_40 : decode cX12_isAsSaid 40 = .ok (.iinc 2 1, 3) := by decide +kernel
theorem dX12_isAsSaid_43 : decode cX12_isAsSaid 43 = .ok (.goto (-41), 3) := by decide +kernel
theorem dX12_isAsSaid_46 : decode cX12_isAsSaid 46 = .ok (.iconst 1, 1) := by decide +kernel
theorem dX12_isAsSaid_47 : decode cX12_isAsSaid 47 = .ok (.ireturn, 1) := by decide +kernel
theorem dX12_leans_0 : decode cX12_leans 0 = .ok (.aload_n 0, 1) := by decide +kernel
theorem dX12_leans_1 : decode cX12_leans 1 = .ok (.iconst 0, 1) := by decide +kernel
theorem dX12_leans_2 : decode cX12_leans 2 = .ok (.putfield 171, 3) := by decide +kernel
theorem dX12_leans_5 : decode cX12_leans 5 = .ok (.iload_n 1, 1) := by decide +kernel
theorem dX12_leans_6 : decode cX12_leans 6 = .ok (.iconst 0, 1) := by decide +kernel
theorem dX12_leans_7 : decode cX12_leans 7 = .ok (.iconst 2, 1) := by decide +kernel
theorem dX12_leans_8 : decode cX12_leans 8 = .ok (.invokestatic 301, 3) := by decide +kernel
theorem dX12_leans_11 : decode cX12_leans 11 = .ok (.ifCond .ne 5, 3) := by decide +kernel
theorem dX12_leans_14 : decode cX12_leans 14 = .ok (.iconst (-1), 1) := by decide +kernel
theorem dX12_leans_15 : decode cX12_leans 15 = .ok (.ireturn, 1) := by decide +kernel
theorem dX12_leans_16 : decode cX12_leans 16 = .ok (.iconst 0, 1) := by decide +kernel
theorem dX12_leans_17 : decode cX12_leans 17 = .ok (.istore_n 2, 1) := by decide +kernel
theorem dX12_leans_18 : decode cX12_leans 18 = .ok (.iconst (-1), 1) := by decide +kernel
theorem dX12_leans_19 : decode cX12_leans 19 = .ok (.istore_n 3, 1) := by decide +kernel
theorem dX12_leans_20 : decode cX12_leans 20 = .ok (.iconst (-1), 1) := by decide +kernel
theorem dX12_leans_21 : decode cX12_leans 21 = .ok (.istore 4, 2) := by decide +kernel
theorem dX12_leans_23 : decode cX12_leans 23 = .ok (.iconst 0, 1) := by decide +kernel
theorem dX12_leans_24 : decode cX12_leans 24 = .ok (.istore 5, 2) := by decide +kernel
theorem dX12_leans_26 : decode cX12_leans 26 = .ok (.iload 5, 2) := by decide +kernel
theorem dX12_leans_28 : decode cX12_leans 28 = .ok (.bipush 10, 2) := by decide +kernel
theorem dX12_leans_30 : decode cX12_leans 30 = .ok (.if_icmp .ge 35, 3) := by decide +kernel
theorem dX12_leans_33 : decode cX12_leans 33 = .ok (.aload_n 0, 1) := by decide +kernel
theorem dX12_leans_34 : decode cX12_leans 34 = .ok (.iload 5, 2) := by decide +kernel
theorem dX12_leans_36 : decode cX12_leans 36 = .ok (.invokevirtual 461, 3) := by decide +kernel
theorem dX12_leans_39 : decode cX12_leans 39 = .ok (.ifCond .ne 6, 3) := by decide +kernel
theorem dX12_leans_42 : decode cX12_leans 42 = .ok (.goto 17, 3) := by decide +kernel
theorem dX12_leans_45 : decode cX12_leans 45 = .ok (.iinc 2 1, 3) := by decide +kernel
theorem dX12_leans_48 : decode cX12_leans 48 = .ok (.iload_n 3, 1) := by decide +kernel
theorem dX12_leans_49 : decode cX12_leans 49 = .ok (.ifCond .ge 6, 3) := by decide +kernel
theorem dX12_leans_52 : decode cX12_leans 52 = .ok (.iload 5, 2) := by decide +kernel
theorem dX12_leans_54 : decode cX12_leans 54 = .ok (.istore_n 3, 1) := by decide +kernel
theorem dX12_leans_55 : decode cX12_leans 55 = .ok (.iload 5, 2) := by decide +kernel
theorem dX12_leans_57 : decode cX12_leans 57 = .ok (.istore 4, 2) := by decide +kernel
theorem dX12_leans_59 : decode cX12_leans 59 = .ok (.iinc 5 1, 3) := by decide +kernel
theorem dX12_leans_62 : decode cX12_leans 62 = .ok (.goto (-36), 3) := by decide +kernel
theorem dX12_leans_65 : decode cX12_leans 65 = .ok (.iload_n 1, 1) := by decide +kernel
theorem dX12_leans_66 : decode cX12_leans 66 = .ok (.ifCond .ne 7, 3) := by decide +kernel
theorem dX12_leans_69 : decode cX12_leans 69 = .ok (.iload_n 2, 1) := by decide +kernel
theorem dX12_leans_70 : decode cX12_leans 70 = .ok (.goto 14, 3) := by decide +kernel
theorem dX12_leans_73 : decode cX12_leans 73 = .ok (.iload_n 1, 1) := by decide +kernel
theorem dX12_leans_74 : decode cX12_leans 74 = .ok (.iconst 1, 1) := by decide +kernel
theorem dX12_leans_75 : decode cX12_leans 75 = .ok (.if_icmp .ne 7, 3) := by decide +kernel
theorem dX12_leans_78 : decode cX12_leans 78 = .ok (.iload_n 3, 1) := by decide +kernel
theorem dX12_leans_79 : decode cX12_leans 79 = .ok (.goto 5, 3) := by decide +kernel
theorem dX12_leans_82 : decode cX12_leans 82 = .ok (.iload 4, 2) := by decide +kernel
theorem dX12_leans_84 : decode cX12_leans 84 = .ok (.ireturn, 1) := by decide +kernel
theorem dX12_next_0 : decode cX12_next 0 = .ok (.aload_n 0, 1) := by decide +kernel
theorem dX12_next_1 : decode cX12_next 1 = .ok (.iconst 0, 1) := by decide +kernel
theorem dX12_next_2 : decode cX12_next 2 = .ok (.putfield 171, 3) := by decide +kernel
theorem dX12_next_5 : decode cX12_next 5 = .ok (.aload_n 0, 1) := by decide +kernel
theorem dX12_next_6 : decode cX12_next 6 = .ok (.iload_n 1, 1) := by decide +kernel
theorem dX12_next_7 : decode cX12_next 7 = .ok (.invokevirtual 417, 3) := by decide +kernel
theorem dX12_next_10 : decode cX12_next 10 = .ok (.ifCond .ne 5, 3) := by decide +kernel
theorem dX12_next_13 : decode cX12_next 13 = .ok (.iconst (-1), 1) := by decide +kernel
theorem dX12_next_14 : decode cX12_next 14 = .ok (.ireturn, 1) := by decide +kernel
theorem dX12_next_15 : decode cX12_next 15 = .ok (.aload_n 0, 1) := by decide +kernel
theorem dX12_next_16 : decode cX12_next 16 = .ok (.iconst 0, 1) := by decide +kernel
theorem dX12_next_17 : decode cX12_next 17 = .ok (.invokevirtual 464, 3) := by decide +kernel
theorem dX12_next_20 : decode cX12_next 20 = .ok (.istore_n 2, 1) := by decide +kernel
theorem dX12_next_21 : decode cX12_next 21 = .ok (.iconst (-1), 1) := by decide +kernel
theorem dX12_next_22 : decode cX12_next 22 = .ok (.istore_n 3, 1) := by decide +kernel
theorem dX12_next_23 : decode cX12_next 23 = .ok (.iload_n 2, 1) := by decide +kernel
theorem dX12_next_24 : decode cX12_next 24 = .ok (.istore 4, 2) := by decide +kernel
theorem dX12_next_26 : decode cX12_next 26 = .ok (.iconst 0, 1) := by decide +kernel
theorem dX12_next_27 : decode cX12_next 27 = .ok (.istore 5, 2) := by decide +kernel
theorem dX12_next_29 : decode cX12_next 29 = .ok (.iload 5, 2) := by decide +kernel
theorem dX12_next_31 : decode cX12_next 31 = .ok (.bipush 10, 2) := by decide +kernel
theorem dX12_next_33 : decode cX12_next 33 = .ok (.if_icmp .ge 87, 3) := by decide +kernel
theorem dX12_next_36 : decode cX12_next 36 = .ok (.iconst 0, 1) := by decide +kernel
theorem dX12_next_37 : decode cX12_next 37 = .ok (.istore 6, 2) := by decide +kernel
theorem dX12_next_39 : decode cX12_next 39 = .ok (.iconst 0, 1) := by decide +kernel
theorem dX12_next_40 : decode cX12_next 40 = .ok (.istore 7, 2) := by decide +kernel
theorem dX12_next_42 : decode cX12_next 42 = .ok (.iload 7, 2) := by decide +kernel
theorem dX12_next_44 : decode cX12_next 44 = .ok (.bipush 10, 2) := by decide +kernel
theorem dX12_next_46 : decode cX12_next 46 = .ok (.if_icmp .ge 40, 3) := by decide +kernel
theorem dX12_next_49 : decode cX12_next 49 = .ok (.iload 6, 2) := by decide +kernel
theorem dX12_next_51 : decode cX12_next 51 = .ok (.aload_n 0, 1) := by decide +kernel
theorem dX12_next_52 : decode cX12_next 52 = .ok (.iload 7, 2) := by decide +kernel
theorem dX12_next_54 : decode cX12_next 54 = .ok (.invokevirtual 461, 3) := by decide +kernel
theorem dX12_next_57 : decode cX12_next 57 = .ok (.ifCond .eq 19, 3) := by decide +kernel
theorem dX12_next_60 : decode cX12_next 60 = .ok (.aload_n 0, 1) := by decide +kernel
theorem dX12_next_61 : decode cX12_next 61 = .ok (.iload 7, 2) := by decide +kernel
theorem dX12_next_63 : decode cX12_next 63 = .ok (.iload_n 1, 1) := by decide +kernel
theorem dX12_next_64 : decode cX12_next 64 = .ok (.iload 5, 2) := by decide +kernel
theorem dX12_next_66 : decode cX12_next 66 = .ok (.invokevirtual 442, 3) := by decide +kernel
theorem dX12_next_69 : decode cX12_next 69 = .ok (.ifCond .eq 7, 3) := by decide +kernel
theorem dX12_next_72 : decode cX12_next 72 = .ok (.iconst 1, 1) := by decide +kernel
theorem dX12_next_73 : decode cX12_next 73 = .ok (.goto 4, 3) := by decide +kernel
theorem dX12_next_76 : decode cX12_next 76 = .ok (.iconst 0, 1) := by decide +kernel
theorem dX12_next_77 : decode cX12_next 77 = .ok (.iadd, 1) := by decide +kernel
theorem dX12_next_78 : decode cX12_next 78 = .ok (.istore 6, 2) := by decide +kernel
theorem dX12_next_80 : decode cX12_next 80 = .ok (.iinc 7 1, 3) := by decide +kernel
theorem dX12_next_83 : decode cX12_next 83 = .ok (.goto (-41), 3) := by decide +kernel
theorem dX12_next_86 : decode cX12_next 86 = .ok (.iload 6, 2) := by decide +kernel
theorem dX12_next_88 : decode cX12_next 88 = .ok (.iload_n 2, 1) := by decide +kernel
theorem dX12_next_89 : decode cX12_next 89 = .ok (.iload 6, 2) := by decide +kernel
theorem dX12_next_91 : decode cX12_next 91 = .ok (.isub, 1) := by decide +kernel
theorem dX12_next_92 : decode cX12_next 92 = .ok (.invokestatic 467, 3) := by decide +kernel
theorem dX12_next_95 : decode cX12_next 95 = .ok (.istore 6, 2) := by decide +kernel
theorem dX12_next_97 : decode cX12_next 97 = .ok (.iload 6, 2) := by decide +kernel
theorem dX12_next_99 : decode cX12_next 99 = .ok (.iload 4, 2) := by decide +kernel
theorem dX12_next_101 : decode cX12_next 101 = .ok (.if_icmp .lt 6, 3) := by decide +kernel
theorem dX12_next_104 : decode cX12_next 104 = .ok (.goto 10, 3) := by decide +kernel
theorem dX12_next_107 : decode cX12_next 107 = .ok (.iload 6, 2) := by decide +kernel
theorem dX12_next_109 : decode cX12_next 109 = .ok (.istore 4, 2) := by decide +kernel
theorem dX12_next_111 : decode cX12_next 111 = .ok (.iload 5, 2) := by decide +kernel
theorem dX12_next_113 : decode cX12_next 113 = .ok (.istore_n 3, 1) := by decide +kernel
theorem dX12_next_114 : decode cX12_next 114 = .ok (.iinc 5 1, 3) := by decide +kernel
theorem dX12_next_117 : decode cX12_next 117 = .ok (.goto (-88), 3) := by decide +kernel
theorem dX12_next_120 : decode cX12_next 120 = .ok (.iload_n 3, 1) := by decide +kernel
theorem dX12_next_121 : decode cX12_next 121 = .ok (.ireturn, 1) := by decide +kernel
theorem dX12_baths_0 : decode cX12_baths 0 = .ok (.aload_n 0, 1) := by decide +kernel
theorem dX12_baths_1 : decode cX12_baths 1 = .ok (.iconst 0, 1) := by decide +kernel
theorem dX12_baths_2 : decode cX12_baths 2 = .ok (.putfield 171, 3) := by decide +kernel
theorem dX12_baths_5 : decode cX12_baths 5 = .ok (.aload_n 0, 1) := by decide +kernel
theorem dX12_baths_6 : decode cX12_baths 6 = .ok (.iload_n 1, 1) := by decide +kernel
theorem dX12_baths_7 : decode cX12_baths 7 = .ok (.invokevirtual 417, 3) := by decide +kernel
theorem dX12_baths_10 : decode cX12_baths 10 = .ok (.ifCond .eq 21, 3) := by decide +kernel
theorem dX12_baths_13 : decode cX12_baths 13 = .ok (.aload_n 0, 1) := by decide +kernel
theorem dX12_baths_14 : decode cX12_baths 14 = .ok (.iload_n 2, 1) := by decide +kernel
theorem dX12_baths_15 : decode cX12_baths 15 = .ok (.invokevirtual 414, 3) := by decide +kernel
theorem dX12_baths_18 : decode cX12_baths 18 = .ok (.ifCond .eq 13, 3) := by decide +kernel
theorem dX12_baths_21 : decode cX12_baths 21 = .ok (.iload_n 3, 1) := by decide +kernel
theorem dX12_baths_22 : decode cX12_baths 22 = .ok (.iconst 1, 1) := by decide +kernel
theorem dX12_baths_23 : decode cX12_baths 23 = .ok (.bipush 40, 2) := by decide +kernel
theorem dX12_baths_25 : decode cX12_baths 25 = .ok (.invokestatic 301, 3) := by decide +kernel
theorem dX12_baths_28 : decode cX12_baths 28 = .ok (.ifCond .ne 5, 3) := by decide +kernel
theorem dX12_baths_31 : decode cX12_baths 31 = .ok (.iconst (-1), 1) := by decide +kernel
theorem dX12_baths_32 : decode cX12_baths 32 = .ok (.ireturn, 1) := by decide +kernel
theorem dX12_baths_33 : decode cX12_baths 33 = .ok (.iconst 0, 1) := by decide +kernel
theorem dX12_baths_34 : decode cX12_baths 34 = .ok (.istore 4, 2) := by decide +kernel
theorem dX12_baths_36 : decode cX12_baths 36 = .ok (.iconst 0, 1) := by decide +kernel
theorem dX12_baths_37 : decode cX12_baths 37 = .ok (.istore 5, 2) := by decide +kernel
theorem dX12_baths_39 : decode cX12_baths 39 = .ok (.iload 5, 2) := by decide +kernel
theorem dX12_baths_41 : decode cX12_baths 41 = .ok (.iload_n 3, 1) := by decide +kernel
theorem dX12_baths_42 : decode cX12_baths 42 = .ok (.if_icmp .ge 55, 3) := by decide +kernel
theorem dX12_baths_45 : decode cX12_baths 45 = .ok (.aload_n 0, 1) := by decide +kernel
theorem dX12_baths_46 : decode cX12_baths 46 = .ok (.iload_n 2, 1) := by decide +kernel
theorem dX12_baths_47 : decode cX12_baths 47 = .ok (.iload_n 1, 1) := by decide +kernel
theorem dX12_baths_48 : decode cX12_baths 48 = .ok (.aload_n 0, 1) := by decide +kernel
theorem dX12_baths_49 : decode cX12_baths 49 = .ok (.getfield 120, 3) := by decide +kernel
theorem dX12_baths_52 : decode cX12_baths 52 = .ok (.iconst 0, 1) := by decide +kernel
theorem dX12_baths_53 : decode cX12_baths 53 = .ok (.iaload, 1) := by decide +kernel
theorem dX12_baths_54 : decode cX12_baths 54 = .ok (.iload 5, 2) := by decide +kernel
theorem dX12_baths_56 : decode cX12_baths 56 = .ok (.iadd, 1) := by decide +kernel
theorem dX12_baths_57 : decode cX12_baths 57 = .ok (.invokevirtual 400, 3) := by decide +kernel
theorem dX12_baths_60 : decode cX12_baths 60 = .ok (.istore 6, 2) := by decide +kernel
theorem dX12_baths_62 : decode cX12_baths 62 = .ok (.iload 4, 2) := by decide +kernel
theorem dX12_baths_64 : decode cX12_baths 64 = .ok (.iload 6, 2) := by decide +kernel
theorem dX12_baths_66 : decode cX12_baths 66 = .ok (.ifCond .ge 9, 3) := by decide +kernel
theorem dX12_baths_69 : decode cX12_baths 69 = .ok (.iload 6, 2) := by decide +kernel
theorem dX12_baths_71 : decode cX12_baths 71 = .ok (.ineg, 1) := by decide +kernel
theorem dX12_baths_72 : decode cX12_baths 72 = .ok (.goto 16, 3) := by decide +kernel
theorem dX12_baths_75 : decode cX12_baths 75 = .ok (.iconst 0, 1) := by decide +kernel
theorem dX12_baths_76 : decode cX12_baths 76 = .ok (.iload 6, 2) := by decide +kernel
theorem dX12_baths_78 : decode cX12_baths 78 = .ok (.aload_n 0, 1) := by decide +kernel
theorem dX12_baths_79 : decode cX12_baths 79 = .ok (.getfield 13, 3) := by decide +kernel
theorem dX12_baths_82 : decode cX12_baths 82 = .ok (.iconst 2, 1) := by decide +kernel
theorem dX12_baths_83 : decode cX12_baths 83 = .ok (.iaload, 1) := by decide +kernel
theorem dX12_baths_84 : decode cX12_baths 84 = .ok (.isub, 1) := by decide +kernel
theorem dX12_baths_85 : decode cX12_baths 85 = .ok (.invokestatic 467, 3) := by decide +kernel
theorem dX12_baths_88 : decode cX12_baths 88 = .ok (.iadd, 1) := by decide +kernel
theorem dX12_baths_89 : decode cX12_baths 89 = .ok (.istore 4, 2) := by decide +kernel
theorem dX12_baths_91 : decode cX12_baths 91 = .ok (.iinc 5 1, 3) := by decide +kernel
theorem dX12_baths_94 : decode cX12_baths 94 = .ok (.goto (-55), 3) := by decide +kernel
theorem dX12_baths_97 : decode cX12_baths 97 = .ok (.iload 4, 2) := by decide +kernel
theorem dX12_baths_99 : decode cX12_baths 99 = .ok (.ireturn, 1) := by decide +kernel
theorem dX12_keeps_0 : decode cX12_keeps 0 = .ok (.aload_n 0, 1) := by decide +kernel
theorem dX12_keeps_1 : decode cX12_keeps 1 = .ok (.iconst 0, 1) := by decide +kernel
theorem dX12_keeps_2 : decode cX12_keeps 2 = .ok (.putfield 171, 3) := by decide +kernel
theorem dX12_keeps_5 : decode cX12_keeps 5 = .ok (.aload_n 0, 1) := by decide +kernel
theorem dX12_keeps_6 : decode cX12_keeps 6 = .ok (.iload_n 1, 1) := by decide +kernel
theorem dX12_keeps_7 : decode cX12_keeps 7 = .ok (.invokevirtual 414, 3) := by decide +kernel
theorem dX12_keeps_10 : decode cX12_keeps 10 = .ok (.ifCond .eq 14, 3) := by decide +kernel
theorem dX12_keeps_13 : decode cX12_keeps 13 = .ok (.aload_n 0, 1) := by decide +kernel
theorem dX12_keeps_14 : decode cX12_keeps 14 = .ok (.getfield 120, 3) := by decide +kernel
theorem dX12_keeps_17 : decode cX12_keeps 17 = .ok (.iconst 1, 1) := by decide +kernel
theorem dX12_keeps_18 : decode cX12_keeps 18 = .ok (.iload_n 1, 1) := by decide +kernel
theorem dX12_keeps_19 : decode cX12_keeps 19 = .ok (.iadd, 1) := by decide +kernel
theorem dX12_keeps_20 : decode cX12_keeps 20 = .ok (.iaload, 1) := by decide +kernel
theorem dX12_keeps_21 : decode cX12_keeps 21 = .ok (.ifCond .ge 5, 3) := by decide +kernel
theorem dX12_keeps_24 : decode cX12_keeps 24 = .ok (.iconst (-1), 1) := by decide +kernel
theorem dX12_keeps_25 : decode cX12_keeps 25 = .ok (.ireturn, 1) := by decide +kernel
theorem dX12_keeps_26 : decode cX12_keeps 26 = .ok (.iconst 1, 1) := by decide +kernel
theorem dX12_keeps_27 : decode cX12_keeps 27 = .ok (.istore_n 2, 1) := by decide +kernel
theorem dX12_keeps_28 : decode cX12_keeps 28 = .ok (.iload_n 2, 1) := by decide +kernel
theorem dX12_keeps_29 : decode cX12_keeps 29 = .ok (.bipush 41, 2) := by decide +kernel
theorem dX12_keeps_31 : decode cX12_keeps 31 = .ok (.if_icmp .ge 35, 3) := by decide +kernel
theorem dX12_keeps_34 : decode cX12_keeps 34 = .ok (.aload_n 0, 1) := by decide +kernel
theorem dX12_keeps_35 : decode cX12_keeps 35 = .ok (.iload_n 1, 1) := by decide +kernel
theorem dX12_keeps_36 : decode cX12_keeps 36 = .ok (.aload_n 0, 1) := by decide +kernel
theorem dX12_keeps_37 : decode cX12_keeps 37 = .ok (.getfield 120, 3) := by decide +kernel
theorem dX12_keeps_40 : decode cX12_keeps 40 = .ok (.iconst 1, 1) := by decide +kernel
theorem dX12_keeps_41 : decode cX12_keeps 41 = .ok (.iload_n 1, 1) := by decide +kernel
theorem dX12_keeps_42 : decode cX12_keeps 42 = .ok (.iadd, 1) := by decide +kernel
theorem dX12_keeps_43 : decode cX12_keeps 43 = .ok (.iaload, 1) := by decide +kernel
theorem dX12_keeps_44 : decode cX12_keeps 44 = .ok (.aload_n 0, 1) := by decide +kernel
theorem dX12_keeps_45 : decode cX12_keeps 45 = .ok (.getfield 120, 3) := by decide +kernel
theorem dX12_keeps_48 : decode cX12_keeps 48 = .ok (.iconst 0, 1) := by decide +kernel
theorem dX12_keeps_49 : decode cX12_keeps 49 = .ok (.iaload, 1) := by decide +kernel
theorem dX12_keeps_50 : decode cX12_keeps 50 = .ok (.iload_n 2, 1) := by decide +kernel
theorem dX12_keeps_51 : decode cX12_keeps 51 = .ok (.iadd, 1) := by decide +kernel
theorem dX12_keeps_52 : decode cX12_keeps 52 = .ok (.invokevirtual 406, 3) := by decide +kernel
theorem dX12_keeps_55 : decode cX12_keeps 55 = .ok (.ifCond .ne 5, 3) := by decide +kernel
theorem dX12_keeps_58 : decode cX12_keeps 58 = .ok (.iload_n 2, 1) := by decide +kernel
theorem dX12_keeps_59 : decode cX12_keeps 59 = .ok (.ireturn, 1) := by decide +kernel
theorem dX12_keeps_60 : decode cX12_keeps 60 = .ok (.iinc 2 1, 3) := by decide +kernel
theorem dX12_keeps_63 : decode cX12_keeps 63 = .ok (.goto (-35), 3) := by decide +kernel
theorem dX12_keeps_66 : decode cX12_keeps 66 = .ok (.iconst (-1), 1) := by decide +kernel
theorem dX12_keeps_67 : decode cX12_keeps 67 = .ok (.ireturn, 1) := by decide +kernel
theorem dX12_mendsFrom_0 : decode cX12_mendsFrom 0 = .ok (.iload_n 1, 1) := by decide +kernel
theorem dX12_mendsFrom_1 : decode cX12_mendsFrom 1 = .ok (.iload_n 2, 1) := by decide +kernel
theorem dX12_mendsFrom_2 : decode cX12_mendsFrom 2 = .ok (.if_icmp .ne 61, 3) := by decide +kernel
theorem dX12_mendsFrom_5 : decode cX12_mendsFrom 5 = .ok (.aload_n 0, 1) := by decide +kernel
theorem dX12_mendsFrom_6 : decode cX12_mendsFrom 6 = .ok (.bipush 63, 2) := by decide +kernel
theorem dX12_mendsFrom_8 : decode cX12_mendsFrom 8 = .ok (.aload_n 0, 1) := by decide +kernel
theorem dX12_mendsFrom_9 : decode cX12_mendsFrom 9 = .ok (.invokevirtual 470, 3) := by decide +kernel
theorem dX12_mendsFrom_12 : decode cX12_mendsFrom 12 = .ok (.iconst (-1), 1) := by decide +kernel
theorem dX12_mendsFrom_13 : decode cX12_mendsFrom 13 = .ok (.ixor, 1) := by decide +kernel
theorem dX12_mendsFrom_14 : decode cX12_mendsFrom 14 = .ok (.iand, 1) := by decide +kernel
theorem dX12_mendsFrom_15 : decode cX12_mendsFrom 15 = .ok (.invokevirtual 439, 3) := by decide +kernel
theorem dX12_mendsFrom_18 : decode cX12_mendsFrom 18 = .ok (.istore_n 3, 1) := by decide +kernel
theorem dX12_mendsFrom_19 : decode cX12_mendsFrom 19 = .ok (.iload_n 3, 1) := by decide +kernel
theorem dX12_mendsFrom_20 : decode cX12_mendsFrom 20 = .ok (.aload_n 0, 1) := by decide +kernel
theorem dX12_mendsFrom_21 : decode cX12_mendsFrom 21 = .ok (.getfield 473, 3) := by decide +kernel
theorem dX12_mendsFrom_24 : decode cX12_mendsFrom 24 = .ok (.if_icmp .gt 4, 3) := by decide +kernel
theorem dX12_mendsFrom_27 : decode cX12_mendsFrom 27 = .ok (.return_, 1) := by decide +kernel
theorem dX12_mendsFrom_28 : decode cX12_mendsFrom 28 = .ok (.aload_n 0, 1) := by decide +kernel
theorem dX12_mendsFrom_29 : decode cX12_mendsFrom 29 = .ok (.iload_n 3, 1) := by decide +kernel
theorem dX12_mendsFrom_30 : decode cX12_mendsFrom 30 = .ok (.putfield 473, 3) := by decide +kernel
theorem dX12_mendsFrom_33 : decode cX12_mendsFrom 33 = .ok (.iconst 0, 1) := by decide +kernel
theorem dX12_mendsFrom_34 : decode cX12_mendsFrom 34 = .ok (.istore 4, 2) := by decide +kernel
theorem dX12_mendsFrom_36 : decode cX12_mendsFrom 36 = .ok (.iload 4, 2) := by decide +kernel
theorem dX12_mendsFrom_38 : decode cX12_mendsFrom 38 = .ok (.iconst 4, 1) := by decide +kernel
theorem dX12_mendsFrom_39 : decode cX12_mendsFrom 39 = .ok (.if_icmp .ge 23, 3) := by decide +kernel
theorem dX12_mendsFrom_42 : decode cX12_mendsFrom 42 = .ok (.aload_n 0, 1) := by decide +kernel
theorem dX12_mendsFrom_43 : decode cX12_mendsFrom 43 = .ok (.getfield 150, 3) := by decide +kernel
theorem dX12_mendsFrom_46 : decode cX12_mendsFrom 46 = .ok (.iload 4, 2) := by decide +kernel
theorem dX12_mendsFrom_48 : decode cX12_mendsFrom 48 = .ok (.aload_n 0, 1) := by decide +kernel
theorem dX12_mendsFrom_49 : decode cX12_mendsFrom 49 = .ok (.getfield 147, 3) := by decide +kernel
theorem dX12_mendsFrom_52 : decode cX12_mendsFrom 52 = .ok (.iload 4, 2) := by decide +kernel
theorem dX12_mendsFrom_54 : decode cX12_mendsFrom 54 = .ok (.iaload, 1) := by decide +kernel
theorem dX12_mendsFrom_55 : decode cX12_mendsFrom 55 = .ok (.iastore, 1) := by decide +kernel
theorem dX12_mendsFrom_56 : decode cX12_mendsFrom 56 = .ok (.iinc 4 1, 3) := by decide +kernel
theorem dX12_mendsFrom_59 : decode cX12_mendsFrom 59 = .ok (.goto (-23), 3) := by decide +kernel
theorem dX12_mendsFrom_62 : decode cX12_mendsFrom 62 = .ok (.return_, 1) := by decide +kernel
theorem dX12_mendsFrom_63 : decode cX12_mendsFrom 63 = .ok (.aload_n 0, 1) := by decide +kernel
theorem dX12_mendsFrom_64 : decode cX12_mendsFrom 64 = .ok (.getfield 120, 3) := by decide +kernel
theorem dX12_mendsFrom_67 : decode cX12_mendsFrom 67 = .ok (.iconst 0, 1) := by decide +kernel
theorem dX12_mendsFrom_68 : decode cX12_mendsFrom 68 = .ok (.aload_n 0, 1) := by decide +kernel
theorem dX12_mendsFrom_69 : decode cX12_mendsFrom 69 = .ok (.getfield 144, 3) := by decide +kernel
theorem dX12_mendsFrom_72 : decode cX12_mendsFrom 72 = .ok (.bipush 13, 2) := by decide +kernel
theorem dX12_mendsFrom_74 : decode cX12_mendsFrom 74 = .ok (.iload_n 1, 1) := by decide +kernel
theorem dX12_mendsFrom_75 : decode cX12_mendsFrom 75 = .ok (.imul, 1) := by decide +kernel
theorem dX12_mendsFrom_76 : decode cX12_mendsFrom 76 = .ok (.invokestatic 420, 3) := by decide +kernel
theorem dX12_mendsFrom_79 : decode cX12_mendsFrom 79 = .ok (.iconst 0, 1) := by decide +kernel
theorem dX12_mendsFrom_80 : decode cX12_mendsFrom 80 = .ok (.istore_n 3, 1) := by decide +kernel
theorem dX12_mendsFrom_81 : decode cX12_mendsFrom 81 = .ok (.iload_n 3, 1) := by decide +kernel
theorem dX12_mendsFrom_82 : decode cX12_mendsFrom 82 = .ok (.aload_n 0, 1) := by decide +kernel
theorem dX12_mendsFrom_83 : decode cX12_mendsFrom 83 = .ok (.getfield 13, 3) := by decide +kernel
theorem dX12_mendsFrom_86 : decode cX12_mendsFrom 86 = .ok (.iconst 0, 1) := by decide +kernel
theorem dX12_mendsFrom_87 : decode cX12_mendsFrom 87 = .ok (.iaload, 1) := by decide +kernel
theorem dX12_mendsFrom_88 : decode cX12_mendsFrom 88 = .ok (.if_icmp .gt 105, 3) := by decide +kernel
theorem dX12_mendsFrom_91 : decode cX12_mendsFrom 91 = .ok (.iload_n 3, 1) := by decide +kernel
theorem dX12_mendsFrom_92 : decode cX12_mendsFrom 92 = .ok (.aload_n 0, 1) := by decide +kernel
theorem dX12_mendsFrom_93 : decode cX12_mendsFrom 93 = .ok (.getfield 13, 3) := by decide +kernel
theorem dX12_mendsFrom_96 : decode cX12_mendsFrom 96 = .ok (.iconst 0, 1) := by decide +kernel
theorem dX12_mendsFrom_97 : decode cX12_mendsFrom 97 = .ok (.iaload, 1) := by decide +kernel
theorem dX12_mendsFrom_98 : decode cX12_mendsFrom 98 = .ok (.if_icmp .ne 7, 3) := by decide +kernel
theorem dX12_mendsFrom_101 : decode cX12_mendsFrom 101 = .ok (.iconst 1, 1) := by decide +kernel
theorem dX12_mendsFrom_102 : decode cX12_mendsFrom 102 = .ok (.goto 4, 3) := by decide +kernel
theorem dX12_mendsFrom_105 : decode cX12_mendsFrom 105 = .ok (.iconst 0, 1) := by decide +kernel
theorem dX12_mendsFrom_106 : decode cX12_mendsFrom 106 = .ok (.istore 4, 2) := by decide +kernel
theorem dX12_mendsFrom_108 : decode cX12_mendsFrom 108 = .ok (.iload 4, 2) := by decide +kernel
theorem dX12_mendsFrom_110 : decode cX12_mendsFrom 110 = .ok (.ifCond .ne 17, 3) := by decide +kernel
theorem dX12_mendsFrom_113 : decode cX12_mendsFrom 113 = .ok (.aload_n 0, 1) := by decide +kernel
theorem dX12_mendsFrom_114 : decode cX12_mendsFrom 114 = .ok (.getfield 120, 3) := by decide +kernel
theorem dX12_mendsFrom_117 : decode cX12_mendsFrom 117 = .ok (.iconst 1, 1) := by decide +kernel
theorem dX12_mendsFrom_118 : decode cX12_mendsFrom 118 = .ok (.iload_n 3, 1) := by decide +kernel
theorem dX12_mendsFrom_119 : decode cX12_mendsFrom 119 = .ok (.iadd, 1) := by decide +kernel
theorem dX12_mendsFrom_120 : decode cX12_mendsFrom 120 = .ok (.iaload, 1) := by decide +kernel
theorem dX12_mendsFrom_121 : decode cX12_mendsFrom 121 = .ok (.ifCond .lt 6, 3) := by decide +kernel
theorem dX12_mendsFrom_124 : decode cX12_mendsFrom 124 = .ok (.goto 63, 3) := by decide +kernel
theorem dX12_mendsFrom_127 : decode cX12_mendsFrom 127 = .ok (.iload 4, 2) := by decide +kernel
theorem dX12_mendsFrom_129 : decode cX12_mendsFrom 129 = .ok (.ifCond .ne 13, 3) := by decide +kernel
theorem dX12_mendsFrom_132 : decode cX12_mendsFrom 132 = .ok (.aload_n 0, 1) := by decide +kernel
theorem dX12_mendsFrom_133 : decode cX12_mendsFrom 133 = .ok (.getfield 120, 3) := by decide +kernel
theorem dX12_mendsFrom_136 : decode cX12_mendsFrom 136 = .ok (.bipush 7, 2) := by decide +kernel
theorem dX12_mendsFrom_138 : decode cX12_mendsFrom 138 = .ok (.iload_n 3, 1) := by decide +kernel
theorem dX12_mendsFrom_139 : decode cX12_mendsFrom 139 = .ok (.iadd, 1) := by decide +kernel
theorem dX12_mendsFrom_140 : decode cX12_mendsFrom 140 = .ok (.iconst 0, 1) := by decide +kernel
theorem dX12_mendsFrom_141 : decode cX12_mendsFrom 141 = .ok (.iastore, 1) := by decide +kernel
theorem dX12_mendsFrom_142 : decode cX12_mendsFrom 142 = .ok (.aload_n 0, 1) := by decide +kernel
theorem dX12_mendsFrom_143 : decode cX12_mendsFrom 143 = .ok (.getfield 147, 3) := by decide +kernel
theorem dX12_mendsFrom_146 : decode cX12_mendsFrom 146 = .ok (.iload_n 1, 1) := by decide +kernel
theorem dX12_mendsFrom_147 : decode cX12_mendsFrom 147 = .ok (.iload 4, 2) := by decide +kernel
theorem dX12_mendsFrom_149 : decode cX12_mendsFrom 149 = .ok (.ifCond .eq 7, 3) := by decide +kernel
theorem dX12_mendsFrom_152 : decode cX12_mendsFrom 152 = .ok (.iconst (-1), 1) := by decide +kernel
theorem dX12_mendsFrom_153 : decode cX12_mendsFrom 153 = .ok (.goto 4, 3) := by decide +kernel
theorem dX12_mendsFrom_156 : decode cX12_mendsFrom 156 = .ok (.iload_n 3, 1) := by decide +kernel
theorem dX12_mendsFrom_157 : decode cX12_mendsFrom 157 = .ok (.iastore, 1) := by decide +kernel
theorem dX12_mendsFrom_158 : decode cX12_mendsFrom 158 = .ok (.aload_n 0, 1) := by decide +kernel
theorem dX12_mendsFrom_159 : decode cX12_mendsFrom 159 = .ok (.invokevirtual 430, 3) := by decide +kernel
theorem dX12_mendsFrom_162 : decode cX12_mendsFrom 162 = .ok (.pop, 1) := by decide +kernel
theorem dX12_mendsFrom_163 : decode cX12_mendsFrom 163 = .ok (.aload_n 0, 1) := by decide +kernel
theorem dX12_mendsFrom_164 : decode cX12_mendsFrom 164 = .ok (.iload_n 1, 1) := by decide +kernel
theorem dX12_mendsFrom_165 : decode cX12_mendsFrom 165 = .ok (.iconst 1, 1) := by decide +kernel
theorem dX12_mendsFrom_166 : decode cX12_mendsFrom 166 = .ok (.iadd, 1) := by decide +kernel
theorem dX12_mendsFrom_167 : decode cX12_mendsFrom 167 = .ok (.iload_n 2, 1) := by decide +kernel
theorem dX12_mendsFrom_168 : decode cX12_mendsFrom 168 = .ok (.invokevirtual 476, 3) := by decide +kernel
theorem dX12_mendsFrom_171 : decode cX12_mendsFrom 171 = .ok (.aload_n 0, 1) := by decide +kernel
theorem dX12_mendsFrom_172 : decode cX12_mendsFrom 172 = .ok (.getfield 144, 3) := by decide +kernel
theorem dX12_mendsFrom_175 : decode cX12_mendsFrom 175 = .ok (.bipush 13, 2) := by decide +kernel
theorem dX12_mendsFrom_177 : decode cX12_mendsFrom 177 = .ok (.iload_n 1, 1) := by decide +kernel
theorem dX12_mendsFrom_178 : decode cX12_mendsFrom 178 = .ok (.imul, 1) := by decide +kernel
theorem dX12_mendsFrom_179 : decode cX12_mendsFrom 179 = .ok (.aload_n 0, 1) := by decide +kernel
theorem dX12_mendsFrom_180 : decode cX12_mendsFrom 180 = .ok (.getfield 120, 3) := by decide +kernel
theorem dX12_mendsFrom_183 : decode cX12_mendsFrom 183 = .ok (.iconst 0, 1) := by decide +kernel
theorem dX12_mendsFrom_184 : decode cX12_mendsFrom 184 = .ok (.invokestatic 420, 3) := by decide +kernel
theorem dX12_mendsFrom_187 : decode cX12_mendsFrom 187 = .ok (.iinc 3 1, 3) := by decide +kernel
theorem dX12_mendsFrom_190 : decode cX12_mendsFrom 190 = .ok (.goto (-109), 3) := by decide +kernel
theorem dX12_mendsFrom_193 : decode cX12_mendsFrom 193 = .ok (.return_, 1) := by decide +kernel
theorem dX12_moths_0 : decode cX12_moths 0 = .ok (.aload_n 0, 1) := by decide +kernel
theorem dX12_moths_1 : decode cX12_moths 1 = .ok (.iconst 0, 1) := by decide +kernel
theorem dX12_moths_2 : decode cX12_moths 2 = .ok (.putfield 171, 3) := by decide +kernel
theorem dX12_moths_5 : decode cX12_moths 5 = .ok (.iload_n 1, 1) := by decide +kernel
theorem dX12_moths_6 : decode cX12_moths 6 = .ok (.iconst 1, 1) := by decide +kernel
theorem dX12_moths_7 : decode cX12_moths 7 = .ok (.iconst 4, 1) := by decide +kernel
theorem dX12_moths_8 : decode cX12_moths 8 = .ok (.invokestatic 301, 3) := by decide +kernel
theorem dX12_moths_11 : decode cX12_moths 11 = .ok (.ifCond .eq 12, 3) := by decide +kernel
theorem dX12_moths_14 : decode cX12_moths 14 = .ok (.iload_n 2, 1) := by decide +kernel
theorem dX12_moths_15 : decode cX12_moths 15 = .ok (.iconst 0, 1) := by decide +kernel
theorem dX12_moths_16 : decode cX12_moths 16 = .ok (.iload_n 1, 1) := by decide +kernel
theorem dX12_moths_17 : decode cX12_moths 17 = .ok (.invokestatic 301, 3) := by decide +kernel
theorem dX12_moths_20 : decode cX12_moths 20 = .ok (.ifCond .ne 6, 3) := by decide +kernel
theorem dX12_moths_23 : decode cX12_moths 23 = .ok (.bipush (-2), 2) := by decide +kernel
theorem dX12_moths_25 : decode cX12_moths 25 = .ok (.ireturn, 1) := by decide +kernel
theorem dX12_moths_26 : decode cX12_moths 26 = .ok (.aload_n 0, 1) := by decide +kernel
theorem dX12_moths_27 : decode cX12_moths 27 = .ok (.iconst (-1), 1) := by decide +kernel
theorem dX12_moths_28 : decode cX12_moths 28 = .ok (.putfield 473, 3) := by decide +kernel
theorem dX12_moths_31 : decode cX12_moths 31 = .ok (.aload_n 0, 1) := by decide +kernel
theorem dX12_moths_32 : decode cX12_moths 32 = .ok (.iconst 0, 1) := by decide +kernel
theorem dX12_moths_33 : decode cX12_moths 33 = .ok (.iload_n 1, 1) := by decide +kernel
theorem dX12_moths_34 : decode cX12_moths 34 = .ok (.invokevirtual 476, 3) := by decide +kernel
theorem dX12_moths_37 : decode cX12_moths 37 = .ok (.iload_n 2, 1) := by decide +kernel
theorem dX12_moths_38 : decode cX12_moths 38 = .ok (.ifCond .ne 10, 3) := by decide +kernel
theorem dX12_moths_41 : decode cX12_moths 41 = .ok (.aload_n 0, 1) := by decide +kernel
theorem dX12_moths_42 : decode cX12_moths 42 = .ok (.getfield 473, 3) := by decide +kernel
theorem dX12_moths_45 : decode cX12_moths 45 = .ok (.goto 11, 3) := by decide +kernel
theorem dX12_moths_48 : decode cX12_moths 48 = .ok (.aload_n 0, 1) := by decide +kernel
theorem dX12_moths_49 : decode cX12_moths 49 = .ok (.getfield 150, 3) := by decide +kernel
theorem dX12_moths_52 : decode cX12_moths 52 = .ok (.iload_n 2, 1) := by decide +kernel
theorem dX12_moths_53 : decode cX12_moths 53 = .ok (.iconst 1, 1) := by decide +kernel
theorem dX12_moths_54 : decode cX12_moths 54 = .ok (.isub, 1) := by decide +kernel
theorem dX12_moths_55 : decode cX12_moths 55 = .ok (.iaload, 1) := by decide +kernel
theorem dX12_moths_56 : decode cX12_moths 56 = .ok (.ireturn, 1) := by decide +kernel
theorem dX12_tell_0 : decode cX12_tell 0 = .ok (.aload_n 0, 1) := by decide +kernel
theorem dX12_tell_1 : decode cX12_tell 1 = .ok (.iconst 0, 1) := by decide +kernel
theorem dX12_tell_2 : decode cX12_tell 2 = .ok (.putfield 171, 3) := by decide +kernel
theorem dX12_tell_5 : decode cX12_tell 5 = .ok (.aload_n 0, 1) := by decide +kernel
theorem dX12_tell_6 : decode cX12_tell 6 = .ok (.iload_n 1, 1) := by decide +kernel
theorem dX12_tell_7 : decode cX12_tell 7 = .ok (.invokevirtual 414, 3) := by decide +kernel
theorem dX12_tell_10 : decode cX12_tell 10 = .ok (.ifCond .eq 13, 3) := by decide +kernel
theorem dX12_tell_13 : decode cX12_tell 13 = .ok (.iload_n 2, 1) := by decide +kernel
theorem dX12_tell_14 : decode cX12_tell 14 = .ok (.iconst 0, 1) := by decide +kernel
theorem dX12_tell_15 : decode cX12_tell 15 = .ok (.bipush 9, 2) := by decide +kernel
theorem dX12_tell_17 : decode cX12_tell 17 = .ok (.invokestatic 301, 3) := by decide +kernel
theorem dX12_tell_20 : decode cX12_tell 20 = .ok (.ifCond .ne 5, 3) := by decide +kernel
theorem dX12_tell_23 : decode cX12_tell 23 = .ok (.iconst 0, 1) := by decide +kernel
theorem dX12_tell_24 : decode cX12_tell 24 = .ok (.ireturn, 1) := by decide +kernel
theorem dX12_tell_25 : decode cX12_tell 25 = .ok (.aload_n 0, 1) := by decide +kernel
theorem dX12_tell_26 : decode cX12_tell 26 = .ok (.getfield 117, 3) := by decide +kernel
theorem dX12_tell_29 : decode cX12_tell 29 = .ok (.iload_n 1, 1) := by decide +kernel
theorem dX12_tell_30 : decode cX12_tell 30 = .ok (.iload_n 2, 1) := by decide +kernel
theorem dX12_tell_31 : decode cX12_tell 31 = .ok (.iastore, 1) := by decide +kernel
theorem dX12_tell_32 : decode cX12_tell 32 = .ok (.iconst 1, 1) := by decide +kernel
theorem dX12_tell_33 : decode cX12_tell 33 = .ok (.ireturn, 1) := by decide +kernel
theorem dX12_tiltsFrom_0 : decode cX12_tiltsFrom 0 = .ok (.iload_n 1, 1) := by decide +kernel
theorem dX12_tiltsFrom_1 : decode cX12_tiltsFrom 1 = .ok (.aload_n 0, 1) := by decide +kernel
theorem dX12_tiltsFrom_2 : decode cX12_tiltsFrom 2 = .ok (.getfield 13, 3) := by decide +kernel
theorem dX12_tiltsFrom_5 : decode cX12_tiltsFrom 5 = .ok (.iconst 0, 1) := by decide +kernel
theorem dX12_tiltsFrom_6 : decode cX12_tiltsFrom 6 = .ok (.iaload, 1) := by decide +kernel
theorem dX12_tiltsFrom_7 : decode cX12_tiltsFrom 7 = .ok (.if_icmp .ne 142, 3) := by decide +kernel
theorem dX12_tiltsFrom_10 : decode cX12_tiltsFrom 10 = .ok (.iconst 0, 1) := by decide +kernel
theorem dX12_tiltsFrom_11 : decode cX12_tiltsFrom 11 = .ok (.istore_n 3, 1) := by decide +kernel
theorem dX12_tiltsFrom_12 : decode cX12_tiltsFrom 12 = .ok (.iload_n 3, 1) := by decide +kernel
theorem dX12_tiltsFrom_13 : decode cX12_tiltsFrom 13 = .ok (.bipush 6, 2) := by decide +kernel
theorem dX12_tiltsFrom_15 : decode cX12_tiltsFrom 15 = .ok (.if_icmp .ge 48, 3) := by decide +kernel
theorem dX12_tiltsFrom_18 : decode cX12_tiltsFrom 18 = .ok (.aload_n 0, 1) := by decide +kernel
theorem dX12_tiltsFrom_19 : decode cX12_tiltsFrom 19 = .ok (.getfield 153, 3) := by decide +kernel
theorem dX12_tiltsFrom_22 : decode cX12_tiltsFrom 22 = .ok (.iload_n 3, 1) := by decide +kernel
theorem dX12_tiltsFrom_23 : decode cX12_tiltsFrom 23 = .ok (.aload_n 0, 1) := by decide +kernel
theorem dX12_tiltsFrom_24 : decode cX12_tiltsFrom 24 = .ok (.getfield 479, 3) := by decide +kernel
theorem dX12_tiltsFrom_27 : decode cX12_tiltsFrom 27 = .ok (.ifCond .eq 18, 3) := by decide +kernel
theorem dX12_tiltsFrom_30 : decode cX12_tiltsFrom 30 = .ok (.aload_n 0, 1) := by decide +kernel
theorem dX12_tiltsFrom_31 : decode cX12_tiltsFrom 31 = .ok (.getfield 153, 3) := by decide +kernel
theorem dX12_tiltsFrom_34 : decode cX12_tiltsFrom 34 = .ok (.iload_n 3, 1) := by decide +kernel
theorem dX12_tiltsFrom_35 : decode cX12_tiltsFrom 35 = .ok (.iaload, 1) := by decide +kernel
theorem dX12_tiltsFrom_36 : decode cX12_tiltsFrom 36 = .ok (.aload_n 0, 1) := by decide +kernel
theorem dX12_tiltsFrom_37 : decode cX12_tiltsFrom 37 = .ok (.getfield 135, 3) := by decide +kernel
theorem dX12_tiltsFrom_40 : decode cX12_tiltsFrom 40 = .ok (.iload_n 3, 1) := by decide +kernel
theorem dX12_tiltsFrom_41 : decode cX12_tiltsFrom 41 = .ok (.iaload, 1) := by decide +kernel
theorem dX12_tiltsFrom_42 : decode cX12_tiltsFrom 42 = .ok (.if_icmp .ne 12, 3) := by decide +kernel
theorem dX12_tiltsFrom_45 : decode cX12_tiltsFrom 45 = .ok (.aload_n 0, 1) := by decide +kernel
theorem dX12_tiltsFrom_46 : decode cX12_tiltsFrom 46 = .ok (.getfield 135, 3) := by decide +kernel
theorem dX12_tiltsFrom_49 : decode cX12_tiltsFrom 49 = .ok (.iload_n 3, 1) := by decide +kernel
theorem dX12_tiltsFrom_50 : decode cX12_tiltsFrom 50 = .ok (.iaload, 1) := by decide +kernel
theorem dX12_tiltsFrom_51 : decode cX12_tiltsFrom 51 = .ok (.goto 5, 3) := by decide +kernel
theorem dX12_tiltsFrom_54 : decode cX12_tiltsFrom 54 = .ok (.bipush 6, 2) := by decide +kernel
theorem dX12_tiltsFrom_56 : decode cX12_tiltsFrom 56 = .ok (.iastore, 1) := by decide +kernel
theorem dX12_tiltsFrom_57 : decode cX12_tiltsFrom 57 = .ok (.iinc 3 1, 3) := by decide +kernel
theorem dX12_tiltsFrom_60 : decode cX12_tiltsFrom 60 = .ok (.goto (-48), 3) := by decide +kernel
theorem dX12_tiltsFrom_63 : decode cX12_tiltsFrom 63 = .ok (.aload_n 0, 1) := by decide +kernel
theorem dX12_tiltsFrom_64 : decode cX12_tiltsFrom 64 = .ok (.dup, 1) := by decide +kernel
theorem dX12_tiltsFrom_65 : decode cX12_tiltsFrom 65 = .ok (.getfield 479, 3) := by decide +kernel
theorem dX12_tiltsFrom_68 : decode cX12_tiltsFrom 68 = .ok (.iconst 1, 1) := by decide +kernel
theorem dX12_tiltsFrom_69 : decode cX12_tiltsFrom 69 = .ok (.iadd, 1) := by decide +kernel
theorem dX12_tiltsFrom_70 : decode cX12_tiltsFrom 70 = .ok (.putfield 479, 3) := by decide +kernel
theorem dX12_tiltsFrom_73 : decode cX12_tiltsFrom 73 = .ok (.iconst 0, 1) := by decide +kernel
theorem dX12_tiltsFrom_74 : decode cX12_tiltsFrom 74 = .ok (.istore_n 3, 1) := by decide +kernel
theorem dX12_tiltsFrom_75 : decode cX12_tiltsFrom 75 = .ok (.iload_n 3, 1) := by decide +kernel
theorem dX12_tiltsFrom_76 : decode cX12_tiltsFrom 76 = .ok (.aload_n 0, 1) := by decide +kernel
theorem dX12_tiltsFrom_77 : decode cX12_tiltsFrom 77 = .ok (.getfield 13, 3) := by decide +kernel
theorem dX12_tiltsFrom_80 : decode cX12_tiltsFrom 80 = .ok (.iconst 1, 1) := by decide +kernel
theorem dX12_tiltsFrom_81 : decode cX12_tiltsFrom 81 = .ok (.iaload, 1) := by decide +kernel
theorem dX12_tiltsFrom_82 : decode cX12_tiltsFrom 82 = .ok (.if_icmp .ge 66, 3) := by decide +kernel
theorem dX12_tiltsFrom_85 : decode cX12_tiltsFrom 85 = .ok (.aload_n 0, 1) := by decide +kernel
theorem dX12_tiltsFrom_86 : decode cX12_tiltsFrom 86 = .ok (.getfield 482, 3) := by decide +kernel
theorem dX12_tiltsFrom_89 : decode cX12_tiltsFrom 89 = .ok (.ifCond .lt 59, 3) := by decide +kernel
theorem dX12_tiltsFrom_92 : decode cX12_tiltsFrom 92 = .ok (.iload_n 2, 1) := by decide +kernel
theorem dX12_tiltsFrom_93 : decode cX12_tiltsFrom 93 = .ok (.iload_n 3, 1) := by decide +kernel
theorem dX12_tiltsFrom_94 : decode cX12_tiltsFrom 94 = .ok (.ishr, 1) := by decide +kernel
theorem dX12_tiltsFrom_95 : decode cX12_tiltsFrom 95 = .ok (.iconst 1, 1) := by decide +kernel
theorem dX12_tiltsFrom_96 : decode cX12_tiltsFrom 96 = .ok (.iand, 1) := by decide +kernel
theorem dX12_tiltsFrom_97 : decode cX12_tiltsFrom 97 = .ok (.ifCond .ne 45, 3) := by decide +kernel
theorem dX12_tiltsFrom_100 : decode cX12_tiltsFrom 100 = .ok (.aload_n 0, 1) := by decide +kernel
theorem dX12_tiltsFrom_101 : decode cX12_tiltsFrom 101 = .ok (.aload_n 0, 1) := by decide +kernel
theorem dX12_tiltsFrom_102 : decode cX12_tiltsFrom 102 = .ok (.getfield 482, 3) := by decide +kernel
theorem dX12_tiltsFrom_105 : decode cX12_tiltsFrom 105 = .ok (.iload_n 3, 1) := by decide +kernel
theorem dX12_tiltsFrom_106 : decode cX12_tiltsFrom 106 = .ok (.aload_n 0, 1) := by decide +kernel
theorem dX12_tiltsFrom_107 : decode cX12_tiltsFrom 107 = .ok (.getfield 120, 3) := by decide +kernel
theorem dX12_tiltsFrom_110 : decode cX12_tiltsFrom 110 = .ok (.iconst 0, 1) := by decide +kernel
theorem dX12_tiltsFrom_111 : decode cX12_tiltsFrom 111 = .ok (.iaload, 1) := by decide +kernel
theorem dX12_tiltsFrom_112 : decode cX12_tiltsFrom 112 = .ok (.invokevirtual 406, 3) := by decide +kernel
theorem dX12_tiltsFrom_115 : decode cX12_tiltsFrom 115 = .ok (.ifCond .eq 27, 3) := by decide +kernel
theorem dX12_tiltsFrom_118 : decode cX12_tiltsFrom 118 = .ok (.aload_n 0, 1) := by decide +kernel
theorem dX12_tiltsFrom_119 : decode cX12_tiltsFrom 119 = .ok (.getfield 156, 3) := by decide +kernel
theorem dX12_tiltsFrom_122 : decode cX12_tiltsFrom 122 = .ok (.aload_n 0, 1) := by decide +kernel
theorem dX12_tiltsFrom_123 : decode cX12_tiltsFrom 123 = .ok (.aload_n 0, 1) := by decide +kernel
theorem dX12_tiltsFrom_124 : decode cX12_tiltsFrom 124 = .ok (.getfield 482, 3) := by decide +kernel
theorem dX12_tiltsFrom_127 : decode cX12_tiltsFrom 127 = .ok (.iload_n 3, 1) := by decide +kernel
theorem dX12_tiltsFrom_128 : decode cX12_tiltsFrom 128 = .ok (.aload_n 0, 1) := by decide +kernel
theorem dX12_tiltsFrom_129 : decode cX12_tiltsFrom 129 = .ok (.getfield 120, 3) := by decide +kernel
theorem dX12_tiltsFrom_132 : decode cX12_tiltsFrom 132 = .ok (.iconst 0, 1) := by decide +kernel
theorem dX12_tiltsFrom_133 : decode cX12_tiltsFrom 133 = .ok (.iaload, 1) := by decide +kernel
theorem dX12_tiltsFrom_134 : decode cX12_tiltsFrom 134 = .ok (.invokevirtual 400, 3) := by decide +kernel
theorem dX12_tiltsFrom_137 : decode cX12_tiltsFrom 137 = .ok (.dup2, 1) := by decide +kernel
theorem dX12_tiltsFrom_138 : decode cX12_tiltsFrom 138 = .ok (.iaload, 1) := by decide +kernel
theorem dX12_tiltsFrom_139 : decode cX12_tiltsFrom 139 = .ok (.iconst 1, 1) := by decide +kernel
theorem dX12_tiltsFrom_140 : decode cX12_tiltsFrom 140 = .ok (.iadd, 1) := by decide +kernel
theorem dX12_tiltsFrom_141 : decode cX12_tiltsFrom 141 = .ok (.iastore, 1) := by decide +kernel
theorem dX12_tiltsFrom_142 : decode cX12_tiltsFrom 142 = .ok (.iinc 3 1, 3) := by decide +kernel
theorem dX12_tiltsFrom_145 : decode cX12_tiltsFrom 145 = .ok (.goto (-70), 3) := by decide +kernel
theorem dX12_tiltsFrom_148 : decode cX12_tiltsFrom 148 = .ok (.return_, 1) := by decide +kernel
theorem dX12_tiltsFrom_149 : decode cX12_tiltsFrom 149 = .ok (.aload_n 0, 1) := by decide +kernel
theorem dX12_tiltsFrom_150 : decode cX12_tiltsFrom 150 = .ok (.getfield 135, 3) := by decide +kernel
theorem dX12_tiltsFrom_153 : decode cX12_tiltsFrom 153 = .ok (.iload_n 1, 1) := by decide +kernel
theorem dX12_tiltsFrom_154 : decode cX12_tiltsFrom 154 = .ok (.iconst (-1), 1) := by decide +kernel
theorem dX12_tiltsFrom_155 : decode cX12_tiltsFrom 155 = .ok (.iastore, 1) := by decide +kernel
theorem dX12_tiltsFrom_156 : decode cX12_tiltsFrom 156 = .ok (.aload_n 0, 1) := by decide +kernel
theorem dX12_tiltsFrom_157 : decode cX12_tiltsFrom 157 = .ok (.getfield 117, 3) := by decide +kernel
theorem dX12_tiltsFrom_160 : decode cX12_tiltsFrom 160 = .ok (.iload_n 1, 1) := by decide +kernel
theorem dX12_tiltsFrom_161 : decode cX12_tiltsFrom 161 = .ok (.iaload, 1) := by decide +kernel
theorem dX12_tiltsFrom_162 : decode cX12_tiltsFrom 162 = .ok (.ifCond .ge 12, 3) := by decide +kernel
theorem dX12_tiltsFrom_165 : decode cX12_tiltsFrom 165 = .ok (.aload_n 0, 1) := by decide +kernel
theorem dX12_tiltsFrom_166 : decode cX12_tiltsFrom 166 = .ok (.iload_n 1, 1) := by decide +kernel
theorem dX12_tiltsFrom_167 : decode cX12_tiltsFrom 167 = .ok (.iconst 1, 1) := by decide +kernel
theorem dX12_tiltsFrom_168 : decode cX12_tiltsFrom 168 = .ok (.iadd, 1) := by decide +kernel
theorem dX12_tiltsFrom_169 : decode cX12_tiltsFrom 169 = .ok (.iload_n 2, 1) := by decide +kernel
theorem dX12_tiltsFrom_170 : decode cX12_tiltsFrom 170 = .ok (.invokevirtual 485, 3) := by decide +kernel
theorem dX12_tiltsFrom_173 : decode cX12_tiltsFrom 173 = .ok (.return_, 1) := by decide +kernel
theorem dX12_tiltsFrom_174 : decode cX12_tiltsFrom 174 = .ok (.iconst 0, 1) := by decide +kernel
theorem dX12_tiltsFrom_175 : decode cX12_tiltsFrom 175 = .ok (.istore_n 3, 1) := by decide +kernel
theorem dX12_tiltsFrom_176 : decode cX12_tiltsFrom 176 = .ok (.iload_n 3, 1) := by decide +kernel
theorem dX12_tiltsFrom_177 : decode cX12_tiltsFrom 177 = .ok (.aload_n 0, 1) := by decide +kernel
theorem dX12_tiltsFrom_178 : decode cX12_tiltsFrom 178 = .ok (.getfield 13, 3) := by decide +kernel
theorem dX12_tiltsFrom_181 : decode cX12_tiltsFrom 181 = .ok (.iconst 1, 1) := by decide +kernel
theorem dX12_tiltsFrom_182 : decode cX12_tiltsFrom 182 = .ok (.iaload, 1) := by decide +kernel
theorem dX12_tiltsFrom_183 : decode cX12_tiltsFrom 183 = .ok (.if_icmp .ge 76, 3) := by decide +kernel
theorem dX12_tiltsFrom_186 : decode cX12_tiltsFrom 186 = .ok (.iload_n 2, 1) := by decide +kernel
theorem dX12_tiltsFrom_187 : decode cX12_tiltsFrom 187 = .ok (.iload_n 3, 1) := by decide +kernel
theorem dX12_tiltsFrom_188 : decode cX12_tiltsFrom 188 = .ok (.ishr, 1) := by decide +kernel
theorem dX12_tiltsFrom_189 : decode cX12_tiltsFrom 189 = .ok (.iconst 1, 1) := by decide +kernel
theorem dX12_tiltsFrom_190 : decode cX12_tiltsFrom 190 = .ok (.iand, 1) := by decide +kernel
theorem dX12_tiltsFrom_191 : decode cX12_tiltsFrom 191 = .ok (.iconst 1, 1) := by decide +kernel
theorem dX12_tiltsFrom_192 : decode cX12_tiltsFrom 192 = .ok (.if_icmp .eq 61, 3) := by decide +kernel
theorem dX12_tiltsFrom_195 : decode cX12_tiltsFrom 195 = .ok (.aload_n 0, 1) := by decide +kernel
theorem dX12_tiltsFrom_196 : decode cX12_tiltsFrom 196 = .ok (.iload_n 1, 1) := by decide +kernel
theorem dX12_tiltsFrom_197 : decode cX12_tiltsFrom 197 = .ok (.iload_n 3, 1) := by decide +kernel
theorem dX12_tiltsFrom_198 : decode cX12_tiltsFrom 198 = .ok (.aload_n 0, 1) := by decide +kernel
theorem dX12_tiltsFrom_199 : decode cX12_tiltsFrom 199 = .ok (.getfield 120, 3) := by decide +kernel
theorem dX12_tiltsFrom_202 : decode cX12_tiltsFrom 202 = .ok (.iconst 0, 1) := by decide +kernel
theorem dX12_tiltsFrom_203 : decode cX12_tiltsFrom 203 = .ok (.iaload, 1) := by decide +kernel
theorem dX12_tiltsFrom_204 : decode cX12_tiltsFrom 204 = .ok (.invokevirtual 406, 3) := by decide +kernel
theorem dX12_tiltsFrom_207 : decode cX12_tiltsFrom 207 = .ok (.ifCond .eq 46, 3) := by decide +kernel
theorem dX12_tiltsFrom_210 : decode cX12_tiltsFrom 210 = .ok (.aload_n 0, 1) := by decide +kernel
theorem dX12_tiltsFrom_211 : decode cX12_tiltsFrom 211 = .ok (.iload_n 1, 1) := by decide +kernel
theorem dX12_tiltsFrom_212 : decode cX12_tiltsFrom 212 = .ok (.iload_n 3, 1) := by decide +kernel
theorem dX12_tiltsFrom_213 : decode cX12_tiltsFrom 213 = .ok (.aload_n 0, 1) := by decide +kernel
theorem dX12_tiltsFrom_214 : decode cX12_tiltsFrom 214 = .ok (.getfield 120, 3) := by decide +kernel
theorem dX12_tiltsFrom_217 : decode cX12_tiltsFrom 217 = .ok (.iconst 0, 1) := by decide +kernel
theorem dX12_tiltsFrom_218 : decode cX12_tiltsFrom 218 = .ok (.iaload, 1) := by decide +kernel
theorem dX12_tiltsFrom_219 : decode cX12_tiltsFrom 219 = .ok (.invokevirtual 400, 3) := by decide +kernel
theorem dX12_tiltsFrom_222 : decode cX12_tiltsFrom 222 = .ok (.aload_n 0, 1) := by decide +kernel
theorem dX12_tiltsFrom_223 : decode cX12_tiltsFrom 223 = .ok (.getfield 117, 3) := by decide +kernel
theorem dX12_tiltsFrom_226 : decode cX12_tiltsFrom 226 = .ok (.iload_n 1, 1) := by decide +kernel
theorem dX12_tiltsFrom_227 : decode cX12_tiltsFrom 227 = .ok (.iaload, 1) := by decide +kernel
theorem dX12_tiltsFrom_228 : decode cX12_tiltsFrom 228 = .ok (.if_icmp .eq 6, 3) := by decide +kernel
theorem dX12_tiltsFrom_231 : decode cX12_tiltsFrom 231 = .ok (.goto 22, 3) := by decide +kernel
theorem dX12_tiltsFrom_234 : decode cX12_tiltsFrom 234 = .ok (.aload_n 0, 1) := by decide +kernel
theorem dX12_tiltsFrom_235 : decode cX12_tiltsFrom 235 = .ok (.getfield 135, 3) := by decide +kernel
theorem dX12_tiltsFrom_238 : decode cX12_tiltsFrom 238 = .ok (.iload_n 1, 1) := by decide +kernel
theorem dX12_tiltsFrom_239 : decode cX12_tiltsFrom 239 = .ok (.iload_n 3, 1) := by decide +kernel
theorem dX12_tiltsFrom_240 : decode cX12_tiltsFrom 240 = .ok (.iastore, 1) := by decide +kernel
theorem dX12_tiltsFrom_241 : decode cX12_tiltsFrom 241 = .ok (.aload_n 0, 1) := by decide +kernel
theorem dX12_tiltsFrom_242 : decode cX12_tiltsFrom 242 = .ok (.iload_n 1, 1) := by decide +kernel
theorem dX12_tiltsFrom_243 : decode cX12_tiltsFrom 243 = .ok (.iconst 1, 1) := by decide +kernel
theorem dX12_tiltsFrom_244 : decode cX12_tiltsFrom 244 = .ok (.iadd, 1) := by decide +kernel
theorem dX12_tiltsFrom_245 : decode cX12_tiltsFrom 245 = .ok (.iload_n 2, 1) := by decide +kernel
theorem dX12_tiltsFrom_246 : decode cX12_tiltsFrom 246 = .ok (.iconst 1, 1) := by decide +kernel
theorem dX12_tiltsFrom_247 : decode cX12_tiltsFrom 247 = .ok (.iload_n 3, 1) := by decide +kernel
theorem dX12_tiltsFrom_248 : decode cX12_tiltsFrom 248 = .ok (.ishl, 1) := by decide +kernel
theorem dX12_tiltsFrom_249 : decode cX12_tiltsFrom 249 = .ok (.ior, 1) := by decide +kernel
theorem dX12_tiltsFrom_250 : decode cX12_tiltsFrom 250 = .ok (.invokevirtual 485, 3) := by decide +kernel
theorem dX12_tiltsFrom_253 : decode cX12_tiltsFrom 253 = .ok (.iinc 3 1, 3) := by decide +kernel
theorem dX12_tiltsFrom_256 : decode cX12_tiltsFrom 256 = .ok (.goto (-80), 3) := by decide +kernel
theorem dX12_tiltsFrom_259 : decode cX12_tiltsFrom 259 = .ok (.return_, 1) := by decide +kernel
theorem dX12_laysUnder_0 : decode cX12_laysUnder 0 = .ok (.aload_n 0, 1) := by decide +kernel
theorem dX12_laysUnder_1 : decode cX12_laysUnder 1 = .ok (.iload_n 1, 1) := by decide +kernel
theorem dX12_laysUnder_2 : decode cX12_laysUnder 2 = .ok (.putfield 482, 3) := by decide +kernel
theorem dX12_laysUnder_5 : decode cX12_laysUnder 5 = .ok (.aload_n 0, 1) := by decide +kernel
theorem dX12_laysUnder_6 : decode cX12_laysUnder 6 = .ok (.iconst 0, 1) := by decide +kernel
theorem dX12_laysUnder_7 : decode cX12_laysUnder 7 = .ok (.putfield 479, 3) := by decide +kernel
theorem dX12_laysUnder_10 : decode cX12_laysUnder 10 = .ok (.iconst 0, 1) := by decide +kernel
theorem dX12_laysUnder_11 : decode cX12_laysUnder 11 = .ok (.istore_n 2, 1) := by decide +kernel
theorem dX12_laysUnder_12 : decode cX12_laysUnder 12 = .ok (.iload_n 2, 1) := by decide +kernel
theorem dX12_laysUnder_13 : decode cX12_laysUnder 13 = .ok (.bipush 10, 2) := by decide +kernel
theorem dX12_laysUnder_15 : decode cX12_laysUnder 15 = .ok (.if_icmp .ge 16, 3) := by decide +kernel
theorem dX12_laysUnder_18 : decode cX12_laysUnder 18 = .ok (.aload_n 0, 1) := by decide +kernel
theorem dX12_laysUnder_19 : decode cX12_laysUnder 19 = .ok (.getfield 156, 3) := by decide +kernel
theorem dX12_laysUnder_22 : decode cX12_laysUnder 22 = .ok (.iload_n 2, 1) := by decide +kernel
theorem dX12_laysUnder_23 : decode cX12_laysUnder 23 = .ok (.iconst 0, 1) := by decide +kernel
theorem dX12_laysUnder_24 : decode cX12_laysUnder 24 = .ok (.iastore, 1) := by decide +kernel
theorem dX12_laysUnder_25 : decode cX12_laysUnder 25 = .ok (.iinc 2 1, 3) := by decide +kernel
theorem dX12_laysUnder_28 : decode cX12_laysUnder 28 = .ok (.goto (-16), 3) := by decide +kernel
theorem dX12_laysUnder_31 : decode cX12_laysUnder 31 = .ok (.iconst 0, 1) := by decide +kernel
theorem dX12_laysUnder_32 : decode cX12_laysUnder 32 = .ok (.istore_n 2, 1) := by decide +kernel
theorem dX12_laysUnder_33 : decode cX12_laysUnder 33 = .ok (.iload_n 2, 1) := by decide +kernel
theorem dX12_laysUnder_34 : decode cX12_laysUnder 34 = .ok (.bipush 6, 2) := by decide +kernel
theorem dX12_laysUnder_36 : decode cX12_laysUnder 36 = .ok (.if_icmp .ge 16, 3) := by decide +kernel
theorem dX12_laysUnder_39 : decode cX12_laysUnder 39 = .ok (.aload_n 0, 1) := by decide +kernel
theorem dX12_laysUnder_40 : decode cX12_laysUnder 40 = .ok (.getfield 135, 3) := by decide +kernel
theorem dX12_laysUnder_43 : decode cX12_laysUnder 43 = .ok (.iload_n 2, 1) := by decide +kernel
theorem dX12_laysUnder_44 : decode cX12_laysUnder 44 = .ok (.iconst (-1), 1) := by decide +kernel
theorem dX12_laysUnder_45 : decode cX12_laysUnder 45 = .ok (.iastore, 1) := by decide +kernel
theorem dX12_laysUnder_46 : decode cX12_laysUnder 46 = .ok (.iinc 2 1, 3) := by decide +kernel
theorem dX12_laysUnder_49 : decode cX12_laysUnder 49 = .ok (.goto (-16), 3) := by decide +kernel
theorem dX12_laysUnder_52 : decode cX12_laysUnder 52 = .ok (.aload_n 0, 1) := by decide +kernel
theorem dX12_laysUnder_53 : decode cX12_laysUnder 53 = .ok (.iconst 0, 1) := by decide +kernel
theorem dX12_laysUnder_54 : decode cX12_laysUnder 54 = .ok (.iconst 0, 1) := by decide +kernel
theorem dX12_laysUnder_55 : decode cX12_laysUnder 55 = .ok (.invokevirtual 485, 3) := by decide +kernel
theorem dX12_laysUnder_58 : decode cX12_laysUnder 58 = .ok (.return_, 1) := by decide +kernel
theorem dX12_under_0 : decode cX12_under 0 = .ok (.aload_n 0, 1) := by decide +kernel
theorem dX12_under_1 : decode cX12_under 1 = .ok (.iconst 0, 1) := by decide +kernel
theorem dX12_under_2 : decode cX12_under 2 = .ok (.putfield 171, 3) := by decide +kernel
theorem dX12_under_5 : decode cX12_under 5 = .ok (.iload_n 1, 1) := by decide +kernel
theorem dX12_under_6 : decode cX12_under 6 = .ok (.iconst (-1), 1) := by decide +kernel
theorem dX12_under_7 : decode cX12_under 7 = .ok (.if_icmp .eq 14, 3) := by decide +kernel
theorem dX12_under_10 : decode cX12_under 10 = .ok (.aload_n 0, 1) := by decide +kernel
theorem dX12_under_11 : decode cX12_under 11 = .ok (.iload_n 1, 1) := by decide +kernel
theorem dX12_under_12 : decode cX12_under 12 = .ok (.invokevirtual 414, 3) := by decide +kernel
theorem dX12_under_15 : decode cX12_under 15 = .ok (.ifCond .ne 6, 3) := by decide +kernel
theorem dX12_under_18 : decode cX12_under 18 = .ok (.bipush (-2), 2) := by decide +kernel
theorem dX12_under_20 : decode cX12_under 20 = .ok (.ireturn, 1) := by decide +kernel
theorem dX12_under_21 : decode cX12_under 21 = .ok (.aload_n 0, 1) := by decide +kernel
theorem dX12_under_22 : decode cX12_under 22 = .ok (.iconst (-1), 1) := by decide +kernel
theorem dX12_under_23 : decode cX12_under 23 = .ok (.invokevirtual 488, 3) := by decide +kernel
theorem dX12_under_26 : decode cX12_under 26 = .ok (.iload_n 1, 1) := by decide +kernel
theorem dX12_under_27 : decode cX12_under 27 = .ok (.iconst (-1), 1) := by decide +kernel
theorem dX12_under_28 : decode cX12_under 28 = .ok (.if_icmp .ne 8, 3) := by decide +kernel
theorem dX12_under_31 : decode cX12_under 31 = .ok (.aload_n 0, 1) := by decide +kernel
theorem dX12_under_32 : decode cX12_under 32 = .ok (.getfield 479, 3) := by decide +kernel
theorem dX12_under_35 : decode cX12_under 35 = .ok (.ireturn, 1) := by decide +kernel
theorem dX12_under_36 : decode cX12_under 36 = .ok (.aload_n 0, 1) := by decide +kernel
theorem dX12_under_37 : decode cX12_under 37 = .ok (.getfield 479, 3) := by decide +kernel
theorem dX12_under_40 : decode cX12_under 40 = .ok (.ifCond .eq 14, 3) := by decide +kernel
theorem dX12_under_43 : decode cX12_under 43 = .ok (.aload_n 0, 1) := by decide +kernel
theorem dX12_under_44 : decode cX12_under 44 = .ok (.getfield 153, 3) := by decide +kernel
theorem dX12_under_47 : decode cX12_under 47 = .ok (.iload_n 1, 1) := by decide +kernel
theorem dX12_under_48 : decode cX12_under 48 = .ok (.iaload, 1) := by decide +kernel
theorem dX12_under_49 : decode cX12_under 49 = .ok (.bipush 6, 2) := by decide +kernel
theorem dX12_under_51 : decode cX12_under 51 = .ok (.if_icmp .ne 7, 3) := by decide +kernel
theorem dX12_under_54 : decode cX12_under 54 = .ok (.iconst (-1), 1) := by decide +kernel
theorem dX12_under_55 : decode cX12_under 55 = .ok (.goto 9, 3) := by decide +kernel
theorem dX12_under_58 : decode cX12_under 58 = .ok (.aload_n 0, 1) := by decide +kernel
theorem dX12_under_59 : decode cX12_under 59 = .ok (.getfield 153, 3) := by decide +kernel
theorem dX12_under_62 : decode cX12_under 62 = .ok (.iload_n 1, 1) := by decide +kernel
theorem dX12_under_63 : decode cX12_under 63 = .ok (.iaload, 1) := by decide +kernel
theorem dX12_under_64 : decode cX12_under 64 = .ok (.ireturn, 1) := by decide +kernel
theorem dX12_ask_0 : decode cX12_ask 0 = .ok (.aload_n 0, 1) := by decide +kernel
theorem dX12_ask_1 : decode cX12_ask 1 = .ok (.iconst 0, 1) := by decide +kernel
theorem dX12_ask_2 : decode cX12_ask 2 = .ok (.putfield 171, 3) := by decide +kernel
theorem dX12_ask_5 : decode cX12_ask 5 = .ok (.iconst (-1), 1) := by decide +kernel
theorem dX12_ask_6 : decode cX12_ask 6 = .ok (.istore_n 1, 1) := by decide +kernel
theorem dX12_ask_7 : decode cX12_ask 7 = .ok (.iconst 0, 1) := by decide +kernel
theorem dX12_ask_8 : decode cX12_ask 8 = .ok (.istore_n 2, 1) := by decide +kernel
theorem dX12_ask_9 : decode cX12_ask 9 = .ok (.iconst 0, 1) := by decide +kernel
theorem dX12_ask_10 : decode cX12_ask 10 = .ok (.istore_n 3, 1) := by decide +kernel
theorem dX12_ask_11 : decode cX12_ask 11 = .ok (.iload_n 3, 1) := by decide +kernel
theorem dX12_ask_12 : decode cX12_ask 12 = .ok (.aload_n 0, 1) := by decide +kernel
theorem dX12_ask_13 : decode cX12_ask 13 = .ok (.getfield 13, 3) := by decide +kernel
theorem dX12_ask_16 : decode cX12_ask 16 = .ok (.iconst 0, 1) := by decide +kernel
theorem dX12_ask_17 : decode cX12_ask 17 = .ok (.iaload, 1) := by decide +kernel
theorem dX12_ask_18 : decode cX12_ask 18 = .ok (.if_icmp .ge 99, 3) := by decide +kernel
theorem dX12_ask_21 : decode cX12_ask 21 = .ok (.aload_n 0, 1) := by decide +kernel
theorem dX12_ask_22 : decode cX12_ask 22 = .ok (.getfield 117, 3) := by decide +kernel
theorem dX12_ask_25 : decode cX12_ask 25 = .ok (.iload_n 3, 1) := by decide +kernel
theorem dX12_ask_26 : decode cX12_ask 26 = .ok (.iaload, 1) := by decide +kernel
theorem dX12_ask_27 : decode cX12_ask 27 = .ok (.ifCond .lt 6, 3) := by decide +kernel
theorem dX12_ask_30 : decode cX12_ask 30 = .ok (.goto 81, 3) := by decide +kernel
theorem dX12_ask_33 : decode cX12_ask 33 = .ok (.aload_n 0, 1) := by decide +kernel
theorem dX12_ask_34 : decode cX12_ask 34 = .ok (.iload_n 3, 1) := by decide +kernel
theorem dX12_ask_35 : decode cX12_ask 35 = .ok (.invokevirtual 488, 3) := by decide +kernel
theorem dX12_ask_38 : decode cX12_ask 38 = .ok (.iconst 0, 1) := by decide +kernel
theorem dX12_ask_39 : decode cX12_ask 39 = .ok (.istore 4, 2) := by decide +kernel
theorem dX12_ask_41 : decode cX12_ask 41 = .ok (.iconst 0, 1) := by decide +kernel
theorem dX12_ask_42 : decode cX12_ask 42 = .ok (.istore 5, 2) := by decide +kernel
theorem dX12_ask_44 : decode cX12_ask 44 = .ok (.iconst 0, 1) := by decide +kernel
theorem dX12_ask_45 : decode cX12_ask 45 = .ok (.istore 6, 2) := by decide +kernel
theorem dX12_ask_47 : decode cX12_ask 47 = .ok (.iload 6, 2) := by decide +kernel
theorem dX12_ask_49 : decode cX12_ask 49 = .ok (.bipush 10, 2) := by decide +kernel
theorem dX12_ask_51 : decode cX12_ask 51 = .ok (.if_icmp .ge 35, 3) := by decide +kernel
theorem dX12_ask_54 : decode cX12_ask 54 = .ok (.iload 4, 2) := by decide +kernel
theorem dX12_ask_56 : decode cX12_ask 56 = .ok (.aload_n 0, 1) := by decide +kernel
theorem dX12_ask_57 : decode cX12_ask 57 = .ok (.getfield 156, 3) := by decide +kernel
theorem dX12_ask_60 : decode cX12_ask 60 = .ok (.iload 6, 2) := by decide +kernel
theorem dX12_ask_62 : decode cX12_ask 62 = .ok (.iaload, 1) := by decide +kernel
theorem dX12_ask_63 : decode cX12_ask 63 = .ok (.iadd, 1) := by decide +kernel
theorem dX12_ask_64 : decode cX12_ask 64 = .ok (.istore 4, 2) := by decide +kernel
theorem dX12_ask_66 : decode cX12_ask 66 = .ok (.iload 5, 2) := by decide +kernel
theorem dX12_ask_68 : decode cX12_ask 68 = .ok (.aload_n 0, 1) := by decide +kernel
theorem dX12_ask_69 : decode cX12_ask 69 = .ok (.getfield 156, 3) := by decide +kernel
theorem dX12_ask_72 : decode cX12_ask 72 = .ok (.iload 6, 2) := by decide +kernel
theorem dX12_ask_74 : decode cX12_ask 74 = .ok (.iaload, 1) := by decide +kernel
theorem dX12_ask_75 : decode cX12_ask 75 = .ok (.invokestatic 467, 3) := by decide +kernel
theorem dX12_ask_78 : decode cX12_ask 78 = .ok (.istore 5, 2) := by decide +kernel
theorem dX12_ask_80 : decode cX12_ask 80 = .ok (.iinc 6 1, 3) := by decide +kernel
theorem dX12_ask_83 : decode cX12_ask 83 = .ok (.goto (-36), 3) := by decide +kernel
theorem dX12_ask_86 : decode cX12_ask 86 = .ok (.iload 5, 2) := by decide +kernel
theorem dX12_ask_88 : decode cX12_ask 88 = .ok (.iload 4, 2) := by decide +kernel
theorem dX12_ask_90 : decode cX12_ask 90 = .ok (.if_icmp .eq 21, 3) := by decide +kernel
theorem dX12_ask_93 : decode cX12_ask 93 = .ok (.iload_n 1, 1) := by decide +kernel
theorem dX12_ask_94 : decode cX12_ask 94 = .ok (.ifCond .lt 12, 3) := by decide +kernel
theorem dX12_ask_97 : decode cX12_ask 97 = .ok (.iload 5, 2) := by decide +kernel
theorem dX12_ask_99 : decode cX12_ask 99 = .ok (.iload_n 2, 1) := by decide +kernel
theorem dX12_ask_100 : decode cX12_ask 100 = .ok (.if_icmp .lt 6, 3) := by decide +kernel
theorem dX12_ask_103 : decode cX12_ask 103 = .ok (.goto 8, 3) := by decide +kernel
theorem dX12_ask_106 : decode cX12_ask 106 = .ok (.iload_n 3, 1) := by decide +kernel
theorem dX12_ask_107 : decode cX12_ask 107 = .ok (.istore_n 1, 1) := by decide +kernel
theorem dX12_ask_108 : decode cX12_ask 108 = .ok (.iload 5, 2) := by decide +kernel
theorem dX12_ask_110 : decode cX12_ask 110 = .ok (.istore_n 2, 1) := by decide +kernel
theorem dX12_ask_111 : decode cX12_ask 111 = .ok (.iinc 3 1, 3) := by decide +kernel
theorem dX12_ask_114 : decode cX12_ask 114 = .ok (.goto (-103), 3) := by decide +kernel
theorem dX12_ask_117 : decode cX12_ask 117 = .ok (.iload_n 1, 1) := by decide +kernel
theorem dX12_ask_118 : decode cX12_ask 118 = .ok (.ireturn, 1) := by decide +kernel
theorem dX12_wishes_0 : decode cX12_wishes 0 = .ok (.iconst (-1), 1) := by decide +kernel
theorem dX12_wishes_1 : decode cX12_wishes 1 = .ok (.istore_n 2, 1) := by decide +kernel
theorem dX12_wishes_2 : decode cX12_wishes 2 = .ok (.iconst 0, 1) := by decide +kernel
theorem dX12_wishes_3 : decode cX12_wishes 3 = .ok (.istore_n 3, 1) := by decide +kernel
theorem dX12_wishes_4 : decode cX12_wishes 4 = .ok (.iload_n 3, 1) := by decide +kernel
theorem dX12_wishes_5 : decode cX12_wishes 5 = .ok (.aload_n 0, 1) := by decide +kernel
theorem dX12_wishes_6 : decode cX12_wishes 6 = .ok (.getfield 13, 3) := by decide +kernel
theorem dX12_wishes_9 : decode cX12_wishes 9 = .ok (.iconst 0, 1) := by decide +kernel
theorem dX12_wishes_10 : decode cX12_wishes 10 = .ok (.iaload, 1) := by decide +kernel
theorem dX12_wishes_11 : decode cX12_wishes 11 = .ok (.if_icmp .ge 72, 3) := by decide +kernel
theorem dX12_wishes_14 : decode cX12_wishes 14 = .ok (.aload_n 0, 1) := by decide +kernel
theorem dX12_wishes_15 : decode cX12_wishes 15 = .ok (.getfield 159, 3) := by decide +kernel
theorem dX12_wishes_18 : decode cX12_wishes 18 = .ok (.iload_n 1, 1) := by decide +kernel
theorem dX12_wishes_19 : decode cX12_wishes 19 = .ok (.iaload, 1) := by decide +kernel
theorem dX12_wishes_20 : decode cX12_wishes 20 = .ok (.iload_n 3, 1) := by decide +kernel
theorem dX12_wishes_21 : decode cX12_wishes 21 = .ok (.ishr, 1) := by decide +kernel
theorem dX12_wishes_22 : decode cX12_wishes 22 = .ok (.iconst 1, 1) := by decide +kernel
theorem dX12_wishes_23 : decode cX12_wishes 23 = .ok (.iand, 1) := by decide +kernel
theorem dX12_wishes_24 : decode cX12_wishes 24 = .ok (.ifCond .ne 53, 3) := by decide +kernel
theorem dX12_wishes_27 : decode cX12_wishes 27 = .ok (.aload_n 0, 1) := by decide +kernel
theorem dX12_wishes_28 : decode cX12_wishes 28 = .ok (.getfield 120, 3) := by decide +kernel
theorem dX12_wishes_31 : decode cX12_wishes 31 = .ok (.bipush 7, 2) := by decide +kernel
theorem dX12_wishes_33 : decode cX12_wishes 33 = .ok (.iload_n 3, 1) := by decide +kernel
theorem dX12_wishes_34 : decode cX12_wishes 34 = .ok (.iadd, 1) := by decide +kernel
theorem dX12_wishes_35 : decode cX12_wishes 35 = .ok (.iaload, 1) := by decide +kernel
theorem dX12_wishes_36 : decode cX12_wishes 36 = .ok (.bipush 9, 2) := by decide +kernel
theorem dX12_wishes_38 : decode cX12_wishes 38 = .ok (.if_icmp .ge 39, 3) := by decide +kernel
theorem dX12_wishes_41 : decode cX12_wishes 41 = .ok (.aload_n 0, 1) := by decide +kernel
theorem dX12_wishes_42 : decode cX12_wishes 42 = .ok (.iload_n 3, 1) := by decide +kernel
theorem dX12_wishes_43 : decode cX12_wishes 43 = .ok (.iload_n 1, 1) := by decide +kernel
theorem dX12_wishes_44 : decode cX12_wishes 44 = .ok (.aload_n 0, 1) := by decide +kernel
theorem dX12_wishes_45 : decode cX12_wishes 45 = .ok (.getfield 120, 3) := by decide +kernel
theorem dX12_wishes_48 : decode cX12_wishes 48 = .ok (.iconst 0, 1) := by decide +kernel
theorem dX12_wishes_49 : decode cX12_wishes 49 = .ok (.iaload, 1) := by decide +kernel
theorem dX12_wishes_50 : decode cX12_wishes 50 = .ok (.invokevirtual 406, 3) := by decide +kernel
theorem dX12_wishes_53 : decode cX12_wishes 53 = .ok (.ifCond .eq 24, 3) := by decide +kernel
theorem dX12_wishes_56 : decode cX12_wishes 56 = .ok (.iload_n 2, 1) := by decide +kernel
theorem dX12_wishes_57 : decode cX12_wishes 57 = .ok (.ifCond .lt 18, 3) := by decide +kernel
theorem dX12_wishes_60 : decode cX12_wishes 60 = .ok (.aload_n 0, 1) := by decide +kernel
theorem dX12_wishes_61 : decode cX12_wishes 61 = .ok (.getfield 26, 3) := by decide +kernel
theorem dX12_wishes_64 : decode cX12_wishes 64 = .ok (.iload_n 3, 1) := by decide +kernel
theorem dX12_wishes_65 : decode cX12_wishes 65 = .ok (.iaload, 1) := by decide +kernel
theorem dX12_wishes_66 : decode cX12_wishes 66 = .ok (.aload_n 0, 1) := by decide +kernel
theorem dX12_wishes_67 : decode cX12_wishes 67 = .ok (.getfield 26, 3) := by decide +kernel
theorem dX12_wishes_70 : decode cX12_wishes 70 = .ok (.iload_n 2, 1) := by decide +kernel
theorem dX12_wishes_71 : decode cX12_wishes 71 = .ok (.iaload, 1) := by decide +kernel
theorem dX12_wishes_72 : decode cX12_wishes 72 = .ok (.if_icmp .le 5, 3) := by decide +kernel
theorem dX12_wishes_75 : decode cX12_wishes 75 = .ok (.iload_n 3, 1) := by decide +kernel
theorem dX12_wishes_76 : decode cX12_wishes 76 = .ok (.istore_n 2, 1) := by decide +kernel
theorem dX12_wishes_77 : decode cX12_wishes 77 = .ok (.iinc 3 1, 3) := by decide +kernel
theorem dX12_wishes_80 : decode cX12_wishes 80 = .ok (.goto (-76), 3) := by decide +kernel
theorem dX12_wishes_83 : decode cX12_wishes 83 = .ok (.iload_n 2, 1) := by decide +kernel
theorem dX12_wishes_84 : decode cX12_wishes 84 = .ok (.ireturn, 1) := by decide +kernel
theorem dX12_isAhead_0 : decode cX12_isAhead 0 = .ok (.aload_n 0, 1) := by decide +kernel
theorem dX12_isAhead_1 : decode cX12_isAhead 1 = .ok (.iload_n 1, 1) := by decide +kernel
theorem dX12_isAhead_2 : decode cX12_isAhead 2 = .ok (.iload_n 2, 1) := by decide +kernel
theorem dX12_isAhead_3 : decode cX12_isAhead 3 = .ok (.aload_n 0, 1) := by decide +kernel
theorem dX12_isAhead_4 : decode cX12_isAhead 4 = .ok (.getfield 120, 3) := by decide +kernel
theorem dX12_isAhead_7 : decode cX12_isAhead 7 = .ok (.iconst 0, 1) := by decide +kernel
theorem dX12_isAhead_8 : decode cX12_isAhead 8 = .ok (.iaload, 1) := by decide +kernel
theorem dX12_isAhead_9 : decode cX12_isAhead 9 = .ok (.invokevirtual 400, 3) := by decide +kernel
theorem dX12_isAhead_12 : decode cX12_isAhead 12 = .ok (.istore 4, 2) := by decide +kernel
theorem dX12_isAhead_14 : decode cX12_isAhead 14 = .ok (.aload_n 0, 1) := by decide +kernel
theorem dX12_isAhead_15 : decode cX12_isAhead 15 = .ok (.iload_n 1, 1) := by decide +kernel
theorem dX12_isAhead_16 : decode cX12_isAhead 16 = .ok (.iload_n 3, 1) := by decide +kernel
theorem dX12_isAhead_17 : decode cX12_isAhead 17 = .ok (.aload_n 0, 1) := by decide +kernel
theorem dX12_isAhead_18 : decode cX12_isAhead 18 = .ok (.getfield 120, 3) := by decide +kernel
theorem dX12_isAhead_21 : decode cX12_isAhead 21 = .ok (.iconst 0, 1) := by decide +kernel
theorem dX12_isAhead_22 : decode cX12_isAhead 22 = .ok (.iaload, 1) := by decide +kernel
theorem dX12_isAhead_23 : decode cX12_isAhead 23 = .ok (.invokevirtual 400, 3) := by decide +kernel
theorem dX12_isAhead_26 : decode cX12_isAhead 26 = .ok (.istore 5, 2) := by decide +kernel
theorem dX12_isAhead_28 : decode cX12_isAhead 28 = .ok (.iload 4, 2) := by decide +kernel
theorem dX12_isAhead_30 : decode cX12_isAhead 30 = .ok (.iload 5, 2) := by decide +kernel
theorem dX12_isAhead_32 : decode cX12_isAhead 32 = .ok (.if_icmp .lt 15, 3) := by decide +kernel
theorem dX12_isAhead_35 : decode cX12_isAhead 35 = .ok (.iload 4, 2) := by decide +kernel
theorem dX12_isAhead_37 : decode cX12_isAhead 37 = .ok (.iload 5, 2) := by decide +kernel
theorem dX12_isAhead_39 : decode cX12_isAhead 39 = .ok (.if_icmp .ne 12, 3) := by decide +kernel
theorem dX12_isAhead_42 : decode cX12_isAhead 42 = .ok (.iload_n 2, 1) := by decide +kernel
theorem dX12_isAhead_43 : decode cX12_isAhead 43 = .ok (.iload_n 3, 1) := by decide +kernel
theorem dX12_isAhead_44 : decode cX12_isAhead 44 = .ok (.if_icmp .ge 7, 3) := by decide +kernel
theorem dX12_isAhead_47 : decode cX12_isAhead 47 = .ok (.iconst 1, 1) := by decide +kernel
theorem dX12_isAhead_48 : decode cX12_isAhead 48 = .ok (.goto 4, 3) := by decide +kernel
theorem dX12_isAhead_51 : decode cX12_isAhead 51 = .ok (.iconst 0, 1) := by decide +kernel
theorem dX12_isAhead_52 : decode cX12_isAhead 52 = .ok (.ireturn, 1) := by decide +kernel
theorem dX12_laysMatch_0 : decode cX12_laysMatch 0 = .ok (.iconst 0, 1) := by decide +kernel
theorem dX12_laysMatch_1 : decode cX12_laysMatch 1 = .ok (.istore_n 1, 1) := by decide +kernel
theorem dX12_laysMatch_2 : decode cX12_laysMatch 2 = .ok (.iload_n 1, 1) := by decide +kernel
theorem dX12_laysMatch_3 : decode cX12_laysMatch 3 = .ok (.bipush 6, 2) := by decide +kernel
theorem dX12_laysMatch_5 : decode cX12_laysMatch 5 = .ok (.if_icmp .ge 23, 3) := by decide +kernel
theorem dX12_laysMatch_8 : decode cX12_laysMatch 8 = .ok (.aload_n 0, 1) := by decide +kernel
theorem dX12_laysMatch_9 : decode cX12_laysMatch 9 = .ok (.getfield 159, 3) := by decide +kernel
theorem dX12_laysMatch_12 : decode cX12_laysMatch 12 = .ok (.iload_n 1, 1) := by decide +kernel
theorem dX12_laysMatch_13 : decode cX12_laysMatch 13 = .ok (.iconst 0, 1) := by decide +kernel
theorem dX12_laysMatch_14 : decode cX12_laysMatch 14 = .ok (.iastore, 1) := by decide +kernel
theorem dX12_laysMatch_15 : decode cX12_laysMatch 15 = .ok (.aload_n 0, 1) := by decide +kernel
theorem dX12_laysMatch_16 : decode cX12_laysMatch 16 = .ok (.getfield 162, 3) := by decide +kernel
theorem dX12_laysMatch_19 : decode cX12_laysMatch 19 = .ok (.iload_n 1, 1) := by decide +kernel
theorem dX12_laysMatch_20 : decode cX12_laysMatch 20 = .ok (.iconst (-1), 1) := by decide +kernel
theorem dX12_laysMatch_21 : decode cX12_laysMatch 21 = .ok (.iastore, 1) := by decide +kernel
theorem dX12_laysMatch_22 : decode cX12_laysMatch 22 = .ok (.iinc 1 1, 3) := by decide +kernel
theorem dX12_laysMatch_25 : decode cX12_laysMatch 25 = .ok (.goto (-23), 3) := by decide +kernel
theorem dX12_laysMatch_28 : decode cX12_laysMatch 28 = .ok (.iconst 0, 1) := by decide +kernel
theorem dX12_laysMatch_29 : decode cX12_laysMatch 29 = .ok (.istore_n 1, 1) := by decide +kernel
theorem dX12_laysMatch_30 : decode cX12_laysMatch 30 = .ok (.iload_n 1, 1) := by decide +kernel
theorem dX12_laysMatch_31 : decode cX12_laysMatch 31 = .ok (.aload_n 0, 1) := by decide +kernel
theorem dX12_laysMatch_32 : decode cX12_laysMatch 32 = .ok (.getfield 13, 3) := by decide +kernel
theorem dX12_laysMatch_35 : decode cX12_laysMatch 35 = .ok (.iconst 1, 1) := by decide +kernel
theorem dX12_laysMatch_36 : decode cX12_laysMatch 36 = .ok (.iaload, 1) := by decide +kernel
theorem dX12_laysMatch_37 : decode cX12_laysMatch 37 = .ok (.if_icmp .ge 88, 3) := by decide +kernel
theorem dX12_laysMatch_40 : decode cX12_laysMatch 40 = .ok (.iload_n 1, 1) := by decide +kernel
theorem dX12_laysMatch_41 : decode cX12_laysMatch 41 = .ok (.istore_n 2, 1) := by decide +kernel
theorem dX12_laysMatch_42 : decode cX12_laysMatch 42 = .ok (.aload_n 0, 1) := by decide +kernel
theorem dX12_laysMatch_43 : decode cX12_laysMatch 43 = .ok (.iload_n 2, 1) := by decide +kernel
theorem dX12_laysMatch_44 : decode cX12_laysMatch 44 = .ok (.invokevirtual 491, 3) := by decide +kernel
theorem dX12_laysMatch_47 : decode cX12_laysMatch 47 = .ok (.istore_n 3, 1) := by decide +kernel
theorem dX12_laysMatch_48 : decode cX12_laysMatch 48 = .ok (.iload_n 2, 1) := by decide +kernel
theorem dX12_laysMatch_49 : decode cX12_laysMatch 49 = .ok (.ifCond .lt 70, 3) := by decide +kernel
theorem dX12_laysMatch_52 : decode cX12_laysMatch 52 = .ok (.iload_n 3, 1) := by decide +kernel
theorem dX12_laysMatch_53 : decode cX12_laysMatch 53 = .ok (.ifCond .lt 66, 3) := by decide +kernel
theorem dX12_laysMatch_56 : decode cX12_laysMatch 56 = .ok (.aload_n 0, 1) := by decide +kernel
theorem dX12_laysMatch_57 : decode cX12_laysMatch 57 = .ok (.getfield 159, 3) := by decide +kernel
theorem dX12_laysMatch_60 : decode cX12_laysMatch 60 = .ok (.iload_n 2, 1) := by decide +kernel
theorem dX12_laysMatch_61 : decode cX12_laysMatch 61 = .ok (.dup2, 1) := by decide +kernel
theorem dX12_laysMatch_62 : decode cX12_laysMatch 62 = .ok (.iaload, 1) := by decide +kernel
theorem dX12_laysMatch_63 : decode cX12_laysMatch 63 = .ok (.iconst 1, 1) := by decide +kernel
theorem dX12_laysMatch_64 : decode cX12_laysMatch 64 = .ok (.iload_n 3, 1) := by decide +kernel
theorem dX12_laysMatch_65 : decode cX12_laysMatch 65 = .ok (.ishl, 1) := by decide +kernel
theorem dX12_laysMatch_66 : decode cX12_laysMatch 66 = .ok (.ior, 1) := by decide +kernel
theorem dX12_laysMatch_67 : decode cX12_laysMatch 67 = .ok (.iastore, 1) := by decide +kernel
theorem dX12_laysMatch_68 : decode cX12_laysMatch 68 = .ok (.aload_n 0, 1) := by decide +kernel
theorem dX12_laysMatch_69 : decode cX12_laysMatch 69 = .ok (.getfield 162, 3) := by decide +kernel
theorem dX12_laysMatch_72 : decode cX12_laysMatch 72 = .ok (.iload_n 3, 1) := by decide +kernel
theorem dX12_laysMatch_73 : decode cX12_laysMatch 73 = .ok (.iaload, 1) := by decide +kernel
theorem dX12_laysMatch_74 : decode cX12_laysMatch 74 = .ok (.istore 4, 2) := by decide +kernel
theorem dX12_laysMatch_76 : decode cX12_laysMatch 76 = .ok (.iload 4, 2) := by decide +kernel
theorem dX12_laysMatch_78 : decode cX12_laysMatch 78 = .ok (.ifCond .lt 14, 3) := by decide +kernel
theorem dX12_laysMatch_81 : decode cX12_laysMatch 81 = .ok (.aload_n 0, 1) := by decide +kernel
theorem dX12_laysMatch_82 : decode cX12_laysMatch 82 = .ok (.iload_n 3, 1) := by decide +kernel
theorem dX12_laysMatch_83 : decode cX12_laysMatch 83 = .ok (.iload_n 2, 1) := by decide +kernel
theorem dX12_laysMatch_84 : decode cX12_laysMatch 84 = .ok (.iload 4, 2) := by decide +kernel
theorem dX12_laysMatch_86 : decode cX12_laysMatch 86 = .ok (.invokevirtual 494, 3) := by decide +kernel
theorem dX12_laysMatch_89 : decode cX12_laysMatch 89 = .ok (.ifCond .eq 13, 3) := by decide +kernel
theorem dX12_laysMatch_92 : decode cX12_laysMatch 92 = .ok (.aload_n 0, 1) := by decide +kernel
theorem dX12_laysMatch_93 : decode cX12_laysMatch 93 = .ok (.getfield 162, 3) := by decide +kernel
theorem dX12_laysMatch_96 : decode cX12_laysMatch 96 = .ok (.iload_n 3, 1) := by decide +kernel
theorem dX12_laysMatch_97 : decode cX12_laysMatch 97 = .ok (.iload_n 2, 1) := by decide +kernel
theorem dX12_laysMatch_98 : decode cX12_laysMatch 98 = .ok (.iastore, 1) := by decide +kernel
theorem dX12_laysMatch_99 : decode cX12_laysMatch 99 = .ok (.iload 4, 2) := by decide +kernel
theorem dX12_laysMatch_101 : decode cX12_laysMatch 101 = .ok (.istore_n 2, 1) := by decide +kernel
theorem dX12_laysMatch_102 : decode cX12_laysMatch 102 = .ok (.iload_n 2, 1) := by decide +kernel
theorem dX12_laysMatch_103 : decode cX12_laysMatch 103 = .ok (.ifCond .ge 7, 3) := by decide +kernel
theorem dX12_laysMatch_106 : decode cX12_laysMatch 106 = .ok (.iconst (-1), 1) := by decide +kernel
theorem dX12_laysMatch_107 : decode cX12_laysMatch 107 = .ok (.goto 8, 3) := by decide +kernel
theorem dX12_laysMatch_110 : decode cX12_laysMatch 110 = .ok (.aload_n 0, 1) := by decide +kernel
theorem dX12_laysMatch_111 : decode cX12_laysMatch 111 = .ok (.iload_n 2, 1) := by decide +kernel
theorem dX12_laysMatch_112 : decode cX12_laysMatch 112 = .ok (.invokevirtual 491, 3) := by decide +kernel
theorem dX12_laysMatch_115 : decode cX12_laysMatch 115 = .ok (.istore_n 3, 1) := by decide +kernel
theorem dX12_laysMatch_116 : decode cX12_laysMatch 116 = .ok (.goto (-68), 3) := by decide +kernel
theorem dX12_laysMatch_119 : decode cX12_laysMatch 119 = .ok (.iinc 1 1, 3) := by decide +kernel
theorem dX12_laysMatch_122 : decode cX12_laysMatch 122 = .ok (.goto (-92), 3) := by decide +kernel
theorem dX12_laysMatch_125 : decode cX12_laysMatch 125 = .ok (.return_, 1) := by decide +kernel
theorem dX12_match_0 : decode cX12_match 0 = .ok (.aload_n 0, 1) := by decide +kernel
theorem dX12_match_1 : decode cX12_match 1 = .ok (.iconst 0, 1) := by decide +kernel
theorem dX12_match_2 : decode cX12_match 2 = .ok (.putfield 171, 3) := by decide +kernel
theorem dX12_match_5 : decode cX12_match 5 = .ok (.aload_n 0, 1) := by decide +kernel
theorem dX12_match_6 : decode cX12_match 6 = .ok (.iload_n 1, 1) := by decide +kernel
theorem dX12_match_7 : decode cX12_match 7 = .ok (.invokevirtual 417, 3) := by decide +kernel
theorem dX12_match_10 : decode cX12_match 10 = .ok (.ifCond .ne 6, 3) := by decide +kernel
theorem dX12_match_13 : decode cX12_match 13 = .ok (.bipush (-2), 2) := by decide +kernel
theorem dX12_match_15 : decode cX12_match 15 = .ok (.ireturn, 1) := by decide +kernel
theorem dX12_match_16 : decode cX12_match 16 = .ok (.aload_n 0, 1) := by decide +kernel
theorem dX12_match_17 : decode cX12_match 17 = .ok (.invokevirtual 497, 3) := by decide +kernel
theorem dX12_match_20 : decode cX12_match 20 = .ok (.iconst 0, 1) := by decide +kernel
theorem dX12_match_21 : decode cX12_match 21 = .ok (.istore_n 2, 1) := by decide +kernel
theorem dX12_match_22 : decode cX12_match 22 = .ok (.iload_n 2, 1) := by decide +kernel
theorem dX12_match_23 : decode cX12_match 23 = .ok (.aload_n 0, 1) := by decide +kernel
theorem dX12_match_24 : decode cX12_match 24 = .ok (.getfield 13, 3) := by decide +kernel
theorem dX12_match_27 : decode cX12_match 27 = .ok (.iconst 0, 1) := by decide +kernel
theorem dX12_match_28 : decode cX12_match 28 = .ok (.iaload, 1) := by decide +kernel
theorem dX12_match_29 : decode cX12_match 29 = .ok (.if_icmp .ge 21, 3) := by decide +kernel
theorem dX12_match_32 : decode cX12_match 32 = .ok (.aload_n 0, 1) := by decide +kernel
theorem dX12_match_33 : decode cX12_match 33 = .ok (.getfield 162, 3) := by decide +kernel
theorem dX12_match_36 : decode cX12_match 36 = .ok (.iload_n 2, 1) := by decide +kernel
theorem dX12_match_37 : decode cX12_match 37 = .ok (.iaload, 1) := by decide +kernel
theorem dX12_match_38 : decode cX12_match 38 = .ok (.iload_n 1, 1) := by decide +kernel
theorem dX12_match_39 : decode cX12_match 39 = .ok (.if_icmp .ne 5, 3) := by decide +kernel
theorem dX12_match_42 : decode cX12_match 42 = .ok (.iload_n 2, 1) := by decide +kernel
theorem dX12_match_43 : decode cX12_match 43 = .ok (.ireturn, 1) := by decide +kernel
theorem dX12_match_44 : decode cX12_match 44 = .ok (.iinc 2 1, 3) := by decide +kernel
theorem dX12_match_47 : decode cX12_match 47 = .ok (.goto (-25), 3) := by decide +kernel
theorem dX12_match_50 : decode cX12_match 50 = .ok (.iconst (-1), 1) := by decide +kernel
theorem dX12_match_51 : decode cX12_match 51 = .ok (.ireturn, 1) := by decide +kernel
theorem dX12_getsBy_0 : decode cX12_getsBy 0 = .ok (.iload_n 2, 1) := by decide +kernel
theorem dX12_getsBy_1 : decode cX12_getsBy 1 = .ok (.iload_n 3, 1) := by decide +kernel
theorem dX12_getsBy_2 : decode cX12_getsBy 2 = .ok (.if_icmp .le 7, 3) := by decide +kernel
theorem dX12_getsBy_5 : decode cX12_getsBy 5 = .ok (.iload_n 0, 1) := by decide +kernel
theorem dX12_getsBy_6 : decode cX12_getsBy 6 = .ok (.goto 4, 3) := by decide +kernel
theorem dX12_getsBy_9 : decode cX12_getsBy 9 = .ok (.iconst 0, 1) := by decide +kernel
theorem dX12_getsBy_10 : decode cX12_getsBy 10 = .ok (.iload_n 1, 1) := by decide +kernel
theorem dX12_getsBy_11 : decode cX12_getsBy 11 = .ok (.iload_n 2, 1) := by decide +kernel
theorem dX12_getsBy_12 : decode cX12_getsBy 12 = .ok (.imul, 1) := by decide +kernel
theorem dX12_getsBy_13 : decode cX12_getsBy 13 = .ok (.isub, 1) := by decide +kernel
theorem dX12_getsBy_14 : decode cX12_getsBy 14 = .ok (.ireturn, 1) := by decide +kernel
theorem dX12_isRest_0 : decode cX12_isRest 0 = .ok (.iconst 0, 1) := by decide +kernel
theorem dX12_isRest_1 : decode cX12_isRest 1 = .ok (.istore 4, 2) := by decide +kernel
theorem dX12_isRest_3 : decode cX12_isRest 3 = .ok (.iload 4, 2) := by decide +kernel
theorem dX12_isRest_5 : decode cX12_isRest 5 = .ok (.bipush 6, 2) := by decide +kernel
theorem dX12_isRest_7 : decode cX12_isRest 7 = .ok (.if_icmp .ge 47, 3) := by decide +kernel
theorem dX12_isRest_10 : decode cX12_isRest 10 = .ok (.iload_n 0, 1) := by decide +kernel
theorem dX12_isRest_11 : decode cX12_isRest 11 = .ok (.iload_n 1, 1) := by decide +kernel
theorem dX12_isRest_12 : decode cX12_isRest 12 = .ok (.iload 4, 2) := by decide +kernel
theorem dX12_isRest_14 : decode cX12_isRest 14 = .ok (.iload_n 3, 1) := by decide +kernel
theorem dX12_isRest_15 : decode cX12_isRest 15 = .ok (.invokestatic 500, 3) := by decide +kernel
theorem dX12_isRest_18 : decode cX12_isRest 18 = .ok (.iload_n 0, 1) := by decide +kernel
theorem dX12_isRest_19 : decode cX12_isRest 19 = .ok (.iload_n 1, 1) := by decide +kernel
theorem dX12_isRest_20 : decode cX12_isRest 20 = .ok (.iload_n 2, 1) := by decide +kernel
theorem dX12_isRest_21 : decode cX12_isRest 21 = .ok (.iload_n 3, 1) := by decide +kernel
theorem dX12_isRest_22 : decode cX12_isRest 22 = .ok (.invokestatic 500, 3) := by decide +kernel
theorem dX12_isRest_25 : decode cX12_isRest 25 = .ok (.if_icmp .gt 21, 3) := by decide +kernel
theorem dX12_isRest_28 : decode cX12_isRest 28 = .ok (.iload_n 0, 1) := by decide +kernel
theorem dX12_isRest_29 : decode cX12_isRest 29 = .ok (.iload_n 1, 1) := by decide +kernel
theorem dX12_isRest_30 : decode cX12_isRest 30 = .ok (.iload 4, 2) := by decide +kernel
theorem dX12_isRest_32 : decode cX12_isRest 32 = .ok (.iload_n 2, 1) := by decide +kernel
theorem dX12_isRest_33 : decode cX12_isRest 33 = .ok (.invokestatic 500, 3) := by decide +kernel
theorem dX12_isRest_36 : decode cX12_isRest 36 = .ok (.iload_n 0, 1) := by decide +kernel
theorem dX12_isRest_37 : decode cX12_isRest 37 = .ok (.iload_n 1, 1) := by decide +kernel
theorem dX12_isRest_38 : decode cX12_isRest 38 = .ok (.iload_n 3, 1) := by decide +kernel
theorem dX12_isRest_39 : decode cX12_isRest 39 = .ok (.iload_n 2, 1) := by decide +kernel
theorem dX12_isRest_40 : decode cX12_isRest 40 = .ok (.invokestatic 500, 3) := by decide +kernel
theorem dX12_isRest_43 : decode cX12_isRest 43 = .ok (.if_icmp .le 5, 3) := by decide +kernel
theorem dX12_isRest_46 : decode cX12_isRest 46 = .ok (.iconst 0, 1) := by decide +kernel
theorem dX12_isRest_47 : decode cX12_isRest 47 = .ok (.ireturn, 1) := by decide +kernel
theorem dX12_isRest_48 : decode cX12_isRest 48 = .ok (.iinc 4 1, 3) := by decide +kernel
theorem dX12_isRest_51 : decode cX12_isRest 51 = .ok (.goto (-48), 3) := by decide +kernel
theorem dX12_isRest_54 : decode cX12_isRest 54 = .ok (.iconst 1, 1) := by decide +kernel
theorem dX12_isRest_55 : decode cX12_isRest 55 = .ok (.ireturn, 1) := by decide +kernel
theorem dX12_rests_0 : decode cX12_rests 0 = .ok (.aload_n 0, 1) := by decide +kernel
theorem dX12_rests_1 : decode cX12_rests 1 = .ok (.iload_n 1, 1) := by decide +kernel
theorem dX12_rests_2 : decode cX12_rests 2 = .ok (.iconst 0, 1) := by decide +kernel
theorem dX12_rests_3 : decode cX12_rests 3 = .ok (.bipush 9, 2) := by decide +kernel
theorem dX12_rests_5 : decode cX12_rests 5 = .ok (.invokestatic 301, 3) := by decide +kernel
theorem dX12_rests_8 : decode cX12_rests 8 = .ok (.ifCond .eq 22, 3) := by decide +kernel
theorem dX12_rests_11 : decode cX12_rests 11 = .ok (.iload_n 2, 1) := by decide +kernel
theorem dX12_rests_12 : decode cX12_rests 12 = .ok (.iconst 0, 1) := by decide +kernel
theorem dX12_rests_13 : decode cX12_rests 13 = .ok (.bipush 9, 2) := by decide +kernel
theorem dX12_rests_15 : decode cX12_rests 15 = .ok (.invokestatic 301, 3) := by decide +kernel
theorem dX12_rests_18 : decode cX12_rests 18 = .ok (.ifCond .eq 12, 3) := by decide +kernel
theorem dX12_rests_21 : decode cX12_rests 21 = .ok (.iload_n 3, 1) := by decide +kernel
theorem dX12_rests_22 : decode cX12_rests 22 = .ok (.iconst (-1), 1) := by decide +kernel
theorem dX12_rests_23 : decode cX12_rests 23 = .ok (.if_icmp .lt 7, 3) := by decide +kernel
theorem dX12_rests_26 : decode cX12_rests 26 = .ok (.iconst 0, 1) := by decide +kernel
theorem dX12_rests_27 : decode cX12_rests 27 = .ok (.goto 4, 3) := by decide +kernel
theorem dX12_rests_30 : decode cX12_rests 30 = .ok (.iconst 1, 1) := by decide +kernel
theorem dX12_rests_31 : decode cX12_rests 31 = .ok (.putfield 171, 3) := by decide +kernel
theorem dX12_rests_34 : decode cX12_rests 34 = .ok (.aload_n 0, 1) := by decide +kernel
theorem dX12_rests_35 : decode cX12_rests 35 = .ok (.getfield 171, 3) := by decide +kernel
theorem dX12_rests_38 : decode cX12_rests 38 = .ok (.iconst 1, 1) := by decide +kernel
theorem dX12_rests_39 : decode cX12_rests 39 = .ok (.if_icmp .ne 5, 3) := by decide +kernel
theorem dX12_rests_42 : decode cX12_rests 42 = .ok (.iconst 0, 1) := by decide +kernel
theorem dX12_rests_43 : decode cX12_rests 43 = .ok (.ireturn, 1) := by decide +kernel
theorem dX12_rests_44 : decode cX12_rests 44 = .ok (.iconst 0, 1) := by decide +kernel
theorem dX12_rests_45 : decode cX12_rests 45 = .ok (.istore 4, 2) := by decide +kernel
theorem dX12_rests_47 : decode cX12_rests 47 = .ok (.iconst 0, 1) := by decide +kernel
theorem dX12_rests_48 : decode cX12_rests 48 = .ok (.istore 5, 2) := by decide +kernel
theorem dX12_rests_50 : decode cX12_rests 50 = .ok (.iload 5, 2) := by decide +kernel
theorem dX12_rests_52 : decode cX12_rests 52 = .ok (.bipush 36, 2) := by decide +kernel
theorem dX12_rests_54 : decode cX12_rests 54 = .ok (.if_icmp .ge 54, 3) := by decide +kernel
theorem dX12_rests_57 : decode cX12_rests 57 = .ok (.iload_n 1, 1) := by decide +kernel
theorem dX12_rests_58 : decode cX12_rests 58 = .ok (.iload_n 2, 1) := by decide +kernel
theorem dX12_rests_59 : decode cX12_rests 59 = .ok (.iload 5, 2) := by decide +kernel
theorem dX12_rests_61 : decode cX12_rests 61 = .ok (.bipush 6, 2) := by decide +kernel
theorem dX12_rests_63 : decode cX12_rests 63 = .ok (.idiv, 1) := by decide +kernel
theorem dX12_rests_64 : decode cX12_rests 64 = .ok (.iload 5, 2) := by decide +kernel
theorem dX12_rests_66 : decode cX12_rests 66 = .ok (.bipush 6, 2) := by decide +kernel
theorem dX12_rests_68 : decode cX12_rests 68 = .ok (.irem, 1) := by decide +kernel
theorem dX12_rests_69 : decode cX12_rests 69 = .ok (.invokestatic 504, 3) := by decide +kernel
theorem dX12_rests_72 : decode cX12_rests 72 = .ok (.ifCond .ne 6, 3) := by decide +kernel
theorem dX12_rests_75 : decode cX12_rests 75 = .ok (.goto 27, 3) := by decide +kernel
theorem dX12_rests_78 : decode cX12_rests 78 = .ok (.iload 4, 2) := by decide +kernel
theorem dX12_rests_80 : decode cX12_rests 80 = .ok (.iload_n 3, 1) := by decide +kernel
theorem dX12_rests_81 : decode cX12_rests 81 = .ok (.if_icmp .ne 18, 3) := by decide +kernel
theorem dX12_rests_84 : decode cX12_rests 84 = .ok (.bipush 10, 2) := by decide +kernel
theorem dX12_rests_86 : decode cX12_rests 86 = .ok (.iload 5, 2) := by decide +kernel
theorem dX12_rests_88 : decode cX12_rests 88 = .ok (.bipush 6, 2) := by decide +kernel
theorem dX12_rests_90 : decode cX12_rests 90 = .ok (.idiv, 1) := by decide +kernel
theorem dX12_rests_91 : decode cX12_rests 91 = .ok (.imul, 1) := by decide +kernel
theorem dX12_rests_92 : decode cX12_rests 92 = .ok (.iload 5, 2) := by decide +kernel
theorem dX12_rests_94 : decode cX12_rests 94 = .ok (.bipush 6, 2) := by decide +kernel
theorem dX12_rests_96 : decode cX12_rests 96 = .ok (.irem, 1) := by decide +kernel
theorem dX12_rests_97 : decode cX12_rests 97 = .ok (.iadd, 1) := by decide +kernel
theorem dX12_rests_98 : decode cX12_rests 98 = .ok (.ireturn, 1) := by decide +kernel
theorem dX12_rests_99 : decode cX12_rests 99 = .ok (.iinc 4 1, 3) := by decide +kernel
theorem dX12_rests_102 : decode cX12_rests 102 = .ok (.iinc 5 1, 3) := by decide +kernel
theorem dX12_rests_105 : decode cX12_rests 105 = .ok (.goto (-55), 3) := by decide +kernel
theorem dX12_rests_108 : decode cX12_rests 108 = .ok (.aload_n 0, 1) := by decide +kernel
theorem dX12_rests_109 : decode cX12_rests 109 = .ok (.iload_n 3, 1) := by decide +kernel
theorem dX12_rests_110 : decode cX12_rests 110 = .ok (.iconst (-1), 1) := by decide +kernel
theorem dX12_rests_111 : decode cX12_rests 111 = .ok (.if_icmp .ne 7, 3) := by decide +kernel
theorem dX12_rests_114 : decode cX12_rests 114 = .ok (.iconst 0, 1) := by decide +kernel
theorem dX12_rests_115 : decode cX12_rests 115 = .ok (.goto 4, 3) := by decide +kernel
theorem dX12_rests_118 : decode cX12_rests 118 = .ok (.iconst 1, 1) := by decide +kernel
theorem dX12_rests_119 : decode cX12_rests 119 = .ok (.putfield 171, 3) := by decide +kernel
theorem dX12_rests_122 : decode cX12_rests 122 = .ok (.iload_n 3, 1) := by decide +kernel
theorem dX12_rests_123 : decode cX12_rests 123 = .ok (.iconst (-1), 1) := by decide +kernel
theorem dX12_rests_124 : decode cX12_rests 124 = .ok (.if_icmp .ne 8, 3) := by decide +kernel
theorem dX12_rests_127 : decode cX12_rests 127 = .ok (.iload 4, 2) := by decide +kernel
theorem dX12_rests_129 : decode cX12_rests 129 = .ok (.goto 4, 3) := by decide +kernel
theorem dX12_rests_132 : decode cX12_rests 132 = .ok (.iconst 0, 1) := by decide +kernel
theorem dX12_rests_133 : decode cX12_rests 133 = .ok (.ireturn, 1) := by decide +kernel
theorem dX12_power0_0 : decode cX12_power0 0 = .ok (.lconst 1, 1) := by decide +kernel
theorem dX12_power0_1 : decode cX12_power0 1 = .ok (.lstore_n 2, 1) := by decide +kernel
theorem dX12_power0_2 : decode cX12_power0 2 = .ok (.iconst 0, 1) := by decide +kernel
theorem dX12_power0_3 : decode cX12_power0 3 = .ok (.istore 4, 2) := by decide +kernel
theorem dX12_power0_5 : decode cX12_power0 5 = .ok (.iload 4, 2) := by decide +kernel
theorem dX12_power0_7 : decode cX12_power0 7 = .ok (.iload_n 1, 1) := by decide +kernel
theorem dX12_power0_8 : decode cX12_power0 8 = .ok (.if_icmp .ge 14, 3) := by decide +kernel
theorem dX12_power0_11 : decode cX12_power0 11 = .ok (.lload_n 2, 1) := by decide +kernel
theorem dX12_power0_12 : decode cX12_power0 12 = .ok (.iload_n 0, 1) := by decide +kernel
theorem dX12_power0_13 : decode cX12_power0 13 = .ok (.i2l, 1) := by decide +kernel
theorem dX12_power0_14 : decode cX12_power0 14 = .ok (.lmul, 1) := by decide +kernel
theorem dX12_power0_15 : decode cX12_power0 15 = .ok (.lstore_n 2, 1) := by decide +kernel
theorem dX12_power0_16 : decode cX12_power0 16 = .ok (.iinc 4 1, 3) := by decide +kernel
theorem dX12_power0_19 : decode cX12_power0 19 = .ok (.goto (-14), 3) := by decide +kernel
theorem dX12_power0_22 : decode cX12_power0 22 = .ok (.lload_n 2, 1) := by decide +kernel
theorem dX12_power0_23 : decode cX12_power0 23 = .ok (.lreturn, 1) := by decide +kernel
theorem dX12_horsehair_0 : decode cX12_horsehair 0 = .ok (.aload_n 0, 1) := by decide +kernel
theorem dX12_horsehair_1 : decode cX12_horsehair 1 = .ok (.iload_n 1, 1) := by decide +kernel
theorem dX12_horsehair_2 : decode cX12_horsehair 2 = .ok (.iconst 0, 1) := by decide +kernel
theorem dX12_horsehair_3 : decode cX12_horsehair 3 = .ok (.bipush 100, 2) := by decide +kernel
theorem dX12_horsehair_5 : decode cX12_horsehair 5 = .ok (.invokestatic 301, 3) := by decide +kernel
theorem dX12_horsehair_8 : decode cX12_horsehair 8 = .ok (.ifCond .eq 37, 3) := by decide +kernel
theorem dX12_horsehair_11 : decode cX12_horsehair 11 = .ok (.iload_n 2, 1) := by decide +kernel
theorem dX12_horsehair_12 : decode cX12_horsehair 12 = .ok (.iconst 0, 1) := by decide +kernel
theorem dX12_horsehair_13 : decode cX12_horsehair 13 = .ok (.bipush 100, 2) := by decide +kernel
theorem dX12_horsehair_15 : decode cX12_horsehair 15 = .ok (.invokestatic 301, 3) := by decide +kernel
theorem dX12_horsehair_18 : decode cX12_horsehair 18 = .ok (.ifCond .eq 27, 3) := by decide +kernel
theorem dX12_horsehair_21 : decode cX12_horsehair 21 = .ok (.iload_n 3, 1) := by decide +kernel
theorem dX12_horsehair_22 : decode cX12_horsehair 22 = .ok (.iconst 0, 1) := by decide +kernel
theorem dX12_horsehair_23 : decode cX12_horsehair 23 = .ok (.bipush 100, 2) := by decide +kernel
theorem dX12_horsehair_25 : decode cX12_horsehair 25 = .ok (.invokestatic 301, 3) := by decide +kernel
theorem dX12_horsehair_28 : decode cX12_horsehair 28 = .ok (.ifCond .eq 17, 3) := by decide +kernel
theorem dX12_horsehair_31 : decode cX12_horsehair 31 = .ok (.iload 4, 2) := by decide +kernel
theorem dX12_horsehair_33 : decode cX12_horsehair 33 = .ok (.iconst 1, 1) := by decide +kernel
theorem dX12_horsehair_34 : decode cX12_horsehair 34 = .ok (.iconst 3, 1) := by decide +kernel
theorem dX12_horsehair_35 : decode cX12_horsehair 35 = .ok (.invokestatic 301, 3) := by decide +kernel
theorem dX12_horsehair_38 : decode cX12_horsehair 38 = .ok (.ifCond .eq 7, 3) := by decide +kernel
theorem dX12_horsehair_41 : decode cX12_horsehair 41 = .ok (.iconst 0, 1) := by decide +kernel
theorem dX12_horsehair_42 : decode cX12_horsehair 42 = .ok (.goto 4, 3) := by decide +kernel
theorem dX12_horsehair_45 : decode cX12_horsehair 45 = .ok (.iconst 1, 1) := by decide +kernel
theorem dX12_horsehair_46 : decode cX12_horsehair 46 = .ok (.putfield 171, 3) := by decide +kernel
theorem dX12_horsehair_49 : decode cX12_horsehair 49 = .ok (.aload_n 0, 1) := by decide +kernel
theorem dX12_horsehair_50 : decode cX12_horsehair 50 = .ok (.getfield 171, 3) := by decide +kernel
theorem dX12_horsehair_53 : decode cX12_horsehair 53 = .ok (.iconst 1, 1) := by decide +kernel
theorem dX12_horsehair_54 : decode cX12_horsehair 54 = .ok (.if_icmp .ne 5, 3) := by decide +kernel
theorem dX12_horsehair_57 : decode cX12_horsehair 57 = .ok (.iconst 0, 1) := by decide +kernel
theorem dX12_horsehair_58 : decode cX12_horsehair 58 = .ok (.ireturn, 1) := by decide +kernel
theorem dX12_horsehair_59 : decode cX12_horsehair 59 = .ok (.iload_n 1, 1) := by decide +kernel
theorem dX12_horsehair_60 : decode cX12_horsehair 60 = .ok (.i2l, 1) := by decide +kernel
theorem dX12_horsehair_61 : decode cX12_horsehair 61 = .ok (.iload_n 2, 1) := by decide +kernel
theorem dX12_horsehair_62 : decode cX12_horsehair 62 = .ok (.iload 4, 2) := by decide +kernel
theorem dX12_horsehair_64 : decode cX12_horsehair 64 = .ok (.invokestatic 508, 3) := by decide +kernel
theorem dX12_horsehair_67 : decode cX12_horsehair 67 = .ok (.lmul, 1) := by decide +kernel
theorem dX12_horsehair_68 : decode cX12_horsehair 68 = .ok (.lstore 5, 2) := by decide +kernel
theorem dX12_horsehair_70 : decode cX12_horsehair 70 = .ok (.lload 5, 2) := by decide +kernel
theorem dX12_horsehair_72 : decode cX12_horsehair 72 = .ok (.bipush 100, 2) := by decide +kernel
theorem dX12_horsehair_74 : decode cX12_horsehair 74 = .ok (.iload_n 1, 1) := by decide +kernel
theorem dX12_horsehair_75 : decode cX12_horsehair 75 = .ok (.isub, 1) := by decide +kernel
theorem dX12_horsehair_76 : decode cX12_horsehair 76 = .ok (.i2l, 1) := by decide +kernel
theorem dX12_horsehair_77 : decode cX12_horsehair 77 = .ok (.iload_n 3, 1) := by decide +kernel
theorem dX12_horsehair_78 : decode cX12_horsehair 78 = .ok (.iload 4, 2) := by decide +kernel
theorem dX12_horsehair_80 : decode cX12_horsehair 80 = .ok (.invokestatic 508, 3) := by decide +kernel
theorem dX12_horsehair_83 : decode cX12_horsehair 83 = .ok (.lmul, 1) := by decide +kernel
theorem dX12_horsehair_84 : decode cX12_horsehair 84 = .ok (.ladd, 1) := by decide +kernel
theorem dX12_horsehair_85 : decode cX12_horsehair 85 = .ok (.lstore 7, 2) := by decide +kernel
theorem dX12_horsehair_87 : decode cX12_horsehair 87 = .ok (.aload_n 0, 1) := by decide +kernel
theorem dX12_horsehair_88 : decode cX12_horsehair 88 = .ok (.lload 7, 2) := by decide +kernel
theorem dX12_horsehair_90 : decode cX12_horsehair 90 = .ok (.lconst 0, 1) := by decide +kernel
theorem dX12_horsehair_91 : decode cX12_horsehair 91 = .ok (.lcmp, 1) := by decide +kernel
theorem dX12_horsehair_92 : decode cX12_horsehair 92 = .ok (.ifCond .ne 7, 3) := by decide +kernel
theorem dX12_horsehair_95 : decode cX12_horsehair 95 = .ok (.iconst 1, 1) := by decide +kernel
theorem dX12_horsehair_96 : decode cX12_horsehair 96 = .ok (.goto 4, 3) := by decide +kernel
theorem dX12_horsehair_99 : decode cX12_horsehair 99 = .ok (.iconst 0, 1) := by decide +kernel
theorem dX12_horsehair_100 : decode cX12_horsehair 100 = .ok (.putfield 171, 3) := by decide +kernel
theorem dX12_horsehair_103 : decode cX12_horsehair 103 = .ok (.lload 7, 2) := by decide +kernel
theorem dX12_horsehair_105 : decode cX12_horsehair 105 = .ok (.lconst 0, 1) := by decide +kernel
theorem dX12_horsehair_106 : decode cX12_horsehair 106 = .ok (.lcmp, 1) := by decide +kernel
theorem dX12_horsehair_107 : decode cX12_horsehair 107 = .ok (.ifCond .ne 7, 3) := by decide +kernel
theorem dX12_horsehair_110 : decode cX12_horsehair 110 = .ok (.iconst 0, 1) := by decide +kernel
theorem dX12_horsehair_111 : decode cX12_horsehair 111 = .ok (.goto 13, 3) := by decide +kernel
theorem dX12_horsehair_114 : decode cX12_horsehair 114 = .ok (.lload 5, 2) := by decide +kernel
theorem dX12_horsehair_116 : decode cX12_horsehair 116 = .ok (.ldc2_w 512, 3) := by decide +kernel
theorem dX12_horsehair_119 : decode cX12_horsehair 119 = .ok (.lmul, 1) := by decide +kernel
theorem dX12_horsehair_120 : decode cX12_horsehair 120 = .ok (.lload 7, 2) := by decide +kernel
theorem dX12_horsehair_122 : decode cX12_horsehair 122 = .ok (.ldiv, 1) := by decide +kernel
theorem dX12_horsehair_123 : decode cX12_horsehair 123 = .ok (.l2i, 1) := by decide +kernel
theorem dX12_horsehair_124 : decode cX12_horsehair 124 = .ok (.ireturn, 1) := by decide +kernel
theorem dX12_draws_0 : decode cX12_draws 0 = .ok (.aload_n 0, 1) := by decide +kernel
theorem dX12_draws_1 : decode cX12_draws 1 = .ok (.aload_n 0, 1) := by decide +kernel
theorem dX12_draws_2 : decode cX12_draws 2 = .ok (.getfield 514, 3) := by decide +kernel
theorem dX12_draws_5 : decode cX12_draws 5 = .ok (.ldc2_w 517, 3) := by decide +kernel
theorem dX12_draws_8 : decode cX12_draws 8 = .ok (.lmul, 1) := by decide +kernel
theorem dX12_draws_9 : decode cX12_draws 9 = .ok (.ldc2_w 519, 3) := by decide +kernel
theorem dX12_draws_12 : decode cX12_draws 12 = .ok (.ladd, 1) := by decide +kernel
theorem dX12_draws_13 : decode cX12_draws 13 = .ok (.ldc2_w 521, 3) := by decide +kernel
theorem dX12_draws_16 : decode cX12_draws 16 = .ok (.lrem, 1) := by decide +kernel
theorem dX12_draws_17 : decode cX12_draws 17 = .ok (.putfield 514, 3) := by decide +kernel
theorem dX12_draws_20 : decode cX12_draws 20 = .ok (.aload_n 0, 1) := by decide +kernel
theorem dX12_draws_21 : decode cX12_draws 21 = .ok (.getfield 514, 3) := by decide +kernel
theorem dX12_draws_24 : decode cX12_draws 24 = .ok (.ldc2_w 523, 3) := by decide +kernel
theorem dX12_draws_27 : decode cX12_draws 27 = .ok (.ldiv, 1) := by decide +kernel
theorem dX12_draws_28 : decode cX12_draws 28 = .ok (.iload_n 1, 1) := by decide +kernel
theorem dX12_draws_29 : decode cX12_draws 29 = .ok (.i2l, 1) := by decide +kernel
theorem dX12_draws_30 : decode cX12_draws 30 = .ok (.lrem, 1) := by decide +kernel
theorem dX12_draws_31 : decode cX12_draws 31 = .ok (.l2i, 1) := by decide +kernel
theorem dX12_draws_32 : decode cX12_draws 32 = .ok (.ireturn, 1) := by decide +kernel
theorem dX12_fever_0 : decode cX12_fever 0 = .ok (.iconst 0, 1) := by decide +kernel
theorem dX12_fever_1 : decode cX12_fever 1 = .ok (.istore_n 1, 1) := by decide +kernel
theorem dX12_fever_2 : decode cX12_fever 2 = .ok (.iload_n 1, 1) := by decide +kernel
theorem dX12_fever_3 : decode cX12_fever 3 = .ok (.aload_n 0, 1) := by decide +kernel
theorem dX12_fever_4 : decode cX12_fever 4 = .ok (.getfield 13, 3) := by decide +kernel
theorem dX12_fever_7 : decode cX12_fever 7 = .ok (.iconst 1, 1) := by decide +kernel
theorem dX12_fever_8 : decode cX12_fever 8 = .ok (.iaload, 1) := by decide +kernel
theorem dX12_fever_9 : decode cX12_fever 9 = .ok (.if_icmp .ge 32, 3) := by decide +kernel
theorem dX12_fever_12 : decode cX12_fever 12 = .ok (.aload_n 0, 1) := by decide +kernel
theorem dX12_fever_13 : decode cX12_fever 13 = .ok (.iload_n 1, 1) := by decide +kernel
theorem dX12_fever_14 : decode cX12_fever 14 = .ok (.invokevirtual 403, 3) := by decide +kernel
theorem dX12_fever_17 : decode cX12_fever 17 = .ok (.istore_n 2, 1) := by decide +kernel
theorem dX12_fever_18 : decode cX12_fever 18 = .ok (.iload_n 2, 1) := by decide +kernel
theorem dX12_fever_19 : decode cX12_fever 19 = .ok (.ifCond .ge 6, 3) := by decide +kernel
theorem dX12_fever_22 : decode cX12_fever 22 = .ok (.goto 13, 3) := by decide +kernel
theorem dX12_fever_25 : decode cX12_fever 25 = .ok (.aload_n 0, 1) := by decide +kernel
theorem dX12_fever_26 : decode cX12_fever 26 = .ok (.getfield 120, 3) := by decide +kernel
theorem dX12_fever_29 : decode cX12_fever 29 = .ok (.iconst 1, 1) := by decide +kernel
theorem dX12_fever_30 : decode cX12_fever 30 = .ok (.iload_n 2, 1) := by decide +kernel
theorem dX12_fever_31 : decode cX12_fever 31 = .ok (.iadd, 1) := by decide +kernel
theorem dX12_fever_32 : decode cX12_fever 32 = .ok (.iconst (-1), 1) := by decide +kernel
theorem dX12_fever_33 : decode cX12_fever 33 = .ok (.iastore, 1) := by decide +kernel
theorem dX12_fever_34 : decode cX12_fever 34 = .ok (.return_, 1) := by decide +kernel
theorem dX12_fever_35 : decode cX12_fever 35 = .ok (.iinc 1 1, 3) := by decide +kernel
theorem dX12_fever_38 : decode cX12_fever 38 = .ok (.goto (-36), 3) := by decide +kernel
theorem dX12_fever_41 : decode cX12_fever 41 = .ok (.return_, 1) := by decide +kernel
theorem dX12_livesSeason_0 : decode cX12_livesSeason 0 = .ok (.aload_n 0, 1) := by decide +kernel
theorem dX12_livesSeason_1 : decode cX12_livesSeason 1 = .ok (.getfield 13, 3) := by decide +kernel
theorem dX12_livesSeason_4 : decode cX12_livesSeason 4 = .ok (.iconst 0, 1) := by decide +kernel
theorem dX12_livesSeason_5 : decode cX12_livesSeason 5 = .ok (.iaload, 1) := by decide +kernel
theorem dX12_livesSeason_6 : decode cX12_livesSeason 6 = .ok (.ifCond .le 52, 3) := by decide +kernel
theorem dX12_livesSeason_9 : decode cX12_livesSeason 9 = .ok (.aload_n 0, 1) := by decide +kernel
theorem dX12_livesSeason_10 : decode cX12_livesSeason 10 = .ok (.getfield 13, 3) := by decide +kernel
theorem dX12_livesSeason_13 : decode cX12_livesSeason 13 = .ok (.iconst 1, 1) := by decide +kernel
theorem dX12_livesSeason_14 : decode cX12_livesSeason 14 = .ok (.iaload, 1) := by decide +kernel
theorem dX12_livesSeason_15 : decode cX12_livesSeason 15 = .ok (.ifCond .le 43, 3) := by decide +kernel
theorem dX12_livesSeason_18 : decode cX12_livesSeason 18 = .ok (.aload_n 0, 1) := by decide +kernel
theorem dX12_livesSeason_19 : decode cX12_livesSeason 19 = .ok (.aload_n 0, 1) := by decide +kernel
theorem dX12_livesSeason_20 : decode cX12_livesSeason 20 = .ok (.getfield 13, 3) := by decide +kernel
theorem dX12_livesSeason_23 : decode cX12_livesSeason 23 = .ok (.iconst 0, 1) := by decide +kernel
theorem dX12_livesSeason_24 : decode cX12_livesSeason 24 = .ok (.iaload, 1) := by decide +kernel
theorem dX12_livesSeason_25 : decode cX12_livesSeason 25 = .ok (.invokevirtual 525, 3) := by decide +kernel
theorem dX12_livesSeason_28 : decode cX12_livesSeason 28 = .ok (.istore_n 1, 1) := by decide +kernel
theorem dX12_livesSeason_29 : decode cX12_livesSeason 29 = .ok (.aload_n 0, 1) := by decide +kernel
theorem dX12_livesSeason_30 : decode cX12_livesSeason 30 = .ok (.aload_n 0, 1) := by decide +kernel
theorem dX12_livesSeason_31 : decode cX12_livesSeason 31 = .ok (.getfield 13, 3) := by decide +kernel
theorem dX12_livesSeason_34 : decode cX12_livesSeason 34 = .ok (.iconst 1, 1) := by decide +kernel
theorem dX12_livesSeason_35 : decode cX12_livesSeason 35 = .ok (.iaload, 1) := by decide +kernel
theorem dX12_livesSeason_36 : decode cX12_livesSeason 36 = .ok (.invokevirtual 525, 3) := by decide +kernel
theorem dX12_livesSeason_39 : decode cX12_livesSeason 39 = .ok (.istore_n 2, 1) := by decide +kernel
theorem dX12_livesSeason_40 : decode cX12_livesSeason 40 = .ok (.aload_n 0, 1) := by decide +kernel
theorem dX12_livesSeason_41 : decode cX12_livesSeason 41 = .ok (.iload_n 1, 1) := by decide +kernel
theorem dX12_livesSeason_42 : decode cX12_livesSeason 42 = .ok (.iload_n 2, 1) := by decide +kernel
theorem dX12_livesSeason_43 : decode cX12_livesSeason 43 = .ok (.invokevirtual 424, 3) := by decide +kernel
theorem dX12_livesSeason_46 : decode cX12_livesSeason 46 = .ok (.ifCond .eq 12, 3) := by decide +kernel
theorem dX12_livesSeason_49 : decode cX12_livesSeason 49 = .ok (.aload_n 0, 1) := by decide +kernel
theorem dX12_livesSeason_50 : decode cX12_livesSeason 50 = .ok (.getfield 120, 3) := by decide +kernel
theorem dX12_livesSeason_53 : decode cX12_livesSeason 53 = .ok (.iconst 1, 1) := by decide +kernel
theorem dX12_livesSeason_54 : decode cX12_livesSeason 54 = .ok (.iload_n 1, 1) := by decide +kernel
theorem dX12_livesSeason_55 : decode cX12_livesSeason 55 = .ok (.iadd, 1) := by decide +kernel
theorem dX12_livesSeason_56 : decode cX12_livesSeason 56 = .ok (.iload_n 2, 1) := by decide +kernel
theorem dX12_livesSeason_57 : decode cX12_livesSeason 57 = .ok (.iastore, 1) := by decide +kernel
theorem dX12_livesSeason_58 : decode cX12_livesSeason 58 = .ok (.aload_n 0, 1) := by decide +kernel
theorem dX12_livesSeason_59 : decode cX12_livesSeason 59 = .ok (.iconst 5, 1) := by decide +kernel
theorem dX12_livesSeason_60 : decode cX12_livesSeason 60 = .ok (.invokevirtual 525, 3) := by decide +kernel
theorem dX12_livesSeason_63 : decode cX12_livesSeason 63 = .ok (.ifCond .ne 7, 3) := by decide +kernel
theorem dX12_livesSeason_66 : decode cX12_livesSeason 66 = .ok (.aload_n 0, 1) := by decide +kernel
theorem dX12_livesSeason_67 : decode cX12_livesSeason 67 = .ok (.invokevirtual 528, 3) := by decide +kernel
theorem dX12_livesSeason_70 : decode cX12_livesSeason 70 = .ok (.aload_n 0, 1) := by decide +kernel
theorem dX12_livesSeason_71 : decode cX12_livesSeason 71 = .ok (.invokevirtual 430, 3) := by decide +kernel
theorem dX12_livesSeason_74 : decode cX12_livesSeason 74 = .ok (.ireturn, 1) := by decide +kernel
theorem dX12_centuries_0 : decode cX12_centuries 0 = .ok (.aload_n 0, 1) := by decide +kernel
theorem dX12_centuries_1 : decode cX12_centuries 1 = .ok (.iconst 0, 1) := by decide +kernel
theorem dX12_centuries_2 : decode cX12_centuries 2 = .ok (.putfield 171, 3) := by decide +kernel
theorem dX12_centuries_5 : decode cX12_centuries 5 = .ok (.iload_n 1, 1) := by decide +kernel
theorem dX12_centuries_6 : decode cX12_centuries 6 = .ok (.iconst 0, 1) := by decide +kernel
theorem dX12_centuries_7 : decode cX12_centuries 7 = .ok (.sipush 9999, 3) := by decide +kernel
theorem dX12_centuries_10 : decode cX12_centuries 10 = .ok (.invokestatic 301, 3) := by decide +kernel
theorem dX12_centuries_13 : decode cX12_centuries 13 = .ok (.ifCond .eq 22, 3) := by decide +kernel
theorem dX12_centuries_16 : decode cX12_centuries 16 = .ok (.iload_n 2, 1) := by decide +kernel
theorem dX12_centuries_17 : decode cX12_centuries 17 = .ok (.iconst 1, 1) := by decide +kernel
theorem dX12_centuries_18 : decode cX12_centuries 18 = .ok (.bipush 99, 2) := by decide +kernel
theorem dX12_centuries_20 : decode cX12_centuries 20 = .ok (.invokestatic 301, 3) := by decide +kernel
theorem dX12_centuries_23 : decode cX12_centuries 23 = .ok (.ifCond .eq 12, 3) := by decide +kernel
theorem dX12_centuries_26 : decode cX12_centuries 26 = .ok (.iload_n 3, 1) := by decide +kernel
theorem dX12_centuries_27 : decode cX12_centuries 27 = .ok (.iconst 0, 1) := by decide +kernel
theorem dX12_centuries_28 : decode cX12_centuries 28 = .ok (.iconst 2, 1) := by decide +kernel
theorem dX12_centuries_29 : decode cX12_centuries 29 = .ok (.invokestatic 301, 3) := by decide +kernel
theorem dX12_centuries_32 : decode cX12_centuries 32 = .ok (.ifCond .ne 5, 3) := by decide +kernel
theorem dX12_centuries_35 : decode cX12_centuries 35 = .ok (.iconst (-1), 1) := by decide +kernel
theorem dX12_centuries_36 : decode cX12_centuries 36 = .ok (.ireturn, 1) := by decide +kernel
theorem dX12_centuries_37 : decode cX12_centuries 37 = .ok (.aload_n 0, 1) := by decide +kernel
theorem dX12_centuries_38 : decode cX12_centuries 38 = .ok (.iload_n 1, 1) := by decide +kernel
theorem dX12_centuries_39 : decode cX12_centuries 39 = .ok (.i2l, 1) := by decide +kernel
theorem dX12_centuries_40 : decode cX12_centuries 40 = .ok (.putfield 514, 3) := by decide +kernel
theorem dX12_centuries_43 : decode cX12_centuries 43 = .ok (.aload_n 0, 1) := by decide +kernel
theorem dX12_centuries_44 : decode cX12_centuries 44 = .ok (.getfield 120, 3) := by decide +kernel
theorem dX12_centuries_47 : decode cX12_centuries 47 = .ok (.iconst 0, 1) := by decide +kernel
theorem dX12_centuries_48 : decode cX12_centuries 48 = .ok (.aload_n 0, 1) := by decide +kernel
theorem dX12_centuries_49 : decode cX12_centuries 49 = .ok (.getfield 123, 3) := by decide +kernel
theorem dX12_centuries_52 : decode cX12_centuries 52 = .ok (.iconst 0, 1) := by decide +kernel
theorem dX12_centuries_53 : decode cX12_centuries 53 = .ok (.invokestatic 420, 3) := by decide +kernel
theorem dX12_centuries_56 : decode cX12_centuries 56 = .ok (.iconst 0, 1) := by decide +kernel
theorem dX12_centuries_57 : decode cX12_centuries 57 = .ok (.istore 4, 2) := by decide +kernel
theorem dX12_centuries_59 : decode cX12_centuries 59 = .ok (.iconst 0, 1) := by decide +kernel
theorem dX12_centuries_60 : decode cX12_centuries 60 = .ok (.istore 5, 2) := by decide +kernel
theorem dX12_centuries_62 : decode cX12_centuries 62 = .ok (.iconst 0, 1) := by decide +kernel
theorem dX12_centuries_63 : decode cX12_centuries 63 = .ok (.istore 6, 2) := by decide +kernel
theorem dX12_centuries_65 : decode cX12_centuries 65 = .ok (.iload 6, 2) := by decide +kernel
theorem dX12_centuries_67 : decode cX12_centuries 67 = .ok (.iload_n 2, 1) := by decide +kernel
theorem dX12_centuries_68 : decode cX12_centuries 68 = .ok (.if_icmp .ge 31, 3) := by decide +kernel
theorem dX12_centuries_71 : decode cX12_centuries 71 = .ok (.iload 5, 2) := by decide +kernel
theorem dX12_centuries_73 : decode cX12_centuries 73 = .ok (.aload_n 0, 1) := by decide +kernel
theorem dX12_centuries_74 : decode cX12_centuries 74 = .ok (.invokevirtual 531, 3) := by decide +kernel
theorem dX12_centuries_77 : decode cX12_centuries 77 = .ok (.iadd, 1) := by decide +kernel
theorem dX12_centuries_78 : decode cX12_centuries 78 = .ok (.istore 5, 2) := by decide +kernel
theorem dX12_centuries_80 : decode cX12_centuries 80 = .ok (.iload 4, 2) := by decide +kernel
theorem dX12_centuries_82 : decode cX12_centuries 82 = .ok (.aload_n 0, 1) := by decide +kernel
theorem dX12_centuries_83 : decode cX12_centuries 83 = .ok (.aload_n 0, 1) := by decide +kernel
theorem dX12_centuries_84 : decode cX12_centuries 84 = .ok (.invokevirtual 436, 3) := by decide +kernel
theorem dX12_centuries_87 : decode cX12_centuries 87 = .ok (.invokevirtual 439, 3) := by decide +kernel
theorem dX12_centuries_90 : decode cX12_centuries 90 = .ok (.iadd, 1) := by decide +kernel
theorem dX12_centuries_91 : decode cX12_centuries 91 = .ok (.istore 4, 2) := by decide +kernel
theorem dX12_centuries_93 : decode cX12_centuries 93 = .ok (.iinc 6 1, 3) := by decide +kernel
theorem dX12_centuries_96 : decode cX12_centuries 96 = .ok (.goto (-31), 3) := by decide +kernel
theorem dX12_centuries_99 : decode cX12_centuries 99 = .ok (.iconst 0, 1) := by decide +kernel
theorem dX12_centuries_100 : decode cX12_centuries 100 = .ok (.istore 6, 2) := by decide +kernel
theorem dX12_centuries_102 : decode cX12_centuries 102 = .ok (.iconst 0, 1) := by decide +kernel
theorem dX12_centuries_103 : decode cX12_centuries 103 = .ok (.istore 7, 2) := by decide +kernel
theorem dX12_centuries_105 : decode cX12_centuries 105 = .ok (.iload 7, 2) := by decide +kernel
theorem dX12_centuries_107 : decode cX12_centuries 107 = .ok (.bipush 6, 2) := by decide +kernel
theorem dX12_centuries_109 : decode cX12_centuries 109 = .ok (.if_icmp .ge 24, 3) := by decide +kernel
theorem dX12_centuries_112 : decode cX12_centuries 112 = .ok (.iload 6, 2) := by decide +kernel
theorem dX12_centuries_114 : decode cX12_centuries 114 = .ok (.aload_n 0, 1) := by decide +kernel
theorem dX12_centuries_115 : decode cX12_centuries 115 = .ok (.getfield 120, 3) := by decide +kernel
theorem dX12_centuries_118 : decode cX12_centuries 118 = .ok (.bipush 7, 2) := by decide +kernel
theorem dX12_centuries_120 : decode cX12_centuries 120 = .ok (.iload 7, 2) := by decide +kernel
theorem dX12_centuries_122 : decode cX12_centuries 122 = .ok (.iadd, 1) := by decide +kernel
theorem dX12_centuries_123 : decode cX12_centuries 123 = .ok (.iaload, 1) := by decide +kernel
theorem dX12_centuries_124 : decode cX12_centuries 124 = .ok (.iadd, 1) := by decide +kernel
theorem dX12_centuries_125 : decode cX12_centuries 125 = .ok (.istore 6, 2) := by decide +kernel
theorem dX12_centuries_127 : decode cX12_centuries 127 = .ok (.iinc 7 1, 3) := by decide +kernel
theorem dX12_centuries_130 : decode cX12_centuries 130 = .ok (.goto (-25), 3) := by decide +kernel
theorem dX12_centuries_133 : decode cX12_centuries 133 = .ok (.aload_n 0, 1) := by decide +kernel
theorem dX12_centuries_134 : decode cX12_centuries 134 = .ok (.getfield 123, 3) := by decide +kernel
theorem dX12_centuries_137 : decode cX12_centuries 137 = .ok (.iconst 0, 1) := by decide +kernel
theorem dX12_centuries_138 : decode cX12_centuries 138 = .ok (.aload_n 0, 1) := by decide +kernel
theorem dX12_centuries_139 : decode cX12_centuries 139 = .ok (.getfield 120, 3) := by decide +kernel
theorem dX12_centuries_142 : decode cX12_centuries 142 = .ok (.iconst 0, 1) := by decide +kernel
theorem dX12_centuries_143 : decode cX12_centuries 143 = .ok (.invokestatic 420, 3) := by decide +kernel
theorem dX12_centuries_146 : decode cX12_centuries 146 = .ok (.iload_n 3, 1) := by decide +kernel
theorem dX12_centuries_147 : decode cX12_centuries 147 = .ok (.ifCond .ne 8, 3) := by decide +kernel
theorem dX12_centuries_150 : decode cX12_centuries 150 = .ok (.iload 4, 2) := by decide +kernel
theorem dX12_centuries_152 : decode cX12_centuries 152 = .ok (.goto 15, 3) := by decide +kernel
theorem dX12_centuries_155 : decode cX12_centuries 155 = .ok (.iload_n 3, 1) := by decide +kernel
theorem dX12_centuries_156 : decode cX12_centuries 156 = .ok (.iconst 1, 1) := by decide +kernel
theorem dX12_centuries_157 : decode cX12_centuries 157 = .ok (.if_icmp .ne 8, 3) := by decide +kernel
theorem dX12_centuries_160 : decode cX12_centuries 160 = .ok (.iload 5, 2) := by decide +kernel
theorem dX12_centuries_162 : decode cX12_centuries 162 = .ok (.goto 5, 3) := by decide +kernel
theorem dX12_centuries_165 : decode cX12_centuries 165 = .ok (.iload 6, 2) := by decide +kernel
theorem dX12_centuries_167 : decode cX12_centuries 167 = .ok (.ireturn, 1) := by decide +kernel
theorem dX12_mark_0 : decode cX12_mark 0 = .ok (.aload_n 0, 1) := by decide +kernel
theorem dX12_mark_1 : decode cX12_mark 1 = .ok (.iconst 0, 1) := by decide +kernel
theorem dX12_mark_2 : decode cX12_mark 2 = .ok (.putfield 171, 3) := by decide +kernel
theorem dX12_mark_5 : decode cX12_mark 5 = .ok (.iload_n 1, 1) := by decide +kernel
theorem dX12_mark_6 : decode cX12_mark 6 = .ok (.iconst 0, 1) := by decide +kernel
theorem dX12_mark_7 : decode cX12_mark 7 = .ok (.iconst 3, 1) := by decide +kernel
theorem dX12_mark_8 : decode cX12_mark 8 = .ok (.invokestatic 301, 3) := by decide +kernel
theorem dX12_mark_11 : decode cX12_mark 11 = .ok (.ifCond .eq 16, 3) := by decide +kernel
theorem dX12_mark_14 : decode cX12_mark 14 = .ok (.iload_n 2, 1) := by decide +kernel
theorem dX12_mark_15 : decode cX12_mark 15 = .ok (.ifCond .eq 14, 3) := by decide +kernel
theorem dX12_mark_18 : decode cX12_mark 18 = .ok (.aload_n 0, 1) := by decide +kernel
theorem dX12_mark_19 : decode cX12_mark 19 = .ok (.getfield 132, 3) := by decide +kernel
theorem dX12_mark_22 : decode cX12_mark 22 = .ok (.iload_n 1, 1) := by decide +kernel
theorem dX12_mark_23 : decode cX12_mark 23 = .ok (.baload, 1) := by decide +kernel
theorem dX12_mark_24 : decode cX12_mark 24 = .ok (.ifCond .ne 5, 3) := by decide +kernel
theorem dX12_mark_27 : decode cX12_mark 27 = .ok (.iconst 0, 1) := by decide +kernel
theorem dX12_mark_28 : decode cX12_mark 28 = .ok (.ireturn, 1) := by decide +kernel
theorem dX12_mark_29 : decode cX12_mark 29 = .ok (.aload_n 0, 1) := by decide +kernel
theorem dX12_mark_30 : decode cX12_mark 30 = .ok (.getfield 132, 3) := by decide +kernel
theorem dX12_mark_33 : decode cX12_mark 33 = .ok (.iload_n 1, 1) := by decide +kernel
theorem dX12_mark_34 : decode cX12_mark 34 = .ok (.iconst 1, 1) := by decide +kernel
theorem dX12_mark_35 : decode cX12_mark 35 = .ok (.bastore, 1) := by decide +kernel
theorem dX12_mark_36 : decode cX12_mark 36 = .ok (.iload_n 2, 1) := by decide +kernel
theorem dX12_mark_37 : decode cX12_mark 37 = .ok (.ifCond .eq 9, 3) := by decide +kernel
theorem dX12_mark_40 : decode cX12_mark 40 = .ok (.iconst 1, 1) := by decide +kernel
theorem dX12_mark_41 : decode cX12_mark 41 = .ok (.iload_n 1, 1) := by decide +kernel
theorem dX12_mark_42 : decode cX12_mark 42 = .ok (.iadd, 1) := by decide +kernel
theorem dX12_mark_43 : decode cX12_mark 43 = .ok (.goto 4, 3) := by decide +kernel
theorem dX12_mark_46 : decode cX12_mark 46 = .ok (.iconst 0, 1) := by decide +kernel
theorem dX12_mark_47 : decode cX12_mark 47 = .ok (.istore_n 3, 1) := by decide +kernel
theorem dX12_mark_48 : decode cX12_mark 48 = .ok (.iload_n 2, 1) := by decide +kernel
theorem dX12_mark_49 : decode cX12_mark 49 = .ok (.ifCond .eq 7, 3) := by decide +kernel
theorem dX12_mark_52 : decode cX12_mark 52 = .ok (.iconst 0, 1) := by decide +kernel
theorem dX12_mark_53 : decode cX12_mark 53 = .ok (.goto 6, 3) := by decide +kernel
theorem dX12_mark_56 : decode cX12_mark 56 = .ok (.iconst 1, 1) := by decide +kernel
theorem dX12_mark_57 : decode cX12_mark 57 = .ok (.iload_n 1, 1) := by decide +kernel
theorem dX12_mark_58 : decode cX12_mark 58 = .ok (.iadd, 1) := by decide +kernel
theorem dX12_mark_59 : decode cX12_mark 59 = .ok (.istore 4, 2) := by decide +kernel
theorem dX12_mark_61 : decode cX12_mark 61 = .ok (.aload_n 0, 1) := by decide +kernel
theorem dX12_mark_62 : decode cX12_mark 62 = .ok (.iload_n 3, 1) := by decide +kernel
theorem dX12_mark_63 : decode cX12_mark 63 = .ok (.iload 4, 2) := by decide +kernel
theorem dX12_mark_65 : decode cX12_mark 65 = .ok (.invokevirtual 382, 3) := by decide +kernel
theorem dX12_mark_68 : decode cX12_mark 68 = .ok (.aload_n 0, 1) := by decide +kernel
theorem dX12_mark_69 : decode cX12_mark 69 = .ok (.iload_n 3, 1) := by decide +kernel
theorem dX12_mark_70 : decode cX12_mark 70 = .ok (.iload 4, 2) := by decide +kernel
theorem dX12_mark_72 : decode cX12_mark 72 = .ok (.invokevirtual 534, 3) := by decide +kernel
theorem dX12_mark_75 : decode cX12_mark 75 = .ok (.iload_n 2, 1) := by decide +kernel
theorem dX12_mark_76 : decode cX12_mark 76 = .ok (.ifCond .eq 27, 3) := by decide +kernel
theorem dX12_mark_79 : decode cX12_mark 79 = .ok (.aload_n 0, 1) := by decide +kernel
theorem dX12_mark_80 : decode cX12_mark 80 = .ok (.getfield 126, 3) := by decide +kernel
theorem dX12_mark_83 : decode cX12_mark 83 = .ok (.bipush 13, 2) := by decide +kernel
theorem dX12_mark_85 : decode cX12_mark 85 = .ok (.iload_n 1, 1) := by decide +kernel
theorem dX12_mark_86 : decode cX12_mark 86 = .ok (.imul, 1) := by decide +kernel
theorem dX12_mark_87 : decode cX12_mark 87 = .ok (.aload_n 0, 1) := by decide +kernel
theorem dX12_mark_88 : decode cX12_mark 88 = .ok (.getfield 120, 3) := by decide +kernel
theorem dX12_mark_91 : decode cX12_mark 91 = .ok (.iconst 0, 1) := by decide +kernel
theorem dX12_mark_92 : decode cX12_mark 92 = .ok (.invokestatic 420, 3) := by decide +kernel
theorem dX12_mark_95 : decode cX12_mark 95 = .ok (.aload_n 0, 1) := by decide +kernel
theorem dX12_mark_96 : decode cX12_mark 96 = .ok (.iconst 0, 1) := by decide +kernel
theorem dX12_mark_97 : decode cX12_mark 97 = .ok (.putfield 376, 3) := by decide +kernel
theorem dX12_mark_100 : decode cX12_mark 100 = .ok (.goto 19, 3) := by decide +kernel
theorem dX12_mark_103 : decode cX12_mark 103 = .ok (.aload_n 0, 1) := by decide +kernel
theorem dX12_mark_104 : decode cX12_mark 104 = .ok (.getfield 120, 3) := by decide +kernel
theorem dX12_mark_107 : decode cX12_mark 107 = .ok (.iconst 0, 1) := by decide +kernel
theorem dX12_mark_108 : decode cX12_mark 108 = .ok (.aload_n 0, 1) := by decide +kernel
theorem dX12_mark_109 : decode cX12_mark 109 = .ok (.getfield 126, 3) := by decide +kernel
theorem dX12_mark_112 : decode cX12_mark 112 = .ok (.bipush 13, 2) := by decide +kernel
theorem dX12_mark_114 : decode cX12_mark 114 = .ok (.iload_n 1, 1) := by decide +kernel
theorem dX12_mark_115 : decode cX12_mark 115 = .ok (.imul, 1) := by decide +kernel
theorem dX12_mark_116 : decode cX12_mark 116 = .ok (.invokestatic 420, 3) := by decide +kernel
theorem dX12_mark_119 : decode cX12_mark 119 = .ok (.iconst 1, 1) := by decide +kernel
theorem dX12_mark_120 : decode cX12_mark 120 = .ok (.ireturn, 1) := by decide +kernel
theorem dX12_toldMany_0 : decode cX12_toldMany 0 = .ok (.iconst 0, 1) := by decide +kernel
theorem dX12_toldMany_1 : decode cX12_toldMany 1 = .ok (.istore_n 1, 1) := by decide +kernel
theorem dX12_toldMany_2 : decode cX12_toldMany 2 = .ok (.iconst 0, 1) := by decide +kernel
theorem dX12_toldMany_3 : decode cX12_toldMany 3 = .ok (.istore_n 2, 1) := by decide +kernel
theorem dX12_toldMany_4 : decode cX12_toldMany 4 = .ok (.iload_n 2, 1) := by decide +kernel
theorem dX12_toldMany_5 : decode cX12_toldMany 5 = .ok (.aload_n 0, 1) := by decide +kernel
theorem dX12_toldMany_6 : decode cX12_toldMany 6 = .ok (.getfield 13, 3) := by decide +kernel
theorem dX12_toldMany_9 : decode cX12_toldMany 9 = .ok (.iconst 0, 1) := by decide +kernel
theorem dX12_toldMany_10 : decode cX12_toldMany 10 = .ok (.iaload, 1) := by decide +kernel
theorem dX12_toldMany_11 : decode cX12_toldMany 11 = .ok (.if_icmp .ge 26, 3) := by decide +kernel
theorem dX12_toldMany_14 : decode cX12_toldMany 14 = .ok (.iload_n 1, 1) := by decide +kernel
theorem dX12_toldMany_15 : decode cX12_toldMany 15 = .ok (.aload_n 0, 1) := by decide +kernel
theorem dX12_toldMany_16 : decode cX12_toldMany 16 = .ok (.getfield 117, 3) := by decide +kernel
theorem dX12_toldMany_19 : decode cX12_toldMany 19 = .ok (.iload_n 2, 1) := by decide +kernel
theorem dX12_toldMany_20 : decode cX12_toldMany 20 = .ok (.iaload, 1) := by decide +kernel
theorem dX12_toldMany_21 : decode cX12_toldMany 21 = .ok (.ifCond .lt 7, 3) := by decide +kernel
theorem dX12_toldMany_24 : decode cX12_toldMany 24 = .ok (.iconst 1, 1) := by decide +kernel
theorem dX12_toldMany_25 : decode cX12_toldMany 25 = .ok (.goto 4, 3) := by decide +kernel
theorem dX12_toldMany_28 : decode cX12_toldMany 28 = .ok (.iconst 0, 1) := by decide +kernel
theorem dX12_toldMany_29 : decode cX12_toldMany 29 = .ok (.iadd, 1) := by decide +kernel
theorem dX12_toldMany_30 : decode cX12_toldMany 30 = .ok (.istore_n 1, 1) := by decide +kernel
theorem dX12_toldMany_31 : decode cX12_toldMany 31 = .ok (.iinc 2 1, 3) := by decide +kernel
theorem dX12_toldMany_34 : decode cX12_toldMany 34 = .ok (.goto (-30), 3) := by decide +kernel
theorem dX12_toldMany_37 : decode cX12_toldMany 37 = .ok (.iload_n 1, 1) := by decide +kernel
theorem dX12_toldMany_38 : decode cX12_toldMany 38 = .ok (.ireturn, 1) := by decide +kernel
theorem dX12_count_0 : decode cX12_count 0 = .ok (.aload_n 0, 1) := by decide +kernel
theorem dX12_count_1 : decode cX12_count 1 = .ok (.iconst 0, 1) := by decide +kernel
theorem dX12_count_2 : decode cX12_count 2 = .ok (.putfield 171, 3) := by decide +kernel
theorem dX12_count_5 : decode cX12_count 5 = .ok (.iload_n 1, 1) := by decide +kernel
theorem dX12_count_6 : decode cX12_count 6 = .ok (.iconst 0, 1) := by decide +kernel
theorem dX12_count_7 : decode cX12_count 7 = .ok (.bipush 12, 2) := by decide +kernel
theorem dX12_count_9 : decode cX12_count 9 = .ok (.invokestatic 301, 3) := by decide +kernel
theorem dX12_count_12 : decode cX12_count 12 = .ok (.ifCond .ne 5, 3) := by decide +kernel
theorem dX12_count_15 : decode cX12_count 15 = .ok (.iconst (-1), 1) := by decide +kernel
theorem dX12_count_16 : decode cX12_count 16 = .ok (.ireturn, 1) := by decide +kernel
theorem dX12_count_17 : decode cX12_count 17 = .ok (.iload_n 1, 1) := by decide +kernel
theorem dX12_count_18 : decode cX12_count 18 = .ok (.iconst 3, 1) := by decide +kernel
theorem dX12_count_19 : decode cX12_count 19 = .ok (.if_icmp .ge 10, 3) := by decide +kernel
theorem dX12_count_22 : decode cX12_count 22 = .ok (.aload_n 0, 1) := by decide +kernel
theorem dX12_count_23 : decode cX12_count 23 = .ok (.getfield 13, 3) := by decide +kernel
theorem dX12_count_26 : decode cX12_count 26 = .ok (.iload_n 1, 1) := by decide +kernel
theorem dX12_count_27 : decode cX12_count 27 = .ok (.iaload, 1) := by decide +kernel
theorem dX12_count_28 : decode cX12_count 28 = .ok (.ireturn, 1) := by decide +kernel
theorem dX12_count_29 : decode cX12_count 29 = .ok (.iload_n 1, 1) := by decide +kernel
theorem dX12_count_30 : decode cX12_count 30 = .ok (.iconst 5, 1) := by decide +kernel
theorem dX12_count_31 : decode cX12_count 31 = .ok (.if_icmp .ge 28, 3) := by decide +kernel
theorem dX12_count_34 : decode cX12_count 34 = .ok (.iload_n 1, 1) := by decide +kernel
theorem dX12_count_35 : decode cX12_count 35 = .ok (.iconst 3, 1) := by decide +kernel
theorem dX12_count_36 : decode cX12_count 36 = .ok (.if_icmp .ne 12, 3) := by decide +kernel
theorem dX12_count_39 : decode cX12_count 39 = .ok (.aload_n 0, 1) := by decide +kernel
theorem dX12_count_40 : decode cX12_count 40 = .ok (.getfield 120, 3) := by decide +kernel
theorem dX12_count_43 : decode cX12_count 43 = .ok (.iconst 0, 1) := by decide +kernel
theorem dX12_count_44 : decode cX12_count 44 = .ok (.iaload, 1) := by decide +kernel
theorem dX12_count_45 : decode cX12_count 45 = .ok (.goto 13, 3) := by decide +kernel
theorem dX12_count_48 : decode cX12_count 48 = .ok (.aload_n 0, 1) := by decide +kernel
theorem dX12_count_49 : decode cX12_count 49 = .ok (.aload_n 0, 1) := by decide +kernel
theorem dX12_count_50 : decode cX12_count 50 = .ok (.getfield 120, 3) := by decide +kernel
theorem dX12_count_53 : decode cX12_count 53 = .ok (.iconst 0, 1) := by decide +kernel
theorem dX12_count_54 : decode cX12_count 54 = .ok (.iaload, 1) := by decide +kernel
theorem dX12_count_55 : decode cX12_count 55 = .ok (.invokevirtual 386, 3) := by decide +kernel
theorem dX12_count_58 : decode cX12_count 58 = .ok (.ireturn, 1) := by decide +kernel
theorem dX12_count_59 : decode cX12_count 59 = .ok (.iload_n 1, 1) := by decide +kernel
theorem dX12_count_60 : decode cX12_count 60 = .ok (.bipush 8, 2) := by decide +kernel
theorem dX12_count_62 : decode cX12_count 62 = .ok (.if_icmp .ge 37, 3) := by decide +kernel
theorem dX12_count_65 : decode cX12_count 65 = .ok (.iload_n 1, 1) := by decide +kernel
theorem dX12_count_66 : decode cX12_count 66 = .ok (.iconst 5, 1) := by decide +kernel
theorem dX12_count_67 : decode cX12_count 67 = .ok (.if_icmp .ne 10, 3) := by decide +kernel
theorem dX12_count_70 : decode cX12_count 70 = .ok (.aload_n 0, 1) := by decide +kernel
theorem dX12_count_71 : decode cX12_count 71 = .ok (.invokevirtual 436, 3) := by decide +kernel
theorem dX12_count_74 : decode cX12_count 74 = .ok (.goto 24, 3) := by decide +kernel
theorem dX12_count_77 : decode cX12_count 77 = .ok (.iload_n 1, 1) := by decide +kernel
theorem dX12_count_78 : decode cX12_count 78 = .ok (.bipush 6, 2) := by decide +kernel
theorem dX12_count_80 : decode cX12_count 80 = .ok (.if_icmp .ne 10, 3) := by decide +kernel
theorem dX12_count_83 : decode cX12_count 83 = .ok (.aload_n 0, 1) := by decide +kernel
theorem dX12_count_84 : decode cX12_count 84 = .ok (.invokevirtual 470, 3) := by decide +kernel
theorem dX12_count_87 : decode cX12_count 87 = .ok (.goto 11, 3) := by decide +kernel
theorem dX12_count_90 : decode cX12_count 90 = .ok (.aload_n 0, 1) := by decide +kernel
theorem dX12_count_91 : decode cX12_count 91 = .ok (.aload_n 0, 1) := by decide +kernel
theorem dX12_count_92 : decode cX12_count 92 = .ok (.invokevirtual 436, 3) := by decide +kernel
theorem dX12_count_95 : decode cX12_count 95 = .ok (.invokevirtual 439, 3) := by decide +kernel
theorem dX12_count_98 : decode cX12_count 98 = .ok (.ireturn, 1) := by decide +kernel
theorem dX12_count_99 : decode cX12_count 99 = .ok (.iload_n 1, 1) := by decide +kernel
theorem dX12_count_100 : decode cX12_count 100 = .ok (.bipush 10, 2) := by decide +kernel
theorem dX12_count_102 : decode cX12_count 102 = .ok (.if_icmp .ge 25, 3) := by decide +kernel
theorem dX12_count_105 : decode cX12_count 105 = .ok (.iload_n 1, 1) := by decide +kernel
theorem dX12_count_106 : decode cX12_count 106 = .ok (.bipush 8, 2) := by decide +kernel
theorem dX12_count_108 : decode cX12_count 108 = .ok (.if_icmp .ne 12, 3) := by decide +kernel
theorem dX12_count_111 : decode cX12_count 111 = .ok (.aload_n 0, 1) := by decide +kernel
theorem dX12_count_112 : decode cX12_count 112 = .ok (.getfield 93, 3) := by decide +kernel
theorem dX12_count_115 : decode cX12_count 115 = .ok (.iconst 0, 1) := by decide +kernel
theorem dX12_count_116 : decode cX12_count 116 = .ok (.iaload, 1) := by decide +kernel
theorem dX12_count_117 : decode cX12_count 117 = .ok (.goto 9, 3) := by decide +kernel
theorem dX12_count_120 : decode cX12_count 120 = .ok (.aload_n 0, 1) := by decide +kernel
theorem dX12_count_121 : decode cX12_count 121 = .ok (.getfield 105, 3) := by decide +kernel
theorem dX12_count_124 : decode cX12_count 124 = .ok (.iconst 0, 1) := by decide +kernel
theorem dX12_count_125 : decode cX12_count 125 = .ok (.iaload, 1) := by decide +kernel
theorem dX12_count_126 : decode cX12_count 126 = .ok (.ireturn, 1) := by decide +kernel
theorem dX12_count_127 : decode cX12_count 127 = .ok (.iload_n 1, 1) := by decide +kernel
theorem dX12_count_128 : decode cX12_count 128 = .ok (.bipush 10, 2) := by decide +kernel
theorem dX12_count_130 : decode cX12_count 130 = .ok (.if_icmp .ne 10, 3) := by decide +kernel
theorem dX12_count_133 : decode cX12_count 133 = .ok (.aload_n 0, 1) := by decide +kernel
theorem dX12_count_134 : decode cX12_count 134 = .ok (.invokevirtual 537, 3) := by decide +kernel
theorem dX12_count_137 : decode cX12_count 137 = .ok (.goto 20, 3) := by decide +kernel
theorem dX12_count_140 : decode cX12_count 140 = .ok (.iload_n 1, 1) := by decide +kernel
theorem dX12_count_141 : decode cX12_count 141 = .ok (.bipush 11, 2) := by decide +kernel
theorem dX12_count_143 : decode cX12_count 143 = .ok (.if_icmp .ne 10, 3) := by decide +kernel
theorem dX12_count_146 : decode cX12_count 146 = .ok (.aload_n 0, 1) := by decide +kernel
theorem dX12_count_147 : decode cX12_count 147 = .ok (.getfield 376, 3) := by decide +kernel
theorem dX12_count_150 : decode cX12_count 150 = .ok (.goto 7, 3) := by decide +kernel
theorem dX12_count_153 : decode cX12_count 153 = .ok (.aload_n 0, 1) := by decide +kernel
theorem dX12_count_154 : decode cX12_count 154 = .ok (.getfield 177, 3) := by decide +kernel
theorem dX12_count_157 : decode cX12_count 157 = .ok (.ireturn, 1) := by decide +kernel
theorem dJ6_bitCount_0f7a4_0 : decode cJ6_bitCount_0f7a4 0 = .ok (.iload_n 0, 1) := by decide +kernel
theorem dJ6_bitCount_0f7a4_1 : decode cJ6_bitCount_0f7a4 1 = .ok (.iload_n 0, 1) := by decide +kernel
theorem dJ6_bitCount_0f7a4_2 : decode cJ6_bitCount_0f7a4 2 = .ok (.iconst 1, 1) := by decide +kernel
theorem dJ6_bitCount_0f7a4_3 : decode cJ6_bitCount_0f7a4 3 = .ok (.iushr, 1) := by decide +kernel
theorem dJ6_bitCount_0f7a4_4 : decode cJ6_bitCount_0f7a4 4 = .ok (.ldc_w 265, 3) := by decide +kernel
theorem dJ6_bitCount_0f7a4_7 : decode cJ6_bitCount_0f7a4 7 = .ok (.iand, 1) := by decide +kernel
theorem dJ6_bitCount_0f7a4_8 : decode cJ6_bitCount_0f7a4 8 = .ok (.isub, 1) := by decide +kernel
theorem dJ6_bitCount_0f7a4_9 : decode cJ6_bitCount_0f7a4 9 = .ok (.istore_n 0, 1) := by decide +kernel
theorem dJ6_bitCount_0f7a4_10 : decode cJ6_bitCount_0f7a4 10 = .ok (.iload_n 0, 1) := by decide +kernel
theorem dJ6_bitCount_0f7a4_11 : decode cJ6_bitCount_0f7a4 11 = .ok (.ldc_w 266, 3) := by decide +kernel
theorem dJ6_bitCount_0f7a4_14 : decode cJ6_bitCount_0f7a4 14 = .ok (.iand, 1) := by decide +kernel
theorem dJ6_bitCount_0f7a4_15 : decode cJ6_bitCount_0f7a4 15 = .ok (.iload_n 0, 1) := by decide +kernel
theorem dJ6_bitCount_0f7a4_16 : decode cJ6_bitCount_0f7a4 16 = .ok (.iconst 2, 1) := by decide +kernel
theorem dJ6_bitCount_0f7a4_17 : decode cJ6_bitCount_0f7a4 17 = .ok (.iushr, 1) := by decide +kernel
theorem dJ6_bitCount_0f7a4_18 : decode cJ6_bitCount_0f7a4 18 = .ok (.ldc_w 266, 3) := by decide +kernel
theorem dJ6_bitCount_0f7a4_21 : decode cJ6_bitCount_0f7a4 21 = .ok (.iand, 1) := by decide +kernel
theorem dJ6_bitCount_0f7a4_22 : decode cJ6_bitCount_0f7a4 22 = .ok (.iadd, 1) := by decide +kernel
theorem dJ6_bitCount_0f7a4_23 : decode cJ6_bitCount_0f7a4 23 = .ok (.istore_n 0, 1) := by decide +kernel
theorem dJ6_bitCount_0f7a4_24 : decode cJ6_bitCount_0f7a4 24 = .ok (.iload_n 0, 1) := by decide +kernel
theorem dJ6_bitCount_0f7a4_25 : decode cJ6_bitCount_0f7a4 25 = .ok (.iload_n 0, 1) := by decide +kernel
theorem dJ6_bitCount_0f7a4_26 : decode cJ6_bitCount_0f7a4 26 = .ok (.iconst 4, 1) := by decide +kernel
theorem dJ6_bitCount_0f7a4_27 : decode cJ6_bitCount_0f7a4 27 = .ok (.iushr, 1) := by decide +kernel
theorem dJ6_bitCount_0f7a4_28 : decode cJ6_bitCount_0f7a4 28 = .ok (.iadd, 1) := by decide +kernel
theorem dJ6_bitCount_0f7a4_29 : decode cJ6_bitCount_0f7a4 29 = .ok (.ldc_w 267, 3) := by decide +kernel
theorem dJ6_bitCount_0f7a4_32 : decode cJ6_bitCount_0f7a4 32 = .ok (.iand, 1) := by decide +kernel
theorem dJ6_bitCount_0f7a4_33 : decode cJ6_bitCount_0f7a4 33 = .ok (.istore_n 0, 1) := by decide +kernel
theorem dJ6_bitCount_0f7a4_34 : decode cJ6_bitCount_0f7a4 34 = .ok (.iload_n 0, 1) := by decide +kernel
theorem dJ6_bitCount_0f7a4_35 : decode cJ6_bitCount_0f7a4 35 = .ok (.iload_n 0, 1) := by decide +kernel
theorem dJ6_bitCount_0f7a4_36 : decode cJ6_bitCount_0f7a4 36 = .ok (.bipush 8, 2) := by decide +kernel
theorem dJ6_bitCount_0f7a4_38 : decode cJ6_bitCount_0f7a4 38 = .ok (.iushr, 1) := by decide +kernel
theorem dJ6_bitCount_0f7a4_39 : decode cJ6_bitCount_0f7a4 39 = .ok (.iadd, 1) := by decide +kernel
theorem dJ6_bitCount_0f7a4_40 : decode cJ6_bitCount_0f7a4 40 = .ok (.istore_n 0, 1) := by decide +kernel
theorem dJ6_bitCount_0f7a4_41 : decode cJ6_bitCount_0f7a4 41 = .ok (.iload_n 0, 1) := by decide +kernel
theorem dJ6_bitCount_0f7a4_42 : decode cJ6_bitCount_0f7a4 42 = .ok (.iload_n 0, 1) := by decide +kernel
theorem dJ6_bitCount_0f7a4_43 : decode cJ6_bitCount_0f7a4 43 = .ok (.bipush 16, 2) := by decide +kernel
theorem dJ6_bitCount_0f7a4_45 : decode cJ6_bitCount_0f7a4 45 = .ok (.iushr, 1) := by decide +kernel
theorem dJ6_bitCount_0f7a4_46 : decode cJ6_bitCount_0f7a4 46 = .ok (.iadd, 1) := by decide +kernel
theorem dJ6_bitCount_0f7a4_47 : decode cJ6_bitCount_0f7a4 47 = .ok (.istore_n 0, 1) := by decide +kernel
theorem dJ6_bitCount_0f7a4_48 : decode cJ6_bitCount_0f7a4 48 = .ok (.iload_n 0, 1) := by decide +kernel
theorem dJ6_bitCount_0f7a4_49 : decode cJ6_bitCount_0f7a4 49 = .ok (.bipush 63, 2) := by decide +kernel
theorem dJ6_bitCount_0f7a4_51 : decode cJ6_bitCount_0f7a4 51 = .ok (.iand, 1) := by decide +kernel
theorem dJ6_bitCount_0f7a4_52 : decode cJ6_bitCount_0f7a4 52 = .ok (.ireturn, 1) := by decide +kernel
theorem dJ9_floorMod_7cf53_0 : decode cJ9_floorMod_7cf53 0 = .ok (.iload_n 0, 1) := by decide +kernel
theorem dJ9_floorMod_7cf53_1 : decode cJ9_floorMod_7cf53 1 = .ok (.iload_n 1, 1) := by decide +kernel
theorem dJ9_floorMod_7cf53_2 : decode cJ9_floorMod_7cf53 2 = .ok (.irem, 1) := by decide +kernel
theorem dJ9_floorMod_7cf53_3 : decode cJ9_floorMod_7cf53 3 = .ok (.istore_n 2, 1) := by decide +kernel
theorem dJ9_floorMod_7cf53_4 : decode cJ9_floorMod_7cf53 4 = .ok (.iload_n 0, 1) := by decide +kernel
theorem dJ9_floorMod_7cf53_5 : decode cJ9_floorMod_7cf53 5 = .ok (.iload_n 1, 1) := by decide +kernel
theorem dJ9_floorMod_7cf53_6 : decode cJ9_floorMod_7cf53 6 = .ok (.ixor, 1) := by decide +kernel
theorem dJ9_floorMod_7cf53_7 : decode cJ9_floorMod_7cf53 7 = .ok (.ifCond .ge 11, 3) := by decide +kernel
theorem dJ9_floorMod_7cf53_10 : decode cJ9_floorMod_7cf53 10 = .ok (.iload_n 2, 1) := by decide +kernel
theorem dJ9_floorMod_7cf53_11 : decode cJ9_floorMod_7cf53 11 = .ok (.ifCond .eq 7, 3) := by decide +kernel
theorem dJ9_floorMod_7cf53_14 : decode cJ9_floorMod_7cf53 14 = .ok (.iload_n 2, 1) := by decide +kernel
theorem dJ9_floorMod_7cf53_15 : decode cJ9_floorMod_7cf53 15 = .ok (.iload_n 1, 1) := by decide +kernel
theorem dJ9_floorMod_7cf53_16 : decode cJ9_floorMod_7cf53 16 = .ok (.iadd, 1) := by decide +kernel
theorem dJ9_floorMod_7cf53_17 : decode cJ9_floorMod_7cf53 17 = .ok (.ireturn, 1) := by decide +kernel
theorem dJ9_floorMod_7cf53_18 : decode cJ9_floorMod_7cf53 18 = .ok (.iload_n 2, 1) := by decide +kernel
theorem dJ9_floorMod_7cf53_19 : decode cJ9_floorMod_7cf53 19 = .ok (.ireturn, 1) := by decide +kernel
theorem dJ9_max_7cf53_0 : decode cJ9_max_7cf53 0 = .ok (.iload_n 0, 1) := by decide +kernel
theorem dJ9_max_7cf53_1 : decode cJ9_max_7cf53 1 = .ok (.iload_n 1, 1) := by decide +kernel
theorem dJ9_max_7cf53_2 : decode cJ9_max_7cf53 2 = .ok (.if_icmp .lt 7, 3) := by decide +kernel
theorem dJ9_max_7cf53_5 : decode cJ9_max_7cf53 5 = .ok (.iload_n 0, 1) := by decide +kernel
theorem dJ9_max_7cf53_6 : decode cJ9_max_7cf53 6 = .ok (.goto 4, 3) := by decide +kernel
theorem dJ9_max_7cf53_9 : decode cJ9_max_7cf53 9 = .ok (.iload_n 1, 1) := by decide +kernel
theorem dJ9_max_7cf53_10 : decode cJ9_max_7cf53 10 = .ok (.ireturn, 1) := by decide +kernel
theorem dJ9_min_7cf53_0 : decode cJ9_min_7cf53 0 = .ok (.iload_n 0, 1) := by decide +kernel
theorem dJ9_min_7cf53_1 : decode cJ9_min_7cf53 1 = .ok (.iload_n 1, 1) := by decide +kernel
theorem dJ9_min_7cf53_2 : decode cJ9_min_7cf53 2 = .ok (.if_icmp .gt 7, 3) := by decide +kernel
theorem dJ9_min_7cf53_5 : decode cJ9_min_7cf53 5 = .ok (.iload_n 0, 1) := by decide +kernel
theorem dJ9_min_7cf53_6 : decode cJ9_min_7cf53 6 = .ok (.goto 4, 3) := by decide +kernel
theorem dJ9_min_7cf53_9 : decode cJ9_min_7cf53 9 = .ok (.iload_n 1, 1) := by decide +kernel
theorem dJ9_min_7cf53_10 : decode cJ9_min_7cf53 10 = .ok (.ireturn, 1) := by decide +kernel
theorem dL_rests_0 : decode cL_rests 0 = .ok (.aload 4, 2) := by decide +kernel
theorem dL_rests_2 : decode cL_rests 2 = .ok (.iconst 0, 1) := by decide +kernel
theorem dL_rests_3 : decode cL_rests 3 = .ok (.aload_n 0, 1) := by decide +kernel
theorem dL_rests_4 : decode cL_rests 4 = .ok (.iload_n 1, 1) := by decide +kernel
theorem dL_rests_5 : decode cL_rests 5 = .ok (.iload_n 2, 1) := by decide +kernel
theorem dL_rests_6 : decode cL_rests 6 = .ok (.iload_n 3, 1) := by decide +kernel
theorem dL_rests_7 : decode cL_rests 7 = .ok (.invokevirtual 7, 3) := by decide +kernel
theorem dL_rests_10 : decode cL_rests 10 = .ok (.i2l, 1) := by decide +kernel
theorem dL_rests_11 : decode cL_rests 11 = .ok (.lastore, 1) := by decide +kernel
theorem dL_rests_12 : decode cL_rests 12 = .ok (.goto 7, 3) := by decide +kernel
theorem dL_rests_15 : decode cL_rests 15 = .ok (.astore 5, 2) := by decide +kernel
theorem dL_rests_17 : decode cL_rests 17 = .ok (.iconst 1, 1) := by decide +kernel
theorem dL_rests_18 : decode cL_rests 18 = .ok (.ireturn, 1) := by decide +kernel
theorem dL_rests_19 : decode cL_rests 19 = .ok (.iconst 0, 1) := by decide +kernel
theorem dL_rests_20 : decode cL_rests 20 = .ok (.ireturn, 1) := by decide +kernel
theorem dL_horsehair_0 : decode cL_horsehair 0 = .ok (.aload 5, 2) := by decide +kernel
theorem dL_horsehair_2 : decode cL_horsehair 2 = .ok (.iconst 0, 1) := by decide +kernel
theorem dL_horsehair_3 : decode cL_horsehair 3 = .ok (.aload_n 0, 1) := by decide +kernel
theorem dL_horsehair_4 : decode cL_horsehair 4 = .ok (.iload_n 1, 1) := by decide +kernel
theorem dL_horsehair_5 : decode cL_horsehair 5 = .ok (.iload_n 2, 1) := by decide +kernel
theorem dL_horsehair_6 : decode cL_horsehair 6 = .ok (.iload_n 3, 1) := by decide +kernel
theorem dL_horsehair_7 : decode cL_horsehair 7 = .ok (.iload 4, 2) := by decide +kernel
theorem dL_horsehair_9 : decode cL_horsehair 9 = .ok (.invokevirtual 15, 3) := by decide +kernel
theorem dL_horsehair_12 : decode cL_horsehair 12 = .ok (.i2l, 1) := by decide +kernel
theorem dL_horsehair_13 : decode cL_horsehair 13 = .ok (.lastore, 1) := by decide +kernel
theorem dL_horsehair_14 : decode cL_horsehair 14 = .ok (.goto 7, 3) := by decide +kernel
theorem dL_horsehair_17 : decode cL_horsehair 17 = .ok (.astore 6, 2) := by decide +kernel
theorem dL_horsehair_19 : decode cL_horsehair 19 = .ok (.iconst 1, 1) := by decide +kernel
theorem dL_horsehair_20 : decode cL_horsehair 20 = .ok (.ireturn, 1) := by decide +kernel
theorem dL_horsehair_21 : decode cL_horsehair 21 = .ok (.iconst 0, 1) := by decide +kernel
theorem dL_horsehair_22 : decode cL_horsehair 22 = .ok (.ireturn, 1) := by decide +kernel
theorem dL_law_0 : decode cL_law 0 = .ok (.new 8, 3) := by decide +kernel
theorem dL_law_3 : decode cL_law 3 = .ok (.dup, 1) := by decide +kernel
theorem dL_law_4 : decode cL_law 4 = .ok (.invokespecial 19, 3) := by decide +kernel
theorem dL_law_7 : decode cL_law 7 = .ok (.astore_n 1, 1) := by decide +kernel
theorem dL_law_8 : decode cL_law 8 = .ok (.new 20, 3) := by decide +kernel
theorem dL_law_11 : decode cL_law 11 = .ok (.dup, 1) := by decide +kernel
theorem dL_law_12 : decode cL_law 12 = .ok (.invokespecial 22, 3) := by decide +kernel
theorem dL_law_15 : decode cL_law 15 = .ok (.astore_n 2, 1) := by decide +kernel
theorem dL_law_16 : decode cL_law 16 = .ok (.iconst 1, 1) := by decide +kernel
theorem dL_law_17 : decode cL_law 17 = .ok (.newarray .long, 2) := by decide +kernel
theorem dL_law_19 : decode cL_law 19 = .ok (.astore_n 3, 1) := by decide +kernel
theorem dL_law_20 : decode cL_law 20 = .ok (.iconst 0, 1) := by decide +kernel
theorem dL_law_21 : decode cL_law 21 = .ok (.istore 4, 2) := by decide +kernel
theorem dL_law_23 : decode cL_law 23 = .ok (.iload 4, 2) := by decide +kernel
theorem dL_law_25 : decode cL_law 25 = .ok (.aload_n 0, 1) := by decide +kernel
theorem dL_law_26 : decode cL_law 26 = .ok (.arraylength, 1) := by decide +kernel
theorem dL_law_27 : decode cL_law 27 = .ok (.bipush 7, 2) := by decide +kernel
theorem dL_law_29 : decode cL_law 29 = .ok (.isub, 1) := by decide +kernel
theorem dL_law_30 : decode cL_law 30 = .ok (.if_icmp .gt 1339, 3) := by decide +kernel
theorem dL_law_33 : decode cL_law 33 = .ok (.aload_n 0, 1) := by decide +kernel
theorem dL_law_34 : decode cL_law 34 = .ok (.iload 4, 2) := by decide +kernel
theorem dL_law_36 : decode cL_law 36 = .ok (.iaload, 1) := by decide +kernel
theorem dL_law_37 : decode cL_law 37 = .ok (.bipush 31, 2) := by decide +kernel
theorem dL_law_39 : decode cL_law 39 = .ok (.iand, 1) := by decide +kernel
theorem dL_law_40 : decode cL_law 40 = .ok (.tableswitch 1323 0 30 #[140, 287, 300, 313, 350, 387, 436, 473, 498, 523, 536, 549, 574, 599, 636, 701, 726, 751, 800, 825, 862, 899, 924, 937, 962, 999, 1024, 1104, 1196, 1245, 1298], 140) := by decide +kernel
theorem dL_law_180 : decode cL_law 180 = .ok (.aload_n 1, 1) := by decide +kernel
theorem dL_law_181 : decode cL_law 181 = .ok (.aload_n 0, 1) := by decide +kernel
theorem dL_law_182 : decode cL_law 182 = .ok (.iload 4, 2) := by decide +kernel
theorem dL_law_184 : decode cL_law 184 = .ok (.iconst 1, 1) := by decide +kernel
theorem dL_law_185 : decode cL_law 185 = .ok (.iadd, 1) := by decide +kernel
theorem dL_law_186 : decode cL_law 186 = .ok (.iaload, 1) := by decide +kernel
theorem dL_law_187 : decode cL_law 187 = .ok (.i2l, 1) := by decide +kernel
theorem dL_law_188 : decode cL_law 188 = .ok (.bipush 32, 2) := by decide +kernel
theorem dL_law_190 : decode cL_law 190 = .ok (.lshl, 1) := by decide +kernel
theorem dL_law_191 : decode cL_law 191 = .ok (.aload_n 0, 1) := by decide +kernel
theorem dL_law_192 : decode cL_law 192 = .ok (.iload 4, 2) := by decide +kernel
theorem dL_law_194 : decode cL_law 194 = .ok (.iconst 2, 1) := by decide +kernel
theorem dL_law_195 : decode cL_law 195 = .ok (.iadd, 1) := by decide +kernel
theorem dL_law_196 : decode cL_law 196 = .ok (.iaload, 1) := by decide +kernel
theorem dL_law_197 : decode cL_law 197 = .ok (.i2l, 1) := by decide +kernel
theorem dL_law_198 : decode cL_law 198 = .ok (.ldc2_w 23, 3) := by decide +kernel
theorem dL_law_201 : decode cL_law 201 = .ok (.land, 1) := by decide +kernel
theorem dL_law_202 : decode cL_law 202 = .ok (.lor, 1) := by decide +kernel
theorem dL_law_203 : decode cL_law 203 = .ok (.aload_n 0, 1) := by decide +kernel
theorem dL_law_204 : decode cL_law 204 = .ok (.iload 4, 2) := by decide +kernel
theorem dL_law_206 : decode cL_law 206 = .ok (.iconst 3, 1) := by decide +kernel
theorem dL_law_207 : decode cL_law 207 = .ok (.iadd, 1) := by decide +kernel
theorem dL_law_208 : decode cL_law 208 = .ok (.iaload, 1) := by decide +kernel
theorem dL_law_209 : decode cL_law 209 = .ok (.i2l, 1) := by decide +kernel
theorem dL_law_210 : decode cL_law 210 = .ok (.bipush 32, 2) := by decide +kernel
theorem dL_law_212 : decode cL_law 212 = .ok (.lshl, 1) := by decide +kernel
theorem dL_law_213 : decode cL_law 213 = .ok (.aload_n 0, 1) := by decide +kernel
theorem dL_law_214 : decode cL_law 214 = .ok (.iload 4, 2) := by decide +kernel
theorem dL_law_216 : decode cL_law 216 = .ok (.iconst 4, 1) := by decide +kernel
theorem dL_law_217 : decode cL_law 217 = .ok (.iadd, 1) := by decide +kernel
theorem dL_law_218 : decode cL_law 218 = .ok (.iaload, 1) := by decide +kernel
theorem dL_law_219 : decode cL_law 219 = .ok (.i2l, 1) := by decide +kernel
theorem dL_law_220 : decode cL_law 220 = .ok (.ldc2_w 23, 3) := by decide +kernel
theorem dL_law_223 : decode cL_law 223 = .ok (.land, 1) := by decide +kernel
theorem dL_law_224 : decode cL_law 224 = .ok (.lor, 1) := by decide +kernel
theorem dL_law_225 : decode cL_law 225 = .ok (.aload_n 0, 1) := by decide +kernel
theorem dL_law_226 : decode cL_law 226 = .ok (.iload 4, 2) := by decide +kernel
theorem dL_law_228 : decode cL_law 228 = .ok (.iconst 5, 1) := by decide +kernel
theorem dL_law_229 : decode cL_law 229 = .ok (.iadd, 1) := by decide +kernel
theorem dL_law_230 : decode cL_law 230 = .ok (.iaload, 1) := by decide +kernel
theorem dL_law_231 : decode cL_law 231 = .ok (.i2l, 1) := by decide +kernel
theorem dL_law_232 : decode cL_law 232 = .ok (.bipush 32, 2) := by decide +kernel
theorem dL_law_234 : decode cL_law 234 = .ok (.lshl, 1) := by decide +kernel
theorem dL_law_235 : decode cL_law 235 = .ok (.aload_n 0, 1) := by decide +kernel
theorem dL_law_236 : decode cL_law 236 = .ok (.iload 4, 2) := by decide +kernel
theorem dL_law_238 : decode cL_law 238 = .ok (.bipush 6, 2) := by decide +kernel
theorem dL_law_240 : decode cL_law 240 = .ok (.iadd, 1) := by decide +kernel
theorem dL_law_241 : decode cL_law 241 = .ok (.iaload, 1) := by decide +kernel
theorem dL_law_242 : decode cL_law 242 = .ok (.i2l, 1) := by decide +kernel
theorem dL_law_243 : decode cL_law 243 = .ok (.ldc2_w 23, 3) := by decide +kernel
theorem dL_law_246 : decode cL_law 246 = .ok (.land, 1) := by decide +kernel
theorem dL_law_247 : decode cL_law 247 = .ok (.lor, 1) := by decide +kernel
theorem dL_law_248 : decode cL_law 248 = .ok (.invokevirtual 25, 3) := by decide +kernel
theorem dL_law_251 : decode cL_law 251 = .ok (.aload_n 2, 1) := by decide +kernel
theorem dL_law_252 : decode cL_law 252 = .ok (.aload_n 0, 1) := by decide +kernel
theorem dL_law_253 : decode cL_law 253 = .ok (.iload 4, 2) := by decide +kernel
theorem dL_law_255 : decode cL_law 255 = .ok (.iconst 1, 1) := by decide +kernel
theorem dL_law_256 : decode cL_law 256 = .ok (.iadd, 1) := by decide +kernel
theorem dL_law_257 : decode cL_law 257 = .ok (.iaload, 1) := by decide +kernel
theorem dL_law_258 : decode cL_law 258 = .ok (.i2l, 1) := by decide +kernel
theorem dL_law_259 : decode cL_law 259 = .ok (.bipush 32, 2) := by decide +kernel
theorem dL_law_261 : decode cL_law 261 = .ok (.lshl, 1) := by decide +kernel
theorem dL_law_262 : decode cL_law 262 = .ok (.aload_n 0, 1) := by decide +kernel
theorem dL_law_263 : decode cL_law 263 = .ok (.iload 4, 2) := by decide +kernel
theorem dL_law_265 : decode cL_law 265 = .ok (.iconst 2, 1) := by decide +kernel
theorem dL_law_266 : decode cL_law 266 = .ok (.iadd, 1) := by decide +kernel
theorem dL_law_267 : decode cL_law 267 = .ok (.iaload, 1) := by decide +kernel
theorem dL_law_268 : decode cL_law 268 = .ok (.i2l, 1) := by decide +kernel
theorem dL_law_269 : decode cL_law 269 = .ok (.ldc2_w 23, 3) := by decide +kernel
theorem dL_law_272 : decode cL_law 272 = .ok (.land, 1) := by decide +kernel
theorem dL_law_273 : decode cL_law 273 = .ok (.lor, 1) := by decide +kernel
theorem dL_law_274 : decode cL_law 274 = .ok (.aload_n 0, 1) := by decide +kernel
theorem dL_law_275 : decode cL_law 275 = .ok (.iload 4, 2) := by decide +kernel
theorem dL_law_277 : decode cL_law 277 = .ok (.iconst 3, 1) := by decide +kernel
theorem dL_law_278 : decode cL_law 278 = .ok (.iadd, 1) := by decide +kernel
theorem dL_law_279 : decode cL_law 279 = .ok (.iaload, 1) := by decide +kernel
theorem dL_law_280 : decode cL_law 280 = .ok (.i2l, 1) := by decide +kernel
theorem dL_law_281 : decode cL_law 281 = .ok (.bipush 32, 2) := by decide +kernel
theorem dL_law_283 : decode cL_law 283 = .ok (.lshl, 1) := by decide +kernel
theorem dL_law_284 : decode cL_law 284 = .ok (.aload_n 0, 1) := by decide +kernel
theorem dL_law_285 : decode cL_law 285 = .ok (.iload 4, 2) := by decide +kernel
theorem dL_law_287 : decode cL_law 287 = .ok (.iconst 4, 1) := by decide +kernel
theorem dL_law_288 : decode cL_law 288 = .ok (.iadd, 1) := by decide +kernel
theorem dL_law_289 : decode cL_law 289 = .ok (.iaload, 1) := by decide +kernel
theorem dL_law_290 : decode cL_law 290 = .ok (.i2l, 1) := by decide +kernel
theorem dL_law_291 : decode cL_law 291 = .ok (.ldc2_w 23, 3) := by decide +kernel
theorem dL_law_294 : decode cL_law 294 = .ok (.land, 1) := by decide +kernel
theorem dL_law_295 : decode cL_law 295 = .ok (.lor, 1) := by decide +kernel
theorem dL_law_296 : decode cL_law 296 = .ok (.aload_n 0, 1) := by decide +kernel
theorem dL_law_297 : decode cL_law 297 = .ok (.iload 4, 2) := by decide +kernel
theorem dL_law_299 : decode cL_law 299 = .ok (.iconst 5, 1) := by decide +kernel
theorem dL_law_300 : decode cL_law 300 = .ok (.iadd, 1) := by decide +kernel
theorem dL_law_301 : decode cL_law 301 = .ok (.iaload, 1) := by decide +kernel
theorem dL_law_302 : decode cL_law 302 = .ok (.i2l, 1) := by decide +kernel
theorem dL_law_303 : decode cL_law 303 = .ok (.bipush 32, 2) := by decide +kernel
theorem dL_law_305 : decode cL_law 305 = .ok (.lshl, 1) := by decide +kernel
theorem dL_law_306 : decode cL_law 306 = .ok (.aload_n 0, 1) := by decide +kernel
theorem dL_law_307 : decode cL_law 307 = .ok (.iload 4, 2) := by decide +kernel
theorem dL_law_309 : decode cL_law 309 = .ok (.bipush 6, 2) := by decide +kernel
theorem dL_law_311 : decode cL_law 311 = .ok (.iadd, 1) := by decide +kernel
theorem dL_law_312 : decode cL_law 312 = .ok (.iaload, 1) := by decide +kernel
theorem dL_law_313 : decode cL_law 313 = .ok (.i2l, 1) := by decide +kernel
theorem dL_law_314 : decode cL_law 314 = .ok (.ldc2_w 23, 3) := by decide +kernel
theorem dL_law_317 : decode cL_law 317 = .ok (.land, 1) := by decide +kernel
theorem dL_law_318 : decode cL_law 318 = .ok (.lor, 1) := by decide +kernel
theorem dL_law_319 : decode cL_law 319 = .ok (.invokevirtual 29, 3) := by decide +kernel
theorem dL_law_322 : decode cL_law 322 = .ok (.if_icmp .eq 1041, 3) := by decide +kernel
theorem dL_law_325 : decode cL_law 325 = .ok (.iconst 0, 1) := by decide +kernel
theorem dL_law_326 : decode cL_law 326 = .ok (.ireturn, 1) := by decide +kernel
theorem dL_law_327 : decode cL_law 327 = .ok (.aload_n 1, 1) := by decide +kernel
theorem dL_law_328 : decode cL_law 328 = .ok (.invokevirtual 30, 3) := by decide +kernel
theorem dL_law_331 : decode cL_law 331 = .ok (.aload_n 2, 1) := by decide +kernel
theorem dL_law_332 : decode cL_law 332 = .ok (.invokevirtual 34, 3) := by decide +kernel
theorem dL_law_335 : decode cL_law 335 = .ok (.if_icmp .eq 1028, 3) := by decide +kernel
theorem dL_law_338 : decode cL_law 338 = .ok (.iconst 0, 1) := by decide +kernel
theorem dL_law_339 : decode cL_law 339 = .ok (.ireturn, 1) := by decide +kernel
theorem dL_law_340 : decode cL_law 340 = .ok (.aload_n 1, 1) := by decide +kernel
theorem dL_law_341 : decode cL_law 341 = .ok (.invokevirtual 35, 3) := by decide +kernel
theorem dL_law_344 : decode cL_law 344 = .ok (.aload_n 2, 1) := by decide +kernel
theorem dL_law_345 : decode cL_law 345 = .ok (.invokevirtual 38, 3) := by decide +kernel
theorem dL_law_348 : decode cL_law 348 = .ok (.if_icmp .eq 1015, 3) := by decide +kernel
theorem dL_law_351 : decode cL_law 351 = .ok (.iconst 0, 1) := by decide +kernel
theorem dL_law_352 : decode cL_law 352 = .ok (.ireturn, 1) := by decide +kernel
theorem dL_law_353 : decode cL_law 353 = .ok (.aload_n 1, 1) := by decide +kernel
theorem dL_law_354 : decode cL_law 354 = .ok (.aload_n 0, 1) := by decide +kernel
theorem dL_law_355 : decode cL_law 355 = .ok (.iload 4, 2) := by decide +kernel
theorem dL_law_357 : decode cL_law 357 = .ok (.iconst 1, 1) := by decide +kernel
theorem dL_law_358 : decode cL_law 358 = .ok (.iadd, 1) := by decide +kernel
theorem dL_law_359 : decode cL_law 359 = .ok (.iaload, 1) := by decide +kernel
theorem dL_law_360 : decode cL_law 360 = .ok (.aload_n 0, 1) := by decide +kernel
theorem dL_law_361 : decode cL_law 361 = .ok (.iload 4, 2) := by decide +kernel
theorem dL_law_363 : decode cL_law 363 = .ok (.iconst 2, 1) := by decide +kernel
theorem dL_law_364 : decode cL_law 364 = .ok (.iadd, 1) := by decide +kernel
theorem dL_law_365 : decode cL_law 365 = .ok (.iaload, 1) := by decide +kernel
theorem dL_law_366 : decode cL_law 366 = .ok (.invokevirtual 39, 3) := by decide +kernel
theorem dL_law_369 : decode cL_law 369 = .ok (.aload_n 2, 1) := by decide +kernel
theorem dL_law_370 : decode cL_law 370 = .ok (.aload_n 0, 1) := by decide +kernel
theorem dL_law_371 : decode cL_law 371 = .ok (.iload 4, 2) := by decide +kernel
theorem dL_law_373 : decode cL_law 373 = .ok (.iconst 1, 1) := by decide +kernel
theorem dL_law_374 : decode cL_law 374 = .ok (.iadd, 1) := by decide +kernel
theorem dL_law_375 : decode cL_law 375 = .ok (.iaload, 1) := by decide +kernel
theorem dL_law_376 : decode cL_law 376 = .ok (.aload_n 0, 1) := by decide +kernel
theorem dL_law_377 : decode cL_law 377 = .ok (.iload 4, 2) := by decide +kernel
theorem dL_law_379 : decode cL_law 379 = .ok (.iconst 2, 1) := by decide +kernel
theorem dL_law_380 : decode cL_law 380 = .ok (.iadd, 1) := by decide +kernel
theorem dL_law_381 : decode cL_law 381 = .ok (.iaload, 1) := by decide +kernel
theorem dL_law_382 : decode cL_law 382 = .ok (.invokevirtual 43, 3) := by decide +kernel
theorem dL_law_385 : decode cL_law 385 = .ok (.if_icmp .eq 978, 3) := by decide +kernel
theorem dL_law_388 : decode cL_law 388 = .ok (.iconst 0, 1) := by decide +kernel
theorem dL_law_389 : decode cL_law 389 = .ok (.ireturn, 1) := by decide +kernel
theorem dL_law_390 : decode cL_law 390 = .ok (.aload_n 1, 1) := by decide +kernel
theorem dL_law_391 : decode cL_law 391 = .ok (.aload_n 0, 1) := by decide +kernel
theorem dL_law_392 : decode cL_law 392 = .ok (.iload 4, 2) := by decide +kernel
theorem dL_law_394 : decode cL_law 394 = .ok (.iconst 1, 1) := by decide +kernel
theorem dL_law_395 : decode cL_law 395 = .ok (.iadd, 1) := by decide +kernel
theorem dL_law_396 : decode cL_law 396 = .ok (.iaload, 1) := by decide +kernel
theorem dL_law_397 : decode cL_law 397 = .ok (.aload_n 0, 1) := by decide +kernel
theorem dL_law_398 : decode cL_law 398 = .ok (.iload 4, 2) := by decide +kernel
theorem dL_law_400 : decode cL_law 400 = .ok (.iconst 2, 1) := by decide +kernel
theorem dL_law_401 : decode cL_law 401 = .ok (.iadd, 1) := by decide +kernel
theorem dL_law_402 : decode cL_law 402 = .ok (.iaload, 1) := by decide +kernel
theorem dL_law_403 : decode cL_law 403 = .ok (.invokevirtual 44, 3) := by decide +kernel
theorem dL_law_406 : decode cL_law 406 = .ok (.aload_n 2, 1) := by decide +kernel
theorem dL_law_407 : decode cL_law 407 = .ok (.aload_n 0, 1) := by decide +kernel
theorem dL_law_408 : decode cL_law 408 = .ok (.iload 4, 2) := by decide +kernel
theorem dL_law_410 : decode cL_law 410 = .ok (.iconst 1, 1) := by decide +kernel
theorem dL_law_411 : decode cL_law 411 = .ok (.iadd, 1) := by decide +kernel
theorem dL_law_412 : decode cL_law 412 = .ok (.iaload, 1) := by decide +kernel
theorem dL_law_413 : decode cL_law 413 = .ok (.aload_n 0, 1) := by decide +kernel
theorem dL_law_414 : decode cL_law 414 = .ok (.iload 4, 2) := by decide +kernel
theorem dL_law_416 : decode cL_law 416 = .ok (.iconst 2, 1) := by decide +kernel
theorem dL_law_417 : decode cL_law 417 = .ok (.iadd, 1) := by decide +kernel
theorem dL_law_418 : decode cL_law 418 = .ok (.iaload, 1) := by decide +kernel
theorem dL_law_419 : decode cL_law 419 = .ok (.invokevirtual 47, 3) := by decide +kernel
theorem dL_law_422 : decode cL_law 422 = .ok (.if_icmp .eq 941, 3) := by decide +kernel
theorem dL_law_425 : decode cL_law 425 = .ok (.iconst 0, 1) := by decide +kernel
theorem dL_law_426 : decode cL_law 426 = .ok (.ireturn, 1) := by decide +kernel
theorem dL_law_427 : decode cL_law 427 = .ok (.aload_n 1, 1) := by decide +kernel
theorem dL_law_428 : decode cL_law 428 = .ok (.aload_n 0, 1) := by decide +kernel
theorem dL_law_429 : decode cL_law 429 = .ok (.iload 4, 2) := by decide +kernel
theorem dL_law_431 : decode cL_law 431 = .ok (.iconst 1, 1) := by decide +kernel
theorem dL_law_432 : decode cL_law 432 = .ok (.iadd, 1) := by decide +kernel
theorem dL_law_433 : decode cL_law 433 = .ok (.iaload, 1) := by decide +kernel
theorem dL_law_434 : decode cL_law 434 = .ok (.aload_n 0, 1) := by decide +kernel
theorem dL_law_435 : decode cL_law 435 = .ok (.iload 4, 2) := by decide +kernel
theorem dL_law_437 : decode cL_law 437 = .ok (.iconst 2, 1) := by decide +kernel
theorem dL_law_438 : decode cL_law 438 = .ok (.iadd, 1) := by decide +kernel
theorem dL_law_439 : decode cL_law 439 = .ok (.iaload, 1) := by decide +kernel
theorem dL_law_440 : decode cL_law 440 = .ok (.aload_n 0, 1) := by decide +kernel
theorem dL_law_441 : decode cL_law 441 = .ok (.iload 4, 2) := by decide +kernel
theorem dL_law_443 : decode cL_law 443 = .ok (.iconst 3, 1) := by decide +kernel
theorem dL_law_444 : decode cL_law 444 = .ok (.iadd, 1) := by decide +kernel
theorem dL_law_445 : decode cL_law 445 = .ok (.iaload, 1) := by decide +kernel
theorem dL_law_446 : decode cL_law 446 = .ok (.invokevirtual 48, 3) := by decide +kernel
theorem dL_law_449 : decode cL_law 449 = .ok (.aload_n 2, 1) := by decide +kernel
theorem dL_law_450 : decode cL_law 450 = .ok (.aload_n 0, 1) := by decide +kernel
theorem dL_law_451 : decode cL_law 451 = .ok (.iload 4, 2) := by decide +kernel
theorem dL_law_453 : decode cL_law 453 = .ok (.iconst 1, 1) := by decide +kernel
theorem dL_law_454 : decode cL_law 454 = .ok (.iadd, 1) := by decide +kernel
theorem dL_law_455 : decode cL_law 455 = .ok (.iaload, 1) := by decide +kernel
theorem dL_law_456 : decode cL_law 456 = .ok (.aload_n 0, 1) := by decide +kernel
theorem dL_law_457 : decode cL_law 457 = .ok (.iload 4, 2) := by decide +kernel
theorem dL_law_459 : decode cL_law 459 = .ok (.iconst 2, 1) := by decide +kernel
theorem dL_law_460 : decode cL_law 460 = .ok (.iadd, 1) := by decide +kernel
theorem dL_law_461 : decode cL_law 461 = .ok (.iaload, 1) := by decide +kernel
theorem dL_law_462 : decode cL_law 462 = .ok (.aload_n 0, 1) := by decide +kernel
theorem dL_law_463 : decode cL_law 463 = .ok (.iload 4, 2) := by decide +kernel
theorem dL_law_465 : decode cL_law 465 = .ok (.iconst 3, 1) := by decide +kernel
theorem dL_law_466 : decode cL_law 466 = .ok (.iadd, 1) := by decide +kernel
theorem dL_law_467 : decode cL_law 467 = .ok (.iaload, 1) := by decide +kernel
theorem dL_law_468 : decode cL_law 468 = .ok (.invokevirtual 52, 3) := by decide +kernel
theorem dL_law_471 : decode cL_law 471 = .ok (.if_icmp .eq 892, 3) := by decide +kernel
theorem dL_law_474 : decode cL_law 474 = .ok (.iconst 0, 1) := by decide +kernel
theorem dL_law_475 : decode cL_law 475 = .ok (.ireturn, 1) := by decide +kernel
theorem dL_law_476 : decode cL_law 476 = .ok (.aload_n 1, 1) := by decide +kernel
theorem dL_law_477 : decode cL_law 477 = .ok (.aload_n 0, 1) := by decide +kernel
theorem dL_law_478 : decode cL_law 478 = .ok (.iload 4, 2) := by decide +kernel
theorem dL_law_480 : decode cL_law 480 = .ok (.iconst 1, 1) := by decide +kernel
theorem dL_law_481 : decode cL_law 481 = .ok (.iadd, 1) := by decide +kernel
theorem dL_law_482 : decode cL_law 482 = .ok (.iaload, 1) := by decide +kernel
theorem dL_law_483 : decode cL_law 483 = .ok (.aload_n 0, 1) := by decide +kernel
theorem dL_law_484 : decode cL_law 484 = .ok (.iload 4, 2) := by decide +kernel
theorem dL_law_486 : decode cL_law 486 = .ok (.iconst 2, 1) := by decide +kernel
theorem dL_law_487 : decode cL_law 487 = .ok (.iadd, 1) := by decide +kernel
theorem dL_law_488 : decode cL_law 488 = .ok (.iaload, 1) := by decide +kernel
theorem dL_law_489 : decode cL_law 489 = .ok (.invokevirtual 53, 3) := by decide +kernel
theorem dL_law_492 : decode cL_law 492 = .ok (.aload_n 2, 1) := by decide +kernel
theorem dL_law_493 : decode cL_law 493 = .ok (.aload_n 0, 1) := by decide +kernel
theorem dL_law_494 : decode cL_law 494 = .ok (.iload 4, 2) := by decide +kernel
theorem dL_law_496 : decode cL_law 496 = .ok (.iconst 1, 1) := by decide +kernel
theorem dL_law_497 : decode cL_law 497 = .ok (.iadd, 1) := by decide +kernel
theorem dL_law_498 : decode cL_law 498 = .ok (.iaload, 1) := by decide +kernel
theorem dL_law_499 : decode cL_law 499 = .ok (.aload_n 0, 1) := by decide +kernel
theorem dL_law_500 : decode cL_law 500 = .ok (.iload 4, 2) := by decide +kernel
theorem dL_law_502 : decode cL_law 502 = .ok (.iconst 2, 1) := by decide +kernel
theorem dL_law_503 : decode cL_law 503 = .ok (.iadd, 1) := by decide +kernel
theorem dL_law_504 : decode cL_law 504 = .ok (.iaload, 1) := by decide +kernel
theorem dL_law_505 : decode cL_law 505 = .ok (.invokevirtual 57, 3) := by decide +kernel
theorem dL_law_508 : decode cL_law 508 = .ok (.if_icmp .eq 855, 3) := by decide +kernel
theorem dL_law_511 : decode cL_law 511 = .ok (.iconst 0, 1) := by decide +kernel
theorem dL_law_512 : decode cL_law 512 = .ok (.ireturn, 1) := by decide +kernel
theorem dL_law_513 : decode cL_law 513 = .ok (.aload_n 1, 1) := by decide +kernel
theorem dL_law_514 : decode cL_law 514 = .ok (.aload_n 0, 1) := by decide +kernel
theorem dL_law_515 : decode cL_law 515 = .ok (.iload 4, 2) := by decide +kernel
theorem dL_law_517 : decode cL_law 517 = .ok (.iconst 1, 1) := by decide +kernel
theorem dL_law_518 : decode cL_law 518 = .ok (.iadd, 1) := by decide +kernel
theorem dL_law_519 : decode cL_law 519 = .ok (.iaload, 1) := by decide +kernel
theorem dL_law_520 : decode cL_law 520 = .ok (.invokevirtual 58, 3) := by decide +kernel
theorem dL_law_523 : decode cL_law 523 = .ok (.aload_n 2, 1) := by decide +kernel
theorem dL_law_524 : decode cL_law 524 = .ok (.aload_n 0, 1) := by decide +kernel
theorem dL_law_525 : decode cL_law 525 = .ok (.iload 4, 2) := by decide +kernel
theorem dL_law_527 : decode cL_law 527 = .ok (.iconst 1, 1) := by decide +kernel
theorem dL_law_528 : decode cL_law 528 = .ok (.iadd, 1) := by decide +kernel
theorem dL_law_529 : decode cL_law 529 = .ok (.iaload, 1) := by decide +kernel
theorem dL_law_530 : decode cL_law 530 = .ok (.invokevirtual 62, 3) := by decide +kernel
theorem dL_law_533 : decode cL_law 533 = .ok (.if_icmp .eq 830, 3) := by decide +kernel
theorem dL_law_536 : decode cL_law 536 = .ok (.iconst 0, 1) := by decide +kernel
theorem dL_law_537 : decode cL_law 537 = .ok (.ireturn, 1) := by decide +kernel
theorem dL_law_538 : decode cL_law 538 = .ok (.aload_n 1, 1) := by decide +kernel
theorem dL_law_539 : decode cL_law 539 = .ok (.aload_n 0, 1) := by decide +kernel
theorem dL_law_540 : decode cL_law 540 = .ok (.iload 4, 2) := by decide +kernel
theorem dL_law_542 : decode cL_law 542 = .ok (.iconst 1, 1) := by decide +kernel
theorem dL_law_543 : decode cL_law 543 = .ok (.iadd, 1) := by decide +kernel
theorem dL_law_544 : decode cL_law 544 = .ok (.iaload, 1) := by decide +kernel
theorem dL_law_545 : decode cL_law 545 = .ok (.invokevirtual 63, 3) := by decide +kernel
theorem dL_law_548 : decode cL_law 548 = .ok (.aload_n 2, 1) := by decide +kernel
theorem dL_law_549 : decode cL_law 549 = .ok (.aload_n 0, 1) := by decide +kernel
theorem dL_law_550 : decode cL_law 550 = .ok (.iload 4, 2) := by decide +kernel
theorem dL_law_552 : decode cL_law 552 = .ok (.iconst 1, 1) := by decide +kernel
theorem dL_law_553 : decode cL_law 553 = .ok (.iadd, 1) := by decide +kernel
theorem dL_law_554 : decode cL_law 554 = .ok (.iaload, 1) := by decide +kernel
theorem dL_law_555 : decode cL_law 555 = .ok (.invokevirtual 66, 3) := by decide +kernel
theorem dL_law_558 : decode cL_law 558 = .ok (.if_icmp .eq 805, 3) := by decide +kernel
theorem dL_law_561 : decode cL_law 561 = .ok (.iconst 0, 1) := by decide +kernel
theorem dL_law_562 : decode cL_law 562 = .ok (.ireturn, 1) := by decide +kernel
theorem dL_law_563 : decode cL_law 563 = .ok (.aload_n 1, 1) := by decide +kernel
theorem dL_law_564 : decode cL_law 564 = .ok (.invokevirtual 67, 3) := by decide +kernel
theorem dL_law_567 : decode cL_law 567 = .ok (.aload_n 2, 1) := by decide +kernel
theorem dL_law_568 : decode cL_law 568 = .ok (.invokevirtual 70, 3) := by decide +kernel
theorem dL_law_571 : decode cL_law 571 = .ok (.if_icmp .eq 792, 3) := by decide +kernel
theorem dL_law_574 : decode cL_law 574 = .ok (.iconst 0, 1) := by decide +kernel
theorem dL_law_575 : decode cL_law 575 = .ok (.ireturn, 1) := by decide +kernel
theorem dL_law_576 : decode cL_law 576 = .ok (.aload_n 1, 1) := by decide +kernel
theorem dL_law_577 : decode cL_law 577 = .ok (.invokevirtual 71, 3) := by decide +kernel
theorem dL_law_580 : decode cL_law 580 = .ok (.aload_n 2, 1) := by decide +kernel
theorem dL_law_581 : decode cL_law 581 = .ok (.invokevirtual 75, 3) := by decide +kernel
theorem dL_law_584 : decode cL_law 584 = .ok (.if_icmp .eq 779, 3) := by decide +kernel
theorem dL_law_587 : decode cL_law 587 = .ok (.iconst 0, 1) := by decide +kernel
theorem dL_law_588 : decode cL_law 588 = .ok (.ireturn, 1) := by decide +kernel
theorem dL_law_589 : decode cL_law 589 = .ok (.aload_n 1, 1) := by decide +kernel
theorem dL_law_590 : decode cL_law 590 = .ok (.aload_n 0, 1) := by decide +kernel
theorem dL_law_591 : decode cL_law 591 = .ok (.iload 4, 2) := by decide +kernel
theorem dL_law_593 : decode cL_law 593 = .ok (.iconst 1, 1) := by decide +kernel
theorem dL_law_594 : decode cL_law 594 = .ok (.iadd, 1) := by decide +kernel
theorem dL_law_595 : decode cL_law 595 = .ok (.iaload, 1) := by decide +kernel
theorem dL_law_596 : decode cL_law 596 = .ok (.invokevirtual 76, 3) := by decide +kernel
theorem dL_law_599 : decode cL_law 599 = .ok (.aload_n 2, 1) := by decide +kernel
theorem dL_law_600 : decode cL_law 600 = .ok (.aload_n 0, 1) := by decide +kernel
theorem dL_law_601 : decode cL_law 601 = .ok (.iload 4, 2) := by decide +kernel
theorem dL_law_603 : decode cL_law 603 = .ok (.iconst 1, 1) := by decide +kernel
theorem dL_law_604 : decode cL_law 604 = .ok (.iadd, 1) := by decide +kernel
theorem dL_law_605 : decode cL_law 605 = .ok (.iaload, 1) := by decide +kernel
theorem dL_law_606 : decode cL_law 606 = .ok (.invokevirtual 79, 3) := by decide +kernel
theorem dL_law_609 : decode cL_law 609 = .ok (.if_icmp .eq 754, 3) := by decide +kernel
theorem dL_law_612 : decode cL_law 612 = .ok (.iconst 0, 1) := by decide +kernel
theorem dL_law_613 : decode cL_law 613 = .ok (.ireturn, 1) := by decide +kernel
theorem dL_law_614 : decode cL_law 614 = .ok (.aload_n 1, 1) := by decide +kernel
theorem dL_law_615 : decode cL_law 615 = .ok (.aload_n 0, 1) := by decide +kernel
theorem dL_law_616 : decode cL_law 616 = .ok (.iload 4, 2) := by decide +kernel
theorem dL_law_618 : decode cL_law 618 = .ok (.iconst 1, 1) := by decide +kernel
theorem dL_law_619 : decode cL_law 619 = .ok (.iadd, 1) := by decide +kernel
theorem dL_law_620 : decode cL_law 620 = .ok (.iaload, 1) := by decide +kernel
theorem dL_law_621 : decode cL_law 621 = .ok (.invokevirtual 80, 3) := by decide +kernel
theorem dL_law_624 : decode cL_law 624 = .ok (.aload_n 2, 1) := by decide +kernel
theorem dL_law_625 : decode cL_law 625 = .ok (.aload_n 0, 1) := by decide +kernel
theorem dL_law_626 : decode cL_law 626 = .ok (.iload 4, 2) := by decide +kernel
theorem dL_law_628 : decode cL_law 628 = .ok (.iconst 1, 1) := by decide +kernel
theorem dL_law_629 : decode cL_law 629 = .ok (.iadd, 1) := by decide +kernel
theorem dL_law_630 : decode cL_law 630 = .ok (.iaload, 1) := by decide +kernel
theorem dL_law_631 : decode cL_law 631 = .ok (.invokevirtual 83, 3) := by decide +kernel
theorem dL_law_634 : decode cL_law 634 = .ok (.if_icmp .eq 729, 3) := by decide +kernel
theorem dL_law_637 : decode cL_law 637 = .ok (.iconst 0, 1) := by decide +kernel
theorem dL_law_638 : decode cL_law 638 = .ok (.ireturn, 1) := by decide +kernel
theorem dL_law_639 : decode cL_law 639 = .ok (.aload_n 1, 1) := by decide +kernel
theorem dL_law_640 : decode cL_law 640 = .ok (.aload_n 0, 1) := by decide +kernel
theorem dL_law_641 : decode cL_law 641 = .ok (.iload 4, 2) := by decide +kernel
theorem dL_law_643 : decode cL_law 643 = .ok (.iconst 1, 1) := by decide +kernel
theorem dL_law_644 : decode cL_law 644 = .ok (.iadd, 1) := by decide +kernel
theorem dL_law_645 : decode cL_law 645 = .ok (.iaload, 1) := by decide +kernel
theorem dL_law_646 : decode cL_law 646 = .ok (.aload_n 0, 1) := by decide +kernel
theorem dL_law_647 : decode cL_law 647 = .ok (.iload 4, 2) := by decide +kernel
theorem dL_law_649 : decode cL_law 649 = .ok (.iconst 2, 1) := by decide +kernel
theorem dL_law_650 : decode cL_law 650 = .ok (.iadd, 1) := by decide +kernel
theorem dL_law_651 : decode cL_law 651 = .ok (.iaload, 1) := by decide +kernel
theorem dL_law_652 : decode cL_law 652 = .ok (.invokevirtual 84, 3) := by decide +kernel
theorem dL_law_655 : decode cL_law 655 = .ok (.aload_n 2, 1) := by decide +kernel
theorem dL_law_656 : decode cL_law 656 = .ok (.aload_n 0, 1) := by decide +kernel
theorem dL_law_657 : decode cL_law 657 = .ok (.iload 4, 2) := by decide +kernel
theorem dL_law_659 : decode cL_law 659 = .ok (.iconst 1, 1) := by decide +kernel
theorem dL_law_660 : decode cL_law 660 = .ok (.iadd, 1) := by decide +kernel
theorem dL_law_661 : decode cL_law 661 = .ok (.iaload, 1) := by decide +kernel
theorem dL_law_662 : decode cL_law 662 = .ok (.aload_n 0, 1) := by decide +kernel
theorem dL_law_663 : decode cL_law 663 = .ok (.iload 4, 2) := by decide +kernel
theorem dL_law_665 : decode cL_law 665 = .ok (.iconst 2, 1) := by decide +kernel
theorem dL_law_666 : decode cL_law 666 = .ok (.iadd, 1) := by decide +kernel
theorem dL_law_667 : decode cL_law 667 = .ok (.iaload, 1) := by decide +kernel
theorem dL_law_668 : decode cL_law 668 = .ok (.invokevirtual 87, 3) := by decide +kernel
theorem dL_law_671 : decode cL_law 671 = .ok (.if_icmp .eq 692, 3) := by decide +kernel
theorem dL_law_674 : decode cL_law 674 = .ok (.iconst 0, 1) := by decide +kernel
theorem dL_law_675 : decode cL_law 675 = .ok (.ireturn, 1) := by decide +kernel
theorem dL_law_676 : decode cL_law 676 = .ok (.aload_n 1, 1) := by decide +kernel
theorem dL_law_677 : decode cL_law 677 = .ok (.aload_n 0, 1) := by decide +kernel
theorem dL_law_678 : decode cL_law 678 = .ok (.iload 4, 2) := by decide +kernel
theorem dL_law_680 : decode cL_law 680 = .ok (.iconst 1, 1) := by decide +kernel
theorem dL_law_681 : decode cL_law 681 = .ok (.iadd, 1) := by decide +kernel
theorem dL_law_682 : decode cL_law 682 = .ok (.iaload, 1) := by decide +kernel
theorem dL_law_683 : decode cL_law 683 = .ok (.aload_n 0, 1) := by decide +kernel
theorem dL_law_684 : decode cL_law 684 = .ok (.iload 4, 2) := by decide +kernel
theorem dL_law_686 : decode cL_law 686 = .ok (.iconst 2, 1) := by decide +kernel
theorem dL_law_687 : decode cL_law 687 = .ok (.iadd, 1) := by decide +kernel
theorem dL_law_688 : decode cL_law 688 = .ok (.iaload, 1) := by decide +kernel
theorem dL_law_689 : decode cL_law 689 = .ok (.aload_n 0, 1) := by decide +kernel
theorem dL_law_690 : decode cL_law 690 = .ok (.iload 4, 2) := by decide +kernel
theorem dL_law_692 : decode cL_law 692 = .ok (.iconst 3, 1) := by decide +kernel
theorem dL_law_693 : decode cL_law 693 = .ok (.iadd, 1) := by decide +kernel
theorem dL_law_694 : decode cL_law 694 = .ok (.iaload, 1) := by decide +kernel
theorem dL_law_695 : decode cL_law 695 = .ok (.ifCond .eq 7, 3) := by decide +kernel
theorem dL_law_698 : decode cL_law 698 = .ok (.iconst 1, 1) := by decide +kernel
theorem dL_law_699 : decode cL_law 699 = .ok (.goto 4, 3) := by decide +kernel
theorem dL_law_702 : decode cL_law 702 = .ok (.iconst 0, 1) := by decide +kernel
theorem dL_law_703 : decode cL_law 703 = .ok (.invokevirtual 88, 3) := by decide +kernel
theorem dL_law_706 : decode cL_law 706 = .ok (.aload_n 2, 1) := by decide +kernel
theorem dL_law_707 : decode cL_law 707 = .ok (.aload_n 0, 1) := by decide +kernel
theorem dL_law_708 : decode cL_law 708 = .ok (.iload 4, 2) := by decide +kernel
theorem dL_law_710 : decode cL_law 710 = .ok (.iconst 1, 1) := by decide +kernel
theorem dL_law_711 : decode cL_law 711 = .ok (.iadd, 1) := by decide +kernel
theorem dL_law_712 : decode cL_law 712 = .ok (.iaload, 1) := by decide +kernel
theorem dL_law_713 : decode cL_law 713 = .ok (.aload_n 0, 1) := by decide +kernel
theorem dL_law_714 : decode cL_law 714 = .ok (.iload 4, 2) := by decide +kernel
theorem dL_law_716 : decode cL_law 716 = .ok (.iconst 2, 1) := by decide +kernel
theorem dL_law_717 : decode cL_law 717 = .ok (.iadd, 1) := by decide +kernel
theorem dL_law_718 : decode cL_law 718 = .ok (.iaload, 1) := by decide +kernel
theorem dL_law_719 : decode cL_law 719 = .ok (.aload_n 0, 1) := by decide +kernel
theorem dL_law_720 : decode cL_law 720 = .ok (.iload 4, 2) := by decide +kernel
theorem dL_law_722 : decode cL_law 722 = .ok (.iconst 3, 1) := by decide +kernel
theorem dL_law_723 : decode cL_law 723 = .ok (.iadd, 1) := by decide +kernel
theorem dL_law_724 : decode cL_law 724 = .ok (.iaload, 1) := by decide +kernel
theorem dL_law_725 : decode cL_law 725 = .ok (.ifCond .eq 7, 3) := by decide +kernel
theorem dL_law_728 : decode cL_law 728 = .ok (.iconst 1, 1) := by decide +kernel
theorem dL_law_729 : decode cL_law 729 = .ok (.goto 4, 3) := by decide +kernel
theorem dL_law_732 : decode cL_law 732 = .ok (.iconst 0, 1) := by decide +kernel
theorem dL_law_733 : decode cL_law 733 = .ok (.invokevirtual 92, 3) := by decide +kernel
theorem dL_law_736 : decode cL_law 736 = .ok (.if_icmp .eq 627, 3) := by decide +kernel
theorem dL_law_739 : decode cL_law 739 = .ok (.iconst 0, 1) := by decide +kernel
theorem dL_law_740 : decode cL_law 740 = .ok (.ireturn, 1) := by decide +kernel
theorem dL_law_741 : decode cL_law 741 = .ok (.aload_n 1, 1) := by decide +kernel
theorem dL_law_742 : decode cL_law 742 = .ok (.aload_n 0, 1) := by decide +kernel
theorem dL_law_743 : decode cL_law 743 = .ok (.iload 4, 2) := by decide +kernel
theorem dL_law_745 : decode cL_law 745 = .ok (.iconst 1, 1) := by decide +kernel
theorem dL_law_746 : decode cL_law 746 = .ok (.iadd, 1) := by decide +kernel
theorem dL_law_747 : decode cL_law 747 = .ok (.iaload, 1) := by decide +kernel
theorem dL_law_748 : decode cL_law 748 = .ok (.invokevirtual 93, 3) := by decide +kernel
theorem dL_law_751 : decode cL_law 751 = .ok (.aload_n 2, 1) := by decide +kernel
theorem dL_law_752 : decode cL_law 752 = .ok (.aload_n 0, 1) := by decide +kernel
theorem dL_law_753 : decode cL_law 753 = .ok (.iload 4, 2) := by decide +kernel
theorem dL_law_755 : decode cL_law 755 = .ok (.iconst 1, 1) := by decide +kernel
theorem dL_law_756 : decode cL_law 756 = .ok (.iadd, 1) := by decide +kernel
theorem dL_law_757 : decode cL_law 757 = .ok (.iaload, 1) := by decide +kernel
theorem dL_law_758 : decode cL_law 758 = .ok (.invokevirtual 96, 3) := by decide +kernel
theorem dL_law_761 : decode cL_law 761 = .ok (.if_icmp .eq 602, 3) := by decide +kernel
theorem dL_law_764 : decode cL_law 764 = .ok (.iconst 0, 1) := by decide +kernel
theorem dL_law_765 : decode cL_law 765 = .ok (.ireturn, 1) := by decide +kernel
theorem dL_law_766 : decode cL_law 766 = .ok (.aload_n 1, 1) := by decide +kernel
theorem dL_law_767 : decode cL_law 767 = .ok (.aload_n 0, 1) := by decide +kernel
theorem dL_law_768 : decode cL_law 768 = .ok (.iload 4, 2) := by decide +kernel
theorem dL_law_770 : decode cL_law 770 = .ok (.iconst 1, 1) := by decide +kernel
theorem dL_law_771 : decode cL_law 771 = .ok (.iadd, 1) := by decide +kernel
theorem dL_law_772 : decode cL_law 772 = .ok (.iaload, 1) := by decide +kernel
theorem dL_law_773 : decode cL_law 773 = .ok (.invokevirtual 97, 3) := by decide +kernel
theorem dL_law_776 : decode cL_law 776 = .ok (.aload_n 2, 1) := by decide +kernel
theorem dL_law_777 : decode cL_law 777 = .ok (.aload_n 0, 1) := by decide +kernel
theorem dL_law_778 : decode cL_law 778 = .ok (.iload 4, 2) := by decide +kernel
theorem dL_law_780 : decode cL_law 780 = .ok (.iconst 1, 1) := by decide +kernel
theorem dL_law_781 : decode cL_law 781 = .ok (.iadd, 1) := by decide +kernel
theorem dL_law_782 : decode cL_law 782 = .ok (.iaload, 1) := by decide +kernel
theorem dL_law_783 : decode cL_law 783 = .ok (.invokevirtual 100, 3) := by decide +kernel
theorem dL_law_786 : decode cL_law 786 = .ok (.if_icmp .eq 577, 3) := by decide +kernel
theorem dL_law_789 : decode cL_law 789 = .ok (.iconst 0, 1) := by decide +kernel
theorem dL_law_790 : decode cL_law 790 = .ok (.ireturn, 1) := by decide +kernel
theorem dL_law_791 : decode cL_law 791 = .ok (.aload_n 1, 1) := by decide +kernel
theorem dL_law_792 : decode cL_law 792 = .ok (.aload_n 0, 1) := by decide +kernel
theorem dL_law_793 : decode cL_law 793 = .ok (.iload 4, 2) := by decide +kernel
theorem dL_law_795 : decode cL_law 795 = .ok (.iconst 1, 1) := by decide +kernel
theorem dL_law_796 : decode cL_law 796 = .ok (.iadd, 1) := by decide +kernel
theorem dL_law_797 : decode cL_law 797 = .ok (.iaload, 1) := by decide +kernel
theorem dL_law_798 : decode cL_law 798 = .ok (.aload_n 0, 1) := by decide +kernel
theorem dL_law_799 : decode cL_law 799 = .ok (.iload 4, 2) := by decide +kernel
theorem dL_law_801 : decode cL_law 801 = .ok (.iconst 2, 1) := by decide +kernel
theorem dL_law_802 : decode cL_law 802 = .ok (.iadd, 1) := by decide +kernel
theorem dL_law_803 : decode cL_law 803 = .ok (.iaload, 1) := by decide +kernel
theorem dL_law_804 : decode cL_law 804 = .ok (.aload_n 0, 1) := by decide +kernel
theorem dL_law_805 : decode cL_law 805 = .ok (.iload 4, 2) := by decide +kernel
theorem dL_law_807 : decode cL_law 807 = .ok (.iconst 3, 1) := by decide +kernel
theorem dL_law_808 : decode cL_law 808 = .ok (.iadd, 1) := by decide +kernel
theorem dL_law_809 : decode cL_law 809 = .ok (.iaload, 1) := by decide +kernel
theorem dL_law_810 : decode cL_law 810 = .ok (.invokevirtual 101, 3) := by decide +kernel
theorem dL_law_813 : decode cL_law 813 = .ok (.aload_n 2, 1) := by decide +kernel
theorem dL_law_814 : decode cL_law 814 = .ok (.aload_n 0, 1) := by decide +kernel
theorem dL_law_815 : decode cL_law 815 = .ok (.iload 4, 2) := by decide +kernel
theorem dL_law_817 : decode cL_law 817 = .ok (.iconst 1, 1) := by decide +kernel
theorem dL_law_818 : decode cL_law 818 = .ok (.iadd, 1) := by decide +kernel
theorem dL_law_819 : decode cL_law 819 = .ok (.iaload, 1) := by decide +kernel
theorem dL_law_820 : decode cL_law 820 = .ok (.aload_n 0, 1) := by decide +kernel
theorem dL_law_821 : decode cL_law 821 = .ok (.iload 4, 2) := by decide +kernel
theorem dL_law_823 : decode cL_law 823 = .ok (.iconst 2, 1) := by decide +kernel
theorem dL_law_824 : decode cL_law 824 = .ok (.iadd, 1) := by decide +kernel
theorem dL_law_825 : decode cL_law 825 = .ok (.iaload, 1) := by decide +kernel
theorem dL_law_826 : decode cL_law 826 = .ok (.aload_n 0, 1) := by decide +kernel
theorem dL_law_827 : decode cL_law 827 = .ok (.iload 4, 2) := by decide +kernel
theorem dL_law_829 : decode cL_law 829 = .ok (.iconst 3, 1) := by decide +kernel
theorem dL_law_830 : decode cL_law 830 = .ok (.iadd, 1) := by decide +kernel
theorem dL_law_831 : decode cL_law 831 = .ok (.iaload, 1) := by decide +kernel
theorem dL_law_832 : decode cL_law 832 = .ok (.invokevirtual 104, 3) := by decide +kernel
theorem dL_law_835 : decode cL_law 835 = .ok (.if_icmp .eq 528, 3) := by decide +kernel
theorem dL_law_838 : decode cL_law 838 = .ok (.iconst 0, 1) := by decide +kernel
theorem dL_law_839 : decode cL_law 839 = .ok (.ireturn, 1) := by decide +kernel
theorem dL_law_840 : decode cL_law 840 = .ok (.aload_n 1, 1) := by decide +kernel
theorem dL_law_841 : decode cL_law 841 = .ok (.aload_n 0, 1) := by decide +kernel
theorem dL_law_842 : decode cL_law 842 = .ok (.iload 4, 2) := by decide +kernel
theorem dL_law_844 : decode cL_law 844 = .ok (.iconst 1, 1) := by decide +kernel
theorem dL_law_845 : decode cL_law 845 = .ok (.iadd, 1) := by decide +kernel
theorem dL_law_846 : decode cL_law 846 = .ok (.iaload, 1) := by decide +kernel
theorem dL_law_847 : decode cL_law 847 = .ok (.invokevirtual 105, 3) := by decide +kernel
theorem dL_law_850 : decode cL_law 850 = .ok (.aload_n 2, 1) := by decide +kernel
theorem dL_law_851 : decode cL_law 851 = .ok (.aload_n 0, 1) := by decide +kernel
theorem dL_law_852 : decode cL_law 852 = .ok (.iload 4, 2) := by decide +kernel
theorem dL_law_854 : decode cL_law 854 = .ok (.iconst 1, 1) := by decide +kernel
theorem dL_law_855 : decode cL_law 855 = .ok (.iadd, 1) := by decide +kernel
theorem dL_law_856 : decode cL_law 856 = .ok (.iaload, 1) := by decide +kernel
theorem dL_law_857 : decode cL_law 857 = .ok (.invokevirtual 108, 3) := by decide +kernel
theorem dL_law_860 : decode cL_law 860 = .ok (.if_icmp .eq 503, 3) := by decide +kernel
theorem dL_law_863 : decode cL_law 863 = .ok (.iconst 0, 1) := by decide +kernel
theorem dL_law_864 : decode cL_law 864 = .ok (.ireturn, 1) := by decide +kernel
theorem dL_law_865 : decode cL_law 865 = .ok (.aload_n 1, 1) := by decide +kernel
theorem dL_law_866 : decode cL_law 866 = .ok (.aload_n 0, 1) := by decide +kernel
theorem dL_law_867 : decode cL_law 867 = .ok (.iload 4, 2) := by decide +kernel
theorem dL_law_869 : decode cL_law 869 = .ok (.iconst 1, 1) := by decide +kernel
theorem dL_law_870 : decode cL_law 870 = .ok (.iadd, 1) := by decide +kernel
theorem dL_law_871 : decode cL_law 871 = .ok (.iaload, 1) := by decide +kernel
theorem dL_law_872 : decode cL_law 872 = .ok (.aload_n 0, 1) := by decide +kernel
theorem dL_law_873 : decode cL_law 873 = .ok (.iload 4, 2) := by decide +kernel
theorem dL_law_875 : decode cL_law 875 = .ok (.iconst 2, 1) := by decide +kernel
theorem dL_law_876 : decode cL_law 876 = .ok (.iadd, 1) := by decide +kernel
theorem dL_law_877 : decode cL_law 877 = .ok (.iaload, 1) := by decide +kernel
theorem dL_law_878 : decode cL_law 878 = .ok (.invokevirtual 109, 3) := by decide +kernel
theorem dL_law_881 : decode cL_law 881 = .ok (.aload_n 2, 1) := by decide +kernel
theorem dL_law_882 : decode cL_law 882 = .ok (.aload_n 0, 1) := by decide +kernel
theorem dL_law_883 : decode cL_law 883 = .ok (.iload 4, 2) := by decide +kernel
theorem dL_law_885 : decode cL_law 885 = .ok (.iconst 1, 1) := by decide +kernel
theorem dL_law_886 : decode cL_law 886 = .ok (.iadd, 1) := by decide +kernel
theorem dL_law_887 : decode cL_law 887 = .ok (.iaload, 1) := by decide +kernel
theorem dL_law_888 : decode cL_law 888 = .ok (.aload_n 0, 1) := by decide +kernel
theorem dL_law_889 : decode cL_law 889 = .ok (.iload 4, 2) := by decide +kernel
theorem dL_law_891 : decode cL_law 891 = .ok (.iconst 2, 1) := by decide +kernel
theorem dL_law_892 : decode cL_law 892 = .ok (.iadd, 1) := by decide +kernel
theorem dL_law_893 : decode cL_law 893 = .ok (.iaload, 1) := by decide +kernel
theorem dL_law_894 : decode cL_law 894 = .ok (.invokevirtual 112, 3) := by decide +kernel
theorem dL_law_897 : decode cL_law 897 = .ok (.if_icmp .eq 466, 3) := by decide +kernel
theorem dL_law_900 : decode cL_law 900 = .ok (.iconst 0, 1) := by decide +kernel
theorem dL_law_901 : decode cL_law 901 = .ok (.ireturn, 1) := by decide +kernel
theorem dL_law_902 : decode cL_law 902 = .ok (.aload_n 1, 1) := by decide +kernel
theorem dL_law_903 : decode cL_law 903 = .ok (.aload_n 0, 1) := by decide +kernel
theorem dL_law_904 : decode cL_law 904 = .ok (.iload 4, 2) := by decide +kernel
theorem dL_law_906 : decode cL_law 906 = .ok (.iconst 1, 1) := by decide +kernel
theorem dL_law_907 : decode cL_law 907 = .ok (.iadd, 1) := by decide +kernel
theorem dL_law_908 : decode cL_law 908 = .ok (.iaload, 1) := by decide +kernel
theorem dL_law_909 : decode cL_law 909 = .ok (.aload_n 0, 1) := by decide +kernel
theorem dL_law_910 : decode cL_law 910 = .ok (.iload 4, 2) := by decide +kernel
theorem dL_law_912 : decode cL_law 912 = .ok (.iconst 2, 1) := by decide +kernel
theorem dL_law_913 : decode cL_law 913 = .ok (.iadd, 1) := by decide +kernel
theorem dL_law_914 : decode cL_law 914 = .ok (.iaload, 1) := by decide +kernel
theorem dL_law_915 : decode cL_law 915 = .ok (.invokevirtual 113, 3) := by decide +kernel
theorem dL_law_918 : decode cL_law 918 = .ok (.aload_n 2, 1) := by decide +kernel
theorem dL_law_919 : decode cL_law 919 = .ok (.aload_n 0, 1) := by decide +kernel
theorem dL_law_920 : decode cL_law 920 = .ok (.iload 4, 2) := by decide +kernel
theorem dL_law_922 : decode cL_law 922 = .ok (.iconst 1, 1) := by decide +kernel
theorem dL_law_923 : decode cL_law 923 = .ok (.iadd, 1) := by decide +kernel
theorem dL_law_924 : decode cL_law 924 = .ok (.iaload, 1) := by decide +kernel
theorem dL_law_925 : decode cL_law 925 = .ok (.aload_n 0, 1) := by decide +kernel
theorem dL_law_926 : decode cL_law 926 = .ok (.iload 4, 2) := by decide +kernel
theorem dL_law_928 : decode cL_law 928 = .ok (.iconst 2, 1) := by decide +kernel
theorem dL_law_929 : decode cL_law 929 = .ok (.iadd, 1) := by decide +kernel
theorem dL_law_930 : decode cL_law 930 = .ok (.iaload, 1) := by decide +kernel
theorem dL_law_931 : decode cL_law 931 = .ok (.invokevirtual 116, 3) := by decide +kernel
theorem dL_law_934 : decode cL_law 934 = .ok (.if_icmp .eq 429, 3) := by decide +kernel
theorem dL_law_937 : decode cL_law 937 = .ok (.iconst 0, 1) := by decide +kernel
theorem dL_law_938 : decode cL_law 938 = .ok (.ireturn, 1) := by decide +kernel
theorem dL_law_939 : decode cL_law 939 = .ok (.aload_n 1, 1) := by decide +kernel
theorem dL_law_940 : decode cL_law 940 = .ok (.aload_n 0, 1) := by decide +kernel
theorem dL_law_941 : decode cL_law 941 = .ok (.iload 4, 2) := by decide +kernel
theorem dL_law_943 : decode cL_law 943 = .ok (.iconst 1, 1) := by decide +kernel
theorem dL_law_944 : decode cL_law 944 = .ok (.iadd, 1) := by decide +kernel
theorem dL_law_945 : decode cL_law 945 = .ok (.iaload, 1) := by decide +kernel
theorem dL_law_946 : decode cL_law 946 = .ok (.invokevirtual 117, 3) := by decide +kernel
theorem dL_law_949 : decode cL_law 949 = .ok (.aload_n 2, 1) := by decide +kernel
theorem dL_law_950 : decode cL_law 950 = .ok (.aload_n 0, 1) := by decide +kernel
theorem dL_law_951 : decode cL_law 951 = .ok (.iload 4, 2) := by decide +kernel
theorem dL_law_953 : decode cL_law 953 = .ok (.iconst 1, 1) := by decide +kernel
theorem dL_law_954 : decode cL_law 954 = .ok (.iadd, 1) := by decide +kernel
theorem dL_law_955 : decode cL_law 955 = .ok (.iaload, 1) := by decide +kernel
theorem dL_law_956 : decode cL_law 956 = .ok (.invokevirtual 120, 3) := by decide +kernel
theorem dL_law_959 : decode cL_law 959 = .ok (.if_icmp .eq 404, 3) := by decide +kernel
theorem dL_law_962 : decode cL_law 962 = .ok (.iconst 0, 1) := by decide +kernel
theorem dL_law_963 : decode cL_law 963 = .ok (.ireturn, 1) := by decide +kernel
theorem dL_law_964 : decode cL_law 964 = .ok (.aload_n 1, 1) := by decide +kernel
theorem dL_law_965 : decode cL_law 965 = .ok (.invokevirtual 121, 3) := by decide +kernel
theorem dL_law_968 : decode cL_law 968 = .ok (.aload_n 2, 1) := by decide +kernel
theorem dL_law_969 : decode cL_law 969 = .ok (.invokevirtual 124, 3) := by decide +kernel
theorem dL_law_972 : decode cL_law 972 = .ok (.if_icmp .eq 391, 3) := by decide +kernel
theorem dL_law_975 : decode cL_law 975 = .ok (.iconst 0, 1) := by decide +kernel
theorem dL_law_976 : decode cL_law 976 = .ok (.ireturn, 1) := by decide +kernel
theorem dL_law_977 : decode cL_law 977 = .ok (.aload_n 1, 1) := by decide +kernel
theorem dL_law_978 : decode cL_law 978 = .ok (.aload_n 0, 1) := by decide +kernel
theorem dL_law_979 : decode cL_law 979 = .ok (.iload 4, 2) := by decide +kernel
theorem dL_law_981 : decode cL_law 981 = .ok (.iconst 1, 1) := by decide +kernel
theorem dL_law_982 : decode cL_law 982 = .ok (.iadd, 1) := by decide +kernel
theorem dL_law_983 : decode cL_law 983 = .ok (.iaload, 1) := by decide +kernel
theorem dL_law_984 : decode cL_law 984 = .ok (.invokevirtual 125, 3) := by decide +kernel
theorem dL_law_987 : decode cL_law 987 = .ok (.aload_n 2, 1) := by decide +kernel
theorem dL_law_988 : decode cL_law 988 = .ok (.aload_n 0, 1) := by decide +kernel
theorem dL_law_989 : decode cL_law 989 = .ok (.iload 4, 2) := by decide +kernel
theorem dL_law_991 : decode cL_law 991 = .ok (.iconst 1, 1) := by decide +kernel
theorem dL_law_992 : decode cL_law 992 = .ok (.iadd, 1) := by decide +kernel
theorem dL_law_993 : decode cL_law 993 = .ok (.iaload, 1) := by decide +kernel
theorem dL_law_994 : decode cL_law 994 = .ok (.invokevirtual 128, 3) := by decide +kernel
theorem dL_law_997 : decode cL_law 997 = .ok (.if_icmp .eq 366, 3) := by decide +kernel
theorem dL_law_1000 : decode cL_law 1000 = .ok (.iconst 0, 1) := by decide +kernel
theorem dL_law_1001 : decode cL_law 1001 = .ok (.ireturn, 1) := by decide +kernel
theorem dL_law_1002 : decode cL_law 1002 = .ok (.aload_n 1, 1) := by decide +kernel
theorem dL_law_1003 : decode cL_law 1003 = .ok (.aload_n 0, 1) := by decide +kernel
theorem dL_law_1004 : decode cL_law 1004 = .ok (.iload 4, 2) := by decide +kernel
theorem dL_law_1006 : decode cL_law 1006 = .ok (.iconst 1, 1) := by decide +kernel
theorem dL_law_1007 : decode cL_law 1007 = .ok (.iadd, 1) := by decide +kernel
theorem dL_law_1008 : decode cL_law 1008 = .ok (.iaload, 1) := by decide +kernel
theorem dL_law_1009 : decode cL_law 1009 = .ok (.aload_n 0, 1) := by decide +kernel
theorem dL_law_1010 : decode cL_law 1010 = .ok (.iload 4, 2) := by decide +kernel
theorem dL_law_1012 : decode cL_law 1012 = .ok (.iconst 2, 1) := by decide +kernel
theorem dL_law_1013 : decode cL_law 1013 = .ok (.iadd, 1) := by decide +kernel
theorem dL_law_1014 : decode cL_law 1014 = .ok (.iaload, 1) := by decide +kernel
theorem dL_law_1015 : decode cL_law 1015 = .ok (.invokevirtual 129, 3) := by decide +kernel
theorem dL_law_1018 : decode cL_law 1018 = .ok (.aload_n 2, 1) := by decide +kernel
theorem dL_law_1019 : decode cL_law 1019 = .ok (.aload_n 0, 1) := by decide +kernel
theorem dL_law_1020 : decode cL_law 1020 = .ok (.iload 4, 2) := by decide +kernel
theorem dL_law_1022 : decode cL_law 1022 = .ok (.iconst 1, 1) := by decide +kernel
theorem dL_law_1023 : decode cL_law 1023 = .ok (.iadd, 1) := by decide +kernel
theorem dL_law_1024 : decode cL_law 1024 = .ok (.iaload, 1) := by decide +kernel
theorem dL_law_1025 : decode cL_law 1025 = .ok (.aload_n 0, 1) := by decide +kernel
theorem dL_law_1026 : decode cL_law 1026 = .ok (.iload 4, 2) := by decide +kernel
theorem dL_law_1028 : decode cL_law 1028 = .ok (.iconst 2, 1) := by decide +kernel
theorem dL_law_1029 : decode cL_law 1029 = .ok (.iadd, 1) := by decide +kernel
theorem dL_law_1030 : decode cL_law 1030 = .ok (.iaload, 1) := by decide +kernel
theorem dL_law_1031 : decode cL_law 1031 = .ok (.invokevirtual 132, 3) := by decide +kernel
theorem dL_law_1034 : decode cL_law 1034 = .ok (.if_icmp .eq 329, 3) := by decide +kernel
theorem dL_law_1037 : decode cL_law 1037 = .ok (.iconst 0, 1) := by decide +kernel
theorem dL_law_1038 : decode cL_law 1038 = .ok (.ireturn, 1) := by decide +kernel
theorem dL_law_1039 : decode cL_law 1039 = .ok (.aload_n 1, 1) := by decide +kernel
theorem dL_law_1040 : decode cL_law 1040 = .ok (.aload_n 0, 1) := by decide +kernel
theorem dL_law_1041 : decode cL_law 1041 = .ok (.iload 4, 2) := by decide +kernel
theorem dL_law_1043 : decode cL_law 1043 = .ok (.iconst 1, 1) := by decide +kernel
theorem dL_law_1044 : decode cL_law 1044 = .ok (.iadd, 1) := by decide +kernel
theorem dL_law_1045 : decode cL_law 1045 = .ok (.iaload, 1) := by decide +kernel
theorem dL_law_1046 : decode cL_law 1046 = .ok (.invokevirtual 133, 3) := by decide +kernel
theorem dL_law_1049 : decode cL_law 1049 = .ok (.aload_n 2, 1) := by decide +kernel
theorem dL_law_1050 : decode cL_law 1050 = .ok (.aload_n 0, 1) := by decide +kernel
theorem dL_law_1051 : decode cL_law 1051 = .ok (.iload 4, 2) := by decide +kernel
theorem dL_law_1053 : decode cL_law 1053 = .ok (.iconst 1, 1) := by decide +kernel
theorem dL_law_1054 : decode cL_law 1054 = .ok (.iadd, 1) := by decide +kernel
theorem dL_law_1055 : decode cL_law 1055 = .ok (.iaload, 1) := by decide +kernel
theorem dL_law_1056 : decode cL_law 1056 = .ok (.invokevirtual 136, 3) := by decide +kernel
theorem dL_law_1059 : decode cL_law 1059 = .ok (.if_icmp .eq 304, 3) := by decide +kernel
theorem dL_law_1062 : decode cL_law 1062 = .ok (.iconst 0, 1) := by decide +kernel
theorem dL_law_1063 : decode cL_law 1063 = .ok (.ireturn, 1) := by decide +kernel
theorem dL_law_1064 : decode cL_law 1064 = .ok (.aload_n 1, 1) := by decide +kernel
theorem dL_law_1065 : decode cL_law 1065 = .ok (.aload_n 0, 1) := by decide +kernel
theorem dL_law_1066 : decode cL_law 1066 = .ok (.iload 4, 2) := by decide +kernel
theorem dL_law_1068 : decode cL_law 1068 = .ok (.iconst 1, 1) := by decide +kernel
theorem dL_law_1069 : decode cL_law 1069 = .ok (.iadd, 1) := by decide +kernel
theorem dL_law_1070 : decode cL_law 1070 = .ok (.iaload, 1) := by decide +kernel
theorem dL_law_1071 : decode cL_law 1071 = .ok (.aload_n 0, 1) := by decide +kernel
theorem dL_law_1072 : decode cL_law 1072 = .ok (.iload 4, 2) := by decide +kernel
theorem dL_law_1074 : decode cL_law 1074 = .ok (.iconst 2, 1) := by decide +kernel
theorem dL_law_1075 : decode cL_law 1075 = .ok (.iadd, 1) := by decide +kernel
theorem dL_law_1076 : decode cL_law 1076 = .ok (.iaload, 1) := by decide +kernel
theorem dL_law_1077 : decode cL_law 1077 = .ok (.aload_n 0, 1) := by decide +kernel
theorem dL_law_1078 : decode cL_law 1078 = .ok (.iload 4, 2) := by decide +kernel
theorem dL_law_1080 : decode cL_law 1080 = .ok (.iconst 3, 1) := by decide +kernel
theorem dL_law_1081 : decode cL_law 1081 = .ok (.iadd, 1) := by decide +kernel
theorem dL_law_1082 : decode cL_law 1082 = .ok (.iaload, 1) := by decide +kernel
theorem dL_law_1083 : decode cL_law 1083 = .ok (.aload_n 3, 1) := by decide +kernel
theorem dL_law_1084 : decode cL_law 1084 = .ok (.invokestatic 137, 3) := by decide +kernel
theorem dL_law_1087 : decode cL_law 1087 = .ok (.istore 5, 2) := by decide +kernel
theorem dL_law_1089 : decode cL_law 1089 = .ok (.aload_n 2, 1) := by decide +kernel
theorem dL_law_1090 : decode cL_law 1090 = .ok (.aload_n 0, 1) := by decide +kernel
theorem dL_law_1091 : decode cL_law 1091 = .ok (.iload 4, 2) := by decide +kernel
theorem dL_law_1093 : decode cL_law 1093 = .ok (.iconst 1, 1) := by decide +kernel
theorem dL_law_1094 : decode cL_law 1094 = .ok (.iadd, 1) := by decide +kernel
theorem dL_law_1095 : decode cL_law 1095 = .ok (.iaload, 1) := by decide +kernel
theorem dL_law_1096 : decode cL_law 1096 = .ok (.aload_n 0, 1) := by decide +kernel
theorem dL_law_1097 : decode cL_law 1097 = .ok (.iload 4, 2) := by decide +kernel
theorem dL_law_1099 : decode cL_law 1099 = .ok (.iconst 2, 1) := by decide +kernel
theorem dL_law_1100 : decode cL_law 1100 = .ok (.iadd, 1) := by decide +kernel
theorem dL_law_1101 : decode cL_law 1101 = .ok (.iaload, 1) := by decide +kernel
theorem dL_law_1102 : decode cL_law 1102 = .ok (.aload_n 0, 1) := by decide +kernel
theorem dL_law_1103 : decode cL_law 1103 = .ok (.iload 4, 2) := by decide +kernel
theorem dL_law_1105 : decode cL_law 1105 = .ok (.iconst 3, 1) := by decide +kernel
theorem dL_law_1106 : decode cL_law 1106 = .ok (.iadd, 1) := by decide +kernel
theorem dL_law_1107 : decode cL_law 1107 = .ok (.iaload, 1) := by decide +kernel
theorem dL_law_1108 : decode cL_law 1108 = .ok (.invokevirtual 142, 3) := by decide +kernel
theorem dL_law_1111 : decode cL_law 1111 = .ok (.istore 6, 2) := by decide +kernel
theorem dL_law_1113 : decode cL_law 1113 = .ok (.aload_n 2, 1) := by decide +kernel
theorem dL_law_1114 : decode cL_law 1114 = .ok (.invokevirtual 143, 3) := by decide +kernel
theorem dL_law_1117 : decode cL_law 1117 = .ok (.iload 5, 2) := by decide +kernel
theorem dL_law_1119 : decode cL_law 1119 = .ok (.if_icmp .eq 5, 3) := by decide +kernel
theorem dL_law_1122 : decode cL_law 1122 = .ok (.iconst 0, 1) := by decide +kernel
theorem dL_law_1123 : decode cL_law 1123 = .ok (.ireturn, 1) := by decide +kernel
theorem dL_law_1124 : decode cL_law 1124 = .ok (.iload 5, 2) := by decide +kernel
theorem dL_law_1126 : decode cL_law 1126 = .ok (.ifCond .ne 15, 3) := by decide +kernel
theorem dL_law_1129 : decode cL_law 1129 = .ok (.aload_n 3, 1) := by decide +kernel
theorem dL_law_1130 : decode cL_law 1130 = .ok (.iconst 0, 1) := by decide +kernel
theorem dL_law_1131 : decode cL_law 1131 = .ok (.laload, 1) := by decide +kernel
theorem dL_law_1132 : decode cL_law 1132 = .ok (.iload 6, 2) := by decide +kernel
theorem dL_law_1134 : decode cL_law 1134 = .ok (.i2l, 1) := by decide +kernel
theorem dL_law_1135 : decode cL_law 1135 = .ok (.lcmp, 1) := by decide +kernel
theorem dL_law_1136 : decode cL_law 1136 = .ok (.ifCond .eq 5, 3) := by decide +kernel
theorem dL_law_1139 : decode cL_law 1139 = .ok (.iconst 0, 1) := by decide +kernel
theorem dL_law_1140 : decode cL_law 1140 = .ok (.ireturn, 1) := by decide +kernel
theorem dL_law_1141 : decode cL_law 1141 = .ok (.goto 222, 3) := by decide +kernel
theorem dL_law_1144 : decode cL_law 1144 = .ok (.aload_n 1, 1) := by decide +kernel
theorem dL_law_1145 : decode cL_law 1145 = .ok (.aload_n 0, 1) := by decide +kernel
theorem dL_law_1146 : decode cL_law 1146 = .ok (.iload 4, 2) := by decide +kernel
theorem dL_law_1148 : decode cL_law 1148 = .ok (.iconst 1, 1) := by decide +kernel
theorem dL_law_1149 : decode cL_law 1149 = .ok (.iadd, 1) := by decide +kernel
theorem dL_law_1150 : decode cL_law 1150 = .ok (.iaload, 1) := by decide +kernel
theorem dL_law_1151 : decode cL_law 1151 = .ok (.aload_n 0, 1) := by decide +kernel
theorem dL_law_1152 : decode cL_law 1152 = .ok (.iload 4, 2) := by decide +kernel
theorem dL_law_1154 : decode cL_law 1154 = .ok (.iconst 2, 1) := by decide +kernel
theorem dL_law_1155 : decode cL_law 1155 = .ok (.iadd, 1) := by decide +kernel
theorem dL_law_1156 : decode cL_law 1156 = .ok (.iaload, 1) := by decide +kernel
theorem dL_law_1157 : decode cL_law 1157 = .ok (.aload_n 0, 1) := by decide +kernel
theorem dL_law_1158 : decode cL_law 1158 = .ok (.iload 4, 2) := by decide +kernel
theorem dL_law_1160 : decode cL_law 1160 = .ok (.iconst 3, 1) := by decide +kernel
theorem dL_law_1161 : decode cL_law 1161 = .ok (.iadd, 1) := by decide +kernel
theorem dL_law_1162 : decode cL_law 1162 = .ok (.iaload, 1) := by decide +kernel
theorem dL_law_1163 : decode cL_law 1163 = .ok (.aload_n 0, 1) := by decide +kernel
theorem dL_law_1164 : decode cL_law 1164 = .ok (.iload 4, 2) := by decide +kernel
theorem dL_law_1166 : decode cL_law 1166 = .ok (.iconst 4, 1) := by decide +kernel
theorem dL_law_1167 : decode cL_law 1167 = .ok (.iadd, 1) := by decide +kernel
theorem dL_law_1168 : decode cL_law 1168 = .ok (.iaload, 1) := by decide +kernel
theorem dL_law_1169 : decode cL_law 1169 = .ok (.aload_n 3, 1) := by decide +kernel
theorem dL_law_1170 : decode cL_law 1170 = .ok (.invokestatic 146, 3) := by decide +kernel
theorem dL_law_1173 : decode cL_law 1173 = .ok (.istore 5, 2) := by decide +kernel
theorem dL_law_1175 : decode cL_law 1175 = .ok (.aload_n 2, 1) := by decide +kernel
theorem dL_law_1176 : decode cL_law 1176 = .ok (.aload_n 0, 1) := by decide +kernel
theorem dL_law_1177 : decode cL_law 1177 = .ok (.iload 4, 2) := by decide +kernel
theorem dL_law_1179 : decode cL_law 1179 = .ok (.iconst 1, 1) := by decide +kernel
theorem dL_law_1180 : decode cL_law 1180 = .ok (.iadd, 1) := by decide +kernel
theorem dL_law_1181 : decode cL_law 1181 = .ok (.iaload, 1) := by decide +kernel
theorem dL_law_1182 : decode cL_law 1182 = .ok (.aload_n 0, 1) := by decide +kernel
theorem dL_law_1183 : decode cL_law 1183 = .ok (.iload 4, 2) := by decide +kernel
theorem dL_law_1185 : decode cL_law 1185 = .ok (.iconst 2, 1) := by decide +kernel
theorem dL_law_1186 : decode cL_law 1186 = .ok (.iadd, 1) := by decide +kernel
theorem dL_law_1187 : decode cL_law 1187 = .ok (.iaload, 1) := by decide +kernel
theorem dL_law_1188 : decode cL_law 1188 = .ok (.aload_n 0, 1) := by decide +kernel
theorem dL_law_1189 : decode cL_law 1189 = .ok (.iload 4, 2) := by decide +kernel
theorem dL_law_1191 : decode cL_law 1191 = .ok (.iconst 3, 1) := by decide +kernel
theorem dL_law_1192 : decode cL_law 1192 = .ok (.iadd, 1) := by decide +kernel
theorem dL_law_1193 : decode cL_law 1193 = .ok (.iaload, 1) := by decide +kernel
theorem dL_law_1194 : decode cL_law 1194 = .ok (.aload_n 0, 1) := by decide +kernel
theorem dL_law_1195 : decode cL_law 1195 = .ok (.iload 4, 2) := by decide +kernel
theorem dL_law_1197 : decode cL_law 1197 = .ok (.iconst 4, 1) := by decide +kernel
theorem dL_law_1198 : decode cL_law 1198 = .ok (.iadd, 1) := by decide +kernel
theorem dL_law_1199 : decode cL_law 1199 = .ok (.iaload, 1) := by decide +kernel
theorem dL_law_1200 : decode cL_law 1200 = .ok (.invokevirtual 149, 3) := by decide +kernel
theorem dL_law_1203 : decode cL_law 1203 = .ok (.istore 6, 2) := by decide +kernel
theorem dL_law_1205 : decode cL_law 1205 = .ok (.aload_n 2, 1) := by decide +kernel
theorem dL_law_1206 : decode cL_law 1206 = .ok (.invokevirtual 143, 3) := by decide +kernel
theorem dL_law_1209 : decode cL_law 1209 = .ok (.iload 5, 2) := by decide +kernel
theorem dL_law_1211 : decode cL_law 1211 = .ok (.if_icmp .eq 5, 3) := by decide +kernel
theorem dL_law_1214 : decode cL_law 1214 = .ok (.iconst 0, 1) := by decide +kernel
theorem dL_law_1215 : decode cL_law 1215 = .ok (.ireturn, 1) := by decide +kernel
theorem dL_law_1216 : decode cL_law 1216 = .ok (.iload 5, 2) := by decide +kernel
theorem dL_law_1218 : decode cL_law 1218 = .ok (.ifCond .ne 15, 3) := by decide +kernel
theorem dL_law_1221 : decode cL_law 1221 = .ok (.aload_n 3, 1) := by decide +kernel
theorem dL_law_1222 : decode cL_law 1222 = .ok (.iconst 0, 1) := by decide +kernel
theorem dL_law_1223 : decode cL_law 1223 = .ok (.laload, 1) := by decide +kernel
theorem dL_law_1224 : decode cL_law 1224 = .ok (.iload 6, 2) := by decide +kernel
theorem dL_law_1226 : decode cL_law 1226 = .ok (.i2l, 1) := by decide +kernel
theorem dL_law_1227 : decode cL_law 1227 = .ok (.lcmp, 1) := by decide +kernel
theorem dL_law_1228 : decode cL_law 1228 = .ok (.ifCond .eq 5, 3) := by decide +kernel
theorem dL_law_1231 : decode cL_law 1231 = .ok (.iconst 0, 1) := by decide +kernel
theorem dL_law_1232 : decode cL_law 1232 = .ok (.ireturn, 1) := by decide +kernel
theorem dL_law_1233 : decode cL_law 1233 = .ok (.goto 130, 3) := by decide +kernel
theorem dL_law_1236 : decode cL_law 1236 = .ok (.aload_n 1, 1) := by decide +kernel
theorem dL_law_1237 : decode cL_law 1237 = .ok (.aload_n 0, 1) := by decide +kernel
theorem dL_law_1238 : decode cL_law 1238 = .ok (.iload 4, 2) := by decide +kernel
theorem dL_law_1240 : decode cL_law 1240 = .ok (.iconst 1, 1) := by decide +kernel
theorem dL_law_1241 : decode cL_law 1241 = .ok (.iadd, 1) := by decide +kernel
theorem dL_law_1242 : decode cL_law 1242 = .ok (.iaload, 1) := by decide +kernel
theorem dL_law_1243 : decode cL_law 1243 = .ok (.aload_n 0, 1) := by decide +kernel
theorem dL_law_1244 : decode cL_law 1244 = .ok (.iload 4, 2) := by decide +kernel
theorem dL_law_1246 : decode cL_law 1246 = .ok (.iconst 2, 1) := by decide +kernel
theorem dL_law_1247 : decode cL_law 1247 = .ok (.iadd, 1) := by decide +kernel
theorem dL_law_1248 : decode cL_law 1248 = .ok (.iaload, 1) := by decide +kernel
theorem dL_law_1249 : decode cL_law 1249 = .ok (.aload_n 0, 1) := by decide +kernel
theorem dL_law_1250 : decode cL_law 1250 = .ok (.iload 4, 2) := by decide +kernel
theorem dL_law_1252 : decode cL_law 1252 = .ok (.iconst 3, 1) := by decide +kernel
theorem dL_law_1253 : decode cL_law 1253 = .ok (.iadd, 1) := by decide +kernel
theorem dL_law_1254 : decode cL_law 1254 = .ok (.iaload, 1) := by decide +kernel
theorem dL_law_1255 : decode cL_law 1255 = .ok (.invokevirtual 150, 3) := by decide +kernel
theorem dL_law_1258 : decode cL_law 1258 = .ok (.aload_n 2, 1) := by decide +kernel
theorem dL_law_1259 : decode cL_law 1259 = .ok (.aload_n 0, 1) := by decide +kernel
theorem dL_law_1260 : decode cL_law 1260 = .ok (.iload 4, 2) := by decide +kernel
theorem dL_law_1262 : decode cL_law 1262 = .ok (.iconst 1, 1) := by decide +kernel
theorem dL_law_1263 : decode cL_law 1263 = .ok (.iadd, 1) := by decide +kernel
theorem dL_law_1264 : decode cL_law 1264 = .ok (.iaload, 1) := by decide +kernel
theorem dL_law_1265 : decode cL_law 1265 = .ok (.aload_n 0, 1) := by decide +kernel
theorem dL_law_1266 : decode cL_law 1266 = .ok (.iload 4, 2) := by decide +kernel
theorem dL_law_1268 : decode cL_law 1268 = .ok (.iconst 2, 1) := by decide +kernel
theorem dL_law_1269 : decode cL_law 1269 = .ok (.iadd, 1) := by decide +kernel
theorem dL_law_1270 : decode cL_law 1270 = .ok (.iaload, 1) := by decide +kernel
theorem dL_law_1271 : decode cL_law 1271 = .ok (.aload_n 0, 1) := by decide +kernel
theorem dL_law_1272 : decode cL_law 1272 = .ok (.iload 4, 2) := by decide +kernel
theorem dL_law_1274 : decode cL_law 1274 = .ok (.iconst 3, 1) := by decide +kernel
theorem dL_law_1275 : decode cL_law 1275 = .ok (.iadd, 1) := by decide +kernel
theorem dL_law_1276 : decode cL_law 1276 = .ok (.iaload, 1) := by decide +kernel
theorem dL_law_1277 : decode cL_law 1277 = .ok (.invokevirtual 153, 3) := by decide +kernel
theorem dL_law_1280 : decode cL_law 1280 = .ok (.if_icmp .eq 83, 3) := by decide +kernel
theorem dL_law_1283 : decode cL_law 1283 = .ok (.iconst 0, 1) := by decide +kernel
theorem dL_law_1284 : decode cL_law 1284 = .ok (.ireturn, 1) := by decide +kernel
theorem dL_law_1285 : decode cL_law 1285 = .ok (.aload_n 1, 1) := by decide +kernel
theorem dL_law_1286 : decode cL_law 1286 = .ok (.aload_n 0, 1) := by decide +kernel
theorem dL_law_1287 : decode cL_law 1287 = .ok (.iload 4, 2) := by decide +kernel
theorem dL_law_1289 : decode cL_law 1289 = .ok (.iconst 1, 1) := by decide +kernel
theorem dL_law_1290 : decode cL_law 1290 = .ok (.iadd, 1) := by decide +kernel
theorem dL_law_1291 : decode cL_law 1291 = .ok (.iaload, 1) := by decide +kernel
theorem dL_law_1292 : decode cL_law 1292 = .ok (.aload_n 0, 1) := by decide +kernel
theorem dL_law_1293 : decode cL_law 1293 = .ok (.iload 4, 2) := by decide +kernel
theorem dL_law_1295 : decode cL_law 1295 = .ok (.iconst 2, 1) := by decide +kernel
theorem dL_law_1296 : decode cL_law 1296 = .ok (.iadd, 1) := by decide +kernel
theorem dL_law_1297 : decode cL_law 1297 = .ok (.iaload, 1) := by decide +kernel
theorem dL_law_1298 : decode cL_law 1298 = .ok (.ifCond .eq 7, 3) := by decide +kernel
theorem dL_law_1301 : decode cL_law 1301 = .ok (.iconst 1, 1) := by decide +kernel
theorem dL_law_1302 : decode cL_law 1302 = .ok (.goto 4, 3) := by decide +kernel
theorem dL_law_1305 : decode cL_law 1305 = .ok (.iconst 0, 1) := by decide +kernel
theorem dL_law_1306 : decode cL_law 1306 = .ok (.invokevirtual 154, 3) := by decide +kernel
theorem dL_law_1309 : decode cL_law 1309 = .ok (.aload_n 2, 1) := by decide +kernel
theorem dL_law_1310 : decode cL_law 1310 = .ok (.aload_n 0, 1) := by decide +kernel
theorem dL_law_1311 : decode cL_law 1311 = .ok (.iload 4, 2) := by decide +kernel
theorem dL_law_1313 : decode cL_law 1313 = .ok (.iconst 1, 1) := by decide +kernel
theorem dL_law_1314 : decode cL_law 1314 = .ok (.iadd, 1) := by decide +kernel
theorem dL_law_1315 : decode cL_law 1315 = .ok (.iaload, 1) := by decide +kernel
theorem dL_law_1316 : decode cL_law 1316 = .ok (.aload_n 0, 1) := by decide +kernel
theorem dL_law_1317 : decode cL_law 1317 = .ok (.iload 4, 2) := by decide +kernel
theorem dL_law_1319 : decode cL_law 1319 = .ok (.iconst 2, 1) := by decide +kernel
theorem dL_law_1320 : decode cL_law 1320 = .ok (.iadd, 1) := by decide +kernel
theorem dL_law_1321 : decode cL_law 1321 = .ok (.iaload, 1) := by decide +kernel
theorem dL_law_1322 : decode cL_law 1322 = .ok (.ifCond .eq 7, 3) := by decide +kernel
theorem dL_law_1325 : decode cL_law 1325 = .ok (.iconst 1, 1) := by decide +kernel
theorem dL_law_1326 : decode cL_law 1326 = .ok (.goto 4, 3) := by decide +kernel
theorem dL_law_1329 : decode cL_law 1329 = .ok (.iconst 0, 1) := by decide +kernel
theorem dL_law_1330 : decode cL_law 1330 = .ok (.invokevirtual 158, 3) := by decide +kernel
theorem dL_law_1333 : decode cL_law 1333 = .ok (.if_icmp .eq 30, 3) := by decide +kernel
theorem dL_law_1336 : decode cL_law 1336 = .ok (.iconst 0, 1) := by decide +kernel
theorem dL_law_1337 : decode cL_law 1337 = .ok (.ireturn, 1) := by decide +kernel
theorem dL_law_1338 : decode cL_law 1338 = .ok (.aload_n 1, 1) := by decide +kernel
theorem dL_law_1339 : decode cL_law 1339 = .ok (.aload_n 0, 1) := by decide +kernel
theorem dL_law_1340 : decode cL_law 1340 = .ok (.iload 4, 2) := by decide +kernel
theorem dL_law_1342 : decode cL_law 1342 = .ok (.iconst 1, 1) := by decide +kernel
theorem dL_law_1343 : decode cL_law 1343 = .ok (.iadd, 1) := by decide +kernel
theorem dL_law_1344 : decode cL_law 1344 = .ok (.iaload, 1) := by decide +kernel
theorem dL_law_1345 : decode cL_law 1345 = .ok (.invokevirtual 159, 3) := by decide +kernel
theorem dL_law_1348 : decode cL_law 1348 = .ok (.aload_n 2, 1) := by decide +kernel
theorem dL_law_1349 : decode cL_law 1349 = .ok (.aload_n 0, 1) := by decide +kernel
theorem dL_law_1350 : decode cL_law 1350 = .ok (.iload 4, 2) := by decide +kernel
theorem dL_law_1352 : decode cL_law 1352 = .ok (.iconst 1, 1) := by decide +kernel
theorem dL_law_1353 : decode cL_law 1353 = .ok (.iadd, 1) := by decide +kernel
theorem dL_law_1354 : decode cL_law 1354 = .ok (.iaload, 1) := by decide +kernel
theorem dL_law_1355 : decode cL_law 1355 = .ok (.invokevirtual 162, 3) := by decide +kernel
theorem dL_law_1358 : decode cL_law 1358 = .ok (.if_icmp .eq 5, 3) := by decide +kernel
theorem dL_law_1361 : decode cL_law 1361 = .ok (.iconst 0, 1) := by decide +kernel
theorem dL_law_1362 : decode cL_law 1362 = .ok (.ireturn, 1) := by decide +kernel
theorem dL_law_1363 : decode cL_law 1363 = .ok (.iinc 4 7, 3) := by decide +kernel
theorem dL_law_1366 : decode cL_law 1366 = .ok (.goto (-1343), 3) := by decide +kernel
theorem dL_law_1369 : decode cL_law 1369 = .ok (.iconst 1, 1) := by decide +kernel
theorem dL_law_1370 : decode cL_law 1370 = .ok (.ireturn, 1) := by decide +kernel
