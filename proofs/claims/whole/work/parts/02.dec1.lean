theorem dX8_init_1 : decode cX8_init 1 = .ok (.invokespecial 3, 3) := by decide +kernel
theorem dX8_init_4 : decode cX8_init 4 = .ok (.aload_n 0, 1) := by decide +kernel
theorem dX8_init_5 : decode cX8_init 5 = .ok (.sipush 1000, 3) := by decide +kernel
theorem dX8_init_8 : decode cX8_init 8 = .ok (.newarray .char, 2) := by decide +kernel
theorem dX8_init_10 : decode cX8_init 10 = .ok (.putfield 9, 3) := by decide +kernel
theorem dX8_init_13 : decode cX8_init 13 = .ok (.aload_n 0, 1) := by decide +kernel
theorem dX8_init_14 : decode cX8_init 14 = .ok (.sipush 1001, 3) := by decide +kernel
theorem dX8_init_17 : decode cX8_init 17 = .ok (.anewarray 15, 3) := by decide +kernel
theorem dX8_init_20 : decode cX8_init 20 = .ok (.putfield 17, 3) := by decide +kernel
theorem dX8_init_23 : decode cX8_init 23 = .ok (.aload_n 0, 1) := by decide +kernel
theorem dX8_init_24 : decode cX8_init 24 = .ok (.sipush 1001, 3) := by decide +kernel
theorem dX8_init_27 : decode cX8_init 27 = .ok (.newarray .int, 2) := by decide +kernel
theorem dX8_init_29 : decode cX8_init 29 = .ok (.putfield 21, 3) := by decide +kernel
theorem dX8_init_32 : decode cX8_init 32 = .ok (.aload_n 0, 1) := by decide +kernel
theorem dX8_init_33 : decode cX8_init 33 = .ok (.sipush 1001, 3) := by decide +kernel
theorem dX8_init_36 : decode cX8_init 36 = .ok (.newarray .long, 2) := by decide +kernel
theorem dX8_init_38 : decode cX8_init 38 = .ok (.putfield 25, 3) := by decide +kernel
theorem dX8_init_41 : decode cX8_init 41 = .ok (.return_, 1) := by decide +kernel
theorem dX8_clear_0 : decode cX8_clear 0 = .ok (.aload_n 0, 1) := by decide +kernel
theorem dX8_clear_1 : decode cX8_clear 1 = .ok (.iconst 0, 1) := by decide +kernel
theorem dX8_clear_2 : decode cX8_clear 2 = .ok (.putfield 29, 3) := by decide +kernel
theorem dX8_clear_5 : decode cX8_clear 5 = .ok (.return_, 1) := by decide +kernel
theorem dX8_add_0 : decode cX8_add 0 = .ok (.bipush 56, 2) := by decide +kernel
theorem dX8_add_2 : decode cX8_add 2 = .ok (.istore_n 3, 1) := by decide +kernel
theorem dX8_add_3 : decode cX8_add 3 = .ok (.iload_n 3, 1) := by decide +kernel
theorem dX8_add_4 : decode cX8_add 4 = .ok (.ifCond .lt 72, 3) := by decide +kernel
theorem dX8_add_7 : decode cX8_add 7 = .ok (.lload_n 1, 1) := by decide +kernel
theorem dX8_add_8 : decode cX8_add 8 = .ok (.iload_n 3, 1) := by decide +kernel
theorem dX8_add_9 : decode cX8_add 9 = .ok (.lushr, 1) := by decide +kernel
theorem dX8_add_10 : decode cX8_add 10 = .ok (.ldc2_w 33, 3) := by decide +kernel
theorem dX8_add_13 : decode cX8_add 13 = .ok (.land, 1) := by decide +kernel
theorem dX8_add_14 : decode cX8_add 14 = .ok (.l2i, 1) := by decide +kernel
theorem dX8_add_15 : decode cX8_add 15 = .ok (.i2c, 1) := by decide +kernel
theorem dX8_add_16 : decode cX8_add 16 = .ok (.istore 4, 2) := by decide +kernel
theorem dX8_add_18 : decode cX8_add 18 = .ok (.iload 4, 2) := by decide +kernel
theorem dX8_add_20 : decode cX8_add 20 = .ok (.bipush 10, 2) := by decide +kernel
theorem dX8_add_22 : decode cX8_add 22 = .ok (.if_icmp .eq 17, 3) := by decide +kernel
theorem dX8_add_25 : decode cX8_add 25 = .ok (.iload 4, 2) := by decide +kernel
theorem dX8_add_27 : decode cX8_add 27 = .ok (.bipush 32, 2) := by decide +kernel
theorem dX8_add_29 : decode cX8_add 29 = .ok (.if_icmp .lt 41, 3) := by decide +kernel
theorem dX8_add_32 : decode cX8_add 32 = .ok (.iload 4, 2) := by decide +kernel
theorem dX8_add_34 : decode cX8_add 34 = .ok (.bipush 126, 2) := by decide +kernel
theorem dX8_add_36 : decode cX8_add 36 = .ok (.if_icmp .gt 34, 3) := by decide +kernel
theorem dX8_add_39 : decode cX8_add 39 = .ok (.aload_n 0, 1) := by decide +kernel
theorem dX8_add_40 : decode cX8_add 40 = .ok (.getfield 29, 3) := by decide +kernel
theorem dX8_add_43 : decode cX8_add 43 = .ok (.sipush 1000, 3) := by decide +kernel
theorem dX8_add_46 : decode cX8_add 46 = .ok (.if_icmp .ge 24, 3) := by decide +kernel
theorem dX8_add_49 : decode cX8_add 49 = .ok (.aload_n 0, 1) := by decide +kernel
theorem dX8_add_50 : decode cX8_add 50 = .ok (.getfield 9, 3) := by decide +kernel
theorem dX8_add_53 : decode cX8_add 53 = .ok (.aload_n 0, 1) := by decide +kernel
theorem dX8_add_54 : decode cX8_add 54 = .ok (.getfield 29, 3) := by decide +kernel
theorem dX8_add_57 : decode cX8_add 57 = .ok (.iload 4, 2) := by decide +kernel
theorem dX8_add_59 : decode cX8_add 59 = .ok (.castore, 1) := by decide +kernel
theorem dX8_add_60 : decode cX8_add 60 = .ok (.aload_n 0, 1) := by decide +kernel
theorem dX8_add_61 : decode cX8_add 61 = .ok (.dup, 1) := by decide +kernel
theorem dX8_add_62 : decode cX8_add 62 = .ok (.getfield 29, 3) := by decide +kernel
theorem dX8_add_65 : decode cX8_add 65 = .ok (.iconst 1, 1) := by decide +kernel
theorem dX8_add_66 : decode cX8_add 66 = .ok (.iadd, 1) := by decide +kernel
theorem dX8_add_67 : decode cX8_add 67 = .ok (.putfield 29, 3) := by decide +kernel
theorem dX8_add_70 : decode cX8_add 70 = .ok (.iinc 3 (-8), 3) := by decide +kernel
theorem dX8_add_73 : decode cX8_add 73 = .ok (.goto (-70), 3) := by decide +kernel
theorem dX8_add_76 : decode cX8_add 76 = .ok (.return_, 1) := by decide +kernel
theorem dX8_split_0 : decode cX8_split 0 = .ok (.aload_n 0, 1) := by decide +kernel
theorem dX8_split_1 : decode cX8_split 1 = .ok (.iconst 0, 1) := by decide +kernel
theorem dX8_split_2 : decode cX8_split 2 = .ok (.putfield 35, 3) := by decide +kernel
theorem dX8_split_5 : decode cX8_split 5 = .ok (.iconst 0, 1) := by decide +kernel
theorem dX8_split_6 : decode cX8_split 6 = .ok (.istore_n 1, 1) := by decide +kernel
theorem dX8_split_7 : decode cX8_split 7 = .ok (.iconst 0, 1) := by decide +kernel
theorem dX8_split_8 : decode cX8_split 8 = .ok (.istore_n 2, 1) := by decide +kernel
theorem dX8_split_9 : decode cX8_split 9 = .ok (.iload_n 2, 1) := by decide +kernel
theorem dX8_split_10 : decode cX8_split 10 = .ok (.sipush 1000, 3) := by decide +kernel
theorem dX8_split_13 : decode cX8_split 13 = .ok (.if_icmp .ge 53, 3) := by decide +kernel
theorem dX8_split_16 : decode cX8_split 16 = .ok (.iload_n 1, 1) := by decide +kernel
theorem dX8_split_17 : decode cX8_split 17 = .ok (.aload_n 0, 1) := by decide +kernel
theorem dX8_split_18 : decode cX8_split 18 = .ok (.getfield 29, 3) := by decide +kernel
theorem dX8_split_21 : decode cX8_split 21 = .ok (.if_icmp .ge 45, 3) := by decide +kernel
theorem dX8_split_24 : decode cX8_split 24 = .ok (.aload_n 0, 1) := by decide +kernel
theorem dX8_split_25 : decode cX8_split 25 = .ok (.iload_n 1, 1) := by decide +kernel
theorem dX8_split_26 : decode cX8_split 26 = .ok (.invokevirtual 38, 3) := by decide +kernel
theorem dX8_split_29 : decode cX8_split 29 = .ok (.istore_n 3, 1) := by decide +kernel
theorem dX8_split_30 : decode cX8_split 30 = .ok (.aload_n 0, 1) := by decide +kernel
theorem dX8_split_31 : decode cX8_split 31 = .ok (.getfield 9, 3) := by decide +kernel
theorem dX8_split_34 : decode cX8_split 34 = .ok (.iload_n 1, 1) := by decide +kernel
theorem dX8_split_35 : decode cX8_split 35 = .ok (.caload, 1) := by decide +kernel
theorem dX8_split_36 : decode cX8_split 36 = .ok (.bipush 10, 2) := by decide +kernel
theorem dX8_split_38 : decode cX8_split 38 = .ok (.if_icmp .eq 20, 3) := by decide +kernel
theorem dX8_split_41 : decode cX8_split 41 = .ok (.aload_n 0, 1) := by decide +kernel
theorem dX8_split_42 : decode cX8_split 42 = .ok (.getfield 9, 3) := by decide +kernel
theorem dX8_split_45 : decode cX8_split 45 = .ok (.iload_n 1, 1) := by decide +kernel
theorem dX8_split_46 : decode cX8_split 46 = .ok (.caload, 1) := by decide +kernel
theorem dX8_split_47 : decode cX8_split 47 = .ok (.bipush 32, 2) := by decide +kernel
theorem dX8_split_49 : decode cX8_split 49 = .ok (.if_icmp .eq 9, 3) := by decide +kernel
theorem dX8_split_52 : decode cX8_split 52 = .ok (.aload_n 0, 1) := by decide +kernel
theorem dX8_split_53 : decode cX8_split 53 = .ok (.iload_n 1, 1) := by decide +kernel
theorem dX8_split_54 : decode cX8_split 54 = .ok (.iload_n 3, 1) := by decide +kernel
theorem dX8_split_55 : decode cX8_split 55 = .ok (.invokevirtual 42, 3) := by decide +kernel
theorem dX8_split_58 : decode cX8_split 58 = .ok (.iload_n 3, 1) := by decide +kernel
theorem dX8_split_59 : decode cX8_split 59 = .ok (.istore_n 1, 1) := by decide +kernel
theorem dX8_split_60 : decode cX8_split 60 = .ok (.iinc 2 1, 3) := by decide +kernel
theorem dX8_split_63 : decode cX8_split 63 = .ok (.goto (-54), 3) := by decide +kernel
theorem dX8_split_66 : decode cX8_split 66 = .ok (.aload_n 0, 1) := by decide +kernel
theorem dX8_split_67 : decode cX8_split 67 = .ok (.getstatic 46, 3) := by decide +kernel
theorem dX8_split_70 : decode cX8_split 70 = .ok (.aload_n 0, 1) := by decide +kernel
theorem dX8_split_71 : decode cX8_split 71 = .ok (.getfield 29, 3) := by decide +kernel
theorem dX8_split_74 : decode cX8_split 74 = .ok (.lconst 0, 1) := by decide +kernel
theorem dX8_split_75 : decode cX8_split 75 = .ok (.invokevirtual 50, 3) := by decide +kernel
theorem dX8_split_78 : decode cX8_split 78 = .ok (.return_, 1) := by decide +kernel
theorem dX8_endOf_0 : decode cX8_endOf 0 = .ok (.iload_n 1, 1) := by decide +kernel
theorem dX8_endOf_1 : decode cX8_endOf 1 = .ok (.iconst 1, 1) := by decide +kernel
theorem dX8_endOf_2 : decode cX8_endOf 2 = .ok (.iadd, 1) := by decide +kernel
theorem dX8_endOf_3 : decode cX8_endOf 3 = .ok (.istore_n 2, 1) := by decide +kernel
theorem dX8_endOf_4 : decode cX8_endOf 4 = .ok (.aload_n 0, 1) := by decide +kernel
theorem dX8_endOf_5 : decode cX8_endOf 5 = .ok (.getfield 9, 3) := by decide +kernel
theorem dX8_endOf_8 : decode cX8_endOf 8 = .ok (.iload_n 1, 1) := by decide +kernel
theorem dX8_endOf_9 : decode cX8_endOf 9 = .ok (.caload, 1) := by decide +kernel
theorem dX8_endOf_10 : decode cX8_endOf 10 = .ok (.invokestatic 53, 3) := by decide +kernel
theorem dX8_endOf_13 : decode cX8_endOf 13 = .ok (.ifCond .eq 29, 3) := by decide +kernel
theorem dX8_endOf_16 : decode cX8_endOf 16 = .ok (.iload_n 2, 1) := by decide +kernel
theorem dX8_endOf_17 : decode cX8_endOf 17 = .ok (.aload_n 0, 1) := by decide +kernel
theorem dX8_endOf_18 : decode cX8_endOf 18 = .ok (.getfield 29, 3) := by decide +kernel
theorem dX8_endOf_21 : decode cX8_endOf 21 = .ok (.if_icmp .ge 59, 3) := by decide +kernel
theorem dX8_endOf_24 : decode cX8_endOf 24 = .ok (.aload_n 0, 1) := by decide +kernel
theorem dX8_endOf_25 : decode cX8_endOf 25 = .ok (.getfield 9, 3) := by decide +kernel
theorem dX8_endOf_28 : decode cX8_endOf 28 = .ok (.iload_n 2, 1) := by decide +kernel
theorem dX8_endOf_29 : decode cX8_endOf 29 = .ok (.caload, 1) := by decide +kernel
theorem dX8_endOf_30 : decode cX8_endOf 30 = .ok (.invokestatic 53, 3) := by decide +kernel
theorem dX8_endOf_33 : decode cX8_endOf 33 = .ok (.ifCond .eq 47, 3) := by decide +kernel
theorem dX8_endOf_36 : decode cX8_endOf 36 = .ok (.iinc 2 1, 3) := by decide +kernel
theorem dX8_endOf_39 : decode cX8_endOf 39 = .ok (.goto (-23), 3) := by decide +kernel
theorem dX8_endOf_42 : decode cX8_endOf 42 = .ok (.aload_n 0, 1) := by decide +kernel
theorem dX8_endOf_43 : decode cX8_endOf 43 = .ok (.getfield 9, 3) := by decide +kernel
theorem dX8_endOf_46 : decode cX8_endOf 46 = .ok (.iload_n 1, 1) := by decide +kernel
theorem dX8_endOf_47 : decode cX8_endOf 47 = .ok (.caload, 1) := by decide +kernel
theorem dX8_endOf_48 : decode cX8_endOf 48 = .ok (.invokestatic 57, 3) := by decide +kernel
theorem dX8_endOf_51 : decode cX8_endOf 51 = .ok (.ifCond .eq 29, 3) := by decide +kernel
theorem dX8_endOf_54 : decode cX8_endOf 54 = .ok (.iload_n 2, 1) := by decide +kernel
theorem dX8_endOf_55 : decode cX8_endOf 55 = .ok (.aload_n 0, 1) := by decide +kernel
theorem dX8_endOf_56 : decode cX8_endOf 56 = .ok (.getfield 29, 3) := by decide +kernel
theorem dX8_endOf_59 : decode cX8_endOf 59 = .ok (.if_icmp .ge 21, 3) := by decide +kernel
theorem dX8_endOf_62 : decode cX8_endOf 62 = .ok (.aload_n 0, 1) := by decide +kernel
theorem dX8_endOf_63 : decode cX8_endOf 63 = .ok (.getfield 9, 3) := by decide +kernel
theorem dX8_endOf_66 : decode cX8_endOf 66 = .ok (.iload_n 2, 1) := by decide +kernel
theorem dX8_endOf_67 : decode cX8_endOf 67 = .ok (.caload, 1) := by decide +kernel
theorem dX8_endOf_68 : decode cX8_endOf 68 = .ok (.invokestatic 57, 3) := by decide +kernel
theorem dX8_endOf_71 : decode cX8_endOf 71 = .ok (.ifCond .eq 9, 3) := by decide +kernel
theorem dX8_endOf_74 : decode cX8_endOf 74 = .ok (.iinc 2 1, 3) := by decide +kernel
theorem dX8_endOf_77 : decode cX8_endOf 77 = .ok (.goto (-23), 3) := by decide +kernel
theorem dX8_endOf_80 : decode cX8_endOf 80 = .ok (.iload_n 2, 1) := by decide +kernel
theorem dX8_endOf_81 : decode cX8_endOf 81 = .ok (.ireturn, 1) := by decide +kernel
theorem dX8_addToken_0 : decode cX8_addToken 0 = .ok (.aload_n 0, 1) := by decide +kernel
theorem dX8_addToken_1 : decode cX8_addToken 1 = .ok (.getfield 9, 3) := by decide +kernel
theorem dX8_addToken_4 : decode cX8_addToken 4 = .ok (.iload_n 1, 1) := by decide +kernel
theorem dX8_addToken_5 : decode cX8_addToken 5 = .ok (.caload, 1) := by decide +kernel
theorem dX8_addToken_6 : decode cX8_addToken 6 = .ok (.invokestatic 57, 3) := by decide +kernel
theorem dX8_addToken_9 : decode cX8_addToken 9 = .ok (.istore_n 3, 1) := by decide +kernel
theorem dX8_addToken_10 : decode cX8_addToken 10 = .ok (.iload_n 2, 1) := by decide +kernel
theorem dX8_addToken_11 : decode cX8_addToken 11 = .ok (.iload_n 1, 1) := by decide +kernel
theorem dX8_addToken_12 : decode cX8_addToken 12 = .ok (.isub, 1) := by decide +kernel
theorem dX8_addToken_13 : decode cX8_addToken 13 = .ok (.iload_n 3, 1) := by decide +kernel
theorem dX8_addToken_14 : decode cX8_addToken 14 = .ok (.ifCond .eq 7, 3) := by decide +kernel
theorem dX8_addToken_17 : decode cX8_addToken 17 = .ok (.iconst 4, 1) := by decide +kernel
theorem dX8_addToken_18 : decode cX8_addToken 18 = .ok (.goto 5, 3) := by decide +kernel
theorem dX8_addToken_21 : decode cX8_addToken 21 = .ok (.bipush 8, 2) := by decide +kernel
theorem dX8_addToken_23 : decode cX8_addToken 23 = .ok (.if_icmp .le 13, 3) := by decide +kernel
theorem dX8_addToken_26 : decode cX8_addToken 26 = .ok (.aload_n 0, 1) := by decide +kernel
theorem dX8_addToken_27 : decode cX8_addToken 27 = .ok (.getstatic 60, 3) := by decide +kernel
theorem dX8_addToken_30 : decode cX8_addToken 30 = .ok (.iload_n 1, 1) := by decide +kernel
theorem dX8_addToken_31 : decode cX8_addToken 31 = .ok (.lconst 0, 1) := by decide +kernel
theorem dX8_addToken_32 : decode cX8_addToken 32 = .ok (.invokevirtual 50, 3) := by decide +kernel
theorem dX8_addToken_35 : decode cX8_addToken 35 = .ok (.return_, 1) := by decide +kernel
theorem dX8_addToken_36 : decode cX8_addToken 36 = .ok (.lconst 0, 1) := by decide +kernel
theorem dX8_addToken_37 : decode cX8_addToken 37 = .ok (.lstore 4, 2) := by decide +kernel
theorem dX8_addToken_39 : decode cX8_addToken 39 = .ok (.iload_n 1, 1) := by decide +kernel
theorem dX8_addToken_40 : decode cX8_addToken 40 = .ok (.istore 6, 2) := by decide +kernel
theorem dX8_addToken_42 : decode cX8_addToken 42 = .ok (.iload 6, 2) := by decide +kernel
theorem dX8_addToken_44 : decode cX8_addToken 44 = .ok (.iload_n 2, 1) := by decide +kernel
theorem dX8_addToken_45 : decode cX8_addToken 45 = .ok (.if_icmp .ge 50, 3) := by decide +kernel
theorem dX8_addToken_48 : decode cX8_addToken 48 = .ok (.iload_n 3, 1) := by decide +kernel
theorem dX8_addToken_49 : decode cX8_addToken 49 = .ok (.ifCond .eq 24, 3) := by decide +kernel
theorem dX8_addToken_52 : decode cX8_addToken 52 = .ok (.lload 4, 2) := by decide +kernel
theorem dX8_addToken_54 : decode cX8_addToken 54 = .ok (.ldc2_w 63, 3) := by decide +kernel
theorem dX8_addToken_57 : decode cX8_addToken 57 = .ok (.lmul, 1) := by decide +kernel
theorem dX8_addToken_58 : decode cX8_addToken 58 = .ok (.aload_n 0, 1) := by decide +kernel
theorem dX8_addToken_59 : decode cX8_addToken 59 = .ok (.getfield 9, 3) := by decide +kernel
theorem dX8_addToken_62 : decode cX8_addToken 62 = .ok (.iload 6, 2) := by decide +kernel
theorem dX8_addToken_64 : decode cX8_addToken 64 = .ok (.caload, 1) := by decide +kernel
theorem dX8_addToken_65 : decode cX8_addToken 65 = .ok (.bipush 48, 2) := by decide +kernel
theorem dX8_addToken_67 : decode cX8_addToken 67 = .ok (.isub, 1) := by decide +kernel
theorem dX8_addToken_68 : decode cX8_addToken 68 = .ok (.i2l, 1) := by decide +kernel
theorem dX8_addToken_69 : decode cX8_addToken 69 = .ok (.ladd, 1) := by decide +kernel
theorem dX8_addToken_70 : decode cX8_addToken 70 = .ok (.goto 17, 3) := by decide +kernel
theorem dX8_addToken_73 : decode cX8_addToken 73 = .ok (.lload 4, 2) := by decide +kernel
theorem dX8_addToken_75 : decode cX8_addToken 75 = .ok (.bipush 7, 2) := by decide +kernel
theorem dX8_addToken_77 : decode cX8_addToken 77 = .ok (.lshl, 1) := by decide +kernel
theorem dX8_addToken_78 : decode cX8_addToken 78 = .ok (.aload_n 0, 1) := by decide +kernel
theorem dX8_addToken_79 : decode cX8_addToken 79 = .ok (.getfield 9, 3) := by decide +kernel
theorem dX8_addToken_82 : decode cX8_addToken 82 = .ok (.iload 6, 2) := by decide +kernel
theorem dX8_addToken_84 : decode cX8_addToken 84 = .ok (.caload, 1) := by decide +kernel
theorem dX8_addToken_85 : decode cX8_addToken 85 = .ok (.i2l, 1) := by decide +kernel
theorem dX8_addToken_86 : decode cX8_addToken 86 = .ok (.lor, 1) := by decide +kernel
theorem dX8_addToken_87 : decode cX8_addToken 87 = .ok (.lstore 4, 2) := by decide +kernel
theorem dX8_addToken_89 : decode cX8_addToken 89 = .ok (.iinc 6 1, 3) := by decide +kernel
theorem dX8_addToken_92 : decode cX8_addToken 92 = .ok (.goto (-50), 3) := by decide +kernel
theorem dX8_addToken_95 : decode cX8_addToken 95 = .ok (.aload_n 0, 1) := by decide +kernel
theorem dX8_addToken_96 : decode cX8_addToken 96 = .ok (.getfield 9, 3) := by decide +kernel
theorem dX8_addToken_99 : decode cX8_addToken 99 = .ok (.iload_n 1, 1) := by decide +kernel
theorem dX8_addToken_100 : decode cX8_addToken 100 = .ok (.caload, 1) := by decide +kernel
theorem dX8_addToken_101 : decode cX8_addToken 101 = .ok (.invokestatic 53, 3) := by decide +kernel
theorem dX8_addToken_104 : decode cX8_addToken 104 = .ok (.ifCond .eq 9, 3) := by decide +kernel
theorem dX8_addToken_107 : decode cX8_addToken 107 = .ok (.getstatic 65, 3) := by decide +kernel
theorem dX8_addToken_110 : decode cX8_addToken 110 = .ok (.goto 6, 3) := by decide +kernel
theorem dX8_addToken_113 : decode cX8_addToken 113 = .ok (.getstatic 60, 3) := by decide +kernel
theorem dX8_addToken_116 : decode cX8_addToken 116 = .ok (.astore 6, 2) := by decide +kernel
theorem dX8_addToken_118 : decode cX8_addToken 118 = .ok (.aload_n 0, 1) := by decide +kernel
theorem dX8_addToken_119 : decode cX8_addToken 119 = .ok (.iload_n 3, 1) := by decide +kernel
theorem dX8_addToken_120 : decode cX8_addToken 120 = .ok (.ifCond .eq 9, 3) := by decide +kernel
theorem dX8_addToken_123 : decode cX8_addToken 123 = .ok (.getstatic 68, 3) := by decide +kernel
theorem dX8_addToken_126 : decode cX8_addToken 126 = .ok (.goto 10, 3) := by decide +kernel
theorem dX8_addToken_129 : decode cX8_addToken 129 = .ok (.lload 4, 2) := by decide +kernel
theorem dX8_addToken_131 : decode cX8_addToken 131 = .ok (.aload 6, 2) := by decide +kernel
theorem dX8_addToken_133 : decode cX8_addToken 133 = .ok (.invokestatic 71, 3) := by decide +kernel
theorem dX8_addToken_136 : decode cX8_addToken 136 = .ok (.iload_n 1, 1) := by decide +kernel
theorem dX8_addToken_137 : decode cX8_addToken 137 = .ok (.lload 4, 2) := by decide +kernel
theorem dX8_addToken_139 : decode cX8_addToken 139 = .ok (.invokevirtual 50, 3) := by decide +kernel
theorem dX8_addToken_142 : decode cX8_addToken 142 = .ok (.return_, 1) := by decide +kernel
theorem dX8_addToken__0 : decode cX8_addToken_ 0 = .ok (.aload_n 0, 1) := by decide +kernel
theorem dX8_addToken__1 : decode cX8_addToken_ 1 = .ok (.getfield 35, 3) := by decide +kernel
theorem dX8_addToken__4 : decode cX8_addToken_ 4 = .ok (.aload_n 0, 1) := by decide +kernel
theorem dX8_addToken__5 : decode cX8_addToken_ 5 = .ok (.getfield 17, 3) := by decide +kernel
theorem dX8_addToken__8 : decode cX8_addToken_ 8 = .ok (.arraylength, 1) := by decide +kernel
theorem dX8_addToken__9 : decode cX8_addToken_ 9 = .ok (.if_icmp .ge 43, 3) := by decide +kernel
theorem dX8_addToken__12 : decode cX8_addToken_ 12 = .ok (.aload_n 0, 1) := by decide +kernel
theorem dX8_addToken__13 : decode cX8_addToken_ 13 = .ok (.getfield 17, 3) := by decide +kernel
theorem dX8_addToken__16 : decode cX8_addToken_ 16 = .ok (.aload_n 0, 1) := by decide +kernel
theorem dX8_addToken__17 : decode cX8_addToken_ 17 = .ok (.getfield 35, 3) := by decide +kernel
theorem dX8_addToken__20 : decode cX8_addToken_ 20 = .ok (.aload_n 1, 1) := by decide +kernel
theorem dX8_addToken__21 : decode cX8_addToken_ 21 = .ok (.aastore, 1) := by decide +kernel
theorem dX8_addToken__22 : decode cX8_addToken_ 22 = .ok (.aload_n 0, 1) := by decide +kernel
theorem dX8_addToken__23 : decode cX8_addToken_ 23 = .ok (.getfield 21, 3) := by decide +kernel
theorem dX8_addToken__26 : decode cX8_addToken_ 26 = .ok (.aload_n 0, 1) := by decide +kernel
theorem dX8_addToken__27 : decode cX8_addToken_ 27 = .ok (.getfield 35, 3) := by decide +kernel
theorem dX8_addToken__30 : decode cX8_addToken_ 30 = .ok (.iload_n 2, 1) := by decide +kernel
theorem dX8_addToken__31 : decode cX8_addToken_ 31 = .ok (.iastore, 1) := by decide +kernel
theorem dX8_addToken__32 : decode cX8_addToken_ 32 = .ok (.aload_n 0, 1) := by decide +kernel
theorem dX8_addToken__33 : decode cX8_addToken_ 33 = .ok (.getfield 25, 3) := by decide +kernel
theorem dX8_addToken__36 : decode cX8_addToken_ 36 = .ok (.aload_n 0, 1) := by decide +kernel
theorem dX8_addToken__37 : decode cX8_addToken_ 37 = .ok (.getfield 35, 3) := by decide +kernel
theorem dX8_addToken__40 : decode cX8_addToken_ 40 = .ok (.lload_n 3, 1) := by decide +kernel
theorem dX8_addToken__41 : decode cX8_addToken_ 41 = .ok (.lastore, 1) := by decide +kernel
theorem dX8_addToken__42 : decode cX8_addToken_ 42 = .ok (.aload_n 0, 1) := by decide +kernel
theorem dX8_addToken__43 : decode cX8_addToken_ 43 = .ok (.dup, 1) := by decide +kernel
theorem dX8_addToken__44 : decode cX8_addToken_ 44 = .ok (.getfield 35, 3) := by decide +kernel
theorem dX8_addToken__47 : decode cX8_addToken_ 47 = .ok (.iconst 1, 1) := by decide +kernel
theorem dX8_addToken__48 : decode cX8_addToken_ 48 = .ok (.iadd, 1) := by decide +kernel
theorem dX8_addToken__49 : decode cX8_addToken_ 49 = .ok (.putfield 35, 3) := by decide +kernel
theorem dX8_addToken__52 : decode cX8_addToken_ 52 = .ok (.return_, 1) := by decide +kernel
theorem dX8_isLetter_0 : decode cX8_isLetter 0 = .ok (.iload_n 0, 1) := by decide +kernel
theorem dX8_isLetter_1 : decode cX8_isLetter 1 = .ok (.bipush 97, 2) := by decide +kernel
theorem dX8_isLetter_3 : decode cX8_isLetter 3 = .ok (.if_icmp .lt 13, 3) := by decide +kernel
theorem dX8_isLetter_6 : decode cX8_isLetter 6 = .ok (.iload_n 0, 1) := by decide +kernel
theorem dX8_isLetter_7 : decode cX8_isLetter 7 = .ok (.bipush 122, 2) := by decide +kernel
theorem dX8_isLetter_9 : decode cX8_isLetter 9 = .ok (.if_icmp .gt 7, 3) := by decide +kernel
theorem dX8_isLetter_12 : decode cX8_isLetter 12 = .ok (.iconst 1, 1) := by decide +kernel
theorem dX8_isLetter_13 : decode cX8_isLetter 13 = .ok (.goto 4, 3) := by decide +kernel
theorem dX8_isLetter_16 : decode cX8_isLetter 16 = .ok (.iconst 0, 1) := by decide +kernel
theorem dX8_isLetter_17 : decode cX8_isLetter 17 = .ok (.ireturn, 1) := by decide +kernel
theorem dX8_isDigit_0 : decode cX8_isDigit 0 = .ok (.iload_n 0, 1) := by decide +kernel
theorem dX8_isDigit_1 : decode cX8_isDigit 1 = .ok (.bipush 48, 2) := by decide +kernel
theorem dX8_isDigit_3 : decode cX8_isDigit 3 = .ok (.if_icmp .lt 13, 3) := by decide +kernel
theorem dX8_isDigit_6 : decode cX8_isDigit 6 = .ok (.iload_n 0, 1) := by decide +kernel
theorem dX8_isDigit_7 : decode cX8_isDigit 7 = .ok (.bipush 57, 2) := by decide +kernel
theorem dX8_isDigit_9 : decode cX8_isDigit 9 = .ok (.if_icmp .gt 7, 3) := by decide +kernel
theorem dX8_isDigit_12 : decode cX8_isDigit 12 = .ok (.iconst 1, 1) := by decide +kernel
theorem dX8_isDigit_13 : decode cX8_isDigit 13 = .ok (.goto 4, 3) := by decide +kernel
theorem dX8_isDigit_16 : decode cX8_isDigit 16 = .ok (.iconst 0, 1) := by decide +kernel
theorem dX8_isDigit_17 : decode cX8_isDigit 17 = .ok (.ireturn, 1) := by decide +kernel
theorem dX9_spelled_0 : decode cX9_spelled 0 = .ok (.iconst 0, 1) := by decide +kernel
theorem dX9_spelled_1 : decode cX9_spelled 1 = .ok (.istore_n 3, 1) := by decide +kernel
theorem dX9_spelled_2 : decode cX9_spelled 2 = .ok (.iload_n 3, 1) := by decide +kernel
theorem dX9_spelled_3 : decode cX9_spelled 3 = .ok (.getstatic 158, 3) := by decide +kernel
theorem dX9_spelled_6 : decode cX9_spelled 6 = .ok (.arraylength, 1) := by decide +kernel
theorem dX9_spelled_7 : decode cX9_spelled 7 = .ok (.if_icmp .ge 34, 3) := by decide +kernel
theorem dX9_spelled_10 : decode cX9_spelled 10 = .ok (.getstatic 158, 3) := by decide +kernel
theorem dX9_spelled_13 : decode cX9_spelled 13 = .ok (.iload_n 3, 1) := by decide +kernel
theorem dX9_spelled_14 : decode cX9_spelled 14 = .ok (.aaload, 1) := by decide +kernel
theorem dX9_spelled_15 : decode cX9_spelled 15 = .ok (.getfield 150, 3) := by decide +kernel
theorem dX9_spelled_18 : decode cX9_spelled 18 = .ok (.lload_n 0, 1) := by decide +kernel
theorem dX9_spelled_19 : decode cX9_spelled 19 = .ok (.lcmp, 1) := by decide +kernel
theorem dX9_spelled_20 : decode cX9_spelled 20 = .ok (.ifCond .ne 15, 3) := by decide +kernel
theorem dX9_spelled_23 : decode cX9_spelled 23 = .ok (.lload_n 0, 1) := by decide +kernel
theorem dX9_spelled_24 : decode cX9_spelled 24 = .ok (.lconst 0, 1) := by decide +kernel
theorem dX9_spelled_25 : decode cX9_spelled 25 = .ok (.lcmp, 1) := by decide +kernel
theorem dX9_spelled_26 : decode cX9_spelled 26 = .ok (.ifCond .eq 9, 3) := by decide +kernel
theorem dX9_spelled_29 : decode cX9_spelled 29 = .ok (.getstatic 158, 3) := by decide +kernel
theorem dX9_spelled_32 : decode cX9_spelled 32 = .ok (.iload_n 3, 1) := by decide +kernel
theorem dX9_spelled_33 : decode cX9_spelled 33 = .ok (.aaload, 1) := by decide +kernel
theorem dX9_spelled_34 : decode cX9_spelled 34 = .ok (.areturn, 1) := by decide +kernel
theorem dX9_spelled_35 : decode cX9_spelled 35 = .ok (.iinc 3 1, 3) := by decide +kernel
theorem dX9_spelled_38 : decode cX9_spelled 38 = .ok (.goto (-36), 3) := by decide +kernel
theorem dX9_spelled_41 : decode cX9_spelled 41 = .ok (.aload_n 2, 1) := by decide +kernel
theorem dX9_spelled_42 : decode cX9_spelled 42 = .ok (.areturn, 1) := by decide +kernel
theorem dX10_init_0 : decode cX10_init 0 = .ok (.aload_n 0, 1) := by decide +kernel
theorem dX10_init_1 : decode cX10_init 1 = .ok (.invokespecial 3, 3) := by decide +kernel
theorem dX10_init_4 : decode cX10_init 4 = .ok (.aload_n 0, 1) := by decide +kernel
theorem dX10_init_5 : decode cX10_init 5 = .ok (.bipush 40, 2) := by decide +kernel
theorem dX10_init_7 : decode cX10_init 7 = .ok (.anewarray 9, 3) := by decide +kernel
theorem dX10_init_10 : decode cX10_init 10 = .ok (.putfield 11, 3) := by decide +kernel
theorem dX10_init_13 : decode cX10_init 13 = .ok (.aload_n 0, 1) := by decide +kernel
theorem dX10_init_14 : decode cX10_init 14 = .ok (.bipush 40, 2) := by decide +kernel
theorem dX10_init_16 : decode cX10_init 16 = .ok (.newarray .int, 2) := by decide +kernel
theorem dX10_init_18 : decode cX10_init 18 = .ok (.putfield 17, 3) := by decide +kernel
theorem dX10_init_21 : decode cX10_init 21 = .ok (.aload_n 0, 1) := by decide +kernel
theorem dX10_init_22 : decode cX10_init 22 = .ok (.bipush 40, 2) := by decide +kernel
theorem dX10_init_24 : decode cX10_init 24 = .ok (.newarray .int, 2) := by decide +kernel
theorem dX10_init_26 : decode cX10_init 26 = .ok (.putfield 21, 3) := by decide +kernel
theorem dX10_init_29 : decode cX10_init 29 = .ok (.return_, 1) := by decide +kernel
theorem dX10_add_0 : decode cX10_add 0 = .ok (.aload_n 0, 1) := by decide +kernel
theorem dX10_add_1 : decode cX10_add 1 = .ok (.getfield 24, 3) := by decide +kernel
theorem dX10_add_4 : decode cX10_add 4 = .ok (.bipush 40, 2) := by decide +kernel
theorem dX10_add_6 : decode cX10_add 6 = .ok (.if_icmp .ge 43, 3) := by decide +kernel
theorem dX10_add_9 : decode cX10_add 9 = .ok (.aload_n 0, 1) := by decide +kernel
theorem dX10_add_10 : decode cX10_add 10 = .ok (.getfield 11, 3) := by decide +kernel
theorem dX10_add_13 : decode cX10_add 13 = .ok (.aload_n 0, 1) := by decide +kernel
theorem dX10_add_14 : decode cX10_add 14 = .ok (.getfield 24, 3) := by decide +kernel
theorem dX10_add_17 : decode cX10_add 17 = .ok (.aload_n 1, 1) := by decide +kernel
theorem dX10_add_18 : decode cX10_add 18 = .ok (.aastore, 1) := by decide +kernel
theorem dX10_add_19 : decode cX10_add 19 = .ok (.aload_n 0, 1) := by decide +kernel
theorem dX10_add_20 : decode cX10_add 20 = .ok (.getfield 17, 3) := by decide +kernel
theorem dX10_add_23 : decode cX10_add 23 = .ok (.aload_n 0, 1) := by decide +kernel
theorem dX10_add_24 : decode cX10_add 24 = .ok (.getfield 24, 3) := by decide +kernel
theorem dX10_add_27 : decode cX10_add 27 = .ok (.iload_n 2, 1) := by decide +kernel
theorem dX10_add_28 : decode cX10_add 28 = .ok (.iastore, 1) := by decide +kernel
theorem dX10_add_29 : decode cX10_add 29 = .ok (.aload_n 0, 1) := by decide +kernel
theorem dX10_add_30 : decode cX10_add 30 = .ok (.getfield 21, 3) := by decide +kernel
theorem dX10_add_33 : decode cX10_add 33 = .ok (.aload_n 0, 1) := by decide +kernel
theorem dX10_add_34 : decode cX10_add 34 = .ok (.getfield 24, 3) := by decide +kernel
theorem dX10_add_37 : decode cX10_add 37 = .ok (.iload_n 3, 1) := by decide +kernel
theorem dX10_add_38 : decode cX10_add 38 = .ok (.iastore, 1) := by decide +kernel
theorem dX10_add_39 : decode cX10_add 39 = .ok (.aload_n 0, 1) := by decide +kernel
theorem dX10_add_40 : decode cX10_add 40 = .ok (.dup, 1) := by decide +kernel
theorem dX10_add_41 : decode cX10_add 41 = .ok (.getfield 24, 3) := by decide +kernel
theorem dX10_add_44 : decode cX10_add 44 = .ok (.iconst 1, 1) := by decide +kernel
theorem dX10_add_45 : decode cX10_add 45 = .ok (.iadd, 1) := by decide +kernel
theorem dX10_add_46 : decode cX10_add 46 = .ok (.putfield 24, 3) := by decide +kernel
theorem dX10_add_49 : decode cX10_add 49 = .ok (.return_, 1) := by decide +kernel
theorem dX10_copy_0 : decode cX10_copy 0 = .ok (.aload_n 0, 1) := by decide +kernel
theorem dX10_copy_1 : decode cX10_copy 1 = .ok (.aload_n 1, 1) := by decide +kernel
theorem dX10_copy_2 : decode cX10_copy 2 = .ok (.getfield 24, 3) := by decide +kernel
theorem dX10_copy_5 : decode cX10_copy 5 = .ok (.putfield 24, 3) := by decide +kernel
theorem dX10_copy_8 : decode cX10_copy 8 = .ok (.iconst 0, 1) := by decide +kernel
theorem dX10_copy_9 : decode cX10_copy 9 = .ok (.istore_n 2, 1) := by decide +kernel
theorem dX10_copy_10 : decode cX10_copy 10 = .ok (.iload_n 2, 1) := by decide +kernel
theorem dX10_copy_11 : decode cX10_copy 11 = .ok (.aload_n 0, 1) := by decide +kernel
theorem dX10_copy_12 : decode cX10_copy 12 = .ok (.getfield 24, 3) := by decide +kernel
theorem dX10_copy_15 : decode cX10_copy 15 = .ok (.if_icmp .ge 45, 3) := by decide +kernel
theorem dX10_copy_18 : decode cX10_copy 18 = .ok (.aload_n 0, 1) := by decide +kernel
theorem dX10_copy_19 : decode cX10_copy 19 = .ok (.getfield 11, 3) := by decide +kernel
theorem dX10_copy_22 : decode cX10_copy 22 = .ok (.iload_n 2, 1) := by decide +kernel
theorem dX10_copy_23 : decode cX10_copy 23 = .ok (.aload_n 1, 1) := by decide +kernel
theorem dX10_copy_24 : decode cX10_copy 24 = .ok (.getfield 11, 3) := by decide +kernel
theorem dX10_copy_27 : decode cX10_copy 27 = .ok (.iload_n 2, 1) := by decide +kernel
theorem dX10_copy_28 : decode cX10_copy 28 = .ok (.aaload, 1) := by decide +kernel
theorem dX10_copy_29 : decode cX10_copy 29 = .ok (.aastore, 1) := by decide +kernel
theorem dX10_copy_30 : decode cX10_copy 30 = .ok (.aload_n 0, 1) := by decide +kernel
theorem dX10_copy_31 : decode cX10_copy 31 = .ok (.getfield 17, 3) := by decide +kernel
theorem dX10_copy_34 : decode cX10_copy 34 = .ok (.iload_n 2, 1) := by decide +kernel
theorem dX10_copy_35 : decode cX10_copy 35 = .ok (.aload_n 1, 1) := by decide +kernel
theorem dX10_copy_36 : decode cX10_copy 36 = .ok (.getfield 17, 3) := by decide +kernel
theorem dX10_copy_39 : decode cX10_copy 39 = .ok (.iload_n 2, 1) := by decide +kernel
theorem dX10_copy_40 : decode cX10_copy 40 = .ok (.iaload, 1) := by decide +kernel
theorem dX10_copy_41 : decode cX10_copy 41 = .ok (.iastore, 1) := by decide +kernel
theorem dX10_copy_42 : decode cX10_copy 42 = .ok (.aload_n 0, 1) := by decide +kernel
theorem dX10_copy_43 : decode cX10_copy 43 = .ok (.getfield 21, 3) := by decide +kernel
theorem dX10_copy_46 : decode cX10_copy 46 = .ok (.iload_n 2, 1) := by decide +kernel
theorem dX10_copy_47 : decode cX10_copy 47 = .ok (.aload_n 1, 1) := by decide +kernel
theorem dX10_copy_48 : decode cX10_copy 48 = .ok (.getfield 21, 3) := by decide +kernel
theorem dX10_copy_51 : decode cX10_copy 51 = .ok (.iload_n 2, 1) := by decide +kernel
theorem dX10_copy_52 : decode cX10_copy 52 = .ok (.iaload, 1) := by decide +kernel
theorem dX10_copy_53 : decode cX10_copy 53 = .ok (.iastore, 1) := by decide +kernel
theorem dX10_copy_54 : decode cX10_copy 54 = .ok (.iinc 2 1, 3) := by decide +kernel
theorem dX10_copy_57 : decode cX10_copy 57 = .ok (.goto (-47), 3) := by decide +kernel
theorem dX10_copy_60 : decode cX10_copy 60 = .ok (.return_, 1) := by decide +kernel
theorem dX10_play_0 : decode cX10_play 0 = .ok (.aload_n 0, 1) := by decide +kernel
theorem dX10_play_1 : decode cX10_play 1 = .ok (.getfield 11, 3) := by decide +kernel
theorem dX10_play_4 : decode cX10_play 4 = .ok (.iload_n 1, 1) := by decide +kernel
theorem dX10_play_5 : decode cX10_play 5 = .ok (.aaload, 1) := by decide +kernel
theorem dX10_play_6 : decode cX10_play 6 = .ok (.astore 4, 2) := by decide +kernel
theorem dX10_play_8 : decode cX10_play 8 = .ok (.aload_n 0, 1) := by decide +kernel
theorem dX10_play_9 : decode cX10_play 9 = .ok (.getfield 17, 3) := by decide +kernel
theorem dX10_play_12 : decode cX10_play 12 = .ok (.iload_n 1, 1) := by decide +kernel
theorem dX10_play_13 : decode cX10_play 13 = .ok (.iaload, 1) := by decide +kernel
theorem dX10_play_14 : decode cX10_play 14 = .ok (.istore 5, 2) := by decide +kernel
theorem dX10_play_16 : decode cX10_play 16 = .ok (.aload 4, 2) := by decide +kernel
theorem dX10_play_18 : decode cX10_play 18 = .ok (.getstatic 28, 3) := by decide +kernel
theorem dX10_play_21 : decode cX10_play 21 = .ok (.if_acmp .ne 9, 3) := by decide +kernel
theorem dX10_play_24 : decode cX10_play 24 = .ok (.aload_n 3, 1) := by decide +kernel
theorem dX10_play_25 : decode cX10_play 25 = .ok (.aload_n 2, 1) := by decide +kernel
theorem dX10_play_26 : decode cX10_play 26 = .ok (.invokevirtual 32, 3) := by decide +kernel
theorem dX10_play_29 : decode cX10_play 29 = .ok (.ireturn, 1) := by decide +kernel
theorem dX10_play_30 : decode cX10_play 30 = .ok (.aload 4, 2) := by decide +kernel
theorem dX10_play_32 : decode cX10_play 32 = .ok (.getstatic 38, 3) := by decide +kernel
theorem dX10_play_35 : decode cX10_play 35 = .ok (.if_acmp .ne 33, 3) := by decide +kernel
theorem dX10_play_38 : decode cX10_play 38 = .ok (.aload_n 3, 1) := by decide +kernel
theorem dX10_play_39 : decode cX10_play 39 = .ok (.aload_n 2, 1) := by decide +kernel
theorem dX10_play_40 : decode cX10_play 40 = .ok (.iload 5, 2) := by decide +kernel
theorem dX10_play_42 : decode cX10_play 42 = .ok (.aload_n 0, 1) := by decide +kernel
theorem dX10_play_43 : decode cX10_play 43 = .ok (.getfield 21, 3) := by decide +kernel
theorem dX10_play_46 : decode cX10_play 46 = .ok (.iload_n 1, 1) := by decide +kernel
theorem dX10_play_47 : decode cX10_play 47 = .ok (.iaload, 1) := by decide +kernel
theorem dX10_play_48 : decode cX10_play 48 = .ok (.invokevirtual 41, 3) := by decide +kernel
theorem dX10_play_51 : decode cX10_play 51 = .ok (.ifCond .eq 17, 3) := by decide +kernel
theorem dX10_play_54 : decode cX10_play 54 = .ok (.aload_n 3, 1) := by decide +kernel
theorem dX10_play_55 : decode cX10_play 55 = .ok (.iload 5, 2) := by decide +kernel
theorem dX10_play_57 : decode cX10_play 57 = .ok (.aload_n 0, 1) := by decide +kernel
theorem dX10_play_58 : decode cX10_play 58 = .ok (.getfield 21, 3) := by decide +kernel
theorem dX10_play_61 : decode cX10_play 61 = .ok (.iload_n 1, 1) := by decide +kernel
theorem dX10_play_62 : decode cX10_play 62 = .ok (.iaload, 1) := by decide +kernel
theorem dX10_play_63 : decode cX10_play 63 = .ok (.invokevirtual 45, 3) := by decide +kernel
theorem dX10_play_66 : decode cX10_play 66 = .ok (.iconst 0, 1) := by decide +kernel
theorem dX10_play_67 : decode cX10_play 67 = .ok (.ireturn, 1) := by decide +kernel
theorem dX10_play_68 : decode cX10_play 68 = .ok (.aload 4, 2) := by decide +kernel
theorem dX10_play_70 : decode cX10_play 70 = .ok (.getstatic 49, 3) := by decide +kernel
theorem dX10_play_73 : decode cX10_play 73 = .ok (.if_acmp .ne 22, 3) := by decide +kernel
theorem dX10_play_76 : decode cX10_play 76 = .ok (.aload_n 3, 1) := by decide +kernel
theorem dX10_play_77 : decode cX10_play 77 = .ok (.aload_n 2, 1) := by decide +kernel
theorem dX10_play_78 : decode cX10_play 78 = .ok (.iload 5, 2) := by decide +kernel
theorem dX10_play_80 : decode cX10_play 80 = .ok (.invokevirtual 52, 3) := by decide +kernel
theorem dX10_play_83 : decode cX10_play 83 = .ok (.ifCond .eq 12, 3) := by decide +kernel
theorem dX10_play_86 : decode cX10_play 86 = .ok (.aload_n 3, 1) := by decide +kernel
theorem dX10_play_87 : decode cX10_play 87 = .ok (.iload 5, 2) := by decide +kernel
theorem dX10_play_89 : decode cX10_play 89 = .ok (.iconst (-1), 1) := by decide +kernel
theorem dX10_play_90 : decode cX10_play 90 = .ok (.invokevirtual 45, 3) := by decide +kernel
theorem dX10_play_93 : decode cX10_play 93 = .ok (.iconst 0, 1) := by decide +kernel
theorem dX10_play_94 : decode cX10_play 94 = .ok (.ireturn, 1) := by decide +kernel
theorem dX10_play_95 : decode cX10_play 95 = .ok (.aload 4, 2) := by decide +kernel
theorem dX10_play_97 : decode cX10_play 97 = .ok (.getstatic 56, 3) := by decide +kernel
theorem dX10_play_100 : decode cX10_play 100 = .ok (.if_acmp .ne 21, 3) := by decide +kernel
theorem dX10_play_103 : decode cX10_play 103 = .ok (.aload_n 3, 1) := by decide +kernel
theorem dX10_play_104 : decode cX10_play 104 = .ok (.aload_n 2, 1) := by decide +kernel
theorem dX10_play_105 : decode cX10_play 105 = .ok (.iload 5, 2) := by decide +kernel
theorem dX10_play_107 : decode cX10_play 107 = .ok (.invokevirtual 59, 3) := by decide +kernel
theorem dX10_play_110 : decode cX10_play 110 = .ok (.ifCond .eq 11, 3) := by decide +kernel
theorem dX10_play_113 : decode cX10_play 113 = .ok (.aload_n 3, 1) := by decide +kernel
theorem dX10_play_114 : decode cX10_play 114 = .ok (.iload 5, 2) := by decide +kernel
theorem dX10_play_116 : decode cX10_play 116 = .ok (.invokevirtual 62, 3) := by decide +kernel
theorem dX10_play_119 : decode cX10_play 119 = .ok (.iconst 0, 1) := by decide +kernel
theorem dX10_play_120 : decode cX10_play 120 = .ok (.ireturn, 1) := by decide +kernel
theorem dX10_play_121 : decode cX10_play 121 = .ok (.iconst (-1), 1) := by decide +kernel
theorem dX10_play_122 : decode cX10_play 122 = .ok (.ireturn, 1) := by decide +kernel
theorem dX11_init_0 : decode cX11_init 0 = .ok (.aload_n 0, 1) := by decide +kernel
theorem dX11_init_1 : decode cX11_init 1 = .ok (.invokespecial 1, 3) := by decide +kernel
theorem dX11_init_4 : decode cX11_init 4 = .ok (.aload_n 0, 1) := by decide +kernel
theorem dX11_init_5 : decode cX11_init 5 = .ok (.new 7, 3) := by decide +kernel
theorem dX11_init_8 : decode cX11_init 8 = .ok (.dup, 1) := by decide +kernel
theorem dX11_init_9 : decode cX11_init 9 = .ok (.invokespecial 9, 3) := by decide +kernel
theorem dX11_init_12 : decode cX11_init 12 = .ok (.putfield 10, 3) := by decide +kernel
theorem dX11_init_15 : decode cX11_init 15 = .ok (.aload_n 0, 1) := by decide +kernel
theorem dX11_init_16 : decode cX11_init 16 = .ok (.new 16, 3) := by decide +kernel
theorem dX11_init_19 : decode cX11_init 19 = .ok (.dup, 1) := by decide +kernel
theorem dX11_init_20 : decode cX11_init 20 = .ok (.aload_n 0, 1) := by decide +kernel
theorem dX11_init_21 : decode cX11_init 21 = .ok (.getfield 10, 3) := by decide +kernel
theorem dX11_init_24 : decode cX11_init 24 = .ok (.invokespecial 18, 3) := by decide +kernel
theorem dX11_init_27 : decode cX11_init 27 = .ok (.putfield 21, 3) := by decide +kernel
theorem dX11_init_30 : decode cX11_init 30 = .ok (.aload_n 0, 1) := by decide +kernel
theorem dX11_init_31 : decode cX11_init 31 = .ok (.new 25, 3) := by decide +kernel
theorem dX11_init_34 : decode cX11_init 34 = .ok (.dup, 1) := by decide +kernel
theorem dX11_init_35 : decode cX11_init 35 = .ok (.invokespecial 27, 3) := by decide +kernel
theorem dX11_init_38 : decode cX11_init 38 = .ok (.putfield 28, 3) := by decide +kernel
theorem dX11_init_41 : decode cX11_init 41 = .ok (.aload_n 0, 1) := by decide +kernel
theorem dX11_init_42 : decode cX11_init 42 = .ok (.iconst 4, 1) := by decide +kernel
theorem dX11_init_43 : decode cX11_init 43 = .ok (.anewarray 25, 3) := by decide +kernel
theorem dX11_init_46 : decode cX11_init 46 = .ok (.putfield 32, 3) := by decide +kernel
theorem dX11_init_49 : decode cX11_init 49 = .ok (.aload_n 0, 1) := by decide +kernel
theorem dX11_init_50 : decode cX11_init 50 = .ok (.bipush 16, 2) := by decide +kernel
theorem dX11_init_52 : decode cX11_init 52 = .ok (.anewarray 36, 3) := by decide +kernel
theorem dX11_init_55 : decode cX11_init 55 = .ok (.putfield 38, 3) := by decide +kernel
theorem dX11_init_58 : decode cX11_init 58 = .ok (.aload_n 0, 1) := by decide +kernel
theorem dX11_init_59 : decode cX11_init 59 = .ok (.new 42, 3) := by decide +kernel
theorem dX11_init_62 : decode cX11_init 62 = .ok (.dup, 1) := by decide +kernel
theorem dX11_init_63 : decode cX11_init 63 = .ok (.invokespecial 44, 3) := by decide +kernel
theorem dX11_init_66 : decode cX11_init 66 = .ok (.putfield 45, 3) := by decide +kernel
theorem dX11_init_69 : decode cX11_init 69 = .ok (.aload_n 0, 1) := by decide +kernel
theorem dX11_init_70 : decode cX11_init 70 = .ok (.new 42, 3) := by decide +kernel
theorem dX11_init_73 : decode cX11_init 73 = .ok (.dup, 1) := by decide +kernel
theorem dX11_init_74 : decode cX11_init 74 = .ok (.invokespecial 44, 3) := by decide +kernel
theorem dX11_init_77 : decode cX11_init 77 = .ok (.putfield 49, 3) := by decide +kernel
theorem dX11_init_80 : decode cX11_init 80 = .ok (.aload_n 0, 1) := by decide +kernel
theorem dX11_init_81 : decode cX11_init 81 = .ok (.new 52, 3) := by decide +kernel
theorem dX11_init_84 : decode cX11_init 84 = .ok (.dup, 1) := by decide +kernel
theorem dX11_init_85 : decode cX11_init 85 = .ok (.invokespecial 54, 3) := by decide +kernel
theorem dX11_init_88 : decode cX11_init 88 = .ok (.putfield 55, 3) := by decide +kernel
theorem dX11_init_91 : decode cX11_init 91 = .ok (.aload_n 0, 1) := by decide +kernel
theorem dX11_init_92 : decode cX11_init 92 = .ok (.new 36, 3) := by decide +kernel
theorem dX11_init_95 : decode cX11_init 95 = .ok (.dup, 1) := by decide +kernel
theorem dX11_init_96 : decode cX11_init 96 = .ok (.invokespecial 59, 3) := by decide +kernel
theorem dX11_init_99 : decode cX11_init 99 = .ok (.putfield 60, 3) := by decide +kernel
theorem dX11_init_102 : decode cX11_init 102 = .ok (.aload_n 0, 1) := by decide +kernel
theorem dX11_init_103 : decode cX11_init 103 = .ok (.new 64, 3) := by decide +kernel
theorem dX11_init_106 : decode cX11_init 106 = .ok (.dup, 1) := by decide +kernel
theorem dX11_init_107 : decode cX11_init 107 = .ok (.invokespecial 66, 3) := by decide +kernel
theorem dX11_init_110 : decode cX11_init 110 = .ok (.putfield 67, 3) := by decide +kernel
theorem dX11_init_113 : decode cX11_init 113 = .ok (.aload_n 0, 1) := by decide +kernel
theorem dX11_init_114 : decode cX11_init 114 = .ok (.new 71, 3) := by decide +kernel
theorem dX11_init_117 : decode cX11_init 117 = .ok (.dup, 1) := by decide +kernel
theorem dX11_init_118 : decode cX11_init 118 = .ok (.invokespecial 73, 3) := by decide +kernel
theorem dX11_init_121 : decode cX11_init 121 = .ok (.putfield 74, 3) := by decide +kernel
theorem dX11_init_124 : decode cX11_init 124 = .ok (.iconst 0, 1) := by decide +kernel
theorem dX11_init_125 : decode cX11_init 125 = .ok (.istore_n 1, 1) := by decide +kernel
theorem dX11_init_126 : decode cX11_init 126 = .ok (.iload_n 1, 1) := by decide +kernel
theorem dX11_init_127 : decode cX11_init 127 = .ok (.iconst 4, 1) := by decide +kernel
theorem dX11_init_128 : decode cX11_init 128 = .ok (.if_icmp .ge 22, 3) := by decide +kernel
theorem dX11_init_131 : decode cX11_init 131 = .ok (.aload_n 0, 1) := by decide +kernel
theorem dX11_init_132 : decode cX11_init 132 = .ok (.getfield 32, 3) := by decide +kernel
theorem dX11_init_135 : decode cX11_init 135 = .ok (.iload_n 1, 1) := by decide +kernel
theorem dX11_init_136 : decode cX11_init 136 = .ok (.new 25, 3) := by decide +kernel
theorem dX11_init_139 : decode cX11_init 139 = .ok (.dup, 1) := by decide +kernel
theorem dX11_init_140 : decode cX11_init 140 = .ok (.invokespecial 27, 3) := by decide +kernel
theorem dX11_init_143 : decode cX11_init 143 = .ok (.aastore, 1) := by decide +kernel
theorem dX11_init_144 : decode cX11_init 144 = .ok (.iinc 1 1, 3) := by decide +kernel
theorem dX11_init_147 : decode cX11_init 147 = .ok (.goto (-21), 3) := by decide +kernel
theorem dX11_init_150 : decode cX11_init 150 = .ok (.iconst 0, 1) := by decide +kernel
theorem dX11_init_151 : decode cX11_init 151 = .ok (.istore_n 1, 1) := by decide +kernel
theorem dX11_init_152 : decode cX11_init 152 = .ok (.iload_n 1, 1) := by decide +kernel
theorem dX11_init_153 : decode cX11_init 153 = .ok (.bipush 16, 2) := by decide +kernel
theorem dX11_init_155 : decode cX11_init 155 = .ok (.if_icmp .ge 22, 3) := by decide +kernel
theorem dX11_init_158 : decode cX11_init 158 = .ok (.aload_n 0, 1) := by decide +kernel
theorem dX11_init_159 : decode cX11_init 159 = .ok (.getfield 38, 3) := by decide +kernel
theorem dX11_init_162 : decode cX11_init 162 = .ok (.iload_n 1, 1) := by decide +kernel
theorem dX11_init_163 : decode cX11_init 163 = .ok (.new 36, 3) := by decide +kernel
theorem dX11_init_166 : decode cX11_init 166 = .ok (.dup, 1) := by decide +kernel
theorem dX11_init_167 : decode cX11_init 167 = .ok (.invokespecial 59, 3) := by decide +kernel
theorem dX11_init_170 : decode cX11_init 170 = .ok (.aastore, 1) := by decide +kernel
theorem dX11_init_171 : decode cX11_init 171 = .ok (.iinc 1 1, 3) := by decide +kernel
theorem dX11_init_174 : decode cX11_init 174 = .ok (.goto (-22), 3) := by decide +kernel
theorem dX11_init_177 : decode cX11_init 177 = .ok (.return_, 1) := by decide +kernel
theorem dX11_feed_0 : decode cX11_feed 0 = .ok (.aload_n 0, 1) := by decide +kernel
theorem dX11_feed_1 : decode cX11_feed 1 = .ok (.getfield 10, 3) := by decide +kernel
theorem dX11_feed_4 : decode cX11_feed 4 = .ok (.lload_n 1, 1) := by decide +kernel
theorem dX11_feed_5 : decode cX11_feed 5 = .ok (.invokevirtual 78, 3) := by decide +kernel
theorem dX11_feed_8 : decode cX11_feed 8 = .ok (.aload_n 0, 1) := by decide +kernel
theorem dX11_feed_9 : decode cX11_feed 9 = .ok (.getfield 10, 3) := by decide +kernel
theorem dX11_feed_12 : decode cX11_feed 12 = .ok (.lload_n 3, 1) := by decide +kernel
theorem dX11_feed_13 : decode cX11_feed 13 = .ok (.invokevirtual 78, 3) := by decide +kernel
theorem dX11_feed_16 : decode cX11_feed 16 = .ok (.aload_n 0, 1) := by decide +kernel
theorem dX11_feed_17 : decode cX11_feed 17 = .ok (.getfield 10, 3) := by decide +kernel
theorem dX11_feed_20 : decode cX11_feed 20 = .ok (.lload 5, 2) := by decide +kernel
theorem dX11_feed_22 : decode cX11_feed 22 = .ok (.invokevirtual 78, 3) := by decide +kernel
theorem dX11_feed_25 : decode cX11_feed 25 = .ok (.aload_n 0, 1) := by decide +kernel
theorem dX11_feed_26 : decode cX11_feed 26 = .ok (.getfield 10, 3) := by decide +kernel
theorem dX11_feed_29 : decode cX11_feed 29 = .ok (.getfield 82, 3) := by decide +kernel
theorem dX11_feed_32 : decode cX11_feed 32 = .ok (.ireturn, 1) := by decide +kernel
theorem dX11_realm_0 : decode cX11_realm 0 = .ok (.aload_n 0, 1) := by decide +kernel
theorem dX11_realm_1 : decode cX11_realm 1 = .ok (.getfield 21, 3) := by decide +kernel
theorem dX11_realm_4 : decode cX11_realm 4 = .ok (.aload_n 0, 1) := by decide +kernel
theorem dX11_realm_5 : decode cX11_realm 5 = .ok (.getfield 49, 3) := by decide +kernel
theorem dX11_realm_8 : decode cX11_realm 8 = .ok (.invokevirtual 86, 3) := by decide +kernel
theorem dX11_realm_11 : decode cX11_realm 11 = .ok (.istore_n 1, 1) := by decide +kernel
theorem dX11_realm_12 : decode cX11_realm 12 = .ok (.aload_n 0, 1) := by decide +kernel
theorem dX11_realm_13 : decode cX11_realm 13 = .ok (.getfield 10, 3) := by decide +kernel
theorem dX11_realm_16 : decode cX11_realm 16 = .ok (.invokevirtual 90, 3) := by decide +kernel
theorem dX11_realm_19 : decode cX11_realm 19 = .ok (.iload_n 1, 1) := by decide +kernel
theorem dX11_realm_20 : decode cX11_realm 20 = .ok (.ifCond .eq 5, 3) := by decide +kernel
theorem dX11_realm_23 : decode cX11_realm 23 = .ok (.iload_n 1, 1) := by decide +kernel
theorem dX11_realm_24 : decode cX11_realm 24 = .ok (.ireturn, 1) := by decide +kernel
theorem dX11_realm_25 : decode cX11_realm 25 = .ok (.aload_n 0, 1) := by decide +kernel
theorem dX11_realm_26 : decode cX11_realm 26 = .ok (.getfield 45, 3) := by decide +kernel
theorem dX11_realm_29 : decode cX11_realm 29 = .ok (.astore_n 2, 1) := by decide +kernel
theorem dX11_realm_30 : decode cX11_realm 30 = .ok (.aload_n 0, 1) := by decide +kernel
theorem dX11_realm_31 : decode cX11_realm 31 = .ok (.aload_n 0, 1) := by decide +kernel
theorem dX11_realm_32 : decode cX11_realm 32 = .ok (.getfield 49, 3) := by decide +kernel
theorem dX11_realm_35 : decode cX11_realm 35 = .ok (.putfield 45, 3) := by decide +kernel
theorem dX11_realm_38 : decode cX11_realm 38 = .ok (.aload_n 0, 1) := by decide +kernel
theorem dX11_realm_39 : decode cX11_realm 39 = .ok (.aload_n 2, 1) := by decide +kernel
theorem dX11_realm_40 : decode cX11_realm 40 = .ok (.putfield 49, 3) := by decide +kernel
theorem dX11_realm_43 : decode cX11_realm 43 = .ok (.aload_n 0, 1) := by decide +kernel
theorem dX11_realm_44 : decode cX11_realm 44 = .ok (.getfield 28, 3) := by decide +kernel
theorem dX11_realm_47 : decode cX11_realm 47 = .ok (.invokevirtual 93, 3) := by decide +kernel
theorem dX11_realm_50 : decode cX11_realm 50 = .ok (.aload_n 0, 1) := by decide +kernel
theorem dX11_realm_51 : decode cX11_realm 51 = .ok (.iconst 0, 1) := by decide +kernel
theorem dX11_realm_52 : decode cX11_realm 52 = .ok (.putfield 94, 3) := by decide +kernel
theorem dX11_realm_55 : decode cX11_realm 55 = .ok (.iconst 0, 1) := by decide +kernel
theorem dX11_realm_56 : decode cX11_realm 56 = .ok (.istore_n 3, 1) := by decide +kernel
theorem dX11_realm_57 : decode cX11_realm 57 = .ok (.iload_n 3, 1) := by decide +kernel
theorem dX11_realm_58 : decode cX11_realm 58 = .ok (.iconst 4, 1) := by decide +kernel
theorem dX11_realm_59 : decode cX11_realm 59 = .ok (.if_icmp .ge 19, 3) := by decide +kernel
theorem dX11_realm_62 : decode cX11_realm 62 = .ok (.aload_n 0, 1) := by decide +kernel
theorem dX11_realm_63 : decode cX11_realm 63 = .ok (.getfield 32, 3) := by decide +kernel
theorem dX11_realm_66 : decode cX11_realm 66 = .ok (.iload_n 3, 1) := by decide +kernel
theorem dX11_realm_67 : decode cX11_realm 67 = .ok (.aaload, 1) := by decide +kernel
theorem dX11_realm_68 : decode cX11_realm 68 = .ok (.iconst 0, 1) := by decide +kernel
theorem dX11_realm_69 : decode cX11_realm 69 = .ok (.putfield 97, 3) := by decide +kernel
theorem dX11_realm_72 : decode cX11_realm 72 = .ok (.iinc 3 1, 3) := by decide +kernel
theorem dX11_realm_75 : decode cX11_realm 75 = .ok (.goto (-18), 3) := by decide +kernel
theorem dX11_realm_78 : decode cX11_realm 78 = .ok (.iconst 0, 1) := by decide +kernel
theorem dX11_realm_79 : decode cX11_realm 79 = .ok (.ireturn, 1) := by decide +kernel
theorem dX11_years_0 : decode cX11_years 0 = .ok (.aload_n 0, 1) := by decide +kernel
theorem dX11_years_1 : decode cX11_years 1 = .ok (.getfield 21, 3) := by decide +kernel
theorem dX11_years_4 : decode cX11_years 4 = .ok (.aload_n 0, 1) := by decide +kernel
theorem dX11_years_5 : decode cX11_years 5 = .ok (.getfield 45, 3) := by decide +kernel
theorem dX11_years_8 : decode cX11_years 8 = .ok (.aload_n 0, 1) := by decide +kernel
theorem dX11_years_9 : decode cX11_years 9 = .ok (.getfield 55, 3) := by decide +kernel
theorem dX11_years_12 : decode cX11_years 12 = .ok (.invokevirtual 101, 3) := by decide +kernel
theorem dX11_years_15 : decode cX11_years 15 = .ok (.istore_n 1, 1) := by decide +kernel
theorem dX11_years_16 : decode cX11_years 16 = .ok (.aload_n 0, 1) := by decide +kernel
theorem dX11_years_17 : decode cX11_years 17 = .ok (.getfield 10, 3) := by decide +kernel
theorem dX11_years_20 : decode cX11_years 20 = .ok (.invokevirtual 90, 3) := by decide +kernel
theorem dX11_years_23 : decode cX11_years 23 = .ok (.iload_n 1, 1) := by decide +kernel
theorem dX11_years_24 : decode cX11_years 24 = .ok (.ifCond .ne 17, 3) := by decide +kernel
theorem dX11_years_27 : decode cX11_years 27 = .ok (.aload_n 0, 1) := by decide +kernel
theorem dX11_years_28 : decode cX11_years 28 = .ok (.getfield 28, 3) := by decide +kernel
theorem dX11_years_31 : decode cX11_years 31 = .ok (.getfield 105, 3) := by decide +kernel
theorem dX11_years_34 : decode cX11_years 34 = .ok (.aload_n 0, 1) := by decide +kernel
theorem dX11_years_35 : decode cX11_years 35 = .ok (.getfield 55, 3) := by decide +kernel
theorem dX11_years_38 : decode cX11_years 38 = .ok (.invokevirtual 108, 3) := by decide +kernel
theorem dX11_years_41 : decode cX11_years 41 = .ok (.iload_n 1, 1) := by decide +kernel
theorem dX11_years_42 : decode cX11_years 42 = .ok (.ireturn, 1) := by decide +kernel
theorem dX11_wig_0 : decode cX11_wig 0 = .ok (.aload_n 0, 1) := by decide +kernel
theorem dX11_wig_1 : decode cX11_wig 1 = .ok (.getfield 45, 3) := by decide +kernel
theorem dX11_wig_4 : decode cX11_wig 4 = .ok (.iload_n 1, 1) := by decide +kernel
theorem dX11_wig_5 : decode cX11_wig 5 = .ok (.invokevirtual 112, 3) := by decide +kernel
theorem dX11_wig_8 : decode cX11_wig 8 = .ok (.ifCond .ne 6, 3) := by decide +kernel
theorem dX11_wig_11 : decode cX11_wig 11 = .ok (.bipush (-2), 2) := by decide +kernel
theorem dX11_wig_13 : decode cX11_wig 13 = .ok (.ireturn, 1) := by decide +kernel
theorem dX11_wig_14 : decode cX11_wig 14 = .ok (.iload_n 2, 1) := by decide +kernel
theorem dX11_wig_15 : decode cX11_wig 15 = .ok (.tableswitch 84 0 4 #[33, 42, 51, 60, 72], 33) := by decide +kernel
theorem dX11_wig_48 : decode cX11_wig 48 = .ok (.aload_n 0, 1) := by decide +kernel
theorem dX11_wig_49 : decode cX11_wig 49 = .ok (.getfield 45, 3) := by decide +kernel
theorem dX11_wig_52 : decode cX11_wig 52 = .ok (.iload_n 1, 1) := by decide +kernel
theorem dX11_wig_53 : decode cX11_wig 53 = .ok (.invokevirtual 116, 3) := by decide +kernel
theorem dX11_wig_56 : decode cX11_wig 56 = .ok (.ireturn, 1) := by decide +kernel
theorem dX11_wig_57 : decode cX11_wig 57 = .ok (.aload_n 0, 1) := by decide +kernel
theorem dX11_wig_58 : decode cX11_wig 58 = .ok (.getfield 45, 3) := by decide +kernel
theorem dX11_wig_61 : decode cX11_wig 61 = .ok (.iload_n 1, 1) := by decide +kernel
theorem dX11_wig_62 : decode cX11_wig 62 = .ok (.invokevirtual 120, 3) := by decide +kernel
theorem dX11_wig_65 : decode cX11_wig 65 = .ok (.ireturn, 1) := by decide +kernel
theorem dX11_wig_66 : decode cX11_wig 66 = .ok (.aload_n 0, 1) := by decide +kernel
theorem dX11_wig_67 : decode cX11_wig 67 = .ok (.getfield 45, 3) := by decide +kernel
theorem dX11_wig_70 : decode cX11_wig 70 = .ok (.iload_n 1, 1) := by decide +kernel
theorem dX11_wig_71 : decode cX11_wig 71 = .ok (.invokevirtual 123, 3) := by decide +kernel
theorem dX11_wig_74 : decode cX11_wig 74 = .ok (.ireturn, 1) := by decide +kernel
theorem dX11_wig_75 : decode cX11_wig 75 = .ok (.aload_n 0, 1) := by decide +kernel
theorem dX11_wig_76 : decode cX11_wig 76 = .ok (.getfield 28, 3) := by decide +kernel
theorem dX11_wig_79 : decode cX11_wig 79 = .ok (.getfield 126, 3) := by decide +kernel
theorem dX11_wig_82 : decode cX11_wig 82 = .ok (.iload_n 1, 1) := by decide +kernel
theorem dX11_wig_83 : decode cX11_wig 83 = .ok (.invokevirtual 129, 3) := by decide +kernel
theorem dX11_wig_86 : decode cX11_wig 86 = .ok (.ireturn, 1) := by decide +kernel
theorem dX11_wig_87 : decode cX11_wig 87 = .ok (.aload_n 0, 1) := by decide +kernel
theorem dX11_wig_88 : decode cX11_wig 88 = .ok (.getfield 28, 3) := by decide +kernel
theorem dX11_wig_91 : decode cX11_wig 91 = .ok (.getfield 126, 3) := by decide +kernel
theorem dX11_wig_94 : decode cX11_wig 94 = .ok (.iload_n 1, 1) := by decide +kernel
theorem dX11_wig_95 : decode cX11_wig 95 = .ok (.invokevirtual 132, 3) := by decide +kernel
theorem dX11_wig_98 : decode cX11_wig 98 = .ok (.ireturn, 1) := by decide +kernel
theorem dX11_wig_99 : decode cX11_wig 99 = .ok (.bipush (-2), 2) := by decide +kernel
theorem dX11_wig_101 : decode cX11_wig 101 = .ok (.ireturn, 1) := by decide +kernel
theorem dX11_head_0 : decode cX11_head 0 = .ok (.aload_n 0, 1) := by decide +kernel
theorem dX11_head_1 : decode cX11_head 1 = .ok (.getfield 45, 3) := by decide +kernel
theorem dX11_head_4 : decode cX11_head 4 = .ok (.iload_n 1, 1) := by decide +kernel
theorem dX11_head_5 : decode cX11_head 5 = .ok (.invokevirtual 135, 3) := by decide +kernel
theorem dX11_head_8 : decode cX11_head 8 = .ok (.ifCond .ne 6, 3) := by decide +kernel
theorem dX11_head_11 : decode cX11_head 11 = .ok (.bipush (-2), 2) := by decide +kernel
theorem dX11_head_13 : decode cX11_head 13 = .ok (.ireturn, 1) := by decide +kernel
theorem dX11_head_14 : decode cX11_head 14 = .ok (.iload_n 2, 1) := by decide +kernel
theorem dX11_head_15 : decode cX11_head 15 = .ok (.tableswitch 108 0 5 #[37, 47, 57, 67, 77, 96], 37) := by decide +kernel
theorem dX11_head_52 : decode cX11_head 52 = .ok (.aload_n 0, 1) := by decide +kernel
theorem dX11_head_53 : decode cX11_head 53 = .ok (.getfield 45, 3) := by decide +kernel
theorem dX11_head_56 : decode cX11_head 56 = .ok (.iload_n 1, 1) := by decide +kernel
theorem dX11_head_57 : decode cX11_head 57 = .ok (.iconst 0, 1) := by decide +kernel
theorem dX11_head_58 : decode cX11_head 58 = .ok (.invokevirtual 138, 3) := by decide +kernel
theorem dX11_head_61 : decode cX11_head 61 = .ok (.ireturn, 1) := by decide +kernel
theorem dX11_head_62 : decode cX11_head 62 = .ok (.aload_n 0, 1) := by decide +kernel
theorem dX11_head_63 : decode cX11_head 63 = .ok (.getfield 45, 3) := by decide +kernel
theorem dX11_head_66 : decode cX11_head 66 = .ok (.iload_n 1, 1) := by decide +kernel
theorem dX11_head_67 : decode cX11_head 67 = .ok (.iconst 1, 1) := by decide +kernel
theorem dX11_head_68 : decode cX11_head 68 = .ok (.invokevirtual 138, 3) := by decide +kernel
theorem dX11_head_71 : decode cX11_head 71 = .ok (.ireturn, 1) := by decide +kernel
theorem dX11_head_72 : decode cX11_head 72 = .ok (.aload_n 0, 1) := by decide +kernel
theorem dX11_head_73 : decode cX11_head 73 = .ok (.getfield 45, 3) := by decide +kernel
theorem dX11_head_76 : decode cX11_head 76 = .ok (.iload_n 1, 1) := by decide +kernel
theorem dX11_head_77 : decode cX11_head 77 = .ok (.iconst 2, 1) := by decide +kernel
theorem dX11_head_78 : decode cX11_head 78 = .ok (.invokevirtual 138, 3) := by decide +kernel
theorem dX11_head_81 : decode cX11_head 81 = .ok (.ireturn, 1) := by decide +kernel
theorem dX11_head_82 : decode cX11_head 82 = .ok (.aload_n 0, 1) := by decide +kernel
theorem dX11_head_83 : decode cX11_head 83 = .ok (.getfield 45, 3) := by decide +kernel
theorem dX11_head_86 : decode cX11_head 86 = .ok (.iload_n 1, 1) := by decide +kernel
theorem dX11_head_87 : decode cX11_head 87 = .ok (.iconst 3, 1) := by decide +kernel
theorem dX11_head_88 : decode cX11_head 88 = .ok (.invokevirtual 138, 3) := by decide +kernel
theorem dX11_head_91 : decode cX11_head 91 = .ok (.ireturn, 1) := by decide +kernel
theorem dX11_head_92 : decode cX11_head 92 = .ok (.aload_n 0, 1) := by decide +kernel
theorem dX11_head_93 : decode cX11_head 93 = .ok (.getfield 45, 3) := by decide +kernel
theorem dX11_head_96 : decode cX11_head 96 = .ok (.iload_n 1, 1) := by decide +kernel
theorem dX11_head_97 : decode cX11_head 97 = .ok (.aload_n 0, 1) := by decide +kernel
theorem dX11_head_98 : decode cX11_head 98 = .ok (.getfield 28, 3) := by decide +kernel
theorem dX11_head_101 : decode cX11_head 101 = .ok (.getfield 126, 3) := by decide +kernel
theorem dX11_head_104 : decode cX11_head 104 = .ok (.getfield 142, 3) := by decide +kernel
theorem dX11_head_107 : decode cX11_head 107 = .ok (.invokevirtual 145, 3) := by decide +kernel
theorem dX11_head_110 : decode cX11_head 110 = .ok (.ireturn, 1) := by decide +kernel
theorem dX11_head_111 : decode cX11_head 111 = .ok (.aload_n 0, 1) := by decide +kernel
theorem dX11_head_112 : decode cX11_head 112 = .ok (.getfield 28, 3) := by decide +kernel
theorem dX11_head_115 : decode cX11_head 115 = .ok (.getfield 126, 3) := by decide +kernel
theorem dX11_head_118 : decode cX11_head 118 = .ok (.iload_n 1, 1) := by decide +kernel
theorem dX11_head_119 : decode cX11_head 119 = .ok (.invokevirtual 148, 3) := by decide +kernel
theorem dX11_head_122 : decode cX11_head 122 = .ok (.ireturn, 1) := by decide +kernel
theorem dX11_head_123 : decode cX11_head 123 = .ok (.bipush (-2), 2) := by decide +kernel
theorem dX11_head_125 : decode cX11_head 125 = .ok (.ireturn, 1) := by decide +kernel
theorem dX11_fits_0 : decode cX11_fits 0 = .ok (.aload_n 0, 1) := by decide +kernel
theorem dX11_fits_1 : decode cX11_fits 1 = .ok (.getfield 45, 3) := by decide +kernel
theorem dX11_fits_4 : decode cX11_fits 4 = .ok (.iload_n 1, 1) := by decide +kernel
theorem dX11_fits_5 : decode cX11_fits 5 = .ok (.invokevirtual 112, 3) := by decide +kernel
theorem dX11_fits_8 : decode cX11_fits 8 = .ok (.ifCond .eq 52, 3) := by decide +kernel
theorem dX11_fits_11 : decode cX11_fits 11 = .ok (.aload_n 0, 1) := by decide +kernel
theorem dX11_fits_12 : decode cX11_fits 12 = .ok (.getfield 45, 3) := by decide +kernel
theorem dX11_fits_15 : decode cX11_fits 15 = .ok (.iload_n 2, 1) := by decide +kernel
theorem dX11_fits_16 : decode cX11_fits 16 = .ok (.invokevirtual 135, 3) := by decide +kernel
theorem dX11_fits_19 : decode cX11_fits 19 = .ok (.ifCond .eq 41, 3) := by decide +kernel
theorem dX11_fits_22 : decode cX11_fits 22 = .ok (.iload_n 3, 1) := by decide +kernel
theorem dX11_fits_23 : decode cX11_fits 23 = .ok (.ifCond .lt 37, 3) := by decide +kernel
theorem dX11_fits_26 : decode cX11_fits 26 = .ok (.iload_n 3, 1) := by decide +kernel
theorem dX11_fits_27 : decode cX11_fits 27 = .ok (.bipush 99, 2) := by decide +kernel
theorem dX11_fits_29 : decode cX11_fits 29 = .ok (.if_icmp .gt 31, 3) := by decide +kernel
theorem dX11_fits_32 : decode cX11_fits 32 = .ok (.aload_n 0, 1) := by decide +kernel
theorem dX11_fits_33 : decode cX11_fits 33 = .ok (.getfield 45, 3) := by decide +kernel
theorem dX11_fits_36 : decode cX11_fits 36 = .ok (.iload_n 1, 1) := by decide +kernel
theorem dX11_fits_37 : decode cX11_fits 37 = .ok (.iload_n 2, 1) := by decide +kernel
theorem dX11_fits_38 : decode cX11_fits 38 = .ok (.aload_n 0, 1) := by decide +kernel
theorem dX11_fits_39 : decode cX11_fits 39 = .ok (.getfield 28, 3) := by decide +kernel
theorem dX11_fits_42 : decode cX11_fits 42 = .ok (.getfield 126, 3) := by decide +kernel
theorem dX11_fits_45 : decode cX11_fits 45 = .ok (.getfield 142, 3) := by decide +kernel
theorem dX11_fits_48 : decode cX11_fits 48 = .ok (.iload_n 3, 1) := by decide +kernel
theorem dX11_fits_49 : decode cX11_fits 49 = .ok (.iadd, 1) := by decide +kernel
theorem dX11_fits_50 : decode cX11_fits 50 = .ok (.invokevirtual 151, 3) := by decide +kernel
theorem dX11_fits_53 : decode cX11_fits 53 = .ok (.ifCond .eq 7, 3) := by decide +kernel
theorem dX11_fits_56 : decode cX11_fits 56 = .ok (.iconst 1, 1) := by decide +kernel
theorem dX11_fits_57 : decode cX11_fits 57 = .ok (.goto 4, 3) := by decide +kernel
theorem dX11_fits_60 : decode cX11_fits 60 = .ok (.iconst 0, 1) := by decide +kernel
theorem dX11_fits_61 : decode cX11_fits 61 = .ok (.ireturn, 1) := by decide +kernel
theorem dX11_put_0 : decode cX11_put 0 = .ok (.aload_n 0, 1) := by decide +kernel
theorem dX11_put_1 : decode cX11_put 1 = .ok (.getfield 28, 3) := by decide +kernel
theorem dX11_put_4 : decode cX11_put 4 = .ok (.getfield 126, 3) := by decide +kernel
theorem dX11_put_7 : decode cX11_put 7 = .ok (.aload_n 0, 1) := by decide +kernel
theorem dX11_put_8 : decode cX11_put 8 = .ok (.getfield 45, 3) := by decide +kernel
theorem dX11_put_11 : decode cX11_put 11 = .ok (.iload_n 1, 1) := by decide +kernel
theorem dX11_put_12 : decode cX11_put 12 = .ok (.iload_n 2, 1) := by decide +kernel
theorem dX11_put_13 : decode cX11_put 13 = .ok (.invokevirtual 155, 3) := by decide +kernel
theorem dX11_put_16 : decode cX11_put 16 = .ok (.ifCond .ne 5, 3) := by decide +kernel
theorem dX11_put_19 : decode cX11_put 19 = .ok (.iconst 0, 1) := by decide +kernel
theorem dX11_put_20 : decode cX11_put 20 = .ok (.ireturn, 1) := by decide +kernel
theorem dX11_put_21 : decode cX11_put 21 = .ok (.aload_n 0, 1) := by decide +kernel
theorem dX11_put_22 : decode cX11_put 22 = .ok (.invokevirtual 159, 3) := by decide +kernel
theorem dX11_put_25 : decode cX11_put 25 = .ok (.aload_n 0, 1) := by decide +kernel
theorem dX11_put_26 : decode cX11_put 26 = .ok (.getfield 28, 3) := by decide +kernel
theorem dX11_put_29 : decode cX11_put 29 = .ok (.getfield 126, 3) := by decide +kernel
theorem dX11_put_32 : decode cX11_put 32 = .ok (.iload_n 1, 1) := by decide +kernel
theorem dX11_put_33 : decode cX11_put 33 = .ok (.iload_n 2, 1) := by decide +kernel
theorem dX11_put_34 : decode cX11_put 34 = .ok (.invokevirtual 162, 3) := by decide +kernel
theorem dX11_put_37 : decode cX11_put 37 = .ok (.iconst 1, 1) := by decide +kernel
theorem dX11_put_38 : decode cX11_put 38 = .ok (.ireturn, 1) := by decide +kernel
theorem dX11_off_0 : decode cX11_off 0 = .ok (.aload_n 0, 1) := by decide +kernel
theorem dX11_off_1 : decode cX11_off 1 = .ok (.getfield 28, 3) := by decide +kernel
theorem dX11_off_4 : decode cX11_off 4 = .ok (.getfield 126, 3) := by decide +kernel
theorem dX11_off_7 : decode cX11_off 7 = .ok (.aload_n 0, 1) := by decide +kernel
theorem dX11_off_8 : decode cX11_off 8 = .ok (.getfield 45, 3) := by decide +kernel
theorem dX11_off_11 : decode cX11_off 11 = .ok (.iload_n 1, 1) := by decide +kernel
theorem dX11_off_12 : decode cX11_off 12 = .ok (.invokevirtual 166, 3) := by decide +kernel
theorem dX11_off_15 : decode cX11_off 15 = .ok (.ifCond .ne 5, 3) := by decide +kernel
theorem dX11_off_18 : decode cX11_off 18 = .ok (.iconst (-1), 1) := by decide +kernel
theorem dX11_off_19 : decode cX11_off 19 = .ok (.ireturn, 1) := by decide +kernel
theorem dX11_off_20 : decode cX11_off 20 = .ok (.aload_n 0, 1) := by decide +kernel
theorem dX11_off_21 : decode cX11_off 21 = .ok (.invokevirtual 159, 3) := by decide +kernel
theorem dX11_off_24 : decode cX11_off 24 = .ok (.aload_n 0, 1) := by decide +kernel
theorem dX11_off_25 : decode cX11_off 25 = .ok (.getfield 28, 3) := by decide +kernel
theorem dX11_off_28 : decode cX11_off 28 = .ok (.getfield 126, 3) := by decide +kernel
theorem dX11_off_31 : decode cX11_off 31 = .ok (.iload_n 1, 1) := by decide +kernel
theorem dX11_off_32 : decode cX11_off 32 = .ok (.invokevirtual 129, 3) := by decide +kernel
theorem dX11_off_35 : decode cX11_off 35 = .ok (.istore_n 2, 1) := by decide +kernel
theorem dX11_off_36 : decode cX11_off 36 = .ok (.aload_n 0, 1) := by decide +kernel
theorem dX11_off_37 : decode cX11_off 37 = .ok (.getfield 28, 3) := by decide +kernel
theorem dX11_off_40 : decode cX11_off 40 = .ok (.getfield 126, 3) := by decide +kernel
theorem dX11_off_43 : decode cX11_off 43 = .ok (.iload_n 1, 1) := by decide +kernel
theorem dX11_off_44 : decode cX11_off 44 = .ok (.iconst (-1), 1) := by decide +kernel
theorem dX11_off_45 : decode cX11_off 45 = .ok (.invokevirtual 162, 3) := by decide +kernel
theorem dX11_off_48 : decode cX11_off 48 = .ok (.iload_n 2, 1) := by decide +kernel
theorem dX11_off_49 : decode cX11_off 49 = .ok (.ireturn, 1) := by decide +kernel
theorem dX11_mend_0 : decode cX11_mend 0 = .ok (.aload_n 0, 1) := by decide +kernel
theorem dX11_mend_1 : decode cX11_mend 1 = .ok (.getfield 28, 3) := by decide +kernel
theorem dX11_mend_4 : decode cX11_mend 4 = .ok (.getfield 126, 3) := by decide +kernel
theorem dX11_mend_7 : decode cX11_mend 7 = .ok (.aload_n 0, 1) := by decide +kernel
theorem dX11_mend_8 : decode cX11_mend 8 = .ok (.getfield 45, 3) := by decide +kernel
theorem dX11_mend_11 : decode cX11_mend 11 = .ok (.iload_n 1, 1) := by decide +kernel
theorem dX11_mend_12 : decode cX11_mend 12 = .ok (.invokevirtual 170, 3) := by decide +kernel
theorem dX11_mend_15 : decode cX11_mend 15 = .ok (.ifCond .ne 5, 3) := by decide +kernel
theorem dX11_mend_18 : decode cX11_mend 18 = .ok (.iconst (-1), 1) := by decide +kernel
theorem dX11_mend_19 : decode cX11_mend 19 = .ok (.ireturn, 1) := by decide +kernel
theorem dX11_mend_20 : decode cX11_mend 20 = .ok (.aload_n 0, 1) := by decide +kernel
theorem dX11_mend_21 : decode cX11_mend 21 = .ok (.invokevirtual 159, 3) := by decide +kernel
theorem dX11_mend_24 : decode cX11_mend 24 = .ok (.aload_n 0, 1) := by decide +kernel
theorem dX11_mend_25 : decode cX11_mend 25 = .ok (.getfield 28, 3) := by decide +kernel
theorem dX11_mend_28 : decode cX11_mend 28 = .ok (.getfield 126, 3) := by decide +kernel
theorem dX11_mend_31 : decode cX11_mend 31 = .ok (.iload_n 1, 1) := by decide +kernel
theorem dX11_mend_32 : decode cX11_mend 32 = .ok (.invokevirtual 132, 3) := by decide +kernel
theorem dX11_mend_35 : decode cX11_mend 35 = .ok (.istore_n 2, 1) := by decide +kernel
theorem dX11_mend_36 : decode cX11_mend 36 = .ok (.aload_n 0, 1) := by decide +kernel
theorem dX11_mend_37 : decode cX11_mend 37 = .ok (.getfield 28, 3) := by decide +kernel
theorem dX11_mend_40 : decode cX11_mend 40 = .ok (.getfield 126, 3) := by decide +kernel
theorem dX11_mend_43 : decode cX11_mend 43 = .ok (.iload_n 1, 1) := by decide +kernel
theorem dX11_mend_44 : decode cX11_mend 44 = .ok (.invokevirtual 173, 3) := by decide +kernel
theorem dX11_mend_47 : decode cX11_mend 47 = .ok (.iload_n 2, 1) := by decide +kernel
theorem dX11_mend_48 : decode cX11_mend 48 = .ok (.ireturn, 1) := by decide +kernel
theorem dX11_season_0 : decode cX11_season 0 = .ok (.aload_n 0, 1) := by decide +kernel
theorem dX11_season_1 : decode cX11_season 1 = .ok (.invokevirtual 159, 3) := by decide +kernel
theorem dX11_season_4 : decode cX11_season 4 = .ok (.aload_n 0, 1) := by decide +kernel
theorem dX11_season_5 : decode cX11_season 5 = .ok (.getfield 28, 3) := by decide +kernel
theorem dX11_season_8 : decode cX11_season 8 = .ok (.invokevirtual 177, 3) := by decide +kernel
theorem dX11_season_11 : decode cX11_season 11 = .ok (.aload_n 0, 1) := by decide +kernel
theorem dX11_season_12 : decode cX11_season 12 = .ok (.getfield 28, 3) := by decide +kernel
theorem dX11_season_15 : decode cX11_season 15 = .ok (.getfield 126, 3) := by decide +kernel
theorem dX11_season_18 : decode cX11_season 18 = .ok (.aload_n 0, 1) := by decide +kernel
theorem dX11_season_19 : decode cX11_season 19 = .ok (.getfield 45, 3) := by decide +kernel
theorem dX11_season_22 : decode cX11_season 22 = .ok (.invokevirtual 180, 3) := by decide +kernel
theorem dX11_season_25 : decode cX11_season 25 = .ok (.ireturn, 1) := by decide +kernel
theorem dX11_undo_0 : decode cX11_undo 0 = .ok (.aload_n 0, 1) := by decide +kernel
theorem dX11_undo_1 : decode cX11_undo 1 = .ok (.getfield 94, 3) := by decide +kernel
theorem dX11_undo_4 : decode cX11_undo 4 = .ok (.ifCond .gt 5, 3) := by decide +kernel
theorem dX11_undo_7 : decode cX11_undo 7 = .ok (.iconst 0, 1) := by decide +kernel
theorem dX11_undo_8 : decode cX11_undo 8 = .ok (.ireturn, 1) := by decide +kernel
theorem dX11_undo_9 : decode cX11_undo 9 = .ok (.aload_n 0, 1) := by decide +kernel
theorem dX11_undo_10 : decode cX11_undo 10 = .ok (.dup, 1) := by decide +kernel
theorem dX11_undo_11 : decode cX11_undo 11 = .ok (.getfield 94, 3) := by decide +kernel
theorem dX11_undo_14 : decode cX11_undo 14 = .ok (.iconst 1, 1) := by decide +kernel
theorem dX11_undo_15 : decode cX11_undo 15 = .ok (.isub, 1) := by decide +kernel
theorem dX11_undo_16 : decode cX11_undo 16 = .ok (.putfield 94, 3) := by decide +kernel
theorem dX11_undo_19 : decode cX11_undo 19 = .ok (.aload_n 0, 1) := by decide +kernel
theorem dX11_undo_20 : decode cX11_undo 20 = .ok (.aload_n 0, 1) := by decide +kernel
theorem dX11_undo_21 : decode cX11_undo 21 = .ok (.getfield 183, 3) := by decide +kernel
theorem dX11_undo_24 : decode cX11_undo 24 = .ok (.iconst 1, 1) := by decide +kernel
theorem dX11_undo_25 : decode cX11_undo 25 = .ok (.isub, 1) := by decide +kernel
theorem dX11_undo_26 : decode cX11_undo 26 = .ok (.bipush 16, 2) := by decide +kernel
theorem dX11_undo_28 : decode cX11_undo 28 = .ok (.invokestatic 186, 3) := by decide +kernel
theorem dX11_undo_31 : decode cX11_undo 31 = .ok (.putfield 183, 3) := by decide +kernel
theorem dX11_undo_34 : decode cX11_undo 34 = .ok (.aload_n 0, 1) := by decide +kernel
theorem dX11_undo_35 : decode cX11_undo 35 = .ok (.getfield 28, 3) := by decide +kernel
theorem dX11_undo_38 : decode cX11_undo 38 = .ok (.getfield 126, 3) := by decide +kernel
theorem dX11_undo_41 : decode cX11_undo 41 = .ok (.aload_n 0, 1) := by decide +kernel
theorem dX11_undo_42 : decode cX11_undo 42 = .ok (.getfield 38, 3) := by decide +kernel
theorem dX11_undo_45 : decode cX11_undo 45 = .ok (.aload_n 0, 1) := by decide +kernel
theorem dX11_undo_46 : decode cX11_undo 46 = .ok (.getfield 183, 3) := by decide +kernel
theorem dX11_undo_49 : decode cX11_undo 49 = .ok (.aaload, 1) := by decide +kernel
theorem dX11_undo_50 : decode cX11_undo 50 = .ok (.invokevirtual 191, 3) := by decide +kernel
theorem dX11_undo_53 : decode cX11_undo 53 = .ok (.aload_n 0, 1) := by decide +kernel
theorem dX11_undo_54 : decode cX11_undo 54 = .ok (.getfield 28, 3) := by decide +kernel
theorem dX11_undo_57 : decode cX11_undo 57 = .ok (.invokevirtual 177, 3) := by decide +kernel
theorem dX11_undo_60 : decode cX11_undo 60 = .ok (.iconst 1, 1) := by decide +kernel
theorem dX11_undo_61 : decode cX11_undo 61 = .ok (.ireturn, 1) := by decide +kernel
theorem dX11_remember_0 : decode cX11_remember 0 = .ok (.aload_n 0, 1) := by decide +kernel
theorem dX11_remember_1 : decode cX11_remember 1 = .ok (.getfield 38, 3) := by decide +kernel
theorem dX11_remember_4 : decode cX11_remember 4 = .ok (.aload_n 0, 1) := by decide +kernel
theorem dX11_remember_5 : decode cX11_remember 5 = .ok (.getfield 183, 3) := by decide +kernel
theorem dX11_remember_8 : decode cX11_remember 8 = .ok (.aaload, 1) := by decide +kernel
theorem dX11_remember_9 : decode cX11_remember 9 = .ok (.aload_n 0, 1) := by decide +kernel
theorem dX11_remember_10 : decode cX11_remember 10 = .ok (.getfield 28, 3) := by decide +kernel
theorem dX11_remember_13 : decode cX11_remember 13 = .ok (.getfield 126, 3) := by decide +kernel
theorem dX11_remember_16 : decode cX11_remember 16 = .ok (.invokevirtual 191, 3) := by decide +kernel
theorem dX11_remember_19 : decode cX11_remember 19 = .ok (.aload_n 0, 1) := by decide +kernel
theorem dX11_remember_20 : decode cX11_remember 20 = .ok (.aload_n 0, 1) := by decide +kernel
theorem dX11_remember_21 : decode cX11_remember 21 = .ok (.getfield 183, 3) := by decide +kernel
theorem dX11_remember_24 : decode cX11_remember 24 = .ok (.iconst 1, 1) := by decide +kernel
theorem dX11_remember_25 : decode cX11_remember 25 = .ok (.iadd, 1) := by decide +kernel
theorem dX11_remember_26 : decode cX11_remember 26 = .ok (.bipush 16, 2) := by decide +kernel
theorem dX11_remember_28 : decode cX11_remember 28 = .ok (.invokestatic 186, 3) := by decide +kernel
theorem dX11_remember_31 : decode cX11_remember 31 = .ok (.putfield 183, 3) := by decide +kernel
theorem dX11_remember_34 : decode cX11_remember 34 = .ok (.aload_n 0, 1) := by decide +kernel
theorem dX11_remember_35 : decode cX11_remember 35 = .ok (.aload_n 0, 1) := by decide +kernel
theorem dX11_remember_36 : decode cX11_remember 36 = .ok (.getfield 94, 3) := by decide +kernel
theorem dX11_remember_39 : decode cX11_remember 39 = .ok (.iconst 1, 1) := by decide +kernel
theorem dX11_remember_40 : decode cX11_remember 40 = .ok (.iadd, 1) := by decide +kernel
theorem dX11_remember_41 : decode cX11_remember 41 = .ok (.bipush 16, 2) := by decide +kernel
theorem dX11_remember_43 : decode cX11_remember 43 = .ok (.invokestatic 194, 3) := by decide +kernel
theorem dX11_remember_46 : decode cX11_remember 46 = .ok (.putfield 94, 3) := by decide +kernel
theorem dX11_remember_49 : decode cX11_remember 49 = .ok (.return_, 1) := by decide +kernel
theorem dX11_judged_0 : decode cX11_judged 0 = .ok (.iload_n 1, 1) := by decide +kernel
theorem dX11_judged_1 : decode cX11_judged 1 = .ok (.ifCond .lt 8, 3) := by decide +kernel
theorem dX11_judged_4 : decode cX11_judged 4 = .ok (.iload_n 1, 1) := by decide +kernel
theorem dX11_judged_5 : decode cX11_judged 5 = .ok (.iconst 2, 1) := by decide +kernel
theorem dX11_judged_6 : decode cX11_judged 6 = .ok (.if_icmp .le 6, 3) := by decide +kernel
theorem dX11_judged_9 : decode cX11_judged 9 = .ok (.bipush (-2), 2) := by decide +kernel
theorem dX11_judged_11 : decode cX11_judged 11 = .ok (.ireturn, 1) := by decide +kernel
theorem dX11_judged_12 : decode cX11_judged 12 = .ok (.aload_n 0, 1) := by decide +kernel
theorem dX11_judged_13 : decode cX11_judged 13 = .ok (.getfield 60, 3) := by decide +kernel
theorem dX11_judged_16 : decode cX11_judged 16 = .ok (.invokevirtual 197, 3) := by decide +kernel
theorem dX11_judged_19 : decode cX11_judged 19 = .ok (.iconst (-1), 1) := by decide +kernel
theorem dX11_judged_20 : decode cX11_judged 20 = .ok (.istore_n 2, 1) := by decide +kernel
theorem dX11_judged_21 : decode cX11_judged 21 = .ok (.iconst (-1), 1) := by decide +kernel
theorem dX11_judged_22 : decode cX11_judged 22 = .ok (.istore_n 3, 1) := by decide +kernel
theorem dX11_judged_23 : decode cX11_judged 23 = .ok (.iconst 0, 1) := by decide +kernel
theorem dX11_judged_24 : decode cX11_judged 24 = .ok (.istore 4, 2) := by decide +kernel
theorem dX11_judged_26 : decode cX11_judged 26 = .ok (.iload 4, 2) := by decide +kernel
theorem dX11_judged_28 : decode cX11_judged 28 = .ok (.aload_n 0, 1) := by decide +kernel
theorem dX11_judged_29 : decode cX11_judged 29 = .ok (.getfield 28, 3) := by decide +kernel
theorem dX11_judged_32 : decode cX11_judged 32 = .ok (.getfield 105, 3) := by decide +kernel
theorem dX11_judged_35 : decode cX11_judged 35 = .ok (.getfield 198, 3) := by decide +kernel
theorem dX11_judged_38 : decode cX11_judged 38 = .ok (.if_icmp .ge 58, 3) := by decide +kernel
theorem dX11_judged_41 : decode cX11_judged 41 = .ok (.aload_n 0, 1) := by decide +kernel
theorem dX11_judged_42 : decode cX11_judged 42 = .ok (.getfield 28, 3) := by decide +kernel
theorem dX11_judged_45 : decode cX11_judged 45 = .ok (.getfield 105, 3) := by decide +kernel
theorem dX11_judged_48 : decode cX11_judged 48 = .ok (.iload 4, 2) := by decide +kernel
theorem dX11_judged_50 : decode cX11_judged 50 = .ok (.aload_n 0, 1) := by decide +kernel
theorem dX11_judged_51 : decode cX11_judged 51 = .ok (.getfield 45, 3) := by decide +kernel
theorem dX11_judged_54 : decode cX11_judged 54 = .ok (.aload_n 0, 1) := by decide +kernel
theorem dX11_judged_55 : decode cX11_judged 55 = .ok (.getfield 60, 3) := by decide +kernel
theorem dX11_judged_58 : decode cX11_judged 58 = .ok (.invokevirtual 201, 3) := by decide +kernel
theorem dX11_judged_61 : decode cX11_judged 61 = .ok (.istore 5, 2) := by decide +kernel
theorem dX11_judged_63 : decode cX11_judged 63 = .ok (.iload 5, 2) := by decide +kernel
theorem dX11_judged_65 : decode cX11_judged 65 = .ok (.iconst (-1), 1) := by decide +kernel
theorem dX11_judged_66 : decode cX11_judged 66 = .ok (.if_icmp .ne 11, 3) := by decide +kernel
theorem dX11_judged_69 : decode cX11_judged 69 = .ok (.iload_n 2, 1) := by decide +kernel
theorem dX11_judged_70 : decode cX11_judged 70 = .ok (.iconst (-1), 1) := by decide +kernel
theorem dX11_judged_71 : decode cX11_judged 71 = .ok (.if_icmp .ne 6, 3) := by decide +kernel
theorem dX11_judged_74 : decode cX11_judged 74 = .ok (.iload 4, 2) := by decide +kernel
theorem dX11_judged_76 : decode cX11_judged 76 = .ok (.istore_n 2, 1) := by decide +kernel
theorem dX11_judged_77 : decode cX11_judged 77 = .ok (.iload 5, 2) := by decide +kernel
theorem dX11_judged_79 : decode cX11_judged 79 = .ok (.ifCond .le 11, 3) := by decide +kernel
theorem dX11_judged_82 : decode cX11_judged 82 = .ok (.iload_n 3, 1) := by decide +kernel
theorem dX11_judged_83 : decode cX11_judged 83 = .ok (.iconst (-1), 1) := by decide +kernel
theorem dX11_judged_84 : decode cX11_judged 84 = .ok (.if_icmp .ne 6, 3) := by decide +kernel
theorem dX11_judged_87 : decode cX11_judged 87 = .ok (.iload 4, 2) := by decide +kernel
theorem dX11_judged_89 : decode cX11_judged 89 = .ok (.istore_n 3, 1) := by decide +kernel
theorem dX11_judged_90 : decode cX11_judged 90 = .ok (.iinc 4 1, 3) := by decide +kernel
theorem dX11_judged_93 : decode cX11_judged 93 = .ok (.goto (-67), 3) := by decide +kernel
theorem dX11_judged_96 : decode cX11_judged 96 = .ok (.iload_n 1, 1) := by decide +kernel
theorem dX11_judged_97 : decode cX11_judged 97 = .ok (.ifCond .ne 7, 3) := by decide +kernel
theorem dX11_judged_100 : decode cX11_judged 100 = .ok (.iload_n 2, 1) := by decide +kernel
theorem dX11_judged_101 : decode cX11_judged 101 = .ok (.goto 30, 3) := by decide +kernel
theorem dX11_judged_104 : decode cX11_judged 104 = .ok (.iload_n 1, 1) := by decide +kernel
theorem dX11_judged_105 : decode cX11_judged 105 = .ok (.iconst 1, 1) := by decide +kernel
theorem dX11_judged_106 : decode cX11_judged 106 = .ok (.if_icmp .ne 7, 3) := by decide +kernel
theorem dX11_judged_109 : decode cX11_judged 109 = .ok (.iload_n 3, 1) := by decide +kernel
theorem dX11_judged_110 : decode cX11_judged 110 = .ok (.goto 21, 3) := by decide +kernel
theorem dX11_judged_113 : decode cX11_judged 113 = .ok (.aload_n 0, 1) := by decide +kernel
theorem dX11_judged_114 : decode cX11_judged 114 = .ok (.getfield 45, 3) := by decide +kernel
theorem dX11_judged_117 : decode cX11_judged 117 = .ok (.aload_n 0, 1) := by decide +kernel
theorem dX11_judged_118 : decode cX11_judged 118 = .ok (.getfield 60, 3) := by decide +kernel
theorem dX11_judged_121 : decode cX11_judged 121 = .ok (.aload_n 0, 1) := by decide +kernel
theorem dX11_judged_122 : decode cX11_judged 122 = .ok (.getfield 45, 3) := by decide +kernel
theorem dX11_judged_125 : decode cX11_judged 125 = .ok (.invokevirtual 205, 3) := by decide +kernel
theorem dX11_judged_128 : decode cX11_judged 128 = .ok (.invokevirtual 208, 3) := by decide +kernel
theorem dX11_judged_131 : decode cX11_judged 131 = .ok (.ireturn, 1) := by decide +kernel
theorem dX11_verdict_0 : decode cX11_verdict 0 = .ok (.iload_n 1, 1) := by decide +kernel
theorem dX11_verdict_1 : decode cX11_verdict 1 = .ok (.invokestatic 211, 3) := by decide +kernel
theorem dX11_verdict_4 : decode cX11_verdict 4 = .ok (.ifCond .eq 11, 3) := by decide +kernel
theorem dX11_verdict_7 : decode cX11_verdict 7 = .ok (.aload_n 0, 1) := by decide +kernel
theorem dX11_verdict_8 : decode cX11_verdict 8 = .ok (.iload_n 1, 1) := by decide +kernel
theorem dX11_verdict_9 : decode cX11_verdict 9 = .ok (.invokevirtual 214, 3) := by decide +kernel
theorem dX11_verdict_12 : decode cX11_verdict 12 = .ok (.goto 4, 3) := by decide +kernel
theorem dX11_verdict_15 : decode cX11_verdict 15 = .ok (.iconst (-1), 1) := by decide +kernel
theorem dX11_verdict_16 : decode cX11_verdict 16 = .ok (.ireturn, 1) := by decide +kernel
theorem dX11_votes_0 : decode cX11_votes 0 = .ok (.iload_n 1, 1) := by decide +kernel
theorem dX11_votes_1 : decode cX11_votes 1 = .ok (.invokestatic 211, 3) := by decide +kernel
theorem dX11_votes_4 : decode cX11_votes 4 = .ok (.ifCond .eq 18, 3) := by decide +kernel
theorem dX11_votes_7 : decode cX11_votes 7 = .ok (.aload_n 0, 1) := by decide +kernel
theorem dX11_votes_8 : decode cX11_votes 8 = .ok (.getfield 45, 3) := by decide +kernel
theorem dX11_votes_11 : decode cX11_votes 11 = .ok (.aload_n 0, 1) := by decide +kernel
theorem dX11_votes_12 : decode cX11_votes 12 = .ok (.iload_n 1, 1) := by decide +kernel
theorem dX11_votes_13 : decode cX11_votes 13 = .ok (.invokevirtual 214, 3) := by decide +kernel
theorem dX11_votes_16 : decode cX11_votes 16 = .ok (.invokevirtual 208, 3) := by decide +kernel
theorem dX11_votes_19 : decode cX11_votes 19 = .ok (.goto 4, 3) := by decide +kernel
theorem dX11_votes_22 : decode cX11_votes 22 = .ok (.iconst (-1), 1) := by decide +kernel
theorem dX11_votes_23 : decode cX11_votes 23 = .ok (.ireturn, 1) := by decide +kernel
theorem dX11_isHardness_0 : decode cX11_isHardness 0 = .ok (.iload_n 0, 1) := by decide +kernel
theorem dX11_isHardness_1 : decode cX11_isHardness 1 = .ok (.ifCond .lt 13, 3) := by decide +kernel
theorem dX11_isHardness_4 : decode cX11_isHardness 4 = .ok (.iload_n 0, 1) := by decide +kernel
theorem dX11_isHardness_5 : decode cX11_isHardness 5 = .ok (.bipush 9, 2) := by decide +kernel
theorem dX11_isHardness_7 : decode cX11_isHardness 7 = .ok (.if_icmp .gt 7, 3) := by decide +kernel
theorem dX11_isHardness_10 : decode cX11_isHardness 10 = .ok (.iconst 1, 1) := by decide +kernel
theorem dX11_isHardness_11 : decode cX11_isHardness 11 = .ok (.goto 4, 3) := by decide +kernel
theorem dX11_isHardness_14 : decode cX11_isHardness 14 = .ok (.iconst 0, 1) := by decide +kernel
theorem dX11_isHardness_15 : decode cX11_isHardness 15 = .ok (.ireturn, 1) := by decide +kernel
theorem dX11_wigsFor_0 : decode cX11_wigsFor 0 = .ok (.iconst 0, 1) := by decide +kernel
theorem dX11_wigsFor_1 : decode cX11_wigsFor 1 = .ok (.istore_n 2, 1) := by decide +kernel
theorem dX11_wigsFor_2 : decode cX11_wigsFor 2 = .ok (.iconst 0, 1) := by decide +kernel
theorem dX11_wigsFor_3 : decode cX11_wigsFor 3 = .ok (.istore_n 3, 1) := by decide +kernel
theorem dX11_wigsFor_4 : decode cX11_wigsFor 4 = .ok (.iload_n 3, 1) := by decide +kernel
theorem dX11_wigsFor_5 : decode cX11_wigsFor 5 = .ok (.aload_n 0, 1) := by decide +kernel
theorem dX11_wigsFor_6 : decode cX11_wigsFor 6 = .ok (.getfield 45, 3) := by decide +kernel
theorem dX11_wigsFor_9 : decode cX11_wigsFor 9 = .ok (.getfield 217, 3) := by decide +kernel
theorem dX11_wigsFor_12 : decode cX11_wigsFor 12 = .ok (.if_icmp .ge 55, 3) := by decide +kernel
theorem dX11_wigsFor_15 : decode cX11_wigsFor 15 = .ok (.aload_n 0, 1) := by decide +kernel
theorem dX11_wigsFor_16 : decode cX11_wigsFor 16 = .ok (.getfield 28, 3) := by decide +kernel
theorem dX11_wigsFor_19 : decode cX11_wigsFor 19 = .ok (.getfield 126, 3) := by decide +kernel
theorem dX11_wigsFor_22 : decode cX11_wigsFor 22 = .ok (.iload_n 3, 1) := by decide +kernel
theorem dX11_wigsFor_23 : decode cX11_wigsFor 23 = .ok (.invokevirtual 129, 3) := by decide +kernel
theorem dX11_wigsFor_26 : decode cX11_wigsFor 26 = .ok (.istore 4, 2) := by decide +kernel
theorem dX11_wigsFor_28 : decode cX11_wigsFor 28 = .ok (.iload 4, 2) := by decide +kernel
theorem dX11_wigsFor_30 : decode cX11_wigsFor 30 = .ok (.iconst (-1), 1) := by decide +kernel
theorem dX11_wigsFor_31 : decode cX11_wigsFor 31 = .ok (.if_icmp .eq 30, 3) := by decide +kernel
theorem dX11_wigsFor_34 : decode cX11_wigsFor 34 = .ok (.aload_n 0, 1) := by decide +kernel
theorem dX11_wigsFor_35 : decode cX11_wigsFor 35 = .ok (.getfield 45, 3) := by decide +kernel
theorem dX11_wigsFor_38 : decode cX11_wigsFor 38 = .ok (.aload_n 0, 1) := by decide +kernel
theorem dX11_wigsFor_39 : decode cX11_wigsFor 39 = .ok (.getfield 45, 3) := by decide +kernel
theorem dX11_wigsFor_42 : decode cX11_wigsFor 42 = .ok (.iload_n 3, 1) := by decide +kernel
theorem dX11_wigsFor_43 : decode cX11_wigsFor 43 = .ok (.invokevirtual 123, 3) := by decide +kernel
theorem dX11_wigsFor_46 : decode cX11_wigsFor 46 = .ok (.iload 4, 2) := by decide +kernel
theorem dX11_wigsFor_48 : decode cX11_wigsFor 48 = .ok (.iload_n 1, 1) := by decide +kernel
theorem dX11_wigsFor_49 : decode cX11_wigsFor 49 = .ok (.invokevirtual 220, 3) := by decide +kernel
theorem dX11_wigsFor_52 : decode cX11_wigsFor 52 = .ok (.ifCond .eq 9, 3) := by decide +kernel
theorem dX11_wigsFor_55 : decode cX11_wigsFor 55 = .ok (.iload_n 2, 1) := by decide +kernel
theorem dX11_wigsFor_56 : decode cX11_wigsFor 56 = .ok (.iconst 1, 1) := by decide +kernel
theorem dX11_wigsFor_57 : decode cX11_wigsFor 57 = .ok (.iload_n 3, 1) := by decide +kernel
theorem dX11_wigsFor_58 : decode cX11_wigsFor 58 = .ok (.ishl, 1) := by decide +kernel
theorem dX11_wigsFor_59 : decode cX11_wigsFor 59 = .ok (.ior, 1) := by decide +kernel
theorem dX11_wigsFor_60 : decode cX11_wigsFor 60 = .ok (.istore_n 2, 1) := by decide +kernel
theorem dX11_wigsFor_61 : decode cX11_wigsFor 61 = .ok (.iinc 3 1, 3) := by decide +kernel
theorem dX11_wigsFor_64 : decode cX11_wigsFor 64 = .ok (.goto (-60), 3) := by decide +kernel
theorem dX11_wigsFor_67 : decode cX11_wigsFor 67 = .ok (.iload_n 2, 1) := by decide +kernel
theorem dX11_wigsFor_68 : decode cX11_wigsFor 68 = .ok (.ireturn, 1) := by decide +kernel
theorem dX11_fill_0 : decode cX11_fill 0 = .ok (.iload_n 1, 1) := by decide +kernel
theorem dX11_fill_1 : decode cX11_fill 1 = .ok (.iconst 1, 1) := by decide +kernel
theorem dX11_fill_2 : decode cX11_fill 2 = .ok (.if_icmp .lt 25, 3) := by decide +kernel
theorem dX11_fill_5 : decode cX11_fill 5 = .ok (.iload_n 1, 1) := by decide +kernel
theorem dX11_fill_6 : decode cX11_fill 6 = .ok (.bipush 8, 2) := by decide +kernel
theorem dX11_fill_8 : decode cX11_fill 8 = .ok (.if_icmp .gt 19, 3) := by decide +kernel
theorem dX11_fill_11 : decode cX11_fill 11 = .ok (.iload_n 2, 1) := by decide +kernel
theorem dX11_fill_12 : decode cX11_fill 12 = .ok (.iconst (-1), 1) := by decide +kernel
theorem dX11_fill_13 : decode cX11_fill 13 = .ok (.if_icmp .eq 17, 3) := by decide +kernel
theorem dX11_fill_16 : decode cX11_fill 16 = .ok (.aload_n 0, 1) := by decide +kernel
theorem dX11_fill_17 : decode cX11_fill 17 = .ok (.getfield 45, 3) := by decide +kernel
theorem dX11_fill_20 : decode cX11_fill 20 = .ok (.iload_n 2, 1) := by decide +kernel
theorem dX11_fill_21 : decode cX11_fill 21 = .ok (.invokevirtual 112, 3) := by decide +kernel
theorem dX11_fill_24 : decode cX11_fill 24 = .ok (.ifCond .ne 6, 3) := by decide +kernel
theorem dX11_fill_27 : decode cX11_fill 27 = .ok (.bipush (-2), 2) := by decide +kernel
theorem dX11_fill_29 : decode cX11_fill 29 = .ok (.ireturn, 1) := by decide +kernel
theorem dX11_fill_30 : decode cX11_fill 30 = .ok (.aload_n 0, 1) := by decide +kernel
theorem dX11_fill_31 : decode cX11_fill 31 = .ok (.getfield 74, 3) := by decide +kernel
theorem dX11_fill_34 : decode cX11_fill 34 = .ok (.aload_n 0, 1) := by decide +kernel
theorem dX11_fill_35 : decode cX11_fill 35 = .ok (.getfield 45, 3) := by decide +kernel
theorem dX11_fill_38 : decode cX11_fill 38 = .ok (.getfield 217, 3) := by decide +kernel
theorem dX11_fill_41 : decode cX11_fill 41 = .ok (.iconst 0, 1) := by decide +kernel
theorem dX11_fill_42 : decode cX11_fill 42 = .ok (.invokevirtual 223, 3) := by decide +kernel
theorem dX11_fill_45 : decode cX11_fill 45 = .ok (.aload_n 0, 1) := by decide +kernel
theorem dX11_fill_46 : decode cX11_fill 46 = .ok (.getfield 28, 3) := by decide +kernel
theorem dX11_fill_49 : decode cX11_fill 49 = .ok (.getfield 126, 3) := by decide +kernel
theorem dX11_fill_52 : decode cX11_fill 52 = .ok (.aload_n 0, 1) := by decide +kernel
theorem dX11_fill_53 : decode cX11_fill 53 = .ok (.getfield 45, 3) := by decide +kernel
theorem dX11_fill_56 : decode cX11_fill 56 = .ok (.invokevirtual 227, 3) := by decide +kernel
theorem dX11_fill_59 : decode cX11_fill 59 = .ok (.istore_n 3, 1) := by decide +kernel
theorem dX11_fill_60 : decode cX11_fill 60 = .ok (.iconst 0, 1) := by decide +kernel
theorem dX11_fill_61 : decode cX11_fill 61 = .ok (.istore 4, 2) := by decide +kernel
theorem dX11_fill_63 : decode cX11_fill 63 = .ok (.iload 4, 2) := by decide +kernel
theorem dX11_fill_65 : decode cX11_fill 65 = .ok (.aload_n 0, 1) := by decide +kernel
theorem dX11_fill_66 : decode cX11_fill 66 = .ok (.getfield 45, 3) := by decide +kernel
theorem dX11_fill_69 : decode cX11_fill 69 = .ok (.getfield 217, 3) := by decide +kernel
theorem dX11_fill_72 : decode cX11_fill 72 = .ok (.if_icmp .ge 25, 3) := by decide +kernel
theorem dX11_fill_75 : decode cX11_fill 75 = .ok (.iload_n 3, 1) := by decide +kernel
theorem dX11_fill_76 : decode cX11_fill 76 = .ok (.iload 4, 2) := by decide +kernel
theorem dX11_fill_78 : decode cX11_fill 78 = .ok (.ishr, 1) := by decide +kernel
theorem dX11_fill_79 : decode cX11_fill 79 = .ok (.iconst 1, 1) := by decide +kernel
theorem dX11_fill_80 : decode cX11_fill 80 = .ok (.iand, 1) := by decide +kernel
theorem dX11_fill_81 : decode cX11_fill 81 = .ok (.ifCond .ne 10, 3) := by decide +kernel
theorem dX11_fill_84 : decode cX11_fill 84 = .ok (.aload_n 0, 1) := by decide +kernel
theorem dX11_fill_85 : decode cX11_fill 85 = .ok (.iload 4, 2) := by decide +kernel
theorem dX11_fill_87 : decode cX11_fill 87 = .ok (.iload_n 1, 1) := by decide +kernel
theorem dX11_fill_88 : decode cX11_fill 88 = .ok (.invokevirtual 230, 3) := by decide +kernel
theorem dX11_fill_91 : decode cX11_fill 91 = .ok (.iinc 4 1, 3) := by decide +kernel
theorem dX11_fill_94 : decode cX11_fill 94 = .ok (.goto (-31), 3) := by decide +kernel
theorem dX11_fill_97 : decode cX11_fill 97 = .ok (.aload_n 0, 1) := by decide +kernel
theorem dX11_fill_98 : decode cX11_fill 98 = .ok (.getfield 74, 3) := by decide +kernel
theorem dX11_fill_101 : decode cX11_fill 101 = .ok (.invokevirtual 233, 3) := by decide +kernel
theorem dX11_fill_104 : decode cX11_fill 104 = .ok (.istore 4, 2) := by decide +kernel
theorem dX11_fill_106 : decode cX11_fill 106 = .ok (.iload_n 2, 1) := by decide +kernel
theorem dX11_fill_107 : decode cX11_fill 107 = .ok (.iconst (-1), 1) := by decide +kernel
theorem dX11_fill_108 : decode cX11_fill 108 = .ok (.if_icmp .ne 8, 3) := by decide +kernel
theorem dX11_fill_111 : decode cX11_fill 111 = .ok (.iload 4, 2) := by decide +kernel
theorem dX11_fill_113 : decode cX11_fill 113 = .ok (.goto 11, 3) := by decide +kernel
theorem dX11_fill_116 : decode cX11_fill 116 = .ok (.aload_n 0, 1) := by decide +kernel
theorem dX11_fill_117 : decode cX11_fill 117 = .ok (.getfield 74, 3) := by decide +kernel
theorem dX11_fill_120 : decode cX11_fill 120 = .ok (.iload_n 2, 1) := by decide +kernel
theorem dX11_fill_121 : decode cX11_fill 121 = .ok (.invokevirtual 237, 3) := by decide +kernel
theorem dX11_fill_124 : decode cX11_fill 124 = .ok (.ireturn, 1) := by decide +kernel
theorem dX11_openHeads_0 : decode cX11_openHeads 0 = .ok (.iconst 0, 1) := by decide +kernel
theorem dX11_openHeads_1 : decode cX11_openHeads 1 = .ok (.istore_n 3, 1) := by decide +kernel
theorem dX11_openHeads_2 : decode cX11_openHeads 2 = .ok (.iload_n 3, 1) := by decide +kernel
theorem dX11_openHeads_3 : decode cX11_openHeads 3 = .ok (.aload_n 0, 1) := by decide +kernel
theorem dX11_openHeads_4 : decode cX11_openHeads 4 = .ok (.getfield 45, 3) := by decide +kernel
theorem dX11_openHeads_7 : decode cX11_openHeads 7 = .ok (.getfield 240, 3) := by decide +kernel
theorem dX11_openHeads_10 : decode cX11_openHeads 10 = .ok (.if_icmp .ge 45, 3) := by decide +kernel
theorem dX11_openHeads_13 : decode cX11_openHeads 13 = .ok (.aload_n 0, 1) := by decide +kernel
theorem dX11_openHeads_14 : decode cX11_openHeads 14 = .ok (.iload_n 1, 1) := by decide +kernel
theorem dX11_openHeads_15 : decode cX11_openHeads 15 = .ok (.iload_n 3, 1) := by decide +kernel
theorem dX11_openHeads_16 : decode cX11_openHeads 16 = .ok (.iload_n 2, 1) := by decide +kernel
theorem dX11_openHeads_17 : decode cX11_openHeads 17 = .ok (.invokevirtual 243, 3) := by decide +kernel
theorem dX11_openHeads_20 : decode cX11_openHeads 20 = .ok (.ifCond .eq 29, 3) := by decide +kernel
theorem dX11_openHeads_23 : decode cX11_openHeads 23 = .ok (.aload_n 0, 1) := by decide +kernel
theorem dX11_openHeads_24 : decode cX11_openHeads 24 = .ok (.getfield 74, 3) := by decide +kernel
theorem dX11_openHeads_27 : decode cX11_openHeads 27 = .ok (.iload_n 1, 1) := by decide +kernel
theorem dX11_openHeads_28 : decode cX11_openHeads 28 = .ok (.iload_n 3, 1) := by decide +kernel
theorem dX11_openHeads_29 : decode cX11_openHeads 29 = .ok (.invokevirtual 246, 3) := by decide +kernel
theorem dX11_openHeads_32 : decode cX11_openHeads 32 = .ok (.aload_n 0, 1) := by decide +kernel
theorem dX11_openHeads_33 : decode cX11_openHeads 33 = .ok (.getfield 74, 3) := by decide +kernel
theorem dX11_openHeads_36 : decode cX11_openHeads 36 = .ok (.iload_n 1, 1) := by decide +kernel
theorem dX11_openHeads_37 : decode cX11_openHeads 37 = .ok (.iload_n 3, 1) := by decide +kernel
theorem dX11_openHeads_38 : decode cX11_openHeads 38 = .ok (.aload_n 0, 1) := by decide +kernel
theorem dX11_openHeads_39 : decode cX11_openHeads 39 = .ok (.getfield 45, 3) := by decide +kernel
theorem dX11_openHeads_42 : decode cX11_openHeads 42 = .ok (.iload_n 1, 1) := by decide +kernel
theorem dX11_openHeads_43 : decode cX11_openHeads 43 = .ok (.invokevirtual 120, 3) := by decide +kernel
theorem dX11_openHeads_46 : decode cX11_openHeads 46 = .ok (.invokevirtual 249, 3) := by decide +kernel
theorem dX11_openHeads_49 : decode cX11_openHeads 49 = .ok (.iinc 3 1, 3) := by decide +kernel
theorem dX11_openHeads_52 : decode cX11_openHeads 52 = .ok (.goto (-50), 3) := by decide +kernel
theorem dX11_openHeads_55 : decode cX11_openHeads 55 = .ok (.return_, 1) := by decide +kernel
theorem dX11_isFitThrough_0 : decode cX11_isFitThrough 0 = .ok (.iconst 0, 1) := by decide +kernel
theorem dX11_isFitThrough_1 : decode cX11_isFitThrough 1 = .ok (.istore 4, 2) := by decide +kernel
theorem dX11_isFitThrough_3 : decode cX11_isFitThrough 3 = .ok (.iload 4, 2) := by decide +kernel
theorem dX11_isFitThrough_5 : decode cX11_isFitThrough 5 = .ok (.iload_n 3, 1) := by decide +kernel
theorem dX11_isFitThrough_6 : decode cX11_isFitThrough 6 = .ok (.if_icmp .ge 36, 3) := by decide +kernel
theorem dX11_isFitThrough_9 : decode cX11_isFitThrough 9 = .ok (.aload_n 0, 1) := by decide +kernel
theorem dX11_isFitThrough_10 : decode cX11_isFitThrough 10 = .ok (.getfield 45, 3) := by decide +kernel
theorem dX11_isFitThrough_13 : decode cX11_isFitThrough 13 = .ok (.iload_n 1, 1) := by decide +kernel
theorem dX11_isFitThrough_14 : decode cX11_isFitThrough 14 = .ok (.iload_n 2, 1) := by decide +kernel
theorem dX11_isFitThrough_15 : decode cX11_isFitThrough 15 = .ok (.aload_n 0, 1) := by decide +kernel
theorem dX11_isFitThrough_16 : decode cX11_isFitThrough 16 = .ok (.getfield 28, 3) := by decide +kernel
theorem dX11_isFitThrough_19 : decode cX11_isFitThrough 19 = .ok (.getfield 126, 3) := by decide +kernel
theorem dX11_isFitThrough_22 : decode cX11_isFitThrough 22 = .ok (.getfield 142, 3) := by decide +kernel
theorem dX11_isFitThrough_25 : decode cX11_isFitThrough 25 = .ok (.iload 4, 2) := by decide +kernel
theorem dX11_isFitThrough_27 : decode cX11_isFitThrough 27 = .ok (.iadd, 1) := by decide +kernel
theorem dX11_isFitThrough_28 : decode cX11_isFitThrough 28 = .ok (.invokevirtual 151, 3) := by decide +kernel
theorem dX11_isFitThrough_31 : decode cX11_isFitThrough 31 = .ok (.ifCond .ne 5, 3) := by decide +kernel
theorem dX11_isFitThrough_34 : decode cX11_isFitThrough 34 = .ok (.iconst 0, 1) := by decide +kernel
theorem dX11_isFitThrough_35 : decode cX11_isFitThrough 35 = .ok (.ireturn, 1) := by decide +kernel
theorem dX11_isFitThrough_36 : decode cX11_isFitThrough 36 = .ok (.iinc 4 1, 3) := by decide +kernel
theorem dX11_isFitThrough_39 : decode cX11_isFitThrough 39 = .ok (.goto (-36), 3) := by decide +kernel
theorem dX11_isFitThrough_42 : decode cX11_isFitThrough 42 = .ok (.iconst 1, 1) := by decide +kernel
theorem dX11_isFitThrough_43 : decode cX11_isFitThrough 43 = .ok (.ireturn, 1) := by decide +kernel
theorem dX11_say_0 : decode cX11_say 0 = .ok (.aload_n 0, 1) := by decide +kernel
theorem dX11_say_1 : decode cX11_say 1 = .ok (.getfield 45, 3) := by decide +kernel
theorem dX11_say_4 : decode cX11_say 4 = .ok (.iload_n 1, 1) := by decide +kernel
theorem dX11_say_5 : decode cX11_say 5 = .ok (.invokevirtual 135, 3) := by decide +kernel
theorem dX11_say_8 : decode cX11_say 8 = .ok (.ifCond .eq 30, 3) := by decide +kernel
theorem dX11_say_11 : decode cX11_say 11 = .ok (.iload_n 2, 1) := by decide +kernel
theorem dX11_say_12 : decode cX11_say 12 = .ok (.invokestatic 211, 3) := by decide +kernel
theorem dX11_say_15 : decode cX11_say 15 = .ok (.ifCond .eq 23, 3) := by decide +kernel
theorem dX11_say_18 : decode cX11_say 18 = .ok (.aload_n 0, 1) := by decide +kernel
theorem dX11_say_19 : decode cX11_say 19 = .ok (.getfield 28, 3) := by decide +kernel
theorem dX11_say_22 : decode cX11_say 22 = .ok (.getfield 253, 3) := by decide +kernel
theorem dX11_say_25 : decode cX11_say 25 = .ok (.iload_n 1, 1) := by decide +kernel
theorem dX11_say_26 : decode cX11_say 26 = .ok (.iload_n 2, 1) := by decide +kernel
theorem dX11_say_27 : decode cX11_say 27 = .ok (.iload_n 3, 1) := by decide +kernel
theorem dX11_say_28 : decode cX11_say 28 = .ok (.invokevirtual 257, 3) := by decide +kernel
theorem dX11_say_31 : decode cX11_say 31 = .ok (.ifCond .eq 7, 3) := by decide +kernel
theorem dX11_say_34 : decode cX11_say 34 = .ok (.iconst 1, 1) := by decide +kernel
theorem dX11_say_35 : decode cX11_say 35 = .ok (.goto 4, 3) := by decide +kernel
theorem dX11_say_38 : decode cX11_say 38 = .ok (.iconst 0, 1) := by decide +kernel
theorem dX11_say_39 : decode cX11_say 39 = .ok (.ireturn, 1) := by decide +kernel
theorem dX11_leans_0 : decode cX11_leans 0 = .ok (.aload_n 0, 1) := by decide +kernel
theorem dX11_leans_1 : decode cX11_leans 1 = .ok (.getfield 28, 3) := by decide +kernel
theorem dX11_leans_4 : decode cX11_leans 4 = .ok (.getfield 253, 3) := by decide +kernel
theorem dX11_leans_7 : decode cX11_leans 7 = .ok (.aload_n 0, 1) := by decide +kernel
theorem dX11_leans_8 : decode cX11_leans 8 = .ok (.getfield 45, 3) := by decide +kernel
theorem dX11_leans_11 : decode cX11_leans 11 = .ok (.invokevirtual 262, 3) := by decide +kernel
theorem dX11_leans_14 : decode cX11_leans 14 = .ok (.istore_n 2, 1) := by decide +kernel
theorem dX11_leans_15 : decode cX11_leans 15 = .ok (.iload_n 1, 1) := by decide +kernel
theorem dX11_leans_16 : decode cX11_leans 16 = .ok (.ifCond .ne 8, 3) := by decide +kernel
theorem dX11_leans_19 : decode cX11_leans 19 = .ok (.iload_n 2, 1) := by decide +kernel
theorem dX11_leans_20 : decode cX11_leans 20 = .ok (.invokestatic 265, 3) := by decide +kernel
theorem dX11_leans_23 : decode cX11_leans 23 = .ok (.ireturn, 1) := by decide +kernel
theorem dX11_leans_24 : decode cX11_leans 24 = .ok (.iload_n 1, 1) := by decide +kernel
theorem dX11_leans_25 : decode cX11_leans 25 = .ok (.iconst 1, 1) := by decide +kernel
theorem dX11_leans_26 : decode cX11_leans 26 = .ok (.if_icmp .eq 10, 3) := by decide +kernel
theorem dX11_leans_29 : decode cX11_leans 29 = .ok (.iload_n 1, 1) := by decide +kernel
theorem dX11_leans_30 : decode cX11_leans 30 = .ok (.iconst 2, 1) := by decide +kernel
theorem dX11_leans_31 : decode cX11_leans 31 = .ok (.if_icmp .eq 5, 3) := by decide +kernel
theorem dX11_leans_34 : decode cX11_leans 34 = .ok (.iconst (-1), 1) := by decide +kernel
theorem dX11_leans_35 : decode cX11_leans 35 = .ok (.ireturn, 1) := by decide +kernel
theorem dX11_leans_36 : decode cX11_leans 36 = .ok (.iconst (-1), 1) := by decide +kernel
theorem dX11_leans_37 : decode cX11_leans 37 = .ok (.istore_n 3, 1) := by decide +kernel
theorem dX11_leans_38 : decode cX11_leans 38 = .ok (.iconst 0, 1) := by decide +kernel
theorem dX11_leans_39 : decode cX11_leans 39 = .ok (.istore 4, 2) := by decide +kernel
theorem dX11_leans_41 : decode cX11_leans 41 = .ok (.iload 4, 2) := by decide +kernel
theorem dX11_leans_43 : decode cX11_leans 43 = .ok (.bipush 9, 2) := by decide +kernel
theorem dX11_leans_45 : decode cX11_leans 45 = .ok (.if_icmp .gt 32, 3) := by decide +kernel
theorem dX11_leans_48 : decode cX11_leans 48 = .ok (.iload_n 2, 1) := by decide +kernel
theorem dX11_leans_49 : decode cX11_leans 49 = .ok (.iload 4, 2) := by decide +kernel
theorem dX11_leans_51 : decode cX11_leans 51 = .ok (.ishr, 1) := by decide +kernel
theorem dX11_leans_52 : decode cX11_leans 52 = .ok (.iconst 1, 1) := by decide +kernel
theorem dX11_leans_53 : decode cX11_leans 53 = .ok (.iand, 1) := by decide +kernel
theorem dX11_leans_54 : decode cX11_leans 54 = .ok (.iconst 1, 1) := by decide +kernel
theorem dX11_leans_55 : decode cX11_leans 55 = .ok (.if_icmp .ne 16, 3) := by decide +kernel
theorem dX11_leans_58 : decode cX11_leans 58 = .ok (.iload_n 3, 1) := by decide +kernel
theorem dX11_leans_59 : decode cX11_leans 59 = .ok (.iconst (-1), 1) := by decide +kernel
theorem dX11_leans_60 : decode cX11_leans 60 = .ok (.if_icmp .eq 8, 3) := by decide +kernel
theorem dX11_leans_63 : decode cX11_leans 63 = .ok (.iload_n 1, 1) := by decide +kernel
theorem dX11_leans_64 : decode cX11_leans 64 = .ok (.iconst 2, 1) := by decide +kernel
theorem dX11_leans_65 : decode cX11_leans 65 = .ok (.if_icmp .ne 6, 3) := by decide +kernel
theorem dX11_leans_68 : decode cX11_leans 68 = .ok (.iload 4, 2) := by decide +kernel
theorem dX11_leans_70 : decode cX11_leans 70 = .ok (.istore_n 3, 1) := by decide +kernel
theorem dX11_leans_71 : decode cX11_leans 71 = .ok (.iinc 4 1, 3) := by decide +kernel
theorem dX11_leans_74 : decode cX11_leans 74 = .ok (.goto (-33), 3) := by decide +kernel
theorem dX11_leans_77 : decode cX11_leans 77 = .ok (.iload_n 3, 1) := by decide +kernel
theorem dX11_leans_78 : decode cX11_leans 78 = .ok (.ireturn, 1) := by decide +kernel
theorem dX11_next_0 : decode cX11_next 0 = .ok (.aload_n 0, 1) := by decide +kernel
theorem dX11_next_1 : decode cX11_next 1 = .ok (.getfield 45, 3) := by decide +kernel
theorem dX11_next_4 : decode cX11_next 4 = .ok (.iload_n 1, 1) := by decide +kernel
theorem dX11_next_5 : decode cX11_next 5 = .ok (.invokevirtual 135, 3) := by decide +kernel
theorem dX11_next_8 : decode cX11_next 8 = .ok (.ifCond .ne 5, 3) := by decide +kernel
theorem dX11_next_11 : decode cX11_next 11 = .ok (.iconst (-1), 1) := by decide +kernel
theorem dX11_next_12 : decode cX11_next 12 = .ok (.ireturn, 1) := by decide +kernel
theorem dX11_next_13 : decode cX11_next 13 = .ok (.aload_n 0, 1) := by decide +kernel
theorem dX11_next_14 : decode cX11_next 14 = .ok (.getfield 28, 3) := by decide +kernel
theorem dX11_next_17 : decode cX11_next 17 = .ok (.getfield 253, 3) := by decide +kernel
theorem dX11_next_20 : decode cX11_next 20 = .ok (.aload_n 0, 1) := by decide +kernel
theorem dX11_next_21 : decode cX11_next 21 = .ok (.getfield 45, 3) := by decide +kernel
theorem dX11_next_24 : decode cX11_next 24 = .ok (.invokevirtual 262, 3) := by decide +kernel
theorem dX11_next_27 : decode cX11_next 27 = .ok (.istore_n 2, 1) := by decide +kernel
theorem dX11_next_28 : decode cX11_next 28 = .ok (.iload_n 2, 1) := by decide +kernel
theorem dX11_next_29 : decode cX11_next 29 = .ok (.invokestatic 265, 3) := by decide +kernel
theorem dX11_next_32 : decode cX11_next 32 = .ok (.istore_n 3, 1) := by decide +kernel
theorem dX11_next_33 : decode cX11_next 33 = .ok (.iload_n 3, 1) := by decide +kernel
theorem dX11_next_34 : decode cX11_next 34 = .ok (.istore 4, 2) := by decide +kernel
theorem dX11_next_36 : decode cX11_next 36 = .ok (.iconst (-1), 1) := by decide +kernel
theorem dX11_next_37 : decode cX11_next 37 = .ok (.istore 5, 2) := by decide +kernel
theorem dX11_next_39 : decode cX11_next 39 = .ok (.iconst 0, 1) := by decide +kernel
theorem dX11_next_40 : decode cX11_next 40 = .ok (.istore 6, 2) := by decide +kernel
theorem dX11_next_42 : decode cX11_next 42 = .ok (.iload 6, 2) := by decide +kernel
theorem dX11_next_44 : decode cX11_next 44 = .ok (.bipush 9, 2) := by decide +kernel
theorem dX11_next_46 : decode cX11_next 46 = .ok (.if_icmp .gt 82, 3) := by decide +kernel
theorem dX11_next_49 : decode cX11_next 49 = .ok (.iconst 0, 1) := by decide +kernel
theorem dX11_next_50 : decode cX11_next 50 = .ok (.istore 7, 2) := by decide +kernel
theorem dX11_next_52 : decode cX11_next 52 = .ok (.iconst 0, 1) := by decide +kernel
theorem dX11_next_53 : decode cX11_next 53 = .ok (.istore 8, 2) := by decide +kernel
theorem dX11_next_55 : decode cX11_next 55 = .ok (.iload 8, 2) := by decide +kernel
theorem dX11_next_57 : decode cX11_next 57 = .ok (.bipush 9, 2) := by decide +kernel
theorem dX11_next_59 : decode cX11_next 59 = .ok (.if_icmp .gt 37, 3) := by decide +kernel
theorem dX11_next_62 : decode cX11_next 62 = .ok (.iload_n 2, 1) := by decide +kernel
theorem dX11_next_63 : decode cX11_next 63 = .ok (.iload 8, 2) := by decide +kernel
theorem dX11_next_65 : decode cX11_next 65 = .ok (.ishr, 1) := by decide +kernel
theorem dX11_next_66 : decode cX11_next 66 = .ok (.iconst 1, 1) := by decide +kernel
theorem dX11_next_67 : decode cX11_next 67 = .ok (.iand, 1) := by decide +kernel
theorem dX11_next_68 : decode cX11_next 68 = .ok (.iconst 1, 1) := by decide +kernel
theorem dX11_next_69 : decode cX11_next 69 = .ok (.if_icmp .ne 21, 3) := by decide +kernel
theorem dX11_next_72 : decode cX11_next 72 = .ok (.aload_n 0, 1) := by decide +kernel
theorem dX11_next_73 : decode cX11_next 73 = .ok (.getfield 45, 3) := by decide +kernel
theorem dX11_next_76 : decode cX11_next 76 = .ok (.iload 8, 2) := by decide +kernel
theorem dX11_next_78 : decode cX11_next 78 = .ok (.iload_n 1, 1) := by decide +kernel
theorem dX11_next_79 : decode cX11_next 79 = .ok (.iload 6, 2) := by decide +kernel
theorem dX11_next_81 : decode cX11_next 81 = .ok (.invokevirtual 220, 3) := by decide +kernel
theorem dX11_next_84 : decode cX11_next 84 = .ok (.ifCond .eq 6, 3) := by decide +kernel
theorem dX11_next_87 : decode cX11_next 87 = .ok (.iinc 7 1, 3) := by decide +kernel
theorem dX11_next_90 : decode cX11_next 90 = .ok (.iinc 8 1, 3) := by decide +kernel
theorem dX11_next_93 : decode cX11_next 93 = .ok (.goto (-38), 3) := by decide +kernel
theorem dX11_next_96 : decode cX11_next 96 = .ok (.iload 7, 2) := by decide +kernel
theorem dX11_next_98 : decode cX11_next 98 = .ok (.iload_n 3, 1) := by decide +kernel
theorem dX11_next_99 : decode cX11_next 99 = .ok (.iload 7, 2) := by decide +kernel
theorem dX11_next_101 : decode cX11_next 101 = .ok (.isub, 1) := by decide +kernel
theorem dX11_next_102 : decode cX11_next 102 = .ok (.invokestatic 270, 3) := by decide +kernel
theorem dX11_next_105 : decode cX11_next 105 = .ok (.istore 8, 2) := by decide +kernel
theorem dX11_next_107 : decode cX11_next 107 = .ok (.iload 8, 2) := by decide +kernel
theorem dX11_next_109 : decode cX11_next 109 = .ok (.iload 4, 2) := by decide +kernel
theorem dX11_next_111 : decode cX11_next 111 = .ok (.if_icmp .ge 11, 3) := by decide +kernel
theorem dX11_next_114 : decode cX11_next 114 = .ok (.iload 8, 2) := by decide +kernel
theorem dX11_next_116 : decode cX11_next 116 = .ok (.istore 4, 2) := by decide +kernel
theorem dX11_next_118 : decode cX11_next 118 = .ok (.iload 6, 2) := by decide +kernel
theorem dX11_next_120 : decode cX11_next 120 = .ok (.istore 5, 2) := by decide +kernel
theorem dX11_next_122 : decode cX11_next 122 = .ok (.iinc 6 1, 3) := by decide +kernel
theorem dX11_next_125 : decode cX11_next 125 = .ok (.goto (-83), 3) := by decide +kernel
theorem dX11_next_128 : decode cX11_next 128 = .ok (.iload 5, 2) := by decide +kernel
theorem dX11_next_130 : decode cX11_next 130 = .ok (.ireturn, 1) := by decide +kernel
theorem dX11_baths_0 : decode cX11_baths 0 = .ok (.aload_n 0, 1) := by decide +kernel
theorem dX11_baths_1 : decode cX11_baths 1 = .ok (.getfield 45, 3) := by decide +kernel
theorem dX11_baths_4 : decode cX11_baths 4 = .ok (.iload_n 1, 1) := by decide +kernel
theorem dX11_baths_5 : decode cX11_baths 5 = .ok (.invokevirtual 135, 3) := by decide +kernel
theorem dX11_baths_8 : decode cX11_baths 8 = .ok (.ifCond .eq 25, 3) := by decide +kernel
theorem dX11_baths_11 : decode cX11_baths 11 = .ok (.aload_n 0, 1) := by decide +kernel
theorem dX11_baths_12 : decode cX11_baths 12 = .ok (.getfield 45, 3) := by decide +kernel
theorem dX11_baths_15 : decode cX11_baths 15 = .ok (.iload_n 2, 1) := by decide +kernel
theorem dX11_baths_16 : decode cX11_baths 16 = .ok (.invokevirtual 112, 3) := by decide +kernel
theorem dX11_baths_19 : decode cX11_baths 19 = .ok (.ifCond .eq 14, 3) := by decide +kernel
theorem dX11_baths_22 : decode cX11_baths 22 = .ok (.iload_n 3, 1) := by decide +kernel
theorem dX11_baths_23 : decode cX11_baths 23 = .ok (.iconst 1, 1) := by decide +kernel
theorem dX11_baths_24 : decode cX11_baths 24 = .ok (.if_icmp .lt 9, 3) := by decide +kernel
theorem dX11_baths_27 : decode cX11_baths 27 = .ok (.iload_n 3, 1) := by decide +kernel
theorem dX11_baths_28 : decode cX11_baths 28 = .ok (.bipush 40, 2) := by decide +kernel
theorem dX11_baths_30 : decode cX11_baths 30 = .ok (.if_icmp .le 5, 3) := by decide +kernel
theorem dX11_baths_33 : decode cX11_baths 33 = .ok (.iconst (-1), 1) := by decide +kernel
theorem dX11_baths_34 : decode cX11_baths 34 = .ok (.ireturn, 1) := by decide +kernel
theorem dX11_baths_35 : decode cX11_baths 35 = .ok (.iconst 0, 1) := by decide +kernel
theorem dX11_baths_36 : decode cX11_baths 36 = .ok (.istore 4, 2) := by decide +kernel
theorem dX11_baths_38 : decode cX11_baths 38 = .ok (.iconst 0, 1) := by decide +kernel
theorem dX11_baths_39 : decode cX11_baths 39 = .ok (.istore 5, 2) := by decide +kernel
theorem dX11_baths_41 : decode cX11_baths 41 = .ok (.iload 5, 2) := by decide +kernel
theorem dX11_baths_43 : decode cX11_baths 43 = .ok (.iload_n 3, 1) := by decide +kernel
theorem dX11_baths_44 : decode cX11_baths 44 = .ok (.if_icmp .ge 68, 3) := by decide +kernel
theorem dX11_baths_47 : decode cX11_baths 47 = .ok (.aload_n 0, 1) := by decide +kernel
theorem dX11_baths_48 : decode cX11_baths 48 = .ok (.getfield 45, 3) := by decide +kernel
theorem dX11_baths_51 : decode cX11_baths 51 = .ok (.iload_n 2, 1) := by decide +kernel
theorem dX11_baths_52 : decode cX11_baths 52 = .ok (.invokevirtual 116, 3) := by decide +kernel
theorem dX11_baths_55 : decode cX11_baths 55 = .ok (.aload_n 0, 1) := by decide +kernel
theorem dX11_baths_56 : decode cX11_baths 56 = .ok (.getfield 45, 3) := by decide +kernel
theorem dX11_baths_59 : decode cX11_baths 59 = .ok (.iload_n 1, 1) := by decide +kernel
theorem dX11_baths_60 : decode cX11_baths 60 = .ok (.aload_n 0, 1) := by decide +kernel
theorem dX11_baths_61 : decode cX11_baths 61 = .ok (.getfield 28, 3) := by decide +kernel
theorem dX11_baths_64 : decode cX11_baths 64 = .ok (.getfield 126, 3) := by decide +kernel
theorem dX11_baths_67 : decode cX11_baths 67 = .ok (.getfield 142, 3) := by decide +kernel
theorem dX11_baths_70 : decode cX11_baths 70 = .ok (.iload 5, 2) := by decide +kernel
theorem dX11_baths_72 : decode cX11_baths 72 = .ok (.iadd, 1) := by decide +kernel
theorem dX11_baths_73 : decode cX11_baths 73 = .ok (.invokevirtual 145, 3) := by decide +kernel
theorem dX11_baths_76 : decode cX11_baths 76 = .ok (.isub, 1) := by decide +kernel
theorem dX11_baths_77 : decode cX11_baths 77 = .ok (.istore 6, 2) := by decide +kernel
theorem dX11_baths_79 : decode cX11_baths 79 = .ok (.iload 4, 2) := by decide +kernel
theorem dX11_baths_81 : decode cX11_baths 81 = .ok (.iconst 0, 1) := by decide +kernel
theorem dX11_baths_82 : decode cX11_baths 82 = .ok (.iload 6, 2) := by decide +kernel
theorem dX11_baths_84 : decode cX11_baths 84 = .ok (.ineg, 1) := by decide +kernel
theorem dX11_baths_85 : decode cX11_baths 85 = .ok (.invokestatic 270, 3) := by decide +kernel
theorem dX11_baths_88 : decode cX11_baths 88 = .ok (.iconst 0, 1) := by decide +kernel
theorem dX11_baths_89 : decode cX11_baths 89 = .ok (.iload 6, 2) := by decide +kernel
theorem dX11_baths_91 : decode cX11_baths 91 = .ok (.aload_n 0, 1) := by decide +kernel
theorem dX11_baths_92 : decode cX11_baths 92 = .ok (.getfield 45, 3) := by decide +kernel
theorem dX11_baths_95 : decode cX11_baths 95 = .ok (.getfield 273, 3) := by decide +kernel
theorem dX11_baths_98 : decode cX11_baths 98 = .ok (.isub, 1) := by decide +kernel
theorem dX11_baths_99 : decode cX11_baths 99 = .ok (.invokestatic 270, 3) := by decide +kernel
theorem dX11_baths_102 : decode cX11_baths 102 = .ok (.iadd, 1) := by decide +kernel
theorem dX11_baths_103 : decode cX11_baths 103 = .ok (.iadd, 1) := by decide +kernel
theorem dX11_baths_104 : decode cX11_baths 104 = .ok (.istore 4, 2) := by decide +kernel
theorem dX11_baths_106 : decode cX11_baths 106 = .ok (.iinc 5 1, 3) := by decide +kernel
theorem dX11_baths_109 : decode cX11_baths 109 = .ok (.goto (-68), 3) := by decide +kernel
theorem dX11_baths_112 : decode cX11_baths 112 = .ok (.iload 4, 2) := by decide +kernel
theorem dX11_baths_114 : decode cX11_baths 114 = .ok (.ireturn, 1) := by decide +kernel
theorem dX11_keeps_0 : decode cX11_keeps 0 = .ok (.aload_n 0, 1) := by decide +kernel
theorem dX11_keeps_1 : decode cX11_keeps 1 = .ok (.getfield 45, 3) := by decide +kernel
theorem dX11_keeps_4 : decode cX11_keeps 4 = .ok (.iload_n 1, 1) := by decide +kernel
theorem dX11_keeps_5 : decode cX11_keeps 5 = .ok (.invokevirtual 112, 3) := by decide +kernel
theorem dX11_keeps_8 : decode cX11_keeps 8 = .ok (.ifCond .eq 17, 3) := by decide +kernel
theorem dX11_keeps_11 : decode cX11_keeps 11 = .ok (.aload_n 0, 1) := by decide +kernel
theorem dX11_keeps_12 : decode cX11_keeps 12 = .ok (.getfield 28, 3) := by decide +kernel
theorem dX11_keeps_15 : decode cX11_keeps 15 = .ok (.getfield 126, 3) := by decide +kernel
theorem dX11_keeps_18 : decode cX11_keeps 18 = .ok (.iload_n 1, 1) := by decide +kernel
theorem dX11_keeps_19 : decode cX11_keeps 19 = .ok (.invokevirtual 129, 3) := by decide +kernel
theorem dX11_keeps_22 : decode cX11_keeps 22 = .ok (.goto 4, 3) := by decide +kernel
theorem dX11_keeps_25 : decode cX11_keeps 25 = .ok (.iconst (-1), 1) := by decide +kernel
theorem dX11_keeps_26 : decode cX11_keeps 26 = .ok (.istore_n 2, 1) := by decide +kernel
theorem dX11_keeps_27 : decode cX11_keeps 27 = .ok (.iload_n 2, 1) := by decide +kernel
theorem dX11_keeps_28 : decode cX11_keeps 28 = .ok (.iconst (-1), 1) := by decide +kernel
theorem dX11_keeps_29 : decode cX11_keeps 29 = .ok (.if_icmp .ne 5, 3) := by decide +kernel
theorem dX11_keeps_32 : decode cX11_keeps 32 = .ok (.iconst (-1), 1) := by decide +kernel
theorem dX11_keeps_33 : decode cX11_keeps 33 = .ok (.ireturn, 1) := by decide +kernel
theorem dX11_keeps_34 : decode cX11_keeps 34 = .ok (.iconst 1, 1) := by decide +kernel
theorem dX11_keeps_35 : decode cX11_keeps 35 = .ok (.istore_n 3, 1) := by decide +kernel
theorem dX11_keeps_36 : decode cX11_keeps 36 = .ok (.iload_n 3, 1) := by decide +kernel
theorem dX11_keeps_37 : decode cX11_keeps 37 = .ok (.bipush 40, 2) := by decide +kernel
theorem dX11_keeps_39 : decode cX11_keeps 39 = .ok (.if_icmp .gt 35, 3) := by decide +kernel
theorem dX11_keeps_42 : decode cX11_keeps 42 = .ok (.aload_n 0, 1) := by decide +kernel
theorem dX11_keeps_43 : decode cX11_keeps 43 = .ok (.getfield 45, 3) := by decide +kernel
theorem dX11_keeps_46 : decode cX11_keeps 46 = .ok (.iload_n 1, 1) := by decide +kernel
theorem dX11_keeps_47 : decode cX11_keeps 47 = .ok (.iload_n 2, 1) := by decide +kernel
theorem dX11_keeps_48 : decode cX11_keeps 48 = .ok (.aload_n 0, 1) := by decide +kernel
theorem dX11_keeps_49 : decode cX11_keeps 49 = .ok (.getfield 28, 3) := by decide +kernel
theorem dX11_keeps_52 : decode cX11_keeps 52 = .ok (.getfield 126, 3) := by decide +kernel
theorem dX11_keeps_55 : decode cX11_keeps 55 = .ok (.getfield 142, 3) := by decide +kernel
theorem dX11_keeps_58 : decode cX11_keeps 58 = .ok (.iload_n 3, 1) := by decide +kernel
theorem dX11_keeps_59 : decode cX11_keeps 59 = .ok (.iadd, 1) := by decide +kernel
theorem dX11_keeps_60 : decode cX11_keeps 60 = .ok (.invokevirtual 151, 3) := by decide +kernel
theorem dX11_keeps_63 : decode cX11_keeps 63 = .ok (.ifCond .ne 5, 3) := by decide +kernel
theorem dX11_keeps_66 : decode cX11_keeps 66 = .ok (.iload_n 3, 1) := by decide +kernel
theorem dX11_keeps_67 : decode cX11_keeps 67 = .ok (.ireturn, 1) := by decide +kernel
theorem dX11_keeps_68 : decode cX11_keeps 68 = .ok (.iinc 3 1, 3) := by decide +kernel
theorem dX11_keeps_71 : decode cX11_keeps 71 = .ok (.goto (-35), 3) := by decide +kernel
theorem dX11_keeps_74 : decode cX11_keeps 74 = .ok (.iconst (-1), 1) := by decide +kernel
theorem dX11_keeps_75 : decode cX11_keeps 75 = .ok (.ireturn, 1) := by decide +kernel
theorem dX11_moths_0 : decode cX11_moths 0 = .ok (.iload_n 1, 1) := by decide +kernel
theorem dX11_moths_1 : decode cX11_moths 1 = .ok (.iconst 1, 1) := by decide +kernel
theorem dX11_moths_2 : decode cX11_moths 2 = .ok (.if_icmp .lt 17, 3) := by decide +kernel
theorem dX11_moths_5 : decode cX11_moths 5 = .ok (.iload_n 1, 1) := by decide +kernel
theorem dX11_moths_6 : decode cX11_moths 6 = .ok (.iconst 4, 1) := by decide +kernel
theorem dX11_moths_7 : decode cX11_moths 7 = .ok (.if_icmp .gt 12, 3) := by decide +kernel
theorem dX11_moths_10 : decode cX11_moths 10 = .ok (.iload_n 2, 1) := by decide +kernel
theorem dX11_moths_11 : decode cX11_moths 11 = .ok (.ifCond .lt 8, 3) := by decide +kernel
theorem dX11_moths_14 : decode cX11_moths 14 = .ok (.iload_n 2, 1) := by decide +kernel
theorem dX11_moths_15 : decode cX11_moths 15 = .ok (.iload_n 1, 1) := by decide +kernel
theorem dX11_moths_16 : decode cX11_moths 16 = .ok (.if_icmp .le 6, 3) := by decide +kernel
theorem dX11_moths_19 : decode cX11_moths 19 = .ok (.bipush (-2), 2) := by decide +kernel
theorem dX11_moths_21 : decode cX11_moths 21 = .ok (.ireturn, 1) := by decide +kernel
theorem dX11_moths_22 : decode cX11_moths 22 = .ok (.aload_n 0, 1) := by decide +kernel
theorem dX11_moths_23 : decode cX11_moths 23 = .ok (.getfield 74, 3) := by decide +kernel
theorem dX11_moths_26 : decode cX11_moths 26 = .ok (.iload_n 1, 1) := by decide +kernel
theorem dX11_moths_27 : decode cX11_moths 27 = .ok (.iconst 1, 1) := by decide +kernel
theorem dX11_moths_28 : decode cX11_moths 28 = .ok (.invokevirtual 223, 3) := by decide +kernel
theorem dX11_moths_31 : decode cX11_moths 31 = .ok (.aload_n 0, 1) := by decide +kernel
theorem dX11_moths_32 : decode cX11_moths 32 = .ok (.getfield 60, 3) := by decide +kernel
theorem dX11_moths_35 : decode cX11_moths 35 = .ok (.aload_n 0, 1) := by decide +kernel
theorem dX11_moths_36 : decode cX11_moths 36 = .ok (.getfield 28, 3) := by decide +kernel
theorem dX11_moths_39 : decode cX11_moths 39 = .ok (.getfield 126, 3) := by decide +kernel
theorem dX11_moths_42 : decode cX11_moths 42 = .ok (.invokevirtual 191, 3) := by decide +kernel
theorem dX11_moths_45 : decode cX11_moths 45 = .ok (.iconst 0, 1) := by decide +kernel
theorem dX11_moths_46 : decode cX11_moths 46 = .ok (.istore_n 3, 1) := by decide +kernel
theorem dX11_moths_47 : decode cX11_moths 47 = .ok (.iload_n 3, 1) := by decide +kernel
theorem dX11_moths_48 : decode cX11_moths 48 = .ok (.iload_n 1, 1) := by decide +kernel
theorem dX11_moths_49 : decode cX11_moths 49 = .ok (.if_icmp .ge 26, 3) := by decide +kernel
theorem dX11_moths_52 : decode cX11_moths 52 = .ok (.aload_n 0, 1) := by decide +kernel
theorem dX11_moths_53 : decode cX11_moths 53 = .ok (.iload_n 3, 1) := by decide +kernel
theorem dX11_moths_54 : decode cX11_moths 54 = .ok (.invokevirtual 276, 3) := by decide +kernel
theorem dX11_moths_57 : decode cX11_moths 57 = .ok (.aload_n 0, 1) := by decide +kernel
theorem dX11_moths_58 : decode cX11_moths 58 = .ok (.getfield 60, 3) := by decide +kernel
theorem dX11_moths_61 : decode cX11_moths 61 = .ok (.aload_n 0, 1) := by decide +kernel
theorem dX11_moths_62 : decode cX11_moths 62 = .ok (.getfield 45, 3) := by decide +kernel
theorem dX11_moths_65 : decode cX11_moths 65 = .ok (.invokevirtual 180, 3) := by decide +kernel
theorem dX11_moths_68 : decode cX11_moths 68 = .ok (.pop, 1) := by decide +kernel
theorem dX11_moths_69 : decode cX11_moths 69 = .ok (.iinc 3 1, 3) := by decide +kernel
theorem dX11_moths_72 : decode cX11_moths 72 = .ok (.goto (-25), 3) := by decide +kernel
theorem dX11_moths_75 : decode cX11_moths 75 = .ok (.aload_n 0, 1) := by decide +kernel
theorem dX11_moths_76 : decode cX11_moths 76 = .ok (.getfield 60, 3) := by decide +kernel
theorem dX11_moths_79 : decode cX11_moths 79 = .ok (.aload_n 0, 1) := by decide +kernel
theorem dX11_moths_80 : decode cX11_moths 80 = .ok (.getfield 45, 3) := by decide +kernel
theorem dX11_moths_83 : decode cX11_moths 83 = .ok (.invokevirtual 227, 3) := by decide +kernel
theorem dX11_moths_86 : decode cX11_moths 86 = .ok (.istore_n 3, 1) := by decide +kernel
theorem dX11_moths_87 : decode cX11_moths 87 = .ok (.iconst 0, 1) := by decide +kernel
theorem dX11_moths_88 : decode cX11_moths 88 = .ok (.istore 4, 2) := by decide +kernel
theorem dX11_moths_90 : decode cX11_moths 90 = .ok (.iload 4, 2) := by decide +kernel
theorem dX11_moths_92 : decode cX11_moths 92 = .ok (.iload_n 1, 1) := by decide +kernel
theorem dX11_moths_93 : decode cX11_moths 93 = .ok (.if_icmp .ge 64, 3) := by decide +kernel
theorem dX11_moths_96 : decode cX11_moths 96 = .ok (.iconst 0, 1) := by decide +kernel
theorem dX11_moths_97 : decode cX11_moths 97 = .ok (.istore 5, 2) := by decide +kernel
theorem dX11_moths_99 : decode cX11_moths 99 = .ok (.iload 5, 2) := by decide +kernel
theorem dX11_moths_101 : decode cX11_moths 101 = .ok (.aload_n 0, 1) := by decide +kernel
theorem dX11_moths_102 : decode cX11_moths 102 = .ok (.getfield 45, 3) := by decide +kernel
theorem dX11_moths_105 : decode cX11_moths 105 = .ok (.getfield 217, 3) := by decide +kernel
theorem dX11_moths_108 : decode cX11_moths 108 = .ok (.if_icmp .ge 43, 3) := by decide +kernel
theorem dX11_moths_111 : decode cX11_moths 111 = .ok (.aload_n 0, 1) := by decide +kernel
theorem dX11_moths_112 : decode cX11_moths 112 = .ok (.getfield 74, 3) := by decide +kernel
theorem dX11_moths_115 : decode cX11_moths 115 = .ok (.iload 4, 2) := by decide +kernel
theorem dX11_moths_117 : decode cX11_moths 117 = .ok (.iload 5, 2) := by decide +kernel
theorem dX11_moths_119 : decode cX11_moths 119 = .ok (.iload_n 3, 1) := by decide +kernel
theorem dX11_moths_120 : decode cX11_moths 120 = .ok (.iload 5, 2) := by decide +kernel
theorem dX11_moths_122 : decode cX11_moths 122 = .ok (.ishr, 1) := by decide +kernel
theorem dX11_moths_123 : decode cX11_moths 123 = .ok (.iconst 1, 1) := by decide +kernel
theorem dX11_moths_124 : decode cX11_moths 124 = .ok (.iand, 1) := by decide +kernel
theorem dX11_moths_125 : decode cX11_moths 125 = .ok (.iconst 1, 1) := by decide +kernel
theorem dX11_moths_126 : decode cX11_moths 126 = .ok (.if_icmp .ne 15, 3) := by decide +kernel
theorem dX11_moths_129 : decode cX11_moths 129 = .ok (.aload_n 0, 1) := by decide +kernel
theorem dX11_moths_130 : decode cX11_moths 130 = .ok (.getfield 45, 3) := by decide +kernel
theorem dX11_moths_133 : decode cX11_moths 133 = .ok (.iload 5, 2) := by decide +kernel
theorem dX11_moths_135 : decode cX11_moths 135 = .ok (.invokevirtual 120, 3) := by decide +kernel
theorem dX11_moths_138 : decode cX11_moths 138 = .ok (.goto 4, 3) := by decide +kernel
theorem dX11_moths_141 : decode cX11_moths 141 = .ok (.iconst 0, 1) := by decide +kernel
theorem dX11_moths_142 : decode cX11_moths 142 = .ok (.invokevirtual 249, 3) := by decide +kernel
theorem dX11_moths_145 : decode cX11_moths 145 = .ok (.iinc 5 1, 3) := by decide +kernel
theorem dX11_moths_148 : decode cX11_moths 148 = .ok (.goto (-49), 3) := by decide +kernel
theorem dX11_moths_151 : decode cX11_moths 151 = .ok (.iinc 4 1, 3) := by decide +kernel
theorem dX11_moths_154 : decode cX11_moths 154 = .ok (.goto (-64), 3) := by decide +kernel
theorem dX11_moths_157 : decode cX11_moths 157 = .ok (.aload_n 0, 1) := by decide +kernel
theorem dX11_moths_158 : decode cX11_moths 158 = .ok (.getfield 74, 3) := by decide +kernel
theorem dX11_moths_161 : decode cX11_moths 161 = .ok (.invokevirtual 233, 3) := by decide +kernel
theorem dX11_moths_164 : decode cX11_moths 164 = .ok (.istore 4, 2) := by decide +kernel
theorem dX11_moths_166 : decode cX11_moths 166 = .ok (.iload_n 2, 1) := by decide +kernel
theorem dX11_moths_167 : decode cX11_moths 167 = .ok (.ifCond .ne 19, 3) := by decide +kernel
theorem dX11_moths_170 : decode cX11_moths 170 = .ok (.aload_n 0, 1) := by decide +kernel
theorem dX11_moths_171 : decode cX11_moths 171 = .ok (.getfield 45, 3) := by decide +kernel
theorem dX11_moths_174 : decode cX11_moths 174 = .ok (.iload_n 3, 1) := by decide +kernel
theorem dX11_moths_175 : decode cX11_moths 175 = .ok (.iconst (-1), 1) := by decide +kernel
theorem dX11_moths_176 : decode cX11_moths 176 = .ok (.ixor, 1) := by decide +kernel
theorem dX11_moths_177 : decode cX11_moths 177 = .ok (.invokevirtual 208, 3) := by decide +kernel
theorem dX11_moths_180 : decode cX11_moths 180 = .ok (.iload 4, 2) := by decide +kernel
theorem dX11_moths_182 : decode cX11_moths 182 = .ok (.iadd, 1) := by decide +kernel
theorem dX11_moths_183 : decode cX11_moths 183 = .ok (.goto 13, 3) := by decide +kernel
theorem dX11_moths_186 : decode cX11_moths 186 = .ok (.aload_n 0, 1) := by decide +kernel
theorem dX11_moths_187 : decode cX11_moths 187 = .ok (.getfield 74, 3) := by decide +kernel
theorem dX11_moths_190 : decode cX11_moths 190 = .ok (.iload_n 2, 1) := by decide +kernel
theorem dX11_moths_191 : decode cX11_moths 191 = .ok (.iconst 1, 1) := by decide +kernel
theorem dX11_moths_192 : decode cX11_moths 192 = .ok (.isub, 1) := by decide +kernel
theorem dX11_moths_193 : decode cX11_moths 193 = .ok (.invokevirtual 237, 3) := by decide +kernel
theorem dX11_moths_196 : decode cX11_moths 196 = .ok (.ireturn, 1) := by decide +kernel
theorem dX11_openStands_0 : decode cX11_openStands 0 = .ok (.iconst 0, 1) := by decide +kernel
theorem dX11_openStands_1 : decode cX11_openStands 1 = .ok (.istore_n 2, 1) := by decide +kernel
theorem dX11_openStands_2 : decode cX11_openStands 2 = .ok (.iload_n 2, 1) := by decide +kernel
theorem dX11_openStands_3 : decode cX11_openStands 3 = .ok (.aload_n 0, 1) := by decide +kernel
theorem dX11_openStands_4 : decode cX11_openStands 4 = .ok (.getfield 45, 3) := by decide +kernel
theorem dX11_openStands_7 : decode cX11_openStands 7 = .ok (.getfield 217, 3) := by decide +kernel
theorem dX11_openStands_10 : decode cX11_openStands 10 = .ok (.if_icmp .ge 33, 3) := by decide +kernel
theorem dX11_openStands_13 : decode cX11_openStands 13 = .ok (.aload_n 0, 1) := by decide +kernel
theorem dX11_openStands_14 : decode cX11_openStands 14 = .ok (.getfield 60, 3) := by decide +kernel
theorem dX11_openStands_17 : decode cX11_openStands 17 = .ok (.aload_n 0, 1) := by decide +kernel
theorem dX11_openStands_18 : decode cX11_openStands 18 = .ok (.getfield 45, 3) := by decide +kernel
theorem dX11_openStands_21 : decode cX11_openStands 21 = .ok (.iload_n 2, 1) := by decide +kernel
theorem dX11_openStands_22 : decode cX11_openStands 22 = .ok (.invokevirtual 170, 3) := by decide +kernel
theorem dX11_openStands_25 : decode cX11_openStands 25 = .ok (.ifCond .eq 12, 3) := by decide +kernel
theorem dX11_openStands_28 : decode cX11_openStands 28 = .ok (.aload_n 0, 1) := by decide +kernel
theorem dX11_openStands_29 : decode cX11_openStands 29 = .ok (.getfield 74, 3) := by decide +kernel
theorem dX11_openStands_32 : decode cX11_openStands 32 = .ok (.iload_n 1, 1) := by decide +kernel
theorem dX11_openStands_33 : decode cX11_openStands 33 = .ok (.iload_n 2, 1) := by decide +kernel
theorem dX11_openStands_34 : decode cX11_openStands 34 = .ok (.invokevirtual 246, 3) := by decide +kernel
theorem dX11_openStands_37 : decode cX11_openStands 37 = .ok (.iinc 2 1, 3) := by decide +kernel
theorem dX11_openStands_40 : decode cX11_openStands 40 = .ok (.goto (-38), 3) := by decide +kernel
theorem dX11_openStands_43 : decode cX11_openStands 43 = .ok (.return_, 1) := by decide +kernel
theorem dX11_tell_0 : decode cX11_tell 0 = .ok (.aload_n 0, 1) := by decide +kernel
theorem dX11_tell_1 : decode cX11_tell 1 = .ok (.getfield 45, 3) := by decide +kernel
theorem dX11_tell_4 : decode cX11_tell 4 = .ok (.iload_n 1, 1) := by decide +kernel
theorem dX11_tell_5 : decode cX11_tell 5 = .ok (.invokevirtual 112, 3) := by decide +kernel
theorem dX11_tell_8 : decode cX11_tell 8 = .ok (.ifCond .eq 13, 3) := by decide +kernel
theorem dX11_tell_11 : decode cX11_tell 11 = .ok (.iload_n 2, 1) := by decide +kernel
theorem dX11_tell_12 : decode cX11_tell 12 = .ok (.ifCond .lt 9, 3) := by decide +kernel
theorem dX11_tell_15 : decode cX11_tell 15 = .ok (.iload_n 2, 1) := by decide +kernel
theorem dX11_tell_16 : decode cX11_tell 16 = .ok (.bipush 9, 2) := by decide +kernel
theorem dX11_tell_18 : decode cX11_tell 18 = .ok (.if_icmp .le 5, 3) := by decide +kernel
theorem dX11_tell_21 : decode cX11_tell 21 = .ok (.iconst 0, 1) := by decide +kernel
theorem dX11_tell_22 : decode cX11_tell 22 = .ok (.ireturn, 1) := by decide +kernel
theorem dX11_tell_23 : decode cX11_tell 23 = .ok (.aload_n 0, 1) := by decide +kernel
theorem dX11_tell_24 : decode cX11_tell 24 = .ok (.getfield 28, 3) := by decide +kernel
theorem dX11_tell_27 : decode cX11_tell 27 = .ok (.getfield 279, 3) := by decide +kernel
theorem dX11_tell_30 : decode cX11_tell 30 = .ok (.iload_n 1, 1) := by decide +kernel
theorem dX11_tell_31 : decode cX11_tell 31 = .ok (.iload_n 2, 1) := by decide +kernel
theorem dX11_tell_32 : decode cX11_tell 32 = .ok (.iastore, 1) := by decide +kernel
theorem dX11_tell_33 : decode cX11_tell 33 = .ok (.iconst 1, 1) := by decide +kernel
theorem dX11_tell_34 : decode cX11_tell 34 = .ok (.ireturn, 1) := by decide +kernel
theorem dX11_under_0 : decode cX11_under 0 = .ok (.iload_n 1, 1) := by decide +kernel
theorem dX11_under_1 : decode cX11_under 1 = .ok (.iconst (-1), 1) := by decide +kernel
theorem dX11_under_2 : decode cX11_under 2 = .ok (.if_icmp .eq 17, 3) := by decide +kernel
theorem dX11_under_5 : decode cX11_under 5 = .ok (.aload_n 0, 1) := by decide +kernel
theorem dX11_under_6 : decode cX11_under 6 = .ok (.getfield 45, 3) := by decide +kernel
theorem dX11_under_9 : decode cX11_under 9 = .ok (.iload_n 1, 1) := by decide +kernel
theorem dX11_under_10 : decode cX11_under 10 = .ok (.invokevirtual 112, 3) := by decide +kernel
theorem dX11_under_13 : decode cX11_under 13 = .ok (.ifCond .ne 6, 3) := by decide +kernel
theorem dX11_under_16 : decode cX11_under 16 = .ok (.bipush (-2), 2) := by decide +kernel
theorem dX11_under_18 : decode cX11_under 18 = .ok (.ireturn, 1) := by decide +kernel
theorem dX11_under_19 : decode cX11_under 19 = .ok (.aload_n 0, 1) := by decide +kernel
theorem dX11_under_20 : decode cX11_under 20 = .ok (.getfield 67, 3) := by decide +kernel
theorem dX11_under_23 : decode cX11_under 23 = .ok (.aload_n 0, 1) := by decide +kernel
theorem dX11_under_24 : decode cX11_under 24 = .ok (.getfield 45, 3) := by decide +kernel
theorem dX11_under_27 : decode cX11_under 27 = .ok (.aload_n 0, 1) := by decide +kernel
theorem dX11_under_28 : decode cX11_under 28 = .ok (.getfield 28, 3) := by decide +kernel
theorem dX11_under_31 : decode cX11_under 31 = .ok (.getfield 126, 3) := by decide +kernel
theorem dX11_under_34 : decode cX11_under 34 = .ok (.getfield 142, 3) := by decide +kernel
theorem dX11_under_37 : decode cX11_under 37 = .ok (.invokevirtual 283, 3) := by decide +kernel
theorem dX11_under_40 : decode cX11_under 40 = .ok (.aload_n 0, 1) := by decide +kernel
theorem dX11_under_41 : decode cX11_under 41 = .ok (.getfield 67, 3) := by decide +kernel
theorem dX11_under_44 : decode cX11_under 44 = .ok (.aload_n 0, 1) := by decide +kernel
theorem dX11_under_45 : decode cX11_under 45 = .ok (.getfield 28, 3) := by decide +kernel
theorem dX11_under_48 : decode cX11_under 48 = .ok (.getfield 279, 3) := by decide +kernel
theorem dX11_under_51 : decode cX11_under 51 = .ok (.iconst (-1), 1) := by decide +kernel
theorem dX11_under_52 : decode cX11_under 52 = .ok (.invokevirtual 287, 3) := by decide +kernel
theorem dX11_under_55 : decode cX11_under 55 = .ok (.aload_n 0, 1) := by decide +kernel
theorem dX11_under_56 : decode cX11_under 56 = .ok (.getfield 67, 3) := by decide +kernel
theorem dX11_under_59 : decode cX11_under 59 = .ok (.iconst 0, 1) := by decide +kernel
theorem dX11_under_60 : decode cX11_under 60 = .ok (.invokevirtual 291, 3) := by decide +kernel
theorem dX11_under_63 : decode cX11_under 63 = .ok (.istore_n 2, 1) := by decide +kernel
theorem dX11_under_64 : decode cX11_under 64 = .ok (.iload_n 1, 1) := by decide +kernel
theorem dX11_under_65 : decode cX11_under 65 = .ok (.iconst (-1), 1) := by decide +kernel
theorem dX11_under_66 : decode cX11_under 66 = .ok (.if_icmp .ne 5, 3) := by decide +kernel
theorem dX11_under_69 : decode cX11_under 69 = .ok (.iload_n 2, 1) := by decide +kernel
theorem dX11_under_70 : decode cX11_under 70 = .ok (.ireturn, 1) := by decide +kernel
theorem dX11_under_71 : decode cX11_under 71 = .ok (.aload_n 0, 1) := by decide +kernel
theorem dX11_under_72 : decode cX11_under 72 = .ok (.getfield 28, 3) := by decide +kernel
theorem dX11_under_75 : decode cX11_under 75 = .ok (.getfield 279, 3) := by decide +kernel
theorem dX11_under_78 : decode cX11_under 78 = .ok (.iload_n 1, 1) := by decide +kernel
theorem dX11_under_79 : decode cX11_under 79 = .ok (.iaload, 1) := by decide +kernel
theorem dX11_under_80 : decode cX11_under 80 = .ok (.iconst (-1), 1) := by decide +kernel
theorem dX11_under_81 : decode cX11_under 81 = .ok (.if_icmp .eq 7, 3) := by decide +kernel
theorem dX11_under_84 : decode cX11_under 84 = .ok (.iload_n 2, 1) := by decide +kernel
theorem dX11_under_85 : decode cX11_under 85 = .ok (.ifCond .ne 5, 3) := by decide +kernel
theorem dX11_under_88 : decode cX11_under 88 = .ok (.iconst (-1), 1) := by decide +kernel
theorem dX11_under_89 : decode cX11_under 89 = .ok (.ireturn, 1) := by decide +kernel
theorem dX11_under_90 : decode cX11_under 90 = .ok (.aload_n 0, 1) := by decide +kernel
theorem dX11_under_91 : decode cX11_under 91 = .ok (.getfield 67, 3) := by decide +kernel
theorem dX11_under_94 : decode cX11_under 94 = .ok (.aload_n 0, 1) := by decide +kernel
theorem dX11_under_95 : decode cX11_under 95 = .ok (.getfield 28, 3) := by decide +kernel
theorem dX11_under_98 : decode cX11_under 98 = .ok (.getfield 279, 3) := by decide +kernel
theorem dX11_under_101 : decode cX11_under 101 = .ok (.iload_n 1, 1) := by decide +kernel
theorem dX11_under_102 : decode cX11_under 102 = .ok (.invokevirtual 287, 3) := by decide +kernel
theorem dX11_under_105 : decode cX11_under 105 = .ok (.iconst 0, 1) := by decide +kernel
theorem dX11_under_106 : decode cX11_under 106 = .ok (.istore_n 3, 1) := by decide +kernel
theorem dX11_under_107 : decode cX11_under 107 = .ok (.iload_n 3, 1) := by decide +kernel
theorem dX11_under_108 : decode cX11_under 108 = .ok (.aload_n 0, 1) := by decide +kernel
theorem dX11_under_109 : decode cX11_under 109 = .ok (.getfield 45, 3) := by decide +kernel
theorem dX11_under_112 : decode cX11_under 112 = .ok (.getfield 240, 3) := by decide +kernel
theorem dX11_under_115 : decode cX11_under 115 = .ok (.if_icmp .ge 46, 3) := by decide +kernel
theorem dX11_under_118 : decode cX11_under 118 = .ok (.aload_n 0, 1) := by decide +kernel
theorem dX11_under_119 : decode cX11_under 119 = .ok (.getfield 67, 3) := by decide +kernel
theorem dX11_under_122 : decode cX11_under 122 = .ok (.iload_n 1, 1) := by decide +kernel
theorem dX11_under_123 : decode cX11_under 123 = .ok (.iload_n 3, 1) := by decide +kernel
theorem dX11_under_124 : decode cX11_under 124 = .ok (.invokevirtual 294, 3) := by decide +kernel
theorem dX11_under_127 : decode cX11_under 127 = .ok (.aload_n 0, 1) := by decide +kernel
theorem dX11_under_128 : decode cX11_under 128 = .ok (.getfield 28, 3) := by decide +kernel
theorem dX11_under_131 : decode cX11_under 131 = .ok (.getfield 279, 3) := by decide +kernel
theorem dX11_under_134 : decode cX11_under 134 = .ok (.iload_n 1, 1) := by decide +kernel
theorem dX11_under_135 : decode cX11_under 135 = .ok (.iaload, 1) := by decide +kernel
theorem dX11_under_136 : decode cX11_under 136 = .ok (.if_icmp .ne 19, 3) := by decide +kernel
theorem dX11_under_139 : decode cX11_under 139 = .ok (.aload_n 0, 1) := by decide +kernel
theorem dX11_under_140 : decode cX11_under 140 = .ok (.getfield 67, 3) := by decide +kernel
theorem dX11_under_143 : decode cX11_under 143 = .ok (.iconst 1, 1) := by decide +kernel
theorem dX11_under_144 : decode cX11_under 144 = .ok (.iload_n 3, 1) := by decide +kernel
theorem dX11_under_145 : decode cX11_under 145 = .ok (.ishl, 1) := by decide +kernel
theorem dX11_under_146 : decode cX11_under 146 = .ok (.invokevirtual 291, 3) := by decide +kernel
theorem dX11_under_149 : decode cX11_under 149 = .ok (.iload_n 2, 1) := by decide +kernel
theorem dX11_under_150 : decode cX11_under 150 = .ok (.if_icmp .ne 5, 3) := by decide +kernel
theorem dX11_under_153 : decode cX11_under 153 = .ok (.iload_n 3, 1) := by decide +kernel
theorem dX11_under_154 : decode cX11_under 154 = .ok (.ireturn, 1) := by decide +kernel
theorem dX11_under_155 : decode cX11_under 155 = .ok (.iinc 3 1, 3) := by decide +kernel
theorem dX11_under_158 : decode cX11_under 158 = .ok (.goto (-51), 3) := by decide +kernel
theorem dX11_under_161 : decode cX11_under 161 = .ok (.iconst (-1), 1) := by decide +kernel
theorem dX11_under_162 : decode cX11_under 162 = .ok (.ireturn, 1) := by decide +kernel
theorem dX11_ask_0 : decode cX11_ask 0 = .ok (.aload_n 0, 1) := by decide +kernel
theorem dX11_ask_1 : decode cX11_ask 1 = .ok (.getfield 67, 3) := by decide +kernel
theorem dX11_ask_4 : decode cX11_ask 4 = .ok (.aload_n 0, 1) := by decide +kernel
theorem dX11_ask_5 : decode cX11_ask 5 = .ok (.getfield 45, 3) := by decide +kernel
theorem dX11_ask_8 : decode cX11_ask 8 = .ok (.aload_n 0, 1) := by decide +kernel
theorem dX11_ask_9 : decode cX11_ask 9 = .ok (.getfield 28, 3) := by decide +kernel
theorem dX11_ask_12 : decode cX11_ask 12 = .ok (.getfield 126, 3) := by decide +kernel
theorem dX11_ask_15 : decode cX11_ask 15 = .ok (.getfield 142, 3) := by decide +kernel
theorem dX11_ask_18 : decode cX11_ask 18 = .ok (.invokevirtual 283, 3) := by decide +kernel
theorem dX11_ask_21 : decode cX11_ask 21 = .ok (.aload_n 0, 1) := by decide +kernel
theorem dX11_ask_22 : decode cX11_ask 22 = .ok (.getfield 67, 3) := by decide +kernel
theorem dX11_ask_25 : decode cX11_ask 25 = .ok (.aload_n 0, 1) := by decide +kernel
theorem dX11_ask_26 : decode cX11_ask 26 = .ok (.getfield 28, 3) := by decide +kernel
theorem dX11_ask_29 : decode cX11_ask 29 = .ok (.getfield 279, 3) := by decide +kernel
theorem dX11_ask_32 : decode cX11_ask 32 = .ok (.iconst (-1), 1) := by decide +kernel
theorem dX11_ask_33 : decode cX11_ask 33 = .ok (.invokevirtual 287, 3) := by decide +kernel
theorem dX11_ask_36 : decode cX11_ask 36 = .ok (.iconst (-1), 1) := by decide +kernel
theorem dX11_ask_37 : decode cX11_ask 37 = .ok (.istore_n 1, 1) := by decide +kernel
theorem dX11_ask_38 : decode cX11_ask 38 = .ok (.iconst (-1), 1) := by decide +kernel
theorem dX11_ask_39 : decode cX11_ask 39 = .ok (.istore_n 2, 1) := by decide +kernel
theorem dX11_ask_40 : decode cX11_ask 40 = .ok (.iconst 0, 1) := by decide +kernel
theorem dX11_ask_41 : decode cX11_ask 41 = .ok (.istore_n 3, 1) := by decide +kernel
theorem dX11_ask_42 : decode cX11_ask 42 = .ok (.iload_n 3, 1) := by decide +kernel
theorem dX11_ask_43 : decode cX11_ask 43 = .ok (.aload_n 0, 1) := by decide +kernel
theorem dX11_ask_44 : decode cX11_ask 44 = .ok (.getfield 45, 3) := by decide +kernel
theorem dX11_ask_47 : decode cX11_ask 47 = .ok (.getfield 217, 3) := by decide +kernel
theorem dX11_ask_50 : decode cX11_ask 50 = .ok (.if_icmp .ge 61, 3) := by decide +kernel
theorem dX11_ask_53 : decode cX11_ask 53 = .ok (.aload_n 0, 1) := by decide +kernel
theorem dX11_ask_54 : decode cX11_ask 54 = .ok (.getfield 28, 3) := by decide +kernel
theorem dX11_ask_57 : decode cX11_ask 57 = .ok (.getfield 279, 3) := by decide +kernel
theorem dX11_ask_60 : decode cX11_ask 60 = .ok (.iload_n 3, 1) := by decide +kernel
theorem dX11_ask_61 : decode cX11_ask 61 = .ok (.iaload, 1) := by decide +kernel
theorem dX11_ask_62 : decode cX11_ask 62 = .ok (.iconst (-1), 1) := by decide +kernel
theorem dX11_ask_63 : decode cX11_ask 63 = .ok (.if_icmp .ne 42, 3) := by decide +kernel
theorem dX11_ask_66 : decode cX11_ask 66 = .ok (.aload_n 0, 1) := by decide +kernel
theorem dX11_ask_67 : decode cX11_ask 67 = .ok (.getfield 67, 3) := by decide +kernel
theorem dX11_ask_70 : decode cX11_ask 70 = .ok (.iload_n 3, 1) := by decide +kernel
theorem dX11_ask_71 : decode cX11_ask 71 = .ok (.invokevirtual 297, 3) := by decide +kernel
theorem dX11_ask_74 : decode cX11_ask 74 = .ok (.istore 4, 2) := by decide +kernel
theorem dX11_ask_76 : decode cX11_ask 76 = .ok (.iload 4, 2) := by decide +kernel
theorem dX11_ask_78 : decode cX11_ask 78 = .ok (.aload_n 0, 1) := by decide +kernel
theorem dX11_ask_79 : decode cX11_ask 79 = .ok (.getfield 67, 3) := by decide +kernel
theorem dX11_ask_82 : decode cX11_ask 82 = .ok (.iload_n 3, 1) := by decide +kernel
theorem dX11_ask_83 : decode cX11_ask 83 = .ok (.invokevirtual 300, 3) := by decide +kernel
theorem dX11_ask_86 : decode cX11_ask 86 = .ok (.if_icmp .ge 19, 3) := by decide +kernel
theorem dX11_ask_89 : decode cX11_ask 89 = .ok (.iload_n 2, 1) := by decide +kernel
theorem dX11_ask_90 : decode cX11_ask 90 = .ok (.iconst (-1), 1) := by decide +kernel
theorem dX11_ask_91 : decode cX11_ask 91 = .ok (.if_icmp .eq 9, 3) := by decide +kernel
theorem dX11_ask_94 : decode cX11_ask 94 = .ok (.iload 4, 2) := by decide +kernel
theorem dX11_ask_96 : decode cX11_ask 96 = .ok (.iload_n 1, 1) := by decide +kernel
theorem dX11_ask_97 : decode cX11_ask 97 = .ok (.if_icmp .ge 8, 3) := by decide +kernel
theorem dX11_ask_100 : decode cX11_ask 100 = .ok (.iload 4, 2) := by decide +kernel
theorem dX11_ask_102 : decode cX11_ask 102 = .ok (.istore_n 1, 1) := by decide +kernel
theorem dX11_ask_103 : decode cX11_ask 103 = .ok (.iload_n 3, 1) := by decide +kernel
theorem dX11_ask_104 : decode cX11_ask 104 = .ok (.istore_n 2, 1) := by decide +kernel
theorem dX11_ask_105 : decode cX11_ask 105 = .ok (.iinc 3 1, 3) := by decide +kernel
theorem dX11_ask_108 : decode cX11_ask 108 = .ok (.goto (-66), 3) := by decide +kernel
theorem dX11_ask_111 : decode cX11_ask 111 = .ok (.iload_n 2, 1) := by decide +kernel
theorem dX11_ask_112 : decode cX11_ask 112 = .ok (.ireturn, 1) := by decide +kernel
theorem dX11_power_0 : decode cX11_power 0 = .ok (.aload_n 0, 1) := by decide +kernel
theorem dX11_power_1 : decode cX11_power 1 = .ok (.getfield 45, 3) := by decide +kernel
theorem dX11_power_4 : decode cX11_power 4 = .ok (.iload_n 1, 1) := by decide +kernel
theorem dX11_power_5 : decode cX11_power 5 = .ok (.invokevirtual 112, 3) := by decide +kernel
theorem dX11_power_8 : decode cX11_power 8 = .ok (.ifCond .eq 29, 3) := by decide +kernel
theorem dX11_power_11 : decode cX11_power 11 = .ok (.iload_n 2, 1) := by decide +kernel
theorem dX11_power_12 : decode cX11_power 12 = .ok (.ifCond .lt 25, 3) := by decide +kernel
theorem dX11_power_15 : decode cX11_power 15 = .ok (.iload_n 2, 1) := by decide +kernel
theorem dX11_power_16 : decode cX11_power 16 = .ok (.sipush 999, 3) := by decide +kernel
theorem dX11_power_19 : decode cX11_power 19 = .ok (.if_icmp .gt 18, 3) := by decide +kernel
theorem dX11_power_22 : decode cX11_power 22 = .ok (.aload_n 0, 1) := by decide +kernel
theorem dX11_power_23 : decode cX11_power 23 = .ok (.getfield 28, 3) := by decide +kernel
theorem dX11_power_26 : decode cX11_power 26 = .ok (.getfield 126, 3) := by decide +kernel
theorem dX11_power_29 : decode cX11_power 29 = .ok (.iload_n 1, 1) := by decide +kernel
theorem dX11_power_30 : decode cX11_power 30 = .ok (.invokevirtual 129, 3) := by decide +kernel
theorem dX11_power_33 : decode cX11_power 33 = .ok (.iconst (-1), 1) := by decide +kernel
theorem dX11_power_34 : decode cX11_power 34 = .ok (.if_icmp .ne 5, 3) := by decide +kernel
theorem dX11_power_37 : decode cX11_power 37 = .ok (.iconst (-1), 1) := by decide +kernel
theorem dX11_power_38 : decode cX11_power 38 = .ok (.ireturn, 1) := by decide +kernel
theorem dX11_power_39 : decode cX11_power 39 = .ok (.aload_n 0, 1) := by decide +kernel
theorem dX11_power_40 : decode cX11_power 40 = .ok (.getfield 28, 3) := by decide +kernel
theorem dX11_power_43 : decode cX11_power 43 = .ok (.getfield 126, 3) := by decide +kernel
theorem dX11_power_46 : decode cX11_power 46 = .ok (.aload_n 0, 1) := by decide +kernel
theorem dX11_power_47 : decode cX11_power 47 = .ok (.getfield 45, 3) := by decide +kernel
theorem dX11_power_50 : decode cX11_power 50 = .ok (.invokevirtual 205, 3) := by decide +kernel
theorem dX11_power_53 : decode cX11_power 53 = .ok (.iconst 1, 1) := by decide +kernel
theorem dX11_power_54 : decode cX11_power 54 = .ok (.iload_n 1, 1) := by decide +kernel
theorem dX11_power_55 : decode cX11_power 55 = .ok (.ishl, 1) := by decide +kernel
theorem dX11_power_56 : decode cX11_power 56 = .ok (.iconst (-1), 1) := by decide +kernel
theorem dX11_power_57 : decode cX11_power 57 = .ok (.ixor, 1) := by decide +kernel
theorem dX11_power_58 : decode cX11_power 58 = .ok (.iand, 1) := by decide +kernel
theorem dX11_power_59 : decode cX11_power 59 = .ok (.istore_n 3, 1) := by decide +kernel
theorem dX11_power_60 : decode cX11_power 60 = .ok (.iconst 0, 1) := by decide +kernel
theorem dX11_power_61 : decode cX11_power 61 = .ok (.istore 4, 2) := by decide +kernel
theorem dX11_power_63 : decode cX11_power 63 = .ok (.iconst 0, 1) := by decide +kernel
theorem dX11_power_64 : decode cX11_power 64 = .ok (.istore 5, 2) := by decide +kernel
theorem dX11_power_66 : decode cX11_power 66 = .ok (.iload 5, 2) := by decide +kernel
theorem dX11_power_68 : decode cX11_power 68 = .ok (.bipush 64, 2) := by decide +kernel
theorem dX11_power_70 : decode cX11_power 70 = .ok (.if_icmp .ge 53, 3) := by decide +kernel
theorem dX11_power_73 : decode cX11_power 73 = .ok (.iload 5, 2) := by decide +kernel
theorem dX11_power_75 : decode cX11_power 75 = .ok (.iload_n 3, 1) := by decide +kernel
theorem dX11_power_76 : decode cX11_power 76 = .ok (.iconst (-1), 1) := by decide +kernel
theorem dX11_power_77 : decode cX11_power 77 = .ok (.ixor, 1) := by decide +kernel
theorem dX11_power_78 : decode cX11_power 78 = .ok (.iand, 1) := by decide +kernel
theorem dX11_power_79 : decode cX11_power 79 = .ok (.ifCond .ne 38, 3) := by decide +kernel
theorem dX11_power_82 : decode cX11_power 82 = .ok (.aload_n 0, 1) := by decide +kernel
theorem dX11_power_83 : decode cX11_power 83 = .ok (.getfield 45, 3) := by decide +kernel
theorem dX11_power_86 : decode cX11_power 86 = .ok (.iload 5, 2) := by decide +kernel
theorem dX11_power_88 : decode cX11_power 88 = .ok (.invokevirtual 208, 3) := by decide +kernel
theorem dX11_power_91 : decode cX11_power 91 = .ok (.istore 6, 2) := by decide +kernel
theorem dX11_power_93 : decode cX11_power 93 = .ok (.iload 6, 2) := by decide +kernel
theorem dX11_power_95 : decode cX11_power 95 = .ok (.iload_n 2, 1) := by decide +kernel
theorem dX11_power_96 : decode cX11_power 96 = .ok (.if_icmp .ge 21, 3) := by decide +kernel
theorem dX11_power_99 : decode cX11_power 99 = .ok (.iload 6, 2) := by decide +kernel
theorem dX11_power_101 : decode cX11_power 101 = .ok (.aload_n 0, 1) := by decide +kernel
theorem dX11_power_102 : decode cX11_power 102 = .ok (.getfield 45, 3) := by decide +kernel
theorem dX11_power_105 : decode cX11_power 105 = .ok (.iload_n 1, 1) := by decide +kernel
theorem dX11_power_106 : decode cX11_power 106 = .ok (.invokevirtual 120, 3) := by decide +kernel
theorem dX11_power_109 : decode cX11_power 109 = .ok (.iadd, 1) := by decide +kernel
theorem dX11_power_110 : decode cX11_power 110 = .ok (.iload_n 2, 1) := by decide +kernel
theorem dX11_power_111 : decode cX11_power 111 = .ok (.if_icmp .lt 6, 3) := by decide +kernel
theorem dX11_power_114 : decode cX11_power 114 = .ok (.iinc 4 1, 3) := by decide +kernel
theorem dX11_power_117 : decode cX11_power 117 = .ok (.iinc 5 1, 3) := by decide +kernel
theorem dX11_power_120 : decode cX11_power 120 = .ok (.goto (-54), 3) := by decide +kernel
theorem dX11_power_123 : decode cX11_power 123 = .ok (.iload 4, 2) := by decide +kernel
theorem dX11_power_125 : decode cX11_power 125 = .ok (.ireturn, 1) := by decide +kernel
theorem dX11_match_0 : decode cX11_match 0 = .ok (.aload_n 0, 1) := by decide +kernel
theorem dX11_match_1 : decode cX11_match 1 = .ok (.getfield 45, 3) := by decide +kernel
theorem dX11_match_4 : decode cX11_match 4 = .ok (.iload_n 1, 1) := by decide +kernel
theorem dX11_match_5 : decode cX11_match 5 = .ok (.invokevirtual 135, 3) := by decide +kernel
theorem dX11_match_8 : decode cX11_match 8 = .ok (.ifCond .ne 6, 3) := by decide +kernel
theorem dX11_match_11 : decode cX11_match 11 = .ok (.bipush (-2), 2) := by decide +kernel
theorem dX11_match_13 : decode cX11_match 13 = .ok (.ireturn, 1) := by decide +kernel
theorem dX11_match_14 : decode cX11_match 14 = .ok (.aload_n 0, 1) := by decide +kernel
theorem dX11_match_15 : decode cX11_match 15 = .ok (.getfield 67, 3) := by decide +kernel
theorem dX11_match_18 : decode cX11_match 18 = .ok (.aload_n 0, 1) := by decide +kernel
theorem dX11_match_19 : decode cX11_match 19 = .ok (.getfield 45, 3) := by decide +kernel
theorem dX11_match_22 : decode cX11_match 22 = .ok (.aload_n 0, 1) := by decide +kernel
theorem dX11_match_23 : decode cX11_match 23 = .ok (.getfield 28, 3) := by decide +kernel
theorem dX11_match_26 : decode cX11_match 26 = .ok (.getfield 126, 3) := by decide +kernel
theorem dX11_match_29 : decode cX11_match 29 = .ok (.getfield 142, 3) := by decide +kernel
theorem dX11_match_32 : decode cX11_match 32 = .ok (.invokevirtual 283, 3) := by decide +kernel
theorem dX11_match_35 : decode cX11_match 35 = .ok (.aload_n 0, 1) := by decide +kernel
theorem dX11_match_36 : decode cX11_match 36 = .ok (.getfield 67, 3) := by decide +kernel
theorem dX11_match_39 : decode cX11_match 39 = .ok (.aload_n 0, 1) := by decide +kernel
theorem dX11_match_40 : decode cX11_match 40 = .ok (.getfield 45, 3) := by decide +kernel
theorem dX11_match_43 : decode cX11_match 43 = .ok (.aload_n 0, 1) := by decide +kernel
theorem dX11_match_44 : decode cX11_match 44 = .ok (.getfield 28, 3) := by decide +kernel
theorem dX11_match_47 : decode cX11_match 47 = .ok (.getfield 126, 3) := by decide +kernel
theorem dX11_match_50 : decode cX11_match 50 = .ok (.aload_n 0, 1) := by decide +kernel
theorem dX11_match_51 : decode cX11_match 51 = .ok (.getfield 45, 3) := by decide +kernel
theorem dX11_match_54 : decode cX11_match 54 = .ok (.invokevirtual 227, 3) := by decide +kernel
theorem dX11_match_57 : decode cX11_match 57 = .ok (.iload_n 1, 1) := by decide +kernel
theorem dX11_match_58 : decode cX11_match 58 = .ok (.invokevirtual 303, 3) := by decide +kernel
theorem dX11_match_61 : decode cX11_match 61 = .ok (.ireturn, 1) := by decide +kernel
theorem dX11_rests_0 : decode cX11_rests 0 = .ok (.iload_n 1, 1) := by decide +kernel
theorem dX11_rests_1 : decode cX11_rests 1 = .ok (.ifCond .lt 24, 3) := by decide +kernel
theorem dX11_rests_4 : decode cX11_rests 4 = .ok (.iload_n 1, 1) := by decide +kernel
theorem dX11_rests_5 : decode cX11_rests 5 = .ok (.bipush 9, 2) := by decide +kernel
theorem dX11_rests_7 : decode cX11_rests 7 = .ok (.if_icmp .gt 18, 3) := by decide +kernel
theorem dX11_rests_10 : decode cX11_rests 10 = .ok (.iload_n 2, 1) := by decide +kernel
theorem dX11_rests_11 : decode cX11_rests 11 = .ok (.ifCond .lt 14, 3) := by decide +kernel
theorem dX11_rests_14 : decode cX11_rests 14 = .ok (.iload_n 2, 1) := by decide +kernel
theorem dX11_rests_15 : decode cX11_rests 15 = .ok (.bipush 9, 2) := by decide +kernel
theorem dX11_rests_17 : decode cX11_rests 17 = .ok (.if_icmp .gt 8, 3) := by decide +kernel
theorem dX11_rests_20 : decode cX11_rests 20 = .ok (.iload_n 3, 1) := by decide +kernel
theorem dX11_rests_21 : decode cX11_rests 21 = .ok (.iconst (-1), 1) := by decide +kernel
theorem dX11_rests_22 : decode cX11_rests 22 = .ok (.if_icmp .ge 14, 3) := by decide +kernel
theorem dX11_rests_25 : decode cX11_rests 25 = .ok (.new 307, 3) := by decide +kernel
theorem dX11_rests_28 : decode cX11_rests 28 = .ok (.dup, 1) := by decide +kernel
theorem dX11_rests_29 : decode cX11_rests 29 = .ok (.ldc_w 309, 3) := by decide +kernel
theorem dX11_rests_32 : decode cX11_rests 32 = .ok (.invokespecial 311, 3) := by decide +kernel
theorem dX11_rests_35 : decode cX11_rests 35 = .ok (.athrow, 1) := by decide +kernel
theorem dX11_rests_36 : decode cX11_rests 36 = .ok (.iconst 0, 1) := by decide +kernel
theorem dX11_rests_37 : decode cX11_rests 37 = .ok (.istore 4, 2) := by decide +kernel
theorem dX11_rests_39 : decode cX11_rests 39 = .ok (.iconst 0, 1) := by decide +kernel
theorem dX11_rests_40 : decode cX11_rests 40 = .ok (.istore 5, 2) := by decide +kernel
theorem dX11_rests_42 : decode cX11_rests 42 = .ok (.iload 5, 2) := by decide +kernel
theorem dX11_rests_44 : decode cX11_rests 44 = .ok (.iconst 5, 1) := by decide +kernel
theorem dX11_rests_45 : decode cX11_rests 45 = .ok (.if_icmp .gt 66, 3) := by decide +kernel
theorem dX11_rests_48 : decode cX11_rests 48 = .ok (.iconst 0, 1) := by decide +kernel
theorem dX11_rests_49 : decode cX11_rests 49 = .ok (.istore 6, 2) := by decide +kernel
theorem dX11_rests_51 : decode cX11_rests 51 = .ok (.iload 6, 2) := by decide +kernel
theorem dX11_rests_53 : decode cX11_rests 53 = .ok (.iconst 5, 1) := by decide +kernel
theorem dX11_rests_54 : decode cX11_rests 54 = .ok (.if_icmp .gt 51, 3) := by decide +kernel
theorem dX11_rests_57 : decode cX11_rests 57 = .ok (.iload_n 1, 1) := by decide +kernel
theorem dX11_rests_58 : decode cX11_rests 58 = .ok (.iload_n 2, 1) := by decide +kernel
theorem dX11_rests_59 : decode cX11_rests 59 = .ok (.iload 5, 2) := by decide +kernel
theorem dX11_rests_61 : decode cX11_rests 61 = .ok (.iload 6, 2) := by decide +kernel
theorem dX11_rests_63 : decode cX11_rests 63 = .ok (.invokestatic 314, 3) := by decide +kernel
theorem dX11_rests_66 : decode cX11_rests 66 = .ok (.ifCond .eq 33, 3) := by decide +kernel
theorem dX11_rests_69 : decode cX11_rests 69 = .ok (.iload_n 1, 1) := by decide +kernel
theorem dX11_rests_70 : decode cX11_rests 70 = .ok (.iload_n 2, 1) := by decide +kernel
theorem dX11_rests_71 : decode cX11_rests 71 = .ok (.iload 6, 2) := by decide +kernel
theorem dX11_rests_73 : decode cX11_rests 73 = .ok (.iload 5, 2) := by decide +kernel
theorem dX11_rests_75 : decode cX11_rests 75 = .ok (.invokestatic 314, 3) := by decide +kernel
theorem dX11_rests_78 : decode cX11_rests 78 = .ok (.ifCond .eq 21, 3) := by decide +kernel
theorem dX11_rests_81 : decode cX11_rests 81 = .ok (.iload 4, 2) := by decide +kernel
theorem dX11_rests_83 : decode cX11_rests 83 = .ok (.iload_n 3, 1) := by decide +kernel
theorem dX11_rests_84 : decode cX11_rests 84 = .ok (.if_icmp .ne 12, 3) := by decide +kernel
theorem dX11_rests_87 : decode cX11_rests 87 = .ok (.bipush 10, 2) := by decide +kernel
theorem dX11_rests_89 : decode cX11_rests 89 = .ok (.iload 5, 2) := by decide +kernel
theorem dX11_rests_91 : decode cX11_rests 91 = .ok (.imul, 1) := by decide +kernel
theorem dX11_rests_92 : decode cX11_rests 92 = .ok (.iload 6, 2) := by decide +kernel
theorem dX11_rests_94 : decode cX11_rests 94 = .ok (.iadd, 1) := by decide +kernel
theorem dX11_rests_95 : decode cX11_rests 95 = .ok (.ireturn, 1) := by decide +kernel
theorem dX11_rests_96 : decode cX11_rests 96 = .ok (.iinc 4 1, 3) := by decide +kernel
theorem dX11_rests_99 : decode cX11_rests 99 = .ok (.iinc 6 1, 3) := by decide +kernel
theorem dX11_rests_102 : decode cX11_rests 102 = .ok (.goto (-51), 3) := by decide +kernel
theorem dX11_rests_105 : decode cX11_rests 105 = .ok (.iinc 5 1, 3) := by decide +kernel
theorem dX11_rests_108 : decode cX11_rests 108 = .ok (.goto (-66), 3) := by decide +kernel
theorem dX11_rests_111 : decode cX11_rests 111 = .ok (.iload_n 3, 1) := by decide +kernel
theorem dX11_rests_112 : decode cX11_rests 112 = .ok (.iconst (-1), 1) := by decide +kernel
theorem dX11_rests_113 : decode cX11_rests 113 = .ok (.if_icmp .eq 14, 3) := by decide +kernel
theorem dX11_rests_116 : decode cX11_rests 116 = .ok (.new 307, 3) := by decide +kernel
theorem dX11_rests_119 : decode cX11_rests 119 = .ok (.dup, 1) := by decide +kernel
theorem dX11_rests_120 : decode cX11_rests 120 = .ok (.ldc_w 318, 3) := by decide +kernel
theorem dX11_rests_123 : decode cX11_rests 123 = .ok (.invokespecial 311, 3) := by decide +kernel
theorem dX11_rests_126 : decode cX11_rests 126 = .ok (.athrow, 1) := by decide +kernel
theorem dX11_rests_127 : decode cX11_rests 127 = .ok (.iload 4, 2) := by decide +kernel
theorem dX11_rests_129 : decode cX11_rests 129 = .ok (.ireturn, 1) := by decide +kernel
theorem dX11_isBest_0 : decode cX11_isBest 0 = .ok (.iload_n 0, 1) := by decide +kernel
theorem dX11_isBest_1 : decode cX11_isBest 1 = .ok (.iload_n 1, 1) := by decide +kernel
theorem dX11_isBest_2 : decode cX11_isBest 2 = .ok (.iload_n 2, 1) := by decide +kernel
theorem dX11_isBest_3 : decode cX11_isBest 3 = .ok (.iload_n 3, 1) := by decide +kernel
theorem dX11_isBest_4 : decode cX11_isBest 4 = .ok (.invokestatic 320, 3) := by decide +kernel
theorem dX11_isBest_7 : decode cX11_isBest 7 = .ok (.istore 4, 2) := by decide +kernel
theorem dX11_isBest_9 : decode cX11_isBest 9 = .ok (.iconst 0, 1) := by decide +kernel
theorem dX11_isBest_10 : decode cX11_isBest 10 = .ok (.istore 5, 2) := by decide +kernel
theorem dX11_isBest_12 : decode cX11_isBest 12 = .ok (.iload 5, 2) := by decide +kernel
theorem dX11_isBest_14 : decode cX11_isBest 14 = .ok (.iconst 5, 1) := by decide +kernel
theorem dX11_isBest_15 : decode cX11_isBest 15 = .ok (.if_icmp .gt 24, 3) := by decide +kernel
theorem dX11_isBest_18 : decode cX11_isBest 18 = .ok (.iload_n 0, 1) := by decide +kernel
theorem dX11_isBest_19 : decode cX11_isBest 19 = .ok (.iload_n 1, 1) := by decide +kernel
theorem dX11_isBest_20 : decode cX11_isBest 20 = .ok (.iload 5, 2) := by decide +kernel
theorem dX11_isBest_22 : decode cX11_isBest 22 = .ok (.iload_n 3, 1) := by decide +kernel
theorem dX11_isBest_23 : decode cX11_isBest 23 = .ok (.invokestatic 320, 3) := by decide +kernel
theorem dX11_isBest_26 : decode cX11_isBest 26 = .ok (.iload 4, 2) := by decide +kernel
theorem dX11_isBest_28 : decode cX11_isBest 28 = .ok (.if_icmp .le 5, 3) := by decide +kernel
theorem dX11_isBest_31 : decode cX11_isBest 31 = .ok (.iconst 0, 1) := by decide +kernel
theorem dX11_isBest_32 : decode cX11_isBest 32 = .ok (.ireturn, 1) := by decide +kernel
theorem dX11_isBest_33 : decode cX11_isBest 33 = .ok (.iinc 5 1, 3) := by decide +kernel
theorem dX11_isBest_36 : decode cX11_isBest 36 = .ok (.goto (-24), 3) := by decide +kernel
theorem dX11_isBest_39 : decode cX11_isBest 39 = .ok (.iconst 1, 1) := by decide +kernel
theorem dX11_isBest_40 : decode cX11_isBest 40 = .ok (.ireturn, 1) := by decide +kernel
theorem dX11_gainOf_0 : decode cX11_gainOf 0 = .ok (.iload_n 2, 1) := by decide +kernel
theorem dX11_gainOf_1 : decode cX11_gainOf 1 = .ok (.iload_n 3, 1) := by decide +kernel
theorem dX11_gainOf_2 : decode cX11_gainOf 2 = .ok (.if_icmp .le 7, 3) := by decide +kernel
theorem dX11_gainOf_5 : decode cX11_gainOf 5 = .ok (.iload_n 0, 1) := by decide +kernel
theorem dX11_gainOf_6 : decode cX11_gainOf 6 = .ok (.goto 4, 3) := by decide +kernel
theorem dX11_gainOf_9 : decode cX11_gainOf 9 = .ok (.iconst 0, 1) := by decide +kernel
theorem dX11_gainOf_10 : decode cX11_gainOf 10 = .ok (.iload_n 1, 1) := by decide +kernel
theorem dX11_gainOf_11 : decode cX11_gainOf 11 = .ok (.iload_n 2, 1) := by decide +kernel
theorem dX11_gainOf_12 : decode cX11_gainOf 12 = .ok (.imul, 1) := by decide +kernel
theorem dX11_gainOf_13 : decode cX11_gainOf 13 = .ok (.isub, 1) := by decide +kernel
theorem dX11_gainOf_14 : decode cX11_gainOf 14 = .ok (.ireturn, 1) := by decide +kernel
theorem dX11_horsehair_0 : decode cX11_horsehair 0 = .ok (.iload_n 1, 1) := by decide +kernel
theorem dX11_horsehair_1 : decode cX11_horsehair 1 = .ok (.invokestatic 324, 3) := by decide +kernel
theorem dX11_horsehair_4 : decode cX11_horsehair 4 = .ok (.ifCond .eq 29, 3) := by decide +kernel
theorem dX11_horsehair_7 : decode cX11_horsehair 7 = .ok (.iload_n 2, 1) := by decide +kernel
theorem dX11_horsehair_8 : decode cX11_horsehair 8 = .ok (.invokestatic 324, 3) := by decide +kernel
theorem dX11_horsehair_11 : decode cX11_horsehair 11 = .ok (.ifCond .eq 22, 3) := by decide +kernel
theorem dX11_horsehair_14 : decode cX11_horsehair 14 = .ok (.iload_n 3, 1) := by decide +kernel
theorem dX11_horsehair_15 : decode cX11_horsehair 15 = .ok (.invokestatic 324, 3) := by decide +kernel
theorem dX11_horsehair_18 : decode cX11_horsehair 18 = .ok (.ifCond .eq 15, 3) := by decide +kernel
theorem dX11_horsehair_21 : decode cX11_horsehair 21 = .ok (.iload 4, 2) := by decide +kernel
theorem dX11_horsehair_23 : decode cX11_horsehair 23 = .ok (.iconst 1, 1) := by decide +kernel
theorem dX11_horsehair_24 : decode cX11_horsehair 24 = .ok (.if_icmp .lt 9, 3) := by decide +kernel
theorem dX11_horsehair_27 : decode cX11_horsehair 27 = .ok (.iload 4, 2) := by decide +kernel
theorem dX11_horsehair_29 : decode cX11_horsehair 29 = .ok (.iconst 3, 1) := by decide +kernel
theorem dX11_horsehair_30 : decode cX11_horsehair 30 = .ok (.if_icmp .le 14, 3) := by decide +kernel
theorem dX11_horsehair_33 : decode cX11_horsehair 33 = .ok (.new 307, 3) := by decide +kernel
theorem dX11_horsehair_36 : decode cX11_horsehair 36 = .ok (.dup, 1) := by decide +kernel
theorem dX11_horsehair_37 : decode cX11_horsehair 37 = .ok (.ldc_w 327, 3) := by decide +kernel
theorem dX11_horsehair_40 : decode cX11_horsehair 40 = .ok (.invokespecial 311, 3) := by decide +kernel
theorem dX11_horsehair_43 : decode cX11_horsehair 43 = .ok (.athrow, 1) := by decide +kernel
theorem dX11_horsehair_44 : decode cX11_horsehair 44 = .ok (.iload_n 1, 1) := by decide +kernel
theorem dX11_horsehair_45 : decode cX11_horsehair 45 = .ok (.i2l, 1) := by decide +kernel
theorem dX11_horsehair_46 : decode cX11_horsehair 46 = .ok (.lstore 5, 2) := by decide +kernel
theorem dX11_horsehair_48 : decode cX11_horsehair 48 = .ok (.bipush 100, 2) := by decide +kernel
theorem dX11_horsehair_50 : decode cX11_horsehair 50 = .ok (.iload_n 1, 1) := by decide +kernel
theorem dX11_horsehair_51 : decode cX11_horsehair 51 = .ok (.isub, 1) := by decide +kernel
theorem dX11_horsehair_52 : decode cX11_horsehair 52 = .ok (.i2l, 1) := by decide +kernel
theorem dX11_horsehair_53 : decode cX11_horsehair 53 = .ok (.lstore 7, 2) := by decide +kernel
theorem dX11_horsehair_55 : decode cX11_horsehair 55 = .ok (.iconst 0, 1) := by decide +kernel
theorem dX11_horsehair_56 : decode cX11_horsehair 56 = .ok (.istore 9, 2) := by decide +kernel
theorem dX11_horsehair_58 : decode cX11_horsehair 58 = .ok (.iload 9, 2) := by decide +kernel
theorem dX11_horsehair_60 : decode cX11_horsehair 60 = .ok (.iload 4, 2) := by decide +kernel
theorem dX11_horsehair_62 : decode cX11_horsehair 62 = .ok (.if_icmp .ge 23, 3) := by decide +kernel
theorem dX11_horsehair_65 : decode cX11_horsehair 65 = .ok (.lload 5, 2) := by decide +kernel
theorem dX11_horsehair_67 : decode cX11_horsehair 67 = .ok (.iload_n 2, 1) := by decide +kernel
theorem dX11_horsehair_68 : decode cX11_horsehair 68 = .ok (.i2l, 1) := by decide +kernel
theorem dX11_horsehair_69 : decode cX11_horsehair 69 = .ok (.lmul, 1) := by decide +kernel
theorem dX11_horsehair_70 : decode cX11_horsehair 70 = .ok (.lstore 5, 2) := by decide +kernel
theorem dX11_horsehair_72 : decode cX11_horsehair 72 = .ok (.lload 7, 2) := by decide +kernel
theorem dX11_horsehair_74 : decode cX11_horsehair 74 = .ok (.iload_n 3, 1) := by decide +kernel
theorem dX11_horsehair_75 : decode cX11_horsehair 75 = .ok (.i2l, 1) := by decide +kernel
theorem dX11_horsehair_76 : decode cX11_horsehair 76 = .ok (.lmul, 1) := by decide +kernel
theorem dX11_horsehair_77 : decode cX11_horsehair 77 = .ok (.lstore 7, 2) := by decide +kernel
theorem dX11_horsehair_79 : decode cX11_horsehair 79 = .ok (.iinc 9 1, 3) := by decide +kernel
theorem dX11_horsehair_82 : decode cX11_horsehair 82 = .ok (.goto (-24), 3) := by decide +kernel
theorem dX11_horsehair_85 : decode cX11_horsehair 85 = .ok (.lload 5, 2) := by decide +kernel
theorem dX11_horsehair_87 : decode cX11_horsehair 87 = .ok (.lload 7, 2) := by decide +kernel
theorem dX11_horsehair_89 : decode cX11_horsehair 89 = .ok (.ladd, 1) := by decide +kernel
theorem dX11_horsehair_90 : decode cX11_horsehair 90 = .ok (.lstore 9, 2) := by decide +kernel
theorem dX11_horsehair_92 : decode cX11_horsehair 92 = .ok (.lload 9, 2) := by decide +kernel
theorem dX11_horsehair_94 : decode cX11_horsehair 94 = .ok (.lconst 0, 1) := by decide +kernel
theorem dX11_horsehair_95 : decode cX11_horsehair 95 = .ok (.lcmp, 1) := by decide +kernel
theorem dX11_horsehair_96 : decode cX11_horsehair 96 = .ok (.ifCond .gt 14, 3) := by decide +kernel
theorem dX11_horsehair_99 : decode cX11_horsehair 99 = .ok (.new 307, 3) := by decide +kernel
theorem dX11_horsehair_102 : decode cX11_horsehair 102 = .ok (.dup, 1) := by decide +kernel
theorem dX11_horsehair_103 : decode cX11_horsehair 103 = .ok (.ldc_w 329, 3) := by decide +kernel
theorem dX11_horsehair_106 : decode cX11_horsehair 106 = .ok (.invokespecial 311, 3) := by decide +kernel
theorem dX11_horsehair_109 : decode cX11_horsehair 109 = .ok (.athrow, 1) := by decide +kernel
theorem dX11_horsehair_110 : decode cX11_horsehair 110 = .ok (.lload 5, 2) := by decide +kernel
theorem dX11_horsehair_112 : decode cX11_horsehair 112 = .ok (.ldc2_w 331, 3) := by decide +kernel
theorem dX11_horsehair_115 : decode cX11_horsehair 115 = .ok (.lmul, 1) := by decide +kernel
theorem dX11_horsehair_116 : decode cX11_horsehair 116 = .ok (.lload 9, 2) := by decide +kernel
theorem dX11_horsehair_118 : decode cX11_horsehair 118 = .ok (.ldiv, 1) := by decide +kernel
theorem dX11_horsehair_119 : decode cX11_horsehair 119 = .ok (.l2i, 1) := by decide +kernel
theorem dX11_horsehair_120 : decode cX11_horsehair 120 = .ok (.ireturn, 1) := by decide +kernel
theorem dX11_isOfHundred_0 : decode cX11_isOfHundred 0 = .ok (.iload_n 0, 1) := by decide +kernel
theorem dX11_isOfHundred_1 : decode cX11_isOfHundred 1 = .ok (.ifCond .lt 13, 3) := by decide +kernel
theorem dX11_isOfHundred_4 : decode cX11_isOfHundred 4 = .ok (.iload_n 0, 1) := by decide +kernel
theorem dX11_isOfHundred_5 : decode cX11_isOfHundred 5 = .ok (.bipush 100, 2) := by decide +kernel
theorem dX11_isOfHundred_7 : decode cX11_isOfHundred 7 = .ok (.if_icmp .gt 7, 3) := by decide +kernel
theorem dX11_isOfHundred_10 : decode cX11_isOfHundred 10 = .ok (.iconst 1, 1) := by decide +kernel
theorem dX11_isOfHundred_11 : decode cX11_isOfHundred 11 = .ok (.goto 4, 3) := by decide +kernel
theorem dX11_isOfHundred_14 : decode cX11_isOfHundred 14 = .ok (.iconst 0, 1) := by decide +kernel
theorem dX11_isOfHundred_15 : decode cX11_isOfHundred 15 = .ok (.ireturn, 1) := by decide +kernel
theorem dX11_centuries_0 : decode cX11_centuries 0 = .ok (.iload_n 1, 1) := by decide +kernel
theorem dX11_centuries_1 : decode cX11_centuries 1 = .ok (.ifCond .lt 30, 3) := by decide +kernel
theorem dX11_centuries_4 : decode cX11_centuries 4 = .ok (.iload_n 1, 1) := by decide +kernel
theorem dX11_centuries_5 : decode cX11_centuries 5 = .ok (.sipush 9999, 3) := by decide +kernel
theorem dX11_centuries_8 : decode cX11_centuries 8 = .ok (.if_icmp .gt 23, 3) := by decide +kernel
theorem dX11_centuries_11 : decode cX11_centuries 11 = .ok (.iload_n 2, 1) := by decide +kernel
theorem dX11_centuries_12 : decode cX11_centuries 12 = .ok (.iconst 1, 1) := by decide +kernel
theorem dX11_centuries_13 : decode cX11_centuries 13 = .ok (.if_icmp .lt 18, 3) := by decide +kernel
theorem dX11_centuries_16 : decode cX11_centuries 16 = .ok (.iload_n 2, 1) := by decide +kernel
theorem dX11_centuries_17 : decode cX11_centuries 17 = .ok (.bipush 99, 2) := by decide +kernel
theorem dX11_centuries_19 : decode cX11_centuries 19 = .ok (.if_icmp .gt 12, 3) := by decide +kernel
theorem dX11_centuries_22 : decode cX11_centuries 22 = .ok (.iload_n 3, 1) := by decide +kernel
theorem dX11_centuries_23 : decode cX11_centuries 23 = .ok (.ifCond .lt 8, 3) := by decide +kernel
theorem dX11_centuries_26 : decode cX11_centuries 26 = .ok (.iload_n 3, 1) := by decide +kernel
theorem dX11_centuries_27 : decode cX11_centuries 27 = .ok (.iconst 2, 1) := by decide +kernel
theorem dX11_centuries_28 : decode cX11_centuries 28 = .ok (.if_icmp .le 5, 3) := by decide +kernel
theorem dX11_centuries_31 : decode cX11_centuries 31 = .ok (.iconst (-1), 1) := by decide +kernel
theorem dX11_centuries_32 : decode cX11_centuries 32 = .ok (.ireturn, 1) := by decide +kernel
theorem dX11_centuries_33 : decode cX11_centuries 33 = .ok (.aload_n 0, 1) := by decide +kernel
theorem dX11_centuries_34 : decode cX11_centuries 34 = .ok (.getfield 60, 3) := by decide +kernel
theorem dX11_centuries_37 : decode cX11_centuries 37 = .ok (.aload_n 0, 1) := by decide +kernel
theorem dX11_centuries_38 : decode cX11_centuries 38 = .ok (.getfield 28, 3) := by decide +kernel
theorem dX11_centuries_41 : decode cX11_centuries 41 = .ok (.getfield 126, 3) := by decide +kernel
theorem dX11_centuries_44 : decode cX11_centuries 44 = .ok (.invokevirtual 191, 3) := by decide +kernel
theorem dX11_centuries_47 : decode cX11_centuries 47 = .ok (.aload_n 0, 1) := by decide +kernel
theorem dX11_centuries_48 : decode cX11_centuries 48 = .ok (.iload_n 1, 1) := by decide +kernel
theorem dX11_centuries_49 : decode cX11_centuries 49 = .ok (.i2l, 1) := by decide +kernel
theorem dX11_centuries_50 : decode cX11_centuries 50 = .ok (.putfield 333, 3) := by decide +kernel
theorem dX11_centuries_53 : decode cX11_centuries 53 = .ok (.iconst 0, 1) := by decide +kernel
theorem dX11_centuries_54 : decode cX11_centuries 54 = .ok (.istore 4, 2) := by decide +kernel
theorem dX11_centuries_56 : decode cX11_centuries 56 = .ok (.iconst 0, 1) := by decide +kernel
theorem dX11_centuries_57 : decode cX11_centuries 57 = .ok (.istore 5, 2) := by decide +kernel
theorem dX11_centuries_59 : decode cX11_centuries 59 = .ok (.iconst 0, 1) := by decide +kernel
theorem dX11_centuries_60 : decode cX11_centuries 60 = .ok (.istore 6, 2) := by decide +kernel
theorem dX11_centuries_62 : decode cX11_centuries 62 = .ok (.iload 6, 2) := by decide +kernel
theorem dX11_centuries_64 : decode cX11_centuries 64 = .ok (.iload_n 2, 1) := by decide +kernel
theorem dX11_centuries_65 : decode cX11_centuries 65 = .ok (.if_icmp .ge 56, 3) := by decide +kernel
theorem dX11_centuries_68 : decode cX11_centuries 68 = .ok (.aload_n 0, 1) := by decide +kernel
theorem dX11_centuries_69 : decode cX11_centuries 69 = .ok (.invokevirtual 337, 3) := by decide +kernel
theorem dX11_centuries_72 : decode cX11_centuries 72 = .ok (.aload_n 0, 1) := by decide +kernel
theorem dX11_centuries_73 : decode cX11_centuries 73 = .ok (.invokevirtual 340, 3) := by decide +kernel
theorem dX11_centuries_76 : decode cX11_centuries 76 = .ok (.iload 5, 2) := by decide +kernel
theorem dX11_centuries_78 : decode cX11_centuries 78 = .ok (.aload_n 0, 1) := by decide +kernel
theorem dX11_centuries_79 : decode cX11_centuries 79 = .ok (.getfield 60, 3) := by decide +kernel
theorem dX11_centuries_82 : decode cX11_centuries 82 = .ok (.aload_n 0, 1) := by decide +kernel
theorem dX11_centuries_83 : decode cX11_centuries 83 = .ok (.getfield 45, 3) := by decide +kernel
theorem dX11_centuries_86 : decode cX11_centuries 86 = .ok (.invokevirtual 180, 3) := by decide +kernel
theorem dX11_centuries_89 : decode cX11_centuries 89 = .ok (.iadd, 1) := by decide +kernel
theorem dX11_centuries_90 : decode cX11_centuries 90 = .ok (.istore 5, 2) := by decide +kernel
theorem dX11_centuries_92 : decode cX11_centuries 92 = .ok (.iload 4, 2) := by decide +kernel
theorem dX11_centuries_94 : decode cX11_centuries 94 = .ok (.aload_n 0, 1) := by decide +kernel
theorem dX11_centuries_95 : decode cX11_centuries 95 = .ok (.getfield 45, 3) := by decide +kernel
theorem dX11_centuries_98 : decode cX11_centuries 98 = .ok (.aload_n 0, 1) := by decide +kernel
theorem dX11_centuries_99 : decode cX11_centuries 99 = .ok (.getfield 60, 3) := by decide +kernel
theorem dX11_centuries_102 : decode cX11_centuries 102 = .ok (.aload_n 0, 1) := by decide +kernel
theorem dX11_centuries_103 : decode cX11_centuries 103 = .ok (.getfield 45, 3) := by decide +kernel
theorem dX11_centuries_106 : decode cX11_centuries 106 = .ok (.invokevirtual 205, 3) := by decide +kernel
theorem dX11_centuries_109 : decode cX11_centuries 109 = .ok (.invokevirtual 208, 3) := by decide +kernel
theorem dX11_centuries_112 : decode cX11_centuries 112 = .ok (.iadd, 1) := by decide +kernel
theorem dX11_centuries_113 : decode cX11_centuries 113 = .ok (.istore 4, 2) := by decide +kernel
theorem dX11_centuries_115 : decode cX11_centuries 115 = .ok (.iinc 6 1, 3) := by decide +kernel
theorem dX11_centuries_118 : decode cX11_centuries 118 = .ok (.goto (-56), 3) := by decide +kernel
theorem dX11_centuries_121 : decode cX11_centuries 121 = .ok (.iload_n 3, 1) := by decide +kernel
theorem dX11_centuries_122 : decode cX11_centuries 122 = .ok (.ifCond .ne 8, 3) := by decide +kernel
theorem dX11_centuries_125 : decode cX11_centuries 125 = .ok (.iload 4, 2) := by decide +kernel
theorem dX11_centuries_127 : decode cX11_centuries 127 = .ok (.goto 24, 3) := by decide +kernel
theorem dX11_centuries_130 : decode cX11_centuries 130 = .ok (.iload_n 3, 1) := by decide +kernel
theorem dX11_centuries_131 : decode cX11_centuries 131 = .ok (.iconst 1, 1) := by decide +kernel
theorem dX11_centuries_132 : decode cX11_centuries 132 = .ok (.if_icmp .ne 8, 3) := by decide +kernel
theorem dX11_centuries_135 : decode cX11_centuries 135 = .ok (.iload 5, 2) := by decide +kernel
theorem dX11_centuries_137 : decode cX11_centuries 137 = .ok (.goto 14, 3) := by decide +kernel
theorem dX11_centuries_140 : decode cX11_centuries 140 = .ok (.aload_n 0, 1) := by decide +kernel
theorem dX11_centuries_141 : decode cX11_centuries 141 = .ok (.getfield 60, 3) := by decide +kernel
theorem dX11_centuries_144 : decode cX11_centuries 144 = .ok (.aload_n 0, 1) := by decide +kernel
theorem dX11_centuries_145 : decode cX11_centuries 145 = .ok (.getfield 45, 3) := by decide +kernel
theorem dX11_centuries_148 : decode cX11_centuries 148 = .ok (.invokevirtual 343, 3) := by decide +kernel
theorem dX11_centuries_151 : decode cX11_centuries 151 = .ok (.ireturn, 1) := by decide +kernel
theorem dX11_drawPut_0 : decode cX11_drawPut 0 = .ok (.aload_n 0, 1) := by decide +kernel
theorem dX11_drawPut_1 : decode cX11_drawPut 1 = .ok (.getfield 45, 3) := by decide +kernel
theorem dX11_drawPut_4 : decode cX11_drawPut 4 = .ok (.getfield 217, 3) := by decide +kernel
theorem dX11_drawPut_7 : decode cX11_drawPut 7 = .ok (.ifCond .le 62, 3) := by decide +kernel
theorem dX11_drawPut_10 : decode cX11_drawPut 10 = .ok (.aload_n 0, 1) := by decide +kernel
theorem dX11_drawPut_11 : decode cX11_drawPut 11 = .ok (.getfield 45, 3) := by decide +kernel
theorem dX11_drawPut_14 : decode cX11_drawPut 14 = .ok (.getfield 240, 3) := by decide +kernel
theorem dX11_drawPut_17 : decode cX11_drawPut 17 = .ok (.ifCond .le 52, 3) := by decide +kernel
theorem dX11_drawPut_20 : decode cX11_drawPut 20 = .ok (.aload_n 0, 1) := by decide +kernel
theorem dX11_drawPut_21 : decode cX11_drawPut 21 = .ok (.aload_n 0, 1) := by decide +kernel
theorem dX11_drawPut_22 : decode cX11_drawPut 22 = .ok (.getfield 45, 3) := by decide +kernel
theorem dX11_drawPut_25 : decode cX11_drawPut 25 = .ok (.getfield 217, 3) := by decide +kernel
theorem dX11_drawPut_28 : decode cX11_drawPut 28 = .ok (.invokevirtual 346, 3) := by decide +kernel
theorem dX11_drawPut_31 : decode cX11_drawPut 31 = .ok (.istore_n 1, 1) := by decide +kernel
theorem dX11_drawPut_32 : decode cX11_drawPut 32 = .ok (.aload_n 0, 1) := by decide +kernel
theorem dX11_drawPut_33 : decode cX11_drawPut 33 = .ok (.aload_n 0, 1) := by decide +kernel
theorem dX11_drawPut_34 : decode cX11_drawPut 34 = .ok (.getfield 45, 3) := by decide +kernel
theorem dX11_drawPut_37 : decode cX11_drawPut 37 = .ok (.getfield 240, 3) := by decide +kernel
theorem dX11_drawPut_40 : decode cX11_drawPut 40 = .ok (.invokevirtual 346, 3) := by decide +kernel
theorem dX11_drawPut_43 : decode cX11_drawPut 43 = .ok (.istore_n 2, 1) := by decide +kernel
theorem dX11_drawPut_44 : decode cX11_drawPut 44 = .ok (.aload_n 0, 1) := by decide +kernel
theorem dX11_drawPut_45 : decode cX11_drawPut 45 = .ok (.getfield 60, 3) := by decide +kernel
theorem dX11_drawPut_48 : decode cX11_drawPut 48 = .ok (.aload_n 0, 1) := by decide +kernel
theorem dX11_drawPut_49 : decode cX11_drawPut 49 = .ok (.getfield 45, 3) := by decide +kernel
theorem dX11_drawPut_52 : decode cX11_drawPut 52 = .ok (.iload_n 1, 1) := by decide +kernel
theorem dX11_drawPut_53 : decode cX11_drawPut 53 = .ok (.iload_n 2, 1) := by decide +kernel
theorem dX11_drawPut_54 : decode cX11_drawPut 54 = .ok (.invokevirtual 155, 3) := by decide +kernel
theorem dX11_drawPut_57 : decode cX11_drawPut 57 = .ok (.ifCond .eq 12, 3) := by decide +kernel
theorem dX11_drawPut_60 : decode cX11_drawPut 60 = .ok (.aload_n 0, 1) := by decide +kernel
theorem dX11_drawPut_61 : decode cX11_drawPut 61 = .ok (.getfield 60, 3) := by decide +kernel
theorem dX11_drawPut_64 : decode cX11_drawPut 64 = .ok (.iload_n 1, 1) := by decide +kernel
theorem dX11_drawPut_65 : decode cX11_drawPut 65 = .ok (.iload_n 2, 1) := by decide +kernel
theorem dX11_drawPut_66 : decode cX11_drawPut 66 = .ok (.invokevirtual 162, 3) := by decide +kernel
theorem dX11_drawPut_69 : decode cX11_drawPut 69 = .ok (.return_, 1) := by decide +kernel
theorem dX11_drawFever_0 : decode cX11_drawFever 0 = .ok (.aload_n 0, 1) := by decide +kernel
theorem dX11_drawFever_1 : decode cX11_drawFever 1 = .ok (.iconst 5, 1) := by decide +kernel
theorem dX11_drawFever_2 : decode cX11_drawFever 2 = .ok (.invokevirtual 346, 3) := by decide +kernel
theorem dX11_drawFever_5 : decode cX11_drawFever 5 = .ok (.ifCond .eq 4, 3) := by decide +kernel
theorem dX11_drawFever_8 : decode cX11_drawFever 8 = .ok (.return_, 1) := by decide +kernel
theorem dX11_drawFever_9 : decode cX11_drawFever 9 = .ok (.iconst 0, 1) := by decide +kernel
theorem dX11_drawFever_10 : decode cX11_drawFever 10 = .ok (.istore_n 1, 1) := by decide +kernel
theorem dX11_drawFever_11 : decode cX11_drawFever 11 = .ok (.iload_n 1, 1) := by decide +kernel
theorem dX11_drawFever_12 : decode cX11_drawFever 12 = .ok (.aload_n 0, 1) := by decide +kernel
theorem dX11_drawFever_13 : decode cX11_drawFever 13 = .ok (.getfield 45, 3) := by decide +kernel
theorem dX11_drawFever_16 : decode cX11_drawFever 16 = .ok (.getfield 240, 3) := by decide +kernel
theorem dX11_drawFever_19 : decode cX11_drawFever 19 = .ok (.if_icmp .ge 33, 3) := by decide +kernel
theorem dX11_drawFever_22 : decode cX11_drawFever 22 = .ok (.aload_n 0, 1) := by decide +kernel
theorem dX11_drawFever_23 : decode cX11_drawFever 23 = .ok (.getfield 60, 3) := by decide +kernel
theorem dX11_drawFever_26 : decode cX11_drawFever 26 = .ok (.iload_n 1, 1) := by decide +kernel
theorem dX11_drawFever_27 : decode cX11_drawFever 27 = .ok (.invokevirtual 148, 3) := by decide +kernel
theorem dX11_drawFever_30 : decode cX11_drawFever 30 = .ok (.istore_n 2, 1) := by decide +kernel
theorem dX11_drawFever_31 : decode cX11_drawFever 31 = .ok (.iload_n 2, 1) := by decide +kernel
theorem dX11_drawFever_32 : decode cX11_drawFever 32 = .ok (.iconst (-1), 1) := by decide +kernel
theorem dX11_drawFever_33 : decode cX11_drawFever 33 = .ok (.if_icmp .eq 13, 3) := by decide +kernel
theorem dX11_drawFever_36 : decode cX11_drawFever 36 = .ok (.aload_n 0, 1) := by decide +kernel
theorem dX11_drawFever_37 : decode cX11_drawFever 37 = .ok (.getfield 60, 3) := by decide +kernel
theorem dX11_drawFever_40 : decode cX11_drawFever 40 = .ok (.iload_n 2, 1) := by decide +kernel
theorem dX11_drawFever_41 : decode cX11_drawFever 41 = .ok (.iconst (-1), 1) := by decide +kernel
theorem dX11_drawFever_42 : decode cX11_drawFever 42 = .ok (.invokevirtual 162, 3) := by decide +kernel
theorem dX11_drawFever_45 : decode cX11_drawFever 45 = .ok (.return_, 1) := by decide +kernel
theorem dX11_drawFever_46 : decode cX11_drawFever 46 = .ok (.iinc 1 1, 3) := by decide +kernel
theorem dX11_drawFever_49 : decode cX11_drawFever 49 = .ok (.goto (-38), 3) := by decide +kernel
theorem dX11_drawFever_52 : decode cX11_drawFever 52 = .ok (.return_, 1) := by decide +kernel
theorem dX11_draw_0 : decode cX11_draw 0 = .ok (.aload_n 0, 1) := by decide +kernel
theorem dX11_draw_1 : decode cX11_draw 1 = .ok (.aload_n 0, 1) := by decide +kernel
theorem dX11_draw_2 : decode cX11_draw 2 = .ok (.getfield 333, 3) := by decide +kernel
theorem dX11_draw_5 : decode cX11_draw 5 = .ok (.ldc2_w 349, 3) := by decide +kernel
theorem dX11_draw_8 : decode cX11_draw 8 = .ok (.lmul, 1) := by decide +kernel
theorem dX11_draw_9 : decode cX11_draw 9 = .ok (.ldc2_w 351, 3) := by decide +kernel
theorem dX11_draw_12 : decode cX11_draw 12 = .ok (.ladd, 1) := by decide +kernel
theorem dX11_draw_13 : decode cX11_draw 13 = .ok (.ldc2_w 353, 3) := by decide +kernel
theorem dX11_draw_16 : decode cX11_draw 16 = .ok (.lrem, 1) := by decide +kernel
theorem dX11_draw_17 : decode cX11_draw 17 = .ok (.putfield 333, 3) := by decide +kernel
theorem dX11_draw_20 : decode cX11_draw 20 = .ok (.iload_n 1, 1) := by decide +kernel
theorem dX11_draw_21 : decode cX11_draw 21 = .ok (.ifCond .le 18, 3) := by decide +kernel
theorem dX11_draw_24 : decode cX11_draw 24 = .ok (.aload_n 0, 1) := by decide +kernel
theorem dX11_draw_25 : decode cX11_draw 25 = .ok (.getfield 333, 3) := by decide +kernel
theorem dX11_draw_28 : decode cX11_draw 28 = .ok (.ldc2_w 355, 3) := by decide +kernel
theorem dX11_draw_31 : decode cX11_draw 31 = .ok (.ldiv, 1) := by decide +kernel
theorem dX11_draw_32 : decode cX11_draw 32 = .ok (.iload_n 1, 1) := by decide +kernel
theorem dX11_draw_33 : decode cX11_draw 33 = .ok (.i2l, 1) := by decide +kernel
theorem dX11_draw_34 : decode cX11_draw 34 = .ok (.lrem, 1) := by decide +kernel
theorem dX11_draw_35 : decode cX11_draw 35 = .ok (.l2i, 1) := by decide +kernel
theorem dX11_draw_36 : decode cX11_draw 36 = .ok (.goto 4, 3) := by decide +kernel
theorem dX11_draw_39 : decode cX11_draw 39 = .ok (.iconst 0, 1) := by decide +kernel
theorem dX11_draw_40 : decode cX11_draw 40 = .ok (.ireturn, 1) := by decide +kernel
theorem dX11_mark_0 : decode cX11_mark 0 = .ok (.iload_n 1, 1) := by decide +kernel
theorem dX11_mark_1 : decode cX11_mark 1 = .ok (.ifCond .lt 24, 3) := by decide +kernel
theorem dX11_mark_4 : decode cX11_mark 4 = .ok (.iload_n 1, 1) := by decide +kernel
theorem dX11_mark_5 : decode cX11_mark 5 = .ok (.iconst 4, 1) := by decide +kernel
theorem dX11_mark_6 : decode cX11_mark 6 = .ok (.if_icmp .ge 19, 3) := by decide +kernel
theorem dX11_mark_9 : decode cX11_mark 9 = .ok (.iload_n 2, 1) := by decide +kernel
theorem dX11_mark_10 : decode cX11_mark 10 = .ok (.ifCond .eq 17, 3) := by decide +kernel
theorem dX11_mark_13 : decode cX11_mark 13 = .ok (.aload_n 0, 1) := by decide +kernel
theorem dX11_mark_14 : decode cX11_mark 14 = .ok (.getfield 32, 3) := by decide +kernel
theorem dX11_mark_17 : decode cX11_mark 17 = .ok (.iload_n 1, 1) := by decide +kernel
theorem dX11_mark_18 : decode cX11_mark 18 = .ok (.aaload, 1) := by decide +kernel
theorem dX11_mark_19 : decode cX11_mark 19 = .ok (.getfield 97, 3) := by decide +kernel
theorem dX11_mark_22 : decode cX11_mark 22 = .ok (.ifCond .ne 5, 3) := by decide +kernel
theorem dX11_mark_25 : decode cX11_mark 25 = .ok (.iconst 0, 1) := by decide +kernel
theorem dX11_mark_26 : decode cX11_mark 26 = .ok (.ireturn, 1) := by decide +kernel
theorem dX11_mark_27 : decode cX11_mark 27 = .ok (.iload_n 2, 1) := by decide +kernel
theorem dX11_mark_28 : decode cX11_mark 28 = .ok (.ifCond .eq 24, 3) := by decide +kernel
theorem dX11_mark_31 : decode cX11_mark 31 = .ok (.aload_n 0, 1) := by decide +kernel
theorem dX11_mark_32 : decode cX11_mark 32 = .ok (.getfield 28, 3) := by decide +kernel
theorem dX11_mark_35 : decode cX11_mark 35 = .ok (.aload_n 0, 1) := by decide +kernel
theorem dX11_mark_36 : decode cX11_mark 36 = .ok (.getfield 32, 3) := by decide +kernel
theorem dX11_mark_39 : decode cX11_mark 39 = .ok (.iload_n 1, 1) := by decide +kernel
theorem dX11_mark_40 : decode cX11_mark 40 = .ok (.aaload, 1) := by decide +kernel
theorem dX11_mark_41 : decode cX11_mark 41 = .ok (.invokevirtual 357, 3) := by decide +kernel
theorem dX11_mark_44 : decode cX11_mark 44 = .ok (.aload_n 0, 1) := by decide +kernel
theorem dX11_mark_45 : decode cX11_mark 45 = .ok (.iconst 0, 1) := by decide +kernel
theorem dX11_mark_46 : decode cX11_mark 46 = .ok (.putfield 94, 3) := by decide +kernel
theorem dX11_mark_49 : decode cX11_mark 49 = .ok (.goto 26, 3) := by decide +kernel
theorem dX11_mark_52 : decode cX11_mark 52 = .ok (.aload_n 0, 1) := by decide +kernel
theorem dX11_mark_53 : decode cX11_mark 53 = .ok (.getfield 32, 3) := by decide +kernel
theorem dX11_mark_56 : decode cX11_mark 56 = .ok (.iload_n 1, 1) := by decide +kernel
theorem dX11_mark_57 : decode cX11_mark 57 = .ok (.aaload, 1) := by decide +kernel
theorem dX11_mark_58 : decode cX11_mark 58 = .ok (.aload_n 0, 1) := by decide +kernel
theorem dX11_mark_59 : decode cX11_mark 59 = .ok (.getfield 28, 3) := by decide +kernel
theorem dX11_mark_62 : decode cX11_mark 62 = .ok (.invokevirtual 357, 3) := by decide +kernel
theorem dX11_mark_65 : decode cX11_mark 65 = .ok (.aload_n 0, 1) := by decide +kernel
theorem dX11_mark_66 : decode cX11_mark 66 = .ok (.getfield 32, 3) := by decide +kernel
theorem dX11_mark_69 : decode cX11_mark 69 = .ok (.iload_n 1, 1) := by decide +kernel
theorem dX11_mark_70 : decode cX11_mark 70 = .ok (.aaload, 1) := by decide +kernel
theorem dX11_mark_71 : decode cX11_mark 71 = .ok (.iconst 1, 1) := by decide +kernel
theorem dX11_mark_72 : decode cX11_mark 72 = .ok (.putfield 97, 3) := by decide +kernel
theorem dX11_mark_75 : decode cX11_mark 75 = .ok (.iconst 1, 1) := by decide +kernel
theorem dX11_mark_76 : decode cX11_mark 76 = .ok (.ireturn, 1) := by decide +kernel
theorem dX11_count_0 : decode cX11_count 0 = .ok (.iload_n 1, 1) := by decide +kernel
theorem dX11_count_1 : decode cX11_count 1 = .ok (.tableswitch 215 0 12 #[67, 75, 83, 91, 102, 120, 135, 150, 172, 183, 194, 202, 207], 67) := by decide +kernel
theorem dX11_count_68 : decode cX11_count 68 = .ok (.aload_n 0, 1) := by decide +kernel
theorem dX11_count_69 : decode cX11_count 69 = .ok (.getfield 45, 3) := by decide +kernel
theorem dX11_count_72 : decode cX11_count 72 = .ok (.getfield 217, 3) := by decide +kernel
theorem dX11_count_75 : decode cX11_count 75 = .ok (.ireturn, 1) := by decide +kernel
theorem dX11_count_76 : decode cX11_count 76 = .ok (.aload_n 0, 1) := by decide +kernel
theorem dX11_count_77 : decode cX11_count 77 = .ok (.getfield 45, 3) := by decide +kernel
theorem dX11_count_80 : decode cX11_count 80 = .ok (.getfield 240, 3) := by decide +kernel
theorem dX11_count_83 : decode cX11_count 83 = .ok (.ireturn, 1) := by decide +kernel
theorem dX11_count_84 : decode cX11_count 84 = .ok (.aload_n 0, 1) := by decide +kernel
theorem dX11_count_85 : decode cX11_count 85 = .ok (.getfield 45, 3) := by decide +kernel
theorem dX11_count_88 : decode cX11_count 88 = .ok (.getfield 273, 3) := by decide +kernel
theorem dX11_count_91 : decode cX11_count 91 = .ok (.ireturn, 1) := by decide +kernel
theorem dX11_count_92 : decode cX11_count 92 = .ok (.aload_n 0, 1) := by decide +kernel
theorem dX11_count_93 : decode cX11_count 93 = .ok (.getfield 28, 3) := by decide +kernel
theorem dX11_count_96 : decode cX11_count 96 = .ok (.getfield 126, 3) := by decide +kernel
theorem dX11_count_99 : decode cX11_count 99 = .ok (.getfield 142, 3) := by decide +kernel
theorem dX11_count_102 : decode cX11_count 102 = .ok (.ireturn, 1) := by decide +kernel
theorem dX11_count_103 : decode cX11_count 103 = .ok (.aload_n 0, 1) := by decide +kernel
theorem dX11_count_104 : decode cX11_count 104 = .ok (.getfield 45, 3) := by decide +kernel
theorem dX11_count_107 : decode cX11_count 107 = .ok (.aload_n 0, 1) := by decide +kernel
theorem dX11_count_108 : decode cX11_count 108 = .ok (.getfield 28, 3) := by decide +kernel
theorem dX11_count_111 : decode cX11_count 111 = .ok (.getfield 126, 3) := by decide +kernel
theorem dX11_count_114 : decode cX11_count 114 = .ok (.getfield 142, 3) := by decide +kernel
theorem dX11_count_117 : decode cX11_count 117 = .ok (.invokevirtual 360, 3) := by decide +kernel
theorem dX11_count_120 : decode cX11_count 120 = .ok (.ireturn, 1) := by decide +kernel
theorem dX11_count_121 : decode cX11_count 121 = .ok (.aload_n 0, 1) := by decide +kernel
theorem dX11_count_122 : decode cX11_count 122 = .ok (.getfield 28, 3) := by decide +kernel
theorem dX11_count_125 : decode cX11_count 125 = .ok (.getfield 126, 3) := by decide +kernel
theorem dX11_count_128 : decode cX11_count 128 = .ok (.aload_n 0, 1) := by decide +kernel
theorem dX11_count_129 : decode cX11_count 129 = .ok (.getfield 45, 3) := by decide +kernel
theorem dX11_count_132 : decode cX11_count 132 = .ok (.invokevirtual 205, 3) := by decide +kernel
theorem dX11_count_135 : decode cX11_count 135 = .ok (.ireturn, 1) := by decide +kernel
theorem dX11_count_136 : decode cX11_count 136 = .ok (.aload_n 0, 1) := by decide +kernel
theorem dX11_count_137 : decode cX11_count 137 = .ok (.getfield 28, 3) := by decide +kernel
theorem dX11_count_140 : decode cX11_count 140 = .ok (.getfield 126, 3) := by decide +kernel
theorem dX11_count_143 : decode cX11_count 143 = .ok (.aload_n 0, 1) := by decide +kernel
theorem dX11_count_144 : decode cX11_count 144 = .ok (.getfield 45, 3) := by decide +kernel
theorem dX11_count_147 : decode cX11_count 147 = .ok (.invokevirtual 227, 3) := by decide +kernel
theorem dX11_count_150 : decode cX11_count 150 = .ok (.ireturn, 1) := by decide +kernel
theorem dX11_count_151 : decode cX11_count 151 = .ok (.aload_n 0, 1) := by decide +kernel
theorem dX11_count_152 : decode cX11_count 152 = .ok (.getfield 45, 3) := by decide +kernel
theorem dX11_count_155 : decode cX11_count 155 = .ok (.aload_n 0, 1) := by decide +kernel
theorem dX11_count_156 : decode cX11_count 156 = .ok (.getfield 28, 3) := by decide +kernel
theorem dX11_count_159 : decode cX11_count 159 = .ok (.getfield 126, 3) := by decide +kernel
theorem dX11_count_162 : decode cX11_count 162 = .ok (.aload_n 0, 1) := by decide +kernel
theorem dX11_count_163 : decode cX11_count 163 = .ok (.getfield 45, 3) := by decide +kernel
theorem dX11_count_166 : decode cX11_count 166 = .ok (.invokevirtual 205, 3) := by decide +kernel
theorem dX11_count_169 : decode cX11_count 169 = .ok (.invokevirtual 208, 3) := by decide +kernel
theorem dX11_count_172 : decode cX11_count 172 = .ok (.ireturn, 1) := by decide +kernel
theorem dX11_count_173 : decode cX11_count 173 = .ok (.aload_n 0, 1) := by decide +kernel
theorem dX11_count_174 : decode cX11_count 174 = .ok (.getfield 28, 3) := by decide +kernel
theorem dX11_count_177 : decode cX11_count 177 = .ok (.getfield 105, 3) := by decide +kernel
theorem dX11_count_180 : decode cX11_count 180 = .ok (.getfield 198, 3) := by decide +kernel
theorem dX11_count_183 : decode cX11_count 183 = .ok (.ireturn, 1) := by decide +kernel
theorem dX11_count_184 : decode cX11_count 184 = .ok (.aload_n 0, 1) := by decide +kernel
theorem dX11_count_185 : decode cX11_count 185 = .ok (.getfield 28, 3) := by decide +kernel
theorem dX11_count_188 : decode cX11_count 188 = .ok (.getfield 253, 3) := by decide +kernel
theorem dX11_count_191 : decode cX11_count 191 = .ok (.getfield 363, 3) := by decide +kernel
theorem dX11_count_194 : decode cX11_count 194 = .ok (.ireturn, 1) := by decide +kernel
theorem dX11_count_195 : decode cX11_count 195 = .ok (.aload_n 0, 1) := by decide +kernel
theorem dX11_count_196 : decode cX11_count 196 = .ok (.getfield 28, 3) := by decide +kernel
theorem dX11_count_199 : decode cX11_count 199 = .ok (.invokevirtual 364, 3) := by decide +kernel
theorem dX11_count_202 : decode cX11_count 202 = .ok (.ireturn, 1) := by decide +kernel
theorem dX11_count_203 : decode cX11_count 203 = .ok (.aload_n 0, 1) := by decide +kernel
theorem dX11_count_204 : decode cX11_count 204 = .ok (.getfield 94, 3) := by decide +kernel
theorem dX11_count_207 : decode cX11_count 207 = .ok (.ireturn, 1) := by decide +kernel
theorem dX11_count_208 : decode cX11_count 208 = .ok (.aload_n 0, 1) := by decide +kernel
theorem dX11_count_209 : decode cX11_count 209 = .ok (.getfield 10, 3) := by decide +kernel
theorem dX11_count_212 : decode cX11_count 212 = .ok (.getfield 82, 3) := by decide +kernel
theorem dX11_count_215 : decode cX11_count 215 = .ok (.ireturn, 1) := by decide +kernel
theorem dX11_count_216 : decode cX11_count 216 = .ok (.iconst (-1), 1) := by decide +kernel
theorem dX11_count_217 : decode cX11_count 217 = .ok (.ireturn, 1) := by decide +kernel
theorem dX12_init_0 : decode cX12_init 0 = .ok (.aload_n 0, 1) := by decide +kernel
theorem dX12_init_1 : decode cX12_init 1 = .ok (.invokespecial 1, 3) := by decide +kernel
theorem dX12_init_4 : decode cX12_init 4 = .ok (.aload_n 0, 1) := by decide +kernel
theorem dX12_init_5 : decode cX12_init 5 = .ok (.sipush 1000, 3) := by decide +kernel
theorem dX12_init_8 : decode cX12_init 8 = .ok (.newarray .int, 2) := by decide +kernel
theorem dX12_init_10 : decode cX12_init 10 = .ok (.putfield 7, 3) := by decide +kernel
theorem dX12_init_13 : decode cX12_init 13 = .ok (.aload_n 0, 1) := by decide +kernel
theorem dX12_init_14 : decode cX12_init 14 = .ok (.bipush 8, 2) := by decide +kernel
theorem dX12_init_16 : decode cX12_init 16 = .ok (.newarray .int, 2) := by decide +kernel
theorem dX12_init_18 : decode cX12_init 18 = .ok (.putfield 13, 3) := by decide +kernel
theorem dX12_init_21 : decode cX12_init 21 = .ok (.aload_n 0, 1) := by decide +kernel
theorem dX12_init_22 : decode cX12_init 22 = .ok (.bipush 12, 2) := by decide +kernel
theorem dX12_init_24 : decode cX12_init 24 = .ok (.newarray .long, 2) := by decide +kernel
theorem dX12_init_26 : decode cX12_init 26 = .ok (.putfield 16, 3) := by decide +kernel
theorem dX12_init_29 : decode cX12_init 29 = .ok (.aload_n 0, 1) := by decide +kernel
theorem dX12_init_30 : decode cX12_init 30 = .ok (.bipush 12, 2) := by decide +kernel
theorem dX12_init_32 : decode cX12_init 32 = .ok (.newarray .long, 2) := by decide +kernel
theorem dX12_init_34 : decode cX12_init 34 = .ok (.putfield 20, 3) := by decide +kernel
theorem dX12_init_37 : decode cX12_init 37 = .ok (.aload_n 0, 1) := by decide +kernel
theorem dX12_init_38 : decode cX12_init 38 = .ok (.bipush 12, 2) := by decide +kernel
theorem dX12_init_40 : decode cX12_init 40 = .ok (.newarray .int, 2) := by decide +kernel
theorem dX12_init_42 : decode cX12_init 42 = .ok (.putfield 23, 3) := by decide +kernel
theorem dX12_init_45 : decode cX12_init 45 = .ok (.aload_n 0, 1) := by decide +kernel
theorem dX12_init_46 : decode cX12_init 46 = .ok (.bipush 12, 2) := by decide +kernel
theorem dX12_init_48 : decode cX12_init 48 = .ok (.newarray .int, 2) := by decide +kernel
theorem dX12_init_50 : decode cX12_init 50 = .ok (.putfield 26, 3) := by decide +kernel
theorem dX12_init_53 : decode cX12_init 53 = .ok (.aload_n 0, 1) := by decide +kernel
theorem dX12_init_54 : decode cX12_init 54 = .ok (.bipush 12, 2) := by decide +kernel
theorem dX12_init_56 : decode cX12_init 56 = .ok (.newarray .int, 2) := by decide +kernel
theorem dX12_init_58 : decode cX12_init 58 = .ok (.putfield 29, 3) := by decide +kernel
theorem dX12_init_61 : decode cX12_init 61 = .ok (.aload_n 0, 1) := by decide +kernel
theorem dX12_init_62 : decode cX12_init 62 = .ok (.bipush 12, 2) := by decide +kernel
theorem dX12_init_64 : decode cX12_init 64 = .ok (.newarray .int, 2) := by decide +kernel
theorem dX12_init_66 : decode cX12_init 66 = .ok (.putfield 32, 3) := by decide +kernel
theorem dX12_init_69 : decode cX12_init 69 = .ok (.aload_n 0, 1) := by decide +kernel
theorem dX12_init_70 : decode cX12_init 70 = .ok (.bipush 12, 2) := by decide +kernel
theorem dX12_init_72 : decode cX12_init 72 = .ok (.newarray .int, 2) := by decide +kernel
theorem dX12_init_74 : decode cX12_init 74 = .ok (.putfield 35, 3) := by decide +kernel
theorem dX12_init_77 : decode cX12_init 77 = .ok (.aload_n 0, 1) := by decide +kernel
theorem dX12_init_78 : decode cX12_init 78 = .ok (.bipush 12, 2) := by decide +kernel
theorem dX12_init_80 : decode cX12_init 80 = .ok (.newarray .int, 2) := by decide +kernel
theorem dX12_init_82 : decode cX12_init 82 = .ok (.putfield 38, 3) := by decide +kernel
theorem dX12_init_85 : decode cX12_init 85 = .ok (.aload_n 0, 1) := by decide +kernel
theorem dX12_init_86 : decode cX12_init 86 = .ok (.bipush 12, 2) := by decide +kernel
theorem dX12_init_88 : decode cX12_init 88 = .ok (.newarray .int, 2) := by decide +kernel
theorem dX12_init_90 : decode cX12_init 90 = .ok (.putfield 41, 3) := by decide +kernel
theorem dX12_init_93 : decode cX12_init 93 = .ok (.aload_n 0, 1) := by decide +kernel
theorem dX12_init_94 : decode cX12_init 94 = .ok (.bipush 24, 2) := by decide +kernel
theorem dX12_init_96 : decode cX12_init 96 = .ok (.newarray .int, 2) := by decide +kernel
theorem dX12_init_98 : decode cX12_init 98 = .ok (.putfield 44, 3) := by decide +kernel
theorem dX12_init_101 : decode cX12_init 101 = .ok (.aload_n 0, 1) := by decide +kernel
theorem dX12_init_102 : decode cX12_init 102 = .ok (.iconst 4, 1) := by decide +kernel
theorem dX12_init_103 : decode cX12_init 103 = .ok (.newarray .int, 2) := by decide +kernel
theorem dX12_init_105 : decode cX12_init 105 = .ok (.putfield 47, 3) := by decide +kernel
theorem dX12_init_108 : decode cX12_init 108 = .ok (.aload_n 0, 1) := by decide +kernel
theorem dX12_init_109 : decode cX12_init 109 = .ok (.iconst 4, 1) := by decide +kernel
theorem dX12_init_110 : decode cX12_init 110 = .ok (.newarray .int, 2) := by decide +kernel
theorem dX12_init_112 : decode cX12_init 112 = .ok (.putfield 50, 3) := by decide +kernel
theorem dX12_init_115 : decode cX12_init 115 = .ok (.aload_n 0, 1) := by decide +kernel
theorem dX12_init_116 : decode cX12_init 116 = .ok (.sipush 2000, 3) := by decide +kernel
theorem dX12_init_119 : decode cX12_init 119 = .ok (.newarray .int, 2) := by decide +kernel
theorem dX12_init_121 : decode cX12_init 121 = .ok (.putfield 53, 3) := by decide +kernel
theorem dX12_init_124 : decode cX12_init 124 = .ok (.aload_n 0, 1) := by decide +kernel
theorem dX12_init_125 : decode cX12_init 125 = .ok (.bipush 7, 2) := by decide +kernel
theorem dX12_init_127 : decode cX12_init 127 = .ok (.newarray .int, 2) := by decide +kernel
theorem dX12_init_129 : decode cX12_init 129 = .ok (.putfield 56, 3) := by decide +kernel
theorem dX12_init_132 : decode cX12_init 132 = .ok (.aload_n 0, 1) := by decide +kernel
theorem dX12_init_133 : decode cX12_init 133 = .ok (.bipush 7, 2) := by decide +kernel
theorem dX12_init_135 : decode cX12_init 135 = .ok (.newarray .boolean, 2) := by decide +kernel
theorem dX12_init_137 : decode cX12_init 137 = .ok (.putfield 59, 3) := by decide +kernel
theorem dX12_init_140 : decode cX12_init 140 = .ok (.aload_n 0, 1) := by decide +kernel
theorem dX12_init_141 : decode cX12_init 141 = .ok (.bipush 7, 2) := by decide +kernel
theorem dX12_init_143 : decode cX12_init 143 = .ok (.newarray .int, 2) := by decide +kernel
theorem dX12_init_145 : decode cX12_init 145 = .ok (.putfield 63, 3) := by decide +kernel
theorem dX12_init_148 : decode cX12_init 148 = .ok (.aload_n 0, 1) := by decide +kernel
theorem dX12_init_149 : decode cX12_init 149 = .ok (.bipush 7, 2) := by decide +kernel
theorem dX12_init_151 : decode cX12_init 151 = .ok (.newarray .int, 2) := by decide +kernel
theorem dX12_init_153 : decode cX12_init 153 = .ok (.putfield 66, 3) := by decide +kernel
theorem dX12_init_156 : decode cX12_init 156 = .ok (.aload_n 0, 1) := by decide +kernel
theorem dX12_init_157 : decode cX12_init 157 = .ok (.bipush 7, 2) := by decide +kernel
theorem dX12_init_159 : decode cX12_init 159 = .ok (.newarray .int, 2) := by decide +kernel
theorem dX12_init_161 : decode cX12_init 161 = .ok (.putfield 69, 3) := by decide +kernel
theorem dX12_init_164 : decode cX12_init 164 = .ok (.aload_n 0, 1) := by decide +kernel
theorem dX12_init_165 : decode cX12_init 165 = .ok (.bipush 7, 2) := by decide +kernel
theorem dX12_init_167 : decode cX12_init 167 = .ok (.newarray .int, 2) := by decide +kernel
theorem dX12_init_169 : decode cX12_init 169 = .ok (.putfield 72, 3) := by decide +kernel
theorem dX12_init_172 : decode cX12_init 172 = .ok (.aload_n 0, 1) := by decide +kernel
theorem dX12_init_173 : decode cX12_init 173 = .ok (.bipush 7, 2) := by decide +kernel
theorem dX12_init_175 : decode cX12_init 175 = .ok (.newarray .int, 2) := by decide +kernel
theorem dX12_init_177 : decode cX12_init 177 = .ok (.putfield 75, 3) := by decide +kernel
theorem dX12_init_180 : decode cX12_init 180 = .ok (.aload_n 0, 1) := by decide +kernel
theorem dX12_init_181 : decode cX12_init 181 = .ok (.bipush 7, 2) := by decide +kernel
theorem dX12_init_183 : decode cX12_init 183 = .ok (.newarray .int, 2) := by decide +kernel
theorem dX12_init_185 : decode cX12_init 185 = .ok (.putfield 78, 3) := by decide +kernel
theorem dX12_init_188 : decode cX12_init 188 = .ok (.aload_n 0, 1) := by decide +kernel
theorem dX12_init_189 : decode cX12_init 189 = .ok (.bipush 7, 2) := by decide +kernel
theorem dX12_init_191 : decode cX12_init 191 = .ok (.newarray .int, 2) := by decide +kernel
theorem dX12_init_193 : decode cX12_init 193 = .ok (.putfield 81, 3) := by decide +kernel
theorem dX12_init_196 : decode cX12_init 196 = .ok (.aload_n 0, 1) := by decide +kernel
theorem dX12_init_197 : decode cX12_init 197 = .ok (.bipush 7, 2) := by decide +kernel
theorem dX12_init_199 : decode cX12_init 199 = .ok (.newarray .int, 2) := by decide +kernel
theorem dX12_init_201 : decode cX12_init 201 = .ok (.putfield 84, 3) := by decide +kernel
theorem dX12_init_204 : decode cX12_init 204 = .ok (.aload_n 0, 1) := by decide +kernel
theorem dX12_init_205 : decode cX12_init 205 = .ok (.bipush 7, 2) := by decide +kernel
theorem dX12_init_207 : decode cX12_init 207 = .ok (.newarray .int, 2) := by decide +kernel
theorem dX12_init_209 : decode cX12_init 209 = .ok (.putfield 87, 3) := by decide +kernel
theorem dX12_init_212 : decode cX12_init 212 = .ok (.aload_n 0, 1) := by decide +kernel
theorem dX12_init_213 : decode cX12_init 213 = .ok (.bipush 20, 2) := by decide +kernel
theorem dX12_init_215 : decode cX12_init 215 = .ok (.newarray .int, 2) := by decide +kernel
theorem dX12_init_217 : decode cX12_init 217 = .ok (.putfield 90, 3) := by decide +kernel
theorem dX12_init_220 : decode cX12_init 220 = .ok (.aload_n 0, 1) := by decide +kernel
theorem dX12_init_221 : decode cX12_init 221 = .ok (.bipush 6, 2) := by decide +kernel
theorem dX12_init_223 : decode cX12_init 223 = .ok (.newarray .int, 2) := by decide +kernel
theorem dX12_init_225 : decode cX12_init 225 = .ok (.putfield 93, 3) := by decide +kernel
theorem dX12_init_228 : decode cX12_init 228 = .ok (.aload_n 0, 1) := by decide +kernel
theorem dX12_init_229 : decode cX12_init 229 = .ok (.sipush 240, 3) := by decide +kernel
theorem dX12_init_232 : decode cX12_init 232 = .ok (.newarray .int, 2) := by decide +kernel
theorem dX12_init_234 : decode cX12_init 234 = .ok (.putfield 96, 3) := by decide +kernel
theorem dX12_init_237 : decode cX12_init 237 = .ok (.aload_n 0, 1) := by decide +kernel
theorem dX12_init_238 : decode cX12_init 238 = .ok (.sipush 240, 3) := by decide +kernel
theorem dX12_init_241 : decode cX12_init 241 = .ok (.newarray .int, 2) := by decide +kernel
theorem dX12_init_243 : decode cX12_init 243 = .ok (.putfield 99, 3) := by decide +kernel
theorem dX12_init_246 : decode cX12_init 246 = .ok (.aload_n 0, 1) := by decide +kernel
theorem dX12_init_247 : decode cX12_init 247 = .ok (.sipush 240, 3) := by decide +kernel
theorem dX12_init_250 : decode cX12_init 250 = .ok (.newarray .int, 2) := by decide +kernel
theorem dX12_init_252 : decode cX12_init 252 = .ok (.putfield 102, 3) := by decide +kernel
theorem dX12_init_255 : decode cX12_init 255 = .ok (.aload_n 0, 1) := by decide +kernel
theorem dX12_init_256 : decode cX12_init 256 = .ok (.iconst 5, 1) := by decide +kernel
theorem dX12_init_257 : decode cX12_init 257 = .ok (.newarray .int, 2) := by decide +kernel
theorem dX12_init_259 : decode cX12_init 259 = .ok (.putfield 105, 3) := by decide +kernel
theorem dX12_init_262 : decode cX12_init 262 = .ok (.aload_n 0, 1) := by decide +kernel
theorem dX12_init_263 : decode cX12_init 263 = .ok (.bipush 40, 2) := by decide +kernel
theorem dX12_init_265 : decode cX12_init 265 = .ok (.newarray .int, 2) := by decide +kernel
theorem dX12_init_267 : decode cX12_init 267 = .ok (.putfield 108, 3) := by decide +kernel
theorem dX12_init_270 : decode cX12_init 270 = .ok (.aload_n 0, 1) := by decide +kernel
theorem dX12_init_271 : decode cX12_init 271 = .ok (.bipush 40, 2) := by decide +kernel
theorem dX12_init_273 : decode cX12_init 273 = .ok (.newarray .int, 2) := by decide +kernel
theorem dX12_init_275 : decode cX12_init 275 = .ok (.putfield 111, 3) := by decide +kernel
theorem dX12_init_278 : decode cX12_init 278 = .ok (.aload_n 0, 1) := by decide +kernel
theorem dX12_init_279 : decode cX12_init 279 = .ok (.bipush 40, 2) := by decide +kernel
theorem dX12_init_281 : decode cX12_init 281 = .ok (.newarray .boolean, 2) := by decide +kernel
theorem dX12_init_283 : decode cX12_init 283 = .ok (.putfield 114, 3) := by decide +kernel
theorem dX12_init_286 : decode cX12_init 286 = .ok (.aload_n 0, 1) := by decide +kernel
theorem dX12_init_287 : decode cX12_init 287 = .ok (.bipush 30, 2) := by decide +kernel
theorem dX12_init_289 : decode cX12_init 289 = .ok (.newarray .int, 2) := by decide +kernel
theorem dX12_init_291 : decode cX12_init 291 = .ok (.putfield 117, 3) := by decide +kernel
theorem dX12_init_294 : decode cX12_init 294 = .ok (.aload_n 0, 1) := by decide +kernel
theorem dX12_init_295 : decode cX12_init 295 = .ok (.bipush 13, 2) := by decide +kernel
theorem dX12_init_297 : decode cX12_init 297 = .ok (.newarray .int, 2) := by decide +kernel
theorem dX12_init_299 : decode cX12_init 299 = .ok (.putfield 120, 3) := by decide +kernel
theorem dX12_init_302 : decode cX12_init 302 = .ok (.aload_n 0, 1) := by decide +kernel
theorem dX12_init_303 : decode cX12_init 303 = .ok (.bipush 13, 2) := by decide +kernel
theorem dX12_init_305 : decode cX12_init 305 = .ok (.newarray .int, 2) := by decide +kernel
theorem dX12_init_307 : decode cX12_init 307 = .ok (.putfield 123, 3) := by decide +kernel
theorem dX12_init_310 : decode cX12_init 310 = .ok (.aload_n 0, 1) := by decide +kernel
theorem dX12_init_311 : decode cX12_init 311 = .ok (.bipush 52, 2) := by decide +kernel
theorem dX12_init_313 : decode cX12_init 313 = .ok (.newarray .int, 2) := by decide +kernel
theorem dX12_init_315 : decode cX12_init 315 = .ok (.putfield 126, 3) := by decide +kernel
theorem dX12_init_318 : decode cX12_init 318 = .ok (.aload_n 0, 1) := by decide +kernel
theorem dX12_init_319 : decode cX12_init 319 = .ok (.sipush 208, 3) := by decide +kernel
theorem dX12_init_322 : decode cX12_init 322 = .ok (.newarray .int, 2) := by decide +kernel
theorem dX12_init_324 : decode cX12_init 324 = .ok (.putfield 129, 3) := by decide +kernel
theorem dX12_init_327 : decode cX12_init 327 = .ok (.aload_n 0, 1) := by decide +kernel
theorem dX12_init_328 : decode cX12_init 328 = .ok (.iconst 4, 1) := by decide +kernel
theorem dX12_init_329 : decode cX12_init 329 = .ok (.newarray .boolean, 2) := by decide +kernel
theorem dX12_init_331 : decode cX12_init 331 = .ok (.putfield 132, 3) := by decide +kernel
theorem dX12_init_334 : decode cX12_init 334 = .ok (.aload_n 0, 1) := by decide +kernel
theorem dX12_init_335 : decode cX12_init 335 = .ok (.bipush 6, 2) := by decide +kernel
theorem dX12_init_337 : decode cX12_init 337 = .ok (.newarray .int, 2) := by decide +kernel
theorem dX12_init_339 : decode cX12_init 339 = .ok (.putfield 135, 3) := by decide +kernel
theorem dX12_init_342 : decode cX12_init 342 = .ok (.aload_n 0, 1) := by decide +kernel
theorem dX12_init_343 : decode cX12_init 343 = .ok (.bipush 6, 2) := by decide +kernel
theorem dX12_init_345 : decode cX12_init 345 = .ok (.newarray .int, 2) := by decide +kernel
theorem dX12_init_347 : decode cX12_init 347 = .ok (.putfield 138, 3) := by decide +kernel
theorem dX12_init_350 : decode cX12_init 350 = .ok (.aload_n 0, 1) := by decide +kernel
theorem dX12_init_351 : decode cX12_init 351 = .ok (.bipush 36, 2) := by decide +kernel
theorem dX12_init_353 : decode cX12_init 353 = .ok (.newarray .boolean, 2) := by decide +kernel
theorem dX12_init_355 : decode cX12_init 355 = .ok (.putfield 141, 3) := by decide +kernel
theorem dX12_init_358 : decode cX12_init 358 = .ok (.aload_n 0, 1) := by decide +kernel
theorem dX12_init_359 : decode cX12_init 359 = .ok (.bipush 65, 2) := by decide +kernel
theorem dX12_init_361 : decode cX12_init 361 = .ok (.newarray .int, 2) := by decide +kernel
theorem dX12_init_363 : decode cX12_init 363 = .ok (.putfield 144, 3) := by decide +kernel
theorem dX12_init_366 : decode cX12_init 366 = .ok (.aload_n 0, 1) := by decide +kernel
theorem dX12_init_367 : decode cX12_init 367 = .ok (.iconst 4, 1) := by decide +kernel
theorem dX12_init_368 : decode cX12_init 368 = .ok (.newarray .int, 2) := by decide +kernel
theorem dX12_init_370 : decode cX12_init 370 = .ok (.putfield 147, 3) := by decide +kernel
theorem dX12_init_373 : decode cX12_init 373 = .ok (.aload_n 0, 1) := by decide +kernel
theorem dX12_init_374 : decode cX12_init 374 = .ok (.iconst 4, 1) := by decide +kernel
theorem dX12_init_375 : decode cX12_init 375 = .ok (.newarray .int, 2) := by decide +kernel
theorem dX12_init_377 : decode cX12_init 377 = .ok (.putfield 150, 3) := by decide +kernel
theorem dX12_init_380 : decode cX12_init 380 = .ok (.aload_n 0, 1) := by decide +kernel
theorem dX12_init_381 : decode cX12_init 381 = .ok (.bipush 6, 2) := by decide +kernel
theorem dX12_init_383 : decode cX12_init 383 = .ok (.newarray .int, 2) := by decide +kernel
theorem dX12_init_385 : decode cX12_init 385 = .ok (.putfield 153, 3) := by decide +kernel
theorem dX12_init_388 : decode cX12_init 388 = .ok (.aload_n 0, 1) := by decide +kernel
theorem dX12_init_389 : decode cX12_init 389 = .ok (.bipush 10, 2) := by decide +kernel
theorem dX12_init_391 : decode cX12_init 391 = .ok (.newarray .int, 2) := by decide +kernel
theorem dX12_init_393 : decode cX12_init 393 = .ok (.putfield 156, 3) := by decide +kernel
theorem dX12_init_396 : decode cX12_init 396 = .ok (.aload_n 0, 1) := by decide +kernel
theorem dX12_init_397 : decode cX12_init 397 = .ok (.bipush 6, 2) := by decide +kernel
theorem dX12_init_399 : decode cX12_init 399 = .ok (.newarray .int, 2) := by decide +kernel
theorem dX12_init_401 : decode cX12_init 401 = .ok (.putfield 159, 3) := by decide +kernel
theorem dX12_init_404 : decode cX12_init 404 = .ok (.aload_n 0, 1) := by decide +kernel
theorem dX12_init_405 : decode cX12_init 405 = .ok (.bipush 6, 2) := by decide +kernel
theorem dX12_init_407 : decode cX12_init 407 = .ok (.newarray .int, 2) := by decide +kernel
theorem dX12_init_409 : decode cX12_init 409 = .ok (.putfield 162, 3) := by decide +kernel
theorem dX12_init_412 : decode cX12_init 412 = .ok (.aload_n 0, 1) := by decide +kernel
theorem dX12_init_413 : decode cX12_init 413 = .ok (.getfield 13, 3) := by decide +kernel
theorem dX12_init_416 : decode cX12_init 416 = .ok (.iconst 2, 1) := by decide +kernel
theorem dX12_init_417 : decode cX12_init 417 = .ok (.iconst 1, 1) := by decide +kernel
theorem dX12_init_418 : decode cX12_init 418 = .ok (.iastore, 1) := by decide +kernel
theorem dX12_init_419 : decode cX12_init 419 = .ok (.aload_n 0, 1) := by decide +kernel
theorem dX12_init_420 : decode cX12_init 420 = .ok (.invokevirtual 165, 3) := by decide +kernel
theorem dX12_init_423 : decode cX12_init 423 = .ok (.aload_n 0, 1) := by decide +kernel
theorem dX12_init_424 : decode cX12_init 424 = .ok (.invokevirtual 168, 3) := by decide +kernel
theorem dX12_init_427 : decode cX12_init 427 = .ok (.return_, 1) := by decide +kernel
theorem dX12_thrown_0 : decode cX12_thrown 0 = .ok (.aload_n 0, 1) := by decide +kernel
theorem dX12_thrown_1 : decode cX12_thrown 1 = .ok (.getfield 171, 3) := by decide +kernel
theorem dX12_thrown_4 : decode cX12_thrown 4 = .ok (.ireturn, 1) := by decide +kernel
theorem dX12_within_0 : decode cX12_within 0 = .ok (.iload_n 0, 1) := by decide +kernel
theorem dX12_within_1 : decode cX12_within 1 = .ok (.iload_n 1, 1) := by decide +kernel
theorem dX12_within_2 : decode cX12_within 2 = .ok (.if_icmp .lt 12, 3) := by decide +kernel
theorem dX12_within_5 : decode cX12_within 5 = .ok (.iload_n 0, 1) := by decide +kernel
theorem dX12_within_6 : decode cX12_within 6 = .ok (.iload_n 2, 1) := by decide +kernel
theorem dX12_within_7 : decode cX12_within 7 = .ok (.if_icmp .gt 7, 3) := by decide +kernel
theorem dX12_within_10 : decode cX12_within 10 = .ok (.iconst 1, 1) := by decide +kernel
theorem dX12_within_11 : decode cX12_within 11 = .ok (.goto 4, 3) := by decide +kernel
theorem dX12_within_14 : decode cX12_within 14 = .ok (.iconst 0, 1) := by decide +kernel
theorem dX12_within_15 : decode cX12_within 15 = .ok (.ireturn, 1) := by decide +kernel
theorem dX12_between_0 : decode cX12_between 0 = .ok (.iload_n 0, 1) := by decide +kernel
theorem dX12_between_1 : decode cX12_between 1 = .ok (.iload_n 1, 1) := by decide +kernel
theorem dX12_between_2 : decode cX12_between 2 = .ok (.if_icmp .ge 7, 3) := by decide +kernel
theorem dX12_between_5 : decode cX12_between 5 = .ok (.iload_n 1, 1) := by decide +kernel
theorem dX12_between_6 : decode cX12_between 6 = .ok (.goto 13, 3) := by decide +kernel
theorem dX12_between_9 : decode cX12_between 9 = .ok (.iload_n 0, 1) := by decide +kernel
theorem dX12_between_10 : decode cX12_between 10 = .ok (.iload_n 2, 1) := by decide +kernel
theorem dX12_between_11 : decode cX12_between 11 = .ok (.if_icmp .le 7, 3) := by decide +kernel
theorem dX12_between_14 : decode cX12_between 14 = .ok (.iload_n 2, 1) := by decide +kernel
theorem dX12_between_15 : decode cX12_between 15 = .ok (.goto 4, 3) := by decide +kernel
theorem dX12_between_18 : decode cX12_between 18 = .ok (.iload_n 0, 1) := by decide +kernel
theorem dX12_between_19 : decode cX12_between 19 = .ok (.ireturn, 1) := by decide +kernel
theorem dX12_feed_0 : decode cX12_feed 0 = .ok (.aload_n 0, 1) := by decide +kernel
theorem dX12_feed_1 : decode cX12_feed 1 = .ok (.iconst 0, 1) := by decide +kernel
theorem dX12_feed_2 : decode cX12_feed 2 = .ok (.putfield 171, 3) := by decide +kernel
theorem dX12_feed_5 : decode cX12_feed 5 = .ok (.iconst 0, 1) := by decide +kernel
theorem dX12_feed_6 : decode cX12_feed 6 = .ok (.istore 7, 2) := by decide +kernel
theorem dX12_feed_8 : decode cX12_feed 8 = .ok (.iload 7, 2) := by decide +kernel
theorem dX12_feed_10 : decode cX12_feed 10 = .ok (.bipush 24, 2) := by decide +kernel
theorem dX12_feed_12 : decode cX12_feed 12 = .ok (.if_icmp .ge 108, 3) := by decide +kernel
theorem dX12_feed_15 : decode cX12_feed 15 = .ok (.iload 7, 2) := by decide +kernel
theorem dX12_feed_17 : decode cX12_feed 17 = .ok (.bipush 8, 2) := by decide +kernel
theorem dX12_feed_19 : decode cX12_feed 19 = .ok (.if_icmp .ge 7, 3) := by decide +kernel
theorem dX12_feed_22 : decode cX12_feed 22 = .ok (.lload_n 1, 1) := by decide +kernel
theorem dX12_feed_23 : decode cX12_feed 23 = .ok (.goto 16, 3) := by decide +kernel
theorem dX12_feed_26 : decode cX12_feed 26 = .ok (.iload 7, 2) := by decide +kernel
theorem dX12_feed_28 : decode cX12_feed 28 = .ok (.bipush 16, 2) := by decide +kernel
theorem dX12_feed_30 : decode cX12_feed 30 = .ok (.if_icmp .ge 7, 3) := by decide +kernel
theorem dX12_feed_33 : decode cX12_feed 33 = .ok (.lload_n 3, 1) := by decide +kernel
theorem dX12_feed_34 : decode cX12_feed 34 = .ok (.goto 5, 3) := by decide +kernel
theorem dX12_feed_37 : decode cX12_feed 37 = .ok (.lload 5, 2) := by decide +kernel
theorem dX12_feed_39 : decode cX12_feed 39 = .ok (.lstore 8, 2) := by decide +kernel
theorem dX12_feed_41 : decode cX12_feed 41 = .ok (.lload 8, 2) := by decide +kernel
theorem dX12_feed_43 : decode cX12_feed 43 = .ok (.bipush 56, 2) := by decide +kernel
theorem dX12_feed_45 : decode cX12_feed 45 = .ok (.bipush 8, 2) := by decide +kernel
theorem dX12_feed_47 : decode cX12_feed 47 = .ok (.iload 7, 2) := by decide +kernel
theorem dX12_feed_49 : decode cX12_feed 49 = .ok (.bipush 7, 2) := by decide +kernel
theorem dX12_feed_51 : decode cX12_feed 51 = .ok (.iand, 1) := by decide +kernel
theorem dX12_feed_52 : decode cX12_feed 52 = .ok (.imul, 1) := by decide +kernel
theorem dX12_feed_53 : decode cX12_feed 53 = .ok (.isub, 1) := by decide +kernel
theorem dX12_feed_54 : decode cX12_feed 54 = .ok (.lushr, 1) := by decide +kernel
theorem dX12_feed_55 : decode cX12_feed 55 = .ok (.ldc2_w 175, 3) := by decide +kernel
theorem dX12_feed_58 : decode cX12_feed 58 = .ok (.land, 1) := by decide +kernel
theorem dX12_feed_59 : decode cX12_feed 59 = .ok (.l2i, 1) := by decide +kernel
theorem dX12_feed_60 : decode cX12_feed 60 = .ok (.istore 10, 2) := by decide +kernel
theorem dX12_feed_62 : decode cX12_feed 62 = .ok (.aload_n 0, 1) := by decide +kernel
theorem dX12_feed_63 : decode cX12_feed 63 = .ok (.getfield 177, 3) := by decide +kernel
theorem dX12_feed_66 : decode cX12_feed 66 = .ok (.sipush 1000, 3) := by decide +kernel
theorem dX12_feed_69 : decode cX12_feed 69 = .ok (.if_icmp .ge 45, 3) := by decide +kernel
theorem dX12_feed_72 : decode cX12_feed 72 = .ok (.iload 10, 2) := by decide +kernel
theorem dX12_feed_74 : decode cX12_feed 74 = .ok (.bipush 10, 2) := by decide +kernel
theorem dX12_feed_76 : decode cX12_feed 76 = .ok (.if_icmp .eq 17, 3) := by decide +kernel
theorem dX12_feed_79 : decode cX12_feed 79 = .ok (.iload 10, 2) := by decide +kernel
theorem dX12_feed_81 : decode cX12_feed 81 = .ok (.bipush 32, 2) := by decide +kernel
theorem dX12_feed_83 : decode cX12_feed 83 = .ok (.if_icmp .lt 31, 3) := by decide +kernel
theorem dX12_feed_86 : decode cX12_feed 86 = .ok (.iload 10, 2) := by decide +kernel
theorem dX12_feed_88 : decode cX12_feed 88 = .ok (.bipush 126, 2) := by decide +kernel
theorem dX12_feed_90 : decode cX12_feed 90 = .ok (.if_icmp .gt 24, 3) := by decide +kernel
theorem dX12_feed_93 : decode cX12_feed 93 = .ok (.aload_n 0, 1) := by decide +kernel
theorem dX12_feed_94 : decode cX12_feed 94 = .ok (.getfield 7, 3) := by decide +kernel
theorem dX12_feed_97 : decode cX12_feed 97 = .ok (.aload_n 0, 1) := by decide +kernel
theorem dX12_feed_98 : decode cX12_feed 98 = .ok (.getfield 177, 3) := by decide +kernel
theorem dX12_feed_101 : decode cX12_feed 101 = .ok (.iload 10, 2) := by decide +kernel
theorem dX12_feed_103 : decode cX12_feed 103 = .ok (.iastore, 1) := by decide +kernel
theorem dX12_feed_104 : decode cX12_feed 104 = .ok (.aload_n 0, 1) := by decide +kernel
theorem dX12_feed_105 : decode cX12_feed 105 = .ok (.dup, 1) := by decide +kernel
theorem dX12_feed_106 : decode cX12_feed 106 = .ok (.getfield 177, 3) := by decide +kernel
theorem dX12_feed_109 : decode cX12_feed 109 = .ok (.iconst 1, 1) := by decide +kernel
theorem dX12_feed_110 : decode cX12_feed 110 = .ok (.iadd, 1) := by decide +kernel
theorem dX12_feed_111 : decode cX12_feed 111 = .ok (.putfield 177, 3) := by decide +kernel
theorem dX12_feed_114 : decode cX12_feed 114 = .ok (.iinc 7 1, 3) := by decide +kernel
theorem dX12_feed_117 : decode cX12_feed 117 = .ok (.goto (-109), 3) := by decide +kernel
theorem dX12_feed_120 : decode cX12_feed 120 = .ok (.aload_n 0, 1) := by decide +kernel
theorem dX12_feed_121 : decode cX12_feed 121 = .ok (.getfield 177, 3) := by decide +kernel
theorem dX12_feed_124 : decode cX12_feed 124 = .ok (.ireturn, 1) := by decide +kernel
theorem dX12_signAt_0 : decode cX12_signAt 0 = .ok (.iload_n 1, 1) := by decide +kernel
theorem dX12_signAt_1 : decode cX12_signAt 1 = .ok (.aload_n 0, 1) := by decide +kernel
theorem dX12_signAt_2 : decode cX12_signAt 2 = .ok (.getfield 180, 3) := by decide +kernel
theorem dX12_signAt_5 : decode cX12_signAt 5 = .ok (.if_icmp .ge 12, 3) := by decide +kernel
theorem dX12_signAt_8 : decode cX12_signAt 8 = .ok (.aload_n 0, 1) := by decide +kernel
theorem dX12_signAt_9 : decode cX12_signAt 9 = .ok (.getfield 7, 3) := by decide +kernel
theorem dX12_signAt_12 : decode cX12_signAt 12 = .ok (.iload_n 1, 1) := by decide +kernel
theorem dX12_signAt_13 : decode cX12_signAt 13 = .ok (.iaload, 1) := by decide +kernel
theorem dX12_signAt_14 : decode cX12_signAt 14 = .ok (.goto 4, 3) := by decide +kernel
theorem dX12_signAt_17 : decode cX12_signAt 17 = .ok (.iconst 0, 1) := by decide +kernel
theorem dX12_signAt_18 : decode cX12_signAt 18 = .ok (.ireturn, 1) := by decide +kernel
theorem dX12_nextToken_0 : decode cX12_nextToken 0 = .ok (.aload_n 0, 1) := by decide +kernel
theorem dX12_nextToken_1 : decode cX12_nextToken 1 = .ok (.getfield 183, 3) := by decide +kernel
theorem dX12_nextToken_4 : decode cX12_nextToken 4 = .ok (.aload_n 0, 1) := by decide +kernel
theorem dX12_nextToken_5 : decode cX12_nextToken 5 = .ok (.getfield 180, 3) := by decide +kernel
theorem dX12_nextToken_8 : decode cX12_nextToken 8 = .ok (.if_icmp .ge 44, 3) := by decide +kernel
theorem dX12_nextToken_11 : decode cX12_nextToken 11 = .ok (.aload_n 0, 1) := by decide +kernel
theorem dX12_nextToken_12 : decode cX12_nextToken 12 = .ok (.getfield 7, 3) := by decide +kernel
theorem dX12_nextToken_15 : decode cX12_nextToken 15 = .ok (.aload_n 0, 1) := by decide +kernel
theorem dX12_nextToken_16 : decode cX12_nextToken 16 = .ok (.getfield 183, 3) := by decide +kernel
theorem dX12_nextToken_19 : decode cX12_nextToken 19 = .ok (.iaload, 1) := by decide +kernel
theorem dX12_nextToken_20 : decode cX12_nextToken 20 = .ok (.bipush 32, 2) := by decide +kernel
theorem dX12_nextToken_22 : decode cX12_nextToken 22 = .ok (.if_icmp .eq 17, 3) := by decide +kernel
theorem dX12_nextToken_25 : decode cX12_nextToken 25 = .ok (.aload_n 0, 1) := by decide +kernel
theorem dX12_nextToken_26 : decode cX12_nextToken 26 = .ok (.getfield 7, 3) := by decide +kernel
theorem dX12_nextToken_29 : decode cX12_nextToken 29 = .ok (.aload_n 0, 1) := by decide +kernel
theorem dX12_nextToken_30 : decode cX12_nextToken 30 = .ok (.getfield 183, 3) := by decide +kernel
theorem dX12_nextToken_33 : decode cX12_nextToken 33 = .ok (.iaload, 1) := by decide +kernel
theorem dX12_nextToken_34 : decode cX12_nextToken 34 = .ok (.bipush 10, 2) := by decide +kernel
theorem dX12_nextToken_36 : decode cX12_nextToken 36 = .ok (.if_icmp .ne 16, 3) := by decide +kernel
theorem dX12_nextToken_39 : decode cX12_nextToken 39 = .ok (.aload_n 0, 1) := by decide +kernel
theorem dX12_nextToken_40 : decode cX12_nextToken 40 = .ok (.dup, 1) := by decide +kernel
theorem dX12_nextToken_41 : decode cX12_nextToken 41 = .ok (.getfield 183, 3) := by decide +kernel
theorem dX12_nextToken_44 : decode cX12_nextToken 44 = .ok (.iconst 1, 1) := by decide +kernel
theorem dX12_nextToken_45 : decode cX12_nextToken 45 = .ok (.iadd, 1) := by decide +kernel
theorem dX12_nextToken_46 : decode cX12_nextToken 46 = .ok (.putfield 183, 3) := by decide +kernel
theorem dX12_nextToken_49 : decode cX12_nextToken 49 = .ok (.goto (-49), 3) := by decide +kernel
theorem dX12_nextToken_52 : decode cX12_nextToken 52 = .ok (.aload_n 0, 1) := by decide +kernel
theorem dX12_nextToken_53 : decode cX12_nextToken 53 = .ok (.aload_n 0, 1) := by decide +kernel
theorem dX12_nextToken_54 : decode cX12_nextToken 54 = .ok (.getfield 183, 3) := by decide +kernel
theorem dX12_nextToken_57 : decode cX12_nextToken 57 = .ok (.putfield 186, 3) := by decide +kernel
theorem dX12_nextToken_60 : decode cX12_nextToken 60 = .ok (.aload_n 0, 1) := by decide +kernel
theorem dX12_nextToken_61 : decode cX12_nextToken 61 = .ok (.lconst 0, 1) := by decide +kernel
theorem dX12_nextToken_62 : decode cX12_nextToken 62 = .ok (.putfield 189, 3) := by decide +kernel
theorem dX12_nextToken_65 : decode cX12_nextToken 65 = .ok (.aload_n 0, 1) := by decide +kernel
theorem dX12_nextToken_66 : decode cX12_nextToken 66 = .ok (.iconst 0, 1) := by decide +kernel
theorem dX12_nextToken_67 : decode cX12_nextToken 67 = .ok (.putfield 193, 3) := by decide +kernel
theorem dX12_nextToken_70 : decode cX12_nextToken 70 = .ok (.aload_n 0, 1) := by decide +kernel
theorem dX12_nextToken_71 : decode cX12_nextToken 71 = .ok (.getfield 183, 3) := by decide +kernel
theorem dX12_nextToken_74 : decode cX12_nextToken 74 = .ok (.aload_n 0, 1) := by decide +kernel
theorem dX12_nextToken_75 : decode cX12_nextToken 75 = .ok (.getfield 180, 3) := by decide +kernel
theorem dX12_nextToken_78 : decode cX12_nextToken 78 = .ok (.if_icmp .ne 9, 3) := by decide +kernel
theorem dX12_nextToken_81 : decode cX12_nextToken 81 = .ok (.aload_n 0, 1) := by decide +kernel
theorem dX12_nextToken_82 : decode cX12_nextToken 82 = .ok (.iconst 0, 1) := by decide +kernel
theorem dX12_nextToken_83 : decode cX12_nextToken 83 = .ok (.putfield 196, 3) := by decide +kernel
theorem dX12_nextToken_86 : decode cX12_nextToken 86 = .ok (.return_, 1) := by decide +kernel
theorem dX12_nextToken_87 : decode cX12_nextToken 87 = .ok (.aload_n 0, 1) := by decide +kernel
theorem dX12_nextToken_88 : decode cX12_nextToken 88 = .ok (.getfield 7, 3) := by decide +kernel
theorem dX12_nextToken_91 : decode cX12_nextToken 91 = .ok (.aload_n 0, 1) := by decide +kernel
theorem dX12_nextToken_92 : decode cX12_nextToken 92 = .ok (.getfield 183, 3) := by decide +kernel
theorem dX12_nextToken_95 : decode cX12_nextToken 95 = .ok (.iaload, 1) := by decide +kernel
theorem dX12_nextToken_96 : decode cX12_nextToken 96 = .ok (.istore_n 1, 1) := by decide +kernel
theorem dX12_nextToken_97 : decode cX12_nextToken 97 = .ok (.iload_n 1, 1) := by decide +kernel
theorem dX12_nextToken_98 : decode cX12_nextToken 98 = .ok (.bipush 97, 2) := by decide +kernel
theorem dX12_nextToken_100 : decode cX12_nextToken 100 = .ok (.if_icmp .lt 112, 3) := by decide +kernel
theorem dX12_nextToken_103 : decode cX12_nextToken 103 = .ok (.iload_n 1, 1) := by decide +kernel
theorem dX12_nextToken_104 : decode cX12_nextToken 104 = .ok (.bipush 122, 2) := by decide +kernel
theorem dX12_nextToken_106 : decode cX12_nextToken 106 = .ok (.if_icmp .gt 106, 3) := by decide +kernel
theorem dX12_nextToken_109 : decode cX12_nextToken 109 = .ok (.aload_n 0, 1) := by decide +kernel
theorem dX12_nextToken_110 : decode cX12_nextToken 110 = .ok (.aload_n 0, 1) := by decide +kernel
theorem dX12_nextToken_111 : decode cX12_nextToken 111 = .ok (.getfield 183, 3) := by decide +kernel
theorem dX12_nextToken_114 : decode cX12_nextToken 114 = .ok (.invokevirtual 199, 3) := by decide +kernel
theorem dX12_nextToken_117 : decode cX12_nextToken 117 = .ok (.bipush 97, 2) := by decide +kernel
theorem dX12_nextToken_119 : decode cX12_nextToken 119 = .ok (.if_icmp .lt 69, 3) := by decide +kernel
theorem dX12_nextToken_122 : decode cX12_nextToken 122 = .ok (.aload_n 0, 1) := by decide +kernel
theorem dX12_nextToken_123 : decode cX12_nextToken 123 = .ok (.aload_n 0, 1) := by decide +kernel
theorem dX12_nextToken_124 : decode cX12_nextToken 124 = .ok (.getfield 183, 3) := by decide +kernel
theorem dX12_nextToken_127 : decode cX12_nextToken 127 = .ok (.invokevirtual 199, 3) := by decide +kernel
theorem dX12_nextToken_130 : decode cX12_nextToken 130 = .ok (.bipush 122, 2) := by decide +kernel
theorem dX12_nextToken_132 : decode cX12_nextToken 132 = .ok (.if_icmp .gt 56, 3) := by decide +kernel
theorem dX12_nextToken_135 : decode cX12_nextToken 135 = .ok (.aload_n 0, 1) := by decide +kernel
theorem dX12_nextToken_136 : decode cX12_nextToken 136 = .ok (.getfield 183, 3) := by decide +kernel
theorem dX12_nextToken_139 : decode cX12_nextToken 139 = .ok (.aload_n 0, 1) := by decide +kernel
theorem dX12_nextToken_140 : decode cX12_nextToken 140 = .ok (.getfield 186, 3) := by decide +kernel
theorem dX12_nextToken_143 : decode cX12_nextToken 143 = .ok (.isub, 1) := by decide +kernel
theorem dX12_nextToken_144 : decode cX12_nextToken 144 = .ok (.bipush 8, 2) := by decide +kernel
theorem dX12_nextToken_146 : decode cX12_nextToken 146 = .ok (.if_icmp .ge 29, 3) := by decide +kernel
theorem dX12_nextToken_149 : decode cX12_nextToken 149 = .ok (.aload_n 0, 1) := by decide +kernel
theorem dX12_nextToken_150 : decode cX12_nextToken 150 = .ok (.aload_n 0, 1) := by decide +kernel
theorem dX12_nextToken_151 : decode cX12_nextToken 151 = .ok (.getfield 189, 3) := by decide +kernel
theorem dX12_nextToken_154 : decode cX12_nextToken 154 = .ok (.ldc2_w 203, 3) := by decide +kernel
theorem dX12_nextToken_157 : decode cX12_nextToken 157 = .ok (.lmul, 1) := by decide +kernel
theorem dX12_nextToken_158 : decode cX12_nextToken 158 = .ok (.aload_n 0, 1) := by decide +kernel
theorem dX12_nextToken_159 : decode cX12_nextToken 159 = .ok (.aload_n 0, 1) := by decide +kernel
theorem dX12_nextToken_160 : decode cX12_nextToken 160 = .ok (.getfield 183, 3) := by decide +kernel
theorem dX12_nextToken_163 : decode cX12_nextToken 163 = .ok (.invokevirtual 199, 3) := by decide +kernel
theorem dX12_nextToken_166 : decode cX12_nextToken 166 = .ok (.i2l, 1) := by decide +kernel
theorem dX12_nextToken_167 : decode cX12_nextToken 167 = .ok (.ladd, 1) := by decide +kernel
theorem dX12_nextToken_168 : decode cX12_nextToken 168 = .ok (.ldc2_w 205, 3) := by decide +kernel
theorem dX12_nextToken_171 : decode cX12_nextToken 171 = .ok (.lsub, 1) := by decide +kernel
theorem dX12_nextToken_172 : decode cX12_nextToken 172 = .ok (.putfield 189, 3) := by decide +kernel
theorem dX12_nextToken_175 : decode cX12_nextToken 175 = .ok (.aload_n 0, 1) := by decide +kernel
theorem dX12_nextToken_176 : decode cX12_nextToken 176 = .ok (.dup, 1) := by decide +kernel
theorem dX12_nextToken_177 : decode cX12_nextToken 177 = .ok (.getfield 183, 3) := by decide +kernel
theorem dX12_nextToken_180 : decode cX12_nextToken 180 = .ok (.iconst 1, 1) := by decide +kernel
theorem dX12_nextToken_181 : decode cX12_nextToken 181 = .ok (.iadd, 1) := by decide +kernel
theorem dX12_nextToken_182 : decode cX12_nextToken 182 = .ok (.putfield 183, 3) := by decide +kernel
theorem dX12_nextToken_185 : decode cX12_nextToken 185 = .ok (.goto (-76), 3) := by decide +kernel
theorem dX12_nextToken_188 : decode cX12_nextToken 188 = .ok (.aload_n 0, 1) := by decide +kernel
theorem dX12_nextToken_189 : decode cX12_nextToken 189 = .ok (.aload_n 0, 1) := by decide +kernel
theorem dX12_nextToken_190 : decode cX12_nextToken 190 = .ok (.getfield 183, 3) := by decide +kernel
theorem dX12_nextToken_193 : decode cX12_nextToken 193 = .ok (.aload_n 0, 1) := by decide +kernel
theorem dX12_nextToken_194 : decode cX12_nextToken 194 = .ok (.getfield 186, 3) := by decide +kernel
theorem dX12_nextToken_197 : decode cX12_nextToken 197 = .ok (.isub, 1) := by decide +kernel
theorem dX12_nextToken_198 : decode cX12_nextToken 198 = .ok (.bipush 8, 2) := by decide +kernel
theorem dX12_nextToken_200 : decode cX12_nextToken 200 = .ok (.if_icmp .le 7, 3) := by decide +kernel
theorem dX12_nextToken_203 : decode cX12_nextToken 203 = .ok (.iconst 4, 1) := by decide +kernel
theorem dX12_nextToken_204 : decode cX12_nextToken 204 = .ok (.goto 4, 3) := by decide +kernel
theorem dX12_nextToken_207 : decode cX12_nextToken 207 = .ok (.iconst 1, 1) := by decide +kernel
theorem dX12_nextToken_208 : decode cX12_nextToken 208 = .ok (.putfield 196, 3) := by decide +kernel
theorem dX12_nextToken_211 : decode cX12_nextToken 211 = .ok (.return_, 1) := by decide +kernel
theorem dX12_nextToken_212 : decode cX12_nextToken 212 = .ok (.iload_n 1, 1) := by decide +kernel
theorem dX12_nextToken_213 : decode cX12_nextToken 213 = .ok (.bipush 48, 2) := by decide +kernel
theorem dX12_nextToken_215 : decode cX12_nextToken 215 = .ok (.if_icmp .lt 107, 3) := by decide +kernel
theorem dX12_nextToken_218 : decode cX12_nextToken 218 = .ok (.iload_n 1, 1) := by decide +kernel
theorem dX12_nextToken_219 : decode cX12_nextToken 219 = .ok (.bipush 57, 2) := by decide +kernel
theorem dX12_nextToken_221 : decode cX12_nextToken 221 = .ok (.if_icmp .gt 101, 3) := by decide +kernel
theorem dX12_nextToken_224 : decode cX12_nextToken 224 = .ok (.aload_n 0, 1) := by decide +kernel
theorem dX12_nextToken_225 : decode cX12_nextToken 225 = .ok (.aload_n 0, 1) := by decide +kernel
theorem dX12_nextToken_226 : decode cX12_nextToken 226 = .ok (.getfield 183, 3) := by decide +kernel
theorem dX12_nextToken_229 : decode cX12_nextToken 229 = .ok (.invokevirtual 199, 3) := by decide +kernel
theorem dX12_nextToken_232 : decode cX12_nextToken 232 = .ok (.bipush 48, 2) := by decide +kernel
theorem dX12_nextToken_234 : decode cX12_nextToken 234 = .ok (.if_icmp .lt 65, 3) := by decide +kernel
theorem dX12_nextToken_237 : decode cX12_nextToken 237 = .ok (.aload_n 0, 1) := by decide +kernel
theorem dX12_nextToken_238 : decode cX12_nextToken 238 = .ok (.aload_n 0, 1) := by decide +kernel
theorem dX12_nextToken_239 : decode cX12_nextToken 239 = .ok (.getfield 183, 3) := by decide +kernel
theorem dX12_nextToken_242 : decode cX12_nextToken 242 = .ok (.invokevirtual 199, 3) := by decide +kernel
theorem dX12_nextToken_245 : decode cX12_nextToken 245 = .ok (.bipush 57, 2) := by decide +kernel
theorem dX12_nextToken_247 : decode cX12_nextToken 247 = .ok (.if_icmp .gt 52, 3) := by decide +kernel
theorem dX12_nextToken_250 : decode cX12_nextToken 250 = .ok (.aload_n 0, 1) := by decide +kernel
theorem dX12_nextToken_251 : decode cX12_nextToken 251 = .ok (.getfield 183, 3) := by decide +kernel
theorem dX12_nextToken_254 : decode cX12_nextToken 254 = .ok (.aload_n 0, 1) := by decide +kernel
theorem dX12_nextToken_255 : decode cX12_nextToken 255 = .ok (.getfield 186, 3) := by decide +kernel
theorem dX12_nextToken_258 : decode cX12_nextToken 258 = .ok (.isub, 1) := by decide +kernel
theorem dX12_nextToken_259 : decode cX12_nextToken 259 = .ok (.iconst 4, 1) := by decide +kernel
theorem dX12_nextToken_260 : decode cX12_nextToken 260 = .ok (.if_icmp .ge 26, 3) := by decide +kernel
theorem dX12_nextToken_263 : decode cX12_nextToken 263 = .ok (.aload_n 0, 1) := by decide +kernel
theorem dX12_nextToken_264 : decode cX12_nextToken 264 = .ok (.aload_n 0, 1) := by decide +kernel
theorem dX12_nextToken_265 : decode cX12_nextToken 265 = .ok (.getfield 193, 3) := by decide +kernel
theorem dX12_nextToken_268 : decode cX12_nextToken 268 = .ok (.bipush 10, 2) := by decide +kernel
theorem dX12_nextToken_270 : decode cX12_nextToken 270 = .ok (.imul, 1) := by decide +kernel
theorem dX12_nextToken_271 : decode cX12_nextToken 271 = .ok (.aload_n 0, 1) := by decide +kernel
theorem dX12_nextToken_272 : decode cX12_nextToken 272 = .ok (.aload_n 0, 1) := by decide +kernel
theorem dX12_nextToken_273 : decode cX12_nextToken 273 = .ok (.getfield 183, 3) := by decide +kernel
theorem dX12_nextToken_276 : decode cX12_nextToken 276 = .ok (.invokevirtual 199, 3) := by decide +kernel
theorem dX12_nextToken_279 : decode cX12_nextToken 279 = .ok (.iadd, 1) := by decide +kernel
theorem dX12_nextToken_280 : decode cX12_nextToken 280 = .ok (.bipush 48, 2) := by decide +kernel
theorem dX12_nextToken_282 : decode cX12_nextToken 282 = .ok (.isub, 1) := by decide +kernel
theorem dX12_nextToken_283 : decode cX12_nextToken 283 = .ok (.putfield 193, 3) := by decide +kernel
theorem dX12_nextToken_286 : decode cX12_nextToken 286 = .ok (.aload_n 0, 1) := by decide +kernel
theorem dX12_nextToken_287 : decode cX12_nextToken 287 = .ok (.dup, 1) := by decide +kernel
theorem dX12_nextToken_288 : decode cX12_nextToken 288 = .ok (.getfield 183, 3) := by decide +kernel
theorem dX12_nextToken_291 : decode cX12_nextToken 291 = .ok (.iconst 1, 1) := by decide +kernel
theorem dX12_nextToken_292 : decode cX12_nextToken 292 = .ok (.iadd, 1) := by decide +kernel
theorem dX12_nextToken_293 : decode cX12_nextToken 293 = .ok (.putfield 183, 3) := by decide +kernel
theorem dX12_nextToken_296 : decode cX12_nextToken 296 = .ok (.goto (-72), 3) := by decide +kernel
theorem dX12_nextToken_299 : decode cX12_nextToken 299 = .ok (.aload_n 0, 1) := by decide +kernel
theorem dX12_nextToken_300 : decode cX12_nextToken 300 = .ok (.aload_n 0, 1) := by decide +kernel
theorem dX12_nextToken_301 : decode cX12_nextToken 301 = .ok (.getfield 183, 3) := by decide +kernel
theorem dX12_nextToken_304 : decode cX12_nextToken 304 = .ok (.aload_n 0, 1) := by decide +kernel
theorem dX12_nextToken_305 : decode cX12_nextToken 305 = .ok (.getfield 186, 3) := by decide +kernel
theorem dX12_nextToken_308 : decode cX12_nextToken 308 = .ok (.isub, 1) := by decide +kernel
theorem dX12_nextToken_309 : decode cX12_nextToken 309 = .ok (.iconst 4, 1) := by decide +kernel
theorem dX12_nextToken_310 : decode cX12_nextToken 310 = .ok (.if_icmp .le 7, 3) := by decide +kernel
theorem dX12_nextToken_313 : decode cX12_nextToken 313 = .ok (.iconst 4, 1) := by decide +kernel
theorem dX12_nextToken_314 : decode cX12_nextToken 314 = .ok (.goto 4, 3) := by decide +kernel
theorem dX12_nextToken_317 : decode cX12_nextToken 317 = .ok (.iconst 2, 1) := by decide +kernel
theorem dX12_nextToken_318 : decode cX12_nextToken 318 = .ok (.putfield 196, 3) := by decide +kernel
theorem dX12_nextToken_321 : decode cX12_nextToken 321 = .ok (.return_, 1) := by decide +kernel
theorem dX12_nextToken_322 : decode cX12_nextToken 322 = .ok (.aload_n 0, 1) := by decide +kernel
theorem dX12_nextToken_323 : decode cX12_nextToken 323 = .ok (.dup, 1) := by decide +kernel
theorem dX12_nextToken_324 : decode cX12_nextToken 324 = .ok (.getfield 183, 3) := by decide +kernel
theorem dX12_nextToken_327 : decode cX12_nextToken 327 = .ok (.iconst 1, 1) := by decide +kernel
theorem dX12_nextToken_328 : decode cX12_nextToken 328 = .ok (.iadd, 1) := by decide +kernel
theorem dX12_nextToken_329 : decode cX12_nextToken 329 = .ok (.putfield 183, 3) := by decide +kernel
theorem dX12_nextToken_332 : decode cX12_nextToken 332 = .ok (.aload_n 0, 1) := by decide +kernel
theorem dX12_nextToken_333 : decode cX12_nextToken 333 = .ok (.iload_n 1, 1) := by decide +kernel
theorem dX12_nextToken_334 : decode cX12_nextToken 334 = .ok (.bipush 40, 2) := by decide +kernel
theorem dX12_nextToken_336 : decode cX12_nextToken 336 = .ok (.if_icmp .lt 9, 3) := by decide +kernel
theorem dX12_nextToken_339 : decode cX12_nextToken 339 = .ok (.iload_n 1, 1) := by decide +kernel
theorem dX12_nextToken_340 : decode cX12_nextToken 340 = .ok (.bipush 43, 2) := by decide +kernel
theorem dX12_nextToken_342 : decode cX12_nextToken 342 = .ok (.if_icmp .le 21, 3) := by decide +kernel
theorem dX12_nextToken_345 : decode cX12_nextToken 345 = .ok (.iload_n 1, 1) := by decide +kernel
theorem dX12_nextToken_346 : decode cX12_nextToken 346 = .ok (.bipush 45, 2) := by decide +kernel
theorem dX12_nextToken_348 : decode cX12_nextToken 348 = .ok (.if_icmp .eq 15, 3) := by decide +kernel
theorem dX12_nextToken_351 : decode cX12_nextToken 351 = .ok (.iload_n 1, 1) := by decide +kernel
theorem dX12_nextToken_352 : decode cX12_nextToken 352 = .ok (.bipush 59, 2) := by decide +kernel
theorem dX12_nextToken_354 : decode cX12_nextToken 354 = .ok (.if_icmp .lt 13, 3) := by decide +kernel
theorem dX12_nextToken_357 : decode cX12_nextToken 357 = .ok (.iload_n 1, 1) := by decide +kernel
theorem dX12_nextToken_358 : decode cX12_nextToken 358 = .ok (.bipush 61, 2) := by decide +kernel
theorem dX12_nextToken_360 : decode cX12_nextToken 360 = .ok (.if_icmp .gt 7, 3) := by decide +kernel
theorem dX12_nextToken_363 : decode cX12_nextToken 363 = .ok (.iconst 3, 1) := by decide +kernel
theorem dX12_nextToken_364 : decode cX12_nextToken 364 = .ok (.goto 4, 3) := by decide +kernel
theorem dX12_nextToken_367 : decode cX12_nextToken 367 = .ok (.iconst 4, 1) := by decide +kernel
theorem dX12_nextToken_368 : decode cX12_nextToken 368 = .ok (.putfield 196, 3) := by decide +kernel
theorem dX12_nextToken_371 : decode cX12_nextToken 371 = .ok (.return_, 1) := by decide +kernel
theorem dX12_isWord_0 : decode cX12_isWord 0 = .ok (.aload_n 0, 1) := by decide +kernel
theorem dX12_isWord_1 : decode cX12_isWord 1 = .ok (.getfield 196, 3) := by decide +kernel
theorem dX12_isWord_4 : decode cX12_isWord 4 = .ok (.iconst 1, 1) := by decide +kernel
theorem dX12_isWord_5 : decode cX12_isWord 5 = .ok (.if_icmp .ne 16, 3) := by decide +kernel
theorem dX12_isWord_8 : decode cX12_isWord 8 = .ok (.aload_n 0, 1) := by decide +kernel
theorem dX12_isWord_9 : decode cX12_isWord 9 = .ok (.getfield 189, 3) := by decide +kernel
theorem dX12_isWord_12 : decode cX12_isWord 12 = .ok (.lload_n 1, 1) := by decide +kernel
theorem dX12_isWord_13 : decode cX12_isWord 13 = .ok (.lcmp, 1) := by decide +kernel
theorem dX12_isWord_14 : decode cX12_isWord 14 = .ok (.ifCond .ne 7, 3) := by decide +kernel
theorem dX12_isWord_17 : decode cX12_isWord 17 = .ok (.iconst 1, 1) := by decide +kernel
theorem dX12_isWord_18 : decode cX12_isWord 18 = .ok (.goto 4, 3) := by decide +kernel
theorem dX12_isWord_21 : decode cX12_isWord 21 = .ok (.iconst 0, 1) := by decide +kernel
theorem dX12_isWord_22 : decode cX12_isWord 22 = .ok (.ireturn, 1) := by decide +kernel
theorem dX12_isSign_0 : decode cX12_isSign 0 = .ok (.aload_n 0, 1) := by decide +kernel
theorem dX12_isSign_1 : decode cX12_isSign 1 = .ok (.getfield 196, 3) := by decide +kernel
theorem dX12_isSign_4 : decode cX12_isSign 4 = .ok (.iconst 3, 1) := by decide +kernel
theorem dX12_isSign_5 : decode cX12_isSign 5 = .ok (.if_icmp .ne 20, 3) := by decide +kernel
theorem dX12_isSign_8 : decode cX12_isSign 8 = .ok (.aload_n 0, 1) := by decide +kernel
theorem dX12_isSign_9 : decode cX12_isSign 9 = .ok (.getfield 7, 3) := by decide +kernel
theorem dX12_isSign_12 : decode cX12_isSign 12 = .ok (.aload_n 0, 1) := by decide +kernel
theorem dX12_isSign_13 : decode cX12_isSign 13 = .ok (.getfield 186, 3) := by decide +kernel
theorem dX12_isSign_16 : decode cX12_isSign 16 = .ok (.iaload, 1) := by decide +kernel
theorem dX12_isSign_17 : decode cX12_isSign 17 = .ok (.iload_n 1, 1) := by decide +kernel
theorem dX12_isSign_18 : decode cX12_isSign 18 = .ok (.if_icmp .ne 7, 3) := by decide +kernel
theorem dX12_isSign_21 : decode cX12_isSign 21 = .ok (.iconst 1, 1) := by decide +kernel
theorem dX12_isSign_22 : decode cX12_isSign 22 = .ok (.goto 4, 3) := by decide +kernel
theorem dX12_isSign_25 : decode cX12_isSign 25 = .ok (.iconst 0, 1) := by decide +kernel
theorem dX12_isSign_26 : decode cX12_isSign 26 = .ok (.ireturn, 1) := by decide +kernel
theorem dX12_fails_0 : decode cX12_fails 0 = .ok (.aload_n 0, 1) := by decide +kernel
theorem dX12_fails_1 : decode cX12_fails 1 = .ok (.iload_n 1, 1) := by decide +kernel
theorem dX12_fails_2 : decode cX12_fails 2 = .ok (.bipush 16, 2) := by decide +kernel
theorem dX12_fails_4 : decode cX12_fails 4 = .ok (.aload_n 0, 1) := by decide +kernel
theorem dX12_fails_5 : decode cX12_fails 5 = .ok (.getfield 186, 3) := by decide +kernel
theorem dX12_fails_8 : decode cX12_fails 8 = .ok (.imul, 1) := by decide +kernel
theorem dX12_fails_9 : decode cX12_fails 9 = .ok (.iadd, 1) := by decide +kernel
theorem dX12_fails_10 : decode cX12_fails 10 = .ok (.putfield 207, 3) := by decide +kernel
theorem dX12_fails_13 : decode cX12_fails 13 = .ok (.iconst 0, 1) := by decide +kernel
theorem dX12_fails_14 : decode cX12_fails 14 = .ok (.ireturn, 1) := by decide +kernel
theorem dX12_puts_0 : decode cX12_puts 0 = .ok (.aload_n 0, 1) := by decide +kernel
theorem dX12_puts_1 : decode cX12_puts 1 = .ok (.getfield 53, 3) := by decide +kernel
theorem dX12_puts_4 : decode cX12_puts 4 = .ok (.aload_n 0, 1) := by decide +kernel
theorem dX12_puts_5 : decode cX12_puts 5 = .ok (.getfield 210, 3) := by decide +kernel
theorem dX12_puts_8 : decode cX12_puts 8 = .ok (.iload_n 1, 1) := by decide +kernel
theorem dX12_puts_9 : decode cX12_puts 9 = .ok (.iastore, 1) := by decide +kernel
theorem dX12_puts_10 : decode cX12_puts 10 = .ok (.aload_n 0, 1) := by decide +kernel
theorem dX12_puts_11 : decode cX12_puts 11 = .ok (.dup, 1) := by decide +kernel
theorem dX12_puts_12 : decode cX12_puts 12 = .ok (.getfield 210, 3) := by decide +kernel
theorem dX12_puts_15 : decode cX12_puts 15 = .ok (.iconst 1, 1) := by decide +kernel
theorem dX12_puts_16 : decode cX12_puts 16 = .ok (.iadd, 1) := by decide +kernel
theorem dX12_puts_17 : decode cX12_puts 17 = .ok (.putfield 210, 3) := by decide +kernel
theorem dX12_puts_20 : decode cX12_puts 20 = .ok (.return_, 1) := by decide +kernel
theorem dX12_fact_0 : decode cX12_fact 0 = .ok (.aload_n 0, 1) := by decide +kernel
theorem dX12_fact_1 : decode cX12_fact 1 = .ok (.getfield 196, 3) := by decide +kernel
theorem dX12_fact_4 : decode cX12_fact 4 = .ok (.iconst 1, 1) := by decide +kernel
theorem dX12_fact_5 : decode cX12_fact 5 = .ok (.if_icmp .eq 5, 3) := by decide +kernel
theorem dX12_fact_8 : decode cX12_fact 8 = .ok (.iconst 0, 1) := by decide +kernel
theorem dX12_fact_9 : decode cX12_fact 9 = .ok (.ireturn, 1) := by decide +kernel
theorem dX12_fact_10 : decode cX12_fact 10 = .ok (.aload_n 0, 1) := by decide +kernel
theorem dX12_fact_11 : decode cX12_fact 11 = .ok (.getfield 213, 3) := by decide +kernel
theorem dX12_fact_14 : decode cX12_fact 14 = .ok (.ifCond .ne 50, 3) := by decide +kernel
theorem dX12_fact_17 : decode cX12_fact 17 = .ok (.aload_n 0, 1) := by decide +kernel
theorem dX12_fact_18 : decode cX12_fact 18 = .ok (.getfield 189, 3) := by decide +kernel
theorem dX12_fact_21 : decode cX12_fact 21 = .ok (.ldc2_w 216, 3) := by decide +kernel
theorem dX12_fact_24 : decode cX12_fact 24 = .ok (.lcmp, 1) := by decide +kernel
theorem dX12_fact_25 : decode cX12_fact 25 = .ok (.ifCond .ne 7, 3) := by decide +kernel
