theorem dX0_init_0 : decode cX0_init 0 = .ok (.aload_n 0, 1) := by decide +kernel
theorem dX0_init_1 : decode cX0_init 1 = .ok (.invokespecial 3, 3) := by decide +kernel
theorem dX0_init_4 : decode cX0_init 4 = .ok (.aload_n 0, 1) := by decide +kernel
theorem dX0_init_5 : decode cX0_init 5 = .ok (.new 9, 3) := by decide +kernel
theorem dX0_init_8 : decode cX0_init 8 = .ok (.dup, 1) := by decide +kernel
theorem dX0_init_9 : decode cX0_init 9 = .ok (.invokespecial 11, 3) := by decide +kernel
theorem dX0_init_12 : decode cX0_init 12 = .ok (.putfield 12, 3) := by decide +kernel
theorem dX0_init_15 : decode cX0_init 15 = .ok (.aload_n 0, 1) := by decide +kernel
theorem dX0_init_16 : decode cX0_init 16 = .ok (.new 18, 3) := by decide +kernel
theorem dX0_init_19 : decode cX0_init 19 = .ok (.dup, 1) := by decide +kernel
theorem dX0_init_20 : decode cX0_init 20 = .ok (.invokespecial 20, 3) := by decide +kernel
theorem dX0_init_23 : decode cX0_init 23 = .ok (.putfield 21, 3) := by decide +kernel
theorem dX0_init_26 : decode cX0_init 26 = .ok (.aload_n 0, 1) := by decide +kernel
theorem dX0_init_27 : decode cX0_init 27 = .ok (.new 25, 3) := by decide +kernel
theorem dX0_init_30 : decode cX0_init 30 = .ok (.dup, 1) := by decide +kernel
theorem dX0_init_31 : decode cX0_init 31 = .ok (.invokespecial 27, 3) := by decide +kernel
theorem dX0_init_34 : decode cX0_init 34 = .ok (.putfield 28, 3) := by decide +kernel
theorem dX0_init_37 : decode cX0_init 37 = .ok (.aload_n 0, 1) := by decide +kernel
theorem dX0_init_38 : decode cX0_init 38 = .ok (.bipush 6, 2) := by decide +kernel
theorem dX0_init_40 : decode cX0_init 40 = .ok (.newarray .int, 2) := by decide +kernel
theorem dX0_init_42 : decode cX0_init 42 = .ok (.dup, 1) := by decide +kernel
theorem dX0_init_43 : decode cX0_init 43 = .ok (.iconst 0, 1) := by decide +kernel
theorem dX0_init_44 : decode cX0_init 44 = .ok (.iconst (-1), 1) := by decide +kernel
theorem dX0_init_45 : decode cX0_init 45 = .ok (.iastore, 1) := by decide +kernel
theorem dX0_init_46 : decode cX0_init 46 = .ok (.dup, 1) := by decide +kernel
theorem dX0_init_47 : decode cX0_init 47 = .ok (.iconst 1, 1) := by decide +kernel
theorem dX0_init_48 : decode cX0_init 48 = .ok (.iconst (-1), 1) := by decide +kernel
theorem dX0_init_49 : decode cX0_init 49 = .ok (.iastore, 1) := by decide +kernel
theorem dX0_init_50 : decode cX0_init 50 = .ok (.dup, 1) := by decide +kernel
theorem dX0_init_51 : decode cX0_init 51 = .ok (.iconst 2, 1) := by decide +kernel
theorem dX0_init_52 : decode cX0_init 52 = .ok (.iconst (-1), 1) := by decide +kernel
theorem dX0_init_53 : decode cX0_init 53 = .ok (.iastore, 1) := by decide +kernel
theorem dX0_init_54 : decode cX0_init 54 = .ok (.dup, 1) := by decide +kernel
theorem dX0_init_55 : decode cX0_init 55 = .ok (.iconst 3, 1) := by decide +kernel
theorem dX0_init_56 : decode cX0_init 56 = .ok (.iconst (-1), 1) := by decide +kernel
theorem dX0_init_57 : decode cX0_init 57 = .ok (.iastore, 1) := by decide +kernel
theorem dX0_init_58 : decode cX0_init 58 = .ok (.dup, 1) := by decide +kernel
theorem dX0_init_59 : decode cX0_init 59 = .ok (.iconst 4, 1) := by decide +kernel
theorem dX0_init_60 : decode cX0_init 60 = .ok (.iconst (-1), 1) := by decide +kernel
theorem dX0_init_61 : decode cX0_init 61 = .ok (.iastore, 1) := by decide +kernel
theorem dX0_init_62 : decode cX0_init 62 = .ok (.dup, 1) := by decide +kernel
theorem dX0_init_63 : decode cX0_init 63 = .ok (.iconst 5, 1) := by decide +kernel
theorem dX0_init_64 : decode cX0_init 64 = .ok (.iconst (-1), 1) := by decide +kernel
theorem dX0_init_65 : decode cX0_init 65 = .ok (.iastore, 1) := by decide +kernel
theorem dX0_init_66 : decode cX0_init 66 = .ok (.putfield 32, 3) := by decide +kernel
theorem dX0_init_69 : decode cX0_init 69 = .ok (.return_, 1) := by decide +kernel
theorem dX0_clear_0 : decode cX0_clear 0 = .ok (.aload_n 0, 1) := by decide +kernel
theorem dX0_clear_1 : decode cX0_clear 1 = .ok (.getfield 12, 3) := by decide +kernel
theorem dX0_clear_4 : decode cX0_clear 4 = .ok (.invokevirtual 36, 3) := by decide +kernel
theorem dX0_clear_7 : decode cX0_clear 7 = .ok (.aload_n 0, 1) := by decide +kernel
theorem dX0_clear_8 : decode cX0_clear 8 = .ok (.getfield 21, 3) := by decide +kernel
theorem dX0_clear_11 : decode cX0_clear 11 = .ok (.iconst 0, 1) := by decide +kernel
theorem dX0_clear_12 : decode cX0_clear 12 = .ok (.putfield 39, 3) := by decide +kernel
theorem dX0_clear_15 : decode cX0_clear 15 = .ok (.aload_n 0, 1) := by decide +kernel
theorem dX0_clear_16 : decode cX0_clear 16 = .ok (.getfield 28, 3) := by decide +kernel
theorem dX0_clear_19 : decode cX0_clear 19 = .ok (.iconst 0, 1) := by decide +kernel
theorem dX0_clear_20 : decode cX0_clear 20 = .ok (.putfield 43, 3) := by decide +kernel
theorem dX0_clear_23 : decode cX0_clear 23 = .ok (.aload_n 0, 1) := by decide +kernel
theorem dX0_clear_24 : decode cX0_clear 24 = .ok (.invokevirtual 44, 3) := by decide +kernel
theorem dX0_clear_27 : decode cX0_clear 27 = .ok (.return_, 1) := by decide +kernel
theorem dX0_forgetTilts_0 : decode cX0_forgetTilts 0 = .ok (.iconst 0, 1) := by decide +kernel
theorem dX0_forgetTilts_1 : decode cX0_forgetTilts 1 = .ok (.istore_n 1, 1) := by decide +kernel
theorem dX0_forgetTilts_2 : decode cX0_forgetTilts 2 = .ok (.iload_n 1, 1) := by decide +kernel
theorem dX0_forgetTilts_3 : decode cX0_forgetTilts 3 = .ok (.bipush 6, 2) := by decide +kernel
theorem dX0_forgetTilts_5 : decode cX0_forgetTilts 5 = .ok (.if_icmp .ge 16, 3) := by decide +kernel
theorem dX0_forgetTilts_8 : decode cX0_forgetTilts 8 = .ok (.aload_n 0, 1) := by decide +kernel
theorem dX0_forgetTilts_9 : decode cX0_forgetTilts 9 = .ok (.getfield 32, 3) := by decide +kernel
theorem dX0_forgetTilts_12 : decode cX0_forgetTilts 12 = .ok (.iload_n 1, 1) := by decide +kernel
theorem dX0_forgetTilts_13 : decode cX0_forgetTilts 13 = .ok (.iconst (-1), 1) := by decide +kernel
theorem dX0_forgetTilts_14 : decode cX0_forgetTilts 14 = .ok (.iastore, 1) := by decide +kernel
theorem dX0_forgetTilts_15 : decode cX0_forgetTilts 15 = .ok (.iinc 1 1, 3) := by decide +kernel
theorem dX0_forgetTilts_18 : decode cX0_forgetTilts 18 = .ok (.goto (-16), 3) := by decide +kernel
theorem dX0_forgetTilts_21 : decode cX0_forgetTilts 21 = .ok (.return_, 1) := by decide +kernel
theorem dX0_tiltsTold_0 : decode cX0_tiltsTold 0 = .ok (.iconst 0, 1) := by decide +kernel
theorem dX0_tiltsTold_1 : decode cX0_tiltsTold 1 = .ok (.istore_n 1, 1) := by decide +kernel
theorem dX0_tiltsTold_2 : decode cX0_tiltsTold 2 = .ok (.iconst 0, 1) := by decide +kernel
theorem dX0_tiltsTold_3 : decode cX0_tiltsTold 3 = .ok (.istore_n 2, 1) := by decide +kernel
theorem dX0_tiltsTold_4 : decode cX0_tiltsTold 4 = .ok (.iload_n 2, 1) := by decide +kernel
theorem dX0_tiltsTold_5 : decode cX0_tiltsTold 5 = .ok (.bipush 6, 2) := by decide +kernel
theorem dX0_tiltsTold_7 : decode cX0_tiltsTold 7 = .ok (.if_icmp .ge 22, 3) := by decide +kernel
theorem dX0_tiltsTold_10 : decode cX0_tiltsTold 10 = .ok (.aload_n 0, 1) := by decide +kernel
theorem dX0_tiltsTold_11 : decode cX0_tiltsTold 11 = .ok (.getfield 32, 3) := by decide +kernel
theorem dX0_tiltsTold_14 : decode cX0_tiltsTold 14 = .ok (.iload_n 2, 1) := by decide +kernel
theorem dX0_tiltsTold_15 : decode cX0_tiltsTold 15 = .ok (.iaload, 1) := by decide +kernel
theorem dX0_tiltsTold_16 : decode cX0_tiltsTold 16 = .ok (.iconst (-1), 1) := by decide +kernel
theorem dX0_tiltsTold_17 : decode cX0_tiltsTold 17 = .ok (.if_icmp .eq 6, 3) := by decide +kernel
theorem dX0_tiltsTold_20 : decode cX0_tiltsTold 20 = .ok (.iinc 1 1, 3) := by decide +kernel
theorem dX0_tiltsTold_23 : decode cX0_tiltsTold 23 = .ok (.iinc 2 1, 3) := by decide +kernel
theorem dX0_tiltsTold_26 : decode cX0_tiltsTold 26 = .ok (.goto (-22), 3) := by decide +kernel
theorem dX0_tiltsTold_29 : decode cX0_tiltsTold 29 = .ok (.iload_n 1, 1) := by decide +kernel
theorem dX0_tiltsTold_30 : decode cX0_tiltsTold 30 = .ok (.ireturn, 1) := by decide +kernel
theorem dX0_copy_0 : decode cX0_copy 0 = .ok (.aload_n 0, 1) := by decide +kernel
theorem dX0_copy_1 : decode cX0_copy 1 = .ok (.getfield 12, 3) := by decide +kernel
theorem dX0_copy_4 : decode cX0_copy 4 = .ok (.aload_n 1, 1) := by decide +kernel
theorem dX0_copy_5 : decode cX0_copy 5 = .ok (.getfield 12, 3) := by decide +kernel
theorem dX0_copy_8 : decode cX0_copy 8 = .ok (.invokevirtual 47, 3) := by decide +kernel
theorem dX0_copy_11 : decode cX0_copy 11 = .ok (.aload_n 0, 1) := by decide +kernel
theorem dX0_copy_12 : decode cX0_copy 12 = .ok (.getfield 21, 3) := by decide +kernel
theorem dX0_copy_15 : decode cX0_copy 15 = .ok (.aload_n 1, 1) := by decide +kernel
theorem dX0_copy_16 : decode cX0_copy 16 = .ok (.getfield 21, 3) := by decide +kernel
theorem dX0_copy_19 : decode cX0_copy 19 = .ok (.invokevirtual 51, 3) := by decide +kernel
theorem dX0_copy_22 : decode cX0_copy 22 = .ok (.aload_n 0, 1) := by decide +kernel
theorem dX0_copy_23 : decode cX0_copy 23 = .ok (.getfield 28, 3) := by decide +kernel
theorem dX0_copy_26 : decode cX0_copy 26 = .ok (.aload_n 1, 1) := by decide +kernel
theorem dX0_copy_27 : decode cX0_copy 27 = .ok (.getfield 28, 3) := by decide +kernel
theorem dX0_copy_30 : decode cX0_copy 30 = .ok (.invokevirtual 54, 3) := by decide +kernel
theorem dX0_copy_33 : decode cX0_copy 33 = .ok (.iconst 0, 1) := by decide +kernel
theorem dX0_copy_34 : decode cX0_copy 34 = .ok (.istore_n 2, 1) := by decide +kernel
theorem dX0_copy_35 : decode cX0_copy 35 = .ok (.iload_n 2, 1) := by decide +kernel
theorem dX0_copy_36 : decode cX0_copy 36 = .ok (.bipush 6, 2) := by decide +kernel
theorem dX0_copy_38 : decode cX0_copy 38 = .ok (.if_icmp .ge 21, 3) := by decide +kernel
theorem dX0_copy_41 : decode cX0_copy 41 = .ok (.aload_n 0, 1) := by decide +kernel
theorem dX0_copy_42 : decode cX0_copy 42 = .ok (.getfield 32, 3) := by decide +kernel
theorem dX0_copy_45 : decode cX0_copy 45 = .ok (.iload_n 2, 1) := by decide +kernel
theorem dX0_copy_46 : decode cX0_copy 46 = .ok (.aload_n 1, 1) := by decide +kernel
theorem dX0_copy_47 : decode cX0_copy 47 = .ok (.getfield 32, 3) := by decide +kernel
theorem dX0_copy_50 : decode cX0_copy 50 = .ok (.iload_n 2, 1) := by decide +kernel
theorem dX0_copy_51 : decode cX0_copy 51 = .ok (.iaload, 1) := by decide +kernel
theorem dX0_copy_52 : decode cX0_copy 52 = .ok (.iastore, 1) := by decide +kernel
theorem dX0_copy_53 : decode cX0_copy 53 = .ok (.iinc 2 1, 3) := by decide +kernel
theorem dX0_copy_56 : decode cX0_copy 56 = .ok (.goto (-21), 3) := by decide +kernel
theorem dX0_copy_59 : decode cX0_copy 59 = .ok (.return_, 1) := by decide +kernel
theorem dX1_init_0 : decode cX1_init 0 = .ok (.aload_n 0, 1) := by decide +kernel
theorem dX1_init_1 : decode cX1_init 1 = .ok (.invokespecial 3, 3) := by decide +kernel
theorem dX1_init_4 : decode cX1_init 4 = .ok (.aload_n 0, 1) := by decide +kernel
theorem dX1_init_5 : decode cX1_init 5 = .ok (.bipush 6, 2) := by decide +kernel
theorem dX1_init_7 : decode cX1_init 7 = .ok (.bipush 6, 2) := by decide +kernel
theorem dX1_init_9 : decode cX1_init 9 = .ok (.multianewarray 9 2, 4) := by decide +kernel
theorem dX1_init_13 : decode cX1_init 13 = .ok (.putfield 11, 3) := by decide +kernel
theorem dX1_init_16 : decode cX1_init 16 = .ok (.aload_n 0, 1) := by decide +kernel
theorem dX1_init_17 : decode cX1_init 17 = .ok (.bipush 64, 2) := by decide +kernel
theorem dX1_init_19 : decode cX1_init 19 = .ok (.newarray .int, 2) := by decide +kernel
theorem dX1_init_21 : decode cX1_init 21 = .ok (.putfield 16, 3) := by decide +kernel
theorem dX1_init_24 : decode cX1_init 24 = .ok (.aload_n 0, 1) := by decide +kernel
theorem dX1_init_25 : decode cX1_init 25 = .ok (.bipush 10, 2) := by decide +kernel
theorem dX1_init_27 : decode cX1_init 27 = .ok (.newarray .int, 2) := by decide +kernel
theorem dX1_init_29 : decode cX1_init 29 = .ok (.putfield 20, 3) := by decide +kernel
theorem dX1_init_32 : decode cX1_init 32 = .ok (.aload_n 0, 1) := by decide +kernel
theorem dX1_init_33 : decode cX1_init 33 = .ok (.bipush 6, 2) := by decide +kernel
theorem dX1_init_35 : decode cX1_init 35 = .ok (.newarray .int, 2) := by decide +kernel
theorem dX1_init_37 : decode cX1_init 37 = .ok (.putfield 23, 3) := by decide +kernel
theorem dX1_init_40 : decode cX1_init 40 = .ok (.aload_n 0, 1) := by decide +kernel
theorem dX1_init_41 : decode cX1_init 41 = .ok (.bipush 6, 2) := by decide +kernel
theorem dX1_init_43 : decode cX1_init 43 = .ok (.newarray .int, 2) := by decide +kernel
theorem dX1_init_45 : decode cX1_init 45 = .ok (.putfield 26, 3) := by decide +kernel
theorem dX1_init_48 : decode cX1_init 48 = .ok (.return_, 1) := by decide +kernel
theorem dX1_measure_0 : decode cX1_measure 0 = .ok (.aload_n 0, 1) := by decide +kernel
theorem dX1_measure_1 : decode cX1_measure 1 = .ok (.aload_n 1, 1) := by decide +kernel
theorem dX1_measure_2 : decode cX1_measure 2 = .ok (.getfield 29, 3) := by decide +kernel
theorem dX1_measure_5 : decode cX1_measure 5 = .ok (.putfield 35, 3) := by decide +kernel
theorem dX1_measure_8 : decode cX1_measure 8 = .ok (.aload_n 0, 1) := by decide +kernel
theorem dX1_measure_9 : decode cX1_measure 9 = .ok (.aload_n 1, 1) := by decide +kernel
theorem dX1_measure_10 : decode cX1_measure 10 = .ok (.getfield 36, 3) := by decide +kernel
theorem dX1_measure_13 : decode cX1_measure 13 = .ok (.putfield 39, 3) := by decide +kernel
theorem dX1_measure_16 : decode cX1_measure 16 = .ok (.iconst 0, 1) := by decide +kernel
theorem dX1_measure_17 : decode cX1_measure 17 = .ok (.istore_n 3, 1) := by decide +kernel
theorem dX1_measure_18 : decode cX1_measure 18 = .ok (.iload_n 3, 1) := by decide +kernel
theorem dX1_measure_19 : decode cX1_measure 19 = .ok (.aload_n 0, 1) := by decide +kernel
theorem dX1_measure_20 : decode cX1_measure 20 = .ok (.getfield 39, 3) := by decide +kernel
theorem dX1_measure_23 : decode cX1_measure 23 = .ok (.if_icmp .ge 70, 3) := by decide +kernel
theorem dX1_measure_26 : decode cX1_measure 26 = .ok (.aload_n 1, 1) := by decide +kernel
theorem dX1_measure_27 : decode cX1_measure 27 = .ok (.iload_n 3, 1) := by decide +kernel
theorem dX1_measure_28 : decode cX1_measure 28 = .ok (.iload_n 2, 1) := by decide +kernel
theorem dX1_measure_29 : decode cX1_measure 29 = .ok (.invokevirtual 40, 3) := by decide +kernel
theorem dX1_measure_32 : decode cX1_measure 32 = .ok (.istore 4, 2) := by decide +kernel
theorem dX1_measure_34 : decode cX1_measure 34 = .ok (.iconst 0, 1) := by decide +kernel
theorem dX1_measure_35 : decode cX1_measure 35 = .ok (.istore 5, 2) := by decide +kernel
theorem dX1_measure_37 : decode cX1_measure 37 = .ok (.iload 5, 2) := by decide +kernel
theorem dX1_measure_39 : decode cX1_measure 39 = .ok (.aload_n 0, 1) := by decide +kernel
theorem dX1_measure_40 : decode cX1_measure 40 = .ok (.getfield 35, 3) := by decide +kernel
theorem dX1_measure_43 : decode cX1_measure 43 = .ok (.if_icmp .ge 44, 3) := by decide +kernel
theorem dX1_measure_46 : decode cX1_measure 46 = .ok (.aload_n 1, 1) := by decide +kernel
theorem dX1_measure_47 : decode cX1_measure 47 = .ok (.iload 5, 2) := by decide +kernel
theorem dX1_measure_49 : decode cX1_measure 49 = .ok (.invokevirtual 44, 3) := by decide +kernel
theorem dX1_measure_52 : decode cX1_measure 52 = .ok (.iload 4, 2) := by decide +kernel
theorem dX1_measure_54 : decode cX1_measure 54 = .ok (.isub, 1) := by decide +kernel
theorem dX1_measure_55 : decode cX1_measure 55 = .ok (.istore 6, 2) := by decide +kernel
theorem dX1_measure_57 : decode cX1_measure 57 = .ok (.aload_n 0, 1) := by decide +kernel
theorem dX1_measure_58 : decode cX1_measure 58 = .ok (.getfield 11, 3) := by decide +kernel
theorem dX1_measure_61 : decode cX1_measure 61 = .ok (.iload 5, 2) := by decide +kernel
theorem dX1_measure_63 : decode cX1_measure 63 = .ok (.aaload, 1) := by decide +kernel
theorem dX1_measure_64 : decode cX1_measure 64 = .ok (.iload_n 3, 1) := by decide +kernel
theorem dX1_measure_65 : decode cX1_measure 65 = .ok (.aload_n 1, 1) := by decide +kernel
theorem dX1_measure_66 : decode cX1_measure 66 = .ok (.iload 6, 2) := by decide +kernel
theorem dX1_measure_68 : decode cX1_measure 68 = .ok (.invokevirtual 48, 3) := by decide +kernel
theorem dX1_measure_71 : decode cX1_measure 71 = .ok (.ifCond .eq 8, 3) := by decide +kernel
theorem dX1_measure_74 : decode cX1_measure 74 = .ok (.iload 6, 2) := by decide +kernel
theorem dX1_measure_76 : decode cX1_measure 76 = .ok (.goto 4, 3) := by decide +kernel
theorem dX1_measure_79 : decode cX1_measure 79 = .ok (.iconst (-1), 1) := by decide +kernel
theorem dX1_measure_80 : decode cX1_measure 80 = .ok (.iastore, 1) := by decide +kernel
theorem dX1_measure_81 : decode cX1_measure 81 = .ok (.iinc 5 1, 3) := by decide +kernel
theorem dX1_measure_84 : decode cX1_measure 84 = .ok (.goto (-47), 3) := by decide +kernel
theorem dX1_measure_87 : decode cX1_measure 87 = .ok (.iinc 3 1, 3) := by decide +kernel
theorem dX1_measure_90 : decode cX1_measure 90 = .ok (.goto (-72), 3) := by decide +kernel
theorem dX1_measure_93 : decode cX1_measure 93 = .ok (.return_, 1) := by decide +kernel
theorem dX1_tiltOf_0 : decode cX1_tiltOf 0 = .ok (.iload_n 1, 1) := by decide +kernel
theorem dX1_tiltOf_1 : decode cX1_tiltOf 1 = .ok (.ifCond .lt 34, 3) := by decide +kernel
theorem dX1_tiltOf_4 : decode cX1_tiltOf 4 = .ok (.iload_n 1, 1) := by decide +kernel
theorem dX1_tiltOf_5 : decode cX1_tiltOf 5 = .ok (.aload_n 0, 1) := by decide +kernel
theorem dX1_tiltOf_6 : decode cX1_tiltOf 6 = .ok (.getfield 35, 3) := by decide +kernel
theorem dX1_tiltOf_9 : decode cX1_tiltOf 9 = .ok (.if_icmp .ge 26, 3) := by decide +kernel
theorem dX1_tiltOf_12 : decode cX1_tiltOf 12 = .ok (.iload_n 2, 1) := by decide +kernel
theorem dX1_tiltOf_13 : decode cX1_tiltOf 13 = .ok (.ifCond .lt 22, 3) := by decide +kernel
theorem dX1_tiltOf_16 : decode cX1_tiltOf 16 = .ok (.iload_n 2, 1) := by decide +kernel
theorem dX1_tiltOf_17 : decode cX1_tiltOf 17 = .ok (.aload_n 0, 1) := by decide +kernel
theorem dX1_tiltOf_18 : decode cX1_tiltOf 18 = .ok (.getfield 39, 3) := by decide +kernel
theorem dX1_tiltOf_21 : decode cX1_tiltOf 21 = .ok (.if_icmp .ge 14, 3) := by decide +kernel
theorem dX1_tiltOf_24 : decode cX1_tiltOf 24 = .ok (.aload_n 0, 1) := by decide +kernel
theorem dX1_tiltOf_25 : decode cX1_tiltOf 25 = .ok (.getfield 11, 3) := by decide +kernel
theorem dX1_tiltOf_28 : decode cX1_tiltOf 28 = .ok (.iload_n 1, 1) := by decide +kernel
theorem dX1_tiltOf_29 : decode cX1_tiltOf 29 = .ok (.aaload, 1) := by decide +kernel
theorem dX1_tiltOf_30 : decode cX1_tiltOf 30 = .ok (.iload_n 2, 1) := by decide +kernel
theorem dX1_tiltOf_31 : decode cX1_tiltOf 31 = .ok (.iaload, 1) := by decide +kernel
theorem dX1_tiltOf_32 : decode cX1_tiltOf 32 = .ok (.goto 4, 3) := by decide +kernel
theorem dX1_tiltOf_35 : decode cX1_tiltOf 35 = .ok (.iconst (-1), 1) := by decide +kernel
theorem dX1_tiltOf_36 : decode cX1_tiltOf 36 = .ok (.ireturn, 1) := by decide +kernel
theorem dX1_layWays_0 : decode cX1_layWays 0 = .ok (.iconst 0, 1) := by decide +kernel
theorem dX1_layWays_1 : decode cX1_layWays 1 = .ok (.istore_n 3, 1) := by decide +kernel
theorem dX1_layWays_2 : decode cX1_layWays 2 = .ok (.iload_n 3, 1) := by decide +kernel
theorem dX1_layWays_3 : decode cX1_layWays 3 = .ok (.bipush 64, 2) := by decide +kernel
theorem dX1_layWays_5 : decode cX1_layWays 5 = .ok (.if_icmp .ge 24, 3) := by decide +kernel
theorem dX1_layWays_8 : decode cX1_layWays 8 = .ok (.aload_n 0, 1) := by decide +kernel
theorem dX1_layWays_9 : decode cX1_layWays 9 = .ok (.getfield 16, 3) := by decide +kernel
theorem dX1_layWays_12 : decode cX1_layWays 12 = .ok (.iload_n 3, 1) := by decide +kernel
theorem dX1_layWays_13 : decode cX1_layWays 13 = .ok (.iload_n 3, 1) := by decide +kernel
theorem dX1_layWays_14 : decode cX1_layWays 14 = .ok (.ifCond .ne 7, 3) := by decide +kernel
theorem dX1_layWays_17 : decode cX1_layWays 17 = .ok (.iconst 1, 1) := by decide +kernel
theorem dX1_layWays_18 : decode cX1_layWays 18 = .ok (.goto 4, 3) := by decide +kernel
theorem dX1_layWays_21 : decode cX1_layWays 21 = .ok (.iconst 0, 1) := by decide +kernel
theorem dX1_layWays_22 : decode cX1_layWays 22 = .ok (.iastore, 1) := by decide +kernel
theorem dX1_layWays_23 : decode cX1_layWays 23 = .ok (.iinc 3 1, 3) := by decide +kernel
theorem dX1_layWays_26 : decode cX1_layWays 26 = .ok (.goto (-24), 3) := by decide +kernel
theorem dX1_layWays_29 : decode cX1_layWays 29 = .ok (.iconst 0, 1) := by decide +kernel
theorem dX1_layWays_30 : decode cX1_layWays 30 = .ok (.istore_n 3, 1) := by decide +kernel
theorem dX1_layWays_31 : decode cX1_layWays 31 = .ok (.iload_n 3, 1) := by decide +kernel
theorem dX1_layWays_32 : decode cX1_layWays 32 = .ok (.aload_n 0, 1) := by decide +kernel
theorem dX1_layWays_33 : decode cX1_layWays 33 = .ok (.getfield 35, 3) := by decide +kernel
theorem dX1_layWays_36 : decode cX1_layWays 36 = .ok (.if_icmp .ge 29, 3) := by decide +kernel
theorem dX1_layWays_39 : decode cX1_layWays 39 = .ok (.aload_n 1, 1) := by decide +kernel
theorem dX1_layWays_40 : decode cX1_layWays 40 = .ok (.iload_n 3, 1) := by decide +kernel
theorem dX1_layWays_41 : decode cX1_layWays 41 = .ok (.iaload, 1) := by decide +kernel
theorem dX1_layWays_42 : decode cX1_layWays 42 = .ok (.iconst (-1), 1) := by decide +kernel
theorem dX1_layWays_43 : decode cX1_layWays 43 = .ok (.if_icmp .eq 16, 3) := by decide +kernel
theorem dX1_layWays_46 : decode cX1_layWays 46 = .ok (.iload_n 3, 1) := by decide +kernel
theorem dX1_layWays_47 : decode cX1_layWays 47 = .ok (.iload_n 2, 1) := by decide +kernel
theorem dX1_layWays_48 : decode cX1_layWays 48 = .ok (.if_icmp .eq 11, 3) := by decide +kernel
theorem dX1_layWays_51 : decode cX1_layWays 51 = .ok (.aload_n 0, 1) := by decide +kernel
theorem dX1_layWays_52 : decode cX1_layWays 52 = .ok (.iload_n 3, 1) := by decide +kernel
theorem dX1_layWays_53 : decode cX1_layWays 53 = .ok (.aload_n 1, 1) := by decide +kernel
theorem dX1_layWays_54 : decode cX1_layWays 54 = .ok (.iload_n 3, 1) := by decide +kernel
theorem dX1_layWays_55 : decode cX1_layWays 55 = .ok (.iaload, 1) := by decide +kernel
theorem dX1_layWays_56 : decode cX1_layWays 56 = .ok (.invokevirtual 52, 3) := by decide +kernel
theorem dX1_layWays_59 : decode cX1_layWays 59 = .ok (.iinc 3 1, 3) := by decide +kernel
theorem dX1_layWays_62 : decode cX1_layWays 62 = .ok (.goto (-31), 3) := by decide +kernel
theorem dX1_layWays_65 : decode cX1_layWays 65 = .ok (.return_, 1) := by decide +kernel
theorem dX1_layUnder_0 : decode cX1_layUnder 0 = .ok (.bipush 63, 2) := by decide +kernel
theorem dX1_layUnder_2 : decode cX1_layUnder 2 = .ok (.istore_n 3, 1) := by decide +kernel
theorem dX1_layUnder_3 : decode cX1_layUnder 3 = .ok (.iload_n 3, 1) := by decide +kernel
theorem dX1_layUnder_4 : decode cX1_layUnder 4 = .ok (.ifCond .lt 77, 3) := by decide +kernel
theorem dX1_layUnder_7 : decode cX1_layUnder 7 = .ok (.iconst 0, 1) := by decide +kernel
theorem dX1_layUnder_8 : decode cX1_layUnder 8 = .ok (.istore 4, 2) := by decide +kernel
theorem dX1_layUnder_10 : decode cX1_layUnder 10 = .ok (.iconst 0, 1) := by decide +kernel
theorem dX1_layUnder_11 : decode cX1_layUnder 11 = .ok (.istore 5, 2) := by decide +kernel
theorem dX1_layUnder_13 : decode cX1_layUnder 13 = .ok (.iload 5, 2) := by decide +kernel
theorem dX1_layUnder_15 : decode cX1_layUnder 15 = .ok (.aload_n 0, 1) := by decide +kernel
theorem dX1_layUnder_16 : decode cX1_layUnder 16 = .ok (.getfield 39, 3) := by decide +kernel
theorem dX1_layUnder_19 : decode cX1_layUnder 19 = .ok (.if_icmp .ge 48, 3) := by decide +kernel
theorem dX1_layUnder_22 : decode cX1_layUnder 22 = .ok (.iload_n 3, 1) := by decide +kernel
theorem dX1_layUnder_23 : decode cX1_layUnder 23 = .ok (.iload 5, 2) := by decide +kernel
theorem dX1_layUnder_25 : decode cX1_layUnder 25 = .ok (.ishr, 1) := by decide +kernel
theorem dX1_layUnder_26 : decode cX1_layUnder 26 = .ok (.iconst 1, 1) := by decide +kernel
theorem dX1_layUnder_27 : decode cX1_layUnder 27 = .ok (.iand, 1) := by decide +kernel
theorem dX1_layUnder_28 : decode cX1_layUnder 28 = .ok (.iconst 1, 1) := by decide +kernel
theorem dX1_layUnder_29 : decode cX1_layUnder 29 = .ok (.if_icmp .ne 32, 3) := by decide +kernel
theorem dX1_layUnder_32 : decode cX1_layUnder 32 = .ok (.aload_n 0, 1) := by decide +kernel
theorem dX1_layUnder_33 : decode cX1_layUnder 33 = .ok (.getfield 11, 3) := by decide +kernel
theorem dX1_layUnder_36 : decode cX1_layUnder 36 = .ok (.iload_n 1, 1) := by decide +kernel
theorem dX1_layUnder_37 : decode cX1_layUnder 37 = .ok (.aaload, 1) := by decide +kernel
theorem dX1_layUnder_38 : decode cX1_layUnder 38 = .ok (.iload 5, 2) := by decide +kernel
theorem dX1_layUnder_40 : decode cX1_layUnder 40 = .ok (.iaload, 1) := by decide +kernel
theorem dX1_layUnder_41 : decode cX1_layUnder 41 = .ok (.iload_n 2, 1) := by decide +kernel
theorem dX1_layUnder_42 : decode cX1_layUnder 42 = .ok (.if_icmp .ne 19, 3) := by decide +kernel
theorem dX1_layUnder_45 : decode cX1_layUnder 45 = .ok (.iload 4, 2) := by decide +kernel
theorem dX1_layUnder_47 : decode cX1_layUnder 47 = .ok (.aload_n 0, 1) := by decide +kernel
theorem dX1_layUnder_48 : decode cX1_layUnder 48 = .ok (.getfield 16, 3) := by decide +kernel
theorem dX1_layUnder_51 : decode cX1_layUnder 51 = .ok (.iload_n 3, 1) := by decide +kernel
theorem dX1_layUnder_52 : decode cX1_layUnder 52 = .ok (.iconst 1, 1) := by decide +kernel
theorem dX1_layUnder_53 : decode cX1_layUnder 53 = .ok (.iload 5, 2) := by decide +kernel
theorem dX1_layUnder_55 : decode cX1_layUnder 55 = .ok (.ishl, 1) := by decide +kernel
theorem dX1_layUnder_56 : decode cX1_layUnder 56 = .ok (.ixor, 1) := by decide +kernel
theorem dX1_layUnder_57 : decode cX1_layUnder 57 = .ok (.iaload, 1) := by decide +kernel
theorem dX1_layUnder_58 : decode cX1_layUnder 58 = .ok (.iadd, 1) := by decide +kernel
theorem dX1_layUnder_59 : decode cX1_layUnder 59 = .ok (.istore 4, 2) := by decide +kernel
theorem dX1_layUnder_61 : decode cX1_layUnder 61 = .ok (.iinc 5 1, 3) := by decide +kernel
theorem dX1_layUnder_64 : decode cX1_layUnder 64 = .ok (.goto (-51), 3) := by decide +kernel
theorem dX1_layUnder_67 : decode cX1_layUnder 67 = .ok (.aload_n 0, 1) := by decide +kernel
theorem dX1_layUnder_68 : decode cX1_layUnder 68 = .ok (.getfield 16, 3) := by decide +kernel
theorem dX1_layUnder_71 : decode cX1_layUnder 71 = .ok (.iload_n 3, 1) := by decide +kernel
theorem dX1_layUnder_72 : decode cX1_layUnder 72 = .ok (.iload 4, 2) := by decide +kernel
theorem dX1_layUnder_74 : decode cX1_layUnder 74 = .ok (.iastore, 1) := by decide +kernel
theorem dX1_layUnder_75 : decode cX1_layUnder 75 = .ok (.iinc 3 (-1), 3) := by decide +kernel
theorem dX1_layUnder_78 : decode cX1_layUnder 78 = .ok (.goto (-75), 3) := by decide +kernel
theorem dX1_layUnder_81 : decode cX1_layUnder 81 = .ok (.return_, 1) := by decide +kernel
theorem dX1_waysWithout_0 : decode cX1_waysWithout 0 = .ok (.iconst 0, 1) := by decide +kernel
theorem dX1_waysWithout_1 : decode cX1_waysWithout 1 = .ok (.istore_n 2, 1) := by decide +kernel
theorem dX1_waysWithout_2 : decode cX1_waysWithout 2 = .ok (.iconst 0, 1) := by decide +kernel
theorem dX1_waysWithout_3 : decode cX1_waysWithout 3 = .ok (.istore_n 3, 1) := by decide +kernel
theorem dX1_waysWithout_4 : decode cX1_waysWithout 4 = .ok (.iload_n 3, 1) := by decide +kernel
theorem dX1_waysWithout_5 : decode cX1_waysWithout 5 = .ok (.bipush 64, 2) := by decide +kernel
theorem dX1_waysWithout_7 : decode cX1_waysWithout 7 = .ok (.if_icmp .ge 24, 3) := by decide +kernel
theorem dX1_waysWithout_10 : decode cX1_waysWithout 10 = .ok (.iload_n 3, 1) := by decide +kernel
theorem dX1_waysWithout_11 : decode cX1_waysWithout 11 = .ok (.iload_n 1, 1) := by decide +kernel
theorem dX1_waysWithout_12 : decode cX1_waysWithout 12 = .ok (.iand, 1) := by decide +kernel
theorem dX1_waysWithout_13 : decode cX1_waysWithout 13 = .ok (.ifCond .ne 12, 3) := by decide +kernel
theorem dX1_waysWithout_16 : decode cX1_waysWithout 16 = .ok (.iload_n 2, 1) := by decide +kernel
theorem dX1_waysWithout_17 : decode cX1_waysWithout 17 = .ok (.aload_n 0, 1) := by decide +kernel
theorem dX1_waysWithout_18 : decode cX1_waysWithout 18 = .ok (.getfield 16, 3) := by decide +kernel
theorem dX1_waysWithout_21 : decode cX1_waysWithout 21 = .ok (.iload_n 3, 1) := by decide +kernel
theorem dX1_waysWithout_22 : decode cX1_waysWithout 22 = .ok (.iaload, 1) := by decide +kernel
theorem dX1_waysWithout_23 : decode cX1_waysWithout 23 = .ok (.iadd, 1) := by decide +kernel
theorem dX1_waysWithout_24 : decode cX1_waysWithout 24 = .ok (.istore_n 2, 1) := by decide +kernel
theorem dX1_waysWithout_25 : decode cX1_waysWithout 25 = .ok (.iinc 3 1, 3) := by decide +kernel
theorem dX1_waysWithout_28 : decode cX1_waysWithout 28 = .ok (.goto (-24), 3) := by decide +kernel
theorem dX1_waysWithout_31 : decode cX1_waysWithout 31 = .ok (.iload_n 2, 1) := by decide +kernel
theorem dX1_waysWithout_32 : decode cX1_waysWithout 32 = .ok (.ireturn, 1) := by decide +kernel
theorem dX1_allWays_0 : decode cX1_allWays 0 = .ok (.iconst 0, 1) := by decide +kernel
theorem dX1_allWays_1 : decode cX1_allWays 1 = .ok (.istore_n 2, 1) := by decide +kernel
theorem dX1_allWays_2 : decode cX1_allWays 2 = .ok (.iconst 0, 1) := by decide +kernel
theorem dX1_allWays_3 : decode cX1_allWays 3 = .ok (.istore_n 3, 1) := by decide +kernel
theorem dX1_allWays_4 : decode cX1_allWays 4 = .ok (.iload_n 3, 1) := by decide +kernel
theorem dX1_allWays_5 : decode cX1_allWays 5 = .ok (.aload_n 0, 1) := by decide +kernel
theorem dX1_allWays_6 : decode cX1_allWays 6 = .ok (.getfield 39, 3) := by decide +kernel
theorem dX1_allWays_9 : decode cX1_allWays 9 = .ok (.if_icmp .ge 29, 3) := by decide +kernel
theorem dX1_allWays_12 : decode cX1_allWays 12 = .ok (.aload_n 0, 1) := by decide +kernel
theorem dX1_allWays_13 : decode cX1_allWays 13 = .ok (.iload_n 1, 1) := by decide +kernel
theorem dX1_allWays_14 : decode cX1_allWays 14 = .ok (.iload_n 3, 1) := by decide +kernel
theorem dX1_allWays_15 : decode cX1_allWays 15 = .ok (.invokevirtual 56, 3) := by decide +kernel
theorem dX1_allWays_18 : decode cX1_allWays 18 = .ok (.iconst (-1), 1) := by decide +kernel
theorem dX1_allWays_19 : decode cX1_allWays 19 = .ok (.if_icmp .eq 13, 3) := by decide +kernel
theorem dX1_allWays_22 : decode cX1_allWays 22 = .ok (.iload_n 2, 1) := by decide +kernel
theorem dX1_allWays_23 : decode cX1_allWays 23 = .ok (.aload_n 0, 1) := by decide +kernel
theorem dX1_allWays_24 : decode cX1_allWays 24 = .ok (.iconst 1, 1) := by decide +kernel
theorem dX1_allWays_25 : decode cX1_allWays 25 = .ok (.iload_n 3, 1) := by decide +kernel
theorem dX1_allWays_26 : decode cX1_allWays 26 = .ok (.ishl, 1) := by decide +kernel
theorem dX1_allWays_27 : decode cX1_allWays 27 = .ok (.invokevirtual 59, 3) := by decide +kernel
theorem dX1_allWays_30 : decode cX1_allWays 30 = .ok (.iadd, 1) := by decide +kernel
theorem dX1_allWays_31 : decode cX1_allWays 31 = .ok (.istore_n 2, 1) := by decide +kernel
theorem dX1_allWays_32 : decode cX1_allWays 32 = .ok (.iinc 3 1, 3) := by decide +kernel
theorem dX1_allWays_35 : decode cX1_allWays 35 = .ok (.goto (-31), 3) := by decide +kernel
theorem dX1_allWays_38 : decode cX1_allWays 38 = .ok (.iload_n 2, 1) := by decide +kernel
theorem dX1_allWays_39 : decode cX1_allWays 39 = .ok (.ireturn, 1) := by decide +kernel
theorem dX1_greatestLikeWays_0 : decode cX1_greatestLikeWays 0 = .ok (.iconst 0, 1) := by decide +kernel
theorem dX1_greatestLikeWays_1 : decode cX1_greatestLikeWays 1 = .ok (.istore_n 2, 1) := by decide +kernel
theorem dX1_greatestLikeWays_2 : decode cX1_greatestLikeWays 2 = .ok (.iload_n 2, 1) := by decide +kernel
theorem dX1_greatestLikeWays_3 : decode cX1_greatestLikeWays 3 = .ok (.aload_n 0, 1) := by decide +kernel
theorem dX1_greatestLikeWays_4 : decode cX1_greatestLikeWays 4 = .ok (.getfield 20, 3) := by decide +kernel
theorem dX1_greatestLikeWays_7 : decode cX1_greatestLikeWays 7 = .ok (.arraylength, 1) := by decide +kernel
theorem dX1_greatestLikeWays_8 : decode cX1_greatestLikeWays 8 = .ok (.if_icmp .ge 16, 3) := by decide +kernel
theorem dX1_greatestLikeWays_11 : decode cX1_greatestLikeWays 11 = .ok (.aload_n 0, 1) := by decide +kernel
theorem dX1_greatestLikeWays_12 : decode cX1_greatestLikeWays 12 = .ok (.getfield 20, 3) := by decide +kernel
theorem dX1_greatestLikeWays_15 : decode cX1_greatestLikeWays 15 = .ok (.iload_n 2, 1) := by decide +kernel
theorem dX1_greatestLikeWays_16 : decode cX1_greatestLikeWays 16 = .ok (.iconst 0, 1) := by decide +kernel
theorem dX1_greatestLikeWays_17 : decode cX1_greatestLikeWays 17 = .ok (.iastore, 1) := by decide +kernel
theorem dX1_greatestLikeWays_18 : decode cX1_greatestLikeWays 18 = .ok (.iinc 2 1, 3) := by decide +kernel
theorem dX1_greatestLikeWays_21 : decode cX1_greatestLikeWays 21 = .ok (.goto (-19), 3) := by decide +kernel
theorem dX1_greatestLikeWays_24 : decode cX1_greatestLikeWays 24 = .ok (.iconst 0, 1) := by decide +kernel
theorem dX1_greatestLikeWays_25 : decode cX1_greatestLikeWays 25 = .ok (.istore_n 2, 1) := by decide +kernel
theorem dX1_greatestLikeWays_26 : decode cX1_greatestLikeWays 26 = .ok (.iconst 0, 1) := by decide +kernel
theorem dX1_greatestLikeWays_27 : decode cX1_greatestLikeWays 27 = .ok (.istore_n 3, 1) := by decide +kernel
theorem dX1_greatestLikeWays_28 : decode cX1_greatestLikeWays 28 = .ok (.iload_n 3, 1) := by decide +kernel
theorem dX1_greatestLikeWays_29 : decode cX1_greatestLikeWays 29 = .ok (.aload_n 0, 1) := by decide +kernel
theorem dX1_greatestLikeWays_30 : decode cX1_greatestLikeWays 30 = .ok (.getfield 39, 3) := by decide +kernel
theorem dX1_greatestLikeWays_33 : decode cX1_greatestLikeWays 33 = .ok (.if_icmp .ge 61, 3) := by decide +kernel
theorem dX1_greatestLikeWays_36 : decode cX1_greatestLikeWays 36 = .ok (.aload_n 0, 1) := by decide +kernel
theorem dX1_greatestLikeWays_37 : decode cX1_greatestLikeWays 37 = .ok (.iload_n 1, 1) := by decide +kernel
theorem dX1_greatestLikeWays_38 : decode cX1_greatestLikeWays 38 = .ok (.iload_n 3, 1) := by decide +kernel
theorem dX1_greatestLikeWays_39 : decode cX1_greatestLikeWays 39 = .ok (.invokevirtual 56, 3) := by decide +kernel
theorem dX1_greatestLikeWays_42 : decode cX1_greatestLikeWays 42 = .ok (.istore 4, 2) := by decide +kernel
theorem dX1_greatestLikeWays_44 : decode cX1_greatestLikeWays 44 = .ok (.iload 4, 2) := by decide +kernel
theorem dX1_greatestLikeWays_46 : decode cX1_greatestLikeWays 46 = .ok (.ifCond .lt 42, 3) := by decide +kernel
theorem dX1_greatestLikeWays_49 : decode cX1_greatestLikeWays 49 = .ok (.iload 4, 2) := by decide +kernel
theorem dX1_greatestLikeWays_51 : decode cX1_greatestLikeWays 51 = .ok (.aload_n 0, 1) := by decide +kernel
theorem dX1_greatestLikeWays_52 : decode cX1_greatestLikeWays 52 = .ok (.getfield 20, 3) := by decide +kernel
theorem dX1_greatestLikeWays_55 : decode cX1_greatestLikeWays 55 = .ok (.arraylength, 1) := by decide +kernel
theorem dX1_greatestLikeWays_56 : decode cX1_greatestLikeWays 56 = .ok (.if_icmp .ge 32, 3) := by decide +kernel
theorem dX1_greatestLikeWays_59 : decode cX1_greatestLikeWays 59 = .ok (.aload_n 0, 1) := by decide +kernel
theorem dX1_greatestLikeWays_60 : decode cX1_greatestLikeWays 60 = .ok (.getfield 20, 3) := by decide +kernel
theorem dX1_greatestLikeWays_63 : decode cX1_greatestLikeWays 63 = .ok (.iload 4, 2) := by decide +kernel
theorem dX1_greatestLikeWays_65 : decode cX1_greatestLikeWays 65 = .ok (.dup2, 1) := by decide +kernel
theorem dX1_greatestLikeWays_66 : decode cX1_greatestLikeWays 66 = .ok (.iaload, 1) := by decide +kernel
theorem dX1_greatestLikeWays_67 : decode cX1_greatestLikeWays 67 = .ok (.aload_n 0, 1) := by decide +kernel
theorem dX1_greatestLikeWays_68 : decode cX1_greatestLikeWays 68 = .ok (.iconst 1, 1) := by decide +kernel
theorem dX1_greatestLikeWays_69 : decode cX1_greatestLikeWays 69 = .ok (.iload_n 3, 1) := by decide +kernel
theorem dX1_greatestLikeWays_70 : decode cX1_greatestLikeWays 70 = .ok (.ishl, 1) := by decide +kernel
theorem dX1_greatestLikeWays_71 : decode cX1_greatestLikeWays 71 = .ok (.invokevirtual 59, 3) := by decide +kernel
theorem dX1_greatestLikeWays_74 : decode cX1_greatestLikeWays 74 = .ok (.iadd, 1) := by decide +kernel
theorem dX1_greatestLikeWays_75 : decode cX1_greatestLikeWays 75 = .ok (.iastore, 1) := by decide +kernel
theorem dX1_greatestLikeWays_76 : decode cX1_greatestLikeWays 76 = .ok (.iload_n 2, 1) := by decide +kernel
theorem dX1_greatestLikeWays_77 : decode cX1_greatestLikeWays 77 = .ok (.aload_n 0, 1) := by decide +kernel
theorem dX1_greatestLikeWays_78 : decode cX1_greatestLikeWays 78 = .ok (.getfield 20, 3) := by decide +kernel
theorem dX1_greatestLikeWays_81 : decode cX1_greatestLikeWays 81 = .ok (.iload 4, 2) := by decide +kernel
theorem dX1_greatestLikeWays_83 : decode cX1_greatestLikeWays 83 = .ok (.iaload, 1) := by decide +kernel
theorem dX1_greatestLikeWays_84 : decode cX1_greatestLikeWays 84 = .ok (.invokestatic 62, 3) := by decide +kernel
theorem dX1_greatestLikeWays_87 : decode cX1_greatestLikeWays 87 = .ok (.istore_n 2, 1) := by decide +kernel
theorem dX1_greatestLikeWays_88 : decode cX1_greatestLikeWays 88 = .ok (.iinc 3 1, 3) := by decide +kernel
theorem dX1_greatestLikeWays_91 : decode cX1_greatestLikeWays 91 = .ok (.goto (-63), 3) := by decide +kernel
theorem dX1_greatestLikeWays_94 : decode cX1_greatestLikeWays 94 = .ok (.iload_n 2, 1) := by decide +kernel
theorem dX1_greatestLikeWays_95 : decode cX1_greatestLikeWays 95 = .ok (.ireturn, 1) := by decide +kernel
theorem dX1_matched_0 : decode cX1_matched 0 = .ok (.iconst 0, 1) := by decide +kernel
theorem dX1_matched_1 : decode cX1_matched 1 = .ok (.istore 4, 2) := by decide +kernel
theorem dX1_matched_3 : decode cX1_matched 3 = .ok (.iload 4, 2) := by decide +kernel
theorem dX1_matched_5 : decode cX1_matched 5 = .ok (.bipush 6, 2) := by decide +kernel
theorem dX1_matched_7 : decode cX1_matched 7 = .ok (.if_icmp .ge 25, 3) := by decide +kernel
theorem dX1_matched_10 : decode cX1_matched 10 = .ok (.aload_n 0, 1) := by decide +kernel
theorem dX1_matched_11 : decode cX1_matched 11 = .ok (.getfield 23, 3) := by decide +kernel
theorem dX1_matched_14 : decode cX1_matched 14 = .ok (.iload 4, 2) := by decide +kernel
theorem dX1_matched_16 : decode cX1_matched 16 = .ok (.iconst (-1), 1) := by decide +kernel
theorem dX1_matched_17 : decode cX1_matched 17 = .ok (.iastore, 1) := by decide +kernel
theorem dX1_matched_18 : decode cX1_matched 18 = .ok (.aload_n 0, 1) := by decide +kernel
theorem dX1_matched_19 : decode cX1_matched 19 = .ok (.getfield 26, 3) := by decide +kernel
theorem dX1_matched_22 : decode cX1_matched 22 = .ok (.iload 4, 2) := by decide +kernel
theorem dX1_matched_24 : decode cX1_matched 24 = .ok (.iload_n 2, 1) := by decide +kernel
theorem dX1_matched_25 : decode cX1_matched 25 = .ok (.iastore, 1) := by decide +kernel
theorem dX1_matched_26 : decode cX1_matched 26 = .ok (.iinc 4 1, 3) := by decide +kernel
theorem dX1_matched_29 : decode cX1_matched 29 = .ok (.goto (-26), 3) := by decide +kernel
theorem dX1_matched_32 : decode cX1_matched 32 = .ok (.iconst 0, 1) := by decide +kernel
theorem dX1_matched_33 : decode cX1_matched 33 = .ok (.istore 4, 2) := by decide +kernel
theorem dX1_matched_35 : decode cX1_matched 35 = .ok (.iload 4, 2) := by decide +kernel
theorem dX1_matched_37 : decode cX1_matched 37 = .ok (.bipush 36, 2) := by decide +kernel
theorem dX1_matched_39 : decode cX1_matched 39 = .ok (.if_icmp .ge 44, 3) := by decide +kernel
theorem dX1_matched_42 : decode cX1_matched 42 = .ok (.iconst 0, 1) := by decide +kernel
theorem dX1_matched_43 : decode cX1_matched 43 = .ok (.istore 5, 2) := by decide +kernel
theorem dX1_matched_45 : decode cX1_matched 45 = .ok (.iload 5, 2) := by decide +kernel
theorem dX1_matched_47 : decode cX1_matched 47 = .ok (.aload_n 0, 1) := by decide +kernel
theorem dX1_matched_48 : decode cX1_matched 48 = .ok (.getfield 39, 3) := by decide +kernel
theorem dX1_matched_51 : decode cX1_matched 51 = .ok (.if_icmp .ge 26, 3) := by decide +kernel
theorem dX1_matched_54 : decode cX1_matched 54 = .ok (.aload_n 0, 1) := by decide +kernel
theorem dX1_matched_55 : decode cX1_matched 55 = .ok (.iload 5, 2) := by decide +kernel
theorem dX1_matched_57 : decode cX1_matched 57 = .ok (.invokevirtual 67, 3) := by decide +kernel
theorem dX1_matched_60 : decode cX1_matched 60 = .ok (.iconst (-1), 1) := by decide +kernel
theorem dX1_matched_61 : decode cX1_matched 61 = .ok (.if_icmp .ne 10, 3) := by decide +kernel
theorem dX1_matched_64 : decode cX1_matched 64 = .ok (.aload_n 0, 1) := by decide +kernel
theorem dX1_matched_65 : decode cX1_matched 65 = .ok (.aload_n 1, 1) := by decide +kernel
theorem dX1_matched_66 : decode cX1_matched 66 = .ok (.iload 5, 2) := by decide +kernel
theorem dX1_matched_68 : decode cX1_matched 68 = .ok (.invokevirtual 70, 3) := by decide +kernel
theorem dX1_matched_71 : decode cX1_matched 71 = .ok (.iinc 5 1, 3) := by decide +kernel
theorem dX1_matched_74 : decode cX1_matched 74 = .ok (.goto (-29), 3) := by decide +kernel
theorem dX1_matched_77 : decode cX1_matched 77 = .ok (.iinc 4 1, 3) := by decide +kernel
theorem dX1_matched_80 : decode cX1_matched 80 = .ok (.goto (-45), 3) := by decide +kernel
theorem dX1_matched_83 : decode cX1_matched 83 = .ok (.aload_n 0, 1) := by decide +kernel
theorem dX1_matched_84 : decode cX1_matched 84 = .ok (.iload_n 3, 1) := by decide +kernel
theorem dX1_matched_85 : decode cX1_matched 85 = .ok (.invokevirtual 67, 3) := by decide +kernel
theorem dX1_matched_88 : decode cX1_matched 88 = .ok (.ireturn, 1) := by decide +kernel
theorem dX1_wigKeeping_0 : decode cX1_wigKeeping 0 = .ok (.iconst 0, 1) := by decide +kernel
theorem dX1_wigKeeping_1 : decode cX1_wigKeeping 1 = .ok (.istore_n 2, 1) := by decide +kernel
theorem dX1_wigKeeping_2 : decode cX1_wigKeeping 2 = .ok (.iload_n 2, 1) := by decide +kernel
theorem dX1_wigKeeping_3 : decode cX1_wigKeeping 3 = .ok (.aload_n 0, 1) := by decide +kernel
theorem dX1_wigKeeping_4 : decode cX1_wigKeeping 4 = .ok (.getfield 35, 3) := by decide +kernel
theorem dX1_wigKeeping_7 : decode cX1_wigKeeping 7 = .ok (.if_icmp .ge 21, 3) := by decide +kernel
theorem dX1_wigKeeping_10 : decode cX1_wigKeeping 10 = .ok (.aload_n 0, 1) := by decide +kernel
theorem dX1_wigKeeping_11 : decode cX1_wigKeeping 11 = .ok (.getfield 23, 3) := by decide +kernel
theorem dX1_wigKeeping_14 : decode cX1_wigKeeping 14 = .ok (.iload_n 2, 1) := by decide +kernel
theorem dX1_wigKeeping_15 : decode cX1_wigKeeping 15 = .ok (.iaload, 1) := by decide +kernel
theorem dX1_wigKeeping_16 : decode cX1_wigKeeping 16 = .ok (.iload_n 1, 1) := by decide +kernel
theorem dX1_wigKeeping_17 : decode cX1_wigKeeping 17 = .ok (.if_icmp .ne 5, 3) := by decide +kernel
theorem dX1_wigKeeping_20 : decode cX1_wigKeeping 20 = .ok (.iload_n 2, 1) := by decide +kernel
theorem dX1_wigKeeping_21 : decode cX1_wigKeeping 21 = .ok (.ireturn, 1) := by decide +kernel
theorem dX1_wigKeeping_22 : decode cX1_wigKeeping 22 = .ok (.iinc 2 1, 3) := by decide +kernel
theorem dX1_wigKeeping_25 : decode cX1_wigKeeping 25 = .ok (.goto (-23), 3) := by decide +kernel
theorem dX1_wigKeeping_28 : decode cX1_wigKeeping 28 = .ok (.iconst (-1), 1) := by decide +kernel
theorem dX1_wigKeeping_29 : decode cX1_wigKeeping 29 = .ok (.ireturn, 1) := by decide +kernel
theorem dX1_askNext_0 : decode cX1_askNext 0 = .ok (.iconst (-1), 1) := by decide +kernel
theorem dX1_askNext_1 : decode cX1_askNext 1 = .ok (.istore_n 3, 1) := by decide +kernel
theorem dX1_askNext_2 : decode cX1_askNext 2 = .ok (.iconst 0, 1) := by decide +kernel
theorem dX1_askNext_3 : decode cX1_askNext 3 = .ok (.istore 4, 2) := by decide +kernel
theorem dX1_askNext_5 : decode cX1_askNext 5 = .ok (.iload 4, 2) := by decide +kernel
theorem dX1_askNext_7 : decode cX1_askNext 7 = .ok (.aload_n 0, 1) := by decide +kernel
theorem dX1_askNext_8 : decode cX1_askNext 8 = .ok (.getfield 35, 3) := by decide +kernel
theorem dX1_askNext_11 : decode cX1_askNext 11 = .ok (.if_icmp .ge 58, 3) := by decide +kernel
theorem dX1_askNext_14 : decode cX1_askNext 14 = .ok (.aload_n 0, 1) := by decide +kernel
theorem dX1_askNext_15 : decode cX1_askNext 15 = .ok (.getfield 26, 3) := by decide +kernel
theorem dX1_askNext_18 : decode cX1_askNext 18 = .ok (.iload_n 2, 1) := by decide +kernel
theorem dX1_askNext_19 : decode cX1_askNext 19 = .ok (.iaload, 1) := by decide +kernel
theorem dX1_askNext_20 : decode cX1_askNext 20 = .ok (.iload 4, 2) := by decide +kernel
theorem dX1_askNext_22 : decode cX1_askNext 22 = .ok (.ishr, 1) := by decide +kernel
theorem dX1_askNext_23 : decode cX1_askNext 23 = .ok (.iconst 1, 1) := by decide +kernel
theorem dX1_askNext_24 : decode cX1_askNext 24 = .ok (.iand, 1) := by decide +kernel
theorem dX1_askNext_25 : decode cX1_askNext 25 = .ok (.ifCond .ne 38, 3) := by decide +kernel
theorem dX1_askNext_28 : decode cX1_askNext 28 = .ok (.aload_n 0, 1) := by decide +kernel
theorem dX1_askNext_29 : decode cX1_askNext 29 = .ok (.getfield 11, 3) := by decide +kernel
theorem dX1_askNext_32 : decode cX1_askNext 32 = .ok (.iload 4, 2) := by decide +kernel
theorem dX1_askNext_34 : decode cX1_askNext 34 = .ok (.aaload, 1) := by decide +kernel
theorem dX1_askNext_35 : decode cX1_askNext 35 = .ok (.iload_n 2, 1) := by decide +kernel
theorem dX1_askNext_36 : decode cX1_askNext 36 = .ok (.iaload, 1) := by decide +kernel
theorem dX1_askNext_37 : decode cX1_askNext 37 = .ok (.iconst (-1), 1) := by decide +kernel
theorem dX1_askNext_38 : decode cX1_askNext 38 = .ok (.if_icmp .eq 25, 3) := by decide +kernel
theorem dX1_askNext_41 : decode cX1_askNext 41 = .ok (.iload_n 3, 1) := by decide +kernel
theorem dX1_askNext_42 : decode cX1_askNext 42 = .ok (.iconst (-1), 1) := by decide +kernel
theorem dX1_askNext_43 : decode cX1_askNext 43 = .ok (.if_icmp .eq 17, 3) := by decide +kernel
theorem dX1_askNext_46 : decode cX1_askNext 46 = .ok (.aload_n 1, 1) := by decide +kernel
theorem dX1_askNext_47 : decode cX1_askNext 47 = .ok (.iload 4, 2) := by decide +kernel
theorem dX1_askNext_49 : decode cX1_askNext 49 = .ok (.invokevirtual 74, 3) := by decide +kernel
theorem dX1_askNext_52 : decode cX1_askNext 52 = .ok (.aload_n 1, 1) := by decide +kernel
theorem dX1_askNext_53 : decode cX1_askNext 53 = .ok (.iload_n 3, 1) := by decide +kernel
theorem dX1_askNext_54 : decode cX1_askNext 54 = .ok (.invokevirtual 74, 3) := by decide +kernel
theorem dX1_askNext_57 : decode cX1_askNext 57 = .ok (.if_icmp .le 6, 3) := by decide +kernel
theorem dX1_askNext_60 : decode cX1_askNext 60 = .ok (.iload 4, 2) := by decide +kernel
theorem dX1_askNext_62 : decode cX1_askNext 62 = .ok (.istore_n 3, 1) := by decide +kernel
theorem dX1_askNext_63 : decode cX1_askNext 63 = .ok (.iinc 4 1, 3) := by decide +kernel
theorem dX1_askNext_66 : decode cX1_askNext 66 = .ok (.goto (-61), 3) := by decide +kernel
theorem dX1_askNext_69 : decode cX1_askNext 69 = .ok (.iload_n 3, 1) := by decide +kernel
theorem dX1_askNext_70 : decode cX1_askNext 70 = .ok (.iconst (-1), 1) := by decide +kernel
theorem dX1_askNext_71 : decode cX1_askNext 71 = .ok (.if_icmp .ne 4, 3) := by decide +kernel
theorem dX1_askNext_74 : decode cX1_askNext 74 = .ok (.return_, 1) := by decide +kernel
theorem dX1_askNext_75 : decode cX1_askNext 75 = .ok (.aload_n 0, 1) := by decide +kernel
theorem dX1_askNext_76 : decode cX1_askNext 76 = .ok (.getfield 26, 3) := by decide +kernel
theorem dX1_askNext_79 : decode cX1_askNext 79 = .ok (.iload_n 2, 1) := by decide +kernel
theorem dX1_askNext_80 : decode cX1_askNext 80 = .ok (.dup2, 1) := by decide +kernel
theorem dX1_askNext_81 : decode cX1_askNext 81 = .ok (.iaload, 1) := by decide +kernel
theorem dX1_askNext_82 : decode cX1_askNext 82 = .ok (.iconst 1, 1) := by decide +kernel
theorem dX1_askNext_83 : decode cX1_askNext 83 = .ok (.iload_n 3, 1) := by decide +kernel
theorem dX1_askNext_84 : decode cX1_askNext 84 = .ok (.ishl, 1) := by decide +kernel
theorem dX1_askNext_85 : decode cX1_askNext 85 = .ok (.ior, 1) := by decide +kernel
theorem dX1_askNext_86 : decode cX1_askNext 86 = .ok (.iastore, 1) := by decide +kernel
theorem dX1_askNext_87 : decode cX1_askNext 87 = .ok (.aload_n 0, 1) := by decide +kernel
theorem dX1_askNext_88 : decode cX1_askNext 88 = .ok (.getfield 23, 3) := by decide +kernel
theorem dX1_askNext_91 : decode cX1_askNext 91 = .ok (.iload_n 3, 1) := by decide +kernel
theorem dX1_askNext_92 : decode cX1_askNext 92 = .ok (.iaload, 1) := by decide +kernel
theorem dX1_askNext_93 : decode cX1_askNext 93 = .ok (.istore 4, 2) := by decide +kernel
theorem dX1_askNext_95 : decode cX1_askNext 95 = .ok (.iload 4, 2) := by decide +kernel
theorem dX1_askNext_97 : decode cX1_askNext 97 = .ok (.iconst (-1), 1) := by decide +kernel
theorem dX1_askNext_98 : decode cX1_askNext 98 = .ok (.if_icmp .eq 49, 3) := by decide +kernel
theorem dX1_askNext_101 : decode cX1_askNext 101 = .ok (.aload_n 0, 1) := by decide +kernel
theorem dX1_askNext_102 : decode cX1_askNext 102 = .ok (.getfield 11, 3) := by decide +kernel
theorem dX1_askNext_105 : decode cX1_askNext 105 = .ok (.iload_n 3, 1) := by decide +kernel
theorem dX1_askNext_106 : decode cX1_askNext 106 = .ok (.aaload, 1) := by decide +kernel
theorem dX1_askNext_107 : decode cX1_askNext 107 = .ok (.iload_n 2, 1) := by decide +kernel
theorem dX1_askNext_108 : decode cX1_askNext 108 = .ok (.iaload, 1) := by decide +kernel
theorem dX1_askNext_109 : decode cX1_askNext 109 = .ok (.aload_n 0, 1) := by decide +kernel
theorem dX1_askNext_110 : decode cX1_askNext 110 = .ok (.getfield 11, 3) := by decide +kernel
theorem dX1_askNext_113 : decode cX1_askNext 113 = .ok (.iload_n 3, 1) := by decide +kernel
theorem dX1_askNext_114 : decode cX1_askNext 114 = .ok (.aaload, 1) := by decide +kernel
theorem dX1_askNext_115 : decode cX1_askNext 115 = .ok (.iload 4, 2) := by decide +kernel
theorem dX1_askNext_117 : decode cX1_askNext 117 = .ok (.iaload, 1) := by decide +kernel
theorem dX1_askNext_118 : decode cX1_askNext 118 = .ok (.if_icmp .lt 29, 3) := by decide +kernel
theorem dX1_askNext_121 : decode cX1_askNext 121 = .ok (.aload_n 0, 1) := by decide +kernel
theorem dX1_askNext_122 : decode cX1_askNext 122 = .ok (.getfield 11, 3) := by decide +kernel
theorem dX1_askNext_125 : decode cX1_askNext 125 = .ok (.iload_n 3, 1) := by decide +kernel
theorem dX1_askNext_126 : decode cX1_askNext 126 = .ok (.aaload, 1) := by decide +kernel
theorem dX1_askNext_127 : decode cX1_askNext 127 = .ok (.iload_n 2, 1) := by decide +kernel
theorem dX1_askNext_128 : decode cX1_askNext 128 = .ok (.iaload, 1) := by decide +kernel
theorem dX1_askNext_129 : decode cX1_askNext 129 = .ok (.aload_n 0, 1) := by decide +kernel
theorem dX1_askNext_130 : decode cX1_askNext 130 = .ok (.getfield 11, 3) := by decide +kernel
theorem dX1_askNext_133 : decode cX1_askNext 133 = .ok (.iload_n 3, 1) := by decide +kernel
theorem dX1_askNext_134 : decode cX1_askNext 134 = .ok (.aaload, 1) := by decide +kernel
theorem dX1_askNext_135 : decode cX1_askNext 135 = .ok (.iload 4, 2) := by decide +kernel
theorem dX1_askNext_137 : decode cX1_askNext 137 = .ok (.iaload, 1) := by decide +kernel
theorem dX1_askNext_138 : decode cX1_askNext 138 = .ok (.if_icmp .ne 16, 3) := by decide +kernel
theorem dX1_askNext_141 : decode cX1_askNext 141 = .ok (.iload_n 2, 1) := by decide +kernel
theorem dX1_askNext_142 : decode cX1_askNext 142 = .ok (.iload 4, 2) := by decide +kernel
theorem dX1_askNext_144 : decode cX1_askNext 144 = .ok (.if_icmp .ge 10, 3) := by decide +kernel
theorem dX1_askNext_147 : decode cX1_askNext 147 = .ok (.aload_n 0, 1) := by decide +kernel
theorem dX1_askNext_148 : decode cX1_askNext 148 = .ok (.getfield 23, 3) := by decide +kernel
theorem dX1_askNext_151 : decode cX1_askNext 151 = .ok (.iload_n 3, 1) := by decide +kernel
theorem dX1_askNext_152 : decode cX1_askNext 152 = .ok (.iload_n 2, 1) := by decide +kernel
theorem dX1_askNext_153 : decode cX1_askNext 153 = .ok (.iastore, 1) := by decide +kernel
theorem dX1_askNext_154 : decode cX1_askNext 154 = .ok (.return_, 1) := by decide +kernel
theorem dX2_init_0 : decode cX2_init 0 = .ok (.aload_n 0, 1) := by decide +kernel
theorem dX2_init_1 : decode cX2_init 1 = .ok (.invokespecial 3, 3) := by decide +kernel
theorem dX2_init_4 : decode cX2_init 4 = .ok (.aload_n 0, 1) := by decide +kernel
theorem dX2_init_5 : decode cX2_init 5 = .ok (.sipush 1000, 3) := by decide +kernel
theorem dX2_init_8 : decode cX2_init 8 = .ok (.newarray .int, 2) := by decide +kernel
theorem dX2_init_10 : decode cX2_init 10 = .ok (.putfield 9, 3) := by decide +kernel
theorem dX2_init_13 : decode cX2_init 13 = .ok (.aload_n 0, 1) := by decide +kernel
theorem dX2_init_14 : decode cX2_init 14 = .ok (.bipush 24, 2) := by decide +kernel
theorem dX2_init_16 : decode cX2_init 16 = .ok (.newarray .int, 2) := by decide +kernel
theorem dX2_init_18 : decode cX2_init 18 = .ok (.putfield 15, 3) := by decide +kernel
theorem dX2_init_21 : decode cX2_init 21 = .ok (.aload_n 0, 1) := by decide +kernel
theorem dX2_init_22 : decode cX2_init 22 = .ok (.aload_n 1, 1) := by decide +kernel
theorem dX2_init_23 : decode cX2_init 23 = .ok (.putfield 18, 3) := by decide +kernel
theorem dX2_init_26 : decode cX2_init 26 = .ok (.aload_n 0, 1) := by decide +kernel
theorem dX2_init_27 : decode cX2_init 27 = .ok (.aload_n 2, 1) := by decide +kernel
theorem dX2_init_28 : decode cX2_init 28 = .ok (.putfield 22, 3) := by decide +kernel
theorem dX2_init_31 : decode cX2_init 31 = .ok (.aload_n 0, 1) := by decide +kernel
theorem dX2_init_32 : decode cX2_init 32 = .ok (.aload_n 3, 1) := by decide +kernel
theorem dX2_init_33 : decode cX2_init 33 = .ok (.putfield 25, 3) := by decide +kernel
theorem dX2_init_36 : decode cX2_init 36 = .ok (.return_, 1) := by decide +kernel
theorem dX2_clear_0 : decode cX2_clear 0 = .ok (.aload_n 0, 1) := by decide +kernel
theorem dX2_clear_1 : decode cX2_clear 1 = .ok (.iconst 0, 1) := by decide +kernel
theorem dX2_clear_2 : decode cX2_clear 2 = .ok (.putfield 28, 3) := by decide +kernel
theorem dX2_clear_5 : decode cX2_clear 5 = .ok (.aload_n 0, 1) := by decide +kernel
theorem dX2_clear_6 : decode cX2_clear 6 = .ok (.iconst 0, 1) := by decide +kernel
theorem dX2_clear_7 : decode cX2_clear 7 = .ok (.putfield 32, 3) := by decide +kernel
theorem dX2_clear_10 : decode cX2_clear 10 = .ok (.return_, 1) := by decide +kernel
theorem dX2_add_0 : decode cX2_add 0 = .ok (.aload_n 0, 1) := by decide +kernel
theorem dX2_add_1 : decode cX2_add 1 = .ok (.getfield 28, 3) := by decide +kernel
theorem dX2_add_4 : decode cX2_add 4 = .ok (.aload_n 0, 1) := by decide +kernel
theorem dX2_add_5 : decode cX2_add 5 = .ok (.getfield 9, 3) := by decide +kernel
theorem dX2_add_8 : decode cX2_add 8 = .ok (.arraylength, 1) := by decide +kernel
theorem dX2_add_9 : decode cX2_add 9 = .ok (.if_icmp .ge 23, 3) := by decide +kernel
theorem dX2_add_12 : decode cX2_add 12 = .ok (.aload_n 0, 1) := by decide +kernel
theorem dX2_add_13 : decode cX2_add 13 = .ok (.getfield 9, 3) := by decide +kernel
theorem dX2_add_16 : decode cX2_add 16 = .ok (.aload_n 0, 1) := by decide +kernel
theorem dX2_add_17 : decode cX2_add 17 = .ok (.getfield 28, 3) := by decide +kernel
theorem dX2_add_20 : decode cX2_add 20 = .ok (.iload_n 1, 1) := by decide +kernel
theorem dX2_add_21 : decode cX2_add 21 = .ok (.iastore, 1) := by decide +kernel
theorem dX2_add_22 : decode cX2_add 22 = .ok (.aload_n 0, 1) := by decide +kernel
theorem dX2_add_23 : decode cX2_add 23 = .ok (.dup, 1) := by decide +kernel
theorem dX2_add_24 : decode cX2_add 24 = .ok (.getfield 28, 3) := by decide +kernel
theorem dX2_add_27 : decode cX2_add 27 = .ok (.iconst 1, 1) := by decide +kernel
theorem dX2_add_28 : decode cX2_add 28 = .ok (.iadd, 1) := by decide +kernel
theorem dX2_add_29 : decode cX2_add 29 = .ok (.putfield 28, 3) := by decide +kernel
theorem dX2_add_32 : decode cX2_add 32 = .ok (.return_, 1) := by decide +kernel
theorem dX2_factOf_0 : decode cX2_factOf 0 = .ok (.aload_n 1, 1) := by decide +kernel
theorem dX2_factOf_1 : decode cX2_factOf 1 = .ok (.aload_n 0, 1) := by decide +kernel
theorem dX2_factOf_2 : decode cX2_factOf 2 = .ok (.getfield 18, 3) := by decide +kernel
theorem dX2_factOf_5 : decode cX2_factOf 5 = .ok (.if_acmp .ne 7, 3) := by decide +kernel
theorem dX2_factOf_8 : decode cX2_factOf 8 = .ok (.iconst (-1), 1) := by decide +kernel
theorem dX2_factOf_9 : decode cX2_factOf 9 = .ok (.goto 30, 3) := by decide +kernel
theorem dX2_factOf_12 : decode cX2_factOf 12 = .ok (.aload_n 1, 1) := by decide +kernel
theorem dX2_factOf_13 : decode cX2_factOf 13 = .ok (.aload_n 0, 1) := by decide +kernel
theorem dX2_factOf_14 : decode cX2_factOf 14 = .ok (.getfield 22, 3) := by decide +kernel
theorem dX2_factOf_17 : decode cX2_factOf 17 = .ok (.if_acmp .ne 8, 3) := by decide +kernel
theorem dX2_factOf_20 : decode cX2_factOf 20 = .ok (.bipush (-2), 2) := by decide +kernel
theorem dX2_factOf_22 : decode cX2_factOf 22 = .ok (.goto 17, 3) := by decide +kernel
theorem dX2_factOf_25 : decode cX2_factOf 25 = .ok (.aload_n 1, 1) := by decide +kernel
theorem dX2_factOf_26 : decode cX2_factOf 26 = .ok (.aload_n 0, 1) := by decide +kernel
theorem dX2_factOf_27 : decode cX2_factOf 27 = .ok (.getfield 25, 3) := by decide +kernel
theorem dX2_factOf_30 : decode cX2_factOf 30 = .ok (.if_acmp .ne 8, 3) := by decide +kernel
theorem dX2_factOf_33 : decode cX2_factOf 33 = .ok (.bipush (-3), 2) := by decide +kernel
theorem dX2_factOf_35 : decode cX2_factOf 35 = .ok (.goto 4, 3) := by decide +kernel
theorem dX2_factOf_38 : decode cX2_factOf 38 = .ok (.iconst 0, 1) := by decide +kernel
theorem dX2_factOf_39 : decode cX2_factOf 39 = .ok (.ireturn, 1) := by decide +kernel
theorem dX2_worth_0 : decode cX2_worth 0 = .ok (.iconst 0, 1) := by decide +kernel
theorem dX2_worth_1 : decode cX2_worth 1 = .ok (.istore 4, 2) := by decide +kernel
theorem dX2_worth_3 : decode cX2_worth 3 = .ok (.iconst 0, 1) := by decide +kernel
theorem dX2_worth_4 : decode cX2_worth 4 = .ok (.istore 5, 2) := by decide +kernel
theorem dX2_worth_6 : decode cX2_worth 6 = .ok (.iload 5, 2) := by decide +kernel
theorem dX2_worth_8 : decode cX2_worth 8 = .ok (.aload_n 0, 1) := by decide +kernel
theorem dX2_worth_9 : decode cX2_worth 9 = .ok (.getfield 28, 3) := by decide +kernel
theorem dX2_worth_12 : decode cX2_worth 12 = .ok (.if_icmp .ge 168, 3) := by decide +kernel
theorem dX2_worth_15 : decode cX2_worth 15 = .ok (.aload_n 0, 1) := by decide +kernel
theorem dX2_worth_16 : decode cX2_worth 16 = .ok (.getfield 9, 3) := by decide +kernel
theorem dX2_worth_19 : decode cX2_worth 19 = .ok (.iload 5, 2) := by decide +kernel
theorem dX2_worth_21 : decode cX2_worth 21 = .ok (.iaload, 1) := by decide +kernel
theorem dX2_worth_22 : decode cX2_worth 22 = .ok (.istore 6, 2) := by decide +kernel
theorem dX2_worth_24 : decode cX2_worth 24 = .ok (.iload 6, 2) := by decide +kernel
theorem dX2_worth_26 : decode cX2_worth 26 = .ok (.bipush (-3), 2) := by decide +kernel
theorem dX2_worth_28 : decode cX2_worth 28 = .ok (.if_icmp .lt 58, 3) := by decide +kernel
theorem dX2_worth_31 : decode cX2_worth 31 = .ok (.iload 4, 2) := by decide +kernel
theorem dX2_worth_33 : decode cX2_worth 33 = .ok (.aload_n 0, 1) := by decide +kernel
theorem dX2_worth_34 : decode cX2_worth 34 = .ok (.getfield 15, 3) := by decide +kernel
theorem dX2_worth_37 : decode cX2_worth 37 = .ok (.arraylength, 1) := by decide +kernel
theorem dX2_worth_38 : decode cX2_worth 38 = .ok (.if_icmp .ge 48, 3) := by decide +kernel
theorem dX2_worth_41 : decode cX2_worth 41 = .ok (.aload_n 0, 1) := by decide +kernel
theorem dX2_worth_42 : decode cX2_worth 42 = .ok (.getfield 15, 3) := by decide +kernel
theorem dX2_worth_45 : decode cX2_worth 45 = .ok (.iload 4, 2) := by decide +kernel
theorem dX2_worth_47 : decode cX2_worth 47 = .ok (.iload 6, 2) := by decide +kernel
theorem dX2_worth_49 : decode cX2_worth 49 = .ok (.ifCond .lt 8, 3) := by decide +kernel
theorem dX2_worth_52 : decode cX2_worth 52 = .ok (.iload 6, 2) := by decide +kernel
theorem dX2_worth_54 : decode cX2_worth 54 = .ok (.goto 25, 3) := by decide +kernel
theorem dX2_worth_57 : decode cX2_worth 57 = .ok (.iload 6, 2) := by decide +kernel
theorem dX2_worth_59 : decode cX2_worth 59 = .ok (.iconst (-1), 1) := by decide +kernel
theorem dX2_worth_60 : decode cX2_worth 60 = .ok (.if_icmp .ne 7, 3) := by decide +kernel
theorem dX2_worth_63 : decode cX2_worth 63 = .ok (.iload_n 1, 1) := by decide +kernel
theorem dX2_worth_64 : decode cX2_worth 64 = .ok (.goto 15, 3) := by decide +kernel
theorem dX2_worth_67 : decode cX2_worth 67 = .ok (.iload 6, 2) := by decide +kernel
theorem dX2_worth_69 : decode cX2_worth 69 = .ok (.bipush (-2), 2) := by decide +kernel
theorem dX2_worth_71 : decode cX2_worth 71 = .ok (.if_icmp .ne 7, 3) := by decide +kernel
theorem dX2_worth_74 : decode cX2_worth 74 = .ok (.iload_n 2, 1) := by decide +kernel
theorem dX2_worth_75 : decode cX2_worth 75 = .ok (.goto 4, 3) := by decide +kernel
theorem dX2_worth_78 : decode cX2_worth 78 = .ok (.iload_n 3, 1) := by decide +kernel
theorem dX2_worth_79 : decode cX2_worth 79 = .ok (.iastore, 1) := by decide +kernel
theorem dX2_worth_80 : decode cX2_worth 80 = .ok (.iinc 4 1, 3) := by decide +kernel
theorem dX2_worth_83 : decode cX2_worth 83 = .ok (.goto 91, 3) := by decide +kernel
theorem dX2_worth_86 : decode cX2_worth 86 = .ok (.iload 6, 2) := by decide +kernel
theorem dX2_worth_88 : decode cX2_worth 88 = .ok (.bipush (-4), 2) := by decide +kernel
theorem dX2_worth_90 : decode cX2_worth 90 = .ok (.if_icmp .ne 38, 3) := by decide +kernel
theorem dX2_worth_93 : decode cX2_worth 93 = .ok (.iload 4, 2) := by decide +kernel
theorem dX2_worth_95 : decode cX2_worth 95 = .ok (.iconst 1, 1) := by decide +kernel
theorem dX2_worth_96 : decode cX2_worth 96 = .ok (.if_icmp .lt 32, 3) := by decide +kernel
theorem dX2_worth_99 : decode cX2_worth 99 = .ok (.aload_n 0, 1) := by decide +kernel
theorem dX2_worth_100 : decode cX2_worth 100 = .ok (.getfield 15, 3) := by decide +kernel
theorem dX2_worth_103 : decode cX2_worth 103 = .ok (.iload 4, 2) := by decide +kernel
theorem dX2_worth_105 : decode cX2_worth 105 = .ok (.iconst 1, 1) := by decide +kernel
theorem dX2_worth_106 : decode cX2_worth 106 = .ok (.isub, 1) := by decide +kernel
theorem dX2_worth_107 : decode cX2_worth 107 = .ok (.aload_n 0, 1) := by decide +kernel
theorem dX2_worth_108 : decode cX2_worth 108 = .ok (.getfield 15, 3) := by decide +kernel
theorem dX2_worth_111 : decode cX2_worth 111 = .ok (.iload 4, 2) := by decide +kernel
theorem dX2_worth_113 : decode cX2_worth 113 = .ok (.iconst 1, 1) := by decide +kernel
theorem dX2_worth_114 : decode cX2_worth 114 = .ok (.isub, 1) := by decide +kernel
theorem dX2_worth_115 : decode cX2_worth 115 = .ok (.iaload, 1) := by decide +kernel
theorem dX2_worth_116 : decode cX2_worth 116 = .ok (.ifCond .ne 7, 3) := by decide +kernel
theorem dX2_worth_119 : decode cX2_worth 119 = .ok (.iconst 1, 1) := by decide +kernel
theorem dX2_worth_120 : decode cX2_worth 120 = .ok (.goto 4, 3) := by decide +kernel
theorem dX2_worth_123 : decode cX2_worth 123 = .ok (.iconst 0, 1) := by decide +kernel
theorem dX2_worth_124 : decode cX2_worth 124 = .ok (.iastore, 1) := by decide +kernel
theorem dX2_worth_125 : decode cX2_worth 125 = .ok (.goto 49, 3) := by decide +kernel
theorem dX2_worth_128 : decode cX2_worth 128 = .ok (.iload 6, 2) := by decide +kernel
theorem dX2_worth_130 : decode cX2_worth 130 = .ok (.bipush (-4), 2) := by decide +kernel
theorem dX2_worth_132 : decode cX2_worth 132 = .ok (.if_icmp .ge 42, 3) := by decide +kernel
theorem dX2_worth_135 : decode cX2_worth 135 = .ok (.iload 4, 2) := by decide +kernel
theorem dX2_worth_137 : decode cX2_worth 137 = .ok (.iconst 2, 1) := by decide +kernel
theorem dX2_worth_138 : decode cX2_worth 138 = .ok (.if_icmp .lt 36, 3) := by decide +kernel
theorem dX2_worth_141 : decode cX2_worth 141 = .ok (.iinc 4 (-1), 3) := by decide +kernel
theorem dX2_worth_144 : decode cX2_worth 144 = .ok (.aload_n 0, 1) := by decide +kernel
theorem dX2_worth_145 : decode cX2_worth 145 = .ok (.getfield 15, 3) := by decide +kernel
theorem dX2_worth_148 : decode cX2_worth 148 = .ok (.iload 4, 2) := by decide +kernel
theorem dX2_worth_150 : decode cX2_worth 150 = .ok (.iconst 1, 1) := by decide +kernel
theorem dX2_worth_151 : decode cX2_worth 151 = .ok (.isub, 1) := by decide +kernel
theorem dX2_worth_152 : decode cX2_worth 152 = .ok (.iload 6, 2) := by decide +kernel
theorem dX2_worth_154 : decode cX2_worth 154 = .ok (.aload_n 0, 1) := by decide +kernel
theorem dX2_worth_155 : decode cX2_worth 155 = .ok (.getfield 15, 3) := by decide +kernel
theorem dX2_worth_158 : decode cX2_worth 158 = .ok (.iload 4, 2) := by decide +kernel
theorem dX2_worth_160 : decode cX2_worth 160 = .ok (.iconst 1, 1) := by decide +kernel
theorem dX2_worth_161 : decode cX2_worth 161 = .ok (.isub, 1) := by decide +kernel
theorem dX2_worth_162 : decode cX2_worth 162 = .ok (.iaload, 1) := by decide +kernel
theorem dX2_worth_163 : decode cX2_worth 163 = .ok (.aload_n 0, 1) := by decide +kernel
theorem dX2_worth_164 : decode cX2_worth 164 = .ok (.getfield 15, 3) := by decide +kernel
theorem dX2_worth_167 : decode cX2_worth 167 = .ok (.iload 4, 2) := by decide +kernel
theorem dX2_worth_169 : decode cX2_worth 169 = .ok (.iaload, 1) := by decide +kernel
theorem dX2_worth_170 : decode cX2_worth 170 = .ok (.invokestatic 36, 3) := by decide +kernel
theorem dX2_worth_173 : decode cX2_worth 173 = .ok (.iastore, 1) := by decide +kernel
theorem dX2_worth_174 : decode cX2_worth 174 = .ok (.iinc 5 1, 3) := by decide +kernel
theorem dX2_worth_177 : decode cX2_worth 177 = .ok (.goto (-171), 3) := by decide +kernel
theorem dX2_worth_180 : decode cX2_worth 180 = .ok (.aload_n 0, 1) := by decide +kernel
theorem dX2_worth_181 : decode cX2_worth 181 = .ok (.getfield 15, 3) := by decide +kernel
theorem dX2_worth_184 : decode cX2_worth 184 = .ok (.iconst 0, 1) := by decide +kernel
theorem dX2_worth_185 : decode cX2_worth 185 = .ok (.iaload, 1) := by decide +kernel
theorem dX2_worth_186 : decode cX2_worth 186 = .ok (.ireturn, 1) := by decide +kernel
theorem dX2_joined_0 : decode cX2_joined 0 = .ok (.iload_n 0, 1) := by decide +kernel
theorem dX2_joined_1 : decode cX2_joined 1 = .ok (.tableswitch 97 (-10) (-5) #[93, 89, 78, 67, 53, 39], 39) := by decide +kernel
theorem dX2_joined_40 : decode cX2_joined 40 = .ok (.iload_n 1, 1) := by decide +kernel
theorem dX2_joined_41 : decode cX2_joined 41 = .ok (.ifCond .eq 11, 3) := by decide +kernel
theorem dX2_joined_44 : decode cX2_joined 44 = .ok (.iload_n 2, 1) := by decide +kernel
theorem dX2_joined_45 : decode cX2_joined 45 = .ok (.ifCond .eq 7, 3) := by decide +kernel
theorem dX2_joined_48 : decode cX2_joined 48 = .ok (.iconst 1, 1) := by decide +kernel
theorem dX2_joined_49 : decode cX2_joined 49 = .ok (.goto 4, 3) := by decide +kernel
theorem dX2_joined_52 : decode cX2_joined 52 = .ok (.iconst 0, 1) := by decide +kernel
theorem dX2_joined_53 : decode cX2_joined 53 = .ok (.ireturn, 1) := by decide +kernel
theorem dX2_joined_54 : decode cX2_joined 54 = .ok (.iload_n 1, 1) := by decide +kernel
theorem dX2_joined_55 : decode cX2_joined 55 = .ok (.ifCond .ne 7, 3) := by decide +kernel
theorem dX2_joined_58 : decode cX2_joined 58 = .ok (.iload_n 2, 1) := by decide +kernel
theorem dX2_joined_59 : decode cX2_joined 59 = .ok (.ifCond .eq 7, 3) := by decide +kernel
theorem dX2_joined_62 : decode cX2_joined 62 = .ok (.iconst 1, 1) := by decide +kernel
theorem dX2_joined_63 : decode cX2_joined 63 = .ok (.goto 4, 3) := by decide +kernel
theorem dX2_joined_66 : decode cX2_joined 66 = .ok (.iconst 0, 1) := by decide +kernel
theorem dX2_joined_67 : decode cX2_joined 67 = .ok (.ireturn, 1) := by decide +kernel
theorem dX2_joined_68 : decode cX2_joined 68 = .ok (.iload_n 1, 1) := by decide +kernel
theorem dX2_joined_69 : decode cX2_joined 69 = .ok (.iload_n 2, 1) := by decide +kernel
theorem dX2_joined_70 : decode cX2_joined 70 = .ok (.if_icmp .ge 7, 3) := by decide +kernel
theorem dX2_joined_73 : decode cX2_joined 73 = .ok (.iconst 1, 1) := by decide +kernel
theorem dX2_joined_74 : decode cX2_joined 74 = .ok (.goto 4, 3) := by decide +kernel
theorem dX2_joined_77 : decode cX2_joined 77 = .ok (.iconst 0, 1) := by decide +kernel
theorem dX2_joined_78 : decode cX2_joined 78 = .ok (.ireturn, 1) := by decide +kernel
theorem dX2_joined_79 : decode cX2_joined 79 = .ok (.iload_n 1, 1) := by decide +kernel
theorem dX2_joined_80 : decode cX2_joined 80 = .ok (.iload_n 2, 1) := by decide +kernel
theorem dX2_joined_81 : decode cX2_joined 81 = .ok (.if_icmp .ne 7, 3) := by decide +kernel
theorem dX2_joined_84 : decode cX2_joined 84 = .ok (.iconst 1, 1) := by decide +kernel
theorem dX2_joined_85 : decode cX2_joined 85 = .ok (.goto 4, 3) := by decide +kernel
theorem dX2_joined_88 : decode cX2_joined 88 = .ok (.iconst 0, 1) := by decide +kernel
theorem dX2_joined_89 : decode cX2_joined 89 = .ok (.ireturn, 1) := by decide +kernel
theorem dX2_joined_90 : decode cX2_joined 90 = .ok (.iload_n 1, 1) := by decide +kernel
theorem dX2_joined_91 : decode cX2_joined 91 = .ok (.iload_n 2, 1) := by decide +kernel
theorem dX2_joined_92 : decode cX2_joined 92 = .ok (.iadd, 1) := by decide +kernel
theorem dX2_joined_93 : decode cX2_joined 93 = .ok (.ireturn, 1) := by decide +kernel
theorem dX2_joined_94 : decode cX2_joined 94 = .ok (.iload_n 1, 1) := by decide +kernel
theorem dX2_joined_95 : decode cX2_joined 95 = .ok (.iload_n 2, 1) := by decide +kernel
theorem dX2_joined_96 : decode cX2_joined 96 = .ok (.isub, 1) := by decide +kernel
theorem dX2_joined_97 : decode cX2_joined 97 = .ok (.ireturn, 1) := by decide +kernel
theorem dX2_joined_98 : decode cX2_joined 98 = .ok (.iload_n 1, 1) := by decide +kernel
theorem dX2_joined_99 : decode cX2_joined 99 = .ok (.iload_n 2, 1) := by decide +kernel
theorem dX2_joined_100 : decode cX2_joined 100 = .ok (.imul, 1) := by decide +kernel
theorem dX2_joined_101 : decode cX2_joined 101 = .ok (.ireturn, 1) := by decide +kernel
theorem dX3_init_0 : decode cX3_init 0 = .ok (.aload_n 0, 1) := by decide +kernel
theorem dX3_init_1 : decode cX3_init 1 = .ok (.invokespecial 3, 3) := by decide +kernel
theorem dX3_init_4 : decode cX3_init 4 = .ok (.aload_n 0, 1) := by decide +kernel
theorem dX3_init_5 : decode cX3_init 5 = .ok (.aload_n 1, 1) := by decide +kernel
theorem dX3_init_6 : decode cX3_init 6 = .ok (.putfield 9, 3) := by decide +kernel
theorem dX3_init_9 : decode cX3_init 9 = .ok (.return_, 1) := by decide +kernel
theorem dX3_readRealm_0 : decode cX3_readRealm 0 = .ok (.aload_n 0, 1) := by decide +kernel
theorem dX3_readRealm_1 : decode cX3_readRealm 1 = .ok (.invokevirtual 15, 3) := by decide +kernel
theorem dX3_readRealm_4 : decode cX3_readRealm 4 = .ok (.aload_n 1, 1) := by decide +kernel
theorem dX3_readRealm_5 : decode cX3_readRealm 5 = .ok (.invokevirtual 18, 3) := by decide +kernel
theorem dX3_readRealm_8 : decode cX3_readRealm 8 = .ok (.iconst 0, 1) := by decide +kernel
theorem dX3_readRealm_9 : decode cX3_readRealm 9 = .ok (.istore_n 2, 1) := by decide +kernel
theorem dX3_readRealm_10 : decode cX3_readRealm 10 = .ok (.iload_n 2, 1) := by decide +kernel
theorem dX3_readRealm_11 : decode cX3_readRealm 11 = .ok (.sipush 1000, 3) := by decide +kernel
theorem dX3_readRealm_14 : decode cX3_readRealm 14 = .ok (.if_icmp .ge 32, 3) := by decide +kernel
theorem dX3_readRealm_17 : decode cX3_readRealm 17 = .ok (.aload_n 0, 1) := by decide +kernel
theorem dX3_readRealm_18 : decode cX3_readRealm 18 = .ok (.invokevirtual 23, 3) := by decide +kernel
theorem dX3_readRealm_21 : decode cX3_readRealm 21 = .ok (.getstatic 27, 3) := by decide +kernel
theorem dX3_readRealm_24 : decode cX3_readRealm 24 = .ok (.if_acmp .eq 22, 3) := by decide +kernel
theorem dX3_readRealm_27 : decode cX3_readRealm 27 = .ok (.aload_n 0, 1) := by decide +kernel
theorem dX3_readRealm_28 : decode cX3_readRealm 28 = .ok (.aload_n 1, 1) := by decide +kernel
theorem dX3_readRealm_29 : decode cX3_readRealm 29 = .ok (.invokevirtual 33, 3) := by decide +kernel
theorem dX3_readRealm_32 : decode cX3_readRealm 32 = .ok (.ifCond .ne 8, 3) := by decide +kernel
theorem dX3_readRealm_35 : decode cX3_readRealm 35 = .ok (.aload_n 0, 1) := by decide +kernel
theorem dX3_readRealm_36 : decode cX3_readRealm 36 = .ok (.getfield 37, 3) := by decide +kernel
theorem dX3_readRealm_39 : decode cX3_readRealm 39 = .ok (.ireturn, 1) := by decide +kernel
theorem dX3_readRealm_40 : decode cX3_readRealm 40 = .ok (.iinc 2 1, 3) := by decide +kernel
theorem dX3_readRealm_43 : decode cX3_readRealm 43 = .ok (.goto (-33), 3) := by decide +kernel
theorem dX3_readRealm_46 : decode cX3_readRealm 46 = .ok (.iconst 0, 1) := by decide +kernel
theorem dX3_readRealm_47 : decode cX3_readRealm 47 = .ok (.ireturn, 1) := by decide +kernel
theorem dX3_readYears_0 : decode cX3_readYears 0 = .ok (.aload_n 0, 1) := by decide +kernel
theorem dX3_readYears_1 : decode cX3_readYears 1 = .ok (.invokevirtual 15, 3) := by decide +kernel
theorem dX3_readYears_4 : decode cX3_readYears 4 = .ok (.aload_n 2, 1) := by decide +kernel
theorem dX3_readYears_5 : decode cX3_readYears 5 = .ok (.iconst 0, 1) := by decide +kernel
theorem dX3_readYears_6 : decode cX3_readYears 6 = .ok (.putfield 41, 3) := by decide +kernel
theorem dX3_readYears_9 : decode cX3_readYears 9 = .ok (.iconst 0, 1) := by decide +kernel
theorem dX3_readYears_10 : decode cX3_readYears 10 = .ok (.istore_n 3, 1) := by decide +kernel
theorem dX3_readYears_11 : decode cX3_readYears 11 = .ok (.iload_n 3, 1) := by decide +kernel
theorem dX3_readYears_12 : decode cX3_readYears 12 = .ok (.sipush 1000, 3) := by decide +kernel
theorem dX3_readYears_15 : decode cX3_readYears 15 = .ok (.if_icmp .ge 33, 3) := by decide +kernel
theorem dX3_readYears_18 : decode cX3_readYears 18 = .ok (.aload_n 0, 1) := by decide +kernel
theorem dX3_readYears_19 : decode cX3_readYears 19 = .ok (.invokevirtual 23, 3) := by decide +kernel
theorem dX3_readYears_22 : decode cX3_readYears 22 = .ok (.getstatic 27, 3) := by decide +kernel
theorem dX3_readYears_25 : decode cX3_readYears 25 = .ok (.if_acmp .eq 23, 3) := by decide +kernel
theorem dX3_readYears_28 : decode cX3_readYears 28 = .ok (.aload_n 0, 1) := by decide +kernel
theorem dX3_readYears_29 : decode cX3_readYears 29 = .ok (.aload_n 1, 1) := by decide +kernel
theorem dX3_readYears_30 : decode cX3_readYears 30 = .ok (.aload_n 2, 1) := by decide +kernel
theorem dX3_readYears_31 : decode cX3_readYears 31 = .ok (.invokevirtual 46, 3) := by decide +kernel
theorem dX3_readYears_34 : decode cX3_readYears 34 = .ok (.ifCond .ne 8, 3) := by decide +kernel
theorem dX3_readYears_37 : decode cX3_readYears 37 = .ok (.aload_n 0, 1) := by decide +kernel
theorem dX3_readYears_38 : decode cX3_readYears 38 = .ok (.getfield 37, 3) := by decide +kernel
theorem dX3_readYears_41 : decode cX3_readYears 41 = .ok (.ireturn, 1) := by decide +kernel
theorem dX3_readYears_42 : decode cX3_readYears 42 = .ok (.iinc 3 1, 3) := by decide +kernel
theorem dX3_readYears_45 : decode cX3_readYears 45 = .ok (.goto (-34), 3) := by decide +kernel
theorem dX3_readYears_48 : decode cX3_readYears 48 = .ok (.iconst 0, 1) := by decide +kernel
theorem dX3_readYears_49 : decode cX3_readYears 49 = .ok (.ireturn, 1) := by decide +kernel
theorem dX3_start_0 : decode cX3_start 0 = .ok (.aload_n 0, 1) := by decide +kernel
theorem dX3_start_1 : decode cX3_start 1 = .ok (.getfield 9, 3) := by decide +kernel
theorem dX3_start_4 : decode cX3_start 4 = .ok (.invokevirtual 50, 3) := by decide +kernel
theorem dX3_start_7 : decode cX3_start 7 = .ok (.aload_n 0, 1) := by decide +kernel
theorem dX3_start_8 : decode cX3_start 8 = .ok (.iconst 0, 1) := by decide +kernel
theorem dX3_start_9 : decode cX3_start 9 = .ok (.putfield 55, 3) := by decide +kernel
theorem dX3_start_12 : decode cX3_start 12 = .ok (.aload_n 0, 1) := by decide +kernel
theorem dX3_start_13 : decode cX3_start 13 = .ok (.iconst 0, 1) := by decide +kernel
theorem dX3_start_14 : decode cX3_start 14 = .ok (.putfield 37, 3) := by decide +kernel
theorem dX3_start_17 : decode cX3_start 17 = .ok (.return_, 1) := by decide +kernel
theorem dX3_kind_0 : decode cX3_kind 0 = .ok (.aload_n 0, 1) := by decide +kernel
theorem dX3_kind_1 : decode cX3_kind 1 = .ok (.getfield 55, 3) := by decide +kernel
theorem dX3_kind_4 : decode cX3_kind 4 = .ok (.aload_n 0, 1) := by decide +kernel
theorem dX3_kind_5 : decode cX3_kind 5 = .ok (.getfield 9, 3) := by decide +kernel
theorem dX3_kind_8 : decode cX3_kind 8 = .ok (.getfield 58, 3) := by decide +kernel
theorem dX3_kind_11 : decode cX3_kind 11 = .ok (.if_icmp .ge 18, 3) := by decide +kernel
theorem dX3_kind_14 : decode cX3_kind 14 = .ok (.aload_n 0, 1) := by decide +kernel
theorem dX3_kind_15 : decode cX3_kind 15 = .ok (.getfield 9, 3) := by decide +kernel
theorem dX3_kind_18 : decode cX3_kind 18 = .ok (.getfield 61, 3) := by decide +kernel
theorem dX3_kind_21 : decode cX3_kind 21 = .ok (.aload_n 0, 1) := by decide +kernel
theorem dX3_kind_22 : decode cX3_kind 22 = .ok (.getfield 55, 3) := by decide +kernel
theorem dX3_kind_25 : decode cX3_kind 25 = .ok (.aaload, 1) := by decide +kernel
theorem dX3_kind_26 : decode cX3_kind 26 = .ok (.goto 6, 3) := by decide +kernel
theorem dX3_kind_29 : decode cX3_kind 29 = .ok (.getstatic 27, 3) := by decide +kernel
theorem dX3_kind_32 : decode cX3_kind 32 = .ok (.areturn, 1) := by decide +kernel
theorem dX3_value_0 : decode cX3_value 0 = .ok (.aload_n 0, 1) := by decide +kernel
theorem dX3_value_1 : decode cX3_value 1 = .ok (.getfield 55, 3) := by decide +kernel
theorem dX3_value_4 : decode cX3_value 4 = .ok (.aload_n 0, 1) := by decide +kernel
theorem dX3_value_5 : decode cX3_value 5 = .ok (.getfield 9, 3) := by decide +kernel
theorem dX3_value_8 : decode cX3_value 8 = .ok (.getfield 58, 3) := by decide +kernel
theorem dX3_value_11 : decode cX3_value 11 = .ok (.if_icmp .ge 18, 3) := by decide +kernel
theorem dX3_value_14 : decode cX3_value 14 = .ok (.aload_n 0, 1) := by decide +kernel
theorem dX3_value_15 : decode cX3_value 15 = .ok (.getfield 9, 3) := by decide +kernel
theorem dX3_value_18 : decode cX3_value 18 = .ok (.getfield 65, 3) := by decide +kernel
theorem dX3_value_21 : decode cX3_value 21 = .ok (.aload_n 0, 1) := by decide +kernel
theorem dX3_value_22 : decode cX3_value 22 = .ok (.getfield 55, 3) := by decide +kernel
theorem dX3_value_25 : decode cX3_value 25 = .ok (.laload, 1) := by decide +kernel
theorem dX3_value_26 : decode cX3_value 26 = .ok (.goto 4, 3) := by decide +kernel
theorem dX3_value_29 : decode cX3_value 29 = .ok (.lconst 0, 1) := by decide +kernel
theorem dX3_value_30 : decode cX3_value 30 = .ok (.lreturn, 1) := by decide +kernel
theorem dX3_fail_0 : decode cX3_fail 0 = .ok (.aload_n 0, 1) := by decide +kernel
theorem dX3_fail_1 : decode cX3_fail 1 = .ok (.getfield 55, 3) := by decide +kernel
theorem dX3_fail_4 : decode cX3_fail 4 = .ok (.aload_n 0, 1) := by decide +kernel
theorem dX3_fail_5 : decode cX3_fail 5 = .ok (.getfield 9, 3) := by decide +kernel
theorem dX3_fail_8 : decode cX3_fail 8 = .ok (.getfield 58, 3) := by decide +kernel
theorem dX3_fail_11 : decode cX3_fail 11 = .ok (.if_icmp .ge 18, 3) := by decide +kernel
theorem dX3_fail_14 : decode cX3_fail 14 = .ok (.aload_n 0, 1) := by decide +kernel
theorem dX3_fail_15 : decode cX3_fail 15 = .ok (.getfield 9, 3) := by decide +kernel
theorem dX3_fail_18 : decode cX3_fail 18 = .ok (.getfield 69, 3) := by decide +kernel
theorem dX3_fail_21 : decode cX3_fail 21 = .ok (.aload_n 0, 1) := by decide +kernel
theorem dX3_fail_22 : decode cX3_fail 22 = .ok (.getfield 55, 3) := by decide +kernel
theorem dX3_fail_25 : decode cX3_fail 25 = .ok (.iaload, 1) := by decide +kernel
theorem dX3_fail_26 : decode cX3_fail 26 = .ok (.goto 4, 3) := by decide +kernel
theorem dX3_fail_29 : decode cX3_fail 29 = .ok (.iconst 0, 1) := by decide +kernel
theorem dX3_fail_30 : decode cX3_fail 30 = .ok (.istore_n 2, 1) := by decide +kernel
theorem dX3_fail_31 : decode cX3_fail 31 = .ok (.aload_n 0, 1) := by decide +kernel
theorem dX3_fail_32 : decode cX3_fail 32 = .ok (.iload_n 1, 1) := by decide +kernel
theorem dX3_fail_33 : decode cX3_fail 33 = .ok (.bipush 16, 2) := by decide +kernel
theorem dX3_fail_35 : decode cX3_fail 35 = .ok (.iload_n 2, 1) := by decide +kernel
theorem dX3_fail_36 : decode cX3_fail 36 = .ok (.imul, 1) := by decide +kernel
theorem dX3_fail_37 : decode cX3_fail 37 = .ok (.iadd, 1) := by decide +kernel
theorem dX3_fail_38 : decode cX3_fail 38 = .ok (.putfield 37, 3) := by decide +kernel
theorem dX3_fail_41 : decode cX3_fail 41 = .ok (.iconst 0, 1) := by decide +kernel
theorem dX3_fail_42 : decode cX3_fail 42 = .ok (.ireturn, 1) := by decide +kernel
theorem dX3_take_0 : decode cX3_take 0 = .ok (.aload_n 0, 1) := by decide +kernel
theorem dX3_take_1 : decode cX3_take 1 = .ok (.invokevirtual 23, 3) := by decide +kernel
theorem dX3_take_4 : decode cX3_take 4 = .ok (.aload_n 1, 1) := by decide +kernel
theorem dX3_take_5 : decode cX3_take 5 = .ok (.if_acmp .eq 9, 3) := by decide +kernel
theorem dX3_take_8 : decode cX3_take 8 = .ok (.aload_n 0, 1) := by decide +kernel
theorem dX3_take_9 : decode cX3_take 9 = .ok (.iconst 1, 1) := by decide +kernel
theorem dX3_take_10 : decode cX3_take 10 = .ok (.invokevirtual 73, 3) := by decide +kernel
theorem dX3_take_13 : decode cX3_take 13 = .ok (.ireturn, 1) := by decide +kernel
theorem dX3_take_14 : decode cX3_take 14 = .ok (.aload_n 0, 1) := by decide +kernel
theorem dX3_take_15 : decode cX3_take 15 = .ok (.dup, 1) := by decide +kernel
theorem dX3_take_16 : decode cX3_take 16 = .ok (.getfield 55, 3) := by decide +kernel
theorem dX3_take_19 : decode cX3_take 19 = .ok (.iconst 1, 1) := by decide +kernel
theorem dX3_take_20 : decode cX3_take 20 = .ok (.iadd, 1) := by decide +kernel
theorem dX3_take_21 : decode cX3_take 21 = .ok (.putfield 55, 3) := by decide +kernel
theorem dX3_take_24 : decode cX3_take 24 = .ok (.iconst 1, 1) := by decide +kernel
theorem dX3_take_25 : decode cX3_take 25 = .ok (.ireturn, 1) := by decide +kernel
theorem dX3_realmLine_0 : decode cX3_realmLine 0 = .ok (.aload_n 0, 1) := by decide +kernel
theorem dX3_realmLine_1 : decode cX3_realmLine 1 = .ok (.invokevirtual 23, 3) := by decide +kernel
theorem dX3_realmLine_4 : decode cX3_realmLine 4 = .ok (.astore_n 2, 1) := by decide +kernel
theorem dX3_realmLine_5 : decode cX3_realmLine 5 = .ok (.aload_n 2, 1) := by decide +kernel
theorem dX3_realmLine_6 : decode cX3_realmLine 6 = .ok (.getstatic 77, 3) := by decide +kernel
theorem dX3_realmLine_9 : decode cX3_realmLine 9 = .ok (.if_acmp .ne 9, 3) := by decide +kernel
theorem dX3_realmLine_12 : decode cX3_realmLine 12 = .ok (.aload_n 0, 1) := by decide +kernel
theorem dX3_realmLine_13 : decode cX3_realmLine 13 = .ok (.aload_n 1, 1) := by decide +kernel
theorem dX3_realmLine_14 : decode cX3_realmLine 14 = .ok (.invokevirtual 80, 3) := by decide +kernel
theorem dX3_realmLine_17 : decode cX3_realmLine 17 = .ok (.ireturn, 1) := by decide +kernel
theorem dX3_realmLine_18 : decode cX3_realmLine 18 = .ok (.aload_n 2, 1) := by decide +kernel
theorem dX3_realmLine_19 : decode cX3_realmLine 19 = .ok (.getstatic 83, 3) := by decide +kernel
theorem dX3_realmLine_22 : decode cX3_realmLine 22 = .ok (.if_acmp .ne 9, 3) := by decide +kernel
theorem dX3_realmLine_25 : decode cX3_realmLine 25 = .ok (.aload_n 0, 1) := by decide +kernel
theorem dX3_realmLine_26 : decode cX3_realmLine 26 = .ok (.aload_n 1, 1) := by decide +kernel
theorem dX3_realmLine_27 : decode cX3_realmLine 27 = .ok (.invokevirtual 86, 3) := by decide +kernel
theorem dX3_realmLine_30 : decode cX3_realmLine 30 = .ok (.ireturn, 1) := by decide +kernel
theorem dX3_realmLine_31 : decode cX3_realmLine 31 = .ok (.aload_n 2, 1) := by decide +kernel
theorem dX3_realmLine_32 : decode cX3_realmLine 32 = .ok (.getstatic 89, 3) := by decide +kernel
theorem dX3_realmLine_35 : decode cX3_realmLine 35 = .ok (.if_acmp .ne 9, 3) := by decide +kernel
theorem dX3_realmLine_38 : decode cX3_realmLine 38 = .ok (.aload_n 0, 1) := by decide +kernel
theorem dX3_realmLine_39 : decode cX3_realmLine 39 = .ok (.aload_n 1, 1) := by decide +kernel
theorem dX3_realmLine_40 : decode cX3_realmLine 40 = .ok (.invokevirtual 92, 3) := by decide +kernel
theorem dX3_realmLine_43 : decode cX3_realmLine 43 = .ok (.ireturn, 1) := by decide +kernel
theorem dX3_realmLine_44 : decode cX3_realmLine 44 = .ok (.aload_n 2, 1) := by decide +kernel
theorem dX3_realmLine_45 : decode cX3_realmLine 45 = .ok (.getstatic 95, 3) := by decide +kernel
theorem dX3_realmLine_48 : decode cX3_realmLine 48 = .ok (.if_acmp .ne 9, 3) := by decide +kernel
theorem dX3_realmLine_51 : decode cX3_realmLine 51 = .ok (.aload_n 0, 1) := by decide +kernel
theorem dX3_realmLine_52 : decode cX3_realmLine 52 = .ok (.aload_n 1, 1) := by decide +kernel
theorem dX3_realmLine_53 : decode cX3_realmLine 53 = .ok (.invokevirtual 98, 3) := by decide +kernel
theorem dX3_realmLine_56 : decode cX3_realmLine 56 = .ok (.ireturn, 1) := by decide +kernel
theorem dX3_realmLine_57 : decode cX3_realmLine 57 = .ok (.aload_n 2, 1) := by decide +kernel
theorem dX3_realmLine_58 : decode cX3_realmLine 58 = .ok (.getstatic 101, 3) := by decide +kernel
theorem dX3_realmLine_61 : decode cX3_realmLine 61 = .ok (.if_acmp .ne 12, 3) := by decide +kernel
theorem dX3_realmLine_64 : decode cX3_realmLine 64 = .ok (.aload_n 0, 1) := by decide +kernel
theorem dX3_realmLine_65 : decode cX3_realmLine 65 = .ok (.aload_n 1, 1) := by decide +kernel
theorem dX3_realmLine_66 : decode cX3_realmLine 66 = .ok (.getfield 104, 3) := by decide +kernel
theorem dX3_realmLine_69 : decode cX3_realmLine 69 = .ok (.invokevirtual 108, 3) := by decide +kernel
theorem dX3_realmLine_72 : decode cX3_realmLine 72 = .ok (.ireturn, 1) := by decide +kernel
theorem dX3_realmLine_73 : decode cX3_realmLine 73 = .ok (.aload_n 2, 1) := by decide +kernel
theorem dX3_realmLine_74 : decode cX3_realmLine 74 = .ok (.getstatic 112, 3) := by decide +kernel
theorem dX3_realmLine_77 : decode cX3_realmLine 77 = .ok (.if_acmp .ne 14, 3) := by decide +kernel
theorem dX3_realmLine_80 : decode cX3_realmLine 80 = .ok (.aload_n 0, 1) := by decide +kernel
theorem dX3_realmLine_81 : decode cX3_realmLine 81 = .ok (.aload_n 1, 1) := by decide +kernel
theorem dX3_realmLine_82 : decode cX3_realmLine 82 = .ok (.getfield 115, 3) := by decide +kernel
theorem dX3_realmLine_85 : decode cX3_realmLine 85 = .ok (.invokevirtual 108, 3) := by decide +kernel
theorem dX3_realmLine_88 : decode cX3_realmLine 88 = .ok (.goto 8, 3) := by decide +kernel
theorem dX3_realmLine_91 : decode cX3_realmLine 91 = .ok (.aload_n 0, 1) := by decide +kernel
theorem dX3_realmLine_92 : decode cX3_realmLine 92 = .ok (.iconst 1, 1) := by decide +kernel
theorem dX3_realmLine_93 : decode cX3_realmLine 93 = .ok (.invokevirtual 73, 3) := by decide +kernel
theorem dX3_realmLine_96 : decode cX3_realmLine 96 = .ok (.ireturn, 1) := by decide +kernel
theorem dX3_wigLine_0 : decode cX3_wigLine 0 = .ok (.aload_n 1, 1) := by decide +kernel
theorem dX3_wigLine_1 : decode cX3_wigLine 1 = .ok (.getfield 118, 3) := by decide +kernel
theorem dX3_wigLine_4 : decode cX3_wigLine 4 = .ok (.istore_n 2, 1) := by decide +kernel
theorem dX3_wigLine_5 : decode cX3_wigLine 5 = .ok (.iload_n 2, 1) := by decide +kernel
theorem dX3_wigLine_6 : decode cX3_wigLine 6 = .ok (.bipush 6, 2) := by decide +kernel
theorem dX3_wigLine_8 : decode cX3_wigLine 8 = .ok (.if_icmp .lt 9, 3) := by decide +kernel
theorem dX3_wigLine_11 : decode cX3_wigLine 11 = .ok (.aload_n 0, 1) := by decide +kernel
theorem dX3_wigLine_12 : decode cX3_wigLine 12 = .ok (.iconst 5, 1) := by decide +kernel
theorem dX3_wigLine_13 : decode cX3_wigLine 13 = .ok (.invokevirtual 73, 3) := by decide +kernel
theorem dX3_wigLine_16 : decode cX3_wigLine 16 = .ok (.ireturn, 1) := by decide +kernel
theorem dX3_wigLine_17 : decode cX3_wigLine 17 = .ok (.aload_n 0, 1) := by decide +kernel
theorem dX3_wigLine_18 : decode cX3_wigLine 18 = .ok (.dup, 1) := by decide +kernel
theorem dX3_wigLine_19 : decode cX3_wigLine 19 = .ok (.getfield 55, 3) := by decide +kernel
theorem dX3_wigLine_22 : decode cX3_wigLine 22 = .ok (.iconst 1, 1) := by decide +kernel
theorem dX3_wigLine_23 : decode cX3_wigLine 23 = .ok (.iadd, 1) := by decide +kernel
theorem dX3_wigLine_24 : decode cX3_wigLine 24 = .ok (.putfield 55, 3) := by decide +kernel
theorem dX3_wigLine_27 : decode cX3_wigLine 27 = .ok (.aload_n 0, 1) := by decide +kernel
theorem dX3_wigLine_28 : decode cX3_wigLine 28 = .ok (.invokevirtual 121, 3) := by decide +kernel
theorem dX3_wigLine_31 : decode cX3_wigLine 31 = .ok (.lstore_n 3, 1) := by decide +kernel
theorem dX3_wigLine_32 : decode cX3_wigLine 32 = .ok (.aload_n 1, 1) := by decide +kernel
theorem dX3_wigLine_33 : decode cX3_wigLine 33 = .ok (.getfield 125, 3) := by decide +kernel
theorem dX3_wigLine_36 : decode cX3_wigLine 36 = .ok (.iload_n 2, 1) := by decide +kernel
theorem dX3_wigLine_37 : decode cX3_wigLine 37 = .ok (.aaload, 1) := by decide +kernel
theorem dX3_wigLine_38 : decode cX3_wigLine 38 = .ok (.astore 5, 2) := by decide +kernel
theorem dX3_wigLine_40 : decode cX3_wigLine 40 = .ok (.aload_n 0, 1) := by decide +kernel
theorem dX3_wigLine_41 : decode cX3_wigLine 41 = .ok (.aload_n 1, 1) := by decide +kernel
theorem dX3_wigLine_42 : decode cX3_wigLine 42 = .ok (.invokevirtual 129, 3) := by decide +kernel
theorem dX3_wigLine_45 : decode cX3_wigLine 45 = .ok (.ifCond .eq 66, 3) := by decide +kernel
theorem dX3_wigLine_48 : decode cX3_wigLine 48 = .ok (.aload_n 0, 1) := by decide +kernel
theorem dX3_wigLine_49 : decode cX3_wigLine 49 = .ok (.getstatic 132, 3) := by decide +kernel
theorem dX3_wigLine_52 : decode cX3_wigLine 52 = .ok (.bipush 40, 2) := by decide +kernel
theorem dX3_wigLine_54 : decode cX3_wigLine 54 = .ok (.bipush 79, 2) := by decide +kernel
theorem dX3_wigLine_56 : decode cX3_wigLine 56 = .ok (.aload 5, 2) := by decide +kernel
theorem dX3_wigLine_58 : decode cX3_wigLine 58 = .ok (.iconst 0, 1) := by decide +kernel
theorem dX3_wigLine_59 : decode cX3_wigLine 59 = .ok (.invokevirtual 135, 3) := by decide +kernel
theorem dX3_wigLine_62 : decode cX3_wigLine 62 = .ok (.ifCond .eq 49, 3) := by decide +kernel
theorem dX3_wigLine_65 : decode cX3_wigLine 65 = .ok (.aload_n 0, 1) := by decide +kernel
theorem dX3_wigLine_66 : decode cX3_wigLine 66 = .ok (.getstatic 139, 3) := by decide +kernel
theorem dX3_wigLine_69 : decode cX3_wigLine 69 = .ok (.iconst 0, 1) := by decide +kernel
theorem dX3_wigLine_70 : decode cX3_wigLine 70 = .ok (.bipush 99, 2) := by decide +kernel
theorem dX3_wigLine_72 : decode cX3_wigLine 72 = .ok (.aload 5, 2) := by decide +kernel
theorem dX3_wigLine_74 : decode cX3_wigLine 74 = .ok (.iconst 1, 1) := by decide +kernel
theorem dX3_wigLine_75 : decode cX3_wigLine 75 = .ok (.invokevirtual 135, 3) := by decide +kernel
theorem dX3_wigLine_78 : decode cX3_wigLine 78 = .ok (.ifCond .eq 33, 3) := by decide +kernel
theorem dX3_wigLine_81 : decode cX3_wigLine 81 = .ok (.aload_n 0, 1) := by decide +kernel
theorem dX3_wigLine_82 : decode cX3_wigLine 82 = .ok (.getstatic 142, 3) := by decide +kernel
theorem dX3_wigLine_85 : decode cX3_wigLine 85 = .ok (.iconst 0, 1) := by decide +kernel
theorem dX3_wigLine_86 : decode cX3_wigLine 86 = .ok (.bipush 9, 2) := by decide +kernel
theorem dX3_wigLine_88 : decode cX3_wigLine 88 = .ok (.aload 5, 2) := by decide +kernel
theorem dX3_wigLine_90 : decode cX3_wigLine 90 = .ok (.iconst 2, 1) := by decide +kernel
theorem dX3_wigLine_91 : decode cX3_wigLine 91 = .ok (.invokevirtual 135, 3) := by decide +kernel
theorem dX3_wigLine_94 : decode cX3_wigLine 94 = .ok (.ifCond .eq 17, 3) := by decide +kernel
theorem dX3_wigLine_97 : decode cX3_wigLine 97 = .ok (.aload_n 0, 1) := by decide +kernel
theorem dX3_wigLine_98 : decode cX3_wigLine 98 = .ok (.getstatic 145, 3) := by decide +kernel
theorem dX3_wigLine_101 : decode cX3_wigLine 101 = .ok (.invokevirtual 148, 3) := by decide +kernel
theorem dX3_wigLine_104 : decode cX3_wigLine 104 = .ok (.ifCond .eq 7, 3) := by decide +kernel
theorem dX3_wigLine_107 : decode cX3_wigLine 107 = .ok (.iconst 1, 1) := by decide +kernel
theorem dX3_wigLine_108 : decode cX3_wigLine 108 = .ok (.goto 4, 3) := by decide +kernel
theorem dX3_wigLine_111 : decode cX3_wigLine 111 = .ok (.iconst 0, 1) := by decide +kernel
theorem dX3_wigLine_112 : decode cX3_wigLine 112 = .ok (.istore 6, 2) := by decide +kernel
theorem dX3_wigLine_114 : decode cX3_wigLine 114 = .ok (.iload 6, 2) := by decide +kernel
theorem dX3_wigLine_116 : decode cX3_wigLine 116 = .ok (.ifCond .eq 17, 3) := by decide +kernel
theorem dX3_wigLine_119 : decode cX3_wigLine 119 = .ok (.aload_n 1, 1) := by decide +kernel
theorem dX3_wigLine_120 : decode cX3_wigLine 120 = .ok (.getfield 152, 3) := by decide +kernel
theorem dX3_wigLine_123 : decode cX3_wigLine 123 = .ok (.iload_n 2, 1) := by decide +kernel
theorem dX3_wigLine_124 : decode cX3_wigLine 124 = .ok (.lload_n 3, 1) := by decide +kernel
theorem dX3_wigLine_125 : decode cX3_wigLine 125 = .ok (.lastore, 1) := by decide +kernel
theorem dX3_wigLine_126 : decode cX3_wigLine 126 = .ok (.aload_n 1, 1) := by decide +kernel
theorem dX3_wigLine_127 : decode cX3_wigLine 127 = .ok (.iload_n 2, 1) := by decide +kernel
theorem dX3_wigLine_128 : decode cX3_wigLine 128 = .ok (.iconst 1, 1) := by decide +kernel
theorem dX3_wigLine_129 : decode cX3_wigLine 129 = .ok (.iadd, 1) := by decide +kernel
theorem dX3_wigLine_130 : decode cX3_wigLine 130 = .ok (.putfield 118, 3) := by decide +kernel
theorem dX3_wigLine_133 : decode cX3_wigLine 133 = .ok (.iload 6, 2) := by decide +kernel
theorem dX3_wigLine_135 : decode cX3_wigLine 135 = .ok (.ireturn, 1) := by decide +kernel
theorem dX3_headLine_0 : decode cX3_headLine 0 = .ok (.aload_n 1, 1) := by decide +kernel
theorem dX3_headLine_1 : decode cX3_headLine 1 = .ok (.getfield 155, 3) := by decide +kernel
theorem dX3_headLine_4 : decode cX3_headLine 4 = .ok (.istore_n 2, 1) := by decide +kernel
theorem dX3_headLine_5 : decode cX3_headLine 5 = .ok (.iload_n 2, 1) := by decide +kernel
theorem dX3_headLine_6 : decode cX3_headLine 6 = .ok (.bipush 6, 2) := by decide +kernel
theorem dX3_headLine_8 : decode cX3_headLine 8 = .ok (.if_icmp .lt 9, 3) := by decide +kernel
theorem dX3_headLine_11 : decode cX3_headLine 11 = .ok (.aload_n 0, 1) := by decide +kernel
theorem dX3_headLine_12 : decode cX3_headLine 12 = .ok (.iconst 5, 1) := by decide +kernel
theorem dX3_headLine_13 : decode cX3_headLine 13 = .ok (.invokevirtual 73, 3) := by decide +kernel
theorem dX3_headLine_16 : decode cX3_headLine 16 = .ok (.ireturn, 1) := by decide +kernel
theorem dX3_headLine_17 : decode cX3_headLine 17 = .ok (.aload_n 0, 1) := by decide +kernel
theorem dX3_headLine_18 : decode cX3_headLine 18 = .ok (.dup, 1) := by decide +kernel
theorem dX3_headLine_19 : decode cX3_headLine 19 = .ok (.getfield 55, 3) := by decide +kernel
theorem dX3_headLine_22 : decode cX3_headLine 22 = .ok (.iconst 1, 1) := by decide +kernel
theorem dX3_headLine_23 : decode cX3_headLine 23 = .ok (.iadd, 1) := by decide +kernel
theorem dX3_headLine_24 : decode cX3_headLine 24 = .ok (.putfield 55, 3) := by decide +kernel
theorem dX3_headLine_27 : decode cX3_headLine 27 = .ok (.aload_n 0, 1) := by decide +kernel
theorem dX3_headLine_28 : decode cX3_headLine 28 = .ok (.invokevirtual 121, 3) := by decide +kernel
theorem dX3_headLine_31 : decode cX3_headLine 31 = .ok (.lstore_n 3, 1) := by decide +kernel
theorem dX3_headLine_32 : decode cX3_headLine 32 = .ok (.aload_n 1, 1) := by decide +kernel
theorem dX3_headLine_33 : decode cX3_headLine 33 = .ok (.getfield 158, 3) := by decide +kernel
theorem dX3_headLine_36 : decode cX3_headLine 36 = .ok (.iload_n 2, 1) := by decide +kernel
theorem dX3_headLine_37 : decode cX3_headLine 37 = .ok (.aaload, 1) := by decide +kernel
theorem dX3_headLine_38 : decode cX3_headLine 38 = .ok (.astore 5, 2) := by decide +kernel
theorem dX3_headLine_40 : decode cX3_headLine 40 = .ok (.aload_n 0, 1) := by decide +kernel
theorem dX3_headLine_41 : decode cX3_headLine 41 = .ok (.aload_n 1, 1) := by decide +kernel
theorem dX3_headLine_42 : decode cX3_headLine 42 = .ok (.invokevirtual 129, 3) := by decide +kernel
theorem dX3_headLine_45 : decode cX3_headLine 45 = .ok (.ifCond .eq 75, 3) := by decide +kernel
theorem dX3_headLine_48 : decode cX3_headLine 48 = .ok (.aload_n 0, 1) := by decide +kernel
theorem dX3_headLine_49 : decode cX3_headLine 49 = .ok (.aload 5, 2) := by decide +kernel
theorem dX3_headLine_51 : decode cX3_headLine 51 = .ok (.invokevirtual 161, 3) := by decide +kernel
theorem dX3_headLine_54 : decode cX3_headLine 54 = .ok (.ifCond .eq 66, 3) := by decide +kernel
theorem dX3_headLine_57 : decode cX3_headLine 57 = .ok (.aload_n 0, 1) := by decide +kernel
theorem dX3_headLine_58 : decode cX3_headLine 58 = .ok (.getstatic 132, 3) := by decide +kernel
theorem dX3_headLine_61 : decode cX3_headLine 61 = .ok (.bipush 40, 2) := by decide +kernel
theorem dX3_headLine_63 : decode cX3_headLine 63 = .ok (.bipush 79, 2) := by decide +kernel
theorem dX3_headLine_65 : decode cX3_headLine 65 = .ok (.aload 5, 2) := by decide +kernel
theorem dX3_headLine_67 : decode cX3_headLine 67 = .ok (.iconst 1, 1) := by decide +kernel
theorem dX3_headLine_68 : decode cX3_headLine 68 = .ok (.invokevirtual 135, 3) := by decide +kernel
theorem dX3_headLine_71 : decode cX3_headLine 71 = .ok (.ifCond .eq 49, 3) := by decide +kernel
theorem dX3_headLine_74 : decode cX3_headLine 74 = .ok (.aload_n 0, 1) := by decide +kernel
theorem dX3_headLine_75 : decode cX3_headLine 75 = .ok (.getstatic 165, 3) := by decide +kernel
theorem dX3_headLine_78 : decode cX3_headLine 78 = .ok (.iconst 0, 1) := by decide +kernel
theorem dX3_headLine_79 : decode cX3_headLine 79 = .ok (.bipush 99, 2) := by decide +kernel
theorem dX3_headLine_81 : decode cX3_headLine 81 = .ok (.aload 5, 2) := by decide +kernel
theorem dX3_headLine_83 : decode cX3_headLine 83 = .ok (.iconst 2, 1) := by decide +kernel
theorem dX3_headLine_84 : decode cX3_headLine 84 = .ok (.invokevirtual 135, 3) := by decide +kernel
theorem dX3_headLine_87 : decode cX3_headLine 87 = .ok (.ifCond .eq 33, 3) := by decide +kernel
theorem dX3_headLine_90 : decode cX3_headLine 90 = .ok (.aload_n 0, 1) := by decide +kernel
theorem dX3_headLine_91 : decode cX3_headLine 91 = .ok (.getstatic 142, 3) := by decide +kernel
theorem dX3_headLine_94 : decode cX3_headLine 94 = .ok (.iconst 0, 1) := by decide +kernel
theorem dX3_headLine_95 : decode cX3_headLine 95 = .ok (.bipush 9, 2) := by decide +kernel
theorem dX3_headLine_97 : decode cX3_headLine 97 = .ok (.aload 5, 2) := by decide +kernel
theorem dX3_headLine_99 : decode cX3_headLine 99 = .ok (.iconst 3, 1) := by decide +kernel
theorem dX3_headLine_100 : decode cX3_headLine 100 = .ok (.invokevirtual 135, 3) := by decide +kernel
theorem dX3_headLine_103 : decode cX3_headLine 103 = .ok (.ifCond .eq 17, 3) := by decide +kernel
theorem dX3_headLine_106 : decode cX3_headLine 106 = .ok (.aload_n 0, 1) := by decide +kernel
theorem dX3_headLine_107 : decode cX3_headLine 107 = .ok (.getstatic 145, 3) := by decide +kernel
theorem dX3_headLine_110 : decode cX3_headLine 110 = .ok (.invokevirtual 148, 3) := by decide +kernel
theorem dX3_headLine_113 : decode cX3_headLine 113 = .ok (.ifCond .eq 7, 3) := by decide +kernel
theorem dX3_headLine_116 : decode cX3_headLine 116 = .ok (.iconst 1, 1) := by decide +kernel
theorem dX3_headLine_117 : decode cX3_headLine 117 = .ok (.goto 4, 3) := by decide +kernel
theorem dX3_headLine_120 : decode cX3_headLine 120 = .ok (.iconst 0, 1) := by decide +kernel
theorem dX3_headLine_121 : decode cX3_headLine 121 = .ok (.istore 6, 2) := by decide +kernel
theorem dX3_headLine_123 : decode cX3_headLine 123 = .ok (.iload 6, 2) := by decide +kernel
theorem dX3_headLine_125 : decode cX3_headLine 125 = .ok (.ifCond .eq 17, 3) := by decide +kernel
theorem dX3_headLine_128 : decode cX3_headLine 128 = .ok (.aload_n 1, 1) := by decide +kernel
theorem dX3_headLine_129 : decode cX3_headLine 129 = .ok (.getfield 168, 3) := by decide +kernel
theorem dX3_headLine_132 : decode cX3_headLine 132 = .ok (.iload_n 2, 1) := by decide +kernel
theorem dX3_headLine_133 : decode cX3_headLine 133 = .ok (.lload_n 3, 1) := by decide +kernel
theorem dX3_headLine_134 : decode cX3_headLine 134 = .ok (.lastore, 1) := by decide +kernel
theorem dX3_headLine_135 : decode cX3_headLine 135 = .ok (.aload_n 1, 1) := by decide +kernel
theorem dX3_headLine_136 : decode cX3_headLine 136 = .ok (.iload_n 2, 1) := by decide +kernel
theorem dX3_headLine_137 : decode cX3_headLine 137 = .ok (.iconst 1, 1) := by decide +kernel
theorem dX3_headLine_138 : decode cX3_headLine 138 = .ok (.iadd, 1) := by decide +kernel
theorem dX3_headLine_139 : decode cX3_headLine 139 = .ok (.putfield 155, 3) := by decide +kernel
theorem dX3_headLine_142 : decode cX3_headLine 142 = .ok (.iload 6, 2) := by decide +kernel
theorem dX3_headLine_144 : decode cX3_headLine 144 = .ok (.ireturn, 1) := by decide +kernel
theorem dX3_newName_0 : decode cX3_newName 0 = .ok (.aload_n 0, 1) := by decide +kernel
theorem dX3_newName_1 : decode cX3_newName 1 = .ok (.invokevirtual 23, 3) := by decide +kernel
theorem dX3_newName_4 : decode cX3_newName 4 = .ok (.getfield 171, 3) := by decide +kernel
theorem dX3_newName_7 : decode cX3_newName 7 = .ok (.ifCond .ne 9, 3) := by decide +kernel
theorem dX3_newName_10 : decode cX3_newName 10 = .ok (.aload_n 0, 1) := by decide +kernel
theorem dX3_newName_11 : decode cX3_newName 11 = .ok (.iconst 1, 1) := by decide +kernel
theorem dX3_newName_12 : decode cX3_newName 12 = .ok (.invokevirtual 73, 3) := by decide +kernel
theorem dX3_newName_15 : decode cX3_newName 15 = .ok (.ireturn, 1) := by decide +kernel
theorem dX3_newName_16 : decode cX3_newName 16 = .ok (.aload_n 1, 1) := by decide +kernel
theorem dX3_newName_17 : decode cX3_newName 17 = .ok (.aload_n 0, 1) := by decide +kernel
theorem dX3_newName_18 : decode cX3_newName 18 = .ok (.invokevirtual 121, 3) := by decide +kernel
theorem dX3_newName_21 : decode cX3_newName 21 = .ok (.invokevirtual 175, 3) := by decide +kernel
theorem dX3_newName_24 : decode cX3_newName 24 = .ok (.iconst (-1), 1) := by decide +kernel
theorem dX3_newName_25 : decode cX3_newName 25 = .ok (.if_icmp .ne 15, 3) := by decide +kernel
theorem dX3_newName_28 : decode cX3_newName 28 = .ok (.aload_n 1, 1) := by decide +kernel
theorem dX3_newName_29 : decode cX3_newName 29 = .ok (.aload_n 0, 1) := by decide +kernel
theorem dX3_newName_30 : decode cX3_newName 30 = .ok (.invokevirtual 121, 3) := by decide +kernel
theorem dX3_newName_33 : decode cX3_newName 33 = .ok (.invokevirtual 179, 3) := by decide +kernel
theorem dX3_newName_36 : decode cX3_newName 36 = .ok (.iconst (-1), 1) := by decide +kernel
theorem dX3_newName_37 : decode cX3_newName 37 = .ok (.if_icmp .eq 9, 3) := by decide +kernel
theorem dX3_newName_40 : decode cX3_newName 40 = .ok (.aload_n 0, 1) := by decide +kernel
theorem dX3_newName_41 : decode cX3_newName 41 = .ok (.iconst 3, 1) := by decide +kernel
theorem dX3_newName_42 : decode cX3_newName 42 = .ok (.invokevirtual 73, 3) := by decide +kernel
theorem dX3_newName_45 : decode cX3_newName 45 = .ok (.ireturn, 1) := by decide +kernel
theorem dX3_newName_46 : decode cX3_newName 46 = .ok (.aload_n 0, 1) := by decide +kernel
theorem dX3_newName_47 : decode cX3_newName 47 = .ok (.dup, 1) := by decide +kernel
theorem dX3_newName_48 : decode cX3_newName 48 = .ok (.getfield 55, 3) := by decide +kernel
theorem dX3_newName_51 : decode cX3_newName 51 = .ok (.iconst 1, 1) := by decide +kernel
theorem dX3_newName_52 : decode cX3_newName 52 = .ok (.iadd, 1) := by decide +kernel
theorem dX3_newName_53 : decode cX3_newName 53 = .ok (.putfield 55, 3) := by decide +kernel
theorem dX3_newName_56 : decode cX3_newName 56 = .ok (.iconst 1, 1) := by decide +kernel
theorem dX3_newName_57 : decode cX3_newName 57 = .ok (.ireturn, 1) := by decide +kernel
theorem dX3_headKind_0 : decode cX3_headKind 0 = .ok (.aload_n 0, 1) := by decide +kernel
theorem dX3_headKind_1 : decode cX3_headKind 1 = .ok (.invokevirtual 23, 3) := by decide +kernel
theorem dX3_headKind_4 : decode cX3_headKind 4 = .ok (.astore_n 2, 1) := by decide +kernel
theorem dX3_headKind_5 : decode cX3_headKind 5 = .ok (.aload_n 2, 1) := by decide +kernel
theorem dX3_headKind_6 : decode cX3_headKind 6 = .ok (.getstatic 182, 3) := by decide +kernel
theorem dX3_headKind_9 : decode cX3_headKind 9 = .ok (.if_acmp .eq 30, 3) := by decide +kernel
theorem dX3_headKind_12 : decode cX3_headKind 12 = .ok (.aload_n 2, 1) := by decide +kernel
theorem dX3_headKind_13 : decode cX3_headKind 13 = .ok (.getstatic 185, 3) := by decide +kernel
theorem dX3_headKind_16 : decode cX3_headKind 16 = .ok (.if_acmp .eq 23, 3) := by decide +kernel
theorem dX3_headKind_19 : decode cX3_headKind 19 = .ok (.aload_n 2, 1) := by decide +kernel
theorem dX3_headKind_20 : decode cX3_headKind 20 = .ok (.getstatic 188, 3) := by decide +kernel
theorem dX3_headKind_23 : decode cX3_headKind 23 = .ok (.if_acmp .eq 16, 3) := by decide +kernel
theorem dX3_headKind_26 : decode cX3_headKind 26 = .ok (.aload_n 2, 1) := by decide +kernel
theorem dX3_headKind_27 : decode cX3_headKind 27 = .ok (.getstatic 191, 3) := by decide +kernel
theorem dX3_headKind_30 : decode cX3_headKind 30 = .ok (.if_acmp .eq 9, 3) := by decide +kernel
theorem dX3_headKind_33 : decode cX3_headKind 33 = .ok (.aload_n 0, 1) := by decide +kernel
theorem dX3_headKind_34 : decode cX3_headKind 34 = .ok (.iconst 1, 1) := by decide +kernel
theorem dX3_headKind_35 : decode cX3_headKind 35 = .ok (.invokevirtual 73, 3) := by decide +kernel
theorem dX3_headKind_38 : decode cX3_headKind 38 = .ok (.ireturn, 1) := by decide +kernel
theorem dX3_headKind_39 : decode cX3_headKind 39 = .ok (.aload_n 1, 1) := by decide +kernel
theorem dX3_headKind_40 : decode cX3_headKind 40 = .ok (.iconst 0, 1) := by decide +kernel
theorem dX3_headKind_41 : decode cX3_headKind 41 = .ok (.aload_n 2, 1) := by decide +kernel
theorem dX3_headKind_42 : decode cX3_headKind 42 = .ok (.getstatic 185, 3) := by decide +kernel
theorem dX3_headKind_45 : decode cX3_headKind 45 = .ok (.if_acmp .ne 7, 3) := by decide +kernel
theorem dX3_headKind_48 : decode cX3_headKind 48 = .ok (.iconst 1, 1) := by decide +kernel
theorem dX3_headKind_49 : decode cX3_headKind 49 = .ok (.goto 26, 3) := by decide +kernel
theorem dX3_headKind_52 : decode cX3_headKind 52 = .ok (.aload_n 2, 1) := by decide +kernel
theorem dX3_headKind_53 : decode cX3_headKind 53 = .ok (.getstatic 188, 3) := by decide +kernel
theorem dX3_headKind_56 : decode cX3_headKind 56 = .ok (.if_acmp .ne 7, 3) := by decide +kernel
theorem dX3_headKind_59 : decode cX3_headKind 59 = .ok (.iconst 2, 1) := by decide +kernel
theorem dX3_headKind_60 : decode cX3_headKind 60 = .ok (.goto 15, 3) := by decide +kernel
theorem dX3_headKind_63 : decode cX3_headKind 63 = .ok (.aload_n 2, 1) := by decide +kernel
theorem dX3_headKind_64 : decode cX3_headKind 64 = .ok (.getstatic 191, 3) := by decide +kernel
theorem dX3_headKind_67 : decode cX3_headKind 67 = .ok (.if_acmp .ne 7, 3) := by decide +kernel
theorem dX3_headKind_70 : decode cX3_headKind 70 = .ok (.iconst 3, 1) := by decide +kernel
theorem dX3_headKind_71 : decode cX3_headKind 71 = .ok (.goto 4, 3) := by decide +kernel
theorem dX3_headKind_74 : decode cX3_headKind 74 = .ok (.iconst 0, 1) := by decide +kernel
theorem dX3_headKind_75 : decode cX3_headKind 75 = .ok (.iastore, 1) := by decide +kernel
theorem dX3_headKind_76 : decode cX3_headKind 76 = .ok (.aload_n 0, 1) := by decide +kernel
theorem dX3_headKind_77 : decode cX3_headKind 77 = .ok (.dup, 1) := by decide +kernel
theorem dX3_headKind_78 : decode cX3_headKind 78 = .ok (.getfield 55, 3) := by decide +kernel
theorem dX3_headKind_81 : decode cX3_headKind 81 = .ok (.iconst 1, 1) := by decide +kernel
theorem dX3_headKind_82 : decode cX3_headKind 82 = .ok (.iadd, 1) := by decide +kernel
theorem dX3_headKind_83 : decode cX3_headKind 83 = .ok (.putfield 55, 3) := by decide +kernel
theorem dX3_headKind_86 : decode cX3_headKind 86 = .ok (.iconst 1, 1) := by decide +kernel
theorem dX3_headKind_87 : decode cX3_headKind 87 = .ok (.ireturn, 1) := by decide +kernel
theorem dX3_fact_0 : decode cX3_fact 0 = .ok (.aload_n 0, 1) := by decide +kernel
theorem dX3_fact_1 : decode cX3_fact 1 = .ok (.aload_n 1, 1) := by decide +kernel
theorem dX3_fact_2 : decode cX3_fact 2 = .ok (.invokevirtual 148, 3) := by decide +kernel
theorem dX3_fact_5 : decode cX3_fact 5 = .ok (.ifCond .eq 12, 3) := by decide +kernel
theorem dX3_fact_8 : decode cX3_fact 8 = .ok (.aload_n 0, 1) := by decide +kernel
theorem dX3_fact_9 : decode cX3_fact 9 = .ok (.iload_n 2, 1) := by decide +kernel
theorem dX3_fact_10 : decode cX3_fact 10 = .ok (.iload_n 3, 1) := by decide +kernel
theorem dX3_fact_11 : decode cX3_fact 11 = .ok (.invokevirtual 194, 3) := by decide +kernel
theorem dX3_fact_14 : decode cX3_fact 14 = .ok (.ifCond .ne 5, 3) := by decide +kernel
theorem dX3_fact_17 : decode cX3_fact 17 = .ok (.iconst 0, 1) := by decide +kernel
theorem dX3_fact_18 : decode cX3_fact 18 = .ok (.ireturn, 1) := by decide +kernel
theorem dX3_fact_19 : decode cX3_fact 19 = .ok (.aload 4, 2) := by decide +kernel
theorem dX3_fact_21 : decode cX3_fact 21 = .ok (.iload 5, 2) := by decide +kernel
theorem dX3_fact_23 : decode cX3_fact 23 = .ok (.aload_n 0, 1) := by decide +kernel
theorem dX3_fact_24 : decode cX3_fact 24 = .ok (.invokevirtual 121, 3) := by decide +kernel
theorem dX3_fact_27 : decode cX3_fact 27 = .ok (.l2i, 1) := by decide +kernel
theorem dX3_fact_28 : decode cX3_fact 28 = .ok (.iastore, 1) := by decide +kernel
theorem dX3_fact_29 : decode cX3_fact 29 = .ok (.aload_n 0, 1) := by decide +kernel
theorem dX3_fact_30 : decode cX3_fact 30 = .ok (.dup, 1) := by decide +kernel
theorem dX3_fact_31 : decode cX3_fact 31 = .ok (.getfield 55, 3) := by decide +kernel
theorem dX3_fact_34 : decode cX3_fact 34 = .ok (.iconst 1, 1) := by decide +kernel
theorem dX3_fact_35 : decode cX3_fact 35 = .ok (.iadd, 1) := by decide +kernel
theorem dX3_fact_36 : decode cX3_fact 36 = .ok (.putfield 55, 3) := by decide +kernel
theorem dX3_fact_39 : decode cX3_fact 39 = .ok (.iconst 1, 1) := by decide +kernel
theorem dX3_fact_40 : decode cX3_fact 40 = .ok (.ireturn, 1) := by decide +kernel
theorem dX3_isNumber_0 : decode cX3_isNumber 0 = .ok (.aload_n 0, 1) := by decide +kernel
theorem dX3_isNumber_1 : decode cX3_isNumber 1 = .ok (.invokevirtual 23, 3) := by decide +kernel
theorem dX3_isNumber_4 : decode cX3_isNumber 4 = .ok (.getstatic 198, 3) := by decide +kernel
theorem dX3_isNumber_7 : decode cX3_isNumber 7 = .ok (.if_acmp .eq 9, 3) := by decide +kernel
theorem dX3_isNumber_10 : decode cX3_isNumber 10 = .ok (.aload_n 0, 1) := by decide +kernel
theorem dX3_isNumber_11 : decode cX3_isNumber 11 = .ok (.iconst 1, 1) := by decide +kernel
theorem dX3_isNumber_12 : decode cX3_isNumber 12 = .ok (.invokevirtual 73, 3) := by decide +kernel
theorem dX3_isNumber_15 : decode cX3_isNumber 15 = .ok (.ireturn, 1) := by decide +kernel
theorem dX3_isNumber_16 : decode cX3_isNumber 16 = .ok (.aload_n 0, 1) := by decide +kernel
theorem dX3_isNumber_17 : decode cX3_isNumber 17 = .ok (.invokevirtual 121, 3) := by decide +kernel
theorem dX3_isNumber_20 : decode cX3_isNumber 20 = .ok (.iload_n 1, 1) := by decide +kernel
theorem dX3_isNumber_21 : decode cX3_isNumber 21 = .ok (.i2l, 1) := by decide +kernel
theorem dX3_isNumber_22 : decode cX3_isNumber 22 = .ok (.lcmp, 1) := by decide +kernel
theorem dX3_isNumber_23 : decode cX3_isNumber 23 = .ok (.ifCond .lt 13, 3) := by decide +kernel
theorem dX3_isNumber_26 : decode cX3_isNumber 26 = .ok (.aload_n 0, 1) := by decide +kernel
theorem dX3_isNumber_27 : decode cX3_isNumber 27 = .ok (.invokevirtual 121, 3) := by decide +kernel
theorem dX3_isNumber_30 : decode cX3_isNumber 30 = .ok (.iload_n 2, 1) := by decide +kernel
theorem dX3_isNumber_31 : decode cX3_isNumber 31 = .ok (.i2l, 1) := by decide +kernel
theorem dX3_isNumber_32 : decode cX3_isNumber 32 = .ok (.lcmp, 1) := by decide +kernel
theorem dX3_isNumber_33 : decode cX3_isNumber 33 = .ok (.ifCond .le 11, 3) := by decide +kernel
theorem dX3_isNumber_36 : decode cX3_isNumber 36 = .ok (.aload_n 0, 1) := by decide +kernel
theorem dX3_isNumber_37 : decode cX3_isNumber 37 = .ok (.iconst 4, 1) := by decide +kernel
theorem dX3_isNumber_38 : decode cX3_isNumber 38 = .ok (.invokevirtual 73, 3) := by decide +kernel
theorem dX3_isNumber_41 : decode cX3_isNumber 41 = .ok (.ifCond .eq 7, 3) := by decide +kernel
theorem dX3_isNumber_44 : decode cX3_isNumber 44 = .ok (.iconst 1, 1) := by decide +kernel
theorem dX3_isNumber_45 : decode cX3_isNumber 45 = .ok (.goto 4, 3) := by decide +kernel
theorem dX3_isNumber_48 : decode cX3_isNumber 48 = .ok (.iconst 0, 1) := by decide +kernel
theorem dX3_isNumber_49 : decode cX3_isNumber 49 = .ok (.ireturn, 1) := by decide +kernel
theorem dX3_heatsLine_0 : decode cX3_heatsLine 0 = .ok (.aload_n 1, 1) := by decide +kernel
theorem dX3_heatsLine_1 : decode cX3_heatsLine 1 = .ok (.getfield 201, 3) := by decide +kernel
theorem dX3_heatsLine_4 : decode cX3_heatsLine 4 = .ok (.ifCond .le 9, 3) := by decide +kernel
theorem dX3_heatsLine_7 : decode cX3_heatsLine 7 = .ok (.aload_n 0, 1) := by decide +kernel
theorem dX3_heatsLine_8 : decode cX3_heatsLine 8 = .ok (.iconst 3, 1) := by decide +kernel
theorem dX3_heatsLine_9 : decode cX3_heatsLine 9 = .ok (.invokevirtual 73, 3) := by decide +kernel
theorem dX3_heatsLine_12 : decode cX3_heatsLine 12 = .ok (.ireturn, 1) := by decide +kernel
theorem dX3_heatsLine_13 : decode cX3_heatsLine 13 = .ok (.aload_n 0, 1) := by decide +kernel
theorem dX3_heatsLine_14 : decode cX3_heatsLine 14 = .ok (.dup, 1) := by decide +kernel
theorem dX3_heatsLine_15 : decode cX3_heatsLine 15 = .ok (.getfield 55, 3) := by decide +kernel
theorem dX3_heatsLine_18 : decode cX3_heatsLine 18 = .ok (.iconst 1, 1) := by decide +kernel
theorem dX3_heatsLine_19 : decode cX3_heatsLine 19 = .ok (.iadd, 1) := by decide +kernel
theorem dX3_heatsLine_20 : decode cX3_heatsLine 20 = .ok (.putfield 55, 3) := by decide +kernel
theorem dX3_heatsLine_23 : decode cX3_heatsLine 23 = .ok (.iconst 0, 1) := by decide +kernel
theorem dX3_heatsLine_24 : decode cX3_heatsLine 24 = .ok (.istore_n 2, 1) := by decide +kernel
theorem dX3_heatsLine_25 : decode cX3_heatsLine 25 = .ok (.iload_n 2, 1) := by decide +kernel
theorem dX3_heatsLine_26 : decode cX3_heatsLine 26 = .ok (.bipush 12, 2) := by decide +kernel
theorem dX3_heatsLine_28 : decode cX3_heatsLine 28 = .ok (.if_icmp .ge 63, 3) := by decide +kernel
theorem dX3_heatsLine_31 : decode cX3_heatsLine 31 = .ok (.iload_n 2, 1) := by decide +kernel
theorem dX3_heatsLine_32 : decode cX3_heatsLine 32 = .ok (.ifCond .eq 13, 3) := by decide +kernel
theorem dX3_heatsLine_35 : decode cX3_heatsLine 35 = .ok (.aload_n 0, 1) := by decide +kernel
theorem dX3_heatsLine_36 : decode cX3_heatsLine 36 = .ok (.invokevirtual 23, 3) := by decide +kernel
theorem dX3_heatsLine_39 : decode cX3_heatsLine 39 = .ok (.getstatic 198, 3) := by decide +kernel
theorem dX3_heatsLine_42 : decode cX3_heatsLine 42 = .ok (.if_acmp .ne 49, 3) := by decide +kernel
theorem dX3_heatsLine_45 : decode cX3_heatsLine 45 = .ok (.aload_n 0, 1) := by decide +kernel
theorem dX3_heatsLine_46 : decode cX3_heatsLine 46 = .ok (.iconst 0, 1) := by decide +kernel
theorem dX3_heatsLine_47 : decode cX3_heatsLine 47 = .ok (.bipush 9, 2) := by decide +kernel
theorem dX3_heatsLine_49 : decode cX3_heatsLine 49 = .ok (.invokevirtual 194, 3) := by decide +kernel
theorem dX3_heatsLine_52 : decode cX3_heatsLine 52 = .ok (.ifCond .ne 5, 3) := by decide +kernel
theorem dX3_heatsLine_55 : decode cX3_heatsLine 55 = .ok (.iconst 0, 1) := by decide +kernel
theorem dX3_heatsLine_56 : decode cX3_heatsLine 56 = .ok (.ireturn, 1) := by decide +kernel
theorem dX3_heatsLine_57 : decode cX3_heatsLine 57 = .ok (.aload_n 1, 1) := by decide +kernel
theorem dX3_heatsLine_58 : decode cX3_heatsLine 58 = .ok (.getfield 204, 3) := by decide +kernel
theorem dX3_heatsLine_61 : decode cX3_heatsLine 61 = .ok (.iload_n 2, 1) := by decide +kernel
theorem dX3_heatsLine_62 : decode cX3_heatsLine 62 = .ok (.aload_n 0, 1) := by decide +kernel
theorem dX3_heatsLine_63 : decode cX3_heatsLine 63 = .ok (.invokevirtual 121, 3) := by decide +kernel
theorem dX3_heatsLine_66 : decode cX3_heatsLine 66 = .ok (.l2i, 1) := by decide +kernel
theorem dX3_heatsLine_67 : decode cX3_heatsLine 67 = .ok (.iastore, 1) := by decide +kernel
theorem dX3_heatsLine_68 : decode cX3_heatsLine 68 = .ok (.aload_n 1, 1) := by decide +kernel
theorem dX3_heatsLine_69 : decode cX3_heatsLine 69 = .ok (.iload_n 2, 1) := by decide +kernel
theorem dX3_heatsLine_70 : decode cX3_heatsLine 70 = .ok (.iconst 1, 1) := by decide +kernel
theorem dX3_heatsLine_71 : decode cX3_heatsLine 71 = .ok (.iadd, 1) := by decide +kernel
theorem dX3_heatsLine_72 : decode cX3_heatsLine 72 = .ok (.putfield 201, 3) := by decide +kernel
theorem dX3_heatsLine_75 : decode cX3_heatsLine 75 = .ok (.aload_n 0, 1) := by decide +kernel
theorem dX3_heatsLine_76 : decode cX3_heatsLine 76 = .ok (.dup, 1) := by decide +kernel
theorem dX3_heatsLine_77 : decode cX3_heatsLine 77 = .ok (.getfield 55, 3) := by decide +kernel
theorem dX3_heatsLine_80 : decode cX3_heatsLine 80 = .ok (.iconst 1, 1) := by decide +kernel
theorem dX3_heatsLine_81 : decode cX3_heatsLine 81 = .ok (.iadd, 1) := by decide +kernel
theorem dX3_heatsLine_82 : decode cX3_heatsLine 82 = .ok (.putfield 55, 3) := by decide +kernel
theorem dX3_heatsLine_85 : decode cX3_heatsLine 85 = .ok (.iinc 2 1, 3) := by decide +kernel
theorem dX3_heatsLine_88 : decode cX3_heatsLine 88 = .ok (.goto (-63), 3) := by decide +kernel
theorem dX3_heatsLine_91 : decode cX3_heatsLine 91 = .ok (.aload_n 0, 1) := by decide +kernel
theorem dX3_heatsLine_92 : decode cX3_heatsLine 92 = .ok (.invokevirtual 23, 3) := by decide +kernel
theorem dX3_heatsLine_95 : decode cX3_heatsLine 95 = .ok (.getstatic 198, 3) := by decide +kernel
theorem dX3_heatsLine_98 : decode cX3_heatsLine 98 = .ok (.if_acmp .ne 27, 3) := by decide +kernel
theorem dX3_heatsLine_101 : decode cX3_heatsLine 101 = .ok (.aload_n 0, 1) := by decide +kernel
theorem dX3_heatsLine_102 : decode cX3_heatsLine 102 = .ok (.iconst 0, 1) := by decide +kernel
theorem dX3_heatsLine_103 : decode cX3_heatsLine 103 = .ok (.bipush 9, 2) := by decide +kernel
theorem dX3_heatsLine_105 : decode cX3_heatsLine 105 = .ok (.invokevirtual 194, 3) := by decide +kernel
theorem dX3_heatsLine_108 : decode cX3_heatsLine 108 = .ok (.ifCond .eq 15, 3) := by decide +kernel
theorem dX3_heatsLine_111 : decode cX3_heatsLine 111 = .ok (.aload_n 0, 1) := by decide +kernel
theorem dX3_heatsLine_112 : decode cX3_heatsLine 112 = .ok (.iconst 5, 1) := by decide +kernel
theorem dX3_heatsLine_113 : decode cX3_heatsLine 113 = .ok (.invokevirtual 73, 3) := by decide +kernel
theorem dX3_heatsLine_116 : decode cX3_heatsLine 116 = .ok (.ifCond .eq 7, 3) := by decide +kernel
theorem dX3_heatsLine_119 : decode cX3_heatsLine 119 = .ok (.iconst 1, 1) := by decide +kernel
theorem dX3_heatsLine_120 : decode cX3_heatsLine 120 = .ok (.goto 4, 3) := by decide +kernel
theorem dX3_heatsLine_123 : decode cX3_heatsLine 123 = .ok (.iconst 0, 1) := by decide +kernel
theorem dX3_heatsLine_124 : decode cX3_heatsLine 124 = .ok (.ireturn, 1) := by decide +kernel
theorem dX3_heatsLine_125 : decode cX3_heatsLine 125 = .ok (.aload_n 0, 1) := by decide +kernel
theorem dX3_heatsLine_126 : decode cX3_heatsLine 126 = .ok (.getstatic 145, 3) := by decide +kernel
theorem dX3_heatsLine_129 : decode cX3_heatsLine 129 = .ok (.invokevirtual 148, 3) := by decide +kernel
theorem dX3_heatsLine_132 : decode cX3_heatsLine 132 = .ok (.ireturn, 1) := by decide +kernel
theorem dX3_slackLine_0 : decode cX3_slackLine 0 = .ok (.aload_n 1, 1) := by decide +kernel
theorem dX3_slackLine_1 : decode cX3_slackLine 1 = .ok (.getfield 207, 3) := by decide +kernel
theorem dX3_slackLine_4 : decode cX3_slackLine 4 = .ok (.ifCond .eq 9, 3) := by decide +kernel
theorem dX3_slackLine_7 : decode cX3_slackLine 7 = .ok (.aload_n 0, 1) := by decide +kernel
theorem dX3_slackLine_8 : decode cX3_slackLine 8 = .ok (.iconst 3, 1) := by decide +kernel
theorem dX3_slackLine_9 : decode cX3_slackLine 9 = .ok (.invokevirtual 73, 3) := by decide +kernel
theorem dX3_slackLine_12 : decode cX3_slackLine 12 = .ok (.ireturn, 1) := by decide +kernel
theorem dX3_slackLine_13 : decode cX3_slackLine 13 = .ok (.aload_n 0, 1) := by decide +kernel
theorem dX3_slackLine_14 : decode cX3_slackLine 14 = .ok (.dup, 1) := by decide +kernel
theorem dX3_slackLine_15 : decode cX3_slackLine 15 = .ok (.getfield 55, 3) := by decide +kernel
theorem dX3_slackLine_18 : decode cX3_slackLine 18 = .ok (.iconst 1, 1) := by decide +kernel
theorem dX3_slackLine_19 : decode cX3_slackLine 19 = .ok (.iadd, 1) := by decide +kernel
theorem dX3_slackLine_20 : decode cX3_slackLine 20 = .ok (.putfield 55, 3) := by decide +kernel
theorem dX3_slackLine_23 : decode cX3_slackLine 23 = .ok (.aload_n 0, 1) := by decide +kernel
theorem dX3_slackLine_24 : decode cX3_slackLine 24 = .ok (.iconst 0, 1) := by decide +kernel
theorem dX3_slackLine_25 : decode cX3_slackLine 25 = .ok (.bipush 9, 2) := by decide +kernel
theorem dX3_slackLine_27 : decode cX3_slackLine 27 = .ok (.invokevirtual 194, 3) := by decide +kernel
theorem dX3_slackLine_30 : decode cX3_slackLine 30 = .ok (.ifCond .ne 5, 3) := by decide +kernel
theorem dX3_slackLine_33 : decode cX3_slackLine 33 = .ok (.iconst 0, 1) := by decide +kernel
theorem dX3_slackLine_34 : decode cX3_slackLine 34 = .ok (.ireturn, 1) := by decide +kernel
theorem dX3_slackLine_35 : decode cX3_slackLine 35 = .ok (.aload_n 1, 1) := by decide +kernel
theorem dX3_slackLine_36 : decode cX3_slackLine 36 = .ok (.aload_n 0, 1) := by decide +kernel
theorem dX3_slackLine_37 : decode cX3_slackLine 37 = .ok (.invokevirtual 121, 3) := by decide +kernel
theorem dX3_slackLine_40 : decode cX3_slackLine 40 = .ok (.l2i, 1) := by decide +kernel
theorem dX3_slackLine_41 : decode cX3_slackLine 41 = .ok (.putfield 210, 3) := by decide +kernel
theorem dX3_slackLine_44 : decode cX3_slackLine 44 = .ok (.aload_n 1, 1) := by decide +kernel
theorem dX3_slackLine_45 : decode cX3_slackLine 45 = .ok (.iconst 1, 1) := by decide +kernel
theorem dX3_slackLine_46 : decode cX3_slackLine 46 = .ok (.putfield 207, 3) := by decide +kernel
theorem dX3_slackLine_49 : decode cX3_slackLine 49 = .ok (.aload_n 0, 1) := by decide +kernel
theorem dX3_slackLine_50 : decode cX3_slackLine 50 = .ok (.dup, 1) := by decide +kernel
theorem dX3_slackLine_51 : decode cX3_slackLine 51 = .ok (.getfield 55, 3) := by decide +kernel
theorem dX3_slackLine_54 : decode cX3_slackLine 54 = .ok (.iconst 1, 1) := by decide +kernel
theorem dX3_slackLine_55 : decode cX3_slackLine 55 = .ok (.iadd, 1) := by decide +kernel
theorem dX3_slackLine_56 : decode cX3_slackLine 56 = .ok (.putfield 55, 3) := by decide +kernel
theorem dX3_slackLine_59 : decode cX3_slackLine 59 = .ok (.aload_n 0, 1) := by decide +kernel
theorem dX3_slackLine_60 : decode cX3_slackLine 60 = .ok (.getstatic 145, 3) := by decide +kernel
theorem dX3_slackLine_63 : decode cX3_slackLine 63 = .ok (.invokevirtual 148, 3) := by decide +kernel
theorem dX3_slackLine_66 : decode cX3_slackLine 66 = .ok (.ireturn, 1) := by decide +kernel
theorem dX3_lawLine_0 : decode cX3_lawLine 0 = .ok (.aload_n 1, 1) := by decide +kernel
theorem dX3_lawLine_1 : decode cX3_lawLine 1 = .ok (.getfield 213, 3) := by decide +kernel
theorem dX3_lawLine_4 : decode cX3_lawLine 4 = .ok (.ifCond .eq 9, 3) := by decide +kernel
theorem dX3_lawLine_7 : decode cX3_lawLine 7 = .ok (.aload_n 0, 1) := by decide +kernel
theorem dX3_lawLine_8 : decode cX3_lawLine 8 = .ok (.iconst 3, 1) := by decide +kernel
theorem dX3_lawLine_9 : decode cX3_lawLine 9 = .ok (.invokevirtual 73, 3) := by decide +kernel
theorem dX3_lawLine_12 : decode cX3_lawLine 12 = .ok (.ireturn, 1) := by decide +kernel
theorem dX3_lawLine_13 : decode cX3_lawLine 13 = .ok (.aload_n 0, 1) := by decide +kernel
theorem dX3_lawLine_14 : decode cX3_lawLine 14 = .ok (.dup, 1) := by decide +kernel
theorem dX3_lawLine_15 : decode cX3_lawLine 15 = .ok (.getfield 55, 3) := by decide +kernel
theorem dX3_lawLine_18 : decode cX3_lawLine 18 = .ok (.iconst 1, 1) := by decide +kernel
theorem dX3_lawLine_19 : decode cX3_lawLine 19 = .ok (.iadd, 1) := by decide +kernel
theorem dX3_lawLine_20 : decode cX3_lawLine 20 = .ok (.putfield 55, 3) := by decide +kernel
theorem dX3_lawLine_23 : decode cX3_lawLine 23 = .ok (.aload_n 1, 1) := by decide +kernel
theorem dX3_lawLine_24 : decode cX3_lawLine 24 = .ok (.iconst 1, 1) := by decide +kernel
theorem dX3_lawLine_25 : decode cX3_lawLine 25 = .ok (.putfield 213, 3) := by decide +kernel
theorem dX3_lawLine_28 : decode cX3_lawLine 28 = .ok (.aload_n 0, 1) := by decide +kernel
theorem dX3_lawLine_29 : decode cX3_lawLine 29 = .ok (.aload_n 1, 1) := by decide +kernel
theorem dX3_lawLine_30 : decode cX3_lawLine 30 = .ok (.iconst 0, 1) := by decide +kernel
theorem dX3_lawLine_31 : decode cX3_lawLine 31 = .ok (.iconst 0, 1) := by decide +kernel
theorem dX3_lawLine_32 : decode cX3_lawLine 32 = .ok (.invokevirtual 218, 3) := by decide +kernel
theorem dX3_lawLine_35 : decode cX3_lawLine 35 = .ok (.ifCond .eq 17, 3) := by decide +kernel
theorem dX3_lawLine_38 : decode cX3_lawLine 38 = .ok (.aload_n 0, 1) := by decide +kernel
theorem dX3_lawLine_39 : decode cX3_lawLine 39 = .ok (.getstatic 145, 3) := by decide +kernel
theorem dX3_lawLine_42 : decode cX3_lawLine 42 = .ok (.invokevirtual 148, 3) := by decide +kernel
theorem dX3_lawLine_45 : decode cX3_lawLine 45 = .ok (.ifCond .eq 7, 3) := by decide +kernel
theorem dX3_lawLine_48 : decode cX3_lawLine 48 = .ok (.iconst 1, 1) := by decide +kernel
theorem dX3_lawLine_49 : decode cX3_lawLine 49 = .ok (.goto 4, 3) := by decide +kernel
theorem dX3_lawLine_52 : decode cX3_lawLine 52 = .ok (.iconst 0, 1) := by decide +kernel
theorem dX3_lawLine_53 : decode cX3_lawLine 53 = .ok (.ireturn, 1) := by decide +kernel
theorem dX3_chain_0 : decode cX3_chain 0 = .ok (.aload_n 0, 1) := by decide +kernel
theorem dX3_chain_1 : decode cX3_chain 1 = .ok (.aload_n 1, 1) := by decide +kernel
theorem dX3_chain_2 : decode cX3_chain 2 = .ok (.iload_n 2, 1) := by decide +kernel
theorem dX3_chain_3 : decode cX3_chain 3 = .ok (.iload_n 3, 1) := by decide +kernel
theorem dX3_chain_4 : decode cX3_chain 4 = .ok (.invokevirtual 222, 3) := by decide +kernel
theorem dX3_chain_7 : decode cX3_chain 7 = .ok (.ifCond .ne 5, 3) := by decide +kernel
theorem dX3_chain_10 : decode cX3_chain 10 = .ok (.iconst 0, 1) := by decide +kernel
theorem dX3_chain_11 : decode cX3_chain 11 = .ok (.ireturn, 1) := by decide +kernel
theorem dX3_chain_12 : decode cX3_chain 12 = .ok (.iconst 0, 1) := by decide +kernel
theorem dX3_chain_13 : decode cX3_chain 13 = .ok (.istore 4, 2) := by decide +kernel
theorem dX3_chain_15 : decode cX3_chain 15 = .ok (.iload 4, 2) := by decide +kernel
theorem dX3_chain_17 : decode cX3_chain 17 = .ok (.sipush 1000, 3) := by decide +kernel
theorem dX3_chain_20 : decode cX3_chain 20 = .ok (.if_icmp .ge 51, 3) := by decide +kernel
theorem dX3_chain_23 : decode cX3_chain 23 = .ok (.aload_n 0, 1) := by decide +kernel
theorem dX3_chain_24 : decode cX3_chain 24 = .ok (.iload_n 2, 1) := by decide +kernel
theorem dX3_chain_25 : decode cX3_chain 25 = .ok (.invokevirtual 225, 3) := by decide +kernel
theorem dX3_chain_28 : decode cX3_chain 28 = .ok (.istore 5, 2) := by decide +kernel
theorem dX3_chain_30 : decode cX3_chain 30 = .ok (.iload 5, 2) := by decide +kernel
theorem dX3_chain_32 : decode cX3_chain 32 = .ok (.ifCond .ne 5, 3) := by decide +kernel
theorem dX3_chain_35 : decode cX3_chain 35 = .ok (.iconst 1, 1) := by decide +kernel
theorem dX3_chain_36 : decode cX3_chain 36 = .ok (.ireturn, 1) := by decide +kernel
theorem dX3_chain_37 : decode cX3_chain 37 = .ok (.aload_n 0, 1) := by decide +kernel
theorem dX3_chain_38 : decode cX3_chain 38 = .ok (.dup, 1) := by decide +kernel
theorem dX3_chain_39 : decode cX3_chain 39 = .ok (.getfield 55, 3) := by decide +kernel
theorem dX3_chain_42 : decode cX3_chain 42 = .ok (.iconst 1, 1) := by decide +kernel
theorem dX3_chain_43 : decode cX3_chain 43 = .ok (.iadd, 1) := by decide +kernel
theorem dX3_chain_44 : decode cX3_chain 44 = .ok (.putfield 55, 3) := by decide +kernel
theorem dX3_chain_47 : decode cX3_chain 47 = .ok (.aload_n 0, 1) := by decide +kernel
theorem dX3_chain_48 : decode cX3_chain 48 = .ok (.aload_n 1, 1) := by decide +kernel
theorem dX3_chain_49 : decode cX3_chain 49 = .ok (.iload_n 2, 1) := by decide +kernel
theorem dX3_chain_50 : decode cX3_chain 50 = .ok (.iload_n 3, 1) := by decide +kernel
theorem dX3_chain_51 : decode cX3_chain 51 = .ok (.invokevirtual 222, 3) := by decide +kernel
theorem dX3_chain_54 : decode cX3_chain 54 = .ok (.ifCond .ne 5, 3) := by decide +kernel
theorem dX3_chain_57 : decode cX3_chain 57 = .ok (.iconst 0, 1) := by decide +kernel
theorem dX3_chain_58 : decode cX3_chain 58 = .ok (.ireturn, 1) := by decide +kernel
theorem dX3_chain_59 : decode cX3_chain 59 = .ok (.aload_n 1, 1) := by decide +kernel
theorem dX3_chain_60 : decode cX3_chain 60 = .ok (.iload 5, 2) := by decide +kernel
theorem dX3_chain_62 : decode cX3_chain 62 = .ok (.invokevirtual 229, 3) := by decide +kernel
theorem dX3_chain_65 : decode cX3_chain 65 = .ok (.iinc 4 1, 3) := by decide +kernel
theorem dX3_chain_68 : decode cX3_chain 68 = .ok (.goto (-53), 3) := by decide +kernel
theorem dX3_chain_71 : decode cX3_chain 71 = .ok (.iconst 1, 1) := by decide +kernel
theorem dX3_chain_72 : decode cX3_chain 72 = .ok (.ireturn, 1) := by decide +kernel
theorem dX3_link_0 : decode cX3_link 0 = .ok (.iload_n 2, 1) := by decide +kernel
theorem dX3_link_1 : decode cX3_link 1 = .ok (.ifCond .ne 10, 3) := by decide +kernel
theorem dX3_link_4 : decode cX3_link 4 = .ok (.aload_n 0, 1) := by decide +kernel
theorem dX3_link_5 : decode cX3_link 5 = .ok (.aload_n 1, 1) := by decide +kernel
theorem dX3_link_6 : decode cX3_link 6 = .ok (.iload_n 3, 1) := by decide +kernel
theorem dX3_link_7 : decode cX3_link 7 = .ok (.invokevirtual 233, 3) := by decide +kernel
theorem dX3_link_10 : decode cX3_link 10 = .ok (.ireturn, 1) := by decide +kernel
theorem dX3_link_11 : decode cX3_link 11 = .ok (.iload_n 2, 1) := by decide +kernel
theorem dX3_link_12 : decode cX3_link 12 = .ok (.iconst 1, 1) := by decide +kernel
theorem dX3_link_13 : decode cX3_link 13 = .ok (.if_icmp .ne 13, 3) := by decide +kernel
theorem dX3_link_16 : decode cX3_link 16 = .ok (.aload_n 0, 1) := by decide +kernel
theorem dX3_link_17 : decode cX3_link 17 = .ok (.aload_n 1, 1) := by decide +kernel
theorem dX3_link_18 : decode cX3_link 18 = .ok (.iconst 2, 1) := by decide +kernel
theorem dX3_link_19 : decode cX3_link 19 = .ok (.iload_n 3, 1) := by decide +kernel
theorem dX3_link_20 : decode cX3_link 20 = .ok (.invokevirtual 218, 3) := by decide +kernel
theorem dX3_link_23 : decode cX3_link 23 = .ok (.goto 9, 3) := by decide +kernel
theorem dX3_link_26 : decode cX3_link 26 = .ok (.aload_n 0, 1) := by decide +kernel
theorem dX3_link_27 : decode cX3_link 27 = .ok (.aload_n 1, 1) := by decide +kernel
theorem dX3_link_28 : decode cX3_link 28 = .ok (.iload_n 3, 1) := by decide +kernel
theorem dX3_link_29 : decode cX3_link 29 = .ok (.invokevirtual 237, 3) := by decide +kernel
theorem dX3_link_32 : decode cX3_link 32 = .ok (.ireturn, 1) := by decide +kernel
theorem dX3_jointOf_0 : decode cX3_jointOf 0 = .ok (.aload_n 0, 1) := by decide +kernel
theorem dX3_jointOf_1 : decode cX3_jointOf 1 = .ok (.invokevirtual 23, 3) := by decide +kernel
theorem dX3_jointOf_4 : decode cX3_jointOf 4 = .ok (.astore_n 2, 1) := by decide +kernel
theorem dX3_jointOf_5 : decode cX3_jointOf 5 = .ok (.iload_n 1, 1) := by decide +kernel
theorem dX3_jointOf_6 : decode cX3_jointOf 6 = .ok (.ifCond .ne 29, 3) := by decide +kernel
theorem dX3_jointOf_9 : decode cX3_jointOf 9 = .ok (.aload_n 2, 1) := by decide +kernel
theorem dX3_jointOf_10 : decode cX3_jointOf 10 = .ok (.getstatic 240, 3) := by decide +kernel
theorem dX3_jointOf_13 : decode cX3_jointOf 13 = .ok (.if_acmp .ne 8, 3) := by decide +kernel
theorem dX3_jointOf_16 : decode cX3_jointOf 16 = .ok (.bipush (-5), 2) := by decide +kernel
theorem dX3_jointOf_18 : decode cX3_jointOf 18 = .ok (.goto 16, 3) := by decide +kernel
theorem dX3_jointOf_21 : decode cX3_jointOf 21 = .ok (.aload_n 2, 1) := by decide +kernel
theorem dX3_jointOf_22 : decode cX3_jointOf 22 = .ok (.getstatic 243, 3) := by decide +kernel
theorem dX3_jointOf_25 : decode cX3_jointOf 25 = .ok (.if_acmp .ne 8, 3) := by decide +kernel
theorem dX3_jointOf_28 : decode cX3_jointOf 28 = .ok (.bipush (-6), 2) := by decide +kernel
theorem dX3_jointOf_30 : decode cX3_jointOf 30 = .ok (.goto 4, 3) := by decide +kernel
theorem dX3_jointOf_33 : decode cX3_jointOf 33 = .ok (.iconst 0, 1) := by decide +kernel
theorem dX3_jointOf_34 : decode cX3_jointOf 34 = .ok (.ireturn, 1) := by decide +kernel
theorem dX3_jointOf_35 : decode cX3_jointOf 35 = .ok (.iload_n 1, 1) := by decide +kernel
theorem dX3_jointOf_36 : decode cX3_jointOf 36 = .ok (.iconst 1, 1) := by decide +kernel
theorem dX3_jointOf_37 : decode cX3_jointOf 37 = .ok (.if_icmp .ne 29, 3) := by decide +kernel
theorem dX3_jointOf_40 : decode cX3_jointOf 40 = .ok (.aload_n 2, 1) := by decide +kernel
theorem dX3_jointOf_41 : decode cX3_jointOf 41 = .ok (.getstatic 246, 3) := by decide +kernel
theorem dX3_jointOf_44 : decode cX3_jointOf 44 = .ok (.if_acmp .ne 8, 3) := by decide +kernel
theorem dX3_jointOf_47 : decode cX3_jointOf 47 = .ok (.bipush (-9), 2) := by decide +kernel
theorem dX3_jointOf_49 : decode cX3_jointOf 49 = .ok (.goto 16, 3) := by decide +kernel
theorem dX3_jointOf_52 : decode cX3_jointOf 52 = .ok (.aload_n 2, 1) := by decide +kernel
theorem dX3_jointOf_53 : decode cX3_jointOf 53 = .ok (.getstatic 249, 3) := by decide +kernel
theorem dX3_jointOf_56 : decode cX3_jointOf 56 = .ok (.if_acmp .ne 8, 3) := by decide +kernel
theorem dX3_jointOf_59 : decode cX3_jointOf 59 = .ok (.bipush (-10), 2) := by decide +kernel
theorem dX3_jointOf_61 : decode cX3_jointOf 61 = .ok (.goto 4, 3) := by decide +kernel
theorem dX3_jointOf_64 : decode cX3_jointOf 64 = .ok (.iconst 0, 1) := by decide +kernel
theorem dX3_jointOf_65 : decode cX3_jointOf 65 = .ok (.ireturn, 1) := by decide +kernel
theorem dX3_jointOf_66 : decode cX3_jointOf 66 = .ok (.aload_n 2, 1) := by decide +kernel
theorem dX3_jointOf_67 : decode cX3_jointOf 67 = .ok (.getstatic 252, 3) := by decide +kernel
theorem dX3_jointOf_70 : decode cX3_jointOf 70 = .ok (.if_acmp .ne 8, 3) := by decide +kernel
theorem dX3_jointOf_73 : decode cX3_jointOf 73 = .ok (.bipush (-11), 2) := by decide +kernel
theorem dX3_jointOf_75 : decode cX3_jointOf 75 = .ok (.goto 4, 3) := by decide +kernel
theorem dX3_jointOf_78 : decode cX3_jointOf 78 = .ok (.iconst 0, 1) := by decide +kernel
theorem dX3_jointOf_79 : decode cX3_jointOf 79 = .ok (.ireturn, 1) := by decide +kernel
theorem dX3_test_0 : decode cX3_test 0 = .ok (.aload_n 0, 1) := by decide +kernel
theorem dX3_test_1 : decode cX3_test 1 = .ok (.aload_n 1, 1) := by decide +kernel
theorem dX3_test_2 : decode cX3_test 2 = .ok (.iconst 1, 1) := by decide +kernel
theorem dX3_test_3 : decode cX3_test 3 = .ok (.iload_n 2, 1) := by decide +kernel
theorem dX3_test_4 : decode cX3_test 4 = .ok (.invokevirtual 218, 3) := by decide +kernel
theorem dX3_test_7 : decode cX3_test 7 = .ok (.ifCond .ne 5, 3) := by decide +kernel
theorem dX3_test_10 : decode cX3_test 10 = .ok (.iconst 0, 1) := by decide +kernel
theorem dX3_test_11 : decode cX3_test 11 = .ok (.ireturn, 1) := by decide +kernel
theorem dX3_test_12 : decode cX3_test 12 = .ok (.aload_n 0, 1) := by decide +kernel
theorem dX3_test_13 : decode cX3_test 13 = .ok (.invokevirtual 23, 3) := by decide +kernel
theorem dX3_test_16 : decode cX3_test 16 = .ok (.astore_n 3, 1) := by decide +kernel
theorem dX3_test_17 : decode cX3_test 17 = .ok (.aload_n 3, 1) := by decide +kernel
theorem dX3_test_18 : decode cX3_test 18 = .ok (.getstatic 255, 3) := by decide +kernel
theorem dX3_test_21 : decode cX3_test 21 = .ok (.if_acmp .eq 12, 3) := by decide +kernel
theorem dX3_test_24 : decode cX3_test 24 = .ok (.aload_n 3, 1) := by decide +kernel
theorem dX3_test_25 : decode cX3_test 25 = .ok (.getstatic 258, 3) := by decide +kernel
theorem dX3_test_28 : decode cX3_test 28 = .ok (.if_acmp .eq 5, 3) := by decide +kernel
theorem dX3_test_31 : decode cX3_test 31 = .ok (.iconst 1, 1) := by decide +kernel
theorem dX3_test_32 : decode cX3_test 32 = .ok (.ireturn, 1) := by decide +kernel
theorem dX3_test_33 : decode cX3_test 33 = .ok (.aload_n 0, 1) := by decide +kernel
theorem dX3_test_34 : decode cX3_test 34 = .ok (.dup, 1) := by decide +kernel
theorem dX3_test_35 : decode cX3_test 35 = .ok (.getfield 55, 3) := by decide +kernel
theorem dX3_test_38 : decode cX3_test 38 = .ok (.iconst 1, 1) := by decide +kernel
theorem dX3_test_39 : decode cX3_test 39 = .ok (.iadd, 1) := by decide +kernel
theorem dX3_test_40 : decode cX3_test 40 = .ok (.putfield 55, 3) := by decide +kernel
theorem dX3_test_43 : decode cX3_test 43 = .ok (.aload_n 0, 1) := by decide +kernel
theorem dX3_test_44 : decode cX3_test 44 = .ok (.aload_n 1, 1) := by decide +kernel
theorem dX3_test_45 : decode cX3_test 45 = .ok (.iconst 1, 1) := by decide +kernel
theorem dX3_test_46 : decode cX3_test 46 = .ok (.iload_n 2, 1) := by decide +kernel
theorem dX3_test_47 : decode cX3_test 47 = .ok (.invokevirtual 218, 3) := by decide +kernel
theorem dX3_test_50 : decode cX3_test 50 = .ok (.ifCond .ne 5, 3) := by decide +kernel
theorem dX3_test_53 : decode cX3_test 53 = .ok (.iconst 0, 1) := by decide +kernel
theorem dX3_test_54 : decode cX3_test 54 = .ok (.ireturn, 1) := by decide +kernel
theorem dX3_test_55 : decode cX3_test 55 = .ok (.aload_n 1, 1) := by decide +kernel
theorem dX3_test_56 : decode cX3_test 56 = .ok (.aload_n 3, 1) := by decide +kernel
theorem dX3_test_57 : decode cX3_test 57 = .ok (.getstatic 255, 3) := by decide +kernel
theorem dX3_test_60 : decode cX3_test 60 = .ok (.if_acmp .ne 8, 3) := by decide +kernel
theorem dX3_test_63 : decode cX3_test 63 = .ok (.bipush (-7), 2) := by decide +kernel
theorem dX3_test_65 : decode cX3_test 65 = .ok (.goto 5, 3) := by decide +kernel
theorem dX3_test_68 : decode cX3_test 68 = .ok (.bipush (-8), 2) := by decide +kernel
theorem dX3_test_70 : decode cX3_test 70 = .ok (.invokevirtual 229, 3) := by decide +kernel
theorem dX3_test_73 : decode cX3_test 73 = .ok (.iconst 1, 1) := by decide +kernel
theorem dX3_test_74 : decode cX3_test 74 = .ok (.ireturn, 1) := by decide +kernel
theorem dX3_part_0 : decode cX3_part 0 = .ok (.aload_n 0, 1) := by decide +kernel
theorem dX3_part_1 : decode cX3_part 1 = .ok (.invokevirtual 23, 3) := by decide +kernel
theorem dX3_part_4 : decode cX3_part 4 = .ok (.astore_n 3, 1) := by decide +kernel
theorem dX3_part_5 : decode cX3_part 5 = .ok (.aload_n 1, 1) := by decide +kernel
theorem dX3_part_6 : decode cX3_part 6 = .ok (.aload_n 3, 1) := by decide +kernel
theorem dX3_part_7 : decode cX3_part 7 = .ok (.invokevirtual 261, 3) := by decide +kernel
theorem dX3_part_10 : decode cX3_part 10 = .ok (.istore 4, 2) := by decide +kernel
theorem dX3_part_12 : decode cX3_part 12 = .ok (.iload 4, 2) := by decide +kernel
theorem dX3_part_14 : decode cX3_part 14 = .ok (.ifCond .ne 30, 3) := by decide +kernel
theorem dX3_part_17 : decode cX3_part 17 = .ok (.aload_n 3, 1) := by decide +kernel
theorem dX3_part_18 : decode cX3_part 18 = .ok (.getstatic 198, 3) := by decide +kernel
theorem dX3_part_21 : decode cX3_part 21 = .ok (.if_acmp .eq 23, 3) := by decide +kernel
theorem dX3_part_24 : decode cX3_part 24 = .ok (.aload_n 3, 1) := by decide +kernel
theorem dX3_part_25 : decode cX3_part 25 = .ok (.getstatic 265, 3) := by decide +kernel
theorem dX3_part_28 : decode cX3_part 28 = .ok (.if_acmp .eq 16, 3) := by decide +kernel
theorem dX3_part_31 : decode cX3_part 31 = .ok (.aload_n 3, 1) := by decide +kernel
theorem dX3_part_32 : decode cX3_part 32 = .ok (.getstatic 268, 3) := by decide +kernel
theorem dX3_part_35 : decode cX3_part 35 = .ok (.if_acmp .eq 9, 3) := by decide +kernel
theorem dX3_part_38 : decode cX3_part 38 = .ok (.aload_n 0, 1) := by decide +kernel
theorem dX3_part_39 : decode cX3_part 39 = .ok (.iconst 1, 1) := by decide +kernel
theorem dX3_part_40 : decode cX3_part 40 = .ok (.invokevirtual 73, 3) := by decide +kernel
theorem dX3_part_43 : decode cX3_part 43 = .ok (.ireturn, 1) := by decide +kernel
theorem dX3_part_44 : decode cX3_part 44 = .ok (.iload_n 2, 1) := by decide +kernel
theorem dX3_part_45 : decode cX3_part 45 = .ok (.iconst 4, 1) := by decide +kernel
theorem dX3_part_46 : decode cX3_part 46 = .ok (.if_icmp .le 9, 3) := by decide +kernel
theorem dX3_part_49 : decode cX3_part 49 = .ok (.aload_n 0, 1) := by decide +kernel
theorem dX3_part_50 : decode cX3_part 50 = .ok (.iconst 5, 1) := by decide +kernel
theorem dX3_part_51 : decode cX3_part 51 = .ok (.invokevirtual 73, 3) := by decide +kernel
theorem dX3_part_54 : decode cX3_part 54 = .ok (.ireturn, 1) := by decide +kernel
theorem dX3_part_55 : decode cX3_part 55 = .ok (.aload_n 0, 1) := by decide +kernel
theorem dX3_part_56 : decode cX3_part 56 = .ok (.invokevirtual 121, 3) := by decide +kernel
theorem dX3_part_59 : decode cX3_part 59 = .ok (.l2i, 1) := by decide +kernel
theorem dX3_part_60 : decode cX3_part 60 = .ok (.istore 5, 2) := by decide +kernel
theorem dX3_part_62 : decode cX3_part 62 = .ok (.aload_n 0, 1) := by decide +kernel
theorem dX3_part_63 : decode cX3_part 63 = .ok (.dup, 1) := by decide +kernel
theorem dX3_part_64 : decode cX3_part 64 = .ok (.getfield 55, 3) := by decide +kernel
theorem dX3_part_67 : decode cX3_part 67 = .ok (.iconst 1, 1) := by decide +kernel
theorem dX3_part_68 : decode cX3_part 68 = .ok (.iadd, 1) := by decide +kernel
theorem dX3_part_69 : decode cX3_part 69 = .ok (.putfield 55, 3) := by decide +kernel
theorem dX3_part_72 : decode cX3_part 72 = .ok (.aload_n 3, 1) := by decide +kernel
theorem dX3_part_73 : decode cX3_part 73 = .ok (.getstatic 268, 3) := by decide +kernel
theorem dX3_part_76 : decode cX3_part 76 = .ok (.if_acmp .ne 31, 3) := by decide +kernel
theorem dX3_part_79 : decode cX3_part 79 = .ok (.aload_n 0, 1) := by decide +kernel
theorem dX3_part_80 : decode cX3_part 80 = .ok (.aload_n 1, 1) := by decide +kernel
theorem dX3_part_81 : decode cX3_part 81 = .ok (.iconst 0, 1) := by decide +kernel
theorem dX3_part_82 : decode cX3_part 82 = .ok (.iload_n 2, 1) := by decide +kernel
theorem dX3_part_83 : decode cX3_part 83 = .ok (.iconst 1, 1) := by decide +kernel
theorem dX3_part_84 : decode cX3_part 84 = .ok (.iadd, 1) := by decide +kernel
theorem dX3_part_85 : decode cX3_part 85 = .ok (.invokevirtual 218, 3) := by decide +kernel
theorem dX3_part_88 : decode cX3_part 88 = .ok (.ifCond .eq 17, 3) := by decide +kernel
theorem dX3_part_91 : decode cX3_part 91 = .ok (.aload_n 0, 1) := by decide +kernel
theorem dX3_part_92 : decode cX3_part 92 = .ok (.getstatic 271, 3) := by decide +kernel
theorem dX3_part_95 : decode cX3_part 95 = .ok (.invokevirtual 148, 3) := by decide +kernel
theorem dX3_part_98 : decode cX3_part 98 = .ok (.ifCond .eq 7, 3) := by decide +kernel
theorem dX3_part_101 : decode cX3_part 101 = .ok (.iconst 1, 1) := by decide +kernel
theorem dX3_part_102 : decode cX3_part 102 = .ok (.goto 4, 3) := by decide +kernel
theorem dX3_part_105 : decode cX3_part 105 = .ok (.iconst 0, 1) := by decide +kernel
theorem dX3_part_106 : decode cX3_part 106 = .ok (.ireturn, 1) := by decide +kernel
theorem dX3_part_107 : decode cX3_part 107 = .ok (.aload_n 3, 1) := by decide +kernel
theorem dX3_part_108 : decode cX3_part 108 = .ok (.getstatic 265, 3) := by decide +kernel
theorem dX3_part_111 : decode cX3_part 111 = .ok (.if_acmp .ne 16, 3) := by decide +kernel
theorem dX3_part_114 : decode cX3_part 114 = .ok (.aload_n 0, 1) := by decide +kernel
theorem dX3_part_115 : decode cX3_part 115 = .ok (.aload_n 1, 1) := by decide +kernel
theorem dX3_part_116 : decode cX3_part 116 = .ok (.iload_n 2, 1) := by decide +kernel
theorem dX3_part_117 : decode cX3_part 117 = .ok (.iconst 1, 1) := by decide +kernel
theorem dX3_part_118 : decode cX3_part 118 = .ok (.iadd, 1) := by decide +kernel
theorem dX3_part_119 : decode cX3_part 119 = .ok (.invokevirtual 237, 3) := by decide +kernel
theorem dX3_part_122 : decode cX3_part 122 = .ok (.ifCond .ne 5, 3) := by decide +kernel
theorem dX3_part_125 : decode cX3_part 125 = .ok (.iconst 0, 1) := by decide +kernel
theorem dX3_part_126 : decode cX3_part 126 = .ok (.ireturn, 1) := by decide +kernel
theorem dX3_part_127 : decode cX3_part 127 = .ok (.aload_n 1, 1) := by decide +kernel
theorem dX3_part_128 : decode cX3_part 128 = .ok (.aload_n 3, 1) := by decide +kernel
theorem dX3_part_129 : decode cX3_part 129 = .ok (.getstatic 265, 3) := by decide +kernel
theorem dX3_part_132 : decode cX3_part 132 = .ok (.if_acmp .ne 8, 3) := by decide +kernel
theorem dX3_part_135 : decode cX3_part 135 = .ok (.bipush (-4), 2) := by decide +kernel
theorem dX3_part_137 : decode cX3_part 137 = .ok (.goto 17, 3) := by decide +kernel
theorem dX3_part_140 : decode cX3_part 140 = .ok (.aload_n 3, 1) := by decide +kernel
theorem dX3_part_141 : decode cX3_part 141 = .ok (.getstatic 198, 3) := by decide +kernel
theorem dX3_part_144 : decode cX3_part 144 = .ok (.if_acmp .ne 8, 3) := by decide +kernel
theorem dX3_part_147 : decode cX3_part 147 = .ok (.iload 5, 2) := by decide +kernel
theorem dX3_part_149 : decode cX3_part 149 = .ok (.goto 5, 3) := by decide +kernel
theorem dX3_part_152 : decode cX3_part 152 = .ok (.iload 4, 2) := by decide +kernel
theorem dX3_part_154 : decode cX3_part 154 = .ok (.invokevirtual 229, 3) := by decide +kernel
theorem dX3_part_157 : decode cX3_part 157 = .ok (.iconst 1, 1) := by decide +kernel
theorem dX3_part_158 : decode cX3_part 158 = .ok (.ireturn, 1) := by decide +kernel
theorem dX3_yearsLine_0 : decode cX3_yearsLine 0 = .ok (.aload_n 0, 1) := by decide +kernel
theorem dX3_yearsLine_1 : decode cX3_yearsLine 1 = .ok (.invokevirtual 23, 3) := by decide +kernel
theorem dX3_yearsLine_4 : decode cX3_yearsLine 4 = .ok (.astore_n 3, 1) := by decide +kernel
theorem dX3_yearsLine_5 : decode cX3_yearsLine 5 = .ok (.aload_n 3, 1) := by decide +kernel
theorem dX3_yearsLine_6 : decode cX3_yearsLine 6 = .ok (.getstatic 274, 3) := by decide +kernel
theorem dX3_yearsLine_9 : decode cX3_yearsLine 9 = .ok (.if_acmp .eq 30, 3) := by decide +kernel
theorem dX3_yearsLine_12 : decode cX3_yearsLine 12 = .ok (.aload_n 3, 1) := by decide +kernel
theorem dX3_yearsLine_13 : decode cX3_yearsLine 13 = .ok (.getstatic 277, 3) := by decide +kernel
theorem dX3_yearsLine_16 : decode cX3_yearsLine 16 = .ok (.if_acmp .eq 23, 3) := by decide +kernel
theorem dX3_yearsLine_19 : decode cX3_yearsLine 19 = .ok (.aload_n 3, 1) := by decide +kernel
theorem dX3_yearsLine_20 : decode cX3_yearsLine 20 = .ok (.getstatic 280, 3) := by decide +kernel
theorem dX3_yearsLine_23 : decode cX3_yearsLine 23 = .ok (.if_acmp .eq 16, 3) := by decide +kernel
theorem dX3_yearsLine_26 : decode cX3_yearsLine 26 = .ok (.aload_n 3, 1) := by decide +kernel
theorem dX3_yearsLine_27 : decode cX3_yearsLine 27 = .ok (.getstatic 283, 3) := by decide +kernel
theorem dX3_yearsLine_30 : decode cX3_yearsLine 30 = .ok (.if_acmp .eq 9, 3) := by decide +kernel
theorem dX3_yearsLine_33 : decode cX3_yearsLine 33 = .ok (.aload_n 0, 1) := by decide +kernel
theorem dX3_yearsLine_34 : decode cX3_yearsLine 34 = .ok (.iconst 1, 1) := by decide +kernel
theorem dX3_yearsLine_35 : decode cX3_yearsLine 35 = .ok (.invokevirtual 73, 3) := by decide +kernel
theorem dX3_yearsLine_38 : decode cX3_yearsLine 38 = .ok (.ireturn, 1) := by decide +kernel
theorem dX3_yearsLine_39 : decode cX3_yearsLine 39 = .ok (.aload_n 2, 1) := by decide +kernel
theorem dX3_yearsLine_40 : decode cX3_yearsLine 40 = .ok (.getfield 41, 3) := by decide +kernel
theorem dX3_yearsLine_43 : decode cX3_yearsLine 43 = .ok (.bipush 40, 2) := by decide +kernel
theorem dX3_yearsLine_45 : decode cX3_yearsLine 45 = .ok (.if_icmp .lt 9, 3) := by decide +kernel
theorem dX3_yearsLine_48 : decode cX3_yearsLine 48 = .ok (.aload_n 0, 1) := by decide +kernel
theorem dX3_yearsLine_49 : decode cX3_yearsLine 49 = .ok (.iconst 5, 1) := by decide +kernel
theorem dX3_yearsLine_50 : decode cX3_yearsLine 50 = .ok (.invokevirtual 73, 3) := by decide +kernel
theorem dX3_yearsLine_53 : decode cX3_yearsLine 53 = .ok (.ireturn, 1) := by decide +kernel
theorem dX3_yearsLine_54 : decode cX3_yearsLine 54 = .ok (.aload_n 0, 1) := by decide +kernel
theorem dX3_yearsLine_55 : decode cX3_yearsLine 55 = .ok (.dup, 1) := by decide +kernel
theorem dX3_yearsLine_56 : decode cX3_yearsLine 56 = .ok (.getfield 55, 3) := by decide +kernel
theorem dX3_yearsLine_59 : decode cX3_yearsLine 59 = .ok (.iconst 1, 1) := by decide +kernel
theorem dX3_yearsLine_60 : decode cX3_yearsLine 60 = .ok (.iadd, 1) := by decide +kernel
theorem dX3_yearsLine_61 : decode cX3_yearsLine 61 = .ok (.putfield 55, 3) := by decide +kernel
theorem dX3_yearsLine_64 : decode cX3_yearsLine 64 = .ok (.iconst (-1), 1) := by decide +kernel
theorem dX3_yearsLine_65 : decode cX3_yearsLine 65 = .ok (.istore 4, 2) := by decide +kernel
theorem dX3_yearsLine_67 : decode cX3_yearsLine 67 = .ok (.iconst (-1), 1) := by decide +kernel
theorem dX3_yearsLine_68 : decode cX3_yearsLine 68 = .ok (.istore 5, 2) := by decide +kernel
theorem dX3_yearsLine_70 : decode cX3_yearsLine 70 = .ok (.aload_n 3, 1) := by decide +kernel
theorem dX3_yearsLine_71 : decode cX3_yearsLine 71 = .ok (.getstatic 283, 3) := by decide +kernel
theorem dX3_yearsLine_74 : decode cX3_yearsLine 74 = .ok (.if_acmp .eq 24, 3) := by decide +kernel
theorem dX3_yearsLine_77 : decode cX3_yearsLine 77 = .ok (.aload_n 1, 1) := by decide +kernel
theorem dX3_yearsLine_78 : decode cX3_yearsLine 78 = .ok (.aload_n 0, 1) := by decide +kernel
theorem dX3_yearsLine_79 : decode cX3_yearsLine 79 = .ok (.invokevirtual 121, 3) := by decide +kernel
theorem dX3_yearsLine_82 : decode cX3_yearsLine 82 = .ok (.invokevirtual 175, 3) := by decide +kernel
theorem dX3_yearsLine_85 : decode cX3_yearsLine 85 = .ok (.istore 4, 2) := by decide +kernel
theorem dX3_yearsLine_87 : decode cX3_yearsLine 87 = .ok (.aload_n 0, 1) := by decide +kernel
theorem dX3_yearsLine_88 : decode cX3_yearsLine 88 = .ok (.iload 4, 2) := by decide +kernel
theorem dX3_yearsLine_90 : decode cX3_yearsLine 90 = .ok (.invokevirtual 286, 3) := by decide +kernel
theorem dX3_yearsLine_93 : decode cX3_yearsLine 93 = .ok (.ifCond .ne 5, 3) := by decide +kernel
theorem dX3_yearsLine_96 : decode cX3_yearsLine 96 = .ok (.iconst 0, 1) := by decide +kernel
theorem dX3_yearsLine_97 : decode cX3_yearsLine 97 = .ok (.ireturn, 1) := by decide +kernel
theorem dX3_yearsLine_98 : decode cX3_yearsLine 98 = .ok (.aload_n 3, 1) := by decide +kernel
theorem dX3_yearsLine_99 : decode cX3_yearsLine 99 = .ok (.getstatic 274, 3) := by decide +kernel
theorem dX3_yearsLine_102 : decode cX3_yearsLine 102 = .ok (.if_acmp .ne 24, 3) := by decide +kernel
theorem dX3_yearsLine_105 : decode cX3_yearsLine 105 = .ok (.aload_n 1, 1) := by decide +kernel
theorem dX3_yearsLine_106 : decode cX3_yearsLine 106 = .ok (.aload_n 0, 1) := by decide +kernel
theorem dX3_yearsLine_107 : decode cX3_yearsLine 107 = .ok (.invokevirtual 121, 3) := by decide +kernel
theorem dX3_yearsLine_110 : decode cX3_yearsLine 110 = .ok (.invokevirtual 179, 3) := by decide +kernel
theorem dX3_yearsLine_113 : decode cX3_yearsLine 113 = .ok (.istore 5, 2) := by decide +kernel
theorem dX3_yearsLine_115 : decode cX3_yearsLine 115 = .ok (.aload_n 0, 1) := by decide +kernel
theorem dX3_yearsLine_116 : decode cX3_yearsLine 116 = .ok (.iload 5, 2) := by decide +kernel
theorem dX3_yearsLine_118 : decode cX3_yearsLine 118 = .ok (.invokevirtual 286, 3) := by decide +kernel
theorem dX3_yearsLine_121 : decode cX3_yearsLine 121 = .ok (.ifCond .ne 5, 3) := by decide +kernel
theorem dX3_yearsLine_124 : decode cX3_yearsLine 124 = .ok (.iconst 0, 1) := by decide +kernel
theorem dX3_yearsLine_125 : decode cX3_yearsLine 125 = .ok (.ireturn, 1) := by decide +kernel
theorem dX3_yearsLine_126 : decode cX3_yearsLine 126 = .ok (.aload_n 2, 1) := by decide +kernel
theorem dX3_yearsLine_127 : decode cX3_yearsLine 127 = .ok (.aload_n 3, 1) := by decide +kernel
theorem dX3_yearsLine_128 : decode cX3_yearsLine 128 = .ok (.iload 4, 2) := by decide +kernel
theorem dX3_yearsLine_130 : decode cX3_yearsLine 130 = .ok (.iload 5, 2) := by decide +kernel
theorem dX3_yearsLine_132 : decode cX3_yearsLine 132 = .ok (.invokevirtual 289, 3) := by decide +kernel
theorem dX3_yearsLine_135 : decode cX3_yearsLine 135 = .ok (.aload_n 0, 1) := by decide +kernel
theorem dX3_yearsLine_136 : decode cX3_yearsLine 136 = .ok (.getstatic 145, 3) := by decide +kernel
theorem dX3_yearsLine_139 : decode cX3_yearsLine 139 = .ok (.invokevirtual 148, 3) := by decide +kernel
theorem dX3_yearsLine_142 : decode cX3_yearsLine 142 = .ok (.ireturn, 1) := by decide +kernel
theorem dX3_oldName_0 : decode cX3_oldName 0 = .ok (.aload_n 0, 1) := by decide +kernel
theorem dX3_oldName_1 : decode cX3_oldName 1 = .ok (.invokevirtual 23, 3) := by decide +kernel
theorem dX3_oldName_4 : decode cX3_oldName 4 = .ok (.getfield 171, 3) := by decide +kernel
theorem dX3_oldName_7 : decode cX3_oldName 7 = .ok (.ifCond .ne 9, 3) := by decide +kernel
theorem dX3_oldName_10 : decode cX3_oldName 10 = .ok (.aload_n 0, 1) := by decide +kernel
theorem dX3_oldName_11 : decode cX3_oldName 11 = .ok (.iconst 1, 1) := by decide +kernel
theorem dX3_oldName_12 : decode cX3_oldName 12 = .ok (.invokevirtual 73, 3) := by decide +kernel
theorem dX3_oldName_15 : decode cX3_oldName 15 = .ok (.ireturn, 1) := by decide +kernel
theorem dX3_oldName_16 : decode cX3_oldName 16 = .ok (.iload_n 1, 1) := by decide +kernel
theorem dX3_oldName_17 : decode cX3_oldName 17 = .ok (.iconst (-1), 1) := by decide +kernel
theorem dX3_oldName_18 : decode cX3_oldName 18 = .ok (.if_icmp .ne 9, 3) := by decide +kernel
theorem dX3_oldName_21 : decode cX3_oldName 21 = .ok (.aload_n 0, 1) := by decide +kernel
theorem dX3_oldName_22 : decode cX3_oldName 22 = .ok (.iconst 2, 1) := by decide +kernel
theorem dX3_oldName_23 : decode cX3_oldName 23 = .ok (.invokevirtual 73, 3) := by decide +kernel
theorem dX3_oldName_26 : decode cX3_oldName 26 = .ok (.ireturn, 1) := by decide +kernel
theorem dX3_oldName_27 : decode cX3_oldName 27 = .ok (.aload_n 0, 1) := by decide +kernel
theorem dX3_oldName_28 : decode cX3_oldName 28 = .ok (.dup, 1) := by decide +kernel
theorem dX3_oldName_29 : decode cX3_oldName 29 = .ok (.getfield 55, 3) := by decide +kernel
theorem dX3_oldName_32 : decode cX3_oldName 32 = .ok (.iconst 1, 1) := by decide +kernel
theorem dX3_oldName_33 : decode cX3_oldName 33 = .ok (.iadd, 1) := by decide +kernel
theorem dX3_oldName_34 : decode cX3_oldName 34 = .ok (.putfield 55, 3) := by decide +kernel
theorem dX3_oldName_37 : decode cX3_oldName 37 = .ok (.iconst 1, 1) := by decide +kernel
theorem dX3_oldName_38 : decode cX3_oldName 38 = .ok (.ireturn, 1) := by decide +kernel
theorem dX4_init_0 : decode cX4_init 0 = .ok (.aload_n 0, 1) := by decide +kernel
theorem dX4_init_1 : decode cX4_init 1 = .ok (.invokespecial 3, 3) := by decide +kernel
theorem dX4_init_4 : decode cX4_init 4 = .ok (.aload_n 0, 1) := by decide +kernel
theorem dX4_init_5 : decode cX4_init 5 = .ok (.bipush 6, 2) := by decide +kernel
theorem dX4_init_7 : decode cX4_init 7 = .ok (.newarray .long, 2) := by decide +kernel
theorem dX4_init_9 : decode cX4_init 9 = .ok (.putfield 9, 3) := by decide +kernel
theorem dX4_init_12 : decode cX4_init 12 = .ok (.aload_n 0, 1) := by decide +kernel
theorem dX4_init_13 : decode cX4_init 13 = .ok (.bipush 6, 2) := by decide +kernel
theorem dX4_init_15 : decode cX4_init 15 = .ok (.newarray .long, 2) := by decide +kernel
theorem dX4_init_17 : decode cX4_init 17 = .ok (.putfield 15, 3) := by decide +kernel
theorem dX4_init_20 : decode cX4_init 20 = .ok (.aload_n 0, 1) := by decide +kernel
theorem dX4_init_21 : decode cX4_init 21 = .ok (.bipush 6, 2) := by decide +kernel
theorem dX4_init_23 : decode cX4_init 23 = .ok (.iconst 3, 1) := by decide +kernel
theorem dX4_init_24 : decode cX4_init 24 = .ok (.multianewarray 18 2, 4) := by decide +kernel
theorem dX4_init_28 : decode cX4_init 28 = .ok (.putfield 20, 3) := by decide +kernel
theorem dX4_init_31 : decode cX4_init 31 = .ok (.aload_n 0, 1) := by decide +kernel
theorem dX4_init_32 : decode cX4_init 32 = .ok (.bipush 6, 2) := by decide +kernel
theorem dX4_init_34 : decode cX4_init 34 = .ok (.iconst 4, 1) := by decide +kernel
theorem dX4_init_35 : decode cX4_init 35 = .ok (.multianewarray 18 2, 4) := by decide +kernel
theorem dX4_init_39 : decode cX4_init 39 = .ok (.putfield 23, 3) := by decide +kernel
theorem dX4_init_42 : decode cX4_init 42 = .ok (.aload_n 0, 1) := by decide +kernel
theorem dX4_init_43 : decode cX4_init 43 = .ok (.bipush 12, 2) := by decide +kernel
theorem dX4_init_45 : decode cX4_init 45 = .ok (.newarray .int, 2) := by decide +kernel
theorem dX4_init_47 : decode cX4_init 47 = .ok (.putfield 26, 3) := by decide +kernel
theorem dX4_init_50 : decode cX4_init 50 = .ok (.aload_n 0, 1) := by decide +kernel
theorem dX4_init_51 : decode cX4_init 51 = .ok (.iconst 1, 1) := by decide +kernel
theorem dX4_init_52 : decode cX4_init 52 = .ok (.putfield 30, 3) := by decide +kernel
theorem dX4_init_55 : decode cX4_init 55 = .ok (.aload_n 0, 1) := by decide +kernel
theorem dX4_init_56 : decode cX4_init 56 = .ok (.new 34, 3) := by decide +kernel
theorem dX4_init_59 : decode cX4_init 59 = .ok (.dup, 1) := by decide +kernel
theorem dX4_init_60 : decode cX4_init 60 = .ok (.getstatic 36, 3) := by decide +kernel
theorem dX4_init_63 : decode cX4_init 63 = .ok (.getstatic 42, 3) := by decide +kernel
theorem dX4_init_66 : decode cX4_init 66 = .ok (.getstatic 45, 3) := by decide +kernel
theorem dX4_init_69 : decode cX4_init 69 = .ok (.invokespecial 48, 3) := by decide +kernel
theorem dX4_init_72 : decode cX4_init 72 = .ok (.putfield 51, 3) := by decide +kernel
theorem dX4_init_75 : decode cX4_init 75 = .ok (.aload_n 0, 1) := by decide +kernel
theorem dX4_init_76 : decode cX4_init 76 = .ok (.new 34, 3) := by decide +kernel
theorem dX4_init_79 : decode cX4_init 79 = .ok (.dup, 1) := by decide +kernel
theorem dX4_init_80 : decode cX4_init 80 = .ok (.getstatic 55, 3) := by decide +kernel
theorem dX4_init_83 : decode cX4_init 83 = .ok (.getstatic 58, 3) := by decide +kernel
theorem dX4_init_86 : decode cX4_init 86 = .ok (.getstatic 61, 3) := by decide +kernel
theorem dX4_init_89 : decode cX4_init 89 = .ok (.invokespecial 48, 3) := by decide +kernel
theorem dX4_init_92 : decode cX4_init 92 = .ok (.putfield 64, 3) := by decide +kernel
theorem dX4_init_95 : decode cX4_init 95 = .ok (.return_, 1) := by decide +kernel
theorem dX4_clear_0 : decode cX4_clear 0 = .ok (.aload_n 0, 1) := by decide +kernel
theorem dX4_clear_1 : decode cX4_clear 1 = .ok (.iconst 0, 1) := by decide +kernel
theorem dX4_clear_2 : decode cX4_clear 2 = .ok (.putfield 67, 3) := by decide +kernel
theorem dX4_clear_5 : decode cX4_clear 5 = .ok (.aload_n 0, 1) := by decide +kernel
theorem dX4_clear_6 : decode cX4_clear 6 = .ok (.iconst 0, 1) := by decide +kernel
theorem dX4_clear_7 : decode cX4_clear 7 = .ok (.putfield 70, 3) := by decide +kernel
theorem dX4_clear_10 : decode cX4_clear 10 = .ok (.aload_n 0, 1) := by decide +kernel
theorem dX4_clear_11 : decode cX4_clear 11 = .ok (.iconst 0, 1) := by decide +kernel
theorem dX4_clear_12 : decode cX4_clear 12 = .ok (.putfield 73, 3) := by decide +kernel
theorem dX4_clear_15 : decode cX4_clear 15 = .ok (.aload_n 0, 1) := by decide +kernel
theorem dX4_clear_16 : decode cX4_clear 16 = .ok (.iconst 1, 1) := by decide +kernel
theorem dX4_clear_17 : decode cX4_clear 17 = .ok (.putfield 30, 3) := by decide +kernel
theorem dX4_clear_20 : decode cX4_clear 20 = .ok (.aload_n 0, 1) := by decide +kernel
theorem dX4_clear_21 : decode cX4_clear 21 = .ok (.iconst 0, 1) := by decide +kernel
theorem dX4_clear_22 : decode cX4_clear 22 = .ok (.putfield 76, 3) := by decide +kernel
theorem dX4_clear_25 : decode cX4_clear 25 = .ok (.aload_n 0, 1) := by decide +kernel
theorem dX4_clear_26 : decode cX4_clear 26 = .ok (.getfield 51, 3) := by decide +kernel
theorem dX4_clear_29 : decode cX4_clear 29 = .ok (.invokevirtual 80, 3) := by decide +kernel
theorem dX4_clear_32 : decode cX4_clear 32 = .ok (.aload_n 0, 1) := by decide +kernel
theorem dX4_clear_33 : decode cX4_clear 33 = .ok (.getfield 64, 3) := by decide +kernel
theorem dX4_clear_36 : decode cX4_clear 36 = .ok (.invokevirtual 80, 3) := by decide +kernel
theorem dX4_clear_39 : decode cX4_clear 39 = .ok (.return_, 1) := by decide +kernel
theorem dX4_isWig_0 : decode cX4_isWig 0 = .ok (.iload_n 1, 1) := by decide +kernel
theorem dX4_isWig_1 : decode cX4_isWig 1 = .ok (.ifCond .lt 15, 3) := by decide +kernel
theorem dX4_isWig_4 : decode cX4_isWig 4 = .ok (.iload_n 1, 1) := by decide +kernel
theorem dX4_isWig_5 : decode cX4_isWig 5 = .ok (.aload_n 0, 1) := by decide +kernel
theorem dX4_isWig_6 : decode cX4_isWig 6 = .ok (.getfield 67, 3) := by decide +kernel
theorem dX4_isWig_9 : decode cX4_isWig 9 = .ok (.if_icmp .ge 7, 3) := by decide +kernel
theorem dX4_isWig_12 : decode cX4_isWig 12 = .ok (.iconst 1, 1) := by decide +kernel
theorem dX4_isWig_13 : decode cX4_isWig 13 = .ok (.goto 4, 3) := by decide +kernel
theorem dX4_isWig_16 : decode cX4_isWig 16 = .ok (.iconst 0, 1) := by decide +kernel
theorem dX4_isWig_17 : decode cX4_isWig 17 = .ok (.ireturn, 1) := by decide +kernel
theorem dX4_isHead_0 : decode cX4_isHead 0 = .ok (.iload_n 1, 1) := by decide +kernel
theorem dX4_isHead_1 : decode cX4_isHead 1 = .ok (.ifCond .lt 15, 3) := by decide +kernel
theorem dX4_isHead_4 : decode cX4_isHead 4 = .ok (.iload_n 1, 1) := by decide +kernel
theorem dX4_isHead_5 : decode cX4_isHead 5 = .ok (.aload_n 0, 1) := by decide +kernel
theorem dX4_isHead_6 : decode cX4_isHead 6 = .ok (.getfield 70, 3) := by decide +kernel
theorem dX4_isHead_9 : decode cX4_isHead 9 = .ok (.if_icmp .ge 7, 3) := by decide +kernel
theorem dX4_isHead_12 : decode cX4_isHead 12 = .ok (.iconst 1, 1) := by decide +kernel
theorem dX4_isHead_13 : decode cX4_isHead 13 = .ok (.goto 4, 3) := by decide +kernel
theorem dX4_isHead_16 : decode cX4_isHead 16 = .ok (.iconst 0, 1) := by decide +kernel
theorem dX4_isHead_17 : decode cX4_isHead 17 = .ok (.ireturn, 1) := by decide +kernel
theorem dX4_wigNamed_0 : decode cX4_wigNamed 0 = .ok (.lload_n 1, 1) := by decide +kernel
theorem dX4_wigNamed_1 : decode cX4_wigNamed 1 = .ok (.aload_n 0, 1) := by decide +kernel
theorem dX4_wigNamed_2 : decode cX4_wigNamed 2 = .ok (.getfield 9, 3) := by decide +kernel
theorem dX4_wigNamed_5 : decode cX4_wigNamed 5 = .ok (.aload_n 0, 1) := by decide +kernel
theorem dX4_wigNamed_6 : decode cX4_wigNamed 6 = .ok (.getfield 67, 3) := by decide +kernel
theorem dX4_wigNamed_9 : decode cX4_wigNamed 9 = .ok (.invokestatic 83, 3) := by decide +kernel
theorem dX4_wigNamed_12 : decode cX4_wigNamed 12 = .ok (.ireturn, 1) := by decide +kernel
theorem dX4_headNamed_0 : decode cX4_headNamed 0 = .ok (.lload_n 1, 1) := by decide +kernel
theorem dX4_headNamed_1 : decode cX4_headNamed 1 = .ok (.aload_n 0, 1) := by decide +kernel
theorem dX4_headNamed_2 : decode cX4_headNamed 2 = .ok (.getfield 15, 3) := by decide +kernel
theorem dX4_headNamed_5 : decode cX4_headNamed 5 = .ok (.aload_n 0, 1) := by decide +kernel
theorem dX4_headNamed_6 : decode cX4_headNamed 6 = .ok (.getfield 70, 3) := by decide +kernel
theorem dX4_headNamed_9 : decode cX4_headNamed 9 = .ok (.invokestatic 83, 3) := by decide +kernel
theorem dX4_headNamed_12 : decode cX4_headNamed 12 = .ok (.ireturn, 1) := by decide +kernel
theorem dX4_placeOf_0 : decode cX4_placeOf 0 = .ok (.iconst 0, 1) := by decide +kernel
theorem dX4_placeOf_1 : decode cX4_placeOf 1 = .ok (.istore 4, 2) := by decide +kernel
theorem dX4_placeOf_3 : decode cX4_placeOf 3 = .ok (.iload 4, 2) := by decide +kernel
theorem dX4_placeOf_5 : decode cX4_placeOf 5 = .ok (.iload_n 3, 1) := by decide +kernel
theorem dX4_placeOf_6 : decode cX4_placeOf 6 = .ok (.if_icmp .ge 28, 3) := by decide +kernel
theorem dX4_placeOf_9 : decode cX4_placeOf 9 = .ok (.iload 4, 2) := by decide +kernel
theorem dX4_placeOf_11 : decode cX4_placeOf 11 = .ok (.aload_n 2, 1) := by decide +kernel
theorem dX4_placeOf_12 : decode cX4_placeOf 12 = .ok (.arraylength, 1) := by decide +kernel
theorem dX4_placeOf_13 : decode cX4_placeOf 13 = .ok (.if_icmp .ge 21, 3) := by decide +kernel
theorem dX4_placeOf_16 : decode cX4_placeOf 16 = .ok (.aload_n 2, 1) := by decide +kernel
theorem dX4_placeOf_17 : decode cX4_placeOf 17 = .ok (.iload 4, 2) := by decide +kernel
theorem dX4_placeOf_19 : decode cX4_placeOf 19 = .ok (.laload, 1) := by decide +kernel
theorem dX4_placeOf_20 : decode cX4_placeOf 20 = .ok (.lload_n 0, 1) := by decide +kernel
theorem dX4_placeOf_21 : decode cX4_placeOf 21 = .ok (.lcmp, 1) := by decide +kernel
theorem dX4_placeOf_22 : decode cX4_placeOf 22 = .ok (.ifCond .ne 6, 3) := by decide +kernel
theorem dX4_placeOf_25 : decode cX4_placeOf 25 = .ok (.iload 4, 2) := by decide +kernel
theorem dX4_placeOf_27 : decode cX4_placeOf 27 = .ok (.ireturn, 1) := by decide +kernel
theorem dX4_placeOf_28 : decode cX4_placeOf 28 = .ok (.iinc 4 1, 3) := by decide +kernel
theorem dX4_placeOf_31 : decode cX4_placeOf 31 = .ok (.goto (-28), 3) := by decide +kernel
theorem dX4_placeOf_34 : decode cX4_placeOf 34 = .ok (.iconst (-1), 1) := by decide +kernel
theorem dX4_placeOf_35 : decode cX4_placeOf 35 = .ok (.ireturn, 1) := by decide +kernel
theorem dX4_ofWig_0 : decode cX4_ofWig 0 = .ok (.aload_n 0, 1) := by decide +kernel
theorem dX4_ofWig_1 : decode cX4_ofWig 1 = .ok (.iload_n 1, 1) := by decide +kernel
theorem dX4_ofWig_2 : decode cX4_ofWig 2 = .ok (.invokevirtual 87, 3) := by decide +kernel
theorem dX4_ofWig_5 : decode cX4_ofWig 5 = .ok (.ifCond .eq 14, 3) := by decide +kernel
theorem dX4_ofWig_8 : decode cX4_ofWig 8 = .ok (.aload_n 0, 1) := by decide +kernel
theorem dX4_ofWig_9 : decode cX4_ofWig 9 = .ok (.getfield 20, 3) := by decide +kernel
theorem dX4_ofWig_12 : decode cX4_ofWig 12 = .ok (.iload_n 1, 1) := by decide +kernel
theorem dX4_ofWig_13 : decode cX4_ofWig 13 = .ok (.aaload, 1) := by decide +kernel
theorem dX4_ofWig_14 : decode cX4_ofWig 14 = .ok (.iload_n 2, 1) := by decide +kernel
theorem dX4_ofWig_15 : decode cX4_ofWig 15 = .ok (.iaload, 1) := by decide +kernel
theorem dX4_ofWig_16 : decode cX4_ofWig 16 = .ok (.goto 4, 3) := by decide +kernel
theorem dX4_ofWig_19 : decode cX4_ofWig 19 = .ok (.iconst 0, 1) := by decide +kernel
theorem dX4_ofWig_20 : decode cX4_ofWig 20 = .ok (.ireturn, 1) := by decide +kernel
theorem dX4_ofHead_0 : decode cX4_ofHead 0 = .ok (.aload_n 0, 1) := by decide +kernel
theorem dX4_ofHead_1 : decode cX4_ofHead 1 = .ok (.iload_n 1, 1) := by decide +kernel
theorem dX4_ofHead_2 : decode cX4_ofHead 2 = .ok (.invokevirtual 91, 3) := by decide +kernel
theorem dX4_ofHead_5 : decode cX4_ofHead 5 = .ok (.ifCond .eq 14, 3) := by decide +kernel
theorem dX4_ofHead_8 : decode cX4_ofHead 8 = .ok (.aload_n 0, 1) := by decide +kernel
theorem dX4_ofHead_9 : decode cX4_ofHead 9 = .ok (.getfield 23, 3) := by decide +kernel
theorem dX4_ofHead_12 : decode cX4_ofHead 12 = .ok (.iload_n 1, 1) := by decide +kernel
theorem dX4_ofHead_13 : decode cX4_ofHead 13 = .ok (.aaload, 1) := by decide +kernel
theorem dX4_ofHead_14 : decode cX4_ofHead 14 = .ok (.iload_n 2, 1) := by decide +kernel
theorem dX4_ofHead_15 : decode cX4_ofHead 15 = .ok (.iaload, 1) := by decide +kernel
theorem dX4_ofHead_16 : decode cX4_ofHead 16 = .ok (.goto 4, 3) := by decide +kernel
theorem dX4_ofHead_19 : decode cX4_ofHead 19 = .ok (.iconst 0, 1) := by decide +kernel
theorem dX4_ofHead_20 : decode cX4_ofHead 20 = .ok (.ireturn, 1) := by decide +kernel
theorem dX4_sizeOfWig_0 : decode cX4_sizeOfWig 0 = .ok (.aload_n 0, 1) := by decide +kernel
theorem dX4_sizeOfWig_1 : decode cX4_sizeOfWig 1 = .ok (.iload_n 1, 1) := by decide +kernel
theorem dX4_sizeOfWig_2 : decode cX4_sizeOfWig 2 = .ok (.iconst 0, 1) := by decide +kernel
theorem dX4_sizeOfWig_3 : decode cX4_sizeOfWig 3 = .ok (.invokevirtual 94, 3) := by decide +kernel
theorem dX4_sizeOfWig_6 : decode cX4_sizeOfWig 6 = .ok (.ireturn, 1) := by decide +kernel
theorem dX4_officeOf_0 : decode cX4_officeOf 0 = .ok (.aload_n 0, 1) := by decide +kernel
theorem dX4_officeOf_1 : decode cX4_officeOf 1 = .ok (.iload_n 1, 1) := by decide +kernel
theorem dX4_officeOf_2 : decode cX4_officeOf 2 = .ok (.iconst 1, 1) := by decide +kernel
theorem dX4_officeOf_3 : decode cX4_officeOf 3 = .ok (.invokevirtual 94, 3) := by decide +kernel
theorem dX4_officeOf_6 : decode cX4_officeOf 6 = .ok (.ireturn, 1) := by decide +kernel
theorem dX4_leanOfWig_0 : decode cX4_leanOfWig 0 = .ok (.aload_n 0, 1) := by decide +kernel
theorem dX4_leanOfWig_1 : decode cX4_leanOfWig 1 = .ok (.iload_n 1, 1) := by decide +kernel
theorem dX4_leanOfWig_2 : decode cX4_leanOfWig 2 = .ok (.iconst 2, 1) := by decide +kernel
theorem dX4_leanOfWig_3 : decode cX4_leanOfWig 3 = .ok (.invokevirtual 94, 3) := by decide +kernel
theorem dX4_leanOfWig_6 : decode cX4_leanOfWig 6 = .ok (.ireturn, 1) := by decide +kernel
theorem dX4_officeOfAll_0 : decode cX4_officeOfAll 0 = .ok (.iconst 0, 1) := by decide +kernel
theorem dX4_officeOfAll_1 : decode cX4_officeOfAll 1 = .ok (.istore_n 2, 1) := by decide +kernel
theorem dX4_officeOfAll_2 : decode cX4_officeOfAll 2 = .ok (.iconst 0, 1) := by decide +kernel
theorem dX4_officeOfAll_3 : decode cX4_officeOfAll 3 = .ok (.istore_n 3, 1) := by decide +kernel
theorem dX4_officeOfAll_4 : decode cX4_officeOfAll 4 = .ok (.iload_n 3, 1) := by decide +kernel
theorem dX4_officeOfAll_5 : decode cX4_officeOfAll 5 = .ok (.aload_n 0, 1) := by decide +kernel
theorem dX4_officeOfAll_6 : decode cX4_officeOfAll 6 = .ok (.getfield 67, 3) := by decide +kernel
theorem dX4_officeOfAll_9 : decode cX4_officeOfAll 9 = .ok (.if_icmp .ge 26, 3) := by decide +kernel
theorem dX4_officeOfAll_12 : decode cX4_officeOfAll 12 = .ok (.iload_n 1, 1) := by decide +kernel
theorem dX4_officeOfAll_13 : decode cX4_officeOfAll 13 = .ok (.iload_n 3, 1) := by decide +kernel
theorem dX4_officeOfAll_14 : decode cX4_officeOfAll 14 = .ok (.ishr, 1) := by decide +kernel
theorem dX4_officeOfAll_15 : decode cX4_officeOfAll 15 = .ok (.iconst 1, 1) := by decide +kernel
theorem dX4_officeOfAll_16 : decode cX4_officeOfAll 16 = .ok (.iand, 1) := by decide +kernel
theorem dX4_officeOfAll_17 : decode cX4_officeOfAll 17 = .ok (.iconst 1, 1) := by decide +kernel
theorem dX4_officeOfAll_18 : decode cX4_officeOfAll 18 = .ok (.if_icmp .ne 11, 3) := by decide +kernel
theorem dX4_officeOfAll_21 : decode cX4_officeOfAll 21 = .ok (.iload_n 2, 1) := by decide +kernel
theorem dX4_officeOfAll_22 : decode cX4_officeOfAll 22 = .ok (.aload_n 0, 1) := by decide +kernel
theorem dX4_officeOfAll_23 : decode cX4_officeOfAll 23 = .ok (.iload_n 3, 1) := by decide +kernel
theorem dX4_officeOfAll_24 : decode cX4_officeOfAll 24 = .ok (.invokevirtual 98, 3) := by decide +kernel
theorem dX4_officeOfAll_27 : decode cX4_officeOfAll 27 = .ok (.iadd, 1) := by decide +kernel
theorem dX4_officeOfAll_28 : decode cX4_officeOfAll 28 = .ok (.istore_n 2, 1) := by decide +kernel
theorem dX4_officeOfAll_29 : decode cX4_officeOfAll 29 = .ok (.iinc 3 1, 3) := by decide +kernel
theorem dX4_officeOfAll_32 : decode cX4_officeOfAll 32 = .ok (.goto (-28), 3) := by decide +kernel
theorem dX4_officeOfAll_35 : decode cX4_officeOfAll 35 = .ok (.iload_n 2, 1) := by decide +kernel
theorem dX4_officeOfAll_36 : decode cX4_officeOfAll 36 = .ok (.ireturn, 1) := by decide +kernel
theorem dX4_heatOf_0 : decode cX4_heatOf 0 = .ok (.aload_n 0, 1) := by decide +kernel
theorem dX4_heatOf_1 : decode cX4_heatOf 1 = .ok (.getfield 73, 3) := by decide +kernel
theorem dX4_heatOf_4 : decode cX4_heatOf 4 = .ok (.ifCond .le 19, 3) := by decide +kernel
theorem dX4_heatOf_7 : decode cX4_heatOf 7 = .ok (.aload_n 0, 1) := by decide +kernel
theorem dX4_heatOf_8 : decode cX4_heatOf 8 = .ok (.getfield 26, 3) := by decide +kernel
theorem dX4_heatOf_11 : decode cX4_heatOf 11 = .ok (.iload_n 1, 1) := by decide +kernel
theorem dX4_heatOf_12 : decode cX4_heatOf 12 = .ok (.aload_n 0, 1) := by decide +kernel
theorem dX4_heatOf_13 : decode cX4_heatOf 13 = .ok (.getfield 73, 3) := by decide +kernel
theorem dX4_heatOf_16 : decode cX4_heatOf 16 = .ok (.invokestatic 102, 3) := by decide +kernel
theorem dX4_heatOf_19 : decode cX4_heatOf 19 = .ok (.iaload, 1) := by decide +kernel
theorem dX4_heatOf_20 : decode cX4_heatOf 20 = .ok (.goto 4, 3) := by decide +kernel
theorem dX4_heatOf_23 : decode cX4_heatOf 23 = .ok (.iconst 0, 1) := by decide +kernel
theorem dX4_heatOf_24 : decode cX4_heatOf 24 = .ok (.ireturn, 1) := by decide +kernel
theorem dX4_girth_0 : decode cX4_girth 0 = .ok (.aload_n 0, 1) := by decide +kernel
theorem dX4_girth_1 : decode cX4_girth 1 = .ok (.iload_n 1, 1) := by decide +kernel
theorem dX4_girth_2 : decode cX4_girth 2 = .ok (.iconst 0, 1) := by decide +kernel
theorem dX4_girth_3 : decode cX4_girth 3 = .ok (.invokevirtual 107, 3) := by decide +kernel
theorem dX4_girth_6 : decode cX4_girth 6 = .ok (.istore_n 3, 1) := by decide +kernel
theorem dX4_girth_7 : decode cX4_girth 7 = .ok (.aload_n 0, 1) := by decide +kernel
theorem dX4_girth_8 : decode cX4_girth 8 = .ok (.iload_n 2, 1) := by decide +kernel
theorem dX4_girth_9 : decode cX4_girth 9 = .ok (.invokevirtual 110, 3) := by decide +kernel
theorem dX4_girth_12 : decode cX4_girth 12 = .ok (.istore 4, 2) := by decide +kernel
theorem dX4_girth_14 : decode cX4_girth 14 = .ok (.iload_n 2, 1) := by decide +kernel
theorem dX4_girth_15 : decode cX4_girth 15 = .ok (.iconst 4, 1) := by decide +kernel
theorem dX4_girth_16 : decode cX4_girth 16 = .ok (.idiv, 1) := by decide +kernel
theorem dX4_girth_17 : decode cX4_girth 17 = .ok (.istore 5, 2) := by decide +kernel
theorem dX4_girth_19 : decode cX4_girth 19 = .ok (.iload_n 3, 1) := by decide +kernel
theorem dX4_girth_20 : decode cX4_girth 20 = .ok (.iconst 1, 1) := by decide +kernel
theorem dX4_girth_21 : decode cX4_girth 21 = .ok (.if_icmp .ne 10, 3) := by decide +kernel
theorem dX4_girth_24 : decode cX4_girth 24 = .ok (.iconst 2, 1) := by decide +kernel
theorem dX4_girth_25 : decode cX4_girth 25 = .ok (.iload 4, 2) := by decide +kernel
theorem dX4_girth_27 : decode cX4_girth 27 = .ok (.imul, 1) := by decide +kernel
theorem dX4_girth_28 : decode cX4_girth 28 = .ok (.goto 5, 3) := by decide +kernel
theorem dX4_girth_31 : decode cX4_girth 31 = .ok (.iload 4, 2) := by decide +kernel
theorem dX4_girth_33 : decode cX4_girth 33 = .ok (.istore 6, 2) := by decide +kernel
theorem dX4_girth_35 : decode cX4_girth 35 = .ok (.aload_n 0, 1) := by decide +kernel
theorem dX4_girth_36 : decode cX4_girth 36 = .ok (.getfield 51, 3) := by decide +kernel
theorem dX4_girth_39 : decode cX4_girth 39 = .ok (.getfield 113, 3) := by decide +kernel
theorem dX4_girth_42 : decode cX4_girth 42 = .ok (.ifCond .eq 24, 3) := by decide +kernel
theorem dX4_girth_45 : decode cX4_girth 45 = .ok (.aload_n 0, 1) := by decide +kernel
theorem dX4_girth_46 : decode cX4_girth 46 = .ok (.getfield 51, 3) := by decide +kernel
theorem dX4_girth_49 : decode cX4_girth 49 = .ok (.iload 4, 2) := by decide +kernel
theorem dX4_girth_51 : decode cX4_girth 51 = .ok (.aload_n 0, 1) := by decide +kernel
theorem dX4_girth_52 : decode cX4_girth 52 = .ok (.iload_n 1, 1) := by decide +kernel
theorem dX4_girth_53 : decode cX4_girth 53 = .ok (.iconst 2, 1) := by decide +kernel
theorem dX4_girth_54 : decode cX4_girth 54 = .ok (.invokevirtual 107, 3) := by decide +kernel
theorem dX4_girth_57 : decode cX4_girth 57 = .ok (.iload 5, 2) := by decide +kernel
theorem dX4_girth_59 : decode cX4_girth 59 = .ok (.iadd, 1) := by decide +kernel
theorem dX4_girth_60 : decode cX4_girth 60 = .ok (.iload_n 3, 1) := by decide +kernel
theorem dX4_girth_61 : decode cX4_girth 61 = .ok (.invokevirtual 116, 3) := by decide +kernel
theorem dX4_girth_64 : decode cX4_girth 64 = .ok (.istore 6, 2) := by decide +kernel
theorem dX4_girth_66 : decode cX4_girth 66 = .ok (.aload_n 0, 1) := by decide +kernel
theorem dX4_girth_67 : decode cX4_girth 67 = .ok (.iload_n 1, 1) := by decide +kernel
theorem dX4_girth_68 : decode cX4_girth 68 = .ok (.iconst 1, 1) := by decide +kernel
theorem dX4_girth_69 : decode cX4_girth 69 = .ok (.invokevirtual 107, 3) := by decide +kernel
theorem dX4_girth_72 : decode cX4_girth 72 = .ok (.bipush (-9), 2) := by decide +kernel
theorem dX4_girth_74 : decode cX4_girth 74 = .ok (.bipush 9, 2) := by decide +kernel
theorem dX4_girth_76 : decode cX4_girth 76 = .ok (.iload 6, 2) := by decide +kernel
theorem dX4_girth_78 : decode cX4_girth 78 = .ok (.invokestatic 120, 3) := by decide +kernel
theorem dX4_girth_81 : decode cX4_girth 81 = .ok (.invokestatic 123, 3) := by decide +kernel
theorem dX4_girth_84 : decode cX4_girth 84 = .ok (.iadd, 1) := by decide +kernel
theorem dX4_girth_85 : decode cX4_girth 85 = .ok (.istore 7, 2) := by decide +kernel
theorem dX4_girth_87 : decode cX4_girth 87 = .ok (.iload_n 3, 1) := by decide +kernel
theorem dX4_girth_88 : decode cX4_girth 88 = .ok (.iconst 3, 1) := by decide +kernel
theorem dX4_girth_89 : decode cX4_girth 89 = .ok (.if_icmp .ne 11, 3) := by decide +kernel
theorem dX4_girth_92 : decode cX4_girth 92 = .ok (.iload 7, 2) := by decide +kernel
theorem dX4_girth_94 : decode cX4_girth 94 = .ok (.iload 5, 2) := by decide +kernel
theorem dX4_girth_96 : decode cX4_girth 96 = .ok (.iadd, 1) := by decide +kernel
theorem dX4_girth_97 : decode cX4_girth 97 = .ok (.goto 17, 3) := by decide +kernel
theorem dX4_girth_100 : decode cX4_girth 100 = .ok (.iload_n 3, 1) := by decide +kernel
theorem dX4_girth_101 : decode cX4_girth 101 = .ok (.iconst 2, 1) := by decide +kernel
theorem dX4_girth_102 : decode cX4_girth 102 = .ok (.if_icmp .ne 10, 3) := by decide +kernel
theorem dX4_girth_105 : decode cX4_girth 105 = .ok (.iload 7, 2) := by decide +kernel
theorem dX4_girth_107 : decode cX4_girth 107 = .ok (.iconst 1, 1) := by decide +kernel
theorem dX4_girth_108 : decode cX4_girth 108 = .ok (.isub, 1) := by decide +kernel
theorem dX4_girth_109 : decode cX4_girth 109 = .ok (.goto 5, 3) := by decide +kernel
theorem dX4_girth_112 : decode cX4_girth 112 = .ok (.iload 7, 2) := by decide +kernel
theorem dX4_girth_114 : decode cX4_girth 114 = .ok (.ireturn, 1) := by decide +kernel
theorem dX4_isFit_0 : decode cX4_isFit 0 = .ok (.aload_n 0, 1) := by decide +kernel
theorem dX4_isFit_1 : decode cX4_isFit 1 = .ok (.aload_n 0, 1) := by decide +kernel
theorem dX4_isFit_2 : decode cX4_isFit 2 = .ok (.iload_n 1, 1) := by decide +kernel
theorem dX4_isFit_3 : decode cX4_isFit 3 = .ok (.invokevirtual 126, 3) := by decide +kernel
theorem dX4_isFit_6 : decode cX4_isFit 6 = .ok (.aload_n 0, 1) := by decide +kernel
theorem dX4_isFit_7 : decode cX4_isFit 7 = .ok (.iload_n 2, 1) := by decide +kernel
theorem dX4_isFit_8 : decode cX4_isFit 8 = .ok (.iload_n 3, 1) := by decide +kernel
theorem dX4_isFit_9 : decode cX4_isFit 9 = .ok (.invokevirtual 129, 3) := by decide +kernel
theorem dX4_isFit_12 : decode cX4_isFit 12 = .ok (.isub, 1) := by decide +kernel
theorem dX4_isFit_13 : decode cX4_isFit 13 = .ok (.invokevirtual 132, 3) := by decide +kernel
theorem dX4_isFit_16 : decode cX4_isFit 16 = .ok (.ireturn, 1) := by decide +kernel
theorem dX4_isTilt_0 : decode cX4_isTilt 0 = .ok (.iload_n 1, 1) := by decide +kernel
theorem dX4_isTilt_1 : decode cX4_isTilt 1 = .ok (.ifCond .lt 15, 3) := by decide +kernel
theorem dX4_isTilt_4 : decode cX4_isTilt 4 = .ok (.iload_n 1, 1) := by decide +kernel
theorem dX4_isTilt_5 : decode cX4_isTilt 5 = .ok (.aload_n 0, 1) := by decide +kernel
theorem dX4_isTilt_6 : decode cX4_isTilt 6 = .ok (.getfield 30, 3) := by decide +kernel
theorem dX4_isTilt_9 : decode cX4_isTilt 9 = .ok (.if_icmp .gt 7, 3) := by decide +kernel
theorem dX4_isTilt_12 : decode cX4_isTilt 12 = .ok (.iconst 1, 1) := by decide +kernel
theorem dX4_isTilt_13 : decode cX4_isTilt 13 = .ok (.goto 4, 3) := by decide +kernel
theorem dX4_isTilt_16 : decode cX4_isTilt 16 = .ok (.iconst 0, 1) := by decide +kernel
theorem dX4_isTilt_17 : decode cX4_isTilt 17 = .ok (.ireturn, 1) := by decide +kernel
theorem dX4_isFor_0 : decode cX4_isFor 0 = .ok (.aload_n 0, 1) := by decide +kernel
theorem dX4_isFor_1 : decode cX4_isFor 1 = .ok (.iload_n 2, 1) := by decide +kernel
theorem dX4_isFor_2 : decode cX4_isFor 2 = .ok (.iconst 3, 1) := by decide +kernel
theorem dX4_isFor_3 : decode cX4_isFor 3 = .ok (.invokevirtual 107, 3) := by decide +kernel
theorem dX4_isFor_6 : decode cX4_isFor 6 = .ok (.istore 4, 2) := by decide +kernel
theorem dX4_isFor_8 : decode cX4_isFor 8 = .ok (.aload_n 0, 1) := by decide +kernel
theorem dX4_isFor_9 : decode cX4_isFor 9 = .ok (.getfield 64, 3) := by decide +kernel
theorem dX4_isFor_12 : decode cX4_isFor 12 = .ok (.getfield 113, 3) := by decide +kernel
theorem dX4_isFor_15 : decode cX4_isFor 15 = .ok (.ifCond .eq 25, 3) := by decide +kernel
theorem dX4_isFor_18 : decode cX4_isFor 18 = .ok (.aload_n 0, 1) := by decide +kernel
theorem dX4_isFor_19 : decode cX4_isFor 19 = .ok (.getfield 64, 3) := by decide +kernel
theorem dX4_isFor_22 : decode cX4_isFor 22 = .ok (.iload_n 1, 1) := by decide +kernel
theorem dX4_isFor_23 : decode cX4_isFor 23 = .ok (.iload 4, 2) := by decide +kernel
theorem dX4_isFor_25 : decode cX4_isFor 25 = .ok (.iload_n 3, 1) := by decide +kernel
theorem dX4_isFor_26 : decode cX4_isFor 26 = .ok (.invokevirtual 116, 3) := by decide +kernel
theorem dX4_isFor_29 : decode cX4_isFor 29 = .ok (.ifCond .eq 7, 3) := by decide +kernel
theorem dX4_isFor_32 : decode cX4_isFor 32 = .ok (.iconst 1, 1) := by decide +kernel
theorem dX4_isFor_33 : decode cX4_isFor 33 = .ok (.goto 23, 3) := by decide +kernel
theorem dX4_isFor_36 : decode cX4_isFor 36 = .ok (.iconst 0, 1) := by decide +kernel
theorem dX4_isFor_37 : decode cX4_isFor 37 = .ok (.goto 19, 3) := by decide +kernel
theorem dX4_isFor_40 : decode cX4_isFor 40 = .ok (.iload_n 1, 1) := by decide +kernel
theorem dX4_isFor_41 : decode cX4_isFor 41 = .ok (.iload_n 3, 1) := by decide +kernel
theorem dX4_isFor_42 : decode cX4_isFor 42 = .ok (.imul, 1) := by decide +kernel
theorem dX4_isFor_43 : decode cX4_isFor 43 = .ok (.iload 4, 2) := by decide +kernel
theorem dX4_isFor_45 : decode cX4_isFor 45 = .ok (.bipush 9, 2) := by decide +kernel
theorem dX4_isFor_47 : decode cX4_isFor 47 = .ok (.imul, 1) := by decide +kernel
theorem dX4_isFor_48 : decode cX4_isFor 48 = .ok (.if_icmp .ge 7, 3) := by decide +kernel
theorem dX4_isFor_51 : decode cX4_isFor 51 = .ok (.iconst 1, 1) := by decide +kernel
theorem dX4_isFor_52 : decode cX4_isFor 52 = .ok (.goto 4, 3) := by decide +kernel
theorem dX4_isFor_55 : decode cX4_isFor 55 = .ok (.iconst 0, 1) := by decide +kernel
theorem dX4_isFor_56 : decode cX4_isFor 56 = .ok (.ireturn, 1) := by decide +kernel
theorem dX5_init_0 : decode cX5_init 0 = .ok (.aload_n 0, 1) := by decide +kernel
theorem dX5_init_1 : decode cX5_init 1 = .ok (.invokespecial 3, 3) := by decide +kernel
theorem dX5_init_4 : decode cX5_init 4 = .ok (.aload_n 0, 1) := by decide +kernel
theorem dX5_init_5 : decode cX5_init 5 = .ok (.bipush 6, 2) := by decide +kernel
theorem dX5_init_7 : decode cX5_init 7 = .ok (.newarray .int, 2) := by decide +kernel
theorem dX5_init_9 : decode cX5_init 9 = .ok (.putfield 9, 3) := by decide +kernel
theorem dX5_init_12 : decode cX5_init 12 = .ok (.aload_n 0, 1) := by decide +kernel
theorem dX5_init_13 : decode cX5_init 13 = .ok (.bipush 6, 2) := by decide +kernel
theorem dX5_init_15 : decode cX5_init 15 = .ok (.bipush 6, 2) := by decide +kernel
theorem dX5_init_17 : decode cX5_init 17 = .ok (.multianewarray 15 2, 4) := by decide +kernel
theorem dX5_init_21 : decode cX5_init 21 = .ok (.putfield 17, 3) := by decide +kernel
theorem dX5_init_24 : decode cX5_init 24 = .ok (.aload_n 0, 1) := by decide +kernel
theorem dX5_init_25 : decode cX5_init 25 = .ok (.bipush 7, 2) := by decide +kernel
theorem dX5_init_27 : decode cX5_init 27 = .ok (.bipush 64, 2) := by decide +kernel
theorem dX5_init_29 : decode cX5_init 29 = .ok (.multianewarray 15 2, 4) := by decide +kernel
theorem dX5_init_33 : decode cX5_init 33 = .ok (.putfield 20, 3) := by decide +kernel
theorem dX5_init_36 : decode cX5_init 36 = .ok (.aload_n 0, 1) := by decide +kernel
theorem dX5_init_37 : decode cX5_init 37 = .ok (.bipush 6, 2) := by decide +kernel
theorem dX5_init_39 : decode cX5_init 39 = .ok (.newarray .int, 2) := by decide +kernel
theorem dX5_init_41 : decode cX5_init 41 = .ok (.putfield 23, 3) := by decide +kernel
theorem dX5_init_44 : decode cX5_init 44 = .ok (.return_, 1) := by decide +kernel
theorem dX5_begin_0 : decode cX5_begin 0 = .ok (.aload_n 0, 1) := by decide +kernel
theorem dX5_begin_1 : decode cX5_begin 1 = .ok (.iconst 0, 1) := by decide +kernel
theorem dX5_begin_2 : decode cX5_begin 2 = .ok (.bipush 6, 2) := by decide +kernel
theorem dX5_begin_4 : decode cX5_begin 4 = .ok (.iload_n 1, 1) := by decide +kernel
theorem dX5_begin_5 : decode cX5_begin 5 = .ok (.invokestatic 26, 3) := by decide +kernel
theorem dX5_begin_8 : decode cX5_begin 8 = .ok (.invokestatic 32, 3) := by decide +kernel
theorem dX5_begin_11 : decode cX5_begin 11 = .ok (.putfield 35, 3) := by decide +kernel
theorem dX5_begin_14 : decode cX5_begin 14 = .ok (.aload_n 0, 1) := by decide +kernel
theorem dX5_begin_15 : decode cX5_begin 15 = .ok (.iload_n 2, 1) := by decide +kernel
theorem dX5_begin_16 : decode cX5_begin 16 = .ok (.putfield 39, 3) := by decide +kernel
theorem dX5_begin_19 : decode cX5_begin 19 = .ok (.iconst 0, 1) := by decide +kernel
theorem dX5_begin_20 : decode cX5_begin 20 = .ok (.istore_n 3, 1) := by decide +kernel
theorem dX5_begin_21 : decode cX5_begin 21 = .ok (.iload_n 3, 1) := by decide +kernel
theorem dX5_begin_22 : decode cX5_begin 22 = .ok (.bipush 6, 2) := by decide +kernel
theorem dX5_begin_24 : decode cX5_begin 24 = .ok (.if_icmp .ge 23, 3) := by decide +kernel
theorem dX5_begin_27 : decode cX5_begin 27 = .ok (.aload_n 0, 1) := by decide +kernel
theorem dX5_begin_28 : decode cX5_begin 28 = .ok (.getfield 9, 3) := by decide +kernel
theorem dX5_begin_31 : decode cX5_begin 31 = .ok (.iload_n 3, 1) := by decide +kernel
theorem dX5_begin_32 : decode cX5_begin 32 = .ok (.iconst 0, 1) := by decide +kernel
theorem dX5_begin_33 : decode cX5_begin 33 = .ok (.iastore, 1) := by decide +kernel
theorem dX5_begin_34 : decode cX5_begin 34 = .ok (.aload_n 0, 1) := by decide +kernel
theorem dX5_begin_35 : decode cX5_begin 35 = .ok (.getfield 23, 3) := by decide +kernel
theorem dX5_begin_38 : decode cX5_begin 38 = .ok (.iload_n 3, 1) := by decide +kernel
theorem dX5_begin_39 : decode cX5_begin 39 = .ok (.iconst (-1), 1) := by decide +kernel
theorem dX5_begin_40 : decode cX5_begin 40 = .ok (.iastore, 1) := by decide +kernel
theorem dX5_begin_41 : decode cX5_begin 41 = .ok (.iinc 3 1, 3) := by decide +kernel
theorem dX5_begin_44 : decode cX5_begin 44 = .ok (.goto (-23), 3) := by decide +kernel
theorem dX5_begin_47 : decode cX5_begin 47 = .ok (.return_, 1) := by decide +kernel
theorem dX5_open_0 : decode cX5_open 0 = .ok (.iload_n 1, 1) := by decide +kernel
theorem dX5_open_1 : decode cX5_open 1 = .ok (.ifCond .lt 21, 3) := by decide +kernel
theorem dX5_open_4 : decode cX5_open 4 = .ok (.iload_n 1, 1) := by decide +kernel
theorem dX5_open_5 : decode cX5_open 5 = .ok (.bipush 6, 2) := by decide +kernel
theorem dX5_open_7 : decode cX5_open 7 = .ok (.if_icmp .ge 15, 3) := by decide +kernel
theorem dX5_open_10 : decode cX5_open 10 = .ok (.aload_n 0, 1) := by decide +kernel
theorem dX5_open_11 : decode cX5_open 11 = .ok (.getfield 9, 3) := by decide +kernel
theorem dX5_open_14 : decode cX5_open 14 = .ok (.iload_n 1, 1) := by decide +kernel
theorem dX5_open_15 : decode cX5_open 15 = .ok (.dup2, 1) := by decide +kernel
theorem dX5_open_16 : decode cX5_open 16 = .ok (.iaload, 1) := by decide +kernel
theorem dX5_open_17 : decode cX5_open 17 = .ok (.iconst 1, 1) := by decide +kernel
theorem dX5_open_18 : decode cX5_open 18 = .ok (.iload_n 2, 1) := by decide +kernel
theorem dX5_open_19 : decode cX5_open 19 = .ok (.ishl, 1) := by decide +kernel
theorem dX5_open_20 : decode cX5_open 20 = .ok (.ior, 1) := by decide +kernel
theorem dX5_open_21 : decode cX5_open 21 = .ok (.iastore, 1) := by decide +kernel
theorem dX5_open_22 : decode cX5_open 22 = .ok (.return_, 1) := by decide +kernel
theorem dX5_gains_0 : decode cX5_gains 0 = .ok (.iload_n 1, 1) := by decide +kernel
theorem dX5_gains_1 : decode cX5_gains 1 = .ok (.ifCond .lt 28, 3) := by decide +kernel
theorem dX5_gains_4 : decode cX5_gains 4 = .ok (.iload_n 1, 1) := by decide +kernel
theorem dX5_gains_5 : decode cX5_gains 5 = .ok (.bipush 6, 2) := by decide +kernel
theorem dX5_gains_7 : decode cX5_gains 7 = .ok (.if_icmp .ge 22, 3) := by decide +kernel
theorem dX5_gains_10 : decode cX5_gains 10 = .ok (.iload_n 2, 1) := by decide +kernel
theorem dX5_gains_11 : decode cX5_gains 11 = .ok (.ifCond .lt 18, 3) := by decide +kernel
theorem dX5_gains_14 : decode cX5_gains 14 = .ok (.iload_n 2, 1) := by decide +kernel
theorem dX5_gains_15 : decode cX5_gains 15 = .ok (.bipush 6, 2) := by decide +kernel
theorem dX5_gains_17 : decode cX5_gains 17 = .ok (.if_icmp .ge 12, 3) := by decide +kernel
theorem dX5_gains_20 : decode cX5_gains 20 = .ok (.aload_n 0, 1) := by decide +kernel
theorem dX5_gains_21 : decode cX5_gains 21 = .ok (.getfield 17, 3) := by decide +kernel
theorem dX5_gains_24 : decode cX5_gains 24 = .ok (.iload_n 1, 1) := by decide +kernel
theorem dX5_gains_25 : decode cX5_gains 25 = .ok (.aaload, 1) := by decide +kernel
theorem dX5_gains_26 : decode cX5_gains 26 = .ok (.iload_n 2, 1) := by decide +kernel
theorem dX5_gains_27 : decode cX5_gains 27 = .ok (.iload_n 3, 1) := by decide +kernel
theorem dX5_gains_28 : decode cX5_gains 28 = .ok (.iastore, 1) := by decide +kernel
theorem dX5_gains_29 : decode cX5_gains 29 = .ok (.return_, 1) := by decide +kernel
theorem dX5_chosen_0 : decode cX5_chosen 0 = .ok (.iload_n 1, 1) := by decide +kernel
theorem dX5_chosen_1 : decode cX5_chosen 1 = .ok (.ifCond .lt 18, 3) := by decide +kernel
theorem dX5_chosen_4 : decode cX5_chosen 4 = .ok (.iload_n 1, 1) := by decide +kernel
theorem dX5_chosen_5 : decode cX5_chosen 5 = .ok (.bipush 6, 2) := by decide +kernel
theorem dX5_chosen_7 : decode cX5_chosen 7 = .ok (.if_icmp .ge 12, 3) := by decide +kernel
theorem dX5_chosen_10 : decode cX5_chosen 10 = .ok (.aload_n 0, 1) := by decide +kernel
theorem dX5_chosen_11 : decode cX5_chosen 11 = .ok (.getfield 23, 3) := by decide +kernel
theorem dX5_chosen_14 : decode cX5_chosen 14 = .ok (.iload_n 1, 1) := by decide +kernel
theorem dX5_chosen_15 : decode cX5_chosen 15 = .ok (.iaload, 1) := by decide +kernel
theorem dX5_chosen_16 : decode cX5_chosen 16 = .ok (.goto 4, 3) := by decide +kernel
theorem dX5_chosen_19 : decode cX5_chosen 19 = .ok (.iconst (-1), 1) := by decide +kernel
theorem dX5_chosen_20 : decode cX5_chosen 20 = .ok (.ireturn, 1) := by decide +kernel
theorem dX5_solve_0 : decode cX5_solve 0 = .ok (.iconst 0, 1) := by decide +kernel
theorem dX5_solve_1 : decode cX5_solve 1 = .ok (.istore_n 1, 1) := by decide +kernel
theorem dX5_solve_2 : decode cX5_solve 2 = .ok (.iload_n 1, 1) := by decide +kernel
theorem dX5_solve_3 : decode cX5_solve 3 = .ok (.bipush 64, 2) := by decide +kernel
theorem dX5_solve_5 : decode cX5_solve 5 = .ok (.if_icmp .ge 21, 3) := by decide +kernel
theorem dX5_solve_8 : decode cX5_solve 8 = .ok (.aload_n 0, 1) := by decide +kernel
theorem dX5_solve_9 : decode cX5_solve 9 = .ok (.getfield 20, 3) := by decide +kernel
theorem dX5_solve_12 : decode cX5_solve 12 = .ok (.aload_n 0, 1) := by decide +kernel
theorem dX5_solve_13 : decode cX5_solve 13 = .ok (.getfield 35, 3) := by decide +kernel
theorem dX5_solve_16 : decode cX5_solve 16 = .ok (.aaload, 1) := by decide +kernel
theorem dX5_solve_17 : decode cX5_solve 17 = .ok (.iload_n 1, 1) := by decide +kernel
theorem dX5_solve_18 : decode cX5_solve 18 = .ok (.iconst 0, 1) := by decide +kernel
theorem dX5_solve_19 : decode cX5_solve 19 = .ok (.iastore, 1) := by decide +kernel
theorem dX5_solve_20 : decode cX5_solve 20 = .ok (.iinc 1 1, 3) := by decide +kernel
theorem dX5_solve_23 : decode cX5_solve 23 = .ok (.goto (-21), 3) := by decide +kernel
theorem dX5_solve_26 : decode cX5_solve 26 = .ok (.aload_n 0, 1) := by decide +kernel
theorem dX5_solve_27 : decode cX5_solve 27 = .ok (.getfield 35, 3) := by decide +kernel
theorem dX5_solve_30 : decode cX5_solve 30 = .ok (.iconst 1, 1) := by decide +kernel
theorem dX5_solve_31 : decode cX5_solve 31 = .ok (.isub, 1) := by decide +kernel
theorem dX5_solve_32 : decode cX5_solve 32 = .ok (.istore_n 1, 1) := by decide +kernel
theorem dX5_solve_33 : decode cX5_solve 33 = .ok (.iload_n 1, 1) := by decide +kernel
theorem dX5_solve_34 : decode cX5_solve 34 = .ok (.ifCond .lt 72, 3) := by decide +kernel
theorem dX5_solve_37 : decode cX5_solve 37 = .ok (.iconst 0, 1) := by decide +kernel
theorem dX5_solve_38 : decode cX5_solve 38 = .ok (.istore_n 2, 1) := by decide +kernel
theorem dX5_solve_39 : decode cX5_solve 39 = .ok (.iload_n 2, 1) := by decide +kernel
theorem dX5_solve_40 : decode cX5_solve 40 = .ok (.bipush 64, 2) := by decide +kernel
theorem dX5_solve_42 : decode cX5_solve 42 = .ok (.if_icmp .ge 58, 3) := by decide +kernel
theorem dX5_solve_45 : decode cX5_solve 45 = .ok (.aload_n 0, 1) := by decide +kernel
theorem dX5_solve_46 : decode cX5_solve 46 = .ok (.getfield 20, 3) := by decide +kernel
theorem dX5_solve_49 : decode cX5_solve 49 = .ok (.iload_n 1, 1) := by decide +kernel
theorem dX5_solve_50 : decode cX5_solve 50 = .ok (.iconst 1, 1) := by decide +kernel
theorem dX5_solve_51 : decode cX5_solve 51 = .ok (.iadd, 1) := by decide +kernel
theorem dX5_solve_52 : decode cX5_solve 52 = .ok (.aaload, 1) := by decide +kernel
theorem dX5_solve_53 : decode cX5_solve 53 = .ok (.iload_n 2, 1) := by decide +kernel
theorem dX5_solve_54 : decode cX5_solve 54 = .ok (.iaload, 1) := by decide +kernel
theorem dX5_solve_55 : decode cX5_solve 55 = .ok (.istore_n 3, 1) := by decide +kernel
theorem dX5_solve_56 : decode cX5_solve 56 = .ok (.iconst 0, 1) := by decide +kernel
theorem dX5_solve_57 : decode cX5_solve 57 = .ok (.istore 4, 2) := by decide +kernel
theorem dX5_solve_59 : decode cX5_solve 59 = .ok (.iload 4, 2) := by decide +kernel
theorem dX5_solve_61 : decode cX5_solve 61 = .ok (.bipush 6, 2) := by decide +kernel
theorem dX5_solve_63 : decode cX5_solve 63 = .ok (.if_icmp .ge 22, 3) := by decide +kernel
theorem dX5_solve_66 : decode cX5_solve 66 = .ok (.iload_n 3, 1) := by decide +kernel
theorem dX5_solve_67 : decode cX5_solve 67 = .ok (.aload_n 0, 1) := by decide +kernel
theorem dX5_solve_68 : decode cX5_solve 68 = .ok (.iload_n 1, 1) := by decide +kernel
theorem dX5_solve_69 : decode cX5_solve 69 = .ok (.iload_n 2, 1) := by decide +kernel
theorem dX5_solve_70 : decode cX5_solve 70 = .ok (.iload 4, 2) := by decide +kernel
theorem dX5_solve_72 : decode cX5_solve 72 = .ok (.invokevirtual 43, 3) := by decide +kernel
theorem dX5_solve_75 : decode cX5_solve 75 = .ok (.invokestatic 32, 3) := by decide +kernel
theorem dX5_solve_78 : decode cX5_solve 78 = .ok (.istore_n 3, 1) := by decide +kernel
theorem dX5_solve_79 : decode cX5_solve 79 = .ok (.iinc 4 1, 3) := by decide +kernel
theorem dX5_solve_82 : decode cX5_solve 82 = .ok (.goto (-23), 3) := by decide +kernel
theorem dX5_solve_85 : decode cX5_solve 85 = .ok (.aload_n 0, 1) := by decide +kernel
theorem dX5_solve_86 : decode cX5_solve 86 = .ok (.getfield 20, 3) := by decide +kernel
theorem dX5_solve_89 : decode cX5_solve 89 = .ok (.iload_n 1, 1) := by decide +kernel
theorem dX5_solve_90 : decode cX5_solve 90 = .ok (.aaload, 1) := by decide +kernel
theorem dX5_solve_91 : decode cX5_solve 91 = .ok (.iload_n 2, 1) := by decide +kernel
theorem dX5_solve_92 : decode cX5_solve 92 = .ok (.iload_n 3, 1) := by decide +kernel
theorem dX5_solve_93 : decode cX5_solve 93 = .ok (.iastore, 1) := by decide +kernel
theorem dX5_solve_94 : decode cX5_solve 94 = .ok (.iinc 2 1, 3) := by decide +kernel
theorem dX5_solve_97 : decode cX5_solve 97 = .ok (.goto (-58), 3) := by decide +kernel
theorem dX5_solve_100 : decode cX5_solve 100 = .ok (.iinc 1 (-1), 3) := by decide +kernel
theorem dX5_solve_103 : decode cX5_solve 103 = .ok (.goto (-70), 3) := by decide +kernel
theorem dX5_solve_106 : decode cX5_solve 106 = .ok (.aload_n 0, 1) := by decide +kernel
theorem dX5_solve_107 : decode cX5_solve 107 = .ok (.invokevirtual 47, 3) := by decide +kernel
theorem dX5_solve_110 : decode cX5_solve 110 = .ok (.aload_n 0, 1) := by decide +kernel
theorem dX5_solve_111 : decode cX5_solve 111 = .ok (.getfield 20, 3) := by decide +kernel
theorem dX5_solve_114 : decode cX5_solve 114 = .ok (.iconst 0, 1) := by decide +kernel
theorem dX5_solve_115 : decode cX5_solve 115 = .ok (.aaload, 1) := by decide +kernel
theorem dX5_solve_116 : decode cX5_solve 116 = .ok (.iconst 0, 1) := by decide +kernel
theorem dX5_solve_117 : decode cX5_solve 117 = .ok (.iaload, 1) := by decide +kernel
theorem dX5_solve_118 : decode cX5_solve 118 = .ok (.ireturn, 1) := by decide +kernel
theorem dX5_keepFirstRow_0 : decode cX5_keepFirstRow 0 = .ok (.iconst 0, 1) := by decide +kernel
theorem dX5_keepFirstRow_1 : decode cX5_keepFirstRow 1 = .ok (.istore_n 1, 1) := by decide +kernel
theorem dX5_keepFirstRow_2 : decode cX5_keepFirstRow 2 = .ok (.iconst 0, 1) := by decide +kernel
theorem dX5_keepFirstRow_3 : decode cX5_keepFirstRow 3 = .ok (.istore_n 2, 1) := by decide +kernel
theorem dX5_keepFirstRow_4 : decode cX5_keepFirstRow 4 = .ok (.iload_n 2, 1) := by decide +kernel
theorem dX5_keepFirstRow_5 : decode cX5_keepFirstRow 5 = .ok (.aload_n 0, 1) := by decide +kernel
theorem dX5_keepFirstRow_6 : decode cX5_keepFirstRow 6 = .ok (.getfield 35, 3) := by decide +kernel
theorem dX5_keepFirstRow_9 : decode cX5_keepFirstRow 9 = .ok (.if_icmp .ge 71, 3) := by decide +kernel
theorem dX5_keepFirstRow_12 : decode cX5_keepFirstRow 12 = .ok (.aload_n 0, 1) := by decide +kernel
theorem dX5_keepFirstRow_13 : decode cX5_keepFirstRow 13 = .ok (.getfield 20, 3) := by decide +kernel
theorem dX5_keepFirstRow_16 : decode cX5_keepFirstRow 16 = .ok (.iload_n 2, 1) := by decide +kernel
theorem dX5_keepFirstRow_17 : decode cX5_keepFirstRow 17 = .ok (.aaload, 1) := by decide +kernel
theorem dX5_keepFirstRow_18 : decode cX5_keepFirstRow 18 = .ok (.iload_n 1, 1) := by decide +kernel
theorem dX5_keepFirstRow_19 : decode cX5_keepFirstRow 19 = .ok (.iaload, 1) := by decide +kernel
theorem dX5_keepFirstRow_20 : decode cX5_keepFirstRow 20 = .ok (.istore_n 3, 1) := by decide +kernel
theorem dX5_keepFirstRow_21 : decode cX5_keepFirstRow 21 = .ok (.iconst 0, 1) := by decide +kernel
theorem dX5_keepFirstRow_22 : decode cX5_keepFirstRow 22 = .ok (.istore 4, 2) := by decide +kernel
theorem dX5_keepFirstRow_24 : decode cX5_keepFirstRow 24 = .ok (.iload 4, 2) := by decide +kernel
theorem dX5_keepFirstRow_26 : decode cX5_keepFirstRow 26 = .ok (.bipush 6, 2) := by decide +kernel
theorem dX5_keepFirstRow_28 : decode cX5_keepFirstRow 28 = .ok (.if_icmp .ge 46, 3) := by decide +kernel
theorem dX5_keepFirstRow_31 : decode cX5_keepFirstRow 31 = .ok (.aload_n 0, 1) := by decide +kernel
theorem dX5_keepFirstRow_32 : decode cX5_keepFirstRow 32 = .ok (.getfield 23, 3) := by decide +kernel
theorem dX5_keepFirstRow_35 : decode cX5_keepFirstRow 35 = .ok (.iload_n 2, 1) := by decide +kernel
theorem dX5_keepFirstRow_36 : decode cX5_keepFirstRow 36 = .ok (.iaload, 1) := by decide +kernel
theorem dX5_keepFirstRow_37 : decode cX5_keepFirstRow 37 = .ok (.iconst (-1), 1) := by decide +kernel
theorem dX5_keepFirstRow_38 : decode cX5_keepFirstRow 38 = .ok (.if_icmp .ne 36, 3) := by decide +kernel
theorem dX5_keepFirstRow_41 : decode cX5_keepFirstRow 41 = .ok (.aload_n 0, 1) := by decide +kernel
theorem dX5_keepFirstRow_42 : decode cX5_keepFirstRow 42 = .ok (.iload_n 2, 1) := by decide +kernel
theorem dX5_keepFirstRow_43 : decode cX5_keepFirstRow 43 = .ok (.iload_n 1, 1) := by decide +kernel
theorem dX5_keepFirstRow_44 : decode cX5_keepFirstRow 44 = .ok (.iload 4, 2) := by decide +kernel
theorem dX5_keepFirstRow_46 : decode cX5_keepFirstRow 46 = .ok (.invokevirtual 43, 3) := by decide +kernel
theorem dX5_keepFirstRow_49 : decode cX5_keepFirstRow 49 = .ok (.iload_n 3, 1) := by decide +kernel
theorem dX5_keepFirstRow_50 : decode cX5_keepFirstRow 50 = .ok (.if_icmp .ne 18, 3) := by decide +kernel
theorem dX5_keepFirstRow_53 : decode cX5_keepFirstRow 53 = .ok (.aload_n 0, 1) := by decide +kernel
theorem dX5_keepFirstRow_54 : decode cX5_keepFirstRow 54 = .ok (.getfield 23, 3) := by decide +kernel
theorem dX5_keepFirstRow_57 : decode cX5_keepFirstRow 57 = .ok (.iload_n 2, 1) := by decide +kernel
theorem dX5_keepFirstRow_58 : decode cX5_keepFirstRow 58 = .ok (.iload 4, 2) := by decide +kernel
theorem dX5_keepFirstRow_60 : decode cX5_keepFirstRow 60 = .ok (.iastore, 1) := by decide +kernel
theorem dX5_keepFirstRow_61 : decode cX5_keepFirstRow 61 = .ok (.iload_n 1, 1) := by decide +kernel
theorem dX5_keepFirstRow_62 : decode cX5_keepFirstRow 62 = .ok (.iconst 1, 1) := by decide +kernel
theorem dX5_keepFirstRow_63 : decode cX5_keepFirstRow 63 = .ok (.iload 4, 2) := by decide +kernel
theorem dX5_keepFirstRow_65 : decode cX5_keepFirstRow 65 = .ok (.ishl, 1) := by decide +kernel
theorem dX5_keepFirstRow_66 : decode cX5_keepFirstRow 66 = .ok (.ior, 1) := by decide +kernel
theorem dX5_keepFirstRow_67 : decode cX5_keepFirstRow 67 = .ok (.istore_n 1, 1) := by decide +kernel
theorem dX5_keepFirstRow_68 : decode cX5_keepFirstRow 68 = .ok (.iinc 4 1, 3) := by decide +kernel
theorem dX5_keepFirstRow_71 : decode cX5_keepFirstRow 71 = .ok (.goto (-47), 3) := by decide +kernel
theorem dX5_keepFirstRow_74 : decode cX5_keepFirstRow 74 = .ok (.iinc 2 1, 3) := by decide +kernel
theorem dX5_keepFirstRow_77 : decode cX5_keepFirstRow 77 = .ok (.goto (-73), 3) := by decide +kernel
theorem dX5_keepFirstRow_80 : decode cX5_keepFirstRow 80 = .ok (.return_, 1) := by decide +kernel
theorem dX5_through_0 : decode cX5_through 0 = .ok (.iload_n 2, 1) := by decide +kernel
theorem dX5_through_1 : decode cX5_through 1 = .ok (.iload_n 3, 1) := by decide +kernel
theorem dX5_through_2 : decode cX5_through 2 = .ok (.ishr, 1) := by decide +kernel
theorem dX5_through_3 : decode cX5_through 3 = .ok (.iconst 1, 1) := by decide +kernel
theorem dX5_through_4 : decode cX5_through 4 = .ok (.iand, 1) := by decide +kernel
theorem dX5_through_5 : decode cX5_through 5 = .ok (.iconst 1, 1) := by decide +kernel
theorem dX5_through_6 : decode cX5_through 6 = .ok (.if_icmp .ne 7, 3) := by decide +kernel
theorem dX5_through_9 : decode cX5_through 9 = .ok (.iconst 1, 1) := by decide +kernel
theorem dX5_through_10 : decode cX5_through 10 = .ok (.goto 4, 3) := by decide +kernel
theorem dX5_through_13 : decode cX5_through 13 = .ok (.iconst 0, 1) := by decide +kernel
theorem dX5_through_14 : decode cX5_through 14 = .ok (.istore 4, 2) := by decide +kernel
theorem dX5_through_16 : decode cX5_through 16 = .ok (.aload_n 0, 1) := by decide +kernel
theorem dX5_through_17 : decode cX5_through 17 = .ok (.getfield 9, 3) := by decide +kernel
theorem dX5_through_20 : decode cX5_through 20 = .ok (.iload_n 1, 1) := by decide +kernel
theorem dX5_through_21 : decode cX5_through 21 = .ok (.iaload, 1) := by decide +kernel
theorem dX5_through_22 : decode cX5_through 22 = .ok (.iload_n 3, 1) := by decide +kernel
theorem dX5_through_23 : decode cX5_through 23 = .ok (.ishr, 1) := by decide +kernel
theorem dX5_through_24 : decode cX5_through 24 = .ok (.iconst 1, 1) := by decide +kernel
theorem dX5_through_25 : decode cX5_through 25 = .ok (.iand, 1) := by decide +kernel
theorem dX5_through_26 : decode cX5_through 26 = .ok (.ifCond .eq 15, 3) := by decide +kernel
theorem dX5_through_29 : decode cX5_through 29 = .ok (.iload 4, 2) := by decide +kernel
theorem dX5_through_31 : decode cX5_through 31 = .ok (.ifCond .eq 12, 3) := by decide +kernel
theorem dX5_through_34 : decode cX5_through 34 = .ok (.aload_n 0, 1) := by decide +kernel
theorem dX5_through_35 : decode cX5_through 35 = .ok (.getfield 39, 3) := by decide +kernel
theorem dX5_through_38 : decode cX5_through 38 = .ok (.ifCond .ne 5, 3) := by decide +kernel
theorem dX5_through_41 : decode cX5_through 41 = .ok (.iconst (-1), 1) := by decide +kernel
theorem dX5_through_42 : decode cX5_through 42 = .ok (.ireturn, 1) := by decide +kernel
theorem dX5_through_43 : decode cX5_through 43 = .ok (.iload 4, 2) := by decide +kernel
theorem dX5_through_45 : decode cX5_through 45 = .ok (.ifCond .eq 7, 3) := by decide +kernel
theorem dX5_through_48 : decode cX5_through 48 = .ok (.iconst 0, 1) := by decide +kernel
theorem dX5_through_49 : decode cX5_through 49 = .ok (.goto 11, 3) := by decide +kernel
theorem dX5_through_52 : decode cX5_through 52 = .ok (.aload_n 0, 1) := by decide +kernel
theorem dX5_through_53 : decode cX5_through 53 = .ok (.getfield 17, 3) := by decide +kernel
theorem dX5_through_56 : decode cX5_through 56 = .ok (.iload_n 1, 1) := by decide +kernel
theorem dX5_through_57 : decode cX5_through 57 = .ok (.aaload, 1) := by decide +kernel
theorem dX5_through_58 : decode cX5_through 58 = .ok (.iload_n 3, 1) := by decide +kernel
theorem dX5_through_59 : decode cX5_through 59 = .ok (.iaload, 1) := by decide +kernel
theorem dX5_through_60 : decode cX5_through 60 = .ok (.aload_n 0, 1) := by decide +kernel
theorem dX5_through_61 : decode cX5_through 61 = .ok (.getfield 20, 3) := by decide +kernel
theorem dX5_through_64 : decode cX5_through 64 = .ok (.iload_n 1, 1) := by decide +kernel
theorem dX5_through_65 : decode cX5_through 65 = .ok (.iconst 1, 1) := by decide +kernel
theorem dX5_through_66 : decode cX5_through 66 = .ok (.iadd, 1) := by decide +kernel
theorem dX5_through_67 : decode cX5_through 67 = .ok (.aaload, 1) := by decide +kernel
theorem dX5_through_68 : decode cX5_through 68 = .ok (.iload_n 2, 1) := by decide +kernel
theorem dX5_through_69 : decode cX5_through 69 = .ok (.iconst 1, 1) := by decide +kernel
theorem dX5_through_70 : decode cX5_through 70 = .ok (.iload_n 3, 1) := by decide +kernel
theorem dX5_through_71 : decode cX5_through 71 = .ok (.ishl, 1) := by decide +kernel
theorem dX5_through_72 : decode cX5_through 72 = .ok (.ior, 1) := by decide +kernel
theorem dX5_through_73 : decode cX5_through 73 = .ok (.iaload, 1) := by decide +kernel
theorem dX5_through_74 : decode cX5_through 74 = .ok (.iadd, 1) := by decide +kernel
theorem dX5_through_75 : decode cX5_through 75 = .ok (.ireturn, 1) := by decide +kernel
theorem dX6_init_0 : decode cX6_init 0 = .ok (.aload_n 0, 1) := by decide +kernel
theorem dX6_init_1 : decode cX6_init 1 = .ok (.invokespecial 3, 3) := by decide +kernel
theorem dX6_init_4 : decode cX6_init 4 = .ok (.aload_n 0, 1) := by decide +kernel
theorem dX6_init_5 : decode cX6_init 5 = .ok (.bipush 8, 2) := by decide +kernel
theorem dX6_init_7 : decode cX6_init 7 = .ok (.newarray .int, 2) := by decide +kernel
theorem dX6_init_9 : decode cX6_init 9 = .ok (.putfield 9, 3) := by decide +kernel
theorem dX6_init_12 : decode cX6_init 12 = .ok (.aload_n 0, 1) := by decide +kernel
theorem dX6_init_13 : decode cX6_init 13 = .ok (.bipush 8, 2) := by decide +kernel
theorem dX6_init_15 : decode cX6_init 15 = .ok (.newarray .int, 2) := by decide +kernel
theorem dX6_init_17 : decode cX6_init 17 = .ok (.putfield 15, 3) := by decide +kernel
theorem dX6_init_20 : decode cX6_init 20 = .ok (.aload_n 0, 1) := by decide +kernel
theorem dX6_init_21 : decode cX6_init 21 = .ok (.bipush 8, 2) := by decide +kernel
theorem dX6_init_23 : decode cX6_init 23 = .ok (.newarray .boolean, 2) := by decide +kernel
theorem dX6_init_25 : decode cX6_init 25 = .ok (.putfield 18, 3) := by decide +kernel
theorem dX6_init_28 : decode cX6_init 28 = .ok (.return_, 1) := by decide +kernel
theorem dX6_add_0 : decode cX6_add 0 = .ok (.aload_n 0, 1) := by decide +kernel
theorem dX6_add_1 : decode cX6_add 1 = .ok (.getfield 22, 3) := by decide +kernel
theorem dX6_add_4 : decode cX6_add 4 = .ok (.bipush 8, 2) := by decide +kernel
theorem dX6_add_6 : decode cX6_add 6 = .ok (.if_icmp .lt 5, 3) := by decide +kernel
theorem dX6_add_9 : decode cX6_add 9 = .ok (.iconst 0, 1) := by decide +kernel
theorem dX6_add_10 : decode cX6_add 10 = .ok (.ireturn, 1) := by decide +kernel
theorem dX6_add_11 : decode cX6_add 11 = .ok (.aload_n 0, 1) := by decide +kernel
theorem dX6_add_12 : decode cX6_add 12 = .ok (.getfield 9, 3) := by decide +kernel
theorem dX6_add_15 : decode cX6_add 15 = .ok (.aload_n 0, 1) := by decide +kernel
theorem dX6_add_16 : decode cX6_add 16 = .ok (.getfield 22, 3) := by decide +kernel
theorem dX6_add_19 : decode cX6_add 19 = .ok (.iload_n 1, 1) := by decide +kernel
theorem dX6_add_20 : decode cX6_add 20 = .ok (.iastore, 1) := by decide +kernel
theorem dX6_add_21 : decode cX6_add 21 = .ok (.aload_n 0, 1) := by decide +kernel
theorem dX6_add_22 : decode cX6_add 22 = .ok (.getfield 15, 3) := by decide +kernel
theorem dX6_add_25 : decode cX6_add 25 = .ok (.aload_n 0, 1) := by decide +kernel
theorem dX6_add_26 : decode cX6_add 26 = .ok (.getfield 22, 3) := by decide +kernel
theorem dX6_add_29 : decode cX6_add 29 = .ok (.iload_n 2, 1) := by decide +kernel
theorem dX6_add_30 : decode cX6_add 30 = .ok (.iastore, 1) := by decide +kernel
theorem dX6_add_31 : decode cX6_add 31 = .ok (.aload_n 0, 1) := by decide +kernel
theorem dX6_add_32 : decode cX6_add 32 = .ok (.getfield 18, 3) := by decide +kernel
theorem dX6_add_35 : decode cX6_add 35 = .ok (.aload_n 0, 1) := by decide +kernel
theorem dX6_add_36 : decode cX6_add 36 = .ok (.getfield 22, 3) := by decide +kernel
theorem dX6_add_39 : decode cX6_add 39 = .ok (.iload_n 3, 1) := by decide +kernel
theorem dX6_add_40 : decode cX6_add 40 = .ok (.bastore, 1) := by decide +kernel
theorem dX6_add_41 : decode cX6_add 41 = .ok (.aload_n 0, 1) := by decide +kernel
theorem dX6_add_42 : decode cX6_add 42 = .ok (.dup, 1) := by decide +kernel
theorem dX6_add_43 : decode cX6_add 43 = .ok (.getfield 22, 3) := by decide +kernel
theorem dX6_add_46 : decode cX6_add 46 = .ok (.iconst 1, 1) := by decide +kernel
theorem dX6_add_47 : decode cX6_add 47 = .ok (.iadd, 1) := by decide +kernel
theorem dX6_add_48 : decode cX6_add 48 = .ok (.putfield 22, 3) := by decide +kernel
theorem dX6_add_51 : decode cX6_add 51 = .ok (.iconst 1, 1) := by decide +kernel
theorem dX6_add_52 : decode cX6_add 52 = .ok (.ireturn, 1) := by decide +kernel
theorem dX6_copy_0 : decode cX6_copy 0 = .ok (.aload_n 0, 1) := by decide +kernel
theorem dX6_copy_1 : decode cX6_copy 1 = .ok (.aload_n 1, 1) := by decide +kernel
theorem dX6_copy_2 : decode cX6_copy 2 = .ok (.getfield 22, 3) := by decide +kernel
theorem dX6_copy_5 : decode cX6_copy 5 = .ok (.putfield 22, 3) := by decide +kernel
theorem dX6_copy_8 : decode cX6_copy 8 = .ok (.iconst 0, 1) := by decide +kernel
theorem dX6_copy_9 : decode cX6_copy 9 = .ok (.istore_n 2, 1) := by decide +kernel
theorem dX6_copy_10 : decode cX6_copy 10 = .ok (.iload_n 2, 1) := by decide +kernel
theorem dX6_copy_11 : decode cX6_copy 11 = .ok (.aload_n 0, 1) := by decide +kernel
theorem dX6_copy_12 : decode cX6_copy 12 = .ok (.getfield 22, 3) := by decide +kernel
theorem dX6_copy_15 : decode cX6_copy 15 = .ok (.if_icmp .ge 45, 3) := by decide +kernel
theorem dX6_copy_18 : decode cX6_copy 18 = .ok (.aload_n 0, 1) := by decide +kernel
theorem dX6_copy_19 : decode cX6_copy 19 = .ok (.getfield 9, 3) := by decide +kernel
theorem dX6_copy_22 : decode cX6_copy 22 = .ok (.iload_n 2, 1) := by decide +kernel
theorem dX6_copy_23 : decode cX6_copy 23 = .ok (.aload_n 1, 1) := by decide +kernel
theorem dX6_copy_24 : decode cX6_copy 24 = .ok (.getfield 9, 3) := by decide +kernel
theorem dX6_copy_27 : decode cX6_copy 27 = .ok (.iload_n 2, 1) := by decide +kernel
theorem dX6_copy_28 : decode cX6_copy 28 = .ok (.iaload, 1) := by decide +kernel
theorem dX6_copy_29 : decode cX6_copy 29 = .ok (.iastore, 1) := by decide +kernel
theorem dX6_copy_30 : decode cX6_copy 30 = .ok (.aload_n 0, 1) := by decide +kernel
theorem dX6_copy_31 : decode cX6_copy 31 = .ok (.getfield 15, 3) := by decide +kernel
theorem dX6_copy_34 : decode cX6_copy 34 = .ok (.iload_n 2, 1) := by decide +kernel
theorem dX6_copy_35 : decode cX6_copy 35 = .ok (.aload_n 1, 1) := by decide +kernel
theorem dX6_copy_36 : decode cX6_copy 36 = .ok (.getfield 15, 3) := by decide +kernel
theorem dX6_copy_39 : decode cX6_copy 39 = .ok (.iload_n 2, 1) := by decide +kernel
theorem dX6_copy_40 : decode cX6_copy 40 = .ok (.iaload, 1) := by decide +kernel
theorem dX6_copy_41 : decode cX6_copy 41 = .ok (.iastore, 1) := by decide +kernel
theorem dX6_copy_42 : decode cX6_copy 42 = .ok (.aload_n 0, 1) := by decide +kernel
theorem dX6_copy_43 : decode cX6_copy 43 = .ok (.getfield 18, 3) := by decide +kernel
theorem dX6_copy_46 : decode cX6_copy 46 = .ok (.iload_n 2, 1) := by decide +kernel
theorem dX6_copy_47 : decode cX6_copy 47 = .ok (.aload_n 1, 1) := by decide +kernel
theorem dX6_copy_48 : decode cX6_copy 48 = .ok (.getfield 18, 3) := by decide +kernel
theorem dX6_copy_51 : decode cX6_copy 51 = .ok (.iload_n 2, 1) := by decide +kernel
theorem dX6_copy_52 : decode cX6_copy 52 = .ok (.baload, 1) := by decide +kernel
theorem dX6_copy_53 : decode cX6_copy 53 = .ok (.bastore, 1) := by decide +kernel
theorem dX6_copy_54 : decode cX6_copy 54 = .ok (.iinc 2 1, 3) := by decide +kernel
theorem dX6_copy_57 : decode cX6_copy 57 = .ok (.goto (-47), 3) := by decide +kernel
theorem dX6_copy_60 : decode cX6_copy 60 = .ok (.return_, 1) := by decide +kernel
theorem dX6_possible_0 : decode cX6_possible 0 = .ok (.iconst 0, 1) := by decide +kernel
theorem dX6_possible_1 : decode cX6_possible 1 = .ok (.istore_n 2, 1) := by decide +kernel
theorem dX6_possible_2 : decode cX6_possible 2 = .ok (.iconst 0, 1) := by decide +kernel
theorem dX6_possible_3 : decode cX6_possible 3 = .ok (.istore_n 3, 1) := by decide +kernel
theorem dX6_possible_4 : decode cX6_possible 4 = .ok (.iload_n 3, 1) := by decide +kernel
theorem dX6_possible_5 : decode cX6_possible 5 = .ok (.bipush 9, 2) := by decide +kernel
theorem dX6_possible_7 : decode cX6_possible 7 = .ok (.if_icmp .gt 82, 3) := by decide +kernel
theorem dX6_possible_10 : decode cX6_possible 10 = .ok (.iconst 1, 1) := by decide +kernel
theorem dX6_possible_11 : decode cX6_possible 11 = .ok (.istore 4, 2) := by decide +kernel
theorem dX6_possible_13 : decode cX6_possible 13 = .ok (.iconst 0, 1) := by decide +kernel
theorem dX6_possible_14 : decode cX6_possible 14 = .ok (.istore 5, 2) := by decide +kernel
theorem dX6_possible_16 : decode cX6_possible 16 = .ok (.iload 5, 2) := by decide +kernel
theorem dX6_possible_18 : decode cX6_possible 18 = .ok (.aload_n 0, 1) := by decide +kernel
theorem dX6_possible_19 : decode cX6_possible 19 = .ok (.getfield 22, 3) := by decide +kernel
theorem dX6_possible_22 : decode cX6_possible 22 = .ok (.if_icmp .ge 50, 3) := by decide +kernel
theorem dX6_possible_25 : decode cX6_possible 25 = .ok (.iload 4, 2) := by decide +kernel
theorem dX6_possible_27 : decode cX6_possible 27 = .ok (.ifCond .eq 45, 3) := by decide +kernel
theorem dX6_possible_30 : decode cX6_possible 30 = .ok (.aload_n 1, 1) := by decide +kernel
theorem dX6_possible_31 : decode cX6_possible 31 = .ok (.iload_n 3, 1) := by decide +kernel
theorem dX6_possible_32 : decode cX6_possible 32 = .ok (.aload_n 0, 1) := by decide +kernel
theorem dX6_possible_33 : decode cX6_possible 33 = .ok (.getfield 9, 3) := by decide +kernel
theorem dX6_possible_36 : decode cX6_possible 36 = .ok (.iload 5, 2) := by decide +kernel
theorem dX6_possible_38 : decode cX6_possible 38 = .ok (.iaload, 1) := by decide +kernel
theorem dX6_possible_39 : decode cX6_possible 39 = .ok (.aload_n 0, 1) := by decide +kernel
theorem dX6_possible_40 : decode cX6_possible 40 = .ok (.getfield 15, 3) := by decide +kernel
theorem dX6_possible_43 : decode cX6_possible 43 = .ok (.iload 5, 2) := by decide +kernel
theorem dX6_possible_45 : decode cX6_possible 45 = .ok (.iaload, 1) := by decide +kernel
theorem dX6_possible_46 : decode cX6_possible 46 = .ok (.invokevirtual 26, 3) := by decide +kernel
theorem dX6_possible_49 : decode cX6_possible 49 = .ok (.aload_n 0, 1) := by decide +kernel
theorem dX6_possible_50 : decode cX6_possible 50 = .ok (.getfield 18, 3) := by decide +kernel
theorem dX6_possible_53 : decode cX6_possible 53 = .ok (.iload 5, 2) := by decide +kernel
theorem dX6_possible_55 : decode cX6_possible 55 = .ok (.baload, 1) := by decide +kernel
theorem dX6_possible_56 : decode cX6_possible 56 = .ok (.if_icmp .ne 7, 3) := by decide +kernel
theorem dX6_possible_59 : decode cX6_possible 59 = .ok (.iconst 1, 1) := by decide +kernel
theorem dX6_possible_60 : decode cX6_possible 60 = .ok (.goto 4, 3) := by decide +kernel
theorem dX6_possible_63 : decode cX6_possible 63 = .ok (.iconst 0, 1) := by decide +kernel
theorem dX6_possible_64 : decode cX6_possible 64 = .ok (.istore 4, 2) := by decide +kernel
theorem dX6_possible_66 : decode cX6_possible 66 = .ok (.iinc 5 1, 3) := by decide +kernel
theorem dX6_possible_69 : decode cX6_possible 69 = .ok (.goto (-53), 3) := by decide +kernel
theorem dX6_possible_72 : decode cX6_possible 72 = .ok (.iload 4, 2) := by decide +kernel
theorem dX6_possible_74 : decode cX6_possible 74 = .ok (.ifCond .eq 9, 3) := by decide +kernel
theorem dX6_possible_77 : decode cX6_possible 77 = .ok (.iload_n 2, 1) := by decide +kernel
theorem dX6_possible_78 : decode cX6_possible 78 = .ok (.iconst 1, 1) := by decide +kernel
theorem dX6_possible_79 : decode cX6_possible 79 = .ok (.iload_n 3, 1) := by decide +kernel
theorem dX6_possible_80 : decode cX6_possible 80 = .ok (.ishl, 1) := by decide +kernel
theorem dX6_possible_81 : decode cX6_possible 81 = .ok (.ior, 1) := by decide +kernel
theorem dX6_possible_82 : decode cX6_possible 82 = .ok (.istore_n 2, 1) := by decide +kernel
theorem dX6_possible_83 : decode cX6_possible 83 = .ok (.iinc 3 1, 3) := by decide +kernel
theorem dX6_possible_86 : decode cX6_possible 86 = .ok (.goto (-82), 3) := by decide +kernel
theorem dX6_possible_89 : decode cX6_possible 89 = .ok (.iload_n 2, 1) := by decide +kernel
theorem dX6_possible_90 : decode cX6_possible 90 = .ok (.ireturn, 1) := by decide +kernel
theorem dX7_init_0 : decode cX7_init 0 = .ok (.aload_n 0, 1) := by decide +kernel
theorem dX7_init_1 : decode cX7_init 1 = .ok (.invokespecial 3, 3) := by decide +kernel
theorem dX7_init_4 : decode cX7_init 4 = .ok (.aload_n 0, 1) := by decide +kernel
theorem dX7_init_5 : decode cX7_init 5 = .ok (.bipush 6, 2) := by decide +kernel
theorem dX7_init_7 : decode cX7_init 7 = .ok (.newarray .int, 2) := by decide +kernel
theorem dX7_init_9 : decode cX7_init 9 = .ok (.dup, 1) := by decide +kernel
theorem dX7_init_10 : decode cX7_init 10 = .ok (.iconst 0, 1) := by decide +kernel
theorem dX7_init_11 : decode cX7_init 11 = .ok (.iconst (-1), 1) := by decide +kernel
theorem dX7_init_12 : decode cX7_init 12 = .ok (.iastore, 1) := by decide +kernel
theorem dX7_init_13 : decode cX7_init 13 = .ok (.dup, 1) := by decide +kernel
theorem dX7_init_14 : decode cX7_init 14 = .ok (.iconst 1, 1) := by decide +kernel
theorem dX7_init_15 : decode cX7_init 15 = .ok (.iconst (-1), 1) := by decide +kernel
theorem dX7_init_16 : decode cX7_init 16 = .ok (.iastore, 1) := by decide +kernel
theorem dX7_init_17 : decode cX7_init 17 = .ok (.dup, 1) := by decide +kernel
theorem dX7_init_18 : decode cX7_init 18 = .ok (.iconst 2, 1) := by decide +kernel
theorem dX7_init_19 : decode cX7_init 19 = .ok (.iconst (-1), 1) := by decide +kernel
theorem dX7_init_20 : decode cX7_init 20 = .ok (.iastore, 1) := by decide +kernel
theorem dX7_init_21 : decode cX7_init 21 = .ok (.dup, 1) := by decide +kernel
theorem dX7_init_22 : decode cX7_init 22 = .ok (.iconst 3, 1) := by decide +kernel
theorem dX7_init_23 : decode cX7_init 23 = .ok (.iconst (-1), 1) := by decide +kernel
theorem dX7_init_24 : decode cX7_init 24 = .ok (.iastore, 1) := by decide +kernel
theorem dX7_init_25 : decode cX7_init 25 = .ok (.dup, 1) := by decide +kernel
theorem dX7_init_26 : decode cX7_init 26 = .ok (.iconst 4, 1) := by decide +kernel
theorem dX7_init_27 : decode cX7_init 27 = .ok (.iconst (-1), 1) := by decide +kernel
theorem dX7_init_28 : decode cX7_init 28 = .ok (.iastore, 1) := by decide +kernel
theorem dX7_init_29 : decode cX7_init 29 = .ok (.dup, 1) := by decide +kernel
theorem dX7_init_30 : decode cX7_init 30 = .ok (.iconst 5, 1) := by decide +kernel
theorem dX7_init_31 : decode cX7_init 31 = .ok (.iconst (-1), 1) := by decide +kernel
theorem dX7_init_32 : decode cX7_init 32 = .ok (.iastore, 1) := by decide +kernel
theorem dX7_init_33 : decode cX7_init 33 = .ok (.putfield 9, 3) := by decide +kernel
theorem dX7_init_36 : decode cX7_init 36 = .ok (.aload_n 0, 1) := by decide +kernel
theorem dX7_init_37 : decode cX7_init 37 = .ok (.bipush 6, 2) := by decide +kernel
theorem dX7_init_39 : decode cX7_init 39 = .ok (.newarray .int, 2) := by decide +kernel
theorem dX7_init_41 : decode cX7_init 41 = .ok (.putfield 15, 3) := by decide +kernel
theorem dX7_init_44 : decode cX7_init 44 = .ok (.return_, 1) := by decide +kernel
theorem dX7_clear_0 : decode cX7_clear 0 = .ok (.aload_n 0, 1) := by decide +kernel
theorem dX7_clear_1 : decode cX7_clear 1 = .ok (.iconst 0, 1) := by decide +kernel
theorem dX7_clear_2 : decode cX7_clear 2 = .ok (.putfield 18, 3) := by decide +kernel
theorem dX7_clear_5 : decode cX7_clear 5 = .ok (.iconst 0, 1) := by decide +kernel
theorem dX7_clear_6 : decode cX7_clear 6 = .ok (.istore_n 1, 1) := by decide +kernel
theorem dX7_clear_7 : decode cX7_clear 7 = .ok (.iload_n 1, 1) := by decide +kernel
theorem dX7_clear_8 : decode cX7_clear 8 = .ok (.bipush 6, 2) := by decide +kernel
theorem dX7_clear_10 : decode cX7_clear 10 = .ok (.if_icmp .ge 23, 3) := by decide +kernel
theorem dX7_clear_13 : decode cX7_clear 13 = .ok (.aload_n 0, 1) := by decide +kernel
theorem dX7_clear_14 : decode cX7_clear 14 = .ok (.getfield 9, 3) := by decide +kernel
theorem dX7_clear_17 : decode cX7_clear 17 = .ok (.iload_n 1, 1) := by decide +kernel
theorem dX7_clear_18 : decode cX7_clear 18 = .ok (.iconst (-1), 1) := by decide +kernel
theorem dX7_clear_19 : decode cX7_clear 19 = .ok (.iastore, 1) := by decide +kernel
theorem dX7_clear_20 : decode cX7_clear 20 = .ok (.aload_n 0, 1) := by decide +kernel
theorem dX7_clear_21 : decode cX7_clear 21 = .ok (.getfield 15, 3) := by decide +kernel
theorem dX7_clear_24 : decode cX7_clear 24 = .ok (.iload_n 1, 1) := by decide +kernel
theorem dX7_clear_25 : decode cX7_clear 25 = .ok (.iconst 0, 1) := by decide +kernel
theorem dX7_clear_26 : decode cX7_clear 26 = .ok (.iastore, 1) := by decide +kernel
theorem dX7_clear_27 : decode cX7_clear 27 = .ok (.iinc 1 1, 3) := by decide +kernel
theorem dX7_clear_30 : decode cX7_clear 30 = .ok (.goto (-23), 3) := by decide +kernel
theorem dX7_clear_33 : decode cX7_clear 33 = .ok (.return_, 1) := by decide +kernel
theorem dX7_copy_0 : decode cX7_copy 0 = .ok (.aload_n 0, 1) := by decide +kernel
theorem dX7_copy_1 : decode cX7_copy 1 = .ok (.aload_n 1, 1) := by decide +kernel
theorem dX7_copy_2 : decode cX7_copy 2 = .ok (.getfield 18, 3) := by decide +kernel
theorem dX7_copy_5 : decode cX7_copy 5 = .ok (.putfield 18, 3) := by decide +kernel
theorem dX7_copy_8 : decode cX7_copy 8 = .ok (.iconst 0, 1) := by decide +kernel
theorem dX7_copy_9 : decode cX7_copy 9 = .ok (.istore_n 2, 1) := by decide +kernel
theorem dX7_copy_10 : decode cX7_copy 10 = .ok (.iload_n 2, 1) := by decide +kernel
theorem dX7_copy_11 : decode cX7_copy 11 = .ok (.bipush 6, 2) := by decide +kernel
theorem dX7_copy_13 : decode cX7_copy 13 = .ok (.if_icmp .ge 33, 3) := by decide +kernel
theorem dX7_copy_16 : decode cX7_copy 16 = .ok (.aload_n 0, 1) := by decide +kernel
theorem dX7_copy_17 : decode cX7_copy 17 = .ok (.getfield 9, 3) := by decide +kernel
theorem dX7_copy_20 : decode cX7_copy 20 = .ok (.iload_n 2, 1) := by decide +kernel
theorem dX7_copy_21 : decode cX7_copy 21 = .ok (.aload_n 1, 1) := by decide +kernel
theorem dX7_copy_22 : decode cX7_copy 22 = .ok (.getfield 9, 3) := by decide +kernel
theorem dX7_copy_25 : decode cX7_copy 25 = .ok (.iload_n 2, 1) := by decide +kernel
theorem dX7_copy_26 : decode cX7_copy 26 = .ok (.iaload, 1) := by decide +kernel
theorem dX7_copy_27 : decode cX7_copy 27 = .ok (.iastore, 1) := by decide +kernel
theorem dX7_copy_28 : decode cX7_copy 28 = .ok (.aload_n 0, 1) := by decide +kernel
theorem dX7_copy_29 : decode cX7_copy 29 = .ok (.getfield 15, 3) := by decide +kernel
theorem dX7_copy_32 : decode cX7_copy 32 = .ok (.iload_n 2, 1) := by decide +kernel
theorem dX7_copy_33 : decode cX7_copy 33 = .ok (.aload_n 1, 1) := by decide +kernel
theorem dX7_copy_34 : decode cX7_copy 34 = .ok (.getfield 15, 3) := by decide +kernel
theorem dX7_copy_37 : decode cX7_copy 37 = .ok (.iload_n 2, 1) := by decide +kernel
theorem dX7_copy_38 : decode cX7_copy 38 = .ok (.iaload, 1) := by decide +kernel
theorem dX7_copy_39 : decode cX7_copy 39 = .ok (.iastore, 1) := by decide +kernel
theorem dX7_copy_40 : decode cX7_copy 40 = .ok (.iinc 2 1, 3) := by decide +kernel
theorem dX7_copy_43 : decode cX7_copy 43 = .ok (.goto (-33), 3) := by decide +kernel
theorem dX7_copy_46 : decode cX7_copy 46 = .ok (.return_, 1) := by decide +kernel
theorem dX7_headUnder_0 : decode cX7_headUnder 0 = .ok (.iload_n 1, 1) := by decide +kernel
theorem dX7_headUnder_1 : decode cX7_headUnder 1 = .ok (.ifCond .lt 18, 3) := by decide +kernel
theorem dX7_headUnder_4 : decode cX7_headUnder 4 = .ok (.iload_n 1, 1) := by decide +kernel
theorem dX7_headUnder_5 : decode cX7_headUnder 5 = .ok (.bipush 6, 2) := by decide +kernel
theorem dX7_headUnder_7 : decode cX7_headUnder 7 = .ok (.if_icmp .ge 12, 3) := by decide +kernel
theorem dX7_headUnder_10 : decode cX7_headUnder 10 = .ok (.aload_n 0, 1) := by decide +kernel
theorem dX7_headUnder_11 : decode cX7_headUnder 11 = .ok (.getfield 9, 3) := by decide +kernel
theorem dX7_headUnder_14 : decode cX7_headUnder 14 = .ok (.iload_n 1, 1) := by decide +kernel
theorem dX7_headUnder_15 : decode cX7_headUnder 15 = .ok (.iaload, 1) := by decide +kernel
theorem dX7_headUnder_16 : decode cX7_headUnder 16 = .ok (.goto 4, 3) := by decide +kernel
theorem dX7_headUnder_19 : decode cX7_headUnder 19 = .ok (.iconst (-1), 1) := by decide +kernel
theorem dX7_headUnder_20 : decode cX7_headUnder 20 = .ok (.ireturn, 1) := by decide +kernel
theorem dX7_wearOf_0 : decode cX7_wearOf 0 = .ok (.iload_n 1, 1) := by decide +kernel
theorem dX7_wearOf_1 : decode cX7_wearOf 1 = .ok (.ifCond .lt 18, 3) := by decide +kernel
theorem dX7_wearOf_4 : decode cX7_wearOf 4 = .ok (.iload_n 1, 1) := by decide +kernel
theorem dX7_wearOf_5 : decode cX7_wearOf 5 = .ok (.bipush 6, 2) := by decide +kernel
theorem dX7_wearOf_7 : decode cX7_wearOf 7 = .ok (.if_icmp .ge 12, 3) := by decide +kernel
theorem dX7_wearOf_10 : decode cX7_wearOf 10 = .ok (.aload_n 0, 1) := by decide +kernel
theorem dX7_wearOf_11 : decode cX7_wearOf 11 = .ok (.getfield 15, 3) := by decide +kernel
theorem dX7_wearOf_14 : decode cX7_wearOf 14 = .ok (.iload_n 1, 1) := by decide +kernel
theorem dX7_wearOf_15 : decode cX7_wearOf 15 = .ok (.iaload, 1) := by decide +kernel
theorem dX7_wearOf_16 : decode cX7_wearOf 16 = .ok (.goto 4, 3) := by decide +kernel
theorem dX7_wearOf_19 : decode cX7_wearOf 19 = .ok (.iconst 0, 1) := by decide +kernel
theorem dX7_wearOf_20 : decode cX7_wearOf 20 = .ok (.ireturn, 1) := by decide +kernel
theorem dX7_wigUpon_0 : decode cX7_wigUpon 0 = .ok (.iconst 0, 1) := by decide +kernel
theorem dX7_wigUpon_1 : decode cX7_wigUpon 1 = .ok (.istore_n 2, 1) := by decide +kernel
theorem dX7_wigUpon_2 : decode cX7_wigUpon 2 = .ok (.iload_n 2, 1) := by decide +kernel
theorem dX7_wigUpon_3 : decode cX7_wigUpon 3 = .ok (.bipush 6, 2) := by decide +kernel
theorem dX7_wigUpon_5 : decode cX7_wigUpon 5 = .ok (.if_icmp .ge 26, 3) := by decide +kernel
theorem dX7_wigUpon_8 : decode cX7_wigUpon 8 = .ok (.iload_n 1, 1) := by decide +kernel
theorem dX7_wigUpon_9 : decode cX7_wigUpon 9 = .ok (.iconst (-1), 1) := by decide +kernel
theorem dX7_wigUpon_10 : decode cX7_wigUpon 10 = .ok (.if_icmp .eq 15, 3) := by decide +kernel
theorem dX7_wigUpon_13 : decode cX7_wigUpon 13 = .ok (.aload_n 0, 1) := by decide +kernel
theorem dX7_wigUpon_14 : decode cX7_wigUpon 14 = .ok (.getfield 9, 3) := by decide +kernel
theorem dX7_wigUpon_17 : decode cX7_wigUpon 17 = .ok (.iload_n 2, 1) := by decide +kernel
theorem dX7_wigUpon_18 : decode cX7_wigUpon 18 = .ok (.iaload, 1) := by decide +kernel
theorem dX7_wigUpon_19 : decode cX7_wigUpon 19 = .ok (.iload_n 1, 1) := by decide +kernel
theorem dX7_wigUpon_20 : decode cX7_wigUpon 20 = .ok (.if_icmp .ne 5, 3) := by decide +kernel
theorem dX7_wigUpon_23 : decode cX7_wigUpon 23 = .ok (.iload_n 2, 1) := by decide +kernel
theorem dX7_wigUpon_24 : decode cX7_wigUpon 24 = .ok (.ireturn, 1) := by decide +kernel
theorem dX7_wigUpon_25 : decode cX7_wigUpon 25 = .ok (.iinc 2 1, 3) := by decide +kernel
theorem dX7_wigUpon_28 : decode cX7_wigUpon 28 = .ok (.goto (-26), 3) := by decide +kernel
theorem dX7_wigUpon_31 : decode cX7_wigUpon 31 = .ok (.iconst (-1), 1) := by decide +kernel
theorem dX7_wigUpon_32 : decode cX7_wigUpon 32 = .ok (.ireturn, 1) := by decide +kernel
theorem dX7_canPut_0 : decode cX7_canPut 0 = .ok (.aload_n 1, 1) := by decide +kernel
theorem dX7_canPut_1 : decode cX7_canPut 1 = .ok (.iload_n 2, 1) := by decide +kernel
theorem dX7_canPut_2 : decode cX7_canPut 2 = .ok (.invokevirtual 22, 3) := by decide +kernel
theorem dX7_canPut_5 : decode cX7_canPut 5 = .ok (.ifCond .eq 58, 3) := by decide +kernel
theorem dX7_canPut_8 : decode cX7_canPut 8 = .ok (.aload_n 1, 1) := by decide +kernel
theorem dX7_canPut_9 : decode cX7_canPut 9 = .ok (.iload_n 3, 1) := by decide +kernel
theorem dX7_canPut_10 : decode cX7_canPut 10 = .ok (.invokevirtual 28, 3) := by decide +kernel
theorem dX7_canPut_13 : decode cX7_canPut 13 = .ok (.ifCond .eq 50, 3) := by decide +kernel
theorem dX7_canPut_16 : decode cX7_canPut 16 = .ok (.aload_n 0, 1) := by decide +kernel
theorem dX7_canPut_17 : decode cX7_canPut 17 = .ok (.getfield 9, 3) := by decide +kernel
theorem dX7_canPut_20 : decode cX7_canPut 20 = .ok (.iload_n 2, 1) := by decide +kernel
theorem dX7_canPut_21 : decode cX7_canPut 21 = .ok (.iaload, 1) := by decide +kernel
theorem dX7_canPut_22 : decode cX7_canPut 22 = .ok (.iconst (-1), 1) := by decide +kernel
theorem dX7_canPut_23 : decode cX7_canPut 23 = .ok (.if_icmp .ne 40, 3) := by decide +kernel
theorem dX7_canPut_26 : decode cX7_canPut 26 = .ok (.aload_n 0, 1) := by decide +kernel
theorem dX7_canPut_27 : decode cX7_canPut 27 = .ok (.getfield 15, 3) := by decide +kernel
theorem dX7_canPut_30 : decode cX7_canPut 30 = .ok (.iload_n 2, 1) := by decide +kernel
theorem dX7_canPut_31 : decode cX7_canPut 31 = .ok (.iaload, 1) := by decide +kernel
theorem dX7_canPut_32 : decode cX7_canPut 32 = .ok (.bipush 9, 2) := by decide +kernel
theorem dX7_canPut_34 : decode cX7_canPut 34 = .ok (.if_icmp .ge 29, 3) := by decide +kernel
theorem dX7_canPut_37 : decode cX7_canPut 37 = .ok (.aload_n 0, 1) := by decide +kernel
theorem dX7_canPut_38 : decode cX7_canPut 38 = .ok (.iload_n 3, 1) := by decide +kernel
theorem dX7_canPut_39 : decode cX7_canPut 39 = .ok (.invokevirtual 31, 3) := by decide +kernel
theorem dX7_canPut_42 : decode cX7_canPut 42 = .ok (.iconst (-1), 1) := by decide +kernel
theorem dX7_canPut_43 : decode cX7_canPut 43 = .ok (.if_icmp .ne 20, 3) := by decide +kernel
theorem dX7_canPut_46 : decode cX7_canPut 46 = .ok (.aload_n 1, 1) := by decide +kernel
theorem dX7_canPut_47 : decode cX7_canPut 47 = .ok (.iload_n 2, 1) := by decide +kernel
theorem dX7_canPut_48 : decode cX7_canPut 48 = .ok (.iload_n 3, 1) := by decide +kernel
theorem dX7_canPut_49 : decode cX7_canPut 49 = .ok (.aload_n 0, 1) := by decide +kernel
theorem dX7_canPut_50 : decode cX7_canPut 50 = .ok (.getfield 18, 3) := by decide +kernel
theorem dX7_canPut_53 : decode cX7_canPut 53 = .ok (.invokevirtual 35, 3) := by decide +kernel
theorem dX7_canPut_56 : decode cX7_canPut 56 = .ok (.ifCond .eq 7, 3) := by decide +kernel
theorem dX7_canPut_59 : decode cX7_canPut 59 = .ok (.iconst 1, 1) := by decide +kernel
theorem dX7_canPut_60 : decode cX7_canPut 60 = .ok (.goto 4, 3) := by decide +kernel
theorem dX7_canPut_63 : decode cX7_canPut 63 = .ok (.iconst 0, 1) := by decide +kernel
theorem dX7_canPut_64 : decode cX7_canPut 64 = .ok (.ireturn, 1) := by decide +kernel
theorem dX7_canTakeOff_0 : decode cX7_canTakeOff 0 = .ok (.aload_n 1, 1) := by decide +kernel
theorem dX7_canTakeOff_1 : decode cX7_canTakeOff 1 = .ok (.iload_n 2, 1) := by decide +kernel
theorem dX7_canTakeOff_2 : decode cX7_canTakeOff 2 = .ok (.invokevirtual 22, 3) := by decide +kernel
theorem dX7_canTakeOff_5 : decode cX7_canTakeOff 5 = .ok (.ifCond .eq 17, 3) := by decide +kernel
theorem dX7_canTakeOff_8 : decode cX7_canTakeOff 8 = .ok (.aload_n 0, 1) := by decide +kernel
theorem dX7_canTakeOff_9 : decode cX7_canTakeOff 9 = .ok (.getfield 9, 3) := by decide +kernel
theorem dX7_canTakeOff_12 : decode cX7_canTakeOff 12 = .ok (.iload_n 2, 1) := by decide +kernel
theorem dX7_canTakeOff_13 : decode cX7_canTakeOff 13 = .ok (.iaload, 1) := by decide +kernel
theorem dX7_canTakeOff_14 : decode cX7_canTakeOff 14 = .ok (.iconst (-1), 1) := by decide +kernel
theorem dX7_canTakeOff_15 : decode cX7_canTakeOff 15 = .ok (.if_icmp .eq 7, 3) := by decide +kernel
theorem dX7_canTakeOff_18 : decode cX7_canTakeOff 18 = .ok (.iconst 1, 1) := by decide +kernel
theorem dX7_canTakeOff_19 : decode cX7_canTakeOff 19 = .ok (.goto 4, 3) := by decide +kernel
theorem dX7_canTakeOff_22 : decode cX7_canTakeOff 22 = .ok (.iconst 0, 1) := by decide +kernel
theorem dX7_canTakeOff_23 : decode cX7_canTakeOff 23 = .ok (.ireturn, 1) := by decide +kernel
theorem dX7_canMend_0 : decode cX7_canMend 0 = .ok (.aload_n 1, 1) := by decide +kernel
theorem dX7_canMend_1 : decode cX7_canMend 1 = .ok (.iload_n 2, 1) := by decide +kernel
theorem dX7_canMend_2 : decode cX7_canMend 2 = .ok (.invokevirtual 22, 3) := by decide +kernel
theorem dX7_canMend_5 : decode cX7_canMend 5 = .ok (.ifCond .eq 17, 3) := by decide +kernel
theorem dX7_canMend_8 : decode cX7_canMend 8 = .ok (.aload_n 0, 1) := by decide +kernel
theorem dX7_canMend_9 : decode cX7_canMend 9 = .ok (.getfield 9, 3) := by decide +kernel
theorem dX7_canMend_12 : decode cX7_canMend 12 = .ok (.iload_n 2, 1) := by decide +kernel
theorem dX7_canMend_13 : decode cX7_canMend 13 = .ok (.iaload, 1) := by decide +kernel
theorem dX7_canMend_14 : decode cX7_canMend 14 = .ok (.iconst (-1), 1) := by decide +kernel
theorem dX7_canMend_15 : decode cX7_canMend 15 = .ok (.if_icmp .ne 7, 3) := by decide +kernel
theorem dX7_canMend_18 : decode cX7_canMend 18 = .ok (.iconst 1, 1) := by decide +kernel
theorem dX7_canMend_19 : decode cX7_canMend 19 = .ok (.goto 4, 3) := by decide +kernel
theorem dX7_canMend_22 : decode cX7_canMend 22 = .ok (.iconst 0, 1) := by decide +kernel
theorem dX7_canMend_23 : decode cX7_canMend 23 = .ok (.ireturn, 1) := by decide +kernel
theorem dX7_place_0 : decode cX7_place 0 = .ok (.iload_n 1, 1) := by decide +kernel
theorem dX7_place_1 : decode cX7_place 1 = .ok (.ifCond .lt 16, 3) := by decide +kernel
theorem dX7_place_4 : decode cX7_place 4 = .ok (.iload_n 1, 1) := by decide +kernel
theorem dX7_place_5 : decode cX7_place 5 = .ok (.bipush 6, 2) := by decide +kernel
theorem dX7_place_7 : decode cX7_place 7 = .ok (.if_icmp .ge 10, 3) := by decide +kernel
theorem dX7_place_10 : decode cX7_place 10 = .ok (.aload_n 0, 1) := by decide +kernel
theorem dX7_place_11 : decode cX7_place 11 = .ok (.getfield 9, 3) := by decide +kernel
theorem dX7_place_14 : decode cX7_place 14 = .ok (.iload_n 1, 1) := by decide +kernel
theorem dX7_place_15 : decode cX7_place 15 = .ok (.iload_n 2, 1) := by decide +kernel
theorem dX7_place_16 : decode cX7_place 16 = .ok (.iastore, 1) := by decide +kernel
theorem dX7_place_17 : decode cX7_place 17 = .ok (.return_, 1) := by decide +kernel
theorem dX7_makeNew_0 : decode cX7_makeNew 0 = .ok (.iload_n 1, 1) := by decide +kernel
theorem dX7_makeNew_1 : decode cX7_makeNew 1 = .ok (.ifCond .lt 16, 3) := by decide +kernel
theorem dX7_makeNew_4 : decode cX7_makeNew 4 = .ok (.iload_n 1, 1) := by decide +kernel
theorem dX7_makeNew_5 : decode cX7_makeNew 5 = .ok (.bipush 6, 2) := by decide +kernel
theorem dX7_makeNew_7 : decode cX7_makeNew 7 = .ok (.if_icmp .ge 10, 3) := by decide +kernel
theorem dX7_makeNew_10 : decode cX7_makeNew 10 = .ok (.aload_n 0, 1) := by decide +kernel
theorem dX7_makeNew_11 : decode cX7_makeNew 11 = .ok (.getfield 15, 3) := by decide +kernel
theorem dX7_makeNew_14 : decode cX7_makeNew 14 = .ok (.iload_n 1, 1) := by decide +kernel
theorem dX7_makeNew_15 : decode cX7_makeNew 15 = .ok (.iconst 0, 1) := by decide +kernel
theorem dX7_makeNew_16 : decode cX7_makeNew 16 = .ok (.iastore, 1) := by decide +kernel
theorem dX7_makeNew_17 : decode cX7_makeNew 17 = .ok (.return_, 1) := by decide +kernel
theorem dX7_pass_0 : decode cX7_pass 0 = .ok (.iconst 0, 1) := by decide +kernel
theorem dX7_pass_1 : decode cX7_pass 1 = .ok (.istore_n 2, 1) := by decide +kernel
theorem dX7_pass_2 : decode cX7_pass 2 = .ok (.iload_n 2, 1) := by decide +kernel
theorem dX7_pass_3 : decode cX7_pass 3 = .ok (.aload_n 1, 1) := by decide +kernel
theorem dX7_pass_4 : decode cX7_pass 4 = .ok (.getfield 39, 3) := by decide +kernel
theorem dX7_pass_7 : decode cX7_pass 7 = .ok (.if_icmp .ge 38, 3) := by decide +kernel
theorem dX7_pass_10 : decode cX7_pass 10 = .ok (.aload_n 0, 1) := by decide +kernel
theorem dX7_pass_11 : decode cX7_pass 11 = .ok (.getfield 9, 3) := by decide +kernel
theorem dX7_pass_14 : decode cX7_pass 14 = .ok (.iload_n 2, 1) := by decide +kernel
theorem dX7_pass_15 : decode cX7_pass 15 = .ok (.iaload, 1) := by decide +kernel
theorem dX7_pass_16 : decode cX7_pass 16 = .ok (.iconst (-1), 1) := by decide +kernel
theorem dX7_pass_17 : decode cX7_pass 17 = .ok (.if_icmp .ne 22, 3) := by decide +kernel
theorem dX7_pass_20 : decode cX7_pass 20 = .ok (.aload_n 0, 1) := by decide +kernel
theorem dX7_pass_21 : decode cX7_pass 21 = .ok (.getfield 15, 3) := by decide +kernel
theorem dX7_pass_24 : decode cX7_pass 24 = .ok (.iload_n 2, 1) := by decide +kernel
theorem dX7_pass_25 : decode cX7_pass 25 = .ok (.bipush 9, 2) := by decide +kernel
theorem dX7_pass_27 : decode cX7_pass 27 = .ok (.aload_n 0, 1) := by decide +kernel
theorem dX7_pass_28 : decode cX7_pass 28 = .ok (.getfield 15, 3) := by decide +kernel
theorem dX7_pass_31 : decode cX7_pass 31 = .ok (.iload_n 2, 1) := by decide +kernel
theorem dX7_pass_32 : decode cX7_pass 32 = .ok (.iaload, 1) := by decide +kernel
theorem dX7_pass_33 : decode cX7_pass 33 = .ok (.iconst 1, 1) := by decide +kernel
theorem dX7_pass_34 : decode cX7_pass 34 = .ok (.iadd, 1) := by decide +kernel
theorem dX7_pass_35 : decode cX7_pass 35 = .ok (.invokestatic 42, 3) := by decide +kernel
theorem dX7_pass_38 : decode cX7_pass 38 = .ok (.iastore, 1) := by decide +kernel
theorem dX7_pass_39 : decode cX7_pass 39 = .ok (.iinc 2 1, 3) := by decide +kernel
theorem dX7_pass_42 : decode cX7_pass 42 = .ok (.goto (-40), 3) := by decide +kernel
theorem dX7_pass_45 : decode cX7_pass 45 = .ok (.aload_n 0, 1) := by decide +kernel
theorem dX7_pass_46 : decode cX7_pass 46 = .ok (.dup, 1) := by decide +kernel
theorem dX7_pass_47 : decode cX7_pass 47 = .ok (.getfield 18, 3) := by decide +kernel
theorem dX7_pass_50 : decode cX7_pass 50 = .ok (.iconst 1, 1) := by decide +kernel
theorem dX7_pass_51 : decode cX7_pass 51 = .ok (.iadd, 1) := by decide +kernel
theorem dX7_pass_52 : decode cX7_pass 52 = .ok (.putfield 18, 3) := by decide +kernel
theorem dX7_pass_55 : decode cX7_pass 55 = .ok (.iconst 0, 1) := by decide +kernel
theorem dX7_pass_56 : decode cX7_pass 56 = .ok (.istore_n 2, 1) := by decide +kernel
theorem dX7_pass_57 : decode cX7_pass 57 = .ok (.iconst 0, 1) := by decide +kernel
theorem dX7_pass_58 : decode cX7_pass 58 = .ok (.istore_n 3, 1) := by decide +kernel
theorem dX7_pass_59 : decode cX7_pass 59 = .ok (.iload_n 3, 1) := by decide +kernel
theorem dX7_pass_60 : decode cX7_pass 60 = .ok (.aload_n 1, 1) := by decide +kernel
theorem dX7_pass_61 : decode cX7_pass 61 = .ok (.getfield 39, 3) := by decide +kernel
theorem dX7_pass_64 : decode cX7_pass 64 = .ok (.if_icmp .ge 47, 3) := by decide +kernel
theorem dX7_pass_67 : decode cX7_pass 67 = .ok (.aload_n 0, 1) := by decide +kernel
theorem dX7_pass_68 : decode cX7_pass 68 = .ok (.getfield 9, 3) := by decide +kernel
theorem dX7_pass_71 : decode cX7_pass 71 = .ok (.iload_n 3, 1) := by decide +kernel
theorem dX7_pass_72 : decode cX7_pass 72 = .ok (.iaload, 1) := by decide +kernel
theorem dX7_pass_73 : decode cX7_pass 73 = .ok (.iconst (-1), 1) := by decide +kernel
theorem dX7_pass_74 : decode cX7_pass 74 = .ok (.if_icmp .eq 31, 3) := by decide +kernel
theorem dX7_pass_77 : decode cX7_pass 77 = .ok (.aload_n 1, 1) := by decide +kernel
theorem dX7_pass_78 : decode cX7_pass 78 = .ok (.iload_n 3, 1) := by decide +kernel
theorem dX7_pass_79 : decode cX7_pass 79 = .ok (.aload_n 0, 1) := by decide +kernel
theorem dX7_pass_80 : decode cX7_pass 80 = .ok (.getfield 9, 3) := by decide +kernel
theorem dX7_pass_83 : decode cX7_pass 83 = .ok (.iload_n 3, 1) := by decide +kernel
theorem dX7_pass_84 : decode cX7_pass 84 = .ok (.iaload, 1) := by decide +kernel
theorem dX7_pass_85 : decode cX7_pass 85 = .ok (.aload_n 0, 1) := by decide +kernel
theorem dX7_pass_86 : decode cX7_pass 86 = .ok (.getfield 18, 3) := by decide +kernel
theorem dX7_pass_89 : decode cX7_pass 89 = .ok (.invokevirtual 35, 3) := by decide +kernel
theorem dX7_pass_92 : decode cX7_pass 92 = .ok (.ifCond .ne 13, 3) := by decide +kernel
theorem dX7_pass_95 : decode cX7_pass 95 = .ok (.aload_n 0, 1) := by decide +kernel
theorem dX7_pass_96 : decode cX7_pass 96 = .ok (.getfield 9, 3) := by decide +kernel
theorem dX7_pass_99 : decode cX7_pass 99 = .ok (.iload_n 3, 1) := by decide +kernel
theorem dX7_pass_100 : decode cX7_pass 100 = .ok (.iconst (-1), 1) := by decide +kernel
theorem dX7_pass_101 : decode cX7_pass 101 = .ok (.iastore, 1) := by decide +kernel
theorem dX7_pass_102 : decode cX7_pass 102 = .ok (.iinc 2 1, 3) := by decide +kernel
theorem dX7_pass_105 : decode cX7_pass 105 = .ok (.iinc 3 1, 3) := by decide +kernel
theorem dX7_pass_108 : decode cX7_pass 108 = .ok (.goto (-49), 3) := by decide +kernel
theorem dX7_pass_111 : decode cX7_pass 111 = .ok (.iload_n 2, 1) := by decide +kernel
theorem dX7_pass_112 : decode cX7_pass 112 = .ok (.ireturn, 1) := by decide +kernel
theorem dX7_worn_0 : decode cX7_worn 0 = .ok (.iconst 0, 1) := by decide +kernel
theorem dX7_worn_1 : decode cX7_worn 1 = .ok (.istore_n 2, 1) := by decide +kernel
theorem dX7_worn_2 : decode cX7_worn 2 = .ok (.iconst 0, 1) := by decide +kernel
theorem dX7_worn_3 : decode cX7_worn 3 = .ok (.istore_n 3, 1) := by decide +kernel
theorem dX7_worn_4 : decode cX7_worn 4 = .ok (.iload_n 3, 1) := by decide +kernel
theorem dX7_worn_5 : decode cX7_worn 5 = .ok (.aload_n 1, 1) := by decide +kernel
theorem dX7_worn_6 : decode cX7_worn 6 = .ok (.getfield 39, 3) := by decide +kernel
theorem dX7_worn_9 : decode cX7_worn 9 = .ok (.if_icmp .ge 25, 3) := by decide +kernel
theorem dX7_worn_12 : decode cX7_worn 12 = .ok (.aload_n 0, 1) := by decide +kernel
theorem dX7_worn_13 : decode cX7_worn 13 = .ok (.getfield 9, 3) := by decide +kernel
theorem dX7_worn_16 : decode cX7_worn 16 = .ok (.iload_n 3, 1) := by decide +kernel
theorem dX7_worn_17 : decode cX7_worn 17 = .ok (.iaload, 1) := by decide +kernel
theorem dX7_worn_18 : decode cX7_worn 18 = .ok (.iconst (-1), 1) := by decide +kernel
theorem dX7_worn_19 : decode cX7_worn 19 = .ok (.if_icmp .eq 9, 3) := by decide +kernel
theorem dX7_worn_22 : decode cX7_worn 22 = .ok (.iload_n 2, 1) := by decide +kernel
theorem dX7_worn_23 : decode cX7_worn 23 = .ok (.iconst 1, 1) := by decide +kernel
theorem dX7_worn_24 : decode cX7_worn 24 = .ok (.iload_n 3, 1) := by decide +kernel
theorem dX7_worn_25 : decode cX7_worn 25 = .ok (.ishl, 1) := by decide +kernel
theorem dX7_worn_26 : decode cX7_worn 26 = .ok (.ior, 1) := by decide +kernel
theorem dX7_worn_27 : decode cX7_worn 27 = .ok (.istore_n 2, 1) := by decide +kernel
theorem dX7_worn_28 : decode cX7_worn 28 = .ok (.iinc 3 1, 3) := by decide +kernel
theorem dX7_worn_31 : decode cX7_worn 31 = .ok (.goto (-27), 3) := by decide +kernel
theorem dX7_worn_34 : decode cX7_worn 34 = .ok (.iload_n 2, 1) := by decide +kernel
theorem dX7_worn_35 : decode cX7_worn 35 = .ok (.ireturn, 1) := by decide +kernel
theorem dX7_wornOut_0 : decode cX7_wornOut 0 = .ok (.iconst 0, 1) := by decide +kernel
theorem dX7_wornOut_1 : decode cX7_wornOut 1 = .ok (.istore_n 2, 1) := by decide +kernel
theorem dX7_wornOut_2 : decode cX7_wornOut 2 = .ok (.iconst 0, 1) := by decide +kernel
theorem dX7_wornOut_3 : decode cX7_wornOut 3 = .ok (.istore_n 3, 1) := by decide +kernel
theorem dX7_wornOut_4 : decode cX7_wornOut 4 = .ok (.iload_n 3, 1) := by decide +kernel
theorem dX7_wornOut_5 : decode cX7_wornOut 5 = .ok (.aload_n 1, 1) := by decide +kernel
theorem dX7_wornOut_6 : decode cX7_wornOut 6 = .ok (.getfield 39, 3) := by decide +kernel
theorem dX7_wornOut_9 : decode cX7_wornOut 9 = .ok (.if_icmp .ge 26, 3) := by decide +kernel
theorem dX7_wornOut_12 : decode cX7_wornOut 12 = .ok (.aload_n 0, 1) := by decide +kernel
theorem dX7_wornOut_13 : decode cX7_wornOut 13 = .ok (.getfield 15, 3) := by decide +kernel
theorem dX7_wornOut_16 : decode cX7_wornOut 16 = .ok (.iload_n 3, 1) := by decide +kernel
theorem dX7_wornOut_17 : decode cX7_wornOut 17 = .ok (.iaload, 1) := by decide +kernel
theorem dX7_wornOut_18 : decode cX7_wornOut 18 = .ok (.bipush 9, 2) := by decide +kernel
theorem dX7_wornOut_20 : decode cX7_wornOut 20 = .ok (.if_icmp .lt 9, 3) := by decide +kernel
theorem dX7_wornOut_23 : decode cX7_wornOut 23 = .ok (.iload_n 2, 1) := by decide +kernel
theorem dX7_wornOut_24 : decode cX7_wornOut 24 = .ok (.iconst 1, 1) := by decide +kernel
theorem dX7_wornOut_25 : decode cX7_wornOut 25 = .ok (.iload_n 3, 1) := by decide +kernel
theorem dX7_wornOut_26 : decode cX7_wornOut 26 = .ok (.ishl, 1) := by decide +kernel
theorem dX7_wornOut_27 : decode cX7_wornOut 27 = .ok (.ior, 1) := by decide +kernel
theorem dX7_wornOut_28 : decode cX7_wornOut 28 = .ok (.istore_n 2, 1) := by decide +kernel
theorem dX7_wornOut_29 : decode cX7_wornOut 29 = .ok (.iinc 3 1, 3) := by decide +kernel
theorem dX7_wornOut_32 : decode cX7_wornOut 32 = .ok (.goto (-28), 3) := by decide +kernel
theorem dX7_wornOut_35 : decode cX7_wornOut 35 = .ok (.iload_n 2, 1) := by decide +kernel
theorem dX7_wornOut_36 : decode cX7_wornOut 36 = .ok (.ireturn, 1) := by decide +kernel
theorem dX7_wearOfAll_0 : decode cX7_wearOfAll 0 = .ok (.iconst 0, 1) := by decide +kernel
theorem dX7_wearOfAll_1 : decode cX7_wearOfAll 1 = .ok (.istore_n 2, 1) := by decide +kernel
theorem dX7_wearOfAll_2 : decode cX7_wearOfAll 2 = .ok (.iconst 0, 1) := by decide +kernel
theorem dX7_wearOfAll_3 : decode cX7_wearOfAll 3 = .ok (.istore_n 3, 1) := by decide +kernel
theorem dX7_wearOfAll_4 : decode cX7_wearOfAll 4 = .ok (.iload_n 3, 1) := by decide +kernel
theorem dX7_wearOfAll_5 : decode cX7_wearOfAll 5 = .ok (.aload_n 1, 1) := by decide +kernel
theorem dX7_wearOfAll_6 : decode cX7_wearOfAll 6 = .ok (.getfield 39, 3) := by decide +kernel
theorem dX7_wearOfAll_9 : decode cX7_wearOfAll 9 = .ok (.if_icmp .ge 18, 3) := by decide +kernel
theorem dX7_wearOfAll_12 : decode cX7_wearOfAll 12 = .ok (.iload_n 2, 1) := by decide +kernel
theorem dX7_wearOfAll_13 : decode cX7_wearOfAll 13 = .ok (.aload_n 0, 1) := by decide +kernel
theorem dX7_wearOfAll_14 : decode cX7_wearOfAll 14 = .ok (.getfield 15, 3) := by decide +kernel
theorem dX7_wearOfAll_17 : decode cX7_wearOfAll 17 = .ok (.iload_n 3, 1) := by decide +kernel
theorem dX7_wearOfAll_18 : decode cX7_wearOfAll 18 = .ok (.iaload, 1) := by decide +kernel
theorem dX7_wearOfAll_19 : decode cX7_wearOfAll 19 = .ok (.iadd, 1) := by decide +kernel
theorem dX7_wearOfAll_20 : decode cX7_wearOfAll 20 = .ok (.istore_n 2, 1) := by decide +kernel
theorem dX7_wearOfAll_21 : decode cX7_wearOfAll 21 = .ok (.iinc 3 1, 3) := by decide +kernel
theorem dX7_wearOfAll_24 : decode cX7_wearOfAll 24 = .ok (.goto (-20), 3) := by decide +kernel
theorem dX7_wearOfAll_27 : decode cX7_wearOfAll 27 = .ok (.iload_n 2, 1) := by decide +kernel
theorem dX7_wearOfAll_28 : decode cX7_wearOfAll 28 = .ok (.ireturn, 1) := by decide +kernel
theorem dX8_init_0 : decode cX8_init 0 = .ok (.aload_n 0, 1) := by decide +kernel
