theorem dX0_init_0 : decode cX0_init 0 = .ok (.aload_n 0, 1) := by decide +kernel
theorem dX0_init_1 : decode cX0_init 1 = .ok (.invokespecial 3, 3) := by decide +kernel
theorem dX0_init_4 : decode cX0_init 4 = .ok (.aload_n 0, 1) := by decide +kernel
theorem dX0_init_5 : decode cX0_init 5 = .ok (.bipush 96, 2) := by decide +kernel
theorem dX0_init_7 : decode cX0_init 7 = .ok (.newarray .int, 2) := by decide +kernel
theorem dX0_init_9 : decode cX0_init 9 = .ok (.putfield 9, 3) := by decide +kernel
theorem dX0_init_12 : decode cX0_init 12 = .ok (.aload_n 0, 1) := by decide +kernel
theorem dX0_init_13 : decode cX0_init 13 = .ok (.iconst 0, 1) := by decide +kernel
theorem dX0_init_14 : decode cX0_init 14 = .ok (.putfield 15, 3) := by decide +kernel
theorem dX0_init_17 : decode cX0_init 17 = .ok (.return_, 1) := by decide +kernel
theorem dX0_add_0 : decode cX0_add 0 = .ok (.aload_n 0, 1) := by decide +kernel
theorem dX0_add_1 : decode cX0_add 1 = .ok (.getfield 9, 3) := by decide +kernel
theorem dX0_add_4 : decode cX0_add 4 = .ok (.aload_n 0, 1) := by decide +kernel
theorem dX0_add_5 : decode cX0_add 5 = .ok (.getfield 15, 3) := by decide +kernel
theorem dX0_add_8 : decode cX0_add 8 = .ok (.iload_n 1, 1) := by decide +kernel
theorem dX0_add_9 : decode cX0_add 9 = .ok (.iastore, 1) := by decide +kernel
theorem dX0_add_10 : decode cX0_add 10 = .ok (.aload_n 0, 1) := by decide +kernel
theorem dX0_add_11 : decode cX0_add 11 = .ok (.dup, 1) := by decide +kernel
theorem dX0_add_12 : decode cX0_add 12 = .ok (.getfield 15, 3) := by decide +kernel
theorem dX0_add_15 : decode cX0_add 15 = .ok (.iconst 1, 1) := by decide +kernel
theorem dX0_add_16 : decode cX0_add 16 = .ok (.iadd, 1) := by decide +kernel
theorem dX0_add_17 : decode cX0_add 17 = .ok (.putfield 15, 3) := by decide +kernel
theorem dX0_add_20 : decode cX0_add 20 = .ok (.aload_n 0, 1) := by decide +kernel
theorem dX0_add_21 : decode cX0_add 21 = .ok (.getfield 15, 3) := by decide +kernel
theorem dX0_add_24 : decode cX0_add 24 = .ok (.ireturn, 1) := by decide +kernel
theorem dX0_tellTo_0 : decode cX0_tellTo 0 = .ok (.aload_n 0, 1) := by decide +kernel
theorem dX0_tellTo_1 : decode cX0_tellTo 1 = .ok (.invokevirtual 19, 3) := by decide +kernel
theorem dX0_tellTo_4 : decode cX0_tellTo 4 = .ok (.istore_n 2, 1) := by decide +kernel
theorem dX0_tellTo_5 : decode cX0_tellTo 5 = .ok (.iload_n 2, 1) := by decide +kernel
theorem dX0_tellTo_6 : decode cX0_tellTo 6 = .ok (.bipush (-9), 2) := by decide +kernel
theorem dX0_tellTo_8 : decode cX0_tellTo 8 = .ok (.if_icmp .eq 9, 3) := by decide +kernel
theorem dX0_tellTo_11 : decode cX0_tellTo 11 = .ok (.sipush (-1000), 3) := by decide +kernel
theorem dX0_tellTo_14 : decode cX0_tellTo 14 = .ok (.iload_n 2, 1) := by decide +kernel
theorem dX0_tellTo_15 : decode cX0_tellTo 15 = .ok (.isub, 1) := by decide +kernel
theorem dX0_tellTo_16 : decode cX0_tellTo 16 = .ok (.ireturn, 1) := by decide +kernel
theorem dX0_tellTo_17 : decode cX0_tellTo 17 = .ok (.iconst 0, 1) := by decide +kernel
theorem dX0_tellTo_18 : decode cX0_tellTo 18 = .ok (.istore_n 3, 1) := by decide +kernel
theorem dX0_tellTo_19 : decode cX0_tellTo 19 = .ok (.iconst 1, 1) := by decide +kernel
theorem dX0_tellTo_20 : decode cX0_tellTo 20 = .ok (.istore 4, 2) := by decide +kernel
theorem dX0_tellTo_22 : decode cX0_tellTo 22 = .ok (.iconst 0, 1) := by decide +kernel
theorem dX0_tellTo_23 : decode cX0_tellTo 23 = .ok (.istore 5, 2) := by decide +kernel
theorem dX0_tellTo_25 : decode cX0_tellTo 25 = .ok (.iload 5, 2) := by decide +kernel
theorem dX0_tellTo_27 : decode cX0_tellTo 27 = .ok (.aload_n 0, 1) := by decide +kernel
theorem dX0_tellTo_28 : decode cX0_tellTo 28 = .ok (.getfield 15, 3) := by decide +kernel
theorem dX0_tellTo_31 : decode cX0_tellTo 31 = .ok (.if_icmp .ge 52, 3) := by decide +kernel
theorem dX0_tellTo_34 : decode cX0_tellTo 34 = .ok (.iconst 1, 1) := by decide +kernel
theorem dX0_tellTo_35 : decode cX0_tellTo 35 = .ok (.aload_n 0, 1) := by decide +kernel
theorem dX0_tellTo_36 : decode cX0_tellTo 36 = .ok (.getfield 9, 3) := by decide +kernel
theorem dX0_tellTo_39 : decode cX0_tellTo 39 = .ok (.iload 5, 2) := by decide +kernel
theorem dX0_tellTo_41 : decode cX0_tellTo 41 = .ok (.iaload, 1) := by decide +kernel
theorem dX0_tellTo_42 : decode cX0_tellTo 42 = .ok (.invokestatic 23, 3) := by decide +kernel
theorem dX0_tellTo_45 : decode cX0_tellTo 45 = .ok (.invokevirtual 27, 3) := by decide +kernel
theorem dX0_tellTo_48 : decode cX0_tellTo 48 = .ok (.invokestatic 32, 3) := by decide +kernel
theorem dX0_tellTo_51 : decode cX0_tellTo 51 = .ok (.istore 4, 2) := by decide +kernel
theorem dX0_tellTo_53 : decode cX0_tellTo 53 = .ok (.aload_n 0, 1) := by decide +kernel
theorem dX0_tellTo_54 : decode cX0_tellTo 54 = .ok (.aload_n 1, 1) := by decide +kernel
theorem dX0_tellTo_55 : decode cX0_tellTo 55 = .ok (.iload 5, 2) := by decide +kernel
theorem dX0_tellTo_57 : decode cX0_tellTo 57 = .ok (.invokevirtual 38, 3) := by decide +kernel
theorem dX0_tellTo_60 : decode cX0_tellTo 60 = .ok (.ifCond .ne 10, 3) := by decide +kernel
theorem dX0_tellTo_63 : decode cX0_tellTo 63 = .ok (.sipush (-2000), 3) := by decide +kernel
theorem dX0_tellTo_66 : decode cX0_tellTo 66 = .ok (.iload 5, 2) := by decide +kernel
theorem dX0_tellTo_68 : decode cX0_tellTo 68 = .ok (.isub, 1) := by decide +kernel
theorem dX0_tellTo_69 : decode cX0_tellTo 69 = .ok (.ireturn, 1) := by decide +kernel
theorem dX0_tellTo_70 : decode cX0_tellTo 70 = .ok (.iinc 3 1, 3) := by decide +kernel
theorem dX0_tellTo_73 : decode cX0_tellTo 73 = .ok (.iload 5, 2) := by decide +kernel
theorem dX0_tellTo_75 : decode cX0_tellTo 75 = .ok (.iload 4, 2) := by decide +kernel
theorem dX0_tellTo_77 : decode cX0_tellTo 77 = .ok (.iadd, 1) := by decide +kernel
theorem dX0_tellTo_78 : decode cX0_tellTo 78 = .ok (.istore 5, 2) := by decide +kernel
theorem dX0_tellTo_80 : decode cX0_tellTo 80 = .ok (.goto (-55), 3) := by decide +kernel
theorem dX0_tellTo_83 : decode cX0_tellTo 83 = .ok (.iload_n 3, 1) := by decide +kernel
theorem dX0_tellTo_84 : decode cX0_tellTo 84 = .ok (.ireturn, 1) := by decide +kernel
theorem dX0_firstBadPlace_0 : decode cX0_firstBadPlace 0 = .ok (.iconst 1, 1) := by decide +kernel
theorem dX0_firstBadPlace_1 : decode cX0_firstBadPlace 1 = .ok (.istore_n 1, 1) := by decide +kernel
theorem dX0_firstBadPlace_2 : decode cX0_firstBadPlace 2 = .ok (.iconst 0, 1) := by decide +kernel
theorem dX0_firstBadPlace_3 : decode cX0_firstBadPlace 3 = .ok (.istore_n 2, 1) := by decide +kernel
theorem dX0_firstBadPlace_4 : decode cX0_firstBadPlace 4 = .ok (.iload_n 2, 1) := by decide +kernel
theorem dX0_firstBadPlace_5 : decode cX0_firstBadPlace 5 = .ok (.aload_n 0, 1) := by decide +kernel
theorem dX0_firstBadPlace_6 : decode cX0_firstBadPlace 6 = .ok (.getfield 15, 3) := by decide +kernel
theorem dX0_firstBadPlace_9 : decode cX0_firstBadPlace 9 = .ok (.if_icmp .ge 90, 3) := by decide +kernel
theorem dX0_firstBadPlace_12 : decode cX0_firstBadPlace 12 = .ok (.aload_n 0, 1) := by decide +kernel
theorem dX0_firstBadPlace_13 : decode cX0_firstBadPlace 13 = .ok (.getfield 9, 3) := by decide +kernel
theorem dX0_firstBadPlace_16 : decode cX0_firstBadPlace 16 = .ok (.iload_n 2, 1) := by decide +kernel
theorem dX0_firstBadPlace_17 : decode cX0_firstBadPlace 17 = .ok (.iaload, 1) := by decide +kernel
theorem dX0_firstBadPlace_18 : decode cX0_firstBadPlace 18 = .ok (.invokestatic 23, 3) := by decide +kernel
theorem dX0_firstBadPlace_21 : decode cX0_firstBadPlace 21 = .ok (.astore_n 3, 1) := by decide +kernel
theorem dX0_firstBadPlace_22 : decode cX0_firstBadPlace 22 = .ok (.iconst 1, 1) := by decide +kernel
theorem dX0_firstBadPlace_23 : decode cX0_firstBadPlace 23 = .ok (.aload_n 3, 1) := by decide +kernel
theorem dX0_firstBadPlace_24 : decode cX0_firstBadPlace 24 = .ok (.invokevirtual 27, 3) := by decide +kernel
theorem dX0_firstBadPlace_27 : decode cX0_firstBadPlace 27 = .ok (.invokestatic 32, 3) := by decide +kernel
theorem dX0_firstBadPlace_30 : decode cX0_firstBadPlace 30 = .ok (.istore_n 1, 1) := by decide +kernel
theorem dX0_firstBadPlace_31 : decode cX0_firstBadPlace 31 = .ok (.aload_n 3, 1) := by decide +kernel
theorem dX0_firstBadPlace_32 : decode cX0_firstBadPlace 32 = .ok (.invokevirtual 42, 3) := by decide +kernel
theorem dX0_firstBadPlace_35 : decode cX0_firstBadPlace 35 = .ok (.ifCond .eq 5, 3) := by decide +kernel
theorem dX0_firstBadPlace_38 : decode cX0_firstBadPlace 38 = .ok (.iload_n 2, 1) := by decide +kernel
theorem dX0_firstBadPlace_39 : decode cX0_firstBadPlace 39 = .ok (.ireturn, 1) := by decide +kernel
theorem dX0_firstBadPlace_40 : decode cX0_firstBadPlace 40 = .ok (.iconst 1, 1) := by decide +kernel
theorem dX0_firstBadPlace_41 : decode cX0_firstBadPlace 41 = .ok (.istore 4, 2) := by decide +kernel
theorem dX0_firstBadPlace_43 : decode cX0_firstBadPlace 43 = .ok (.iload 4, 2) := by decide +kernel
theorem dX0_firstBadPlace_45 : decode cX0_firstBadPlace 45 = .ok (.iload_n 1, 1) := by decide +kernel
theorem dX0_firstBadPlace_46 : decode cX0_firstBadPlace 46 = .ok (.if_icmp .ge 46, 3) := by decide +kernel
theorem dX0_firstBadPlace_49 : decode cX0_firstBadPlace 49 = .ok (.iload_n 2, 1) := by decide +kernel
theorem dX0_firstBadPlace_50 : decode cX0_firstBadPlace 50 = .ok (.iload 4, 2) := by decide +kernel
theorem dX0_firstBadPlace_52 : decode cX0_firstBadPlace 52 = .ok (.iadd, 1) := by decide +kernel
theorem dX0_firstBadPlace_53 : decode cX0_firstBadPlace 53 = .ok (.aload_n 0, 1) := by decide +kernel
theorem dX0_firstBadPlace_54 : decode cX0_firstBadPlace 54 = .ok (.getfield 15, 3) := by decide +kernel
theorem dX0_firstBadPlace_57 : decode cX0_firstBadPlace 57 = .ok (.if_icmp .ge 24, 3) := by decide +kernel
theorem dX0_firstBadPlace_60 : decode cX0_firstBadPlace 60 = .ok (.aload_n 0, 1) := by decide +kernel
theorem dX0_firstBadPlace_61 : decode cX0_firstBadPlace 61 = .ok (.getfield 9, 3) := by decide +kernel
theorem dX0_firstBadPlace_64 : decode cX0_firstBadPlace 64 = .ok (.iload_n 2, 1) := by decide +kernel
theorem dX0_firstBadPlace_65 : decode cX0_firstBadPlace 65 = .ok (.iload 4, 2) := by decide +kernel
theorem dX0_firstBadPlace_67 : decode cX0_firstBadPlace 67 = .ok (.iadd, 1) := by decide +kernel
theorem dX0_firstBadPlace_68 : decode cX0_firstBadPlace 68 = .ok (.iaload, 1) := by decide +kernel
theorem dX0_firstBadPlace_69 : decode cX0_firstBadPlace 69 = .ok (.aload_n 3, 1) := by decide +kernel
theorem dX0_firstBadPlace_70 : decode cX0_firstBadPlace 70 = .ok (.iload 4, 2) := by decide +kernel
theorem dX0_firstBadPlace_72 : decode cX0_firstBadPlace 72 = .ok (.invokevirtual 46, 3) := by decide +kernel
theorem dX0_firstBadPlace_75 : decode cX0_firstBadPlace 75 = .ok (.invokestatic 50, 3) := by decide +kernel
theorem dX0_firstBadPlace_78 : decode cX0_firstBadPlace 78 = .ok (.ifCond .ne 8, 3) := by decide +kernel
theorem dX0_firstBadPlace_81 : decode cX0_firstBadPlace 81 = .ok (.iload_n 2, 1) := by decide +kernel
theorem dX0_firstBadPlace_82 : decode cX0_firstBadPlace 82 = .ok (.iload 4, 2) := by decide +kernel
theorem dX0_firstBadPlace_84 : decode cX0_firstBadPlace 84 = .ok (.iadd, 1) := by decide +kernel
theorem dX0_firstBadPlace_85 : decode cX0_firstBadPlace 85 = .ok (.ireturn, 1) := by decide +kernel
theorem dX0_firstBadPlace_86 : decode cX0_firstBadPlace 86 = .ok (.iinc 4 1, 3) := by decide +kernel
theorem dX0_firstBadPlace_89 : decode cX0_firstBadPlace 89 = .ok (.goto (-46), 3) := by decide +kernel
theorem dX0_firstBadPlace_92 : decode cX0_firstBadPlace 92 = .ok (.iload_n 2, 1) := by decide +kernel
theorem dX0_firstBadPlace_93 : decode cX0_firstBadPlace 93 = .ok (.iload_n 1, 1) := by decide +kernel
theorem dX0_firstBadPlace_94 : decode cX0_firstBadPlace 94 = .ok (.iadd, 1) := by decide +kernel
theorem dX0_firstBadPlace_95 : decode cX0_firstBadPlace 95 = .ok (.istore_n 2, 1) := by decide +kernel
theorem dX0_firstBadPlace_96 : decode cX0_firstBadPlace 96 = .ok (.goto (-92), 3) := by decide +kernel
theorem dX0_firstBadPlace_99 : decode cX0_firstBadPlace 99 = .ok (.aload_n 0, 1) := by decide +kernel
theorem dX0_firstBadPlace_100 : decode cX0_firstBadPlace 100 = .ok (.getfield 15, 3) := by decide +kernel
theorem dX0_firstBadPlace_103 : decode cX0_firstBadPlace 103 = .ok (.ifCond .ne 7, 3) := by decide +kernel
theorem dX0_firstBadPlace_106 : decode cX0_firstBadPlace 106 = .ok (.iconst 0, 1) := by decide +kernel
theorem dX0_firstBadPlace_107 : decode cX0_firstBadPlace 107 = .ok (.goto 5, 3) := by decide +kernel
theorem dX0_firstBadPlace_110 : decode cX0_firstBadPlace 110 = .ok (.bipush (-9), 2) := by decide +kernel
theorem dX0_firstBadPlace_112 : decode cX0_firstBadPlace 112 = .ok (.ireturn, 1) := by decide +kernel
theorem dX0_shapeOf_0 : decode cX0_shapeOf 0 = .ok (.iload_n 0, 1) := by decide +kernel
theorem dX0_shapeOf_1 : decode cX0_shapeOf 1 = .ok (.tableswitch 109 99 117 #[97, 109, 109, 109, 109, 106, 109, 109, 109, 109, 109, 109, 109, 109, 109, 94, 100, 91, 103], 91) := by decide +kernel
theorem dX0_shapeOf_92 : decode cX0_shapeOf 92 = .ok (.ldc 54, 2) := by decide +kernel
theorem dX0_shapeOf_94 : decode cX0_shapeOf 94 = .ok (.areturn, 1) := by decide +kernel
theorem dX0_shapeOf_95 : decode cX0_shapeOf 95 = .ok (.ldc 56, 2) := by decide +kernel
theorem dX0_shapeOf_97 : decode cX0_shapeOf 97 = .ok (.areturn, 1) := by decide +kernel
theorem dX0_shapeOf_98 : decode cX0_shapeOf 98 = .ok (.ldc 58, 2) := by decide +kernel
theorem dX0_shapeOf_100 : decode cX0_shapeOf 100 = .ok (.areturn, 1) := by decide +kernel
theorem dX0_shapeOf_101 : decode cX0_shapeOf 101 = .ok (.ldc 60, 2) := by decide +kernel
theorem dX0_shapeOf_103 : decode cX0_shapeOf 103 = .ok (.areturn, 1) := by decide +kernel
theorem dX0_shapeOf_104 : decode cX0_shapeOf 104 = .ok (.ldc 62, 2) := by decide +kernel
theorem dX0_shapeOf_106 : decode cX0_shapeOf 106 = .ok (.areturn, 1) := by decide +kernel
theorem dX0_shapeOf_107 : decode cX0_shapeOf 107 = .ok (.ldc 64, 2) := by decide +kernel
theorem dX0_shapeOf_109 : decode cX0_shapeOf 109 = .ok (.areturn, 1) := by decide +kernel
theorem dX0_shapeOf_110 : decode cX0_shapeOf 110 = .ok (.ldc 66, 2) := by decide +kernel
theorem dX0_shapeOf_112 : decode cX0_shapeOf 112 = .ok (.areturn, 1) := by decide +kernel
theorem dX0_fits_0 : decode cX0_fits 0 = .ok (.iload_n 1, 1) := by decide +kernel
theorem dX0_fits_1 : decode cX0_fits 1 = .ok (.lookupswitch 58 #[(48, 40), (107, 27)], 27) := by decide +kernel
theorem dX0_fits_28 : decode cX0_fits 28 = .ok (.iload_n 0, 1) := by decide +kernel
theorem dX0_fits_29 : decode cX0_fits 29 = .ok (.invokestatic 68, 3) := by decide +kernel
theorem dX0_fits_32 : decode cX0_fits 32 = .ok (.ifCond .lt 7, 3) := by decide +kernel
theorem dX0_fits_35 : decode cX0_fits 35 = .ok (.iconst 1, 1) := by decide +kernel
theorem dX0_fits_36 : decode cX0_fits 36 = .ok (.goto 4, 3) := by decide +kernel
theorem dX0_fits_39 : decode cX0_fits 39 = .ok (.iconst 0, 1) := by decide +kernel
theorem dX0_fits_40 : decode cX0_fits 40 = .ok (.ireturn, 1) := by decide +kernel
theorem dX0_fits_41 : decode cX0_fits 41 = .ok (.iload_n 0, 1) := by decide +kernel
theorem dX0_fits_42 : decode cX0_fits 42 = .ok (.bipush 48, 2) := by decide +kernel
theorem dX0_fits_44 : decode cX0_fits 44 = .ok (.if_icmp .lt 13, 3) := by decide +kernel
theorem dX0_fits_47 : decode cX0_fits 47 = .ok (.iload_n 0, 1) := by decide +kernel
theorem dX0_fits_48 : decode cX0_fits 48 = .ok (.bipush 57, 2) := by decide +kernel
theorem dX0_fits_50 : decode cX0_fits 50 = .ok (.if_icmp .gt 7, 3) := by decide +kernel
theorem dX0_fits_53 : decode cX0_fits 53 = .ok (.iconst 1, 1) := by decide +kernel
theorem dX0_fits_54 : decode cX0_fits 54 = .ok (.goto 4, 3) := by decide +kernel
theorem dX0_fits_57 : decode cX0_fits 57 = .ok (.iconst 0, 1) := by decide +kernel
theorem dX0_fits_58 : decode cX0_fits 58 = .ok (.ireturn, 1) := by decide +kernel
theorem dX0_fits_59 : decode cX0_fits 59 = .ok (.iload_n 0, 1) := by decide +kernel
theorem dX0_fits_60 : decode cX0_fits 60 = .ok (.iload_n 1, 1) := by decide +kernel
theorem dX0_fits_61 : decode cX0_fits 61 = .ok (.if_icmp .ne 7, 3) := by decide +kernel
theorem dX0_fits_64 : decode cX0_fits 64 = .ok (.iconst 1, 1) := by decide +kernel
theorem dX0_fits_65 : decode cX0_fits 65 = .ok (.goto 4, 3) := by decide +kernel
theorem dX0_fits_68 : decode cX0_fits 68 = .ok (.iconst 0, 1) := by decide +kernel
theorem dX0_fits_69 : decode cX0_fits 69 = .ok (.ireturn, 1) := by decide +kernel
theorem dX0_kindOf_0 : decode cX0_kindOf 0 = .ok (.iconst 0, 1) := by decide +kernel
theorem dX0_kindOf_1 : decode cX0_kindOf 1 = .ok (.istore_n 1, 1) := by decide +kernel
theorem dX0_kindOf_2 : decode cX0_kindOf 2 = .ok (.iload_n 1, 1) := by decide +kernel
theorem dX0_kindOf_3 : decode cX0_kindOf 3 = .ok (.bipush 6, 2) := by decide +kernel
theorem dX0_kindOf_5 : decode cX0_kindOf 5 = .ok (.if_icmp .ge 21, 3) := by decide +kernel
theorem dX0_kindOf_8 : decode cX0_kindOf 8 = .ok (.ldc 72, 2) := by decide +kernel
theorem dX0_kindOf_10 : decode cX0_kindOf 10 = .ok (.iload_n 1, 1) := by decide +kernel
theorem dX0_kindOf_11 : decode cX0_kindOf 11 = .ok (.invokevirtual 46, 3) := by decide +kernel
theorem dX0_kindOf_14 : decode cX0_kindOf 14 = .ok (.iload_n 0, 1) := by decide +kernel
theorem dX0_kindOf_15 : decode cX0_kindOf 15 = .ok (.if_icmp .ne 5, 3) := by decide +kernel
theorem dX0_kindOf_18 : decode cX0_kindOf 18 = .ok (.iload_n 1, 1) := by decide +kernel
theorem dX0_kindOf_19 : decode cX0_kindOf 19 = .ok (.ireturn, 1) := by decide +kernel
theorem dX0_kindOf_20 : decode cX0_kindOf 20 = .ok (.iinc 1 1, 3) := by decide +kernel
theorem dX0_kindOf_23 : decode cX0_kindOf 23 = .ok (.goto (-21), 3) := by decide +kernel
theorem dX0_kindOf_26 : decode cX0_kindOf 26 = .ok (.bipush (-9), 2) := by decide +kernel
theorem dX0_kindOf_28 : decode cX0_kindOf 28 = .ok (.ireturn, 1) := by decide +kernel
theorem dX0_tellStatement_0 : decode cX0_tellStatement 0 = .ok (.aload_n 0, 1) := by decide +kernel
theorem dX0_tellStatement_1 : decode cX0_tellStatement 1 = .ok (.getfield 9, 3) := by decide +kernel
theorem dX0_tellStatement_4 : decode cX0_tellStatement 4 = .ok (.iload_n 2, 1) := by decide +kernel
theorem dX0_tellStatement_5 : decode cX0_tellStatement 5 = .ok (.iaload, 1) := by decide +kernel
theorem dX0_tellStatement_6 : decode cX0_tellStatement 6 = .ok (.lookupswitch 149 #[(99, 99), (114, 80), (115, 111), (116, 50), (117, 130)], 50) := by decide +kernel
theorem dX0_tellStatement_56 : decode cX0_tellStatement 56 = .ok (.aload_n 1, 1) := by decide +kernel
theorem dX0_tellStatement_57 : decode cX0_tellStatement 57 = .ok (.aload_n 0, 1) := by decide +kernel
theorem dX0_tellStatement_58 : decode cX0_tellStatement 58 = .ok (.getfield 9, 3) := by decide +kernel
theorem dX0_tellStatement_61 : decode cX0_tellStatement 61 = .ok (.iload_n 2, 1) := by decide +kernel
theorem dX0_tellStatement_62 : decode cX0_tellStatement 62 = .ok (.iconst 1, 1) := by decide +kernel
theorem dX0_tellStatement_63 : decode cX0_tellStatement 63 = .ok (.iadd, 1) := by decide +kernel
theorem dX0_tellStatement_64 : decode cX0_tellStatement 64 = .ok (.iaload, 1) := by decide +kernel
theorem dX0_tellStatement_65 : decode cX0_tellStatement 65 = .ok (.invokestatic 68, 3) := by decide +kernel
theorem dX0_tellStatement_68 : decode cX0_tellStatement 68 = .ok (.aload_n 0, 1) := by decide +kernel
theorem dX0_tellStatement_69 : decode cX0_tellStatement 69 = .ok (.iload_n 2, 1) := by decide +kernel
theorem dX0_tellStatement_70 : decode cX0_tellStatement 70 = .ok (.iconst 2, 1) := by decide +kernel
theorem dX0_tellStatement_71 : decode cX0_tellStatement 71 = .ok (.iadd, 1) := by decide +kernel
theorem dX0_tellStatement_72 : decode cX0_tellStatement 72 = .ok (.invokevirtual 74, 3) := by decide +kernel
theorem dX0_tellStatement_75 : decode cX0_tellStatement 75 = .ok (.aload_n 0, 1) := by decide +kernel
theorem dX0_tellStatement_76 : decode cX0_tellStatement 76 = .ok (.iload_n 2, 1) := by decide +kernel
theorem dX0_tellStatement_77 : decode cX0_tellStatement 77 = .ok (.iconst 3, 1) := by decide +kernel
theorem dX0_tellStatement_78 : decode cX0_tellStatement 78 = .ok (.iadd, 1) := by decide +kernel
theorem dX0_tellStatement_79 : decode cX0_tellStatement 79 = .ok (.invokevirtual 77, 3) := by decide +kernel
theorem dX0_tellStatement_82 : decode cX0_tellStatement 82 = .ok (.invokestatic 80, 3) := by decide +kernel
theorem dX0_tellStatement_85 : decode cX0_tellStatement 85 = .ok (.ireturn, 1) := by decide +kernel
theorem dX0_tellStatement_86 : decode cX0_tellStatement 86 = .ok (.aload_n 1, 1) := by decide +kernel
theorem dX0_tellStatement_87 : decode cX0_tellStatement 87 = .ok (.aload_n 0, 1) := by decide +kernel
theorem dX0_tellStatement_88 : decode cX0_tellStatement 88 = .ok (.iload_n 2, 1) := by decide +kernel
theorem dX0_tellStatement_89 : decode cX0_tellStatement 89 = .ok (.iconst 1, 1) := by decide +kernel
theorem dX0_tellStatement_90 : decode cX0_tellStatement 90 = .ok (.iadd, 1) := by decide +kernel
theorem dX0_tellStatement_91 : decode cX0_tellStatement 91 = .ok (.invokevirtual 74, 3) := by decide +kernel
theorem dX0_tellStatement_94 : decode cX0_tellStatement 94 = .ok (.aload_n 0, 1) := by decide +kernel
theorem dX0_tellStatement_95 : decode cX0_tellStatement 95 = .ok (.iload_n 2, 1) := by decide +kernel
theorem dX0_tellStatement_96 : decode cX0_tellStatement 96 = .ok (.iconst 2, 1) := by decide +kernel
theorem dX0_tellStatement_97 : decode cX0_tellStatement 97 = .ok (.iadd, 1) := by decide +kernel
theorem dX0_tellStatement_98 : decode cX0_tellStatement 98 = .ok (.invokevirtual 74, 3) := by decide +kernel
theorem dX0_tellStatement_101 : decode cX0_tellStatement 101 = .ok (.invokestatic 84, 3) := by decide +kernel
theorem dX0_tellStatement_104 : decode cX0_tellStatement 104 = .ok (.ireturn, 1) := by decide +kernel
theorem dX0_tellStatement_105 : decode cX0_tellStatement 105 = .ok (.aload_n 1, 1) := by decide +kernel
theorem dX0_tellStatement_106 : decode cX0_tellStatement 106 = .ok (.aload_n 0, 1) := by decide +kernel
theorem dX0_tellStatement_107 : decode cX0_tellStatement 107 = .ok (.iload_n 2, 1) := by decide +kernel
theorem dX0_tellStatement_108 : decode cX0_tellStatement 108 = .ok (.iconst 1, 1) := by decide +kernel
theorem dX0_tellStatement_109 : decode cX0_tellStatement 109 = .ok (.iadd, 1) := by decide +kernel
theorem dX0_tellStatement_110 : decode cX0_tellStatement 110 = .ok (.invokevirtual 74, 3) := by decide +kernel
theorem dX0_tellStatement_113 : decode cX0_tellStatement 113 = .ok (.invokestatic 88, 3) := by decide +kernel
theorem dX0_tellStatement_116 : decode cX0_tellStatement 116 = .ok (.ireturn, 1) := by decide +kernel
theorem dX0_tellStatement_117 : decode cX0_tellStatement 117 = .ok (.aload_n 1, 1) := by decide +kernel
theorem dX0_tellStatement_118 : decode cX0_tellStatement 118 = .ok (.aload_n 0, 1) := by decide +kernel
theorem dX0_tellStatement_119 : decode cX0_tellStatement 119 = .ok (.iload_n 2, 1) := by decide +kernel
theorem dX0_tellStatement_120 : decode cX0_tellStatement 120 = .ok (.iconst 1, 1) := by decide +kernel
theorem dX0_tellStatement_121 : decode cX0_tellStatement 121 = .ok (.iadd, 1) := by decide +kernel
theorem dX0_tellStatement_122 : decode cX0_tellStatement 122 = .ok (.invokevirtual 74, 3) := by decide +kernel
theorem dX0_tellStatement_125 : decode cX0_tellStatement 125 = .ok (.aload_n 0, 1) := by decide +kernel
theorem dX0_tellStatement_126 : decode cX0_tellStatement 126 = .ok (.iload_n 2, 1) := by decide +kernel
theorem dX0_tellStatement_127 : decode cX0_tellStatement 127 = .ok (.iconst 2, 1) := by decide +kernel
theorem dX0_tellStatement_128 : decode cX0_tellStatement 128 = .ok (.iadd, 1) := by decide +kernel
theorem dX0_tellStatement_129 : decode cX0_tellStatement 129 = .ok (.invokevirtual 74, 3) := by decide +kernel
theorem dX0_tellStatement_132 : decode cX0_tellStatement 132 = .ok (.invokestatic 91, 3) := by decide +kernel
theorem dX0_tellStatement_135 : decode cX0_tellStatement 135 = .ok (.ireturn, 1) := by decide +kernel
theorem dX0_tellStatement_136 : decode cX0_tellStatement 136 = .ok (.aload_n 1, 1) := by decide +kernel
theorem dX0_tellStatement_137 : decode cX0_tellStatement 137 = .ok (.aload_n 0, 1) := by decide +kernel
theorem dX0_tellStatement_138 : decode cX0_tellStatement 138 = .ok (.iload_n 2, 1) := by decide +kernel
theorem dX0_tellStatement_139 : decode cX0_tellStatement 139 = .ok (.iconst 1, 1) := by decide +kernel
theorem dX0_tellStatement_140 : decode cX0_tellStatement 140 = .ok (.iadd, 1) := by decide +kernel
theorem dX0_tellStatement_141 : decode cX0_tellStatement 141 = .ok (.invokevirtual 74, 3) := by decide +kernel
theorem dX0_tellStatement_144 : decode cX0_tellStatement 144 = .ok (.aload_n 0, 1) := by decide +kernel
theorem dX0_tellStatement_145 : decode cX0_tellStatement 145 = .ok (.iload_n 2, 1) := by decide +kernel
theorem dX0_tellStatement_146 : decode cX0_tellStatement 146 = .ok (.iconst 2, 1) := by decide +kernel
theorem dX0_tellStatement_147 : decode cX0_tellStatement 147 = .ok (.iadd, 1) := by decide +kernel
theorem dX0_tellStatement_148 : decode cX0_tellStatement 148 = .ok (.invokevirtual 77, 3) := by decide +kernel
theorem dX0_tellStatement_151 : decode cX0_tellStatement 151 = .ok (.invokestatic 94, 3) := by decide +kernel
theorem dX0_tellStatement_154 : decode cX0_tellStatement 154 = .ok (.ireturn, 1) := by decide +kernel
theorem dX0_tellStatement_155 : decode cX0_tellStatement 155 = .ok (.aload_n 1, 1) := by decide +kernel
theorem dX0_tellStatement_156 : decode cX0_tellStatement 156 = .ok (.aload_n 0, 1) := by decide +kernel
theorem dX0_tellStatement_157 : decode cX0_tellStatement 157 = .ok (.iload_n 2, 1) := by decide +kernel
theorem dX0_tellStatement_158 : decode cX0_tellStatement 158 = .ok (.iconst 1, 1) := by decide +kernel
theorem dX0_tellStatement_159 : decode cX0_tellStatement 159 = .ok (.iadd, 1) := by decide +kernel
theorem dX0_tellStatement_160 : decode cX0_tellStatement 160 = .ok (.invokevirtual 77, 3) := by decide +kernel
theorem dX0_tellStatement_163 : decode cX0_tellStatement 163 = .ok (.invokestatic 97, 3) := by decide +kernel
theorem dX0_tellStatement_166 : decode cX0_tellStatement 166 = .ok (.ireturn, 1) := by decide +kernel
theorem dX0_digit_0 : decode cX0_digit 0 = .ok (.aload_n 0, 1) := by decide +kernel
theorem dX0_digit_1 : decode cX0_digit 1 = .ok (.getfield 9, 3) := by decide +kernel
theorem dX0_digit_4 : decode cX0_digit 4 = .ok (.iload_n 1, 1) := by decide +kernel
theorem dX0_digit_5 : decode cX0_digit 5 = .ok (.iaload, 1) := by decide +kernel
theorem dX0_digit_6 : decode cX0_digit 6 = .ok (.bipush 48, 2) := by decide +kernel
theorem dX0_digit_8 : decode cX0_digit 8 = .ok (.isub, 1) := by decide +kernel
theorem dX0_digit_9 : decode cX0_digit 9 = .ok (.ireturn, 1) := by decide +kernel
theorem dX0_number_0 : decode cX0_number 0 = .ok (.bipush 10, 2) := by decide +kernel
theorem dX0_number_2 : decode cX0_number 2 = .ok (.aload_n 0, 1) := by decide +kernel
theorem dX0_number_3 : decode cX0_number 3 = .ok (.iload_n 1, 1) := by decide +kernel
theorem dX0_number_4 : decode cX0_number 4 = .ok (.invokevirtual 74, 3) := by decide +kernel
theorem dX0_number_7 : decode cX0_number 7 = .ok (.imul, 1) := by decide +kernel
theorem dX0_number_8 : decode cX0_number 8 = .ok (.aload_n 0, 1) := by decide +kernel
theorem dX0_number_9 : decode cX0_number 9 = .ok (.iload_n 1, 1) := by decide +kernel
theorem dX0_number_10 : decode cX0_number 10 = .ok (.iconst 1, 1) := by decide +kernel
theorem dX0_number_11 : decode cX0_number 11 = .ok (.iadd, 1) := by decide +kernel
theorem dX0_number_12 : decode cX0_number 12 = .ok (.invokevirtual 74, 3) := by decide +kernel
theorem dX0_number_15 : decode cX0_number 15 = .ok (.iadd, 1) := by decide +kernel
theorem dX0_number_16 : decode cX0_number 16 = .ok (.ireturn, 1) := by decide +kernel
theorem dX0_tellThing_0 : decode cX0_tellThing 0 = .ok (.iload_n 3, 1) := by decide +kernel
theorem dX0_tellThing_1 : decode cX0_tellThing 1 = .ok (.bipush 60, 2) := by decide +kernel
theorem dX0_tellThing_3 : decode cX0_tellThing 3 = .ok (.if_icmp .gt 12, 3) := by decide +kernel
theorem dX0_tellThing_6 : decode cX0_tellThing 6 = .ok (.aload_n 0, 1) := by decide +kernel
theorem dX0_tellThing_7 : decode cX0_tellThing 7 = .ok (.getfield 100, 3) := by decide +kernel
theorem dX0_tellThing_10 : decode cX0_tellThing 10 = .ok (.bipush 8, 2) := by decide +kernel
theorem dX0_tellThing_12 : decode cX0_tellThing 12 = .ok (.if_icmp .lt 5, 3) := by decide +kernel
theorem dX0_tellThing_15 : decode cX0_tellThing 15 = .ok (.iconst 0, 1) := by decide +kernel
theorem dX0_tellThing_16 : decode cX0_tellThing 16 = .ok (.ireturn, 1) := by decide +kernel
theorem dX0_tellThing_17 : decode cX0_tellThing 17 = .ok (.aload_n 0, 1) := by decide +kernel
theorem dX0_tellThing_18 : decode cX0_tellThing 18 = .ok (.iload_n 1, 1) := by decide +kernel
theorem dX0_tellThing_19 : decode cX0_tellThing 19 = .ok (.iload_n 2, 1) := by decide +kernel
theorem dX0_tellThing_20 : decode cX0_tellThing 20 = .ok (.iload_n 3, 1) := by decide +kernel
theorem dX0_tellThing_21 : decode cX0_tellThing 21 = .ok (.invokevirtual 105, 3) := by decide +kernel
theorem dX0_tellThing_24 : decode cX0_tellThing 24 = .ok (.iconst 1, 1) := by decide +kernel
theorem dX0_tellThing_25 : decode cX0_tellThing 25 = .ok (.ireturn, 1) := by decide +kernel
theorem dX0_tellRope_0 : decode cX0_tellRope 0 = .ok (.aload_n 0, 1) := by decide +kernel
theorem dX0_tellRope_1 : decode cX0_tellRope 1 = .ok (.iload_n 1, 1) := by decide +kernel
theorem dX0_tellRope_2 : decode cX0_tellRope 2 = .ok (.iload_n 2, 1) := by decide +kernel
theorem dX0_tellRope_3 : decode cX0_tellRope 3 = .ok (.invokevirtual 109, 3) := by decide +kernel
theorem dX0_tellRope_6 : decode cX0_tellRope 6 = .ok (.ifCond .eq 12, 3) := by decide +kernel
theorem dX0_tellRope_9 : decode cX0_tellRope 9 = .ok (.aload_n 0, 1) := by decide +kernel
theorem dX0_tellRope_10 : decode cX0_tellRope 10 = .ok (.getfield 113, 3) := by decide +kernel
theorem dX0_tellRope_13 : decode cX0_tellRope 13 = .ok (.bipush 6, 2) := by decide +kernel
theorem dX0_tellRope_15 : decode cX0_tellRope 15 = .ok (.if_icmp .lt 5, 3) := by decide +kernel
theorem dX0_tellRope_18 : decode cX0_tellRope 18 = .ok (.iconst 0, 1) := by decide +kernel
theorem dX0_tellRope_19 : decode cX0_tellRope 19 = .ok (.ireturn, 1) := by decide +kernel
theorem dX0_tellRope_20 : decode cX0_tellRope 20 = .ok (.aload_n 0, 1) := by decide +kernel
theorem dX0_tellRope_21 : decode cX0_tellRope 21 = .ok (.iload_n 1, 1) := by decide +kernel
theorem dX0_tellRope_22 : decode cX0_tellRope 22 = .ok (.iload_n 2, 1) := by decide +kernel
theorem dX0_tellRope_23 : decode cX0_tellRope 23 = .ok (.invokevirtual 116, 3) := by decide +kernel
theorem dX0_tellRope_26 : decode cX0_tellRope 26 = .ok (.pop, 1) := by decide +kernel
theorem dX0_tellRope_27 : decode cX0_tellRope 27 = .ok (.iconst 1, 1) := by decide +kernel
theorem dX0_tellRope_28 : decode cX0_tellRope 28 = .ok (.ireturn, 1) := by decide +kernel
theorem dX0_tellCut_0 : decode cX0_tellCut 0 = .ok (.aload_n 0, 1) := by decide +kernel
theorem dX0_tellCut_1 : decode cX0_tellCut 1 = .ok (.iload_n 1, 1) := by decide +kernel
theorem dX0_tellCut_2 : decode cX0_tellCut 2 = .ok (.invokevirtual 119, 3) := by decide +kernel
theorem dX0_tellCut_5 : decode cX0_tellCut 5 = .ok (.ifCond .ne 5, 3) := by decide +kernel
theorem dX0_tellCut_8 : decode cX0_tellCut 8 = .ok (.iconst 0, 1) := by decide +kernel
theorem dX0_tellCut_9 : decode cX0_tellCut 9 = .ok (.ireturn, 1) := by decide +kernel
theorem dX0_tellCut_10 : decode cX0_tellCut 10 = .ok (.aload_n 0, 1) := by decide +kernel
theorem dX0_tellCut_11 : decode cX0_tellCut 11 = .ok (.iload_n 1, 1) := by decide +kernel
theorem dX0_tellCut_12 : decode cX0_tellCut 12 = .ok (.invokevirtual 123, 3) := by decide +kernel
theorem dX0_tellCut_15 : decode cX0_tellCut 15 = .ok (.pop, 1) := by decide +kernel
theorem dX0_tellCut_16 : decode cX0_tellCut 16 = .ok (.iconst 1, 1) := by decide +kernel
theorem dX0_tellCut_17 : decode cX0_tellCut 17 = .ok (.ireturn, 1) := by decide +kernel
theorem dX0_tellStones_0 : decode cX0_tellStones 0 = .ok (.aload_n 0, 1) := by decide +kernel
theorem dX0_tellStones_1 : decode cX0_tellStones 1 = .ok (.iload_n 1, 1) := by decide +kernel
theorem dX0_tellStones_2 : decode cX0_tellStones 2 = .ok (.invokevirtual 126, 3) := by decide +kernel
theorem dX0_tellStones_5 : decode cX0_tellStones 5 = .ok (.ifCond .ne 5, 3) := by decide +kernel
theorem dX0_tellStones_8 : decode cX0_tellStones 8 = .ok (.iconst 0, 1) := by decide +kernel
theorem dX0_tellStones_9 : decode cX0_tellStones 9 = .ok (.ireturn, 1) := by decide +kernel
theorem dX0_tellStones_10 : decode cX0_tellStones 10 = .ok (.aload_n 0, 1) := by decide +kernel
theorem dX0_tellStones_11 : decode cX0_tellStones 11 = .ok (.getfield 129, 3) := by decide +kernel
theorem dX0_tellStones_14 : decode cX0_tellStones 14 = .ok (.iload_n 1, 1) := by decide +kernel
theorem dX0_tellStones_15 : decode cX0_tellStones 15 = .ok (.iload_n 2, 1) := by decide +kernel
theorem dX0_tellStones_16 : decode cX0_tellStones 16 = .ok (.iastore, 1) := by decide +kernel
theorem dX0_tellStones_17 : decode cX0_tellStones 17 = .ok (.iconst 1, 1) := by decide +kernel
theorem dX0_tellStones_18 : decode cX0_tellStones 18 = .ok (.ireturn, 1) := by decide +kernel
theorem dX0_tellHeight_0 : decode cX0_tellHeight 0 = .ok (.aload_n 0, 1) := by decide +kernel
theorem dX0_tellHeight_1 : decode cX0_tellHeight 1 = .ok (.iload_n 1, 1) := by decide +kernel
theorem dX0_tellHeight_2 : decode cX0_tellHeight 2 = .ok (.invokevirtual 126, 3) := by decide +kernel
theorem dX0_tellHeight_5 : decode cX0_tellHeight 5 = .ok (.ifCond .eq 9, 3) := by decide +kernel
theorem dX0_tellHeight_8 : decode cX0_tellHeight 8 = .ok (.iload_n 2, 1) := by decide +kernel
theorem dX0_tellHeight_9 : decode cX0_tellHeight 9 = .ok (.bipush 20, 2) := by decide +kernel
theorem dX0_tellHeight_11 : decode cX0_tellHeight 11 = .ok (.if_icmp .le 5, 3) := by decide +kernel
theorem dX0_tellHeight_14 : decode cX0_tellHeight 14 = .ok (.iconst 0, 1) := by decide +kernel
theorem dX0_tellHeight_15 : decode cX0_tellHeight 15 = .ok (.ireturn, 1) := by decide +kernel
theorem dX0_tellHeight_16 : decode cX0_tellHeight 16 = .ok (.aload_n 0, 1) := by decide +kernel
theorem dX0_tellHeight_17 : decode cX0_tellHeight 17 = .ok (.getfield 132, 3) := by decide +kernel
theorem dX0_tellHeight_20 : decode cX0_tellHeight 20 = .ok (.iload_n 1, 1) := by decide +kernel
theorem dX0_tellHeight_21 : decode cX0_tellHeight 21 = .ok (.iload_n 2, 1) := by decide +kernel
theorem dX0_tellHeight_22 : decode cX0_tellHeight 22 = .ok (.iastore, 1) := by decide +kernel
theorem dX0_tellHeight_23 : decode cX0_tellHeight 23 = .ok (.iconst 1, 1) := by decide +kernel
theorem dX0_tellHeight_24 : decode cX0_tellHeight 24 = .ok (.ireturn, 1) := by decide +kernel
theorem dX0_tellHours_0 : decode cX0_tellHours 0 = .ok (.iload_n 1, 1) := by decide +kernel
theorem dX0_tellHours_1 : decode cX0_tellHours 1 = .ok (.iconst 1, 1) := by decide +kernel
theorem dX0_tellHours_2 : decode cX0_tellHours 2 = .ok (.if_icmp .lt 21, 3) := by decide +kernel
theorem dX0_tellHours_5 : decode cX0_tellHours 5 = .ok (.iload_n 1, 1) := by decide +kernel
theorem dX0_tellHours_6 : decode cX0_tellHours 6 = .ok (.bipush 60, 2) := by decide +kernel
theorem dX0_tellHours_8 : decode cX0_tellHours 8 = .ok (.if_icmp .gt 15, 3) := by decide +kernel
theorem dX0_tellHours_11 : decode cX0_tellHours 11 = .ok (.aload_n 0, 1) := by decide +kernel
theorem dX0_tellHours_12 : decode cX0_tellHours 12 = .ok (.getfield 135, 3) := by decide +kernel
theorem dX0_tellHours_15 : decode cX0_tellHours 15 = .ok (.iload_n 1, 1) := by decide +kernel
theorem dX0_tellHours_16 : decode cX0_tellHours 16 = .ok (.iadd, 1) := by decide +kernel
theorem dX0_tellHours_17 : decode cX0_tellHours 17 = .ok (.sipush 999, 3) := by decide +kernel
theorem dX0_tellHours_20 : decode cX0_tellHours 20 = .ok (.if_icmp .le 5, 3) := by decide +kernel
theorem dX0_tellHours_23 : decode cX0_tellHours 23 = .ok (.iconst 0, 1) := by decide +kernel
theorem dX0_tellHours_24 : decode cX0_tellHours 24 = .ok (.ireturn, 1) := by decide +kernel
theorem dX0_tellHours_25 : decode cX0_tellHours 25 = .ok (.aload_n 0, 1) := by decide +kernel
theorem dX0_tellHours_26 : decode cX0_tellHours 26 = .ok (.iload_n 1, 1) := by decide +kernel
theorem dX0_tellHours_27 : decode cX0_tellHours 27 = .ok (.invokevirtual 138, 3) := by decide +kernel
theorem dX0_tellHours_30 : decode cX0_tellHours 30 = .ok (.iconst 1, 1) := by decide +kernel
theorem dX0_tellHours_31 : decode cX0_tellHours 31 = .ok (.ireturn, 1) := by decide +kernel
theorem dX1_init_0 : decode cX1_init 0 = .ok (.aload_n 0, 1) := by decide +kernel
theorem dX1_init_1 : decode cX1_init 1 = .ok (.invokespecial 3, 3) := by decide +kernel
theorem dX1_init_4 : decode cX1_init 4 = .ok (.aload_n 0, 1) := by decide +kernel
theorem dX1_init_5 : decode cX1_init 5 = .ok (.new 9, 3) := by decide +kernel
theorem dX1_init_8 : decode cX1_init 8 = .ok (.dup, 1) := by decide +kernel
theorem dX1_init_9 : decode cX1_init 9 = .ok (.invokespecial 11, 3) := by decide +kernel
theorem dX1_init_12 : decode cX1_init 12 = .ok (.putfield 12, 3) := by decide +kernel
theorem dX1_init_15 : decode cX1_init 15 = .ok (.aload_n 0, 1) := by decide +kernel
theorem dX1_init_16 : decode cX1_init 16 = .ok (.bipush 8, 2) := by decide +kernel
theorem dX1_init_18 : decode cX1_init 18 = .ok (.newarray .int, 2) := by decide +kernel
theorem dX1_init_20 : decode cX1_init 20 = .ok (.putfield 18, 3) := by decide +kernel
theorem dX1_init_23 : decode cX1_init 23 = .ok (.aload_n 0, 1) := by decide +kernel
theorem dX1_init_24 : decode cX1_init 24 = .ok (.iconst 4, 1) := by decide +kernel
theorem dX1_init_25 : decode cX1_init 25 = .ok (.newarray .int, 2) := by decide +kernel
theorem dX1_init_27 : decode cX1_init 27 = .ok (.putfield 22, 3) := by decide +kernel
theorem dX1_init_30 : decode cX1_init 30 = .ok (.return_, 1) := by decide +kernel
theorem dX1_begin_0 : decode cX1_begin 0 = .ok (.aload_n 0, 1) := by decide +kernel
theorem dX1_begin_1 : decode cX1_begin 1 = .ok (.getfield 12, 3) := by decide +kernel
theorem dX1_begin_4 : decode cX1_begin 4 = .ok (.aload_n 1, 1) := by decide +kernel
theorem dX1_begin_5 : decode cX1_begin 5 = .ok (.invokevirtual 25, 3) := by decide +kernel
theorem dX1_begin_8 : decode cX1_begin 8 = .ok (.aload_n 0, 1) := by decide +kernel
theorem dX1_begin_9 : decode cX1_begin 9 = .ok (.getfield 12, 3) := by decide +kernel
theorem dX1_begin_12 : decode cX1_begin 12 = .ok (.areturn, 1) := by decide +kernel
theorem dX1_behind_0 : decode cX1_behind 0 = .ok (.aload_n 0, 1) := by decide +kernel
theorem dX1_behind_1 : decode cX1_behind 1 = .ok (.getfield 12, 3) := by decide +kernel
theorem dX1_behind_4 : decode cX1_behind 4 = .ok (.aload_n 1, 1) := by decide +kernel
theorem dX1_behind_5 : decode cX1_behind 5 = .ok (.invokevirtual 25, 3) := by decide +kernel
theorem dX1_behind_8 : decode cX1_behind 8 = .ok (.aload_n 0, 1) := by decide +kernel
theorem dX1_behind_9 : decode cX1_behind 9 = .ok (.getfield 12, 3) := by decide +kernel
theorem dX1_behind_12 : decode cX1_behind 12 = .ok (.iload_n 2, 1) := by decide +kernel
theorem dX1_behind_13 : decode cX1_behind 13 = .ok (.invokevirtual 29, 3) := by decide +kernel
theorem dX1_behind_16 : decode cX1_behind 16 = .ok (.aload_n 0, 1) := by decide +kernel
theorem dX1_behind_17 : decode cX1_behind 17 = .ok (.getfield 12, 3) := by decide +kernel
theorem dX1_behind_20 : decode cX1_behind 20 = .ok (.areturn, 1) := by decide +kernel
theorem dX1_whenUp_0 : decode cX1_whenUp 0 = .ok (.aload_n 0, 1) := by decide +kernel
theorem dX1_whenUp_1 : decode cX1_whenUp 1 = .ok (.aload_n 1, 1) := by decide +kernel
theorem dX1_whenUp_2 : decode cX1_whenUp 2 = .ok (.invokevirtual 33, 3) := by decide +kernel
theorem dX1_whenUp_5 : decode cX1_whenUp 5 = .ok (.pop, 1) := by decide +kernel
theorem dX1_whenUp_6 : decode cX1_whenUp 6 = .ok (.iconst 0, 1) := by decide +kernel
theorem dX1_whenUp_7 : decode cX1_whenUp 7 = .ok (.istore 4, 2) := by decide +kernel
theorem dX1_whenUp_9 : decode cX1_whenUp 9 = .ok (.iload 4, 2) := by decide +kernel
theorem dX1_whenUp_11 : decode cX1_whenUp 11 = .ok (.bipush 99, 2) := by decide +kernel
theorem dX1_whenUp_13 : decode cX1_whenUp 13 = .ok (.if_icmp .gt 34, 3) := by decide +kernel
theorem dX1_whenUp_16 : decode cX1_whenUp 16 = .ok (.aload_n 0, 1) := by decide +kernel
theorem dX1_whenUp_17 : decode cX1_whenUp 17 = .ok (.getfield 12, 3) := by decide +kernel
theorem dX1_whenUp_20 : decode cX1_whenUp 20 = .ok (.getfield 37, 3) := by decide +kernel
theorem dX1_whenUp_23 : decode cX1_whenUp 23 = .ok (.iload_n 2, 1) := by decide +kernel
theorem dX1_whenUp_24 : decode cX1_whenUp 24 = .ok (.iaload, 1) := by decide +kernel
theorem dX1_whenUp_25 : decode cX1_whenUp 25 = .ok (.iload_n 3, 1) := by decide +kernel
theorem dX1_whenUp_26 : decode cX1_whenUp 26 = .ok (.if_icmp .lt 6, 3) := by decide +kernel
theorem dX1_whenUp_29 : decode cX1_whenUp 29 = .ok (.iload 4, 2) := by decide +kernel
theorem dX1_whenUp_31 : decode cX1_whenUp 31 = .ok (.ireturn, 1) := by decide +kernel
theorem dX1_whenUp_32 : decode cX1_whenUp 32 = .ok (.aload_n 0, 1) := by decide +kernel
theorem dX1_whenUp_33 : decode cX1_whenUp 33 = .ok (.getfield 12, 3) := by decide +kernel
theorem dX1_whenUp_36 : decode cX1_whenUp 36 = .ok (.bipush (-9), 2) := by decide +kernel
theorem dX1_whenUp_38 : decode cX1_whenUp 38 = .ok (.invokevirtual 40, 3) := by decide +kernel
theorem dX1_whenUp_41 : decode cX1_whenUp 41 = .ok (.iinc 4 1, 3) := by decide +kernel
theorem dX1_whenUp_44 : decode cX1_whenUp 44 = .ok (.goto (-35), 3) := by decide +kernel
theorem dX1_whenUp_47 : decode cX1_whenUp 47 = .ok (.bipush (-9), 2) := by decide +kernel
theorem dX1_whenUp_49 : decode cX1_whenUp 49 = .ok (.ireturn, 1) := by decide +kernel
theorem dX1_whoFirst_0 : decode cX1_whoFirst 0 = .ok (.aload_n 0, 1) := by decide +kernel
theorem dX1_whoFirst_1 : decode cX1_whoFirst 1 = .ok (.aload_n 1, 1) := by decide +kernel
theorem dX1_whoFirst_2 : decode cX1_whoFirst 2 = .ok (.invokevirtual 43, 3) := by decide +kernel
theorem dX1_whoFirst_5 : decode cX1_whoFirst 5 = .ok (.bipush (-9), 2) := by decide +kernel
theorem dX1_whoFirst_7 : decode cX1_whoFirst 7 = .ok (.if_icmp .ne 8, 3) := by decide +kernel
theorem dX1_whoFirst_10 : decode cX1_whoFirst 10 = .ok (.bipush (-9), 2) := by decide +kernel
theorem dX1_whoFirst_12 : decode cX1_whoFirst 12 = .ok (.goto 7, 3) := by decide +kernel
theorem dX1_whoFirst_15 : decode cX1_whoFirst 15 = .ok (.aload_n 0, 1) := by decide +kernel
theorem dX1_whoFirst_16 : decode cX1_whoFirst 16 = .ok (.invokevirtual 47, 3) := by decide +kernel
theorem dX1_whoFirst_19 : decode cX1_whoFirst 19 = .ok (.ireturn, 1) := by decide +kernel
theorem dX1_whenFirst_0 : decode cX1_whenFirst 0 = .ok (.aload_n 0, 1) := by decide +kernel
theorem dX1_whenFirst_1 : decode cX1_whenFirst 1 = .ok (.aload_n 1, 1) := by decide +kernel
theorem dX1_whenFirst_2 : decode cX1_whenFirst 2 = .ok (.invokevirtual 33, 3) := by decide +kernel
theorem dX1_whenFirst_5 : decode cX1_whenFirst 5 = .ok (.pop, 1) := by decide +kernel
theorem dX1_whenFirst_6 : decode cX1_whenFirst 6 = .ok (.iconst 0, 1) := by decide +kernel
theorem dX1_whenFirst_7 : decode cX1_whenFirst 7 = .ok (.istore_n 2, 1) := by decide +kernel
theorem dX1_whenFirst_8 : decode cX1_whenFirst 8 = .ok (.iload_n 2, 1) := by decide +kernel
theorem dX1_whenFirst_9 : decode cX1_whenFirst 9 = .ok (.bipush 99, 2) := by decide +kernel
theorem dX1_whenFirst_11 : decode cX1_whenFirst 11 = .ok (.if_icmp .gt 29, 3) := by decide +kernel
theorem dX1_whenFirst_14 : decode cX1_whenFirst 14 = .ok (.aload_n 0, 1) := by decide +kernel
theorem dX1_whenFirst_15 : decode cX1_whenFirst 15 = .ok (.invokevirtual 47, 3) := by decide +kernel
theorem dX1_whenFirst_18 : decode cX1_whenFirst 18 = .ok (.bipush (-9), 2) := by decide +kernel
theorem dX1_whenFirst_20 : decode cX1_whenFirst 20 = .ok (.if_icmp .eq 5, 3) := by decide +kernel
theorem dX1_whenFirst_23 : decode cX1_whenFirst 23 = .ok (.iload_n 2, 1) := by decide +kernel
theorem dX1_whenFirst_24 : decode cX1_whenFirst 24 = .ok (.ireturn, 1) := by decide +kernel
theorem dX1_whenFirst_25 : decode cX1_whenFirst 25 = .ok (.aload_n 0, 1) := by decide +kernel
theorem dX1_whenFirst_26 : decode cX1_whenFirst 26 = .ok (.getfield 12, 3) := by decide +kernel
theorem dX1_whenFirst_29 : decode cX1_whenFirst 29 = .ok (.bipush (-9), 2) := by decide +kernel
theorem dX1_whenFirst_31 : decode cX1_whenFirst 31 = .ok (.invokevirtual 40, 3) := by decide +kernel
theorem dX1_whenFirst_34 : decode cX1_whenFirst 34 = .ok (.iinc 2 1, 3) := by decide +kernel
theorem dX1_whenFirst_37 : decode cX1_whenFirst 37 = .ok (.goto (-29), 3) := by decide +kernel
theorem dX1_whenFirst_40 : decode cX1_whenFirst 40 = .ok (.bipush (-9), 2) := by decide +kernel
theorem dX1_whenFirst_42 : decode cX1_whenFirst 42 = .ok (.ireturn, 1) := by decide +kernel
theorem dX1_leastAtTop_0 : decode cX1_leastAtTop 0 = .ok (.iconst 0, 1) := by decide +kernel
theorem dX1_leastAtTop_1 : decode cX1_leastAtTop 1 = .ok (.istore_n 1, 1) := by decide +kernel
theorem dX1_leastAtTop_2 : decode cX1_leastAtTop 2 = .ok (.iload_n 1, 1) := by decide +kernel
theorem dX1_leastAtTop_3 : decode cX1_leastAtTop 3 = .ok (.aload_n 0, 1) := by decide +kernel
theorem dX1_leastAtTop_4 : decode cX1_leastAtTop 4 = .ok (.getfield 12, 3) := by decide +kernel
theorem dX1_leastAtTop_7 : decode cX1_leastAtTop 7 = .ok (.getfield 51, 3) := by decide +kernel
theorem dX1_leastAtTop_10 : decode cX1_leastAtTop 10 = .ok (.if_icmp .ge 25, 3) := by decide +kernel
theorem dX1_leastAtTop_13 : decode cX1_leastAtTop 13 = .ok (.aload_n 0, 1) := by decide +kernel
theorem dX1_leastAtTop_14 : decode cX1_leastAtTop 14 = .ok (.getfield 12, 3) := by decide +kernel
theorem dX1_leastAtTop_17 : decode cX1_leastAtTop 17 = .ok (.getfield 37, 3) := by decide +kernel
theorem dX1_leastAtTop_20 : decode cX1_leastAtTop 20 = .ok (.iload_n 1, 1) := by decide +kernel
theorem dX1_leastAtTop_21 : decode cX1_leastAtTop 21 = .ok (.iaload, 1) := by decide +kernel
theorem dX1_leastAtTop_22 : decode cX1_leastAtTop 22 = .ok (.bipush 20, 2) := by decide +kernel
theorem dX1_leastAtTop_24 : decode cX1_leastAtTop 24 = .ok (.if_icmp .ne 5, 3) := by decide +kernel
theorem dX1_leastAtTop_27 : decode cX1_leastAtTop 27 = .ok (.iload_n 1, 1) := by decide +kernel
theorem dX1_leastAtTop_28 : decode cX1_leastAtTop 28 = .ok (.ireturn, 1) := by decide +kernel
theorem dX1_leastAtTop_29 : decode cX1_leastAtTop 29 = .ok (.iinc 1 1, 3) := by decide +kernel
theorem dX1_leastAtTop_32 : decode cX1_leastAtTop 32 = .ok (.goto (-30), 3) := by decide +kernel
theorem dX1_leastAtTop_35 : decode cX1_leastAtTop 35 = .ok (.bipush (-9), 2) := by decide +kernel
theorem dX1_leastAtTop_37 : decode cX1_leastAtTop 37 = .ok (.ireturn, 1) := by decide +kernel
theorem dX1_whenRest_0 : decode cX1_whenRest 0 = .ok (.aload_n 0, 1) := by decide +kernel
theorem dX1_whenRest_1 : decode cX1_whenRest 1 = .ok (.aload_n 1, 1) := by decide +kernel
theorem dX1_whenRest_2 : decode cX1_whenRest 2 = .ok (.invokevirtual 33, 3) := by decide +kernel
theorem dX1_whenRest_5 : decode cX1_whenRest 5 = .ok (.pop, 1) := by decide +kernel
theorem dX1_whenRest_6 : decode cX1_whenRest 6 = .ok (.iconst 0, 1) := by decide +kernel
theorem dX1_whenRest_7 : decode cX1_whenRest 7 = .ok (.istore_n 2, 1) := by decide +kernel
theorem dX1_whenRest_8 : decode cX1_whenRest 8 = .ok (.iload_n 2, 1) := by decide +kernel
theorem dX1_whenRest_9 : decode cX1_whenRest 9 = .ok (.bipush 99, 2) := by decide +kernel
theorem dX1_whenRest_11 : decode cX1_whenRest 11 = .ok (.if_icmp .gt 50, 3) := by decide +kernel
theorem dX1_whenRest_14 : decode cX1_whenRest 14 = .ok (.aload_n 0, 1) := by decide +kernel
theorem dX1_whenRest_15 : decode cX1_whenRest 15 = .ok (.getfield 12, 3) := by decide +kernel
theorem dX1_whenRest_18 : decode cX1_whenRest 18 = .ok (.getfield 37, 3) := by decide +kernel
theorem dX1_whenRest_21 : decode cX1_whenRest 21 = .ok (.iconst 0, 1) := by decide +kernel
theorem dX1_whenRest_22 : decode cX1_whenRest 22 = .ok (.aload_n 0, 1) := by decide +kernel
theorem dX1_whenRest_23 : decode cX1_whenRest 23 = .ok (.getfield 18, 3) := by decide +kernel
theorem dX1_whenRest_26 : decode cX1_whenRest 26 = .ok (.iconst 0, 1) := by decide +kernel
theorem dX1_whenRest_27 : decode cX1_whenRest 27 = .ok (.aload_n 0, 1) := by decide +kernel
theorem dX1_whenRest_28 : decode cX1_whenRest 28 = .ok (.getfield 12, 3) := by decide +kernel
theorem dX1_whenRest_31 : decode cX1_whenRest 31 = .ok (.getfield 51, 3) := by decide +kernel
theorem dX1_whenRest_34 : decode cX1_whenRest 34 = .ok (.invokestatic 55, 3) := by decide +kernel
theorem dX1_whenRest_37 : decode cX1_whenRest 37 = .ok (.aload_n 0, 1) := by decide +kernel
theorem dX1_whenRest_38 : decode cX1_whenRest 38 = .ok (.getfield 12, 3) := by decide +kernel
theorem dX1_whenRest_41 : decode cX1_whenRest 41 = .ok (.bipush (-9), 2) := by decide +kernel
theorem dX1_whenRest_43 : decode cX1_whenRest 43 = .ok (.invokevirtual 40, 3) := by decide +kernel
theorem dX1_whenRest_46 : decode cX1_whenRest 46 = .ok (.aload_n 0, 1) := by decide +kernel
theorem dX1_whenRest_47 : decode cX1_whenRest 47 = .ok (.invokevirtual 61, 3) := by decide +kernel
theorem dX1_whenRest_50 : decode cX1_whenRest 50 = .ok (.ifCond .eq 5, 3) := by decide +kernel
theorem dX1_whenRest_53 : decode cX1_whenRest 53 = .ok (.iload_n 2, 1) := by decide +kernel
theorem dX1_whenRest_54 : decode cX1_whenRest 54 = .ok (.ireturn, 1) := by decide +kernel
theorem dX1_whenRest_55 : decode cX1_whenRest 55 = .ok (.iinc 2 1, 3) := by decide +kernel
theorem dX1_whenRest_58 : decode cX1_whenRest 58 = .ok (.goto (-50), 3) := by decide +kernel
theorem dX1_whenRest_61 : decode cX1_whenRest 61 = .ok (.bipush (-9), 2) := by decide +kernel
theorem dX1_whenRest_63 : decode cX1_whenRest 63 = .ok (.ireturn, 1) := by decide +kernel
theorem dX1_isAsBefore_0 : decode cX1_isAsBefore 0 = .ok (.iconst 0, 1) := by decide +kernel
theorem dX1_isAsBefore_1 : decode cX1_isAsBefore 1 = .ok (.istore_n 1, 1) := by decide +kernel
theorem dX1_isAsBefore_2 : decode cX1_isAsBefore 2 = .ok (.iload_n 1, 1) := by decide +kernel
theorem dX1_isAsBefore_3 : decode cX1_isAsBefore 3 = .ok (.aload_n 0, 1) := by decide +kernel
theorem dX1_isAsBefore_4 : decode cX1_isAsBefore 4 = .ok (.getfield 12, 3) := by decide +kernel
theorem dX1_isAsBefore_7 : decode cX1_isAsBefore 7 = .ok (.getfield 51, 3) := by decide +kernel
theorem dX1_isAsBefore_10 : decode cX1_isAsBefore 10 = .ok (.if_icmp .ge 29, 3) := by decide +kernel
theorem dX1_isAsBefore_13 : decode cX1_isAsBefore 13 = .ok (.aload_n 0, 1) := by decide +kernel
theorem dX1_isAsBefore_14 : decode cX1_isAsBefore 14 = .ok (.getfield 12, 3) := by decide +kernel
theorem dX1_isAsBefore_17 : decode cX1_isAsBefore 17 = .ok (.getfield 37, 3) := by decide +kernel
theorem dX1_isAsBefore_20 : decode cX1_isAsBefore 20 = .ok (.iload_n 1, 1) := by decide +kernel
theorem dX1_isAsBefore_21 : decode cX1_isAsBefore 21 = .ok (.iaload, 1) := by decide +kernel
theorem dX1_isAsBefore_22 : decode cX1_isAsBefore 22 = .ok (.aload_n 0, 1) := by decide +kernel
theorem dX1_isAsBefore_23 : decode cX1_isAsBefore 23 = .ok (.getfield 18, 3) := by decide +kernel
theorem dX1_isAsBefore_26 : decode cX1_isAsBefore 26 = .ok (.iload_n 1, 1) := by decide +kernel
theorem dX1_isAsBefore_27 : decode cX1_isAsBefore 27 = .ok (.iaload, 1) := by decide +kernel
theorem dX1_isAsBefore_28 : decode cX1_isAsBefore 28 = .ok (.if_icmp .eq 5, 3) := by decide +kernel
theorem dX1_isAsBefore_31 : decode cX1_isAsBefore 31 = .ok (.iconst 0, 1) := by decide +kernel
theorem dX1_isAsBefore_32 : decode cX1_isAsBefore 32 = .ok (.ireturn, 1) := by decide +kernel
theorem dX1_isAsBefore_33 : decode cX1_isAsBefore 33 = .ok (.iinc 1 1, 3) := by decide +kernel
theorem dX1_isAsBefore_36 : decode cX1_isAsBefore 36 = .ok (.goto (-34), 3) := by decide +kernel
theorem dX1_isAsBefore_39 : decode cX1_isAsBefore 39 = .ok (.iconst 1, 1) := by decide +kernel
theorem dX1_isAsBefore_40 : decode cX1_isAsBefore 40 = .ok (.ireturn, 1) := by decide +kernel
theorem dX1_whenOtherwise_0 : decode cX1_whenOtherwise 0 = .ok (.aload_n 1, 1) := by decide +kernel
theorem dX1_whenOtherwise_1 : decode cX1_whenOtherwise 1 = .ok (.iload_n 2, 1) := by decide +kernel
theorem dX1_whenOtherwise_2 : decode cX1_whenOtherwise 2 = .ok (.invokevirtual 65, 3) := by decide +kernel
theorem dX1_whenOtherwise_5 : decode cX1_whenOtherwise 5 = .ok (.istore_n 3, 1) := by decide +kernel
theorem dX1_whenOtherwise_6 : decode cX1_whenOtherwise 6 = .ok (.aload_n 0, 1) := by decide +kernel
theorem dX1_whenOtherwise_7 : decode cX1_whenOtherwise 7 = .ok (.aload_n 1, 1) := by decide +kernel
theorem dX1_whenOtherwise_8 : decode cX1_whenOtherwise 8 = .ok (.invokevirtual 33, 3) := by decide +kernel
theorem dX1_whenOtherwise_11 : decode cX1_whenOtherwise 11 = .ok (.pop, 1) := by decide +kernel
theorem dX1_whenOtherwise_12 : decode cX1_whenOtherwise 12 = .ok (.iconst 1, 1) := by decide +kernel
theorem dX1_whenOtherwise_13 : decode cX1_whenOtherwise 13 = .ok (.istore 4, 2) := by decide +kernel
theorem dX1_whenOtherwise_15 : decode cX1_whenOtherwise 15 = .ok (.iload 4, 2) := by decide +kernel
theorem dX1_whenOtherwise_17 : decode cX1_whenOtherwise 17 = .ok (.bipush 99, 2) := by decide +kernel
theorem dX1_whenOtherwise_19 : decode cX1_whenOtherwise 19 = .ok (.if_icmp .gt 33, 3) := by decide +kernel
theorem dX1_whenOtherwise_22 : decode cX1_whenOtherwise 22 = .ok (.aload_n 0, 1) := by decide +kernel
theorem dX1_whenOtherwise_23 : decode cX1_whenOtherwise 23 = .ok (.getfield 12, 3) := by decide +kernel
theorem dX1_whenOtherwise_26 : decode cX1_whenOtherwise 26 = .ok (.bipush (-9), 2) := by decide +kernel
theorem dX1_whenOtherwise_28 : decode cX1_whenOtherwise 28 = .ok (.invokevirtual 40, 3) := by decide +kernel
theorem dX1_whenOtherwise_31 : decode cX1_whenOtherwise 31 = .ok (.aload_n 0, 1) := by decide +kernel
theorem dX1_whenOtherwise_32 : decode cX1_whenOtherwise 32 = .ok (.getfield 12, 3) := by decide +kernel
theorem dX1_whenOtherwise_35 : decode cX1_whenOtherwise 35 = .ok (.iload_n 2, 1) := by decide +kernel
theorem dX1_whenOtherwise_36 : decode cX1_whenOtherwise 36 = .ok (.invokevirtual 65, 3) := by decide +kernel
theorem dX1_whenOtherwise_39 : decode cX1_whenOtherwise 39 = .ok (.iload_n 3, 1) := by decide +kernel
theorem dX1_whenOtherwise_40 : decode cX1_whenOtherwise 40 = .ok (.if_icmp .eq 6, 3) := by decide +kernel
theorem dX1_whenOtherwise_43 : decode cX1_whenOtherwise 43 = .ok (.iload 4, 2) := by decide +kernel
theorem dX1_whenOtherwise_45 : decode cX1_whenOtherwise 45 = .ok (.ireturn, 1) := by decide +kernel
theorem dX1_whenOtherwise_46 : decode cX1_whenOtherwise 46 = .ok (.iinc 4 1, 3) := by decide +kernel
theorem dX1_whenOtherwise_49 : decode cX1_whenOtherwise 49 = .ok (.goto (-34), 3) := by decide +kernel
theorem dX1_whenOtherwise_52 : decode cX1_whenOtherwise 52 = .ok (.bipush (-9), 2) := by decide +kernel
theorem dX1_whenOtherwise_54 : decode cX1_whenOtherwise 54 = .ok (.ireturn, 1) := by decide +kernel
theorem dX1_whenLevel_0 : decode cX1_whenLevel 0 = .ok (.aload_n 0, 1) := by decide +kernel
theorem dX1_whenLevel_1 : decode cX1_whenLevel 1 = .ok (.aload_n 1, 1) := by decide +kernel
theorem dX1_whenLevel_2 : decode cX1_whenLevel 2 = .ok (.invokevirtual 33, 3) := by decide +kernel
theorem dX1_whenLevel_5 : decode cX1_whenLevel 5 = .ok (.pop, 1) := by decide +kernel
theorem dX1_whenLevel_6 : decode cX1_whenLevel 6 = .ok (.iconst 0, 1) := by decide +kernel
theorem dX1_whenLevel_7 : decode cX1_whenLevel 7 = .ok (.istore 4, 2) := by decide +kernel
theorem dX1_whenLevel_9 : decode cX1_whenLevel 9 = .ok (.iload 4, 2) := by decide +kernel
theorem dX1_whenLevel_11 : decode cX1_whenLevel 11 = .ok (.bipush 99, 2) := by decide +kernel
theorem dX1_whenLevel_13 : decode cX1_whenLevel 13 = .ok (.if_icmp .gt 42, 3) := by decide +kernel
theorem dX1_whenLevel_16 : decode cX1_whenLevel 16 = .ok (.aload_n 0, 1) := by decide +kernel
theorem dX1_whenLevel_17 : decode cX1_whenLevel 17 = .ok (.getfield 12, 3) := by decide +kernel
theorem dX1_whenLevel_20 : decode cX1_whenLevel 20 = .ok (.getfield 37, 3) := by decide +kernel
theorem dX1_whenLevel_23 : decode cX1_whenLevel 23 = .ok (.iload_n 2, 1) := by decide +kernel
theorem dX1_whenLevel_24 : decode cX1_whenLevel 24 = .ok (.iaload, 1) := by decide +kernel
theorem dX1_whenLevel_25 : decode cX1_whenLevel 25 = .ok (.aload_n 0, 1) := by decide +kernel
theorem dX1_whenLevel_26 : decode cX1_whenLevel 26 = .ok (.getfield 12, 3) := by decide +kernel
theorem dX1_whenLevel_29 : decode cX1_whenLevel 29 = .ok (.getfield 37, 3) := by decide +kernel
theorem dX1_whenLevel_32 : decode cX1_whenLevel 32 = .ok (.iload_n 3, 1) := by decide +kernel
theorem dX1_whenLevel_33 : decode cX1_whenLevel 33 = .ok (.iaload, 1) := by decide +kernel
theorem dX1_whenLevel_34 : decode cX1_whenLevel 34 = .ok (.if_icmp .ne 6, 3) := by decide +kernel
theorem dX1_whenLevel_37 : decode cX1_whenLevel 37 = .ok (.iload 4, 2) := by decide +kernel
theorem dX1_whenLevel_39 : decode cX1_whenLevel 39 = .ok (.ireturn, 1) := by decide +kernel
theorem dX1_whenLevel_40 : decode cX1_whenLevel 40 = .ok (.aload_n 0, 1) := by decide +kernel
theorem dX1_whenLevel_41 : decode cX1_whenLevel 41 = .ok (.getfield 12, 3) := by decide +kernel
theorem dX1_whenLevel_44 : decode cX1_whenLevel 44 = .ok (.bipush (-9), 2) := by decide +kernel
theorem dX1_whenLevel_46 : decode cX1_whenLevel 46 = .ok (.invokevirtual 40, 3) := by decide +kernel
theorem dX1_whenLevel_49 : decode cX1_whenLevel 49 = .ok (.iinc 4 1, 3) := by decide +kernel
theorem dX1_whenLevel_52 : decode cX1_whenLevel 52 = .ok (.goto (-43), 3) := by decide +kernel
theorem dX1_whenLevel_55 : decode cX1_whenLevel 55 = .ok (.bipush (-9), 2) := by decide +kernel
theorem dX1_whenLevel_57 : decode cX1_whenLevel 57 = .ok (.ireturn, 1) := by decide +kernel
theorem dX1_fewestLess_0 : decode cX1_fewestLess 0 = .ok (.iconst 0, 1) := by decide +kernel
theorem dX1_fewestLess_1 : decode cX1_fewestLess 1 = .ok (.istore 5, 2) := by decide +kernel
theorem dX1_fewestLess_3 : decode cX1_fewestLess 3 = .ok (.iload 5, 2) := by decide +kernel
theorem dX1_fewestLess_5 : decode cX1_fewestLess 5 = .ok (.aload_n 1, 1) := by decide +kernel
theorem dX1_fewestLess_6 : decode cX1_fewestLess 6 = .ok (.getfield 69, 3) := by decide +kernel
theorem dX1_fewestLess_9 : decode cX1_fewestLess 9 = .ok (.iload_n 2, 1) := by decide +kernel
theorem dX1_fewestLess_10 : decode cX1_fewestLess 10 = .ok (.iaload, 1) := by decide +kernel
theorem dX1_fewestLess_11 : decode cX1_fewestLess 11 = .ok (.if_icmp .gt 33, 3) := by decide +kernel
theorem dX1_fewestLess_14 : decode cX1_fewestLess 14 = .ok (.aload_n 0, 1) := by decide +kernel
theorem dX1_fewestLess_15 : decode cX1_fewestLess 15 = .ok (.aload_n 1, 1) := by decide +kernel
theorem dX1_fewestLess_16 : decode cX1_fewestLess 16 = .ok (.iload_n 2, 1) := by decide +kernel
theorem dX1_fewestLess_17 : decode cX1_fewestLess 17 = .ok (.aload_n 1, 1) := by decide +kernel
theorem dX1_fewestLess_18 : decode cX1_fewestLess 18 = .ok (.getfield 69, 3) := by decide +kernel
theorem dX1_fewestLess_21 : decode cX1_fewestLess 21 = .ok (.iload_n 2, 1) := by decide +kernel
theorem dX1_fewestLess_22 : decode cX1_fewestLess 22 = .ok (.iaload, 1) := by decide +kernel
theorem dX1_fewestLess_23 : decode cX1_fewestLess 23 = .ok (.iload 5, 2) := by decide +kernel
theorem dX1_fewestLess_25 : decode cX1_fewestLess 25 = .ok (.isub, 1) := by decide +kernel
theorem dX1_fewestLess_26 : decode cX1_fewestLess 26 = .ok (.iload 4, 2) := by decide +kernel
theorem dX1_fewestLess_28 : decode cX1_fewestLess 28 = .ok (.invokevirtual 72, 3) := by decide +kernel
theorem dX1_fewestLess_31 : decode cX1_fewestLess 31 = .ok (.iload_n 3, 1) := by decide +kernel
theorem dX1_fewestLess_32 : decode cX1_fewestLess 32 = .ok (.if_icmp .lt 6, 3) := by decide +kernel
theorem dX1_fewestLess_35 : decode cX1_fewestLess 35 = .ok (.iload 5, 2) := by decide +kernel
theorem dX1_fewestLess_37 : decode cX1_fewestLess 37 = .ok (.ireturn, 1) := by decide +kernel
theorem dX1_fewestLess_38 : decode cX1_fewestLess 38 = .ok (.iinc 5 1, 3) := by decide +kernel
theorem dX1_fewestLess_41 : decode cX1_fewestLess 41 = .ok (.goto (-38), 3) := by decide +kernel
theorem dX1_fewestLess_44 : decode cX1_fewestLess 44 = .ok (.bipush (-9), 2) := by decide +kernel
theorem dX1_fewestLess_46 : decode cX1_fewestLess 46 = .ok (.ireturn, 1) := by decide +kernel
theorem dX1_fewestMore_0 : decode cX1_fewestMore 0 = .ok (.iconst 0, 1) := by decide +kernel
theorem dX1_fewestMore_1 : decode cX1_fewestMore 1 = .ok (.istore 5, 2) := by decide +kernel
theorem dX1_fewestMore_3 : decode cX1_fewestMore 3 = .ok (.aload_n 1, 1) := by decide +kernel
theorem dX1_fewestMore_4 : decode cX1_fewestMore 4 = .ok (.getfield 69, 3) := by decide +kernel
theorem dX1_fewestMore_7 : decode cX1_fewestMore 7 = .ok (.iload_n 2, 1) := by decide +kernel
theorem dX1_fewestMore_8 : decode cX1_fewestMore 8 = .ok (.iaload, 1) := by decide +kernel
theorem dX1_fewestMore_9 : decode cX1_fewestMore 9 = .ok (.iload 5, 2) := by decide +kernel
theorem dX1_fewestMore_11 : decode cX1_fewestMore 11 = .ok (.iadd, 1) := by decide +kernel
theorem dX1_fewestMore_12 : decode cX1_fewestMore 12 = .ok (.bipush 9, 2) := by decide +kernel
theorem dX1_fewestMore_14 : decode cX1_fewestMore 14 = .ok (.if_icmp .gt 33, 3) := by decide +kernel
theorem dX1_fewestMore_17 : decode cX1_fewestMore 17 = .ok (.aload_n 0, 1) := by decide +kernel
theorem dX1_fewestMore_18 : decode cX1_fewestMore 18 = .ok (.aload_n 1, 1) := by decide +kernel
theorem dX1_fewestMore_19 : decode cX1_fewestMore 19 = .ok (.iload_n 2, 1) := by decide +kernel
theorem dX1_fewestMore_20 : decode cX1_fewestMore 20 = .ok (.aload_n 1, 1) := by decide +kernel
theorem dX1_fewestMore_21 : decode cX1_fewestMore 21 = .ok (.getfield 69, 3) := by decide +kernel
theorem dX1_fewestMore_24 : decode cX1_fewestMore 24 = .ok (.iload_n 2, 1) := by decide +kernel
theorem dX1_fewestMore_25 : decode cX1_fewestMore 25 = .ok (.iaload, 1) := by decide +kernel
theorem dX1_fewestMore_26 : decode cX1_fewestMore 26 = .ok (.iload 5, 2) := by decide +kernel
theorem dX1_fewestMore_28 : decode cX1_fewestMore 28 = .ok (.iadd, 1) := by decide +kernel
theorem dX1_fewestMore_29 : decode cX1_fewestMore 29 = .ok (.iload 4, 2) := by decide +kernel
theorem dX1_fewestMore_31 : decode cX1_fewestMore 31 = .ok (.invokevirtual 72, 3) := by decide +kernel
theorem dX1_fewestMore_34 : decode cX1_fewestMore 34 = .ok (.iload_n 3, 1) := by decide +kernel
theorem dX1_fewestMore_35 : decode cX1_fewestMore 35 = .ok (.if_icmp .gt 6, 3) := by decide +kernel
theorem dX1_fewestMore_38 : decode cX1_fewestMore 38 = .ok (.iload 5, 2) := by decide +kernel
theorem dX1_fewestMore_40 : decode cX1_fewestMore 40 = .ok (.ireturn, 1) := by decide +kernel
theorem dX1_fewestMore_41 : decode cX1_fewestMore 41 = .ok (.iinc 5 1, 3) := by decide +kernel
theorem dX1_fewestMore_44 : decode cX1_fewestMore 44 = .ok (.goto (-41), 3) := by decide +kernel
theorem dX1_fewestMore_47 : decode cX1_fewestMore 47 = .ok (.bipush (-9), 2) := by decide +kernel
theorem dX1_fewestMore_49 : decode cX1_fewestMore 49 = .ok (.ireturn, 1) := by decide +kernel
theorem dX1_heightByStones_0 : decode cX1_heightByStones 0 = .ok (.aload_n 0, 1) := by decide +kernel
theorem dX1_heightByStones_1 : decode cX1_heightByStones 1 = .ok (.aload_n 1, 1) := by decide +kernel
theorem dX1_heightByStones_2 : decode cX1_heightByStones 2 = .ok (.invokevirtual 33, 3) := by decide +kernel
theorem dX1_heightByStones_5 : decode cX1_heightByStones 5 = .ok (.pop, 1) := by decide +kernel
theorem dX1_heightByStones_6 : decode cX1_heightByStones 6 = .ok (.aload_n 0, 1) := by decide +kernel
theorem dX1_heightByStones_7 : decode cX1_heightByStones 7 = .ok (.getfield 12, 3) := by decide +kernel
theorem dX1_heightByStones_10 : decode cX1_heightByStones 10 = .ok (.getfield 69, 3) := by decide +kernel
theorem dX1_heightByStones_13 : decode cX1_heightByStones 13 = .ok (.iload_n 2, 1) := by decide +kernel
theorem dX1_heightByStones_14 : decode cX1_heightByStones 14 = .ok (.iload_n 3, 1) := by decide +kernel
theorem dX1_heightByStones_15 : decode cX1_heightByStones 15 = .ok (.iastore, 1) := by decide +kernel
theorem dX1_heightByStones_16 : decode cX1_heightByStones 16 = .ok (.aload_n 0, 1) := by decide +kernel
theorem dX1_heightByStones_17 : decode cX1_heightByStones 17 = .ok (.getfield 12, 3) := by decide +kernel
theorem dX1_heightByStones_20 : decode cX1_heightByStones 20 = .ok (.iload 4, 2) := by decide +kernel
theorem dX1_heightByStones_22 : decode cX1_heightByStones 22 = .ok (.invokevirtual 29, 3) := by decide +kernel
theorem dX1_heightByStones_25 : decode cX1_heightByStones 25 = .ok (.aload_n 0, 1) := by decide +kernel
theorem dX1_heightByStones_26 : decode cX1_heightByStones 26 = .ok (.getfield 12, 3) := by decide +kernel
theorem dX1_heightByStones_29 : decode cX1_heightByStones 29 = .ok (.getfield 37, 3) := by decide +kernel
theorem dX1_heightByStones_32 : decode cX1_heightByStones 32 = .ok (.iload_n 2, 1) := by decide +kernel
theorem dX1_heightByStones_33 : decode cX1_heightByStones 33 = .ok (.iaload, 1) := by decide +kernel
theorem dX1_heightByStones_34 : decode cX1_heightByStones 34 = .ok (.ireturn, 1) := by decide +kernel
theorem dX1_highestByTie_0 : decode cX1_highestByTie 0 = .ok (.aload_n 1, 1) := by decide +kernel
theorem dX1_highestByTie_1 : decode cX1_highestByTie 1 = .ok (.getfield 76, 3) := by decide +kernel
theorem dX1_highestByTie_4 : decode cX1_highestByTie 4 = .ok (.bipush 6, 2) := by decide +kernel
theorem dX1_highestByTie_6 : decode cX1_highestByTie 6 = .ok (.if_icmp .lt 6, 3) := by decide +kernel
theorem dX1_highestByTie_9 : decode cX1_highestByTie 9 = .ok (.bipush (-9), 2) := by decide +kernel
theorem dX1_highestByTie_11 : decode cX1_highestByTie 11 = .ok (.ireturn, 1) := by decide +kernel
theorem dX1_highestByTie_12 : decode cX1_highestByTie 12 = .ok (.bipush (-9), 2) := by decide +kernel
theorem dX1_highestByTie_14 : decode cX1_highestByTie 14 = .ok (.istore 4, 2) := by decide +kernel
theorem dX1_highestByTie_16 : decode cX1_highestByTie 16 = .ok (.aload_n 0, 1) := by decide +kernel
theorem dX1_highestByTie_17 : decode cX1_highestByTie 17 = .ok (.aload_n 1, 1) := by decide +kernel
theorem dX1_highestByTie_18 : decode cX1_highestByTie 18 = .ok (.iload_n 3, 1) := by decide +kernel
theorem dX1_highestByTie_19 : decode cX1_highestByTie 19 = .ok (.invokevirtual 79, 3) := by decide +kernel
theorem dX1_highestByTie_22 : decode cX1_highestByTie 22 = .ok (.getfield 37, 3) := by decide +kernel
theorem dX1_highestByTie_25 : decode cX1_highestByTie 25 = .ok (.iload_n 2, 1) := by decide +kernel
theorem dX1_highestByTie_26 : decode cX1_highestByTie 26 = .ok (.iaload, 1) := by decide +kernel
theorem dX1_highestByTie_27 : decode cX1_highestByTie 27 = .ok (.istore 5, 2) := by decide +kernel
theorem dX1_highestByTie_29 : decode cX1_highestByTie 29 = .ok (.iconst 0, 1) := by decide +kernel
theorem dX1_highestByTie_30 : decode cX1_highestByTie 30 = .ok (.istore 6, 2) := by decide +kernel
theorem dX1_highestByTie_32 : decode cX1_highestByTie 32 = .ok (.iload 6, 2) := by decide +kernel
theorem dX1_highestByTie_34 : decode cX1_highestByTie 34 = .ok (.aload_n 1, 1) := by decide +kernel
theorem dX1_highestByTie_35 : decode cX1_highestByTie 35 = .ok (.getfield 51, 3) := by decide +kernel
theorem dX1_highestByTie_38 : decode cX1_highestByTie 38 = .ok (.if_icmp .ge 69, 3) := by decide +kernel
theorem dX1_highestByTie_41 : decode cX1_highestByTie 41 = .ok (.iload 6, 2) := by decide +kernel
theorem dX1_highestByTie_43 : decode cX1_highestByTie 43 = .ok (.iload_n 2, 1) := by decide +kernel
theorem dX1_highestByTie_44 : decode cX1_highestByTie 44 = .ok (.if_icmp .eq 57, 3) := by decide +kernel
theorem dX1_highestByTie_47 : decode cX1_highestByTie 47 = .ok (.aload_n 0, 1) := by decide +kernel
theorem dX1_highestByTie_48 : decode cX1_highestByTie 48 = .ok (.aload_n 1, 1) := by decide +kernel
theorem dX1_highestByTie_49 : decode cX1_highestByTie 49 = .ok (.invokevirtual 33, 3) := by decide +kernel
theorem dX1_highestByTie_52 : decode cX1_highestByTie 52 = .ok (.pop, 1) := by decide +kernel
theorem dX1_highestByTie_53 : decode cX1_highestByTie 53 = .ok (.aload_n 0, 1) := by decide +kernel
theorem dX1_highestByTie_54 : decode cX1_highestByTie 54 = .ok (.getfield 12, 3) := by decide +kernel
theorem dX1_highestByTie_57 : decode cX1_highestByTie 57 = .ok (.iload_n 2, 1) := by decide +kernel
theorem dX1_highestByTie_58 : decode cX1_highestByTie 58 = .ok (.iload 6, 2) := by decide +kernel
theorem dX1_highestByTie_60 : decode cX1_highestByTie 60 = .ok (.invokevirtual 83, 3) := by decide +kernel
theorem dX1_highestByTie_63 : decode cX1_highestByTie 63 = .ok (.pop, 1) := by decide +kernel
theorem dX1_highestByTie_64 : decode cX1_highestByTie 64 = .ok (.aload_n 0, 1) := by decide +kernel
theorem dX1_highestByTie_65 : decode cX1_highestByTie 65 = .ok (.getfield 12, 3) := by decide +kernel
theorem dX1_highestByTie_68 : decode cX1_highestByTie 68 = .ok (.iload_n 3, 1) := by decide +kernel
theorem dX1_highestByTie_69 : decode cX1_highestByTie 69 = .ok (.invokevirtual 29, 3) := by decide +kernel
theorem dX1_highestByTie_72 : decode cX1_highestByTie 72 = .ok (.aload_n 0, 1) := by decide +kernel
theorem dX1_highestByTie_73 : decode cX1_highestByTie 73 = .ok (.getfield 12, 3) := by decide +kernel
theorem dX1_highestByTie_76 : decode cX1_highestByTie 76 = .ok (.getfield 37, 3) := by decide +kernel
theorem dX1_highestByTie_79 : decode cX1_highestByTie 79 = .ok (.iload_n 2, 1) := by decide +kernel
theorem dX1_highestByTie_80 : decode cX1_highestByTie 80 = .ok (.iaload, 1) := by decide +kernel
theorem dX1_highestByTie_81 : decode cX1_highestByTie 81 = .ok (.iload 5, 2) := by decide +kernel
theorem dX1_highestByTie_83 : decode cX1_highestByTie 83 = .ok (.if_icmp .le 18, 3) := by decide +kernel
theorem dX1_highestByTie_86 : decode cX1_highestByTie 86 = .ok (.aload_n 0, 1) := by decide +kernel
theorem dX1_highestByTie_87 : decode cX1_highestByTie 87 = .ok (.getfield 12, 3) := by decide +kernel
theorem dX1_highestByTie_90 : decode cX1_highestByTie 90 = .ok (.getfield 37, 3) := by decide +kernel
theorem dX1_highestByTie_93 : decode cX1_highestByTie 93 = .ok (.iload_n 2, 1) := by decide +kernel
theorem dX1_highestByTie_94 : decode cX1_highestByTie 94 = .ok (.iaload, 1) := by decide +kernel
theorem dX1_highestByTie_95 : decode cX1_highestByTie 95 = .ok (.istore 5, 2) := by decide +kernel
theorem dX1_highestByTie_97 : decode cX1_highestByTie 97 = .ok (.iload 6, 2) := by decide +kernel
theorem dX1_highestByTie_99 : decode cX1_highestByTie 99 = .ok (.istore 4, 2) := by decide +kernel
theorem dX1_highestByTie_101 : decode cX1_highestByTie 101 = .ok (.iinc 6 1, 3) := by decide +kernel
theorem dX1_highestByTie_104 : decode cX1_highestByTie 104 = .ok (.goto (-72), 3) := by decide +kernel
theorem dX1_highestByTie_107 : decode cX1_highestByTie 107 = .ok (.iload 4, 2) := by decide +kernel
theorem dX1_highestByTie_109 : decode cX1_highestByTie 109 = .ok (.ireturn, 1) := by decide +kernel
theorem dX1_highestByCut_0 : decode cX1_highestByCut 0 = .ok (.bipush (-9), 2) := by decide +kernel
theorem dX1_highestByCut_2 : decode cX1_highestByCut 2 = .ok (.istore 4, 2) := by decide +kernel
theorem dX1_highestByCut_4 : decode cX1_highestByCut 4 = .ok (.aload_n 0, 1) := by decide +kernel
theorem dX1_highestByCut_5 : decode cX1_highestByCut 5 = .ok (.aload_n 1, 1) := by decide +kernel
theorem dX1_highestByCut_6 : decode cX1_highestByCut 6 = .ok (.iload_n 3, 1) := by decide +kernel
theorem dX1_highestByCut_7 : decode cX1_highestByCut 7 = .ok (.invokevirtual 79, 3) := by decide +kernel
theorem dX1_highestByCut_10 : decode cX1_highestByCut 10 = .ok (.getfield 37, 3) := by decide +kernel
theorem dX1_highestByCut_13 : decode cX1_highestByCut 13 = .ok (.iload_n 2, 1) := by decide +kernel
theorem dX1_highestByCut_14 : decode cX1_highestByCut 14 = .ok (.iaload, 1) := by decide +kernel
theorem dX1_highestByCut_15 : decode cX1_highestByCut 15 = .ok (.istore 5, 2) := by decide +kernel
theorem dX1_highestByCut_17 : decode cX1_highestByCut 17 = .ok (.iconst 0, 1) := by decide +kernel
theorem dX1_highestByCut_18 : decode cX1_highestByCut 18 = .ok (.istore 6, 2) := by decide +kernel
theorem dX1_highestByCut_20 : decode cX1_highestByCut 20 = .ok (.iload 6, 2) := by decide +kernel
theorem dX1_highestByCut_22 : decode cX1_highestByCut 22 = .ok (.aload_n 1, 1) := by decide +kernel
theorem dX1_highestByCut_23 : decode cX1_highestByCut 23 = .ok (.getfield 76, 3) := by decide +kernel
theorem dX1_highestByCut_26 : decode cX1_highestByCut 26 = .ok (.if_icmp .ge 62, 3) := by decide +kernel
theorem dX1_highestByCut_29 : decode cX1_highestByCut 29 = .ok (.aload_n 0, 1) := by decide +kernel
theorem dX1_highestByCut_30 : decode cX1_highestByCut 30 = .ok (.aload_n 1, 1) := by decide +kernel
theorem dX1_highestByCut_31 : decode cX1_highestByCut 31 = .ok (.invokevirtual 33, 3) := by decide +kernel
theorem dX1_highestByCut_34 : decode cX1_highestByCut 34 = .ok (.pop, 1) := by decide +kernel
theorem dX1_highestByCut_35 : decode cX1_highestByCut 35 = .ok (.aload_n 0, 1) := by decide +kernel
theorem dX1_highestByCut_36 : decode cX1_highestByCut 36 = .ok (.getfield 12, 3) := by decide +kernel
theorem dX1_highestByCut_39 : decode cX1_highestByCut 39 = .ok (.iload 6, 2) := by decide +kernel
theorem dX1_highestByCut_41 : decode cX1_highestByCut 41 = .ok (.invokevirtual 87, 3) := by decide +kernel
theorem dX1_highestByCut_44 : decode cX1_highestByCut 44 = .ok (.pop, 1) := by decide +kernel
theorem dX1_highestByCut_45 : decode cX1_highestByCut 45 = .ok (.aload_n 0, 1) := by decide +kernel
theorem dX1_highestByCut_46 : decode cX1_highestByCut 46 = .ok (.getfield 12, 3) := by decide +kernel
theorem dX1_highestByCut_49 : decode cX1_highestByCut 49 = .ok (.iload_n 3, 1) := by decide +kernel
theorem dX1_highestByCut_50 : decode cX1_highestByCut 50 = .ok (.invokevirtual 29, 3) := by decide +kernel
theorem dX1_highestByCut_53 : decode cX1_highestByCut 53 = .ok (.aload_n 0, 1) := by decide +kernel
theorem dX1_highestByCut_54 : decode cX1_highestByCut 54 = .ok (.getfield 12, 3) := by decide +kernel
theorem dX1_highestByCut_57 : decode cX1_highestByCut 57 = .ok (.getfield 37, 3) := by decide +kernel
theorem dX1_highestByCut_60 : decode cX1_highestByCut 60 = .ok (.iload_n 2, 1) := by decide +kernel
theorem dX1_highestByCut_61 : decode cX1_highestByCut 61 = .ok (.iaload, 1) := by decide +kernel
theorem dX1_highestByCut_62 : decode cX1_highestByCut 62 = .ok (.iload 5, 2) := by decide +kernel
theorem dX1_highestByCut_64 : decode cX1_highestByCut 64 = .ok (.if_icmp .le 18, 3) := by decide +kernel
theorem dX1_highestByCut_67 : decode cX1_highestByCut 67 = .ok (.aload_n 0, 1) := by decide +kernel
theorem dX1_highestByCut_68 : decode cX1_highestByCut 68 = .ok (.getfield 12, 3) := by decide +kernel
theorem dX1_highestByCut_71 : decode cX1_highestByCut 71 = .ok (.getfield 37, 3) := by decide +kernel
theorem dX1_highestByCut_74 : decode cX1_highestByCut 74 = .ok (.iload_n 2, 1) := by decide +kernel
theorem dX1_highestByCut_75 : decode cX1_highestByCut 75 = .ok (.iaload, 1) := by decide +kernel
theorem dX1_highestByCut_76 : decode cX1_highestByCut 76 = .ok (.istore 5, 2) := by decide +kernel
theorem dX1_highestByCut_78 : decode cX1_highestByCut 78 = .ok (.iload 6, 2) := by decide +kernel
theorem dX1_highestByCut_80 : decode cX1_highestByCut 80 = .ok (.istore 4, 2) := by decide +kernel
theorem dX1_highestByCut_82 : decode cX1_highestByCut 82 = .ok (.iinc 6 1, 3) := by decide +kernel
theorem dX1_highestByCut_85 : decode cX1_highestByCut 85 = .ok (.goto (-65), 3) := by decide +kernel
theorem dX1_highestByCut_88 : decode cX1_highestByCut 88 = .ok (.iload 4, 2) := by decide +kernel
theorem dX1_highestByCut_90 : decode cX1_highestByCut 90 = .ok (.ireturn, 1) := by decide +kernel
theorem dX1_highestByStone_0 : decode cX1_highestByStone 0 = .ok (.bipush (-9), 2) := by decide +kernel
theorem dX1_highestByStone_2 : decode cX1_highestByStone 2 = .ok (.istore_n 3, 1) := by decide +kernel
theorem dX1_highestByStone_3 : decode cX1_highestByStone 3 = .ok (.aload_n 0, 1) := by decide +kernel
theorem dX1_highestByStone_4 : decode cX1_highestByStone 4 = .ok (.aload_n 1, 1) := by decide +kernel
theorem dX1_highestByStone_5 : decode cX1_highestByStone 5 = .ok (.iload_n 2, 1) := by decide +kernel
theorem dX1_highestByStone_6 : decode cX1_highestByStone 6 = .ok (.invokevirtual 79, 3) := by decide +kernel
theorem dX1_highestByStone_9 : decode cX1_highestByStone 9 = .ok (.invokevirtual 90, 3) := by decide +kernel
theorem dX1_highestByStone_12 : decode cX1_highestByStone 12 = .ok (.istore 4, 2) := by decide +kernel
theorem dX1_highestByStone_14 : decode cX1_highestByStone 14 = .ok (.iconst 0, 1) := by decide +kernel
theorem dX1_highestByStone_15 : decode cX1_highestByStone 15 = .ok (.istore 5, 2) := by decide +kernel
theorem dX1_highestByStone_17 : decode cX1_highestByStone 17 = .ok (.iload 5, 2) := by decide +kernel
theorem dX1_highestByStone_19 : decode cX1_highestByStone 19 = .ok (.aload_n 1, 1) := by decide +kernel
theorem dX1_highestByStone_20 : decode cX1_highestByStone 20 = .ok (.getfield 51, 3) := by decide +kernel
theorem dX1_highestByStone_23 : decode cX1_highestByStone 23 = .ok (.if_icmp .ge 73, 3) := by decide +kernel
theorem dX1_highestByStone_26 : decode cX1_highestByStone 26 = .ok (.aload_n 1, 1) := by decide +kernel
theorem dX1_highestByStone_27 : decode cX1_highestByStone 27 = .ok (.getfield 69, 3) := by decide +kernel
theorem dX1_highestByStone_30 : decode cX1_highestByStone 30 = .ok (.iload 5, 2) := by decide +kernel
theorem dX1_highestByStone_32 : decode cX1_highestByStone 32 = .ok (.iaload, 1) := by decide +kernel
theorem dX1_highestByStone_33 : decode cX1_highestByStone 33 = .ok (.bipush 9, 2) := by decide +kernel
theorem dX1_highestByStone_35 : decode cX1_highestByStone 35 = .ok (.if_icmp .ge 55, 3) := by decide +kernel
theorem dX1_highestByStone_38 : decode cX1_highestByStone 38 = .ok (.aload_n 0, 1) := by decide +kernel
theorem dX1_highestByStone_39 : decode cX1_highestByStone 39 = .ok (.aload_n 1, 1) := by decide +kernel
theorem dX1_highestByStone_40 : decode cX1_highestByStone 40 = .ok (.invokevirtual 33, 3) := by decide +kernel
theorem dX1_highestByStone_43 : decode cX1_highestByStone 43 = .ok (.pop, 1) := by decide +kernel
theorem dX1_highestByStone_44 : decode cX1_highestByStone 44 = .ok (.aload_n 0, 1) := by decide +kernel
theorem dX1_highestByStone_45 : decode cX1_highestByStone 45 = .ok (.getfield 12, 3) := by decide +kernel
theorem dX1_highestByStone_48 : decode cX1_highestByStone 48 = .ok (.getfield 69, 3) := by decide +kernel
theorem dX1_highestByStone_51 : decode cX1_highestByStone 51 = .ok (.iload 5, 2) := by decide +kernel
theorem dX1_highestByStone_53 : decode cX1_highestByStone 53 = .ok (.dup2, 1) := by decide +kernel
theorem dX1_highestByStone_54 : decode cX1_highestByStone 54 = .ok (.iaload, 1) := by decide +kernel
theorem dX1_highestByStone_55 : decode cX1_highestByStone 55 = .ok (.iconst 1, 1) := by decide +kernel
theorem dX1_highestByStone_56 : decode cX1_highestByStone 56 = .ok (.iadd, 1) := by decide +kernel
theorem dX1_highestByStone_57 : decode cX1_highestByStone 57 = .ok (.iastore, 1) := by decide +kernel
theorem dX1_highestByStone_58 : decode cX1_highestByStone 58 = .ok (.aload_n 0, 1) := by decide +kernel
theorem dX1_highestByStone_59 : decode cX1_highestByStone 59 = .ok (.getfield 12, 3) := by decide +kernel
theorem dX1_highestByStone_62 : decode cX1_highestByStone 62 = .ok (.iload_n 2, 1) := by decide +kernel
theorem dX1_highestByStone_63 : decode cX1_highestByStone 63 = .ok (.invokevirtual 29, 3) := by decide +kernel
theorem dX1_highestByStone_66 : decode cX1_highestByStone 66 = .ok (.aload_n 0, 1) := by decide +kernel
theorem dX1_highestByStone_67 : decode cX1_highestByStone 67 = .ok (.getfield 12, 3) := by decide +kernel
theorem dX1_highestByStone_70 : decode cX1_highestByStone 70 = .ok (.invokevirtual 90, 3) := by decide +kernel
theorem dX1_highestByStone_73 : decode cX1_highestByStone 73 = .ok (.iload 4, 2) := by decide +kernel
theorem dX1_highestByStone_75 : decode cX1_highestByStone 75 = .ok (.if_icmp .le 15, 3) := by decide +kernel
theorem dX1_highestByStone_78 : decode cX1_highestByStone 78 = .ok (.aload_n 0, 1) := by decide +kernel
theorem dX1_highestByStone_79 : decode cX1_highestByStone 79 = .ok (.getfield 12, 3) := by decide +kernel
theorem dX1_highestByStone_82 : decode cX1_highestByStone 82 = .ok (.invokevirtual 90, 3) := by decide +kernel
theorem dX1_highestByStone_85 : decode cX1_highestByStone 85 = .ok (.istore 4, 2) := by decide +kernel
theorem dX1_highestByStone_87 : decode cX1_highestByStone 87 = .ok (.iload 5, 2) := by decide +kernel
theorem dX1_highestByStone_89 : decode cX1_highestByStone 89 = .ok (.istore_n 3, 1) := by decide +kernel
theorem dX1_highestByStone_90 : decode cX1_highestByStone 90 = .ok (.iinc 5 1, 3) := by decide +kernel
theorem dX1_highestByStone_93 : decode cX1_highestByStone 93 = .ok (.goto (-76), 3) := by decide +kernel
theorem dX1_highestByStone_96 : decode cX1_highestByStone 96 = .ok (.iload_n 3, 1) := by decide +kernel
theorem dX1_highestByStone_97 : decode cX1_highestByStone 97 = .ok (.ireturn, 1) := by decide +kernel
theorem dX1_steadyPair_0 : decode cX1_steadyPair 0 = .ok (.iconst 0, 1) := by decide +kernel
theorem dX1_steadyPair_1 : decode cX1_steadyPair 1 = .ok (.istore 5, 2) := by decide +kernel
theorem dX1_steadyPair_3 : decode cX1_steadyPair 3 = .ok (.iload 5, 2) := by decide +kernel
theorem dX1_steadyPair_5 : decode cX1_steadyPair 5 = .ok (.iconst 4, 1) := by decide +kernel
theorem dX1_steadyPair_6 : decode cX1_steadyPair 6 = .ok (.if_icmp .ge 27, 3) := by decide +kernel
theorem dX1_steadyPair_9 : decode cX1_steadyPair 9 = .ok (.aload_n 0, 1) := by decide +kernel
theorem dX1_steadyPair_10 : decode cX1_steadyPair 10 = .ok (.getfield 22, 3) := by decide +kernel
theorem dX1_steadyPair_13 : decode cX1_steadyPair 13 = .ok (.iload 5, 2) := by decide +kernel
theorem dX1_steadyPair_15 : decode cX1_steadyPair 15 = .ok (.aload_n 0, 1) := by decide +kernel
theorem dX1_steadyPair_16 : decode cX1_steadyPair 16 = .ok (.aload_n 1, 1) := by decide +kernel
theorem dX1_steadyPair_17 : decode cX1_steadyPair 17 = .ok (.iload 5, 2) := by decide +kernel
theorem dX1_steadyPair_19 : decode cX1_steadyPair 19 = .ok (.iload_n 2, 1) := by decide +kernel
theorem dX1_steadyPair_20 : decode cX1_steadyPair 20 = .ok (.iload_n 3, 1) := by decide +kernel
theorem dX1_steadyPair_21 : decode cX1_steadyPair 21 = .ok (.iload 4, 2) := by decide +kernel
theorem dX1_steadyPair_23 : decode cX1_steadyPair 23 = .ok (.invokevirtual 93, 3) := by decide +kernel
theorem dX1_steadyPair_26 : decode cX1_steadyPair 26 = .ok (.iastore, 1) := by decide +kernel
theorem dX1_steadyPair_27 : decode cX1_steadyPair 27 = .ok (.iinc 5 1, 3) := by decide +kernel
theorem dX1_steadyPair_30 : decode cX1_steadyPair 30 = .ok (.goto (-27), 3) := by decide +kernel
theorem dX1_steadyPair_33 : decode cX1_steadyPair 33 = .ok (.iconst 0, 1) := by decide +kernel
theorem dX1_steadyPair_34 : decode cX1_steadyPair 34 = .ok (.istore 5, 2) := by decide +kernel
theorem dX1_steadyPair_36 : decode cX1_steadyPair 36 = .ok (.iload 5, 2) := by decide +kernel
theorem dX1_steadyPair_38 : decode cX1_steadyPair 38 = .ok (.iconst 4, 1) := by decide +kernel
theorem dX1_steadyPair_39 : decode cX1_steadyPair 39 = .ok (.if_icmp .ge 60, 3) := by decide +kernel
theorem dX1_steadyPair_42 : decode cX1_steadyPair 42 = .ok (.aload_n 0, 1) := by decide +kernel
theorem dX1_steadyPair_43 : decode cX1_steadyPair 43 = .ok (.getfield 22, 3) := by decide +kernel
theorem dX1_steadyPair_46 : decode cX1_steadyPair 46 = .ok (.iload 5, 2) := by decide +kernel
theorem dX1_steadyPair_48 : decode cX1_steadyPair 48 = .ok (.iconst 2, 1) := by decide +kernel
theorem dX1_steadyPair_49 : decode cX1_steadyPair 49 = .ok (.ixor, 1) := by decide +kernel
theorem dX1_steadyPair_50 : decode cX1_steadyPair 50 = .ok (.iaload, 1) := by decide +kernel
theorem dX1_steadyPair_51 : decode cX1_steadyPair 51 = .ok (.aload_n 0, 1) := by decide +kernel
theorem dX1_steadyPair_52 : decode cX1_steadyPair 52 = .ok (.getfield 22, 3) := by decide +kernel
theorem dX1_steadyPair_55 : decode cX1_steadyPair 55 = .ok (.iload 5, 2) := by decide +kernel
theorem dX1_steadyPair_57 : decode cX1_steadyPair 57 = .ok (.iaload, 1) := by decide +kernel
theorem dX1_steadyPair_58 : decode cX1_steadyPair 58 = .ok (.if_icmp .gt 35, 3) := by decide +kernel
theorem dX1_steadyPair_61 : decode cX1_steadyPair 61 = .ok (.aload_n 0, 1) := by decide +kernel
theorem dX1_steadyPair_62 : decode cX1_steadyPair 62 = .ok (.getfield 22, 3) := by decide +kernel
theorem dX1_steadyPair_65 : decode cX1_steadyPair 65 = .ok (.iload 5, 2) := by decide +kernel
theorem dX1_steadyPair_67 : decode cX1_steadyPair 67 = .ok (.iconst 1, 1) := by decide +kernel
theorem dX1_steadyPair_68 : decode cX1_steadyPair 68 = .ok (.ixor, 1) := by decide +kernel
theorem dX1_steadyPair_69 : decode cX1_steadyPair 69 = .ok (.iaload, 1) := by decide +kernel
theorem dX1_steadyPair_70 : decode cX1_steadyPair 70 = .ok (.aload_n 0, 1) := by decide +kernel
theorem dX1_steadyPair_71 : decode cX1_steadyPair 71 = .ok (.getfield 22, 3) := by decide +kernel
theorem dX1_steadyPair_74 : decode cX1_steadyPair 74 = .ok (.iload 5, 2) := by decide +kernel
theorem dX1_steadyPair_76 : decode cX1_steadyPair 76 = .ok (.iaload, 1) := by decide +kernel
theorem dX1_steadyPair_77 : decode cX1_steadyPair 77 = .ok (.if_icmp .lt 16, 3) := by decide +kernel
theorem dX1_steadyPair_80 : decode cX1_steadyPair 80 = .ok (.bipush 10, 2) := by decide +kernel
theorem dX1_steadyPair_82 : decode cX1_steadyPair 82 = .ok (.iload 5, 2) := by decide +kernel
theorem dX1_steadyPair_84 : decode cX1_steadyPair 84 = .ok (.iconst 2, 1) := by decide +kernel
theorem dX1_steadyPair_85 : decode cX1_steadyPair 85 = .ok (.idiv, 1) := by decide +kernel
theorem dX1_steadyPair_86 : decode cX1_steadyPair 86 = .ok (.imul, 1) := by decide +kernel
theorem dX1_steadyPair_87 : decode cX1_steadyPair 87 = .ok (.iload 5, 2) := by decide +kernel
theorem dX1_steadyPair_89 : decode cX1_steadyPair 89 = .ok (.iconst 2, 1) := by decide +kernel
theorem dX1_steadyPair_90 : decode cX1_steadyPair 90 = .ok (.irem, 1) := by decide +kernel
theorem dX1_steadyPair_91 : decode cX1_steadyPair 91 = .ok (.iadd, 1) := by decide +kernel
theorem dX1_steadyPair_92 : decode cX1_steadyPair 92 = .ok (.ireturn, 1) := by decide +kernel
theorem dX1_steadyPair_93 : decode cX1_steadyPair 93 = .ok (.iinc 5 1, 3) := by decide +kernel
theorem dX1_steadyPair_96 : decode cX1_steadyPair 96 = .ok (.goto (-60), 3) := by decide +kernel
theorem dX1_steadyPair_99 : decode cX1_steadyPair 99 = .ok (.bipush (-9), 2) := by decide +kernel
theorem dX1_steadyPair_101 : decode cX1_steadyPair 101 = .ok (.ireturn, 1) := by decide +kernel
theorem dX1_leadBy_0 : decode cX1_leadBy 0 = .ok (.aload_n 0, 1) := by decide +kernel
theorem dX1_leadBy_1 : decode cX1_leadBy 1 = .ok (.aload_n 1, 1) := by decide +kernel
theorem dX1_leadBy_2 : decode cX1_leadBy 2 = .ok (.invokevirtual 33, 3) := by decide +kernel
theorem dX1_leadBy_5 : decode cX1_leadBy 5 = .ok (.pop, 1) := by decide +kernel
theorem dX1_leadBy_6 : decode cX1_leadBy 6 = .ok (.iload_n 2, 1) := by decide +kernel
theorem dX1_leadBy_7 : decode cX1_leadBy 7 = .ok (.iconst 1, 1) := by decide +kernel
theorem dX1_leadBy_8 : decode cX1_leadBy 8 = .ok (.invokestatic 97, 3) := by decide +kernel
theorem dX1_leadBy_11 : decode cX1_leadBy 11 = .ok (.ifCond .eq 28, 3) := by decide +kernel
theorem dX1_leadBy_14 : decode cX1_leadBy 14 = .ok (.aload_n 0, 1) := by decide +kernel
theorem dX1_leadBy_15 : decode cX1_leadBy 15 = .ok (.getfield 12, 3) := by decide +kernel
theorem dX1_leadBy_18 : decode cX1_leadBy 18 = .ok (.getfield 69, 3) := by decide +kernel
theorem dX1_leadBy_21 : decode cX1_leadBy 21 = .ok (.iload_n 3, 1) := by decide +kernel
theorem dX1_leadBy_22 : decode cX1_leadBy 22 = .ok (.bipush 9, 2) := by decide +kernel
theorem dX1_leadBy_24 : decode cX1_leadBy 24 = .ok (.aload_n 0, 1) := by decide +kernel
theorem dX1_leadBy_25 : decode cX1_leadBy 25 = .ok (.getfield 12, 3) := by decide +kernel
theorem dX1_leadBy_28 : decode cX1_leadBy 28 = .ok (.getfield 69, 3) := by decide +kernel
theorem dX1_leadBy_31 : decode cX1_leadBy 31 = .ok (.iload_n 3, 1) := by decide +kernel
theorem dX1_leadBy_32 : decode cX1_leadBy 32 = .ok (.iaload, 1) := by decide +kernel
theorem dX1_leadBy_33 : decode cX1_leadBy 33 = .ok (.iconst 2, 1) := by decide +kernel
theorem dX1_leadBy_34 : decode cX1_leadBy 34 = .ok (.iadd, 1) := by decide +kernel
theorem dX1_leadBy_35 : decode cX1_leadBy 35 = .ok (.invokestatic 101, 3) := by decide +kernel
theorem dX1_leadBy_38 : decode cX1_leadBy 38 = .ok (.iastore, 1) := by decide +kernel
theorem dX1_leadBy_39 : decode cX1_leadBy 39 = .ok (.iload_n 2, 1) := by decide +kernel
theorem dX1_leadBy_40 : decode cX1_leadBy 40 = .ok (.iconst 0, 1) := by decide +kernel
theorem dX1_leadBy_41 : decode cX1_leadBy 41 = .ok (.invokestatic 97, 3) := by decide +kernel
theorem dX1_leadBy_44 : decode cX1_leadBy 44 = .ok (.ifCond .eq 30, 3) := by decide +kernel
theorem dX1_leadBy_47 : decode cX1_leadBy 47 = .ok (.aload_n 0, 1) := by decide +kernel
theorem dX1_leadBy_48 : decode cX1_leadBy 48 = .ok (.getfield 12, 3) := by decide +kernel
theorem dX1_leadBy_51 : decode cX1_leadBy 51 = .ok (.getfield 69, 3) := by decide +kernel
theorem dX1_leadBy_54 : decode cX1_leadBy 54 = .ok (.iload 4, 2) := by decide +kernel
theorem dX1_leadBy_56 : decode cX1_leadBy 56 = .ok (.bipush 9, 2) := by decide +kernel
theorem dX1_leadBy_58 : decode cX1_leadBy 58 = .ok (.aload_n 0, 1) := by decide +kernel
theorem dX1_leadBy_59 : decode cX1_leadBy 59 = .ok (.getfield 12, 3) := by decide +kernel
theorem dX1_leadBy_62 : decode cX1_leadBy 62 = .ok (.getfield 69, 3) := by decide +kernel
theorem dX1_leadBy_65 : decode cX1_leadBy 65 = .ok (.iload 4, 2) := by decide +kernel
theorem dX1_leadBy_67 : decode cX1_leadBy 67 = .ok (.iaload, 1) := by decide +kernel
theorem dX1_leadBy_68 : decode cX1_leadBy 68 = .ok (.iconst 2, 1) := by decide +kernel
theorem dX1_leadBy_69 : decode cX1_leadBy 69 = .ok (.iadd, 1) := by decide +kernel
theorem dX1_leadBy_70 : decode cX1_leadBy 70 = .ok (.invokestatic 101, 3) := by decide +kernel
theorem dX1_leadBy_73 : decode cX1_leadBy 73 = .ok (.iastore, 1) := by decide +kernel
theorem dX1_leadBy_74 : decode cX1_leadBy 74 = .ok (.aload_n 0, 1) := by decide +kernel
theorem dX1_leadBy_75 : decode cX1_leadBy 75 = .ok (.getfield 12, 3) := by decide +kernel
theorem dX1_leadBy_78 : decode cX1_leadBy 78 = .ok (.iload 5, 2) := by decide +kernel
theorem dX1_leadBy_80 : decode cX1_leadBy 80 = .ok (.invokevirtual 29, 3) := by decide +kernel
theorem dX1_leadBy_83 : decode cX1_leadBy 83 = .ok (.aload_n 0, 1) := by decide +kernel
theorem dX1_leadBy_84 : decode cX1_leadBy 84 = .ok (.getfield 12, 3) := by decide +kernel
theorem dX1_leadBy_87 : decode cX1_leadBy 87 = .ok (.getfield 37, 3) := by decide +kernel
theorem dX1_leadBy_90 : decode cX1_leadBy 90 = .ok (.iload_n 3, 1) := by decide +kernel
theorem dX1_leadBy_91 : decode cX1_leadBy 91 = .ok (.iaload, 1) := by decide +kernel
theorem dX1_leadBy_92 : decode cX1_leadBy 92 = .ok (.aload_n 0, 1) := by decide +kernel
theorem dX1_leadBy_93 : decode cX1_leadBy 93 = .ok (.getfield 12, 3) := by decide +kernel
theorem dX1_leadBy_96 : decode cX1_leadBy 96 = .ok (.getfield 37, 3) := by decide +kernel
theorem dX1_leadBy_99 : decode cX1_leadBy 99 = .ok (.iload 4, 2) := by decide +kernel
theorem dX1_leadBy_101 : decode cX1_leadBy 101 = .ok (.iaload, 1) := by decide +kernel
theorem dX1_leadBy_102 : decode cX1_leadBy 102 = .ok (.isub, 1) := by decide +kernel
theorem dX1_leadBy_103 : decode cX1_leadBy 103 = .ok (.ireturn, 1) := by decide +kernel
theorem dX1_wetCases_0 : decode cX1_wetCases 0 = .ok (.lconst 0, 1) := by decide +kernel
theorem dX1_wetCases_1 : decode cX1_wetCases 1 = .ok (.lstore 7, 2) := by decide +kernel
theorem dX1_wetCases_3 : decode cX1_wetCases 3 = .ok (.iconst 0, 1) := by decide +kernel
theorem dX1_wetCases_4 : decode cX1_wetCases 4 = .ok (.istore 9, 2) := by decide +kernel
theorem dX1_wetCases_6 : decode cX1_wetCases 6 = .ok (.iload 9, 2) := by decide +kernel
theorem dX1_wetCases_8 : decode cX1_wetCases 8 = .ok (.iconst 1, 1) := by decide +kernel
theorem dX1_wetCases_9 : decode cX1_wetCases 9 = .ok (.iload 4, 2) := by decide +kernel
theorem dX1_wetCases_11 : decode cX1_wetCases 11 = .ok (.ishl, 1) := by decide +kernel
theorem dX1_wetCases_12 : decode cX1_wetCases 12 = .ok (.if_icmp .ge 89, 3) := by decide +kernel
theorem dX1_wetCases_15 : decode cX1_wetCases 15 = .ok (.aload_n 0, 1) := by decide +kernel
theorem dX1_wetCases_16 : decode cX1_wetCases 16 = .ok (.aload_n 1, 1) := by decide +kernel
theorem dX1_wetCases_17 : decode cX1_wetCases 17 = .ok (.invokevirtual 33, 3) := by decide +kernel
theorem dX1_wetCases_20 : decode cX1_wetCases 20 = .ok (.pop, 1) := by decide +kernel
theorem dX1_wetCases_21 : decode cX1_wetCases 21 = .ok (.iconst 0, 1) := by decide +kernel
theorem dX1_wetCases_22 : decode cX1_wetCases 22 = .ok (.istore 10, 2) := by decide +kernel
theorem dX1_wetCases_24 : decode cX1_wetCases 24 = .ok (.iload 10, 2) := by decide +kernel
theorem dX1_wetCases_26 : decode cX1_wetCases 26 = .ok (.iload 4, 2) := by decide +kernel
theorem dX1_wetCases_28 : decode cX1_wetCases 28 = .ok (.if_icmp .ge 32, 3) := by decide +kernel
theorem dX1_wetCases_31 : decode cX1_wetCases 31 = .ok (.aload_n 0, 1) := by decide +kernel
theorem dX1_wetCases_32 : decode cX1_wetCases 32 = .ok (.getfield 12, 3) := by decide +kernel
theorem dX1_wetCases_35 : decode cX1_wetCases 35 = .ok (.iload 9, 2) := by decide +kernel
theorem dX1_wetCases_37 : decode cX1_wetCases 37 = .ok (.iload 10, 2) := by decide +kernel
theorem dX1_wetCases_39 : decode cX1_wetCases 39 = .ok (.invokestatic 97, 3) := by decide +kernel
theorem dX1_wetCases_42 : decode cX1_wetCases 42 = .ok (.ifCond .eq 7, 3) := by decide +kernel
theorem dX1_wetCases_45 : decode cX1_wetCases 45 = .ok (.iload_n 2, 1) := by decide +kernel
theorem dX1_wetCases_46 : decode cX1_wetCases 46 = .ok (.goto 5, 3) := by decide +kernel
theorem dX1_wetCases_49 : decode cX1_wetCases 49 = .ok (.bipush (-9), 2) := by decide +kernel
theorem dX1_wetCases_51 : decode cX1_wetCases 51 = .ok (.invokevirtual 40, 3) := by decide +kernel
theorem dX1_wetCases_54 : decode cX1_wetCases 54 = .ok (.iinc 10 1, 3) := by decide +kernel
theorem dX1_wetCases_57 : decode cX1_wetCases 57 = .ok (.goto (-33), 3) := by decide +kernel
theorem dX1_wetCases_60 : decode cX1_wetCases 60 = .ok (.aload_n 0, 1) := by decide +kernel
theorem dX1_wetCases_61 : decode cX1_wetCases 61 = .ok (.getfield 12, 3) := by decide +kernel
theorem dX1_wetCases_64 : decode cX1_wetCases 64 = .ok (.getfield 37, 3) := by decide +kernel
theorem dX1_wetCases_67 : decode cX1_wetCases 67 = .ok (.iload_n 3, 1) := by decide +kernel
theorem dX1_wetCases_68 : decode cX1_wetCases 68 = .ok (.iaload, 1) := by decide +kernel
theorem dX1_wetCases_69 : decode cX1_wetCases 69 = .ok (.iload 6, 2) := by decide +kernel
theorem dX1_wetCases_71 : decode cX1_wetCases 71 = .ok (.if_icmp .lt 24, 3) := by decide +kernel
theorem dX1_wetCases_74 : decode cX1_wetCases 74 = .ok (.lload 7, 2) := by decide +kernel
theorem dX1_wetCases_76 : decode cX1_wetCases 76 = .ok (.iload 5, 2) := by decide +kernel
theorem dX1_wetCases_78 : decode cX1_wetCases 78 = .ok (.iconst 1, 1) := by decide +kernel
theorem dX1_wetCases_79 : decode cX1_wetCases 79 = .ok (.isub, 1) := by decide +kernel
theorem dX1_wetCases_80 : decode cX1_wetCases 80 = .ok (.i2l, 1) := by decide +kernel
theorem dX1_wetCases_81 : decode cX1_wetCases 81 = .ok (.iload 4, 2) := by decide +kernel
theorem dX1_wetCases_83 : decode cX1_wetCases 83 = .ok (.iload 9, 2) := by decide +kernel
theorem dX1_wetCases_85 : decode cX1_wetCases 85 = .ok (.invokestatic 106, 3) := by decide +kernel
theorem dX1_wetCases_88 : decode cX1_wetCases 88 = .ok (.isub, 1) := by decide +kernel
theorem dX1_wetCases_89 : decode cX1_wetCases 89 = .ok (.invokestatic 111, 3) := by decide +kernel
theorem dX1_wetCases_92 : decode cX1_wetCases 92 = .ok (.ladd, 1) := by decide +kernel
theorem dX1_wetCases_93 : decode cX1_wetCases 93 = .ok (.lstore 7, 2) := by decide +kernel
theorem dX1_wetCases_95 : decode cX1_wetCases 95 = .ok (.iinc 9 1, 3) := by decide +kernel
theorem dX1_wetCases_98 : decode cX1_wetCases 98 = .ok (.goto (-92), 3) := by decide +kernel
theorem dX1_wetCases_101 : decode cX1_wetCases 101 = .ok (.lload 7, 2) := by decide +kernel
theorem dX1_wetCases_103 : decode cX1_wetCases 103 = .ok (.lreturn, 1) := by decide +kernel
theorem dX1_kindsAsTold_0 : decode cX1_kindsAsTold 0 = .ok (.iconst 0, 1) := by decide +kernel
theorem dX1_kindsAsTold_1 : decode cX1_kindsAsTold 1 = .ok (.istore 4, 2) := by decide +kernel
theorem dX1_kindsAsTold_3 : decode cX1_kindsAsTold 3 = .ok (.iconst 0, 1) := by decide +kernel
theorem dX1_kindsAsTold_4 : decode cX1_kindsAsTold 4 = .ok (.istore 5, 2) := by decide +kernel
theorem dX1_kindsAsTold_6 : decode cX1_kindsAsTold 6 = .ok (.iload 5, 2) := by decide +kernel
theorem dX1_kindsAsTold_8 : decode cX1_kindsAsTold 8 = .ok (.bipush 6, 2) := by decide +kernel
theorem dX1_kindsAsTold_10 : decode cX1_kindsAsTold 10 = .ok (.if_icmp .ge 44, 3) := by decide +kernel
theorem dX1_kindsAsTold_13 : decode cX1_kindsAsTold 13 = .ok (.aload_n 0, 1) := by decide +kernel
theorem dX1_kindsAsTold_14 : decode cX1_kindsAsTold 14 = .ok (.aload_n 1, 1) := by decide +kernel
theorem dX1_kindsAsTold_15 : decode cX1_kindsAsTold 15 = .ok (.invokevirtual 33, 3) := by decide +kernel
theorem dX1_kindsAsTold_18 : decode cX1_kindsAsTold 18 = .ok (.pop, 1) := by decide +kernel
theorem dX1_kindsAsTold_19 : decode cX1_kindsAsTold 19 = .ok (.aload_n 0, 1) := by decide +kernel
theorem dX1_kindsAsTold_20 : decode cX1_kindsAsTold 20 = .ok (.getfield 12, 3) := by decide +kernel
theorem dX1_kindsAsTold_23 : decode cX1_kindsAsTold 23 = .ok (.getfield 115, 3) := by decide +kernel
theorem dX1_kindsAsTold_26 : decode cX1_kindsAsTold 26 = .ok (.iload_n 2, 1) := by decide +kernel
theorem dX1_kindsAsTold_27 : decode cX1_kindsAsTold 27 = .ok (.iload 5, 2) := by decide +kernel
theorem dX1_kindsAsTold_29 : decode cX1_kindsAsTold 29 = .ok (.iastore, 1) := by decide +kernel
theorem dX1_kindsAsTold_30 : decode cX1_kindsAsTold 30 = .ok (.aload_n 0, 1) := by decide +kernel
theorem dX1_kindsAsTold_31 : decode cX1_kindsAsTold 31 = .ok (.iload_n 2, 1) := by decide +kernel
theorem dX1_kindsAsTold_32 : decode cX1_kindsAsTold 32 = .ok (.aload_n 3, 1) := by decide +kernel
theorem dX1_kindsAsTold_33 : decode cX1_kindsAsTold 33 = .ok (.invokevirtual 118, 3) := by decide +kernel
theorem dX1_kindsAsTold_36 : decode cX1_kindsAsTold 36 = .ok (.ifCond .eq 12, 3) := by decide +kernel
theorem dX1_kindsAsTold_39 : decode cX1_kindsAsTold 39 = .ok (.iload 4, 2) := by decide +kernel
theorem dX1_kindsAsTold_41 : decode cX1_kindsAsTold 41 = .ok (.iconst 1, 1) := by decide +kernel
theorem dX1_kindsAsTold_42 : decode cX1_kindsAsTold 42 = .ok (.iload 5, 2) := by decide +kernel
theorem dX1_kindsAsTold_44 : decode cX1_kindsAsTold 44 = .ok (.ishl, 1) := by decide +kernel
theorem dX1_kindsAsTold_45 : decode cX1_kindsAsTold 45 = .ok (.ior, 1) := by decide +kernel
theorem dX1_kindsAsTold_46 : decode cX1_kindsAsTold 46 = .ok (.istore 4, 2) := by decide +kernel
theorem dX1_kindsAsTold_48 : decode cX1_kindsAsTold 48 = .ok (.iinc 5 1, 3) := by decide +kernel
theorem dX1_kindsAsTold_51 : decode cX1_kindsAsTold 51 = .ok (.goto (-45), 3) := by decide +kernel
theorem dX1_kindsAsTold_54 : decode cX1_kindsAsTold 54 = .ok (.iload 4, 2) := by decide +kernel
theorem dX1_kindsAsTold_56 : decode cX1_kindsAsTold 56 = .ok (.ireturn, 1) := by decide +kernel
theorem dX1_weightsAsTold_0 : decode cX1_weightsAsTold 0 = .ok (.iconst 0, 1) := by decide +kernel
theorem dX1_weightsAsTold_1 : decode cX1_weightsAsTold 1 = .ok (.istore 4, 2) := by decide +kernel
theorem dX1_weightsAsTold_3 : decode cX1_weightsAsTold 3 = .ok (.iconst 0, 1) := by decide +kernel
theorem dX1_weightsAsTold_4 : decode cX1_weightsAsTold 4 = .ok (.istore 5, 2) := by decide +kernel
theorem dX1_weightsAsTold_6 : decode cX1_weightsAsTold 6 = .ok (.iload 5, 2) := by decide +kernel
theorem dX1_weightsAsTold_8 : decode cX1_weightsAsTold 8 = .ok (.bipush 60, 2) := by decide +kernel
theorem dX1_weightsAsTold_10 : decode cX1_weightsAsTold 10 = .ok (.if_icmp .gt 38, 3) := by decide +kernel
theorem dX1_weightsAsTold_13 : decode cX1_weightsAsTold 13 = .ok (.aload_n 0, 1) := by decide +kernel
theorem dX1_weightsAsTold_14 : decode cX1_weightsAsTold 14 = .ok (.aload_n 1, 1) := by decide +kernel
theorem dX1_weightsAsTold_15 : decode cX1_weightsAsTold 15 = .ok (.invokevirtual 33, 3) := by decide +kernel
theorem dX1_weightsAsTold_18 : decode cX1_weightsAsTold 18 = .ok (.pop, 1) := by decide +kernel
theorem dX1_weightsAsTold_19 : decode cX1_weightsAsTold 19 = .ok (.aload_n 0, 1) := by decide +kernel
theorem dX1_weightsAsTold_20 : decode cX1_weightsAsTold 20 = .ok (.getfield 12, 3) := by decide +kernel
theorem dX1_weightsAsTold_23 : decode cX1_weightsAsTold 23 = .ok (.getfield 122, 3) := by decide +kernel
theorem dX1_weightsAsTold_26 : decode cX1_weightsAsTold 26 = .ok (.iload_n 2, 1) := by decide +kernel
theorem dX1_weightsAsTold_27 : decode cX1_weightsAsTold 27 = .ok (.iload 5, 2) := by decide +kernel
theorem dX1_weightsAsTold_29 : decode cX1_weightsAsTold 29 = .ok (.iastore, 1) := by decide +kernel
theorem dX1_weightsAsTold_30 : decode cX1_weightsAsTold 30 = .ok (.aload_n 0, 1) := by decide +kernel
theorem dX1_weightsAsTold_31 : decode cX1_weightsAsTold 31 = .ok (.iload_n 2, 1) := by decide +kernel
theorem dX1_weightsAsTold_32 : decode cX1_weightsAsTold 32 = .ok (.aload_n 3, 1) := by decide +kernel
theorem dX1_weightsAsTold_33 : decode cX1_weightsAsTold 33 = .ok (.invokevirtual 118, 3) := by decide +kernel
theorem dX1_weightsAsTold_36 : decode cX1_weightsAsTold 36 = .ok (.ifCond .eq 6, 3) := by decide +kernel
theorem dX1_weightsAsTold_39 : decode cX1_weightsAsTold 39 = .ok (.iinc 4 1, 3) := by decide +kernel
theorem dX1_weightsAsTold_42 : decode cX1_weightsAsTold 42 = .ok (.iinc 5 1, 3) := by decide +kernel
theorem dX1_weightsAsTold_45 : decode cX1_weightsAsTold 45 = .ok (.goto (-39), 3) := by decide +kernel
theorem dX1_weightsAsTold_48 : decode cX1_weightsAsTold 48 = .ok (.iload 4, 2) := by decide +kernel
theorem dX1_weightsAsTold_50 : decode cX1_weightsAsTold 50 = .ok (.ireturn, 1) := by decide +kernel
theorem dX1_goesAsTold_0 : decode cX1_goesAsTold 0 = .ok (.iconst 0, 1) := by decide +kernel
theorem dX1_goesAsTold_1 : decode cX1_goesAsTold 1 = .ok (.istore_n 3, 1) := by decide +kernel
theorem dX1_goesAsTold_2 : decode cX1_goesAsTold 2 = .ok (.iload_n 3, 1) := by decide +kernel
theorem dX1_goesAsTold_3 : decode cX1_goesAsTold 3 = .ok (.aload_n 2, 1) := by decide +kernel
theorem dX1_goesAsTold_4 : decode cX1_goesAsTold 4 = .ok (.getfield 125, 3) := by decide +kernel
theorem dX1_goesAsTold_7 : decode cX1_goesAsTold 7 = .ok (.if_icmp .ge 38, 3) := by decide +kernel
theorem dX1_goesAsTold_10 : decode cX1_goesAsTold 10 = .ok (.aload_n 0, 1) := by decide +kernel
theorem dX1_goesAsTold_11 : decode cX1_goesAsTold 11 = .ok (.getfield 12, 3) := by decide +kernel
theorem dX1_goesAsTold_14 : decode cX1_goesAsTold 14 = .ok (.getfield 37, 3) := by decide +kernel
theorem dX1_goesAsTold_17 : decode cX1_goesAsTold 17 = .ok (.iload_n 1, 1) := by decide +kernel
theorem dX1_goesAsTold_18 : decode cX1_goesAsTold 18 = .ok (.iaload, 1) := by decide +kernel
theorem dX1_goesAsTold_19 : decode cX1_goesAsTold 19 = .ok (.aload_n 2, 1) := by decide +kernel
theorem dX1_goesAsTold_20 : decode cX1_goesAsTold 20 = .ok (.getfield 130, 3) := by decide +kernel
theorem dX1_goesAsTold_23 : decode cX1_goesAsTold 23 = .ok (.iload_n 3, 1) := by decide +kernel
theorem dX1_goesAsTold_24 : decode cX1_goesAsTold 24 = .ok (.iaload, 1) := by decide +kernel
theorem dX1_goesAsTold_25 : decode cX1_goesAsTold 25 = .ok (.if_icmp .eq 5, 3) := by decide +kernel
theorem dX1_goesAsTold_28 : decode cX1_goesAsTold 28 = .ok (.iconst 0, 1) := by decide +kernel
theorem dX1_goesAsTold_29 : decode cX1_goesAsTold 29 = .ok (.ireturn, 1) := by decide +kernel
theorem dX1_goesAsTold_30 : decode cX1_goesAsTold 30 = .ok (.aload_n 0, 1) := by decide +kernel
theorem dX1_goesAsTold_31 : decode cX1_goesAsTold 31 = .ok (.getfield 12, 3) := by decide +kernel
theorem dX1_goesAsTold_34 : decode cX1_goesAsTold 34 = .ok (.bipush (-9), 2) := by decide +kernel
theorem dX1_goesAsTold_36 : decode cX1_goesAsTold 36 = .ok (.invokevirtual 40, 3) := by decide +kernel
theorem dX1_goesAsTold_39 : decode cX1_goesAsTold 39 = .ok (.iinc 3 1, 3) := by decide +kernel
theorem dX1_goesAsTold_42 : decode cX1_goesAsTold 42 = .ok (.goto (-40), 3) := by decide +kernel
theorem dX1_goesAsTold_45 : decode cX1_goesAsTold 45 = .ok (.iconst 1, 1) := by decide +kernel
theorem dX1_goesAsTold_46 : decode cX1_goesAsTold 46 = .ok (.ireturn, 1) := by decide +kernel
theorem dX1_byLot_0 : decode cX1_byLot 0 = .ok (.iload_n 3, 1) := by decide +kernel
theorem dX1_byLot_1 : decode cX1_byLot 1 = .ok (.istore 5, 2) := by decide +kernel
theorem dX1_byLot_3 : decode cX1_byLot 3 = .ok (.iconst 0, 1) := by decide +kernel
theorem dX1_byLot_4 : decode cX1_byLot 4 = .ok (.istore 6, 2) := by decide +kernel
theorem dX1_byLot_6 : decode cX1_byLot 6 = .ok (.iconst 0, 1) := by decide +kernel
theorem dX1_byLot_7 : decode cX1_byLot 7 = .ok (.istore 7, 2) := by decide +kernel
theorem dX1_byLot_9 : decode cX1_byLot 9 = .ok (.iload 7, 2) := by decide +kernel
theorem dX1_byLot_11 : decode cX1_byLot 11 = .ok (.iload_n 2, 1) := by decide +kernel
theorem dX1_byLot_12 : decode cX1_byLot 12 = .ok (.if_icmp .ge 107, 3) := by decide +kernel
theorem dX1_byLot_15 : decode cX1_byLot 15 = .ok (.aload_n 0, 1) := by decide +kernel
theorem dX1_byLot_16 : decode cX1_byLot 16 = .ok (.aload_n 1, 1) := by decide +kernel
theorem dX1_byLot_17 : decode cX1_byLot 17 = .ok (.invokevirtual 33, 3) := by decide +kernel
theorem dX1_byLot_20 : decode cX1_byLot 20 = .ok (.pop, 1) := by decide +kernel
theorem dX1_byLot_21 : decode cX1_byLot 21 = .ok (.iconst 0, 1) := by decide +kernel
theorem dX1_byLot_22 : decode cX1_byLot 22 = .ok (.istore 8, 2) := by decide +kernel
theorem dX1_byLot_24 : decode cX1_byLot 24 = .ok (.iload 8, 2) := by decide +kernel
theorem dX1_byLot_26 : decode cX1_byLot 26 = .ok (.aload_n 0, 1) := by decide +kernel
theorem dX1_byLot_27 : decode cX1_byLot 27 = .ok (.getfield 12, 3) := by decide +kernel
theorem dX1_byLot_30 : decode cX1_byLot 30 = .ok (.getfield 51, 3) := by decide +kernel
theorem dX1_byLot_33 : decode cX1_byLot 33 = .ok (.if_icmp .ge 41, 3) := by decide +kernel
theorem dX1_byLot_36 : decode cX1_byLot 36 = .ok (.iload 5, 2) := by decide +kernel
theorem dX1_byLot_38 : decode cX1_byLot 38 = .ok (.ldc 133, 2) := by decide +kernel
theorem dX1_byLot_40 : decode cX1_byLot 40 = .ok (.imul, 1) := by decide +kernel
theorem dX1_byLot_41 : decode cX1_byLot 41 = .ok (.ldc 134, 2) := by decide +kernel
theorem dX1_byLot_43 : decode cX1_byLot 43 = .ok (.iadd, 1) := by decide +kernel
theorem dX1_byLot_44 : decode cX1_byLot 44 = .ok (.istore 5, 2) := by decide +kernel
theorem dX1_byLot_46 : decode cX1_byLot 46 = .ok (.aload_n 0, 1) := by decide +kernel
theorem dX1_byLot_47 : decode cX1_byLot 47 = .ok (.getfield 12, 3) := by decide +kernel
theorem dX1_byLot_50 : decode cX1_byLot 50 = .ok (.getfield 69, 3) := by decide +kernel
theorem dX1_byLot_53 : decode cX1_byLot 53 = .ok (.iload 8, 2) := by decide +kernel
theorem dX1_byLot_55 : decode cX1_byLot 55 = .ok (.iload 5, 2) := by decide +kernel
theorem dX1_byLot_57 : decode cX1_byLot 57 = .ok (.ldc 135, 2) := by decide +kernel
theorem dX1_byLot_59 : decode cX1_byLot 59 = .ok (.iand, 1) := by decide +kernel
theorem dX1_byLot_60 : decode cX1_byLot 60 = .ok (.sipush 256, 3) := by decide +kernel
theorem dX1_byLot_63 : decode cX1_byLot 63 = .ok (.idiv, 1) := by decide +kernel
theorem dX1_byLot_64 : decode cX1_byLot 64 = .ok (.bipush 10, 2) := by decide +kernel
theorem dX1_byLot_66 : decode cX1_byLot 66 = .ok (.irem, 1) := by decide +kernel
theorem dX1_byLot_67 : decode cX1_byLot 67 = .ok (.iastore, 1) := by decide +kernel
theorem dX1_byLot_68 : decode cX1_byLot 68 = .ok (.iinc 8 1, 3) := by decide +kernel
theorem dX1_byLot_71 : decode cX1_byLot 71 = .ok (.goto (-47), 3) := by decide +kernel
theorem dX1_byLot_74 : decode cX1_byLot 74 = .ok (.aload_n 0, 1) := by decide +kernel
theorem dX1_byLot_75 : decode cX1_byLot 75 = .ok (.getfield 12, 3) := by decide +kernel
theorem dX1_byLot_78 : decode cX1_byLot 78 = .ok (.bipush 10, 2) := by decide +kernel
theorem dX1_byLot_80 : decode cX1_byLot 80 = .ok (.invokevirtual 29, 3) := by decide +kernel
theorem dX1_byLot_83 : decode cX1_byLot 83 = .ok (.iload 6, 2) := by decide +kernel
theorem dX1_byLot_85 : decode cX1_byLot 85 = .ok (.iload 4, 2) := by decide +kernel
theorem dX1_byLot_87 : decode cX1_byLot 87 = .ok (.ifCond .eq 13, 3) := by decide +kernel
theorem dX1_byLot_90 : decode cX1_byLot 90 = .ok (.aload_n 0, 1) := by decide +kernel
theorem dX1_byLot_91 : decode cX1_byLot 91 = .ok (.getfield 12, 3) := by decide +kernel
theorem dX1_byLot_94 : decode cX1_byLot 94 = .ok (.invokevirtual 90, 3) := by decide +kernel
theorem dX1_byLot_97 : decode cX1_byLot 97 = .ok (.goto 13, 3) := by decide +kernel
theorem dX1_byLot_100 : decode cX1_byLot 100 = .ok (.aload_n 0, 1) := by decide +kernel
theorem dX1_byLot_101 : decode cX1_byLot 101 = .ok (.getfield 12, 3) := by decide +kernel
theorem dX1_byLot_104 : decode cX1_byLot 104 = .ok (.invokevirtual 136, 3) := by decide +kernel
theorem dX1_byLot_107 : decode cX1_byLot 107 = .ok (.invokestatic 106, 3) := by decide +kernel
theorem dX1_byLot_110 : decode cX1_byLot 110 = .ok (.iadd, 1) := by decide +kernel
theorem dX1_byLot_111 : decode cX1_byLot 111 = .ok (.istore 6, 2) := by decide +kernel
theorem dX1_byLot_113 : decode cX1_byLot 113 = .ok (.iinc 7 1, 3) := by decide +kernel
theorem dX1_byLot_116 : decode cX1_byLot 116 = .ok (.goto (-107), 3) := by decide +kernel
theorem dX1_byLot_119 : decode cX1_byLot 119 = .ok (.iload 6, 2) := by decide +kernel
theorem dX1_byLot_121 : decode cX1_byLot 121 = .ok (.ireturn, 1) := by decide +kernel
theorem dX2_hangingWith_0 : decode cX2_hangingWith 0 = .ok (.iconst 1, 1) := by decide +kernel
theorem dX2_hangingWith_1 : decode cX2_hangingWith 1 = .ok (.iload_n 1, 1) := by decide +kernel
theorem dX2_hangingWith_2 : decode cX2_hangingWith 2 = .ok (.ishl, 1) := by decide +kernel
theorem dX2_hangingWith_3 : decode cX2_hangingWith 3 = .ok (.istore_n 2, 1) := by decide +kernel
theorem dX2_hangingWith_4 : decode cX2_hangingWith 4 = .ok (.iconst 0, 1) := by decide +kernel
theorem dX2_hangingWith_5 : decode cX2_hangingWith 5 = .ok (.istore_n 3, 1) := by decide +kernel
theorem dX2_hangingWith_6 : decode cX2_hangingWith 6 = .ok (.iload_n 3, 1) := by decide +kernel
theorem dX2_hangingWith_7 : decode cX2_hangingWith 7 = .ok (.aload_n 0, 1) := by decide +kernel
theorem dX2_hangingWith_8 : decode cX2_hangingWith 8 = .ok (.getfield 9, 3) := by decide +kernel
theorem dX2_hangingWith_11 : decode cX2_hangingWith 11 = .ok (.if_icmp .ge 60, 3) := by decide +kernel
theorem dX2_hangingWith_14 : decode cX2_hangingWith 14 = .ok (.iconst 0, 1) := by decide +kernel
theorem dX2_hangingWith_15 : decode cX2_hangingWith 15 = .ok (.istore 4, 2) := by decide +kernel
theorem dX2_hangingWith_17 : decode cX2_hangingWith 17 = .ok (.iload 4, 2) := by decide +kernel
theorem dX2_hangingWith_19 : decode cX2_hangingWith 19 = .ok (.aload_n 0, 1) := by decide +kernel
theorem dX2_hangingWith_20 : decode cX2_hangingWith 20 = .ok (.getfield 9, 3) := by decide +kernel
theorem dX2_hangingWith_23 : decode cX2_hangingWith 23 = .ok (.if_icmp .ge 42, 3) := by decide +kernel
theorem dX2_hangingWith_26 : decode cX2_hangingWith 26 = .ok (.iconst 1, 1) := by decide +kernel
theorem dX2_hangingWith_27 : decode cX2_hangingWith 27 = .ok (.aload_n 0, 1) := by decide +kernel
theorem dX2_hangingWith_28 : decode cX2_hangingWith 28 = .ok (.getfield 15, 3) := by decide +kernel
theorem dX2_hangingWith_31 : decode cX2_hangingWith 31 = .ok (.iload 4, 2) := by decide +kernel
theorem dX2_hangingWith_33 : decode cX2_hangingWith 33 = .ok (.iaload, 1) := by decide +kernel
theorem dX2_hangingWith_34 : decode cX2_hangingWith 34 = .ok (.ishl, 1) := by decide +kernel
theorem dX2_hangingWith_35 : decode cX2_hangingWith 35 = .ok (.iconst 1, 1) := by decide +kernel
theorem dX2_hangingWith_36 : decode cX2_hangingWith 36 = .ok (.aload_n 0, 1) := by decide +kernel
theorem dX2_hangingWith_37 : decode cX2_hangingWith 37 = .ok (.getfield 19, 3) := by decide +kernel
theorem dX2_hangingWith_40 : decode cX2_hangingWith 40 = .ok (.iload 4, 2) := by decide +kernel
theorem dX2_hangingWith_42 : decode cX2_hangingWith 42 = .ok (.iaload, 1) := by decide +kernel
theorem dX2_hangingWith_43 : decode cX2_hangingWith 43 = .ok (.ishl, 1) := by decide +kernel
theorem dX2_hangingWith_44 : decode cX2_hangingWith 44 = .ok (.ior, 1) := by decide +kernel
theorem dX2_hangingWith_45 : decode cX2_hangingWith 45 = .ok (.istore 5, 2) := by decide +kernel
theorem dX2_hangingWith_47 : decode cX2_hangingWith 47 = .ok (.iload_n 2, 1) := by decide +kernel
theorem dX2_hangingWith_48 : decode cX2_hangingWith 48 = .ok (.iload 5, 2) := by decide +kernel
theorem dX2_hangingWith_50 : decode cX2_hangingWith 50 = .ok (.iand, 1) := by decide +kernel
theorem dX2_hangingWith_51 : decode cX2_hangingWith 51 = .ok (.ifCond .eq 8, 3) := by decide +kernel
theorem dX2_hangingWith_54 : decode cX2_hangingWith 54 = .ok (.iload_n 2, 1) := by decide +kernel
theorem dX2_hangingWith_55 : decode cX2_hangingWith 55 = .ok (.iload 5, 2) := by decide +kernel
theorem dX2_hangingWith_57 : decode cX2_hangingWith 57 = .ok (.ior, 1) := by decide +kernel
theorem dX2_hangingWith_58 : decode cX2_hangingWith 58 = .ok (.istore_n 2, 1) := by decide +kernel
theorem dX2_hangingWith_59 : decode cX2_hangingWith 59 = .ok (.iinc 4 1, 3) := by decide +kernel
theorem dX2_hangingWith_62 : decode cX2_hangingWith 62 = .ok (.goto (-45), 3) := by decide +kernel
theorem dX2_hangingWith_65 : decode cX2_hangingWith 65 = .ok (.iinc 3 1, 3) := by decide +kernel
theorem dX2_hangingWith_68 : decode cX2_hangingWith 68 = .ok (.goto (-62), 3) := by decide +kernel
theorem dX2_hangingWith_71 : decode cX2_hangingWith 71 = .ok (.iload_n 2, 1) := by decide +kernel
theorem dX2_hangingWith_72 : decode cX2_hangingWith 72 = .ok (.ireturn, 1) := by decide +kernel
theorem dX2_pieces_0 : decode cX2_pieces 0 = .ok (.iconst 0, 1) := by decide +kernel
theorem dX2_pieces_1 : decode cX2_pieces 1 = .ok (.istore_n 1, 1) := by decide +kernel
theorem dX2_pieces_2 : decode cX2_pieces 2 = .ok (.iconst 0, 1) := by decide +kernel
theorem dX2_pieces_3 : decode cX2_pieces 3 = .ok (.istore_n 2, 1) := by decide +kernel
theorem dX2_pieces_4 : decode cX2_pieces 4 = .ok (.iload_n 2, 1) := by decide +kernel
theorem dX2_pieces_5 : decode cX2_pieces 5 = .ok (.aload_n 0, 1) := by decide +kernel
theorem dX2_pieces_6 : decode cX2_pieces 6 = .ok (.getfield 22, 3) := by decide +kernel
theorem dX2_pieces_9 : decode cX2_pieces 9 = .ok (.if_icmp .ge 24, 3) := by decide +kernel
theorem dX2_pieces_12 : decode cX2_pieces 12 = .ok (.aload_n 0, 1) := by decide +kernel
theorem dX2_pieces_13 : decode cX2_pieces 13 = .ok (.iload_n 2, 1) := by decide +kernel
theorem dX2_pieces_14 : decode cX2_pieces 14 = .ok (.invokestatic 25, 3) := by decide +kernel
theorem dX2_pieces_17 : decode cX2_pieces 17 = .ok (.invokestatic 31, 3) := by decide +kernel
theorem dX2_pieces_20 : decode cX2_pieces 20 = .ok (.iload_n 2, 1) := by decide +kernel
theorem dX2_pieces_21 : decode cX2_pieces 21 = .ok (.if_icmp .ne 6, 3) := by decide +kernel
theorem dX2_pieces_24 : decode cX2_pieces 24 = .ok (.iinc 1 1, 3) := by decide +kernel
theorem dX2_pieces_27 : decode cX2_pieces 27 = .ok (.iinc 2 1, 3) := by decide +kernel
theorem dX2_pieces_30 : decode cX2_pieces 30 = .ok (.goto (-26), 3) := by decide +kernel
theorem dX2_pieces_33 : decode cX2_pieces 33 = .ok (.iload_n 1, 1) := by decide +kernel
theorem dX2_pieces_34 : decode cX2_pieces 34 = .ok (.ireturn, 1) := by decide +kernel
theorem dX2_greatestPiece_0 : decode cX2_greatestPiece 0 = .ok (.iconst 0, 1) := by decide +kernel
theorem dX2_greatestPiece_1 : decode cX2_greatestPiece 1 = .ok (.istore_n 1, 1) := by decide +kernel
theorem dX2_greatestPiece_2 : decode cX2_greatestPiece 2 = .ok (.iconst 0, 1) := by decide +kernel
theorem dX2_greatestPiece_3 : decode cX2_greatestPiece 3 = .ok (.istore_n 2, 1) := by decide +kernel
theorem dX2_greatestPiece_4 : decode cX2_greatestPiece 4 = .ok (.iload_n 2, 1) := by decide +kernel
theorem dX2_greatestPiece_5 : decode cX2_greatestPiece 5 = .ok (.aload_n 0, 1) := by decide +kernel
theorem dX2_greatestPiece_6 : decode cX2_greatestPiece 6 = .ok (.getfield 22, 3) := by decide +kernel
theorem dX2_greatestPiece_9 : decode cX2_greatestPiece 9 = .ok (.if_icmp .ge 22, 3) := by decide +kernel
theorem dX2_greatestPiece_12 : decode cX2_greatestPiece 12 = .ok (.iload_n 1, 1) := by decide +kernel
theorem dX2_greatestPiece_13 : decode cX2_greatestPiece 13 = .ok (.aload_n 0, 1) := by decide +kernel
theorem dX2_greatestPiece_14 : decode cX2_greatestPiece 14 = .ok (.iload_n 2, 1) := by decide +kernel
theorem dX2_greatestPiece_15 : decode cX2_greatestPiece 15 = .ok (.invokestatic 25, 3) := by decide +kernel
theorem dX2_greatestPiece_18 : decode cX2_greatestPiece 18 = .ok (.invokestatic 37, 3) := by decide +kernel
theorem dX2_greatestPiece_21 : decode cX2_greatestPiece 21 = .ok (.invokestatic 40, 3) := by decide +kernel
theorem dX2_greatestPiece_24 : decode cX2_greatestPiece 24 = .ok (.istore_n 1, 1) := by decide +kernel
theorem dX2_greatestPiece_25 : decode cX2_greatestPiece 25 = .ok (.iinc 2 1, 3) := by decide +kernel
theorem dX2_greatestPiece_28 : decode cX2_greatestPiece 28 = .ok (.goto (-24), 3) := by decide +kernel
theorem dX2_greatestPiece_31 : decode cX2_greatestPiece 31 = .ok (.iload_n 1, 1) := by decide +kernel
theorem dX2_greatestPiece_32 : decode cX2_greatestPiece 32 = .ok (.ireturn, 1) := by decide +kernel
theorem dX2_hasRing_0 : decode cX2_hasRing 0 = .ok (.aload_n 0, 1) := by decide +kernel
theorem dX2_hasRing_1 : decode cX2_hasRing 1 = .ok (.getfield 9, 3) := by decide +kernel
theorem dX2_hasRing_4 : decode cX2_hasRing 4 = .ok (.aload_n 0, 1) := by decide +kernel
theorem dX2_hasRing_5 : decode cX2_hasRing 5 = .ok (.getfield 22, 3) := by decide +kernel
theorem dX2_hasRing_8 : decode cX2_hasRing 8 = .ok (.aload_n 0, 1) := by decide +kernel
theorem dX2_hasRing_9 : decode cX2_hasRing 9 = .ok (.invokestatic 46, 3) := by decide +kernel
theorem dX2_hasRing_12 : decode cX2_hasRing 12 = .ok (.isub, 1) := by decide +kernel
theorem dX2_hasRing_13 : decode cX2_hasRing 13 = .ok (.if_icmp .le 7, 3) := by decide +kernel
theorem dX2_hasRing_16 : decode cX2_hasRing 16 = .ok (.iconst 1, 1) := by decide +kernel
theorem dX2_hasRing_17 : decode cX2_hasRing 17 = .ok (.goto 4, 3) := by decide +kernel
theorem dX2_hasRing_20 : decode cX2_hasRing 20 = .ok (.iconst 0, 1) := by decide +kernel
theorem dX2_hasRing_21 : decode cX2_hasRing 21 = .ok (.ireturn, 1) := by decide +kernel
theorem dX2_heavierThan_0 : decode cX2_heavierThan 0 = .ok (.iconst 1, 1) := by decide +kernel
theorem dX2_heavierThan_1 : decode cX2_heavierThan 1 = .ok (.iload_n 1, 1) := by decide +kernel
theorem dX2_heavierThan_2 : decode cX2_heavierThan 2 = .ok (.ishl, 1) := by decide +kernel
theorem dX2_heavierThan_3 : decode cX2_heavierThan 3 = .ok (.istore_n 2, 1) := by decide +kernel
theorem dX2_heavierThan_4 : decode cX2_heavierThan 4 = .ok (.iconst 0, 1) := by decide +kernel
theorem dX2_heavierThan_5 : decode cX2_heavierThan 5 = .ok (.istore_n 3, 1) := by decide +kernel
theorem dX2_heavierThan_6 : decode cX2_heavierThan 6 = .ok (.iload_n 3, 1) := by decide +kernel
theorem dX2_heavierThan_7 : decode cX2_heavierThan 7 = .ok (.aload_n 0, 1) := by decide +kernel
theorem dX2_heavierThan_8 : decode cX2_heavierThan 8 = .ok (.getfield 9, 3) := by decide +kernel
theorem dX2_heavierThan_11 : decode cX2_heavierThan 11 = .ok (.if_icmp .ge 64, 3) := by decide +kernel
theorem dX2_heavierThan_14 : decode cX2_heavierThan 14 = .ok (.iconst 0, 1) := by decide +kernel
theorem dX2_heavierThan_15 : decode cX2_heavierThan 15 = .ok (.istore 4, 2) := by decide +kernel
theorem dX2_heavierThan_17 : decode cX2_heavierThan 17 = .ok (.iload 4, 2) := by decide +kernel
theorem dX2_heavierThan_19 : decode cX2_heavierThan 19 = .ok (.aload_n 0, 1) := by decide +kernel
theorem dX2_heavierThan_20 : decode cX2_heavierThan 20 = .ok (.getfield 9, 3) := by decide +kernel
theorem dX2_heavierThan_23 : decode cX2_heavierThan 23 = .ok (.if_icmp .ge 46, 3) := by decide +kernel
theorem dX2_heavierThan_26 : decode cX2_heavierThan 26 = .ok (.aload_n 0, 1) := by decide +kernel
theorem dX2_heavierThan_27 : decode cX2_heavierThan 27 = .ok (.iload 4, 2) := by decide +kernel
theorem dX2_heavierThan_29 : decode cX2_heavierThan 29 = .ok (.invokevirtual 50, 3) := by decide +kernel
theorem dX2_heavierThan_32 : decode cX2_heavierThan 32 = .ok (.istore 5, 2) := by decide +kernel
theorem dX2_heavierThan_34 : decode cX2_heavierThan 34 = .ok (.iload 5, 2) := by decide +kernel
theorem dX2_heavierThan_36 : decode cX2_heavierThan 36 = .ok (.bipush (-9), 2) := by decide +kernel
theorem dX2_heavierThan_38 : decode cX2_heavierThan 38 = .ok (.if_icmp .eq 25, 3) := by decide +kernel
theorem dX2_heavierThan_41 : decode cX2_heavierThan 41 = .ok (.iload_n 2, 1) := by decide +kernel
theorem dX2_heavierThan_42 : decode cX2_heavierThan 42 = .ok (.aload_n 0, 1) := by decide +kernel
theorem dX2_heavierThan_43 : decode cX2_heavierThan 43 = .ok (.iload 4, 2) := by decide +kernel
theorem dX2_heavierThan_45 : decode cX2_heavierThan 45 = .ok (.iload 5, 2) := by decide +kernel
theorem dX2_heavierThan_47 : decode cX2_heavierThan 47 = .ok (.invokevirtual 53, 3) := by decide +kernel
theorem dX2_heavierThan_50 : decode cX2_heavierThan 50 = .ok (.invokestatic 56, 3) := by decide +kernel
theorem dX2_heavierThan_53 : decode cX2_heavierThan 53 = .ok (.ifCond .eq 10, 3) := by decide +kernel
theorem dX2_heavierThan_56 : decode cX2_heavierThan 56 = .ok (.iload_n 2, 1) := by decide +kernel
theorem dX2_heavierThan_57 : decode cX2_heavierThan 57 = .ok (.iconst 1, 1) := by decide +kernel
theorem dX2_heavierThan_58 : decode cX2_heavierThan 58 = .ok (.iload 5, 2) := by decide +kernel
theorem dX2_heavierThan_60 : decode cX2_heavierThan 60 = .ok (.ishl, 1) := by decide +kernel
theorem dX2_heavierThan_61 : decode cX2_heavierThan 61 = .ok (.ior, 1) := by decide +kernel
theorem dX2_heavierThan_62 : decode cX2_heavierThan 62 = .ok (.istore_n 2, 1) := by decide +kernel
theorem dX2_heavierThan_63 : decode cX2_heavierThan 63 = .ok (.iinc 4 1, 3) := by decide +kernel
theorem dX2_heavierThan_66 : decode cX2_heavierThan 66 = .ok (.goto (-49), 3) := by decide +kernel
theorem dX2_heavierThan_69 : decode cX2_heavierThan 69 = .ok (.iinc 3 1, 3) := by decide +kernel
theorem dX2_heavierThan_72 : decode cX2_heavierThan 72 = .ok (.goto (-66), 3) := by decide +kernel
theorem dX2_heavierThan_75 : decode cX2_heavierThan 75 = .ok (.iload_n 2, 1) := by decide +kernel
theorem dX2_heavierThan_76 : decode cX2_heavierThan 76 = .ok (.iconst 1, 1) := by decide +kernel
theorem dX2_heavierThan_77 : decode cX2_heavierThan 77 = .ok (.iload_n 1, 1) := by decide +kernel
theorem dX2_heavierThan_78 : decode cX2_heavierThan 78 = .ok (.ishl, 1) := by decide +kernel
theorem dX2_heavierThan_79 : decode cX2_heavierThan 79 = .ok (.iconst (-1), 1) := by decide +kernel
theorem dX2_heavierThan_80 : decode cX2_heavierThan 80 = .ok (.ixor, 1) := by decide +kernel
theorem dX2_heavierThan_81 : decode cX2_heavierThan 81 = .ok (.iand, 1) := by decide +kernel
theorem dX2_heavierThan_82 : decode cX2_heavierThan 82 = .ok (.ireturn, 1) := by decide +kernel
theorem dX2_heaviestAbove_0 : decode cX2_heaviestAbove 0 = .ok (.aload_n 0, 1) := by decide +kernel
theorem dX2_heaviestAbove_1 : decode cX2_heaviestAbove 1 = .ok (.iload_n 1, 1) := by decide +kernel
theorem dX2_heaviestAbove_2 : decode cX2_heaviestAbove 2 = .ok (.invokestatic 60, 3) := by decide +kernel
theorem dX2_heaviestAbove_5 : decode cX2_heaviestAbove 5 = .ok (.istore_n 2, 1) := by decide +kernel
theorem dX2_heaviestAbove_6 : decode cX2_heaviestAbove 6 = .ok (.iload_n 1, 1) := by decide +kernel
theorem dX2_heaviestAbove_7 : decode cX2_heaviestAbove 7 = .ok (.istore_n 3, 1) := by decide +kernel
theorem dX2_heaviestAbove_8 : decode cX2_heaviestAbove 8 = .ok (.aload_n 0, 1) := by decide +kernel
theorem dX2_heaviestAbove_9 : decode cX2_heaviestAbove 9 = .ok (.iload_n 1, 1) := by decide +kernel
theorem dX2_heaviestAbove_10 : decode cX2_heaviestAbove 10 = .ok (.invokevirtual 63, 3) := by decide +kernel
theorem dX2_heaviestAbove_13 : decode cX2_heaviestAbove 13 = .ok (.istore 4, 2) := by decide +kernel
theorem dX2_heaviestAbove_15 : decode cX2_heaviestAbove 15 = .ok (.iconst 0, 1) := by decide +kernel
theorem dX2_heaviestAbove_16 : decode cX2_heaviestAbove 16 = .ok (.istore 5, 2) := by decide +kernel
theorem dX2_heaviestAbove_18 : decode cX2_heaviestAbove 18 = .ok (.iload 5, 2) := by decide +kernel
theorem dX2_heaviestAbove_20 : decode cX2_heaviestAbove 20 = .ok (.aload_n 0, 1) := by decide +kernel
theorem dX2_heaviestAbove_21 : decode cX2_heaviestAbove 21 = .ok (.getfield 22, 3) := by decide +kernel
theorem dX2_heaviestAbove_24 : decode cX2_heaviestAbove 24 = .ok (.if_icmp .ge 40, 3) := by decide +kernel
theorem dX2_heaviestAbove_27 : decode cX2_heaviestAbove 27 = .ok (.iload_n 2, 1) := by decide +kernel
theorem dX2_heaviestAbove_28 : decode cX2_heaviestAbove 28 = .ok (.iload 5, 2) := by decide +kernel
theorem dX2_heaviestAbove_30 : decode cX2_heaviestAbove 30 = .ok (.invokestatic 56, 3) := by decide +kernel
theorem dX2_heaviestAbove_33 : decode cX2_heaviestAbove 33 = .ok (.ifCond .eq 25, 3) := by decide +kernel
theorem dX2_heaviestAbove_36 : decode cX2_heaviestAbove 36 = .ok (.aload_n 0, 1) := by decide +kernel
theorem dX2_heaviestAbove_37 : decode cX2_heaviestAbove 37 = .ok (.iload 5, 2) := by decide +kernel
theorem dX2_heaviestAbove_39 : decode cX2_heaviestAbove 39 = .ok (.invokevirtual 63, 3) := by decide +kernel
theorem dX2_heaviestAbove_42 : decode cX2_heaviestAbove 42 = .ok (.iload 4, 2) := by decide +kernel
theorem dX2_heaviestAbove_44 : decode cX2_heaviestAbove 44 = .ok (.if_icmp .le 14, 3) := by decide +kernel
theorem dX2_heaviestAbove_47 : decode cX2_heaviestAbove 47 = .ok (.aload_n 0, 1) := by decide +kernel
theorem dX2_heaviestAbove_48 : decode cX2_heaviestAbove 48 = .ok (.iload 5, 2) := by decide +kernel
theorem dX2_heaviestAbove_50 : decode cX2_heaviestAbove 50 = .ok (.invokevirtual 63, 3) := by decide +kernel
theorem dX2_heaviestAbove_53 : decode cX2_heaviestAbove 53 = .ok (.istore 4, 2) := by decide +kernel
theorem dX2_heaviestAbove_55 : decode cX2_heaviestAbove 55 = .ok (.iload 5, 2) := by decide +kernel
theorem dX2_heaviestAbove_57 : decode cX2_heaviestAbove 57 = .ok (.istore_n 3, 1) := by decide +kernel
theorem dX2_heaviestAbove_58 : decode cX2_heaviestAbove 58 = .ok (.iinc 5 1, 3) := by decide +kernel
theorem dX2_heaviestAbove_61 : decode cX2_heaviestAbove 61 = .ok (.goto (-43), 3) := by decide +kernel
theorem dX2_heaviestAbove_64 : decode cX2_heaviestAbove 64 = .ok (.iload_n 3, 1) := by decide +kernel
theorem dX2_heaviestAbove_65 : decode cX2_heaviestAbove 65 = .ok (.ireturn, 1) := by decide +kernel
theorem dX3_init_0 : decode cX3_init 0 = .ok (.aload_n 0, 1) := by decide +kernel
theorem dX3_init_1 : decode cX3_init 1 = .ok (.invokespecial 3, 3) := by decide +kernel
theorem dX3_init_4 : decode cX3_init 4 = .ok (.aload_n 0, 1) := by decide +kernel
theorem dX3_init_5 : decode cX3_init 5 = .ok (.bipush 8, 2) := by decide +kernel
theorem dX3_init_7 : decode cX3_init 7 = .ok (.newarray .int, 2) := by decide +kernel
theorem dX3_init_9 : decode cX3_init 9 = .ok (.putfield 9, 3) := by decide +kernel
theorem dX3_init_12 : decode cX3_init 12 = .ok (.aload_n 0, 1) := by decide +kernel
theorem dX3_init_13 : decode cX3_init 13 = .ok (.bipush 8, 2) := by decide +kernel
theorem dX3_init_15 : decode cX3_init 15 = .ok (.newarray .int, 2) := by decide +kernel
theorem dX3_init_17 : decode cX3_init 17 = .ok (.putfield 15, 3) := by decide +kernel
theorem dX3_init_20 : decode cX3_init 20 = .ok (.aload_n 0, 1) := by decide +kernel
theorem dX3_init_21 : decode cX3_init 21 = .ok (.bipush 8, 2) := by decide +kernel
theorem dX3_init_23 : decode cX3_init 23 = .ok (.newarray .int, 2) := by decide +kernel
theorem dX3_init_25 : decode cX3_init 25 = .ok (.putfield 18, 3) := by decide +kernel
theorem dX3_init_28 : decode cX3_init 28 = .ok (.aload_n 0, 1) := by decide +kernel
theorem dX3_init_29 : decode cX3_init 29 = .ok (.bipush 8, 2) := by decide +kernel
theorem dX3_init_31 : decode cX3_init 31 = .ok (.newarray .int, 2) := by decide +kernel
theorem dX3_init_33 : decode cX3_init 33 = .ok (.putfield 21, 3) := by decide +kernel
theorem dX3_init_36 : decode cX3_init 36 = .ok (.aload_n 0, 1) := by decide +kernel
theorem dX3_init_37 : decode cX3_init 37 = .ok (.bipush 8, 2) := by decide +kernel
theorem dX3_init_39 : decode cX3_init 39 = .ok (.newarray .int, 2) := by decide +kernel
theorem dX3_init_41 : decode cX3_init 41 = .ok (.putfield 24, 3) := by decide +kernel
theorem dX3_init_44 : decode cX3_init 44 = .ok (.aload_n 0, 1) := by decide +kernel
theorem dX3_init_45 : decode cX3_init 45 = .ok (.bipush 6, 2) := by decide +kernel
theorem dX3_init_47 : decode cX3_init 47 = .ok (.newarray .int, 2) := by decide +kernel
theorem dX3_init_49 : decode cX3_init 49 = .ok (.putfield 27, 3) := by decide +kernel
theorem dX3_init_52 : decode cX3_init 52 = .ok (.aload_n 0, 1) := by decide +kernel
theorem dX3_init_53 : decode cX3_init 53 = .ok (.bipush 6, 2) := by decide +kernel
theorem dX3_init_55 : decode cX3_init 55 = .ok (.newarray .int, 2) := by decide +kernel
theorem dX3_init_57 : decode cX3_init 57 = .ok (.putfield 30, 3) := by decide +kernel
theorem dX3_init_60 : decode cX3_init 60 = .ok (.aload_n 0, 1) := by decide +kernel
theorem dX3_init_61 : decode cX3_init 61 = .ok (.iconst 0, 1) := by decide +kernel
theorem dX3_init_62 : decode cX3_init 62 = .ok (.putfield 33, 3) := by decide +kernel
theorem dX3_init_65 : decode cX3_init 65 = .ok (.aload_n 0, 1) := by decide +kernel
theorem dX3_init_66 : decode cX3_init 66 = .ok (.iconst 0, 1) := by decide +kernel
theorem dX3_init_67 : decode cX3_init 67 = .ok (.putfield 37, 3) := by decide +kernel
theorem dX3_init_70 : decode cX3_init 70 = .ok (.aload_n 0, 1) := by decide +kernel
theorem dX3_init_71 : decode cX3_init 71 = .ok (.iconst 0, 1) := by decide +kernel
theorem dX3_init_72 : decode cX3_init 72 = .ok (.putfield 40, 3) := by decide +kernel
theorem dX3_init_75 : decode cX3_init 75 = .ok (.return_, 1) := by decide +kernel
theorem dX3_copyFrom_0 : decode cX3_copyFrom 0 = .ok (.aload_n 0, 1) := by decide +kernel
theorem dX3_copyFrom_1 : decode cX3_copyFrom 1 = .ok (.aload_n 1, 1) := by decide +kernel
theorem dX3_copyFrom_2 : decode cX3_copyFrom 2 = .ok (.getfield 33, 3) := by decide +kernel
theorem dX3_copyFrom_5 : decode cX3_copyFrom 5 = .ok (.putfield 33, 3) := by decide +kernel
theorem dX3_copyFrom_8 : decode cX3_copyFrom 8 = .ok (.aload_n 0, 1) := by decide +kernel
theorem dX3_copyFrom_9 : decode cX3_copyFrom 9 = .ok (.aload_n 1, 1) := by decide +kernel
theorem dX3_copyFrom_10 : decode cX3_copyFrom 10 = .ok (.getfield 37, 3) := by decide +kernel
theorem dX3_copyFrom_13 : decode cX3_copyFrom 13 = .ok (.putfield 37, 3) := by decide +kernel
theorem dX3_copyFrom_16 : decode cX3_copyFrom 16 = .ok (.aload_n 0, 1) := by decide +kernel
theorem dX3_copyFrom_17 : decode cX3_copyFrom 17 = .ok (.aload_n 1, 1) := by decide +kernel
theorem dX3_copyFrom_18 : decode cX3_copyFrom 18 = .ok (.getfield 40, 3) := by decide +kernel
theorem dX3_copyFrom_21 : decode cX3_copyFrom 21 = .ok (.putfield 40, 3) := by decide +kernel
theorem dX3_copyFrom_24 : decode cX3_copyFrom 24 = .ok (.aload_n 1, 1) := by decide +kernel
theorem dX3_copyFrom_25 : decode cX3_copyFrom 25 = .ok (.getfield 9, 3) := by decide +kernel
theorem dX3_copyFrom_28 : decode cX3_copyFrom 28 = .ok (.iconst 0, 1) := by decide +kernel
theorem dX3_copyFrom_29 : decode cX3_copyFrom 29 = .ok (.aload_n 0, 1) := by decide +kernel
theorem dX3_copyFrom_30 : decode cX3_copyFrom 30 = .ok (.getfield 9, 3) := by decide +kernel
theorem dX3_copyFrom_33 : decode cX3_copyFrom 33 = .ok (.iconst 0, 1) := by decide +kernel
theorem dX3_copyFrom_34 : decode cX3_copyFrom 34 = .ok (.aload_n 0, 1) := by decide +kernel
theorem dX3_copyFrom_35 : decode cX3_copyFrom 35 = .ok (.getfield 33, 3) := by decide +kernel
theorem dX3_copyFrom_38 : decode cX3_copyFrom 38 = .ok (.invokestatic 43, 3) := by decide +kernel
theorem dX3_copyFrom_41 : decode cX3_copyFrom 41 = .ok (.aload_n 1, 1) := by decide +kernel
theorem dX3_copyFrom_42 : decode cX3_copyFrom 42 = .ok (.getfield 15, 3) := by decide +kernel
theorem dX3_copyFrom_45 : decode cX3_copyFrom 45 = .ok (.iconst 0, 1) := by decide +kernel
theorem dX3_copyFrom_46 : decode cX3_copyFrom 46 = .ok (.aload_n 0, 1) := by decide +kernel
theorem dX3_copyFrom_47 : decode cX3_copyFrom 47 = .ok (.getfield 15, 3) := by decide +kernel
theorem dX3_copyFrom_50 : decode cX3_copyFrom 50 = .ok (.iconst 0, 1) := by decide +kernel
theorem dX3_copyFrom_51 : decode cX3_copyFrom 51 = .ok (.aload_n 0, 1) := by decide +kernel
theorem dX3_copyFrom_52 : decode cX3_copyFrom 52 = .ok (.getfield 33, 3) := by decide +kernel
theorem dX3_copyFrom_55 : decode cX3_copyFrom 55 = .ok (.invokestatic 43, 3) := by decide +kernel
theorem dX3_copyFrom_58 : decode cX3_copyFrom 58 = .ok (.aload_n 1, 1) := by decide +kernel
theorem dX3_copyFrom_59 : decode cX3_copyFrom 59 = .ok (.getfield 18, 3) := by decide +kernel
theorem dX3_copyFrom_62 : decode cX3_copyFrom 62 = .ok (.iconst 0, 1) := by decide +kernel
theorem dX3_copyFrom_63 : decode cX3_copyFrom 63 = .ok (.aload_n 0, 1) := by decide +kernel
theorem dX3_copyFrom_64 : decode cX3_copyFrom 64 = .ok (.getfield 18, 3) := by decide +kernel
theorem dX3_copyFrom_67 : decode cX3_copyFrom 67 = .ok (.iconst 0, 1) := by decide +kernel
theorem dX3_copyFrom_68 : decode cX3_copyFrom 68 = .ok (.aload_n 0, 1) := by decide +kernel
theorem dX3_copyFrom_69 : decode cX3_copyFrom 69 = .ok (.getfield 33, 3) := by decide +kernel
theorem dX3_copyFrom_72 : decode cX3_copyFrom 72 = .ok (.invokestatic 43, 3) := by decide +kernel
theorem dX3_copyFrom_75 : decode cX3_copyFrom 75 = .ok (.aload_n 1, 1) := by decide +kernel
theorem dX3_copyFrom_76 : decode cX3_copyFrom 76 = .ok (.getfield 21, 3) := by decide +kernel
theorem dX3_copyFrom_79 : decode cX3_copyFrom 79 = .ok (.iconst 0, 1) := by decide +kernel
theorem dX3_copyFrom_80 : decode cX3_copyFrom 80 = .ok (.aload_n 0, 1) := by decide +kernel
theorem dX3_copyFrom_81 : decode cX3_copyFrom 81 = .ok (.getfield 21, 3) := by decide +kernel
theorem dX3_copyFrom_84 : decode cX3_copyFrom 84 = .ok (.iconst 0, 1) := by decide +kernel
theorem dX3_copyFrom_85 : decode cX3_copyFrom 85 = .ok (.aload_n 0, 1) := by decide +kernel
theorem dX3_copyFrom_86 : decode cX3_copyFrom 86 = .ok (.getfield 33, 3) := by decide +kernel
theorem dX3_copyFrom_89 : decode cX3_copyFrom 89 = .ok (.invokestatic 43, 3) := by decide +kernel
theorem dX3_copyFrom_92 : decode cX3_copyFrom 92 = .ok (.aload_n 1, 1) := by decide +kernel
theorem dX3_copyFrom_93 : decode cX3_copyFrom 93 = .ok (.getfield 24, 3) := by decide +kernel
theorem dX3_copyFrom_96 : decode cX3_copyFrom 96 = .ok (.iconst 0, 1) := by decide +kernel
theorem dX3_copyFrom_97 : decode cX3_copyFrom 97 = .ok (.aload_n 0, 1) := by decide +kernel
theorem dX3_copyFrom_98 : decode cX3_copyFrom 98 = .ok (.getfield 24, 3) := by decide +kernel
theorem dX3_copyFrom_101 : decode cX3_copyFrom 101 = .ok (.iconst 0, 1) := by decide +kernel
theorem dX3_copyFrom_102 : decode cX3_copyFrom 102 = .ok (.aload_n 0, 1) := by decide +kernel
theorem dX3_copyFrom_103 : decode cX3_copyFrom 103 = .ok (.getfield 33, 3) := by decide +kernel
theorem dX3_copyFrom_106 : decode cX3_copyFrom 106 = .ok (.invokestatic 43, 3) := by decide +kernel
theorem dX3_copyFrom_109 : decode cX3_copyFrom 109 = .ok (.aload_n 1, 1) := by decide +kernel
theorem dX3_copyFrom_110 : decode cX3_copyFrom 110 = .ok (.getfield 27, 3) := by decide +kernel
theorem dX3_copyFrom_113 : decode cX3_copyFrom 113 = .ok (.iconst 0, 1) := by decide +kernel
theorem dX3_copyFrom_114 : decode cX3_copyFrom 114 = .ok (.aload_n 0, 1) := by decide +kernel
theorem dX3_copyFrom_115 : decode cX3_copyFrom 115 = .ok (.getfield 27, 3) := by decide +kernel
theorem dX3_copyFrom_118 : decode cX3_copyFrom 118 = .ok (.iconst 0, 1) := by decide +kernel
theorem dX3_copyFrom_119 : decode cX3_copyFrom 119 = .ok (.aload_n 0, 1) := by decide +kernel
theorem dX3_copyFrom_120 : decode cX3_copyFrom 120 = .ok (.getfield 37, 3) := by decide +kernel
theorem dX3_copyFrom_123 : decode cX3_copyFrom 123 = .ok (.invokestatic 43, 3) := by decide +kernel
theorem dX3_copyFrom_126 : decode cX3_copyFrom 126 = .ok (.aload_n 1, 1) := by decide +kernel
theorem dX3_copyFrom_127 : decode cX3_copyFrom 127 = .ok (.getfield 30, 3) := by decide +kernel
theorem dX3_copyFrom_130 : decode cX3_copyFrom 130 = .ok (.iconst 0, 1) := by decide +kernel
theorem dX3_copyFrom_131 : decode cX3_copyFrom 131 = .ok (.aload_n 0, 1) := by decide +kernel
theorem dX3_copyFrom_132 : decode cX3_copyFrom 132 = .ok (.getfield 30, 3) := by decide +kernel
theorem dX3_copyFrom_135 : decode cX3_copyFrom 135 = .ok (.iconst 0, 1) := by decide +kernel
theorem dX3_copyFrom_136 : decode cX3_copyFrom 136 = .ok (.aload_n 0, 1) := by decide +kernel
theorem dX3_copyFrom_137 : decode cX3_copyFrom 137 = .ok (.getfield 37, 3) := by decide +kernel
theorem dX3_copyFrom_140 : decode cX3_copyFrom 140 = .ok (.invokestatic 43, 3) := by decide +kernel
theorem dX3_copyFrom_143 : decode cX3_copyFrom 143 = .ok (.return_, 1) := by decide +kernel
theorem dX3_hasThing_0 : decode cX3_hasThing 0 = .ok (.iload_n 1, 1) := by decide +kernel
theorem dX3_hasThing_1 : decode cX3_hasThing 1 = .ok (.ifCond .lt 15, 3) := by decide +kernel
theorem dX3_hasThing_4 : decode cX3_hasThing 4 = .ok (.iload_n 1, 1) := by decide +kernel
theorem dX3_hasThing_5 : decode cX3_hasThing 5 = .ok (.aload_n 0, 1) := by decide +kernel
theorem dX3_hasThing_6 : decode cX3_hasThing 6 = .ok (.getfield 33, 3) := by decide +kernel
theorem dX3_hasThing_9 : decode cX3_hasThing 9 = .ok (.if_icmp .ge 7, 3) := by decide +kernel
theorem dX3_hasThing_12 : decode cX3_hasThing 12 = .ok (.iconst 1, 1) := by decide +kernel
theorem dX3_hasThing_13 : decode cX3_hasThing 13 = .ok (.goto 4, 3) := by decide +kernel
theorem dX3_hasThing_16 : decode cX3_hasThing 16 = .ok (.iconst 0, 1) := by decide +kernel
theorem dX3_hasThing_17 : decode cX3_hasThing 17 = .ok (.ireturn, 1) := by decide +kernel
theorem dX3_hasRope_0 : decode cX3_hasRope 0 = .ok (.iload_n 1, 1) := by decide +kernel
theorem dX3_hasRope_1 : decode cX3_hasRope 1 = .ok (.ifCond .lt 15, 3) := by decide +kernel
theorem dX3_hasRope_4 : decode cX3_hasRope 4 = .ok (.iload_n 1, 1) := by decide +kernel
theorem dX3_hasRope_5 : decode cX3_hasRope 5 = .ok (.aload_n 0, 1) := by decide +kernel
theorem dX3_hasRope_6 : decode cX3_hasRope 6 = .ok (.getfield 37, 3) := by decide +kernel
theorem dX3_hasRope_9 : decode cX3_hasRope 9 = .ok (.if_icmp .ge 7, 3) := by decide +kernel
theorem dX3_hasRope_12 : decode cX3_hasRope 12 = .ok (.iconst 1, 1) := by decide +kernel
theorem dX3_hasRope_13 : decode cX3_hasRope 13 = .ok (.goto 4, 3) := by decide +kernel
theorem dX3_hasRope_16 : decode cX3_hasRope 16 = .ok (.iconst 0, 1) := by decide +kernel
theorem dX3_hasRope_17 : decode cX3_hasRope 17 = .ok (.ireturn, 1) := by decide +kernel
theorem dX3_hasPair_0 : decode cX3_hasPair 0 = .ok (.aload_n 0, 1) := by decide +kernel
theorem dX3_hasPair_1 : decode cX3_hasPair 1 = .ok (.iload_n 1, 1) := by decide +kernel
theorem dX3_hasPair_2 : decode cX3_hasPair 2 = .ok (.invokevirtual 49, 3) := by decide +kernel
theorem dX3_hasPair_5 : decode cX3_hasPair 5 = .ok (.ifCond .eq 20, 3) := by decide +kernel
theorem dX3_hasPair_8 : decode cX3_hasPair 8 = .ok (.aload_n 0, 1) := by decide +kernel
theorem dX3_hasPair_9 : decode cX3_hasPair 9 = .ok (.iload_n 2, 1) := by decide +kernel
theorem dX3_hasPair_10 : decode cX3_hasPair 10 = .ok (.invokevirtual 49, 3) := by decide +kernel
theorem dX3_hasPair_13 : decode cX3_hasPair 13 = .ok (.ifCond .eq 12, 3) := by decide +kernel
theorem dX3_hasPair_16 : decode cX3_hasPair 16 = .ok (.iload_n 1, 1) := by decide +kernel
theorem dX3_hasPair_17 : decode cX3_hasPair 17 = .ok (.iload_n 2, 1) := by decide +kernel
theorem dX3_hasPair_18 : decode cX3_hasPair 18 = .ok (.if_icmp .eq 7, 3) := by decide +kernel
theorem dX3_hasPair_21 : decode cX3_hasPair 21 = .ok (.iconst 1, 1) := by decide +kernel
theorem dX3_hasPair_22 : decode cX3_hasPair 22 = .ok (.goto 4, 3) := by decide +kernel
theorem dX3_hasPair_25 : decode cX3_hasPair 25 = .ok (.iconst 0, 1) := by decide +kernel
theorem dX3_hasPair_26 : decode cX3_hasPair 26 = .ok (.ireturn, 1) := by decide +kernel
theorem dX3_addThing_0 : decode cX3_addThing 0 = .ok (.aload_n 0, 1) := by decide +kernel
theorem dX3_addThing_1 : decode cX3_addThing 1 = .ok (.getfield 9, 3) := by decide +kernel
theorem dX3_addThing_4 : decode cX3_addThing 4 = .ok (.aload_n 0, 1) := by decide +kernel
theorem dX3_addThing_5 : decode cX3_addThing 5 = .ok (.getfield 33, 3) := by decide +kernel
theorem dX3_addThing_8 : decode cX3_addThing 8 = .ok (.iload_n 1, 1) := by decide +kernel
theorem dX3_addThing_9 : decode cX3_addThing 9 = .ok (.iastore, 1) := by decide +kernel
theorem dX3_addThing_10 : decode cX3_addThing 10 = .ok (.aload_n 0, 1) := by decide +kernel
theorem dX3_addThing_11 : decode cX3_addThing 11 = .ok (.getfield 15, 3) := by decide +kernel
theorem dX3_addThing_14 : decode cX3_addThing 14 = .ok (.aload_n 0, 1) := by decide +kernel
theorem dX3_addThing_15 : decode cX3_addThing 15 = .ok (.getfield 33, 3) := by decide +kernel
theorem dX3_addThing_18 : decode cX3_addThing 18 = .ok (.iload_n 2, 1) := by decide +kernel
theorem dX3_addThing_19 : decode cX3_addThing 19 = .ok (.iastore, 1) := by decide +kernel
theorem dX3_addThing_20 : decode cX3_addThing 20 = .ok (.aload_n 0, 1) := by decide +kernel
theorem dX3_addThing_21 : decode cX3_addThing 21 = .ok (.getfield 18, 3) := by decide +kernel
theorem dX3_addThing_24 : decode cX3_addThing 24 = .ok (.aload_n 0, 1) := by decide +kernel
theorem dX3_addThing_25 : decode cX3_addThing 25 = .ok (.getfield 33, 3) := by decide +kernel
theorem dX3_addThing_28 : decode cX3_addThing 28 = .ok (.iload_n 3, 1) := by decide +kernel
theorem dX3_addThing_29 : decode cX3_addThing 29 = .ok (.iastore, 1) := by decide +kernel
theorem dX3_addThing_30 : decode cX3_addThing 30 = .ok (.aload_n 0, 1) := by decide +kernel
theorem dX3_addThing_31 : decode cX3_addThing 31 = .ok (.getfield 21, 3) := by decide +kernel
theorem dX3_addThing_34 : decode cX3_addThing 34 = .ok (.aload_n 0, 1) := by decide +kernel
theorem dX3_addThing_35 : decode cX3_addThing 35 = .ok (.getfield 33, 3) := by decide +kernel
theorem dX3_addThing_38 : decode cX3_addThing 38 = .ok (.iconst 0, 1) := by decide +kernel
theorem dX3_addThing_39 : decode cX3_addThing 39 = .ok (.iastore, 1) := by decide +kernel
theorem dX3_addThing_40 : decode cX3_addThing 40 = .ok (.aload_n 0, 1) := by decide +kernel
theorem dX3_addThing_41 : decode cX3_addThing 41 = .ok (.getfield 24, 3) := by decide +kernel
theorem dX3_addThing_44 : decode cX3_addThing 44 = .ok (.aload_n 0, 1) := by decide +kernel
theorem dX3_addThing_45 : decode cX3_addThing 45 = .ok (.getfield 33, 3) := by decide +kernel
theorem dX3_addThing_48 : decode cX3_addThing 48 = .ok (.iconst 0, 1) := by decide +kernel
theorem dX3_addThing_49 : decode cX3_addThing 49 = .ok (.iastore, 1) := by decide +kernel
theorem dX3_addThing_50 : decode cX3_addThing 50 = .ok (.aload_n 0, 1) := by decide +kernel
theorem dX3_addThing_51 : decode cX3_addThing 51 = .ok (.dup, 1) := by decide +kernel
theorem dX3_addThing_52 : decode cX3_addThing 52 = .ok (.getfield 33, 3) := by decide +kernel
theorem dX3_addThing_55 : decode cX3_addThing 55 = .ok (.iconst 1, 1) := by decide +kernel
theorem dX3_addThing_56 : decode cX3_addThing 56 = .ok (.iadd, 1) := by decide +kernel
theorem dX3_addThing_57 : decode cX3_addThing 57 = .ok (.putfield 33, 3) := by decide +kernel
theorem dX3_addThing_60 : decode cX3_addThing 60 = .ok (.return_, 1) := by decide +kernel
theorem dX3_addRope_0 : decode cX3_addRope 0 = .ok (.aload_n 0, 1) := by decide +kernel
theorem dX3_addRope_1 : decode cX3_addRope 1 = .ok (.getfield 27, 3) := by decide +kernel
theorem dX3_addRope_4 : decode cX3_addRope 4 = .ok (.aload_n 0, 1) := by decide +kernel
theorem dX3_addRope_5 : decode cX3_addRope 5 = .ok (.getfield 37, 3) := by decide +kernel
theorem dX3_addRope_8 : decode cX3_addRope 8 = .ok (.iload_n 1, 1) := by decide +kernel
theorem dX3_addRope_9 : decode cX3_addRope 9 = .ok (.iastore, 1) := by decide +kernel
theorem dX3_addRope_10 : decode cX3_addRope 10 = .ok (.aload_n 0, 1) := by decide +kernel
theorem dX3_addRope_11 : decode cX3_addRope 11 = .ok (.getfield 30, 3) := by decide +kernel
theorem dX3_addRope_14 : decode cX3_addRope 14 = .ok (.aload_n 0, 1) := by decide +kernel
theorem dX3_addRope_15 : decode cX3_addRope 15 = .ok (.getfield 37, 3) := by decide +kernel
theorem dX3_addRope_18 : decode cX3_addRope 18 = .ok (.iload_n 2, 1) := by decide +kernel
theorem dX3_addRope_19 : decode cX3_addRope 19 = .ok (.iastore, 1) := by decide +kernel
theorem dX3_addRope_20 : decode cX3_addRope 20 = .ok (.aload_n 0, 1) := by decide +kernel
theorem dX3_addRope_21 : decode cX3_addRope 21 = .ok (.dup, 1) := by decide +kernel
theorem dX3_addRope_22 : decode cX3_addRope 22 = .ok (.getfield 37, 3) := by decide +kernel
theorem dX3_addRope_25 : decode cX3_addRope 25 = .ok (.iconst 1, 1) := by decide +kernel
theorem dX3_addRope_26 : decode cX3_addRope 26 = .ok (.iadd, 1) := by decide +kernel
theorem dX3_addRope_27 : decode cX3_addRope 27 = .ok (.putfield 37, 3) := by decide +kernel
theorem dX3_addRope_30 : decode cX3_addRope 30 = .ok (.aload_n 0, 1) := by decide +kernel
theorem dX3_addRope_31 : decode cX3_addRope 31 = .ok (.getfield 37, 3) := by decide +kernel
theorem dX3_addRope_34 : decode cX3_addRope 34 = .ok (.iconst 1, 1) := by decide +kernel
theorem dX3_addRope_35 : decode cX3_addRope 35 = .ok (.isub, 1) := by decide +kernel
theorem dX3_addRope_36 : decode cX3_addRope 36 = .ok (.ireturn, 1) := by decide +kernel
theorem dX3_dropRope_0 : decode cX3_dropRope 0 = .ok (.aload_n 0, 1) := by decide +kernel
theorem dX3_dropRope_1 : decode cX3_dropRope 1 = .ok (.dup, 1) := by decide +kernel
theorem dX3_dropRope_2 : decode cX3_dropRope 2 = .ok (.getfield 37, 3) := by decide +kernel
theorem dX3_dropRope_5 : decode cX3_dropRope 5 = .ok (.iconst 1, 1) := by decide +kernel
theorem dX3_dropRope_6 : decode cX3_dropRope 6 = .ok (.isub, 1) := by decide +kernel
theorem dX3_dropRope_7 : decode cX3_dropRope 7 = .ok (.putfield 37, 3) := by decide +kernel
theorem dX3_dropRope_10 : decode cX3_dropRope 10 = .ok (.iload_n 1, 1) := by decide +kernel
theorem dX3_dropRope_11 : decode cX3_dropRope 11 = .ok (.istore_n 2, 1) := by decide +kernel
theorem dX3_dropRope_12 : decode cX3_dropRope 12 = .ok (.iload_n 2, 1) := by decide +kernel
theorem dX3_dropRope_13 : decode cX3_dropRope 13 = .ok (.aload_n 0, 1) := by decide +kernel
theorem dX3_dropRope_14 : decode cX3_dropRope 14 = .ok (.getfield 37, 3) := by decide +kernel
theorem dX3_dropRope_17 : decode cX3_dropRope 17 = .ok (.if_icmp .ge 37, 3) := by decide +kernel
theorem dX3_dropRope_20 : decode cX3_dropRope 20 = .ok (.aload_n 0, 1) := by decide +kernel
theorem dX3_dropRope_21 : decode cX3_dropRope 21 = .ok (.getfield 27, 3) := by decide +kernel
theorem dX3_dropRope_24 : decode cX3_dropRope 24 = .ok (.iload_n 2, 1) := by decide +kernel
theorem dX3_dropRope_25 : decode cX3_dropRope 25 = .ok (.aload_n 0, 1) := by decide +kernel
theorem dX3_dropRope_26 : decode cX3_dropRope 26 = .ok (.getfield 27, 3) := by decide +kernel
theorem dX3_dropRope_29 : decode cX3_dropRope 29 = .ok (.iload_n 2, 1) := by decide +kernel
theorem dX3_dropRope_30 : decode cX3_dropRope 30 = .ok (.iconst 1, 1) := by decide +kernel
theorem dX3_dropRope_31 : decode cX3_dropRope 31 = .ok (.iadd, 1) := by decide +kernel
theorem dX3_dropRope_32 : decode cX3_dropRope 32 = .ok (.iaload, 1) := by decide +kernel
theorem dX3_dropRope_33 : decode cX3_dropRope 33 = .ok (.iastore, 1) := by decide +kernel
theorem dX3_dropRope_34 : decode cX3_dropRope 34 = .ok (.aload_n 0, 1) := by decide +kernel
theorem dX3_dropRope_35 : decode cX3_dropRope 35 = .ok (.getfield 30, 3) := by decide +kernel
theorem dX3_dropRope_38 : decode cX3_dropRope 38 = .ok (.iload_n 2, 1) := by decide +kernel
theorem dX3_dropRope_39 : decode cX3_dropRope 39 = .ok (.aload_n 0, 1) := by decide +kernel
theorem dX3_dropRope_40 : decode cX3_dropRope 40 = .ok (.getfield 30, 3) := by decide +kernel
theorem dX3_dropRope_43 : decode cX3_dropRope 43 = .ok (.iload_n 2, 1) := by decide +kernel
theorem dX3_dropRope_44 : decode cX3_dropRope 44 = .ok (.iconst 1, 1) := by decide +kernel
theorem dX3_dropRope_45 : decode cX3_dropRope 45 = .ok (.iadd, 1) := by decide +kernel
theorem dX3_dropRope_46 : decode cX3_dropRope 46 = .ok (.iaload, 1) := by decide +kernel
theorem dX3_dropRope_47 : decode cX3_dropRope 47 = .ok (.iastore, 1) := by decide +kernel
theorem dX3_dropRope_48 : decode cX3_dropRope 48 = .ok (.iinc 2 1, 3) := by decide +kernel
theorem dX3_dropRope_51 : decode cX3_dropRope 51 = .ok (.goto (-39), 3) := by decide +kernel
theorem dX3_dropRope_54 : decode cX3_dropRope 54 = .ok (.aload_n 0, 1) := by decide +kernel
theorem dX3_dropRope_55 : decode cX3_dropRope 55 = .ok (.getfield 37, 3) := by decide +kernel
theorem dX3_dropRope_58 : decode cX3_dropRope 58 = .ok (.ireturn, 1) := by decide +kernel
theorem dX3_heftOf_0 : decode cX3_heftOf 0 = .ok (.aload_n 0, 1) := by decide +kernel
theorem dX3_heftOf_1 : decode cX3_heftOf 1 = .ok (.getfield 18, 3) := by decide +kernel
theorem dX3_heftOf_4 : decode cX3_heftOf 4 = .ok (.iload_n 1, 1) := by decide +kernel
theorem dX3_heftOf_5 : decode cX3_heftOf 5 = .ok (.iaload, 1) := by decide +kernel
theorem dX3_heftOf_6 : decode cX3_heftOf 6 = .ok (.iconst 2, 1) := by decide +kernel
theorem dX3_heftOf_7 : decode cX3_heftOf 7 = .ok (.aload_n 0, 1) := by decide +kernel
theorem dX3_heftOf_8 : decode cX3_heftOf 8 = .ok (.getfield 21, 3) := by decide +kernel
theorem dX3_heftOf_11 : decode cX3_heftOf 11 = .ok (.iload_n 1, 1) := by decide +kernel
theorem dX3_heftOf_12 : decode cX3_heftOf 12 = .ok (.iaload, 1) := by decide +kernel
theorem dX3_heftOf_13 : decode cX3_heftOf 13 = .ok (.imul, 1) := by decide +kernel
theorem dX3_heftOf_14 : decode cX3_heftOf 14 = .ok (.iadd, 1) := by decide +kernel
theorem dX3_heftOf_15 : decode cX3_heftOf 15 = .ok (.istore_n 2, 1) := by decide +kernel
theorem dX3_heftOf_16 : decode cX3_heftOf 16 = .ok (.aload_n 0, 1) := by decide +kernel
theorem dX3_heftOf_17 : decode cX3_heftOf 17 = .ok (.getfield 9, 3) := by decide +kernel
theorem dX3_heftOf_20 : decode cX3_heftOf 20 = .ok (.iload_n 1, 1) := by decide +kernel
theorem dX3_heftOf_21 : decode cX3_heftOf 21 = .ok (.iaload, 1) := by decide +kernel
theorem dX3_heftOf_22 : decode cX3_heftOf 22 = .ok (.istore_n 3, 1) := by decide +kernel
theorem dX3_heftOf_23 : decode cX3_heftOf 23 = .ok (.iload_n 3, 1) := by decide +kernel
theorem dX3_heftOf_24 : decode cX3_heftOf 24 = .ok (.iconst 4, 1) := by decide +kernel
theorem dX3_heftOf_25 : decode cX3_heftOf 25 = .ok (.if_icmp .ne 7, 3) := by decide +kernel
theorem dX3_heftOf_28 : decode cX3_heftOf 28 = .ok (.iload_n 2, 1) := by decide +kernel
theorem dX3_heftOf_29 : decode cX3_heftOf 29 = .ok (.iconst 2, 1) := by decide +kernel
theorem dX3_heftOf_30 : decode cX3_heftOf 30 = .ok (.idiv, 1) := by decide +kernel
theorem dX3_heftOf_31 : decode cX3_heftOf 31 = .ok (.ireturn, 1) := by decide +kernel
theorem dX3_heftOf_32 : decode cX3_heftOf 32 = .ok (.iload_n 3, 1) := by decide +kernel
theorem dX3_heftOf_33 : decode cX3_heftOf 33 = .ok (.iconst 5, 1) := by decide +kernel
theorem dX3_heftOf_34 : decode cX3_heftOf 34 = .ok (.if_icmp .ne 15, 3) := by decide +kernel
theorem dX3_heftOf_37 : decode cX3_heftOf 37 = .ok (.iload_n 2, 1) := by decide +kernel
theorem dX3_heftOf_38 : decode cX3_heftOf 38 = .ok (.bipush 20, 2) := by decide +kernel
theorem dX3_heftOf_40 : decode cX3_heftOf 40 = .ok (.iadd, 1) := by decide +kernel
theorem dX3_heftOf_41 : decode cX3_heftOf 41 = .ok (.aload_n 0, 1) := by decide +kernel
theorem dX3_heftOf_42 : decode cX3_heftOf 42 = .ok (.getfield 15, 3) := by decide +kernel
theorem dX3_heftOf_45 : decode cX3_heftOf 45 = .ok (.iload_n 1, 1) := by decide +kernel
theorem dX3_heftOf_46 : decode cX3_heftOf 46 = .ok (.iaload, 1) := by decide +kernel
theorem dX3_heftOf_47 : decode cX3_heftOf 47 = .ok (.iadd, 1) := by decide +kernel
theorem dX3_heftOf_48 : decode cX3_heftOf 48 = .ok (.ireturn, 1) := by decide +kernel
theorem dX3_heftOf_49 : decode cX3_heftOf 49 = .ok (.iload_n 3, 1) := by decide +kernel
theorem dX3_heftOf_50 : decode cX3_heftOf 50 = .ok (.iconst 2, 1) := by decide +kernel
theorem dX3_heftOf_51 : decode cX3_heftOf 51 = .ok (.if_icmp .eq 8, 3) := by decide +kernel
theorem dX3_heftOf_54 : decode cX3_heftOf 54 = .ok (.iload_n 3, 1) := by decide +kernel
theorem dX3_heftOf_55 : decode cX3_heftOf 55 = .ok (.iconst 3, 1) := by decide +kernel
theorem dX3_heftOf_56 : decode cX3_heftOf 56 = .ok (.if_icmp .ne 7, 3) := by decide +kernel
theorem dX3_heftOf_59 : decode cX3_heftOf 59 = .ok (.iconst 1, 1) := by decide +kernel
theorem dX3_heftOf_60 : decode cX3_heftOf 60 = .ok (.goto 4, 3) := by decide +kernel
theorem dX3_heftOf_63 : decode cX3_heftOf 63 = .ok (.iconst 0, 1) := by decide +kernel
theorem dX3_heftOf_64 : decode cX3_heftOf 64 = .ok (.istore 4, 2) := by decide +kernel
theorem dX3_heftOf_66 : decode cX3_heftOf 66 = .ok (.aload_n 0, 1) := by decide +kernel
theorem dX3_heftOf_67 : decode cX3_heftOf 67 = .ok (.getfield 40, 3) := by decide +kernel
theorem dX3_heftOf_70 : decode cX3_heftOf 70 = .ok (.bipush 24, 2) := by decide +kernel
theorem dX3_heftOf_72 : decode cX3_heftOf 72 = .ok (.irem, 1) := by decide +kernel
theorem dX3_heftOf_73 : decode cX3_heftOf 73 = .ok (.istore 5, 2) := by decide +kernel
theorem dX3_heftOf_75 : decode cX3_heftOf 75 = .ok (.iload_n 2, 1) := by decide +kernel
theorem dX3_heftOf_76 : decode cX3_heftOf 76 = .ok (.istore 6, 2) := by decide +kernel
theorem dX3_heftOf_78 : decode cX3_heftOf 78 = .ok (.iload_n 3, 1) := by decide +kernel
theorem dX3_heftOf_79 : decode cX3_heftOf 79 = .ok (.iconst 1, 1) := by decide +kernel
theorem dX3_heftOf_80 : decode cX3_heftOf 80 = .ok (.if_icmp .eq 8, 3) := by decide +kernel
theorem dX3_heftOf_83 : decode cX3_heftOf 83 = .ok (.iload 4, 2) := by decide +kernel
theorem dX3_heftOf_85 : decode cX3_heftOf 85 = .ok (.ifCond .eq 28, 3) := by decide +kernel
theorem dX3_heftOf_88 : decode cX3_heftOf 88 = .ok (.iload 5, 2) := by decide +kernel
theorem dX3_heftOf_90 : decode cX3_heftOf 90 = .ok (.bipush 12, 2) := by decide +kernel
theorem dX3_heftOf_92 : decode cX3_heftOf 92 = .ok (.if_icmp .lt 21, 3) := by decide +kernel
theorem dX3_heftOf_95 : decode cX3_heftOf 95 = .ok (.iload 5, 2) := by decide +kernel
theorem dX3_heftOf_97 : decode cX3_heftOf 97 = .ok (.bipush 17, 2) := by decide +kernel
theorem dX3_heftOf_99 : decode cX3_heftOf 99 = .ok (.if_icmp .gt 14, 3) := by decide +kernel
theorem dX3_heftOf_102 : decode cX3_heftOf 102 = .ok (.iload 6, 2) := by decide +kernel
theorem dX3_heftOf_104 : decode cX3_heftOf 104 = .ok (.aload_n 0, 1) := by decide +kernel
theorem dX3_heftOf_105 : decode cX3_heftOf 105 = .ok (.getfield 15, 3) := by decide +kernel
theorem dX3_heftOf_108 : decode cX3_heftOf 108 = .ok (.iload_n 1, 1) := by decide +kernel
theorem dX3_heftOf_109 : decode cX3_heftOf 109 = .ok (.iaload, 1) := by decide +kernel
theorem dX3_heftOf_110 : decode cX3_heftOf 110 = .ok (.iadd, 1) := by decide +kernel
theorem dX3_heftOf_111 : decode cX3_heftOf 111 = .ok (.istore 6, 2) := by decide +kernel
theorem dX3_heftOf_113 : decode cX3_heftOf 113 = .ok (.iload 4, 2) := by decide +kernel
theorem dX3_heftOf_115 : decode cX3_heftOf 115 = .ok (.ifCond .eq 17, 3) := by decide +kernel
theorem dX3_heftOf_118 : decode cX3_heftOf 118 = .ok (.iload 5, 2) := by decide +kernel
theorem dX3_heftOf_120 : decode cX3_heftOf 120 = .ok (.iconst 5, 1) := by decide +kernel
theorem dX3_heftOf_121 : decode cX3_heftOf 121 = .ok (.if_icmp .gt 11, 3) := by decide +kernel
theorem dX3_heftOf_124 : decode cX3_heftOf 124 = .ok (.iload 6, 2) := by decide +kernel
theorem dX3_heftOf_126 : decode cX3_heftOf 126 = .ok (.ifCond .le 6, 3) := by decide +kernel
theorem dX3_heftOf_129 : decode cX3_heftOf 129 = .ok (.iinc 6 (-1), 3) := by decide +kernel
theorem dX3_heftOf_132 : decode cX3_heftOf 132 = .ok (.iload_n 3, 1) := by decide +kernel
theorem dX3_heftOf_133 : decode cX3_heftOf 133 = .ok (.iconst 3, 1) := by decide +kernel
theorem dX3_heftOf_134 : decode cX3_heftOf 134 = .ok (.if_icmp .ne 16, 3) := by decide +kernel
theorem dX3_heftOf_137 : decode cX3_heftOf 137 = .ok (.aload_n 0, 1) := by decide +kernel
theorem dX3_heftOf_138 : decode cX3_heftOf 138 = .ok (.getfield 40, 3) := by decide +kernel
theorem dX3_heftOf_141 : decode cX3_heftOf 141 = .ok (.iconst 2, 1) := by decide +kernel
theorem dX3_heftOf_142 : decode cX3_heftOf 142 = .ok (.irem, 1) := by decide +kernel
theorem dX3_heftOf_143 : decode cX3_heftOf 143 = .ok (.iconst 1, 1) := by decide +kernel
theorem dX3_heftOf_144 : decode cX3_heftOf 144 = .ok (.if_icmp .ne 6, 3) := by decide +kernel
theorem dX3_heftOf_147 : decode cX3_heftOf 147 = .ok (.iinc 6 5, 3) := by decide +kernel
theorem dX3_heftOf_150 : decode cX3_heftOf 150 = .ok (.iload 6, 2) := by decide +kernel
theorem dX3_heftOf_152 : decode cX3_heftOf 152 = .ok (.ireturn, 1) := by decide +kernel
theorem dX3_heavierEnd_0 : decode cX3_heavierEnd 0 = .ok (.aload_n 0, 1) := by decide +kernel
theorem dX3_heavierEnd_1 : decode cX3_heavierEnd 1 = .ok (.aload_n 0, 1) := by decide +kernel
theorem dX3_heavierEnd_2 : decode cX3_heavierEnd 2 = .ok (.getfield 27, 3) := by decide +kernel
theorem dX3_heavierEnd_5 : decode cX3_heavierEnd 5 = .ok (.iload_n 1, 1) := by decide +kernel
theorem dX3_heavierEnd_6 : decode cX3_heavierEnd 6 = .ok (.iaload, 1) := by decide +kernel
theorem dX3_heavierEnd_7 : decode cX3_heavierEnd 7 = .ok (.invokevirtual 53, 3) := by decide +kernel
theorem dX3_heavierEnd_10 : decode cX3_heavierEnd 10 = .ok (.aload_n 0, 1) := by decide +kernel
theorem dX3_heavierEnd_11 : decode cX3_heavierEnd 11 = .ok (.aload_n 0, 1) := by decide +kernel
theorem dX3_heavierEnd_12 : decode cX3_heavierEnd 12 = .ok (.getfield 30, 3) := by decide +kernel
theorem dX3_heavierEnd_15 : decode cX3_heavierEnd 15 = .ok (.iload_n 1, 1) := by decide +kernel
theorem dX3_heavierEnd_16 : decode cX3_heavierEnd 16 = .ok (.iaload, 1) := by decide +kernel
theorem dX3_heavierEnd_17 : decode cX3_heavierEnd 17 = .ok (.invokevirtual 53, 3) := by decide +kernel
theorem dX3_heavierEnd_20 : decode cX3_heavierEnd 20 = .ok (.isub, 1) := by decide +kernel
theorem dX3_heavierEnd_21 : decode cX3_heavierEnd 21 = .ok (.istore_n 2, 1) := by decide +kernel
theorem dX3_heavierEnd_22 : decode cX3_heavierEnd 22 = .ok (.iload_n 2, 1) := by decide +kernel
theorem dX3_heavierEnd_23 : decode cX3_heavierEnd 23 = .ok (.ifCond .ne 6, 3) := by decide +kernel
theorem dX3_heavierEnd_26 : decode cX3_heavierEnd 26 = .ok (.bipush (-9), 2) := by decide +kernel
theorem dX3_heavierEnd_28 : decode cX3_heavierEnd 28 = .ok (.ireturn, 1) := by decide +kernel
theorem dX3_heavierEnd_29 : decode cX3_heavierEnd 29 = .ok (.iload_n 2, 1) := by decide +kernel
theorem dX3_heavierEnd_30 : decode cX3_heavierEnd 30 = .ok (.ifCond .le 12, 3) := by decide +kernel
theorem dX3_heavierEnd_33 : decode cX3_heavierEnd 33 = .ok (.aload_n 0, 1) := by decide +kernel
theorem dX3_heavierEnd_34 : decode cX3_heavierEnd 34 = .ok (.getfield 27, 3) := by decide +kernel
theorem dX3_heavierEnd_37 : decode cX3_heavierEnd 37 = .ok (.iload_n 1, 1) := by decide +kernel
theorem dX3_heavierEnd_38 : decode cX3_heavierEnd 38 = .ok (.iaload, 1) := by decide +kernel
theorem dX3_heavierEnd_39 : decode cX3_heavierEnd 39 = .ok (.goto 9, 3) := by decide +kernel
theorem dX3_heavierEnd_42 : decode cX3_heavierEnd 42 = .ok (.aload_n 0, 1) := by decide +kernel
theorem dX3_heavierEnd_43 : decode cX3_heavierEnd 43 = .ok (.getfield 30, 3) := by decide +kernel
theorem dX3_heavierEnd_46 : decode cX3_heavierEnd 46 = .ok (.iload_n 1, 1) := by decide +kernel
theorem dX3_heavierEnd_47 : decode cX3_heavierEnd 47 = .ok (.iaload, 1) := by decide +kernel
theorem dX3_heavierEnd_48 : decode cX3_heavierEnd 48 = .ok (.ireturn, 1) := by decide +kernel
theorem dX3_farEnd_0 : decode cX3_farEnd 0 = .ok (.aload_n 0, 1) := by decide +kernel
theorem dX3_farEnd_1 : decode cX3_farEnd 1 = .ok (.getfield 27, 3) := by decide +kernel
theorem dX3_farEnd_4 : decode cX3_farEnd 4 = .ok (.iload_n 1, 1) := by decide +kernel
theorem dX3_farEnd_5 : decode cX3_farEnd 5 = .ok (.iaload, 1) := by decide +kernel
theorem dX3_farEnd_6 : decode cX3_farEnd 6 = .ok (.iload_n 2, 1) := by decide +kernel
theorem dX3_farEnd_7 : decode cX3_farEnd 7 = .ok (.if_icmp .ne 12, 3) := by decide +kernel
theorem dX3_farEnd_10 : decode cX3_farEnd 10 = .ok (.aload_n 0, 1) := by decide +kernel
theorem dX3_farEnd_11 : decode cX3_farEnd 11 = .ok (.getfield 30, 3) := by decide +kernel
theorem dX3_farEnd_14 : decode cX3_farEnd 14 = .ok (.iload_n 1, 1) := by decide +kernel
theorem dX3_farEnd_15 : decode cX3_farEnd 15 = .ok (.iaload, 1) := by decide +kernel
theorem dX3_farEnd_16 : decode cX3_farEnd 16 = .ok (.goto 9, 3) := by decide +kernel
theorem dX3_farEnd_19 : decode cX3_farEnd 19 = .ok (.aload_n 0, 1) := by decide +kernel
theorem dX3_farEnd_20 : decode cX3_farEnd 20 = .ok (.getfield 27, 3) := by decide +kernel
theorem dX3_farEnd_23 : decode cX3_farEnd 23 = .ok (.iload_n 1, 1) := by decide +kernel
theorem dX3_farEnd_24 : decode cX3_farEnd 24 = .ok (.iaload, 1) := by decide +kernel
theorem dX3_farEnd_25 : decode cX3_farEnd 25 = .ok (.ireturn, 1) := by decide +kernel
theorem dX3_goHour_0 : decode cX3_goHour 0 = .ok (.aload_n 0, 1) := by decide +kernel
theorem dX3_goHour_1 : decode cX3_goHour 1 = .ok (.dup, 1) := by decide +kernel
theorem dX3_goHour_2 : decode cX3_goHour 2 = .ok (.getfield 40, 3) := by decide +kernel
theorem dX3_goHour_5 : decode cX3_goHour 5 = .ok (.iconst 1, 1) := by decide +kernel
theorem dX3_goHour_6 : decode cX3_goHour 6 = .ok (.iadd, 1) := by decide +kernel
theorem dX3_goHour_7 : decode cX3_goHour 7 = .ok (.putfield 40, 3) := by decide +kernel
theorem dX3_goHour_10 : decode cX3_goHour 10 = .ok (.iconst 0, 1) := by decide +kernel
theorem dX3_goHour_11 : decode cX3_goHour 11 = .ok (.istore_n 2, 1) := by decide +kernel
theorem dX3_goHour_12 : decode cX3_goHour 12 = .ok (.iload_n 2, 1) := by decide +kernel
theorem dX3_goHour_13 : decode cX3_goHour 13 = .ok (.aload_n 0, 1) := by decide +kernel
theorem dX3_goHour_14 : decode cX3_goHour 14 = .ok (.getfield 37, 3) := by decide +kernel
theorem dX3_goHour_17 : decode cX3_goHour 17 = .ok (.if_icmp .ge 82, 3) := by decide +kernel
theorem dX3_goHour_20 : decode cX3_goHour 20 = .ok (.aload_n 0, 1) := by decide +kernel
theorem dX3_goHour_21 : decode cX3_goHour 21 = .ok (.aload_n 0, 1) := by decide +kernel
theorem dX3_goHour_22 : decode cX3_goHour 22 = .ok (.getfield 27, 3) := by decide +kernel
theorem dX3_goHour_25 : decode cX3_goHour 25 = .ok (.iload_n 2, 1) := by decide +kernel
theorem dX3_goHour_26 : decode cX3_goHour 26 = .ok (.iaload, 1) := by decide +kernel
theorem dX3_goHour_27 : decode cX3_goHour 27 = .ok (.invokevirtual 53, 3) := by decide +kernel
theorem dX3_goHour_30 : decode cX3_goHour 30 = .ok (.aload_n 0, 1) := by decide +kernel
theorem dX3_goHour_31 : decode cX3_goHour 31 = .ok (.aload_n 0, 1) := by decide +kernel
theorem dX3_goHour_32 : decode cX3_goHour 32 = .ok (.getfield 30, 3) := by decide +kernel
theorem dX3_goHour_35 : decode cX3_goHour 35 = .ok (.iload_n 2, 1) := by decide +kernel
theorem dX3_goHour_36 : decode cX3_goHour 36 = .ok (.iaload, 1) := by decide +kernel
theorem dX3_goHour_37 : decode cX3_goHour 37 = .ok (.invokevirtual 53, 3) := by decide +kernel
theorem dX3_goHour_40 : decode cX3_goHour 40 = .ok (.isub, 1) := by decide +kernel
theorem dX3_goHour_41 : decode cX3_goHour 41 = .ok (.istore_n 3, 1) := by decide +kernel
theorem dX3_goHour_42 : decode cX3_goHour 42 = .ok (.iload_n 2, 1) := by decide +kernel
theorem dX3_goHour_43 : decode cX3_goHour 43 = .ok (.iload_n 1, 1) := by decide +kernel
theorem dX3_goHour_44 : decode cX3_goHour 44 = .ok (.if_icmp .ne 6, 3) := by decide +kernel
theorem dX3_goHour_47 : decode cX3_goHour 47 = .ok (.iload_n 3, 1) := by decide +kernel
theorem dX3_goHour_48 : decode cX3_goHour 48 = .ok (.ineg, 1) := by decide +kernel
theorem dX3_goHour_49 : decode cX3_goHour 49 = .ok (.istore_n 3, 1) := by decide +kernel
theorem dX3_goHour_50 : decode cX3_goHour 50 = .ok (.iload_n 3, 1) := by decide +kernel
theorem dX3_goHour_51 : decode cX3_goHour 51 = .ok (.ifCond .le 22, 3) := by decide +kernel
theorem dX3_goHour_54 : decode cX3_goHour 54 = .ok (.aload_n 0, 1) := by decide +kernel
theorem dX3_goHour_55 : decode cX3_goHour 55 = .ok (.aload_n 0, 1) := by decide +kernel
theorem dX3_goHour_56 : decode cX3_goHour 56 = .ok (.getfield 27, 3) := by decide +kernel
theorem dX3_goHour_59 : decode cX3_goHour 59 = .ok (.iload_n 2, 1) := by decide +kernel
theorem dX3_goHour_60 : decode cX3_goHour 60 = .ok (.iaload, 1) := by decide +kernel
theorem dX3_goHour_61 : decode cX3_goHour 61 = .ok (.aload_n 0, 1) := by decide +kernel
theorem dX3_goHour_62 : decode cX3_goHour 62 = .ok (.getfield 30, 3) := by decide +kernel
theorem dX3_goHour_65 : decode cX3_goHour 65 = .ok (.iload_n 2, 1) := by decide +kernel
theorem dX3_goHour_66 : decode cX3_goHour 66 = .ok (.iaload, 1) := by decide +kernel
theorem dX3_goHour_67 : decode cX3_goHour 67 = .ok (.invokevirtual 57, 3) := by decide +kernel
theorem dX3_goHour_70 : decode cX3_goHour 70 = .ok (.goto 23, 3) := by decide +kernel
theorem dX3_goHour_73 : decode cX3_goHour 73 = .ok (.iload_n 3, 1) := by decide +kernel
theorem dX3_goHour_74 : decode cX3_goHour 74 = .ok (.ifCond .ge 19, 3) := by decide +kernel
theorem dX3_goHour_77 : decode cX3_goHour 77 = .ok (.aload_n 0, 1) := by decide +kernel
theorem dX3_goHour_78 : decode cX3_goHour 78 = .ok (.aload_n 0, 1) := by decide +kernel
theorem dX3_goHour_79 : decode cX3_goHour 79 = .ok (.getfield 30, 3) := by decide +kernel
theorem dX3_goHour_82 : decode cX3_goHour 82 = .ok (.iload_n 2, 1) := by decide +kernel
theorem dX3_goHour_83 : decode cX3_goHour 83 = .ok (.iaload, 1) := by decide +kernel
theorem dX3_goHour_84 : decode cX3_goHour 84 = .ok (.aload_n 0, 1) := by decide +kernel
theorem dX3_goHour_85 : decode cX3_goHour 85 = .ok (.getfield 27, 3) := by decide +kernel
theorem dX3_goHour_88 : decode cX3_goHour 88 = .ok (.iload_n 2, 1) := by decide +kernel
theorem dX3_goHour_89 : decode cX3_goHour 89 = .ok (.iaload, 1) := by decide +kernel
theorem dX3_goHour_90 : decode cX3_goHour 90 = .ok (.invokevirtual 57, 3) := by decide +kernel
theorem dX3_goHour_93 : decode cX3_goHour 93 = .ok (.iinc 2 1, 3) := by decide +kernel
theorem dX3_goHour_96 : decode cX3_goHour 96 = .ok (.goto (-84), 3) := by decide +kernel
theorem dX3_goHour_99 : decode cX3_goHour 99 = .ok (.return_, 1) := by decide +kernel
theorem dX3_shift_0 : decode cX3_shift 0 = .ok (.aload_n 0, 1) := by decide +kernel
theorem dX3_shift_1 : decode cX3_shift 1 = .ok (.getfield 24, 3) := by decide +kernel
theorem dX3_shift_4 : decode cX3_shift 4 = .ok (.iload_n 1, 1) := by decide +kernel
theorem dX3_shift_5 : decode cX3_shift 5 = .ok (.iaload, 1) := by decide +kernel
theorem dX3_shift_6 : decode cX3_shift 6 = .ok (.ifCond .le 13, 3) := by decide +kernel
theorem dX3_shift_9 : decode cX3_shift 9 = .ok (.aload_n 0, 1) := by decide +kernel
theorem dX3_shift_10 : decode cX3_shift 10 = .ok (.getfield 24, 3) := by decide +kernel
theorem dX3_shift_13 : decode cX3_shift 13 = .ok (.iload_n 1, 1) := by decide +kernel
theorem dX3_shift_14 : decode cX3_shift 14 = .ok (.dup2, 1) := by decide +kernel
theorem dX3_shift_15 : decode cX3_shift 15 = .ok (.iaload, 1) := by decide +kernel
theorem dX3_shift_16 : decode cX3_shift 16 = .ok (.iconst 1, 1) := by decide +kernel
theorem dX3_shift_17 : decode cX3_shift 17 = .ok (.isub, 1) := by decide +kernel
theorem dX3_shift_18 : decode cX3_shift 18 = .ok (.iastore, 1) := by decide +kernel
theorem dX3_shift_19 : decode cX3_shift 19 = .ok (.aload_n 0, 1) := by decide +kernel
theorem dX3_shift_20 : decode cX3_shift 20 = .ok (.getfield 24, 3) := by decide +kernel
theorem dX3_shift_23 : decode cX3_shift 23 = .ok (.iload_n 2, 1) := by decide +kernel
theorem dX3_shift_24 : decode cX3_shift 24 = .ok (.iaload, 1) := by decide +kernel
theorem dX3_shift_25 : decode cX3_shift 25 = .ok (.bipush 20, 2) := by decide +kernel
theorem dX3_shift_27 : decode cX3_shift 27 = .ok (.if_icmp .ge 13, 3) := by decide +kernel
theorem dX3_shift_30 : decode cX3_shift 30 = .ok (.aload_n 0, 1) := by decide +kernel
theorem dX3_shift_31 : decode cX3_shift 31 = .ok (.getfield 24, 3) := by decide +kernel
theorem dX3_shift_34 : decode cX3_shift 34 = .ok (.iload_n 2, 1) := by decide +kernel
theorem dX3_shift_35 : decode cX3_shift 35 = .ok (.dup2, 1) := by decide +kernel
theorem dX3_shift_36 : decode cX3_shift 36 = .ok (.iaload, 1) := by decide +kernel
theorem dX3_shift_37 : decode cX3_shift 37 = .ok (.iconst 1, 1) := by decide +kernel
theorem dX3_shift_38 : decode cX3_shift 38 = .ok (.iadd, 1) := by decide +kernel
theorem dX3_shift_39 : decode cX3_shift 39 = .ok (.iastore, 1) := by decide +kernel
theorem dX3_shift_40 : decode cX3_shift 40 = .ok (.return_, 1) := by decide +kernel
theorem dX3_goHours_0 : decode cX3_goHours 0 = .ok (.iconst 0, 1) := by decide +kernel
theorem dX3_goHours_1 : decode cX3_goHours 1 = .ok (.istore_n 2, 1) := by decide +kernel
theorem dX3_goHours_2 : decode cX3_goHours 2 = .ok (.iload_n 2, 1) := by decide +kernel
theorem dX3_goHours_3 : decode cX3_goHours 3 = .ok (.iload_n 1, 1) := by decide +kernel
theorem dX3_goHours_4 : decode cX3_goHours 4 = .ok (.if_icmp .ge 15, 3) := by decide +kernel
theorem dX3_goHours_7 : decode cX3_goHours 7 = .ok (.aload_n 0, 1) := by decide +kernel
theorem dX3_goHours_8 : decode cX3_goHours 8 = .ok (.bipush (-9), 2) := by decide +kernel
theorem dX3_goHours_10 : decode cX3_goHours 10 = .ok (.invokevirtual 61, 3) := by decide +kernel
theorem dX3_goHours_13 : decode cX3_goHours 13 = .ok (.iinc 2 1, 3) := by decide +kernel
theorem dX3_goHours_16 : decode cX3_goHours 16 = .ok (.goto (-14), 3) := by decide +kernel
theorem dX3_goHours_19 : decode cX3_goHours 19 = .ok (.return_, 1) := by decide +kernel
theorem dX3_looseRopes_0 : decode cX3_looseRopes 0 = .ok (.iconst 0, 1) := by decide +kernel
theorem dX3_looseRopes_1 : decode cX3_looseRopes 1 = .ok (.istore_n 1, 1) := by decide +kernel
theorem dX3_looseRopes_2 : decode cX3_looseRopes 2 = .ok (.iconst 0, 1) := by decide +kernel
theorem dX3_looseRopes_3 : decode cX3_looseRopes 3 = .ok (.istore_n 2, 1) := by decide +kernel
theorem dX3_looseRopes_4 : decode cX3_looseRopes 4 = .ok (.iload_n 2, 1) := by decide +kernel
theorem dX3_looseRopes_5 : decode cX3_looseRopes 5 = .ok (.aload_n 0, 1) := by decide +kernel
theorem dX3_looseRopes_6 : decode cX3_looseRopes 6 = .ok (.getfield 37, 3) := by decide +kernel
theorem dX3_looseRopes_9 : decode cX3_looseRopes 9 = .ok (.if_icmp .ge 25, 3) := by decide +kernel
theorem dX3_looseRopes_12 : decode cX3_looseRopes 12 = .ok (.aload_n 0, 1) := by decide +kernel
theorem dX3_looseRopes_13 : decode cX3_looseRopes 13 = .ok (.iload_n 2, 1) := by decide +kernel
theorem dX3_looseRopes_14 : decode cX3_looseRopes 14 = .ok (.invokevirtual 65, 3) := by decide +kernel
theorem dX3_looseRopes_17 : decode cX3_looseRopes 17 = .ok (.bipush (-9), 2) := by decide +kernel
theorem dX3_looseRopes_19 : decode cX3_looseRopes 19 = .ok (.if_icmp .ne 9, 3) := by decide +kernel
theorem dX3_looseRopes_22 : decode cX3_looseRopes 22 = .ok (.iload_n 1, 1) := by decide +kernel
theorem dX3_looseRopes_23 : decode cX3_looseRopes 23 = .ok (.iconst 1, 1) := by decide +kernel
theorem dX3_looseRopes_24 : decode cX3_looseRopes 24 = .ok (.iload_n 2, 1) := by decide +kernel
theorem dX3_looseRopes_25 : decode cX3_looseRopes 25 = .ok (.ishl, 1) := by decide +kernel
theorem dX3_looseRopes_26 : decode cX3_looseRopes 26 = .ok (.ior, 1) := by decide +kernel
theorem dX3_looseRopes_27 : decode cX3_looseRopes 27 = .ok (.istore_n 1, 1) := by decide +kernel
theorem dX3_looseRopes_28 : decode cX3_looseRopes 28 = .ok (.iinc 2 1, 3) := by decide +kernel
theorem dX3_looseRopes_31 : decode cX3_looseRopes 31 = .ok (.goto (-27), 3) := by decide +kernel
theorem dX3_looseRopes_34 : decode cX3_looseRopes 34 = .ok (.iload_n 1, 1) := by decide +kernel
theorem dX3_looseRopes_35 : decode cX3_looseRopes 35 = .ok (.ireturn, 1) := by decide +kernel
theorem dX3_allHeights_0 : decode cX3_allHeights 0 = .ok (.iconst 0, 1) := by decide +kernel
theorem dX3_allHeights_1 : decode cX3_allHeights 1 = .ok (.istore_n 1, 1) := by decide +kernel
theorem dX3_allHeights_2 : decode cX3_allHeights 2 = .ok (.iconst 0, 1) := by decide +kernel
theorem dX3_allHeights_3 : decode cX3_allHeights 3 = .ok (.istore_n 2, 1) := by decide +kernel
theorem dX3_allHeights_4 : decode cX3_allHeights 4 = .ok (.iload_n 2, 1) := by decide +kernel
theorem dX3_allHeights_5 : decode cX3_allHeights 5 = .ok (.aload_n 0, 1) := by decide +kernel
theorem dX3_allHeights_6 : decode cX3_allHeights 6 = .ok (.getfield 33, 3) := by decide +kernel
theorem dX3_allHeights_9 : decode cX3_allHeights 9 = .ok (.if_icmp .ge 18, 3) := by decide +kernel
theorem dX3_allHeights_12 : decode cX3_allHeights 12 = .ok (.iload_n 1, 1) := by decide +kernel
theorem dX3_allHeights_13 : decode cX3_allHeights 13 = .ok (.aload_n 0, 1) := by decide +kernel
theorem dX3_allHeights_14 : decode cX3_allHeights 14 = .ok (.getfield 24, 3) := by decide +kernel
theorem dX3_allHeights_17 : decode cX3_allHeights 17 = .ok (.iload_n 2, 1) := by decide +kernel
theorem dX3_allHeights_18 : decode cX3_allHeights 18 = .ok (.iaload, 1) := by decide +kernel
theorem dX3_allHeights_19 : decode cX3_allHeights 19 = .ok (.iadd, 1) := by decide +kernel
theorem dX3_allHeights_20 : decode cX3_allHeights 20 = .ok (.istore_n 1, 1) := by decide +kernel
theorem dX3_allHeights_21 : decode cX3_allHeights 21 = .ok (.iinc 2 1, 3) := by decide +kernel
theorem dX3_allHeights_24 : decode cX3_allHeights 24 = .ok (.goto (-20), 3) := by decide +kernel
theorem dX3_allHeights_27 : decode cX3_allHeights 27 = .ok (.iload_n 1, 1) := by decide +kernel
theorem dX3_allHeights_28 : decode cX3_allHeights 28 = .ok (.ireturn, 1) := by decide +kernel
theorem dX3_allStones_0 : decode cX3_allStones 0 = .ok (.iconst 0, 1) := by decide +kernel
theorem dX3_allStones_1 : decode cX3_allStones 1 = .ok (.istore_n 1, 1) := by decide +kernel
theorem dX3_allStones_2 : decode cX3_allStones 2 = .ok (.iconst 0, 1) := by decide +kernel
theorem dX3_allStones_3 : decode cX3_allStones 3 = .ok (.istore_n 2, 1) := by decide +kernel
theorem dX3_allStones_4 : decode cX3_allStones 4 = .ok (.iload_n 2, 1) := by decide +kernel
theorem dX3_allStones_5 : decode cX3_allStones 5 = .ok (.aload_n 0, 1) := by decide +kernel
theorem dX3_allStones_6 : decode cX3_allStones 6 = .ok (.getfield 33, 3) := by decide +kernel
theorem dX3_allStones_9 : decode cX3_allStones 9 = .ok (.if_icmp .ge 18, 3) := by decide +kernel
theorem dX3_allStones_12 : decode cX3_allStones 12 = .ok (.iload_n 1, 1) := by decide +kernel
theorem dX3_allStones_13 : decode cX3_allStones 13 = .ok (.aload_n 0, 1) := by decide +kernel
theorem dX3_allStones_14 : decode cX3_allStones 14 = .ok (.getfield 21, 3) := by decide +kernel
theorem dX3_allStones_17 : decode cX3_allStones 17 = .ok (.iload_n 2, 1) := by decide +kernel
theorem dX3_allStones_18 : decode cX3_allStones 18 = .ok (.iaload, 1) := by decide +kernel
theorem dX3_allStones_19 : decode cX3_allStones 19 = .ok (.iadd, 1) := by decide +kernel
theorem dX3_allStones_20 : decode cX3_allStones 20 = .ok (.istore_n 1, 1) := by decide +kernel
theorem dX3_allStones_21 : decode cX3_allStones 21 = .ok (.iinc 2 1, 3) := by decide +kernel
theorem dX3_allStones_24 : decode cX3_allStones 24 = .ok (.goto (-20), 3) := by decide +kernel
theorem dX3_allStones_27 : decode cX3_allStones 27 = .ok (.iload_n 1, 1) := by decide +kernel
theorem dX3_allStones_28 : decode cX3_allStones 28 = .ok (.ireturn, 1) := by decide +kernel
theorem dX3_allHeft_0 : decode cX3_allHeft 0 = .ok (.iconst 0, 1) := by decide +kernel
theorem dX3_allHeft_1 : decode cX3_allHeft 1 = .ok (.istore_n 1, 1) := by decide +kernel
theorem dX3_allHeft_2 : decode cX3_allHeft 2 = .ok (.iconst 0, 1) := by decide +kernel
theorem dX3_allHeft_3 : decode cX3_allHeft 3 = .ok (.istore_n 2, 1) := by decide +kernel
theorem dX3_allHeft_4 : decode cX3_allHeft 4 = .ok (.iload_n 2, 1) := by decide +kernel
theorem dX3_allHeft_5 : decode cX3_allHeft 5 = .ok (.aload_n 0, 1) := by decide +kernel
theorem dX3_allHeft_6 : decode cX3_allHeft 6 = .ok (.getfield 33, 3) := by decide +kernel
theorem dX3_allHeft_9 : decode cX3_allHeft 9 = .ok (.if_icmp .ge 17, 3) := by decide +kernel
theorem dX3_allHeft_12 : decode cX3_allHeft 12 = .ok (.iload_n 1, 1) := by decide +kernel
theorem dX3_allHeft_13 : decode cX3_allHeft 13 = .ok (.aload_n 0, 1) := by decide +kernel
theorem dX3_allHeft_14 : decode cX3_allHeft 14 = .ok (.iload_n 2, 1) := by decide +kernel
theorem dX3_allHeft_15 : decode cX3_allHeft 15 = .ok (.invokevirtual 53, 3) := by decide +kernel
theorem dX3_allHeft_18 : decode cX3_allHeft 18 = .ok (.iadd, 1) := by decide +kernel
theorem dX3_allHeft_19 : decode cX3_allHeft 19 = .ok (.istore_n 1, 1) := by decide +kernel
theorem dX3_allHeft_20 : decode cX3_allHeft 20 = .ok (.iinc 2 1, 3) := by decide +kernel
theorem dX3_allHeft_23 : decode cX3_allHeft 23 = .ok (.goto (-19), 3) := by decide +kernel
theorem dX3_allHeft_26 : decode cX3_allHeft 26 = .ok (.iload_n 1, 1) := by decide +kernel
theorem dX3_allHeft_27 : decode cX3_allHeft 27 = .ok (.ireturn, 1) := by decide +kernel
theorem dX4_ranked_0 : decode cX4_ranked 0 = .ok (.iconst 0, 1) := by decide +kernel
theorem dX4_ranked_1 : decode cX4_ranked 1 = .ok (.istore_n 2, 1) := by decide +kernel
theorem dX4_ranked_2 : decode cX4_ranked 2 = .ok (.iload_n 2, 1) := by decide +kernel
theorem dX4_ranked_3 : decode cX4_ranked 3 = .ok (.aload_n 0, 1) := by decide +kernel
theorem dX4_ranked_4 : decode cX4_ranked 4 = .ok (.getfield 9, 3) := by decide +kernel
theorem dX4_ranked_7 : decode cX4_ranked 7 = .ok (.if_icmp .ge 20, 3) := by decide +kernel
theorem dX4_ranked_10 : decode cX4_ranked 10 = .ok (.aload_n 0, 1) := by decide +kernel
theorem dX4_ranked_11 : decode cX4_ranked 11 = .ok (.iload_n 2, 1) := by decide +kernel
theorem dX4_ranked_12 : decode cX4_ranked 12 = .ok (.invokestatic 15, 3) := by decide +kernel
theorem dX4_ranked_15 : decode cX4_ranked 15 = .ok (.iload_n 1, 1) := by decide +kernel
theorem dX4_ranked_16 : decode cX4_ranked 16 = .ok (.if_icmp .ne 5, 3) := by decide +kernel
theorem dX4_ranked_19 : decode cX4_ranked 19 = .ok (.iload_n 2, 1) := by decide +kernel
theorem dX4_ranked_20 : decode cX4_ranked 20 = .ok (.ireturn, 1) := by decide +kernel
theorem dX4_ranked_21 : decode cX4_ranked 21 = .ok (.iinc 2 1, 3) := by decide +kernel
theorem dX4_ranked_24 : decode cX4_ranked 24 = .ok (.goto (-22), 3) := by decide +kernel
theorem dX4_ranked_27 : decode cX4_ranked 27 = .ok (.bipush (-9), 2) := by decide +kernel
theorem dX4_ranked_29 : decode cX4_ranked 29 = .ok (.ireturn, 1) := by decide +kernel
theorem dX4_rankOf_0 : decode cX4_rankOf 0 = .ok (.aload_n 0, 1) := by decide +kernel
theorem dX4_rankOf_1 : decode cX4_rankOf 1 = .ok (.iload_n 1, 1) := by decide +kernel
theorem dX4_rankOf_2 : decode cX4_rankOf 2 = .ok (.invokevirtual 21, 3) := by decide +kernel
theorem dX4_rankOf_5 : decode cX4_rankOf 5 = .ok (.istore_n 2, 1) := by decide +kernel
theorem dX4_rankOf_6 : decode cX4_rankOf 6 = .ok (.iconst 0, 1) := by decide +kernel
theorem dX4_rankOf_7 : decode cX4_rankOf 7 = .ok (.istore_n 3, 1) := by decide +kernel
theorem dX4_rankOf_8 : decode cX4_rankOf 8 = .ok (.iconst 0, 1) := by decide +kernel
theorem dX4_rankOf_9 : decode cX4_rankOf 9 = .ok (.istore 4, 2) := by decide +kernel
theorem dX4_rankOf_11 : decode cX4_rankOf 11 = .ok (.iload 4, 2) := by decide +kernel
theorem dX4_rankOf_13 : decode cX4_rankOf 13 = .ok (.aload_n 0, 1) := by decide +kernel
theorem dX4_rankOf_14 : decode cX4_rankOf 14 = .ok (.getfield 9, 3) := by decide +kernel
theorem dX4_rankOf_17 : decode cX4_rankOf 17 = .ok (.if_icmp .ge 38, 3) := by decide +kernel
theorem dX4_rankOf_20 : decode cX4_rankOf 20 = .ok (.aload_n 0, 1) := by decide +kernel
theorem dX4_rankOf_21 : decode cX4_rankOf 21 = .ok (.iload 4, 2) := by decide +kernel
theorem dX4_rankOf_23 : decode cX4_rankOf 23 = .ok (.invokevirtual 21, 3) := by decide +kernel
theorem dX4_rankOf_26 : decode cX4_rankOf 26 = .ok (.istore 5, 2) := by decide +kernel
theorem dX4_rankOf_28 : decode cX4_rankOf 28 = .ok (.iload 5, 2) := by decide +kernel
theorem dX4_rankOf_30 : decode cX4_rankOf 30 = .ok (.iload_n 2, 1) := by decide +kernel
theorem dX4_rankOf_31 : decode cX4_rankOf 31 = .ok (.if_icmp .gt 15, 3) := by decide +kernel
theorem dX4_rankOf_34 : decode cX4_rankOf 34 = .ok (.iload 5, 2) := by decide +kernel
theorem dX4_rankOf_36 : decode cX4_rankOf 36 = .ok (.iload_n 2, 1) := by decide +kernel
theorem dX4_rankOf_37 : decode cX4_rankOf 37 = .ok (.if_icmp .ne 12, 3) := by decide +kernel
theorem dX4_rankOf_40 : decode cX4_rankOf 40 = .ok (.iload 4, 2) := by decide +kernel
theorem dX4_rankOf_42 : decode cX4_rankOf 42 = .ok (.iload_n 1, 1) := by decide +kernel
theorem dX4_rankOf_43 : decode cX4_rankOf 43 = .ok (.if_icmp .ge 6, 3) := by decide +kernel
theorem dX4_rankOf_46 : decode cX4_rankOf 46 = .ok (.iinc 3 1, 3) := by decide +kernel
theorem dX4_rankOf_49 : decode cX4_rankOf 49 = .ok (.iinc 4 1, 3) := by decide +kernel
theorem dX4_rankOf_52 : decode cX4_rankOf 52 = .ok (.goto (-41), 3) := by decide +kernel
theorem dX4_rankOf_55 : decode cX4_rankOf 55 = .ok (.iload_n 3, 1) := by decide +kernel
theorem dX4_rankOf_56 : decode cX4_rankOf 56 = .ok (.ireturn, 1) := by decide +kernel
theorem dX4_countInside_0 : decode cX4_countInside 0 = .ok (.aload_n 0, 1) := by decide +kernel
theorem dX4_countInside_1 : decode cX4_countInside 1 = .ok (.iload_n 1, 1) := by decide +kernel
theorem dX4_countInside_2 : decode cX4_countInside 2 = .ok (.invokevirtual 21, 3) := by decide +kernel
theorem dX4_countInside_5 : decode cX4_countInside 5 = .ok (.aload_n 0, 1) := by decide +kernel
theorem dX4_countInside_6 : decode cX4_countInside 6 = .ok (.iload_n 2, 1) := by decide +kernel
theorem dX4_countInside_7 : decode cX4_countInside 7 = .ok (.invokevirtual 21, 3) := by decide +kernel
theorem dX4_countInside_10 : decode cX4_countInside 10 = .ok (.invokestatic 25, 3) := by decide +kernel
theorem dX4_countInside_13 : decode cX4_countInside 13 = .ok (.istore_n 3, 1) := by decide +kernel
theorem dX4_countInside_14 : decode cX4_countInside 14 = .ok (.aload_n 0, 1) := by decide +kernel
theorem dX4_countInside_15 : decode cX4_countInside 15 = .ok (.iload_n 1, 1) := by decide +kernel
theorem dX4_countInside_16 : decode cX4_countInside 16 = .ok (.invokevirtual 21, 3) := by decide +kernel
theorem dX4_countInside_19 : decode cX4_countInside 19 = .ok (.aload_n 0, 1) := by decide +kernel
theorem dX4_countInside_20 : decode cX4_countInside 20 = .ok (.iload_n 2, 1) := by decide +kernel
theorem dX4_countInside_21 : decode cX4_countInside 21 = .ok (.invokevirtual 21, 3) := by decide +kernel
theorem dX4_countInside_24 : decode cX4_countInside 24 = .ok (.invokestatic 31, 3) := by decide +kernel
theorem dX4_countInside_27 : decode cX4_countInside 27 = .ok (.istore 4, 2) := by decide +kernel
theorem dX4_countInside_29 : decode cX4_countInside 29 = .ok (.iconst 0, 1) := by decide +kernel
theorem dX4_countInside_30 : decode cX4_countInside 30 = .ok (.istore 5, 2) := by decide +kernel
theorem dX4_countInside_32 : decode cX4_countInside 32 = .ok (.iconst 0, 1) := by decide +kernel
theorem dX4_countInside_33 : decode cX4_countInside 33 = .ok (.istore 6, 2) := by decide +kernel
theorem dX4_countInside_35 : decode cX4_countInside 35 = .ok (.iload 6, 2) := by decide +kernel
theorem dX4_countInside_37 : decode cX4_countInside 37 = .ok (.aload_n 0, 1) := by decide +kernel
theorem dX4_countInside_38 : decode cX4_countInside 38 = .ok (.getfield 9, 3) := by decide +kernel
theorem dX4_countInside_41 : decode cX4_countInside 41 = .ok (.if_icmp .ge 33, 3) := by decide +kernel
theorem dX4_countInside_44 : decode cX4_countInside 44 = .ok (.aload_n 0, 1) := by decide +kernel
theorem dX4_countInside_45 : decode cX4_countInside 45 = .ok (.iload 6, 2) := by decide +kernel
theorem dX4_countInside_47 : decode cX4_countInside 47 = .ok (.invokevirtual 21, 3) := by decide +kernel
theorem dX4_countInside_50 : decode cX4_countInside 50 = .ok (.istore 7, 2) := by decide +kernel
theorem dX4_countInside_52 : decode cX4_countInside 52 = .ok (.iload 7, 2) := by decide +kernel
theorem dX4_countInside_54 : decode cX4_countInside 54 = .ok (.iload_n 3, 1) := by decide +kernel
theorem dX4_countInside_55 : decode cX4_countInside 55 = .ok (.if_icmp .le 13, 3) := by decide +kernel
theorem dX4_countInside_58 : decode cX4_countInside 58 = .ok (.iload 7, 2) := by decide +kernel
theorem dX4_countInside_60 : decode cX4_countInside 60 = .ok (.iload 4, 2) := by decide +kernel
theorem dX4_countInside_62 : decode cX4_countInside 62 = .ok (.if_icmp .ge 6, 3) := by decide +kernel
theorem dX4_countInside_65 : decode cX4_countInside 65 = .ok (.iinc 5 1, 3) := by decide +kernel
theorem dX4_countInside_68 : decode cX4_countInside 68 = .ok (.iinc 6 1, 3) := by decide +kernel
theorem dX4_countInside_71 : decode cX4_countInside 71 = .ok (.goto (-36), 3) := by decide +kernel
theorem dX4_countInside_74 : decode cX4_countInside 74 = .ok (.iload 5, 2) := by decide +kernel
theorem dX4_countInside_76 : decode cX4_countInside 76 = .ok (.ireturn, 1) := by decide +kernel
theorem dX4_counterweight_0 : decode cX4_counterweight 0 = .ok (.aload_n 0, 1) := by decide +kernel
theorem dX4_counterweight_1 : decode cX4_counterweight 1 = .ok (.iload_n 1, 1) := by decide +kernel
theorem dX4_counterweight_2 : decode cX4_counterweight 2 = .ok (.invokevirtual 21, 3) := by decide +kernel
theorem dX4_counterweight_5 : decode cX4_counterweight 5 = .ok (.istore_n 2, 1) := by decide +kernel
theorem dX4_counterweight_6 : decode cX4_counterweight 6 = .ok (.bipush (-9), 2) := by decide +kernel
theorem dX4_counterweight_8 : decode cX4_counterweight 8 = .ok (.istore_n 3, 1) := by decide +kernel
theorem dX4_counterweight_9 : decode cX4_counterweight 9 = .ok (.bipush 9, 2) := by decide +kernel
theorem dX4_counterweight_11 : decode cX4_counterweight 11 = .ok (.istore 4, 2) := by decide +kernel
theorem dX4_counterweight_13 : decode cX4_counterweight 13 = .ok (.iconst 0, 1) := by decide +kernel
theorem dX4_counterweight_14 : decode cX4_counterweight 14 = .ok (.istore 5, 2) := by decide +kernel
theorem dX4_counterweight_16 : decode cX4_counterweight 16 = .ok (.iload 5, 2) := by decide +kernel
theorem dX4_counterweight_18 : decode cX4_counterweight 18 = .ok (.iconst 1, 1) := by decide +kernel
theorem dX4_counterweight_19 : decode cX4_counterweight 19 = .ok (.aload_n 0, 1) := by decide +kernel
theorem dX4_counterweight_20 : decode cX4_counterweight 20 = .ok (.getfield 9, 3) := by decide +kernel
theorem dX4_counterweight_23 : decode cX4_counterweight 23 = .ok (.ishl, 1) := by decide +kernel
theorem dX4_counterweight_24 : decode cX4_counterweight 24 = .ok (.if_icmp .ge 49, 3) := by decide +kernel
theorem dX4_counterweight_27 : decode cX4_counterweight 27 = .ok (.iload 5, 2) := by decide +kernel
theorem dX4_counterweight_29 : decode cX4_counterweight 29 = .ok (.invokestatic 34, 3) := by decide +kernel
theorem dX4_counterweight_32 : decode cX4_counterweight 32 = .ok (.istore 6, 2) := by decide +kernel
theorem dX4_counterweight_34 : decode cX4_counterweight 34 = .ok (.iload 6, 2) := by decide +kernel
theorem dX4_counterweight_36 : decode cX4_counterweight 36 = .ok (.iload 4, 2) := by decide +kernel
theorem dX4_counterweight_38 : decode cX4_counterweight 38 = .ok (.if_icmp .ge 29, 3) := by decide +kernel
theorem dX4_counterweight_41 : decode cX4_counterweight 41 = .ok (.iload 5, 2) := by decide +kernel
theorem dX4_counterweight_43 : decode cX4_counterweight 43 = .ok (.iload_n 1, 1) := by decide +kernel
theorem dX4_counterweight_44 : decode cX4_counterweight 44 = .ok (.invokestatic 39, 3) := by decide +kernel
theorem dX4_counterweight_47 : decode cX4_counterweight 47 = .ok (.ifCond .ne 20, 3) := by decide +kernel
theorem dX4_counterweight_50 : decode cX4_counterweight 50 = .ok (.aload_n 0, 1) := by decide +kernel
theorem dX4_counterweight_51 : decode cX4_counterweight 51 = .ok (.iload 5, 2) := by decide +kernel
theorem dX4_counterweight_53 : decode cX4_counterweight 53 = .ok (.invokestatic 43, 3) := by decide +kernel
theorem dX4_counterweight_56 : decode cX4_counterweight 56 = .ok (.iload_n 2, 1) := by decide +kernel
theorem dX4_counterweight_57 : decode cX4_counterweight 57 = .ok (.if_icmp .ne 10, 3) := by decide +kernel
theorem dX4_counterweight_60 : decode cX4_counterweight 60 = .ok (.iload 6, 2) := by decide +kernel
theorem dX4_counterweight_62 : decode cX4_counterweight 62 = .ok (.istore 4, 2) := by decide +kernel
theorem dX4_counterweight_64 : decode cX4_counterweight 64 = .ok (.iload 5, 2) := by decide +kernel
theorem dX4_counterweight_66 : decode cX4_counterweight 66 = .ok (.istore_n 3, 1) := by decide +kernel
theorem dX4_counterweight_67 : decode cX4_counterweight 67 = .ok (.iinc 5 1, 3) := by decide +kernel
theorem dX4_counterweight_70 : decode cX4_counterweight 70 = .ok (.goto (-54), 3) := by decide +kernel
theorem dX4_counterweight_73 : decode cX4_counterweight 73 = .ok (.iload_n 3, 1) := by decide +kernel
theorem dX4_counterweight_74 : decode cX4_counterweight 74 = .ok (.ireturn, 1) := by decide +kernel
theorem dX4_heftTogether_0 : decode cX4_heftTogether 0 = .ok (.iconst 0, 1) := by decide +kernel
theorem dX4_heftTogether_1 : decode cX4_heftTogether 1 = .ok (.istore_n 2, 1) := by decide +kernel
theorem dX4_heftTogether_2 : decode cX4_heftTogether 2 = .ok (.iconst 0, 1) := by decide +kernel
theorem dX4_heftTogether_3 : decode cX4_heftTogether 3 = .ok (.istore_n 3, 1) := by decide +kernel
theorem dX4_heftTogether_4 : decode cX4_heftTogether 4 = .ok (.iload_n 3, 1) := by decide +kernel
theorem dX4_heftTogether_5 : decode cX4_heftTogether 5 = .ok (.aload_n 0, 1) := by decide +kernel
theorem dX4_heftTogether_6 : decode cX4_heftTogether 6 = .ok (.getfield 9, 3) := by decide +kernel
theorem dX4_heftTogether_9 : decode cX4_heftTogether 9 = .ok (.if_icmp .ge 25, 3) := by decide +kernel
theorem dX4_heftTogether_12 : decode cX4_heftTogether 12 = .ok (.iload_n 1, 1) := by decide +kernel
theorem dX4_heftTogether_13 : decode cX4_heftTogether 13 = .ok (.iload_n 3, 1) := by decide +kernel
theorem dX4_heftTogether_14 : decode cX4_heftTogether 14 = .ok (.invokestatic 39, 3) := by decide +kernel
theorem dX4_heftTogether_17 : decode cX4_heftTogether 17 = .ok (.ifCond .eq 11, 3) := by decide +kernel
theorem dX4_heftTogether_20 : decode cX4_heftTogether 20 = .ok (.iload_n 2, 1) := by decide +kernel
theorem dX4_heftTogether_21 : decode cX4_heftTogether 21 = .ok (.aload_n 0, 1) := by decide +kernel
theorem dX4_heftTogether_22 : decode cX4_heftTogether 22 = .ok (.iload_n 3, 1) := by decide +kernel
theorem dX4_heftTogether_23 : decode cX4_heftTogether 23 = .ok (.invokevirtual 21, 3) := by decide +kernel
theorem dX4_heftTogether_26 : decode cX4_heftTogether 26 = .ok (.iadd, 1) := by decide +kernel
theorem dX4_heftTogether_27 : decode cX4_heftTogether 27 = .ok (.istore_n 2, 1) := by decide +kernel
theorem dX4_heftTogether_28 : decode cX4_heftTogether 28 = .ok (.iinc 3 1, 3) := by decide +kernel
theorem dX4_heftTogether_31 : decode cX4_heftTogether 31 = .ok (.goto (-27), 3) := by decide +kernel
theorem dX4_heftTogether_34 : decode cX4_heftTogether 34 = .ok (.iload_n 2, 1) := by decide +kernel
theorem dX4_heftTogether_35 : decode cX4_heftTogether 35 = .ok (.ireturn, 1) := by decide +kernel
theorem dX4_mostAlike_0 : decode cX4_mostAlike 0 = .ok (.aload_n 0, 1) := by decide +kernel
theorem dX4_mostAlike_1 : decode cX4_mostAlike 1 = .ok (.iload_n 1, 1) := by decide +kernel
theorem dX4_mostAlike_2 : decode cX4_mostAlike 2 = .ok (.invokevirtual 21, 3) := by decide +kernel
theorem dX4_mostAlike_5 : decode cX4_mostAlike 5 = .ok (.istore_n 2, 1) := by decide +kernel
theorem dX4_mostAlike_6 : decode cX4_mostAlike 6 = .ok (.bipush (-9), 2) := by decide +kernel
theorem dX4_mostAlike_8 : decode cX4_mostAlike 8 = .ok (.istore_n 3, 1) := by decide +kernel
theorem dX4_mostAlike_9 : decode cX4_mostAlike 9 = .ok (.ldc 46, 2) := by decide +kernel
theorem dX4_mostAlike_11 : decode cX4_mostAlike 11 = .ok (.istore 4, 2) := by decide +kernel
theorem dX4_mostAlike_13 : decode cX4_mostAlike 13 = .ok (.iconst 0, 1) := by decide +kernel
theorem dX4_mostAlike_14 : decode cX4_mostAlike 14 = .ok (.istore 5, 2) := by decide +kernel
theorem dX4_mostAlike_16 : decode cX4_mostAlike 16 = .ok (.iload 5, 2) := by decide +kernel
theorem dX4_mostAlike_18 : decode cX4_mostAlike 18 = .ok (.aload_n 0, 1) := by decide +kernel
theorem dX4_mostAlike_19 : decode cX4_mostAlike 19 = .ok (.getfield 9, 3) := by decide +kernel
theorem dX4_mostAlike_22 : decode cX4_mostAlike 22 = .ok (.if_icmp .ge 42, 3) := by decide +kernel
theorem dX4_mostAlike_25 : decode cX4_mostAlike 25 = .ok (.aload_n 0, 1) := by decide +kernel
theorem dX4_mostAlike_26 : decode cX4_mostAlike 26 = .ok (.iload 5, 2) := by decide +kernel
theorem dX4_mostAlike_28 : decode cX4_mostAlike 28 = .ok (.invokevirtual 21, 3) := by decide +kernel
theorem dX4_mostAlike_31 : decode cX4_mostAlike 31 = .ok (.iload_n 2, 1) := by decide +kernel
theorem dX4_mostAlike_32 : decode cX4_mostAlike 32 = .ok (.isub, 1) := by decide +kernel
theorem dX4_mostAlike_33 : decode cX4_mostAlike 33 = .ok (.invokestatic 47, 3) := by decide +kernel
theorem dX4_mostAlike_36 : decode cX4_mostAlike 36 = .ok (.istore 6, 2) := by decide +kernel
theorem dX4_mostAlike_38 : decode cX4_mostAlike 38 = .ok (.iload 5, 2) := by decide +kernel
theorem dX4_mostAlike_40 : decode cX4_mostAlike 40 = .ok (.iload_n 1, 1) := by decide +kernel
theorem dX4_mostAlike_41 : decode cX4_mostAlike 41 = .ok (.if_icmp .eq 17, 3) := by decide +kernel
theorem dX4_mostAlike_44 : decode cX4_mostAlike 44 = .ok (.iload 6, 2) := by decide +kernel
theorem dX4_mostAlike_46 : decode cX4_mostAlike 46 = .ok (.iload 4, 2) := by decide +kernel
theorem dX4_mostAlike_48 : decode cX4_mostAlike 48 = .ok (.if_icmp .ge 10, 3) := by decide +kernel
theorem dX4_mostAlike_51 : decode cX4_mostAlike 51 = .ok (.iload 6, 2) := by decide +kernel
theorem dX4_mostAlike_53 : decode cX4_mostAlike 53 = .ok (.istore 4, 2) := by decide +kernel
theorem dX4_mostAlike_55 : decode cX4_mostAlike 55 = .ok (.iload 5, 2) := by decide +kernel
theorem dX4_mostAlike_57 : decode cX4_mostAlike 57 = .ok (.istore_n 3, 1) := by decide +kernel
theorem dX4_mostAlike_58 : decode cX4_mostAlike 58 = .ok (.iinc 5 1, 3) := by decide +kernel
theorem dX4_mostAlike_61 : decode cX4_mostAlike 61 = .ok (.goto (-45), 3) := by decide +kernel
theorem dX4_mostAlike_64 : decode cX4_mostAlike 64 = .ok (.iload_n 3, 1) := by decide +kernel
theorem dX4_mostAlike_65 : decode cX4_mostAlike 65 = .ok (.ireturn, 1) := by decide +kernel
theorem dX4_firstSide_0 : decode cX4_firstSide 0 = .ok (.bipush (-9), 2) := by decide +kernel
theorem dX4_firstSide_2 : decode cX4_firstSide 2 = .ok (.istore_n 1, 1) := by decide +kernel
theorem dX4_firstSide_3 : decode cX4_firstSide 3 = .ok (.ldc 46, 2) := by decide +kernel
theorem dX4_firstSide_5 : decode cX4_firstSide 5 = .ok (.istore_n 2, 1) := by decide +kernel
theorem dX4_firstSide_6 : decode cX4_firstSide 6 = .ok (.iconst 1, 1) := by decide +kernel
theorem dX4_firstSide_7 : decode cX4_firstSide 7 = .ok (.istore_n 3, 1) := by decide +kernel
theorem dX4_firstSide_8 : decode cX4_firstSide 8 = .ok (.iload_n 3, 1) := by decide +kernel
theorem dX4_firstSide_9 : decode cX4_firstSide 9 = .ok (.iconst 1, 1) := by decide +kernel
theorem dX4_firstSide_10 : decode cX4_firstSide 10 = .ok (.aload_n 0, 1) := by decide +kernel
theorem dX4_firstSide_11 : decode cX4_firstSide 11 = .ok (.getfield 9, 3) := by decide +kernel
theorem dX4_firstSide_14 : decode cX4_firstSide 14 = .ok (.ishl, 1) := by decide +kernel
theorem dX4_firstSide_15 : decode cX4_firstSide 15 = .ok (.if_icmp .ge 27, 3) := by decide +kernel
theorem dX4_firstSide_18 : decode cX4_firstSide 18 = .ok (.aload_n 0, 1) := by decide +kernel
theorem dX4_firstSide_19 : decode cX4_firstSide 19 = .ok (.iload_n 3, 1) := by decide +kernel
theorem dX4_firstSide_20 : decode cX4_firstSide 20 = .ok (.invokestatic 50, 3) := by decide +kernel
theorem dX4_firstSide_23 : decode cX4_firstSide 23 = .ok (.istore 4, 2) := by decide +kernel
theorem dX4_firstSide_25 : decode cX4_firstSide 25 = .ok (.iload 4, 2) := by decide +kernel
theorem dX4_firstSide_27 : decode cX4_firstSide 27 = .ok (.iload_n 2, 1) := by decide +kernel
theorem dX4_firstSide_28 : decode cX4_firstSide 28 = .ok (.if_icmp .ge 8, 3) := by decide +kernel
theorem dX4_firstSide_31 : decode cX4_firstSide 31 = .ok (.iload 4, 2) := by decide +kernel
theorem dX4_firstSide_33 : decode cX4_firstSide 33 = .ok (.istore_n 2, 1) := by decide +kernel
theorem dX4_firstSide_34 : decode cX4_firstSide 34 = .ok (.iload_n 3, 1) := by decide +kernel
theorem dX4_firstSide_35 : decode cX4_firstSide 35 = .ok (.istore_n 1, 1) := by decide +kernel
theorem dX4_firstSide_36 : decode cX4_firstSide 36 = .ok (.iinc 3 2, 3) := by decide +kernel
theorem dX4_firstSide_39 : decode cX4_firstSide 39 = .ok (.goto (-31), 3) := by decide +kernel
theorem dX4_firstSide_42 : decode cX4_firstSide 42 = .ok (.iload_n 1, 1) := by decide +kernel
theorem dX4_firstSide_43 : decode cX4_firstSide 43 = .ok (.ireturn, 1) := by decide +kernel
theorem dX4_apart_0 : decode cX4_apart 0 = .ok (.iconst 2, 1) := by decide +kernel
theorem dX4_apart_1 : decode cX4_apart 1 = .ok (.aload_n 0, 1) := by decide +kernel
theorem dX4_apart_2 : decode cX4_apart 2 = .ok (.iload_n 1, 1) := by decide +kernel
theorem dX4_apart_3 : decode cX4_apart 3 = .ok (.invokestatic 43, 3) := by decide +kernel
theorem dX4_apart_6 : decode cX4_apart 6 = .ok (.imul, 1) := by decide +kernel
theorem dX4_apart_7 : decode cX4_apart 7 = .ok (.aload_n 0, 1) := by decide +kernel
theorem dX4_apart_8 : decode cX4_apart 8 = .ok (.invokevirtual 53, 3) := by decide +kernel
theorem dX4_apart_11 : decode cX4_apart 11 = .ok (.isub, 1) := by decide +kernel
theorem dX4_apart_12 : decode cX4_apart 12 = .ok (.invokestatic 47, 3) := by decide +kernel
theorem dX4_apart_15 : decode cX4_apart 15 = .ok (.ireturn, 1) := by decide +kernel
theorem dX5_init_0 : decode cX5_init 0 = .ok (.aload_n 0, 1) := by decide +kernel
theorem dX5_init_1 : decode cX5_init 1 = .ok (.invokespecial 3, 3) := by decide +kernel
theorem dX5_init_4 : decode cX5_init 4 = .ok (.aload_n 0, 1) := by decide +kernel
theorem dX5_init_5 : decode cX5_init 5 = .ok (.bipush 16, 2) := by decide +kernel
theorem dX5_init_7 : decode cX5_init 7 = .ok (.newarray .int, 2) := by decide +kernel
theorem dX5_init_9 : decode cX5_init 9 = .ok (.putfield 9, 3) := by decide +kernel
theorem dX5_init_12 : decode cX5_init 12 = .ok (.aload_n 0, 1) := by decide +kernel
theorem dX5_init_13 : decode cX5_init 13 = .ok (.iconst 0, 1) := by decide +kernel
theorem dX5_init_14 : decode cX5_init 14 = .ok (.putfield 15, 3) := by decide +kernel
theorem dX5_init_17 : decode cX5_init 17 = .ok (.return_, 1) := by decide +kernel
theorem dX5_add_0 : decode cX5_add 0 = .ok (.aload_n 0, 1) := by decide +kernel
theorem dX5_add_1 : decode cX5_add 1 = .ok (.getfield 9, 3) := by decide +kernel
theorem dX5_add_4 : decode cX5_add 4 = .ok (.aload_n 0, 1) := by decide +kernel
theorem dX5_add_5 : decode cX5_add 5 = .ok (.getfield 15, 3) := by decide +kernel
theorem dX5_add_8 : decode cX5_add 8 = .ok (.iload_n 1, 1) := by decide +kernel
theorem dX5_add_9 : decode cX5_add 9 = .ok (.iastore, 1) := by decide +kernel
theorem dX5_add_10 : decode cX5_add 10 = .ok (.aload_n 0, 1) := by decide +kernel
theorem dX5_add_11 : decode cX5_add 11 = .ok (.dup, 1) := by decide +kernel
theorem dX5_add_12 : decode cX5_add 12 = .ok (.getfield 15, 3) := by decide +kernel
theorem dX5_add_15 : decode cX5_add 15 = .ok (.iconst 1, 1) := by decide +kernel
theorem dX5_add_16 : decode cX5_add 16 = .ok (.iadd, 1) := by decide +kernel
theorem dX5_add_17 : decode cX5_add 17 = .ok (.putfield 15, 3) := by decide +kernel
theorem dX5_add_20 : decode cX5_add 20 = .ok (.aload_n 0, 1) := by decide +kernel
theorem dX5_add_21 : decode cX5_add 21 = .ok (.getfield 15, 3) := by decide +kernel
theorem dX5_add_24 : decode cX5_add 24 = .ok (.ireturn, 1) := by decide +kernel
theorem dX5_firstWrong_0 : decode cX5_firstWrong 0 = .ok (.iconst 0, 1) := by decide +kernel
theorem dX5_firstWrong_1 : decode cX5_firstWrong 1 = .ok (.istore_n 2, 1) := by decide +kernel
theorem dX5_firstWrong_2 : decode cX5_firstWrong 2 = .ok (.iload_n 2, 1) := by decide +kernel
theorem dX5_firstWrong_3 : decode cX5_firstWrong 3 = .ok (.aload_n 0, 1) := by decide +kernel
theorem dX5_firstWrong_4 : decode cX5_firstWrong 4 = .ok (.getfield 15, 3) := by decide +kernel
theorem dX5_firstWrong_7 : decode cX5_firstWrong 7 = .ok (.if_icmp .ge 59, 3) := by decide +kernel
theorem dX5_firstWrong_10 : decode cX5_firstWrong 10 = .ok (.iload_n 2, 1) := by decide +kernel
theorem dX5_firstWrong_11 : decode cX5_firstWrong 11 = .ok (.iconst 1, 1) := by decide +kernel
theorem dX5_firstWrong_12 : decode cX5_firstWrong 12 = .ok (.iadd, 1) := by decide +kernel
theorem dX5_firstWrong_13 : decode cX5_firstWrong 13 = .ok (.aload_n 0, 1) := by decide +kernel
theorem dX5_firstWrong_14 : decode cX5_firstWrong 14 = .ok (.getfield 15, 3) := by decide +kernel
theorem dX5_firstWrong_17 : decode cX5_firstWrong 17 = .ok (.if_icmp .ge 16, 3) := by decide +kernel
theorem dX5_firstWrong_20 : decode cX5_firstWrong 20 = .ok (.aload_n 1, 1) := by decide +kernel
theorem dX5_firstWrong_21 : decode cX5_firstWrong 21 = .ok (.aload_n 0, 1) := by decide +kernel
theorem dX5_firstWrong_22 : decode cX5_firstWrong 22 = .ok (.getfield 9, 3) := by decide +kernel
theorem dX5_firstWrong_25 : decode cX5_firstWrong 25 = .ok (.iload_n 2, 1) := by decide +kernel
theorem dX5_firstWrong_26 : decode cX5_firstWrong 26 = .ok (.iaload, 1) := by decide +kernel
theorem dX5_firstWrong_27 : decode cX5_firstWrong 27 = .ok (.invokevirtual 19, 3) := by decide +kernel
theorem dX5_firstWrong_30 : decode cX5_firstWrong 30 = .ok (.ifCond .ne 5, 3) := by decide +kernel
theorem dX5_firstWrong_33 : decode cX5_firstWrong 33 = .ok (.iload_n 2, 1) := by decide +kernel
theorem dX5_firstWrong_34 : decode cX5_firstWrong 34 = .ok (.ireturn, 1) := by decide +kernel
theorem dX5_firstWrong_35 : decode cX5_firstWrong 35 = .ok (.aload_n 1, 1) := by decide +kernel
theorem dX5_firstWrong_36 : decode cX5_firstWrong 36 = .ok (.aload_n 0, 1) := by decide +kernel
theorem dX5_firstWrong_37 : decode cX5_firstWrong 37 = .ok (.getfield 9, 3) := by decide +kernel
theorem dX5_firstWrong_40 : decode cX5_firstWrong 40 = .ok (.iload_n 2, 1) := by decide +kernel
theorem dX5_firstWrong_41 : decode cX5_firstWrong 41 = .ok (.iaload, 1) := by decide +kernel
theorem dX5_firstWrong_42 : decode cX5_firstWrong 42 = .ok (.aload_n 0, 1) := by decide +kernel
theorem dX5_firstWrong_43 : decode cX5_firstWrong 43 = .ok (.getfield 9, 3) := by decide +kernel
theorem dX5_firstWrong_46 : decode cX5_firstWrong 46 = .ok (.iload_n 2, 1) := by decide +kernel
theorem dX5_firstWrong_47 : decode cX5_firstWrong 47 = .ok (.iconst 1, 1) := by decide +kernel
theorem dX5_firstWrong_48 : decode cX5_firstWrong 48 = .ok (.iadd, 1) := by decide +kernel
theorem dX5_firstWrong_49 : decode cX5_firstWrong 49 = .ok (.iaload, 1) := by decide +kernel
theorem dX5_firstWrong_50 : decode cX5_firstWrong 50 = .ok (.invokestatic 25, 3) := by decide +kernel
theorem dX5_firstWrong_53 : decode cX5_firstWrong 53 = .ok (.ifCond .ne 7, 3) := by decide +kernel
theorem dX5_firstWrong_56 : decode cX5_firstWrong 56 = .ok (.iload_n 2, 1) := by decide +kernel
theorem dX5_firstWrong_57 : decode cX5_firstWrong 57 = .ok (.iconst 1, 1) := by decide +kernel
theorem dX5_firstWrong_58 : decode cX5_firstWrong 58 = .ok (.iadd, 1) := by decide +kernel
theorem dX5_firstWrong_59 : decode cX5_firstWrong 59 = .ok (.ireturn, 1) := by decide +kernel
theorem dX5_firstWrong_60 : decode cX5_firstWrong 60 = .ok (.iinc 2 2, 3) := by decide +kernel
theorem dX5_firstWrong_63 : decode cX5_firstWrong 63 = .ok (.goto (-61), 3) := by decide +kernel
theorem dX5_firstWrong_66 : decode cX5_firstWrong 66 = .ok (.bipush (-9), 2) := by decide +kernel
theorem dX5_firstWrong_68 : decode cX5_firstWrong 68 = .ok (.ireturn, 1) := by decide +kernel
theorem dX5_isLighter_0 : decode cX5_isLighter 0 = .ok (.aload_n 0, 1) := by decide +kernel
theorem dX5_isLighter_1 : decode cX5_isLighter 1 = .ok (.iload_n 1, 1) := by decide +kernel
theorem dX5_isLighter_2 : decode cX5_isLighter 2 = .ok (.iload_n 2, 1) := by decide +kernel
theorem dX5_isLighter_3 : decode cX5_isLighter 3 = .ok (.invokevirtual 29, 3) := by decide +kernel
theorem dX5_isLighter_6 : decode cX5_isLighter 6 = .ok (.ifCond .eq 20, 3) := by decide +kernel
theorem dX5_isLighter_9 : decode cX5_isLighter 9 = .ok (.aload_n 0, 1) := by decide +kernel
theorem dX5_isLighter_10 : decode cX5_isLighter 10 = .ok (.iload_n 1, 1) := by decide +kernel
theorem dX5_isLighter_11 : decode cX5_isLighter 11 = .ok (.invokevirtual 33, 3) := by decide +kernel
theorem dX5_isLighter_14 : decode cX5_isLighter 14 = .ok (.aload_n 0, 1) := by decide +kernel
theorem dX5_isLighter_15 : decode cX5_isLighter 15 = .ok (.iload_n 2, 1) := by decide +kernel
theorem dX5_isLighter_16 : decode cX5_isLighter 16 = .ok (.invokevirtual 33, 3) := by decide +kernel
theorem dX5_isLighter_19 : decode cX5_isLighter 19 = .ok (.if_icmp .ge 7, 3) := by decide +kernel
theorem dX5_isLighter_22 : decode cX5_isLighter 22 = .ok (.iconst 1, 1) := by decide +kernel
theorem dX5_isLighter_23 : decode cX5_isLighter 23 = .ok (.goto 4, 3) := by decide +kernel
theorem dX5_isLighter_26 : decode cX5_isLighter 26 = .ok (.iconst 0, 1) := by decide +kernel
theorem dX5_isLighter_27 : decode cX5_isLighter 27 = .ok (.ireturn, 1) := by decide +kernel
theorem dX6_init_0 : decode cX6_init 0 = .ok (.aload_n 0, 1) := by decide +kernel
theorem dX6_init_1 : decode cX6_init 1 = .ok (.invokespecial 1, 3) := by decide +kernel
theorem dX6_init_4 : decode cX6_init 4 = .ok (.aload_n 0, 1) := by decide +kernel
theorem dX6_init_5 : decode cX6_init 5 = .ok (.new 7, 3) := by decide +kernel
theorem dX6_init_8 : decode cX6_init 8 = .ok (.dup, 1) := by decide +kernel
theorem dX6_init_9 : decode cX6_init 9 = .ok (.invokespecial 9, 3) := by decide +kernel
theorem dX6_init_12 : decode cX6_init 12 = .ok (.putfield 10, 3) := by decide +kernel
theorem dX6_init_15 : decode cX6_init 15 = .ok (.aload_n 0, 1) := by decide +kernel
theorem dX6_init_16 : decode cX6_init 16 = .ok (.new 7, 3) := by decide +kernel
theorem dX6_init_19 : decode cX6_init 19 = .ok (.dup, 1) := by decide +kernel
theorem dX6_init_20 : decode cX6_init 20 = .ok (.invokespecial 9, 3) := by decide +kernel
theorem dX6_init_23 : decode cX6_init 23 = .ok (.putfield 16, 3) := by decide +kernel
theorem dX6_init_26 : decode cX6_init 26 = .ok (.aload_n 0, 1) := by decide +kernel
theorem dX6_init_27 : decode cX6_init 27 = .ok (.iconst 0, 1) := by decide +kernel
theorem dX6_init_28 : decode cX6_init 28 = .ok (.putfield 19, 3) := by decide +kernel
theorem dX6_init_31 : decode cX6_init 31 = .ok (.aload_n 0, 1) := by decide +kernel
theorem dX6_init_32 : decode cX6_init 32 = .ok (.new 23, 3) := by decide +kernel
theorem dX6_init_35 : decode cX6_init 35 = .ok (.dup, 1) := by decide +kernel
theorem dX6_init_36 : decode cX6_init 36 = .ok (.invokespecial 25, 3) := by decide +kernel
theorem dX6_init_39 : decode cX6_init 39 = .ok (.putfield 26, 3) := by decide +kernel
theorem dX6_init_42 : decode cX6_init 42 = .ok (.aload_n 0, 1) := by decide +kernel
theorem dX6_init_43 : decode cX6_init 43 = .ok (.new 30, 3) := by decide +kernel
theorem dX6_init_46 : decode cX6_init 46 = .ok (.dup, 1) := by decide +kernel
theorem dX6_init_47 : decode cX6_init 47 = .ok (.invokespecial 32, 3) := by decide +kernel
theorem dX6_init_50 : decode cX6_init 50 = .ok (.putfield 33, 3) := by decide +kernel
theorem dX6_init_53 : decode cX6_init 53 = .ok (.aload_n 0, 1) := by decide +kernel
theorem dX6_init_54 : decode cX6_init 54 = .ok (.new 37, 3) := by decide +kernel
theorem dX6_init_57 : decode cX6_init 57 = .ok (.dup, 1) := by decide +kernel
theorem dX6_init_58 : decode cX6_init 58 = .ok (.invokespecial 39, 3) := by decide +kernel
theorem dX6_init_61 : decode cX6_init 61 = .ok (.putfield 40, 3) := by decide +kernel
theorem dX6_init_64 : decode cX6_init 64 = .ok (.aload_n 0, 1) := by decide +kernel
theorem dX6_init_65 : decode cX6_init 65 = .ok (.bipush 7, 2) := by decide +kernel
theorem dX6_init_67 : decode cX6_init 67 = .ok (.newarray .int, 2) := by decide +kernel
theorem dX6_init_69 : decode cX6_init 69 = .ok (.putfield 44, 3) := by decide +kernel
theorem dX6_init_72 : decode cX6_init 72 = .ok (.return_, 1) := by decide +kernel
theorem dX6_letter_0 : decode cX6_letter 0 = .ok (.iload_n 1, 1) := by decide +kernel
theorem dX6_letter_1 : decode cX6_letter 1 = .ok (.iconst 0, 1) := by decide +kernel
theorem dX6_letter_2 : decode cX6_letter 2 = .ok (.sipush 255, 3) := by decide +kernel
theorem dX6_letter_5 : decode cX6_letter 5 = .ok (.invokestatic 48, 3) := by decide +kernel
theorem dX6_letter_8 : decode cX6_letter 8 = .ok (.istore_n 2, 1) := by decide +kernel
theorem dX6_letter_9 : decode cX6_letter 9 = .ok (.iload_n 2, 1) := by decide +kernel
theorem dX6_letter_10 : decode cX6_letter 10 = .ok (.ifCond .ne 18, 3) := by decide +kernel
theorem dX6_letter_13 : decode cX6_letter 13 = .ok (.aload_n 0, 1) := by decide +kernel
theorem dX6_letter_14 : decode cX6_letter 14 = .ok (.getfield 33, 3) := by decide +kernel
theorem dX6_letter_17 : decode cX6_letter 17 = .ok (.getfield 52, 3) := by decide +kernel
theorem dX6_letter_20 : decode cX6_letter 20 = .ok (.bipush 96, 2) := by decide +kernel
theorem dX6_letter_22 : decode cX6_letter 22 = .ok (.if_icmp .lt 6, 3) := by decide +kernel
theorem dX6_letter_25 : decode cX6_letter 25 = .ok (.bipush (-6), 2) := by decide +kernel
theorem dX6_letter_27 : decode cX6_letter 27 = .ok (.istore_n 2, 1) := by decide +kernel
theorem dX6_letter_28 : decode cX6_letter 28 = .ok (.iload_n 2, 1) := by decide +kernel
theorem dX6_letter_29 : decode cX6_letter 29 = .ok (.ifCond .eq 9, 3) := by decide +kernel
theorem dX6_letter_32 : decode cX6_letter 32 = .ok (.aload_n 0, 1) := by decide +kernel
theorem dX6_letter_33 : decode cX6_letter 33 = .ok (.iload_n 2, 1) := by decide +kernel
theorem dX6_letter_34 : decode cX6_letter 34 = .ok (.invokevirtual 56, 3) := by decide +kernel
theorem dX6_letter_37 : decode cX6_letter 37 = .ok (.ireturn, 1) := by decide +kernel
theorem dX6_letter_38 : decode cX6_letter 38 = .ok (.aload_n 0, 1) := by decide +kernel
theorem dX6_letter_39 : decode cX6_letter 39 = .ok (.getfield 33, 3) := by decide +kernel
theorem dX6_letter_42 : decode cX6_letter 42 = .ok (.iload_n 1, 1) := by decide +kernel
theorem dX6_letter_43 : decode cX6_letter 43 = .ok (.invokevirtual 60, 3) := by decide +kernel
theorem dX6_letter_46 : decode cX6_letter 46 = .ok (.ireturn, 1) := by decide +kernel
theorem dX6_port_0 : decode cX6_port 0 = .ok (.aload_n 0, 1) := by decide +kernel
theorem dX6_port_1 : decode cX6_port 1 = .ok (.getfield 40, 3) := by decide +kernel
theorem dX6_port_4 : decode cX6_port 4 = .ok (.aload_n 0, 1) := by decide +kernel
theorem dX6_port_5 : decode cX6_port 5 = .ok (.getfield 10, 3) := by decide +kernel
theorem dX6_port_8 : decode cX6_port 8 = .ok (.invokevirtual 63, 3) := by decide +kernel
theorem dX6_port_11 : decode cX6_port 11 = .ok (.astore_n 1, 1) := by decide +kernel
theorem dX6_port_12 : decode cX6_port 12 = .ok (.aload_n 0, 1) := by decide +kernel
theorem dX6_port_13 : decode cX6_port 13 = .ok (.getfield 33, 3) := by decide +kernel
theorem dX6_port_16 : decode cX6_port 16 = .ok (.aload_n 1, 1) := by decide +kernel
theorem dX6_port_17 : decode cX6_port 17 = .ok (.invokevirtual 67, 3) := by decide +kernel
theorem dX6_port_20 : decode cX6_port 20 = .ok (.istore_n 2, 1) := by decide +kernel
theorem dX6_port_21 : decode cX6_port 21 = .ok (.aload_n 0, 1) := by decide +kernel
theorem dX6_port_22 : decode cX6_port 22 = .ok (.getfield 33, 3) := by decide +kernel
theorem dX6_port_25 : decode cX6_port 25 = .ok (.iconst 0, 1) := by decide +kernel
theorem dX6_port_26 : decode cX6_port 26 = .ok (.putfield 52, 3) := by decide +kernel
theorem dX6_port_29 : decode cX6_port 29 = .ok (.iload_n 2, 1) := by decide +kernel
theorem dX6_port_30 : decode cX6_port 30 = .ok (.ifCond .lt 11, 3) := by decide +kernel
theorem dX6_port_33 : decode cX6_port 33 = .ok (.aload_n 0, 1) := by decide +kernel
theorem dX6_port_34 : decode cX6_port 34 = .ok (.getfield 10, 3) := by decide +kernel
theorem dX6_port_37 : decode cX6_port 37 = .ok (.aload_n 1, 1) := by decide +kernel
theorem dX6_port_38 : decode cX6_port 38 = .ok (.invokevirtual 71, 3) := by decide +kernel
theorem dX6_port_41 : decode cX6_port 41 = .ok (.iload_n 2, 1) := by decide +kernel
theorem dX6_port_42 : decode cX6_port 42 = .ok (.ireturn, 1) := by decide +kernel
theorem dX6_thing_0 : decode cX6_thing 0 = .ok (.aload_n 0, 1) := by decide +kernel
theorem dX6_thing_1 : decode cX6_thing 1 = .ok (.getfield 10, 3) := by decide +kernel
theorem dX6_thing_4 : decode cX6_thing 4 = .ok (.iload_n 1, 1) := by decide +kernel
theorem dX6_thing_5 : decode cX6_thing 5 = .ok (.invokevirtual 75, 3) := by decide +kernel
theorem dX6_thing_8 : decode cX6_thing 8 = .ok (.ifCond .ne 9, 3) := by decide +kernel
theorem dX6_thing_11 : decode cX6_thing 11 = .ok (.aload_n 0, 1) := by decide +kernel
theorem dX6_thing_12 : decode cX6_thing 12 = .ok (.iconst (-1), 1) := by decide +kernel
theorem dX6_thing_13 : decode cX6_thing 13 = .ok (.invokevirtual 56, 3) := by decide +kernel
theorem dX6_thing_16 : decode cX6_thing 16 = .ok (.ireturn, 1) := by decide +kernel
theorem dX6_thing_17 : decode cX6_thing 17 = .ok (.iload_n 2, 1) := by decide +kernel
theorem dX6_thing_18 : decode cX6_thing 18 = .ok (.tableswitch 97 0 5 #[38, 48, 58, 68, 78, 88], 38) := by decide +kernel
theorem dX6_thing_56 : decode cX6_thing 56 = .ok (.aload_n 0, 1) := by decide +kernel
theorem dX6_thing_57 : decode cX6_thing 57 = .ok (.getfield 10, 3) := by decide +kernel
theorem dX6_thing_60 : decode cX6_thing 60 = .ok (.getfield 79, 3) := by decide +kernel
theorem dX6_thing_63 : decode cX6_thing 63 = .ok (.iload_n 1, 1) := by decide +kernel
theorem dX6_thing_64 : decode cX6_thing 64 = .ok (.iaload, 1) := by decide +kernel
theorem dX6_thing_65 : decode cX6_thing 65 = .ok (.ireturn, 1) := by decide +kernel
theorem dX6_thing_66 : decode cX6_thing 66 = .ok (.aload_n 0, 1) := by decide +kernel
theorem dX6_thing_67 : decode cX6_thing 67 = .ok (.getfield 10, 3) := by decide +kernel
theorem dX6_thing_70 : decode cX6_thing 70 = .ok (.getfield 82, 3) := by decide +kernel
theorem dX6_thing_73 : decode cX6_thing 73 = .ok (.iload_n 1, 1) := by decide +kernel
theorem dX6_thing_74 : decode cX6_thing 74 = .ok (.iaload, 1) := by decide +kernel
theorem dX6_thing_75 : decode cX6_thing 75 = .ok (.ireturn, 1) := by decide +kernel
theorem dX6_thing_76 : decode cX6_thing 76 = .ok (.aload_n 0, 1) := by decide +kernel
theorem dX6_thing_77 : decode cX6_thing 77 = .ok (.getfield 10, 3) := by decide +kernel
theorem dX6_thing_80 : decode cX6_thing 80 = .ok (.getfield 85, 3) := by decide +kernel
theorem dX6_thing_83 : decode cX6_thing 83 = .ok (.iload_n 1, 1) := by decide +kernel
theorem dX6_thing_84 : decode cX6_thing 84 = .ok (.iaload, 1) := by decide +kernel
theorem dX6_thing_85 : decode cX6_thing 85 = .ok (.ireturn, 1) := by decide +kernel
theorem dX6_thing_86 : decode cX6_thing 86 = .ok (.aload_n 0, 1) := by decide +kernel
theorem dX6_thing_87 : decode cX6_thing 87 = .ok (.getfield 10, 3) := by decide +kernel
theorem dX6_thing_90 : decode cX6_thing 90 = .ok (.getfield 88, 3) := by decide +kernel
theorem dX6_thing_93 : decode cX6_thing 93 = .ok (.iload_n 1, 1) := by decide +kernel
theorem dX6_thing_94 : decode cX6_thing 94 = .ok (.iaload, 1) := by decide +kernel
theorem dX6_thing_95 : decode cX6_thing 95 = .ok (.ireturn, 1) := by decide +kernel
theorem dX6_thing_96 : decode cX6_thing 96 = .ok (.aload_n 0, 1) := by decide +kernel
theorem dX6_thing_97 : decode cX6_thing 97 = .ok (.getfield 10, 3) := by decide +kernel
theorem dX6_thing_100 : decode cX6_thing 100 = .ok (.getfield 91, 3) := by decide +kernel
theorem dX6_thing_103 : decode cX6_thing 103 = .ok (.iload_n 1, 1) := by decide +kernel
theorem dX6_thing_104 : decode cX6_thing 104 = .ok (.iaload, 1) := by decide +kernel
theorem dX6_thing_105 : decode cX6_thing 105 = .ok (.ireturn, 1) := by decide +kernel
theorem dX6_thing_106 : decode cX6_thing 106 = .ok (.aload_n 0, 1) := by decide +kernel
theorem dX6_thing_107 : decode cX6_thing 107 = .ok (.getfield 10, 3) := by decide +kernel
theorem dX6_thing_110 : decode cX6_thing 110 = .ok (.iload_n 1, 1) := by decide +kernel
theorem dX6_thing_111 : decode cX6_thing 111 = .ok (.invokevirtual 94, 3) := by decide +kernel
theorem dX6_thing_114 : decode cX6_thing 114 = .ok (.ireturn, 1) := by decide +kernel
theorem dX6_thing_115 : decode cX6_thing 115 = .ok (.aload_n 0, 1) := by decide +kernel
theorem dX6_thing_116 : decode cX6_thing 116 = .ok (.bipush (-2), 2) := by decide +kernel
theorem dX6_thing_118 : decode cX6_thing 118 = .ok (.invokevirtual 56, 3) := by decide +kernel
theorem dX6_thing_121 : decode cX6_thing 121 = .ok (.ireturn, 1) := by decide +kernel
theorem dX6_rope_0 : decode cX6_rope 0 = .ok (.aload_n 0, 1) := by decide +kernel
theorem dX6_rope_1 : decode cX6_rope 1 = .ok (.getfield 10, 3) := by decide +kernel
theorem dX6_rope_4 : decode cX6_rope 4 = .ok (.iload_n 1, 1) := by decide +kernel
theorem dX6_rope_5 : decode cX6_rope 5 = .ok (.invokevirtual 97, 3) := by decide +kernel
theorem dX6_rope_8 : decode cX6_rope 8 = .ok (.ifCond .ne 9, 3) := by decide +kernel
theorem dX6_rope_11 : decode cX6_rope 11 = .ok (.aload_n 0, 1) := by decide +kernel
theorem dX6_rope_12 : decode cX6_rope 12 = .ok (.iconst (-1), 1) := by decide +kernel
theorem dX6_rope_13 : decode cX6_rope 13 = .ok (.invokevirtual 56, 3) := by decide +kernel
theorem dX6_rope_16 : decode cX6_rope 16 = .ok (.ireturn, 1) := by decide +kernel
theorem dX6_rope_17 : decode cX6_rope 17 = .ok (.iload_n 2, 1) := by decide +kernel
theorem dX6_rope_18 : decode cX6_rope 18 = .ok (.tableswitch 55 0 2 #[26, 36, 46], 26) := by decide +kernel
theorem dX6_rope_44 : decode cX6_rope 44 = .ok (.aload_n 0, 1) := by decide +kernel
theorem dX6_rope_45 : decode cX6_rope 45 = .ok (.getfield 10, 3) := by decide +kernel
theorem dX6_rope_48 : decode cX6_rope 48 = .ok (.getfield 100, 3) := by decide +kernel
theorem dX6_rope_51 : decode cX6_rope 51 = .ok (.iload_n 1, 1) := by decide +kernel
theorem dX6_rope_52 : decode cX6_rope 52 = .ok (.iaload, 1) := by decide +kernel
theorem dX6_rope_53 : decode cX6_rope 53 = .ok (.ireturn, 1) := by decide +kernel
theorem dX6_rope_54 : decode cX6_rope 54 = .ok (.aload_n 0, 1) := by decide +kernel
theorem dX6_rope_55 : decode cX6_rope 55 = .ok (.getfield 10, 3) := by decide +kernel
theorem dX6_rope_58 : decode cX6_rope 58 = .ok (.getfield 103, 3) := by decide +kernel
theorem dX6_rope_61 : decode cX6_rope 61 = .ok (.iload_n 1, 1) := by decide +kernel
theorem dX6_rope_62 : decode cX6_rope 62 = .ok (.iaload, 1) := by decide +kernel
theorem dX6_rope_63 : decode cX6_rope 63 = .ok (.ireturn, 1) := by decide +kernel
theorem dX6_rope_64 : decode cX6_rope 64 = .ok (.aload_n 0, 1) := by decide +kernel
theorem dX6_rope_65 : decode cX6_rope 65 = .ok (.getfield 10, 3) := by decide +kernel
theorem dX6_rope_68 : decode cX6_rope 68 = .ok (.iload_n 1, 1) := by decide +kernel
theorem dX6_rope_69 : decode cX6_rope 69 = .ok (.invokevirtual 106, 3) := by decide +kernel
theorem dX6_rope_72 : decode cX6_rope 72 = .ok (.ireturn, 1) := by decide +kernel
theorem dX6_rope_73 : decode cX6_rope 73 = .ok (.aload_n 0, 1) := by decide +kernel
theorem dX6_rope_74 : decode cX6_rope 74 = .ok (.bipush (-2), 2) := by decide +kernel
theorem dX6_rope_76 : decode cX6_rope 76 = .ok (.invokevirtual 56, 3) := by decide +kernel
theorem dX6_rope_79 : decode cX6_rope 79 = .ok (.ireturn, 1) := by decide +kernel
theorem dX6_ties_0 : decode cX6_ties 0 = .ok (.aload_n 0, 1) := by decide +kernel
theorem dX6_ties_1 : decode cX6_ties 1 = .ok (.getfield 10, 3) := by decide +kernel
theorem dX6_ties_4 : decode cX6_ties 4 = .ok (.iload_n 1, 1) := by decide +kernel
theorem dX6_ties_5 : decode cX6_ties 5 = .ok (.iload_n 2, 1) := by decide +kernel
theorem dX6_ties_6 : decode cX6_ties 6 = .ok (.invokevirtual 109, 3) := by decide +kernel
theorem dX6_ties_9 : decode cX6_ties 9 = .ok (.ifCond .ne 9, 3) := by decide +kernel
theorem dX6_ties_12 : decode cX6_ties 12 = .ok (.aload_n 0, 1) := by decide +kernel
theorem dX6_ties_13 : decode cX6_ties 13 = .ok (.iconst (-1), 1) := by decide +kernel
theorem dX6_ties_14 : decode cX6_ties 14 = .ok (.invokevirtual 56, 3) := by decide +kernel
theorem dX6_ties_17 : decode cX6_ties 17 = .ok (.ireturn, 1) := by decide +kernel
theorem dX6_ties_18 : decode cX6_ties 18 = .ok (.aload_n 0, 1) := by decide +kernel
theorem dX6_ties_19 : decode cX6_ties 19 = .ok (.getfield 10, 3) := by decide +kernel
theorem dX6_ties_22 : decode cX6_ties 22 = .ok (.getfield 113, 3) := by decide +kernel
theorem dX6_ties_25 : decode cX6_ties 25 = .ok (.bipush 6, 2) := by decide +kernel
theorem dX6_ties_27 : decode cX6_ties 27 = .ok (.if_icmp .lt 10, 3) := by decide +kernel
theorem dX6_ties_30 : decode cX6_ties 30 = .ok (.aload_n 0, 1) := by decide +kernel
theorem dX6_ties_31 : decode cX6_ties 31 = .ok (.bipush (-6), 2) := by decide +kernel
theorem dX6_ties_33 : decode cX6_ties 33 = .ok (.invokevirtual 56, 3) := by decide +kernel
theorem dX6_ties_36 : decode cX6_ties 36 = .ok (.ireturn, 1) := by decide +kernel
theorem dX6_ties_37 : decode cX6_ties 37 = .ok (.aload_n 0, 1) := by decide +kernel
theorem dX6_ties_38 : decode cX6_ties 38 = .ok (.getfield 10, 3) := by decide +kernel
theorem dX6_ties_41 : decode cX6_ties 41 = .ok (.iload_n 1, 1) := by decide +kernel
theorem dX6_ties_42 : decode cX6_ties 42 = .ok (.iload_n 2, 1) := by decide +kernel
theorem dX6_ties_43 : decode cX6_ties 43 = .ok (.invokevirtual 116, 3) := by decide +kernel
theorem dX6_ties_46 : decode cX6_ties 46 = .ok (.ireturn, 1) := by decide +kernel
theorem dX6_cuts_0 : decode cX6_cuts 0 = .ok (.aload_n 0, 1) := by decide +kernel
theorem dX6_cuts_1 : decode cX6_cuts 1 = .ok (.getfield 10, 3) := by decide +kernel
theorem dX6_cuts_4 : decode cX6_cuts 4 = .ok (.iload_n 1, 1) := by decide +kernel
theorem dX6_cuts_5 : decode cX6_cuts 5 = .ok (.invokevirtual 97, 3) := by decide +kernel
theorem dX6_cuts_8 : decode cX6_cuts 8 = .ok (.ifCond .ne 9, 3) := by decide +kernel
theorem dX6_cuts_11 : decode cX6_cuts 11 = .ok (.aload_n 0, 1) := by decide +kernel
theorem dX6_cuts_12 : decode cX6_cuts 12 = .ok (.iconst (-1), 1) := by decide +kernel
theorem dX6_cuts_13 : decode cX6_cuts 13 = .ok (.invokevirtual 56, 3) := by decide +kernel
theorem dX6_cuts_16 : decode cX6_cuts 16 = .ok (.ireturn, 1) := by decide +kernel
theorem dX6_cuts_17 : decode cX6_cuts 17 = .ok (.aload_n 0, 1) := by decide +kernel
theorem dX6_cuts_18 : decode cX6_cuts 18 = .ok (.getfield 10, 3) := by decide +kernel
theorem dX6_cuts_21 : decode cX6_cuts 21 = .ok (.iload_n 1, 1) := by decide +kernel
theorem dX6_cuts_22 : decode cX6_cuts 22 = .ok (.invokevirtual 120, 3) := by decide +kernel
theorem dX6_cuts_25 : decode cX6_cuts 25 = .ok (.ireturn, 1) := by decide +kernel
theorem dX6_stones_0 : decode cX6_stones 0 = .ok (.aload_n 0, 1) := by decide +kernel
theorem dX6_stones_1 : decode cX6_stones 1 = .ok (.iload_n 1, 1) := by decide +kernel
theorem dX6_stones_2 : decode cX6_stones 2 = .ok (.iload_n 2, 1) := by decide +kernel
theorem dX6_stones_3 : decode cX6_stones 3 = .ok (.bipush 9, 2) := by decide +kernel
theorem dX6_stones_5 : decode cX6_stones 5 = .ok (.invokevirtual 123, 3) := by decide +kernel
theorem dX6_stones_8 : decode cX6_stones 8 = .ok (.istore_n 3, 1) := by decide +kernel
theorem dX6_stones_9 : decode cX6_stones 9 = .ok (.iload_n 3, 1) := by decide +kernel
theorem dX6_stones_10 : decode cX6_stones 10 = .ok (.ifCond .eq 9, 3) := by decide +kernel
theorem dX6_stones_13 : decode cX6_stones 13 = .ok (.aload_n 0, 1) := by decide +kernel
theorem dX6_stones_14 : decode cX6_stones 14 = .ok (.iload_n 3, 1) := by decide +kernel
theorem dX6_stones_15 : decode cX6_stones 15 = .ok (.invokevirtual 56, 3) := by decide +kernel
theorem dX6_stones_18 : decode cX6_stones 18 = .ok (.ireturn, 1) := by decide +kernel
theorem dX6_stones_19 : decode cX6_stones 19 = .ok (.aload_n 0, 1) := by decide +kernel
theorem dX6_stones_20 : decode cX6_stones 20 = .ok (.getfield 10, 3) := by decide +kernel
theorem dX6_stones_23 : decode cX6_stones 23 = .ok (.getfield 88, 3) := by decide +kernel
theorem dX6_stones_26 : decode cX6_stones 26 = .ok (.iload_n 1, 1) := by decide +kernel
theorem dX6_stones_27 : decode cX6_stones 27 = .ok (.iaload, 1) := by decide +kernel
theorem dX6_stones_28 : decode cX6_stones 28 = .ok (.istore 4, 2) := by decide +kernel
theorem dX6_stones_30 : decode cX6_stones 30 = .ok (.aload_n 0, 1) := by decide +kernel
theorem dX6_stones_31 : decode cX6_stones 31 = .ok (.getfield 10, 3) := by decide +kernel
theorem dX6_stones_34 : decode cX6_stones 34 = .ok (.getfield 88, 3) := by decide +kernel
theorem dX6_stones_37 : decode cX6_stones 37 = .ok (.iload_n 1, 1) := by decide +kernel
theorem dX6_stones_38 : decode cX6_stones 38 = .ok (.iload_n 2, 1) := by decide +kernel
theorem dX6_stones_39 : decode cX6_stones 39 = .ok (.iastore, 1) := by decide +kernel
theorem dX6_stones_40 : decode cX6_stones 40 = .ok (.iload 4, 2) := by decide +kernel
theorem dX6_stones_42 : decode cX6_stones 42 = .ok (.ireturn, 1) := by decide +kernel
theorem dX6_weighs_0 : decode cX6_weighs 0 = .ok (.aload_n 0, 1) := by decide +kernel
theorem dX6_weighs_1 : decode cX6_weighs 1 = .ok (.iload_n 1, 1) := by decide +kernel
theorem dX6_weighs_2 : decode cX6_weighs 2 = .ok (.iload_n 2, 1) := by decide +kernel
theorem dX6_weighs_3 : decode cX6_weighs 3 = .ok (.bipush 60, 2) := by decide +kernel
theorem dX6_weighs_5 : decode cX6_weighs 5 = .ok (.invokevirtual 123, 3) := by decide +kernel
theorem dX6_weighs_8 : decode cX6_weighs 8 = .ok (.istore_n 3, 1) := by decide +kernel
theorem dX6_weighs_9 : decode cX6_weighs 9 = .ok (.iload_n 3, 1) := by decide +kernel
theorem dX6_weighs_10 : decode cX6_weighs 10 = .ok (.ifCond .eq 9, 3) := by decide +kernel
theorem dX6_weighs_13 : decode cX6_weighs 13 = .ok (.aload_n 0, 1) := by decide +kernel
theorem dX6_weighs_14 : decode cX6_weighs 14 = .ok (.iload_n 3, 1) := by decide +kernel
theorem dX6_weighs_15 : decode cX6_weighs 15 = .ok (.invokevirtual 56, 3) := by decide +kernel
theorem dX6_weighs_18 : decode cX6_weighs 18 = .ok (.ireturn, 1) := by decide +kernel
theorem dX6_weighs_19 : decode cX6_weighs 19 = .ok (.aload_n 0, 1) := by decide +kernel
theorem dX6_weighs_20 : decode cX6_weighs 20 = .ok (.getfield 10, 3) := by decide +kernel
theorem dX6_weighs_23 : decode cX6_weighs 23 = .ok (.getfield 85, 3) := by decide +kernel
theorem dX6_weighs_26 : decode cX6_weighs 26 = .ok (.iload_n 1, 1) := by decide +kernel
theorem dX6_weighs_27 : decode cX6_weighs 27 = .ok (.iaload, 1) := by decide +kernel
theorem dX6_weighs_28 : decode cX6_weighs 28 = .ok (.istore 4, 2) := by decide +kernel
theorem dX6_weighs_30 : decode cX6_weighs 30 = .ok (.aload_n 0, 1) := by decide +kernel
theorem dX6_weighs_31 : decode cX6_weighs 31 = .ok (.getfield 10, 3) := by decide +kernel
theorem dX6_weighs_34 : decode cX6_weighs 34 = .ok (.getfield 85, 3) := by decide +kernel
theorem dX6_weighs_37 : decode cX6_weighs 37 = .ok (.iload_n 1, 1) := by decide +kernel
theorem dX6_weighs_38 : decode cX6_weighs 38 = .ok (.iload_n 2, 1) := by decide +kernel
theorem dX6_weighs_39 : decode cX6_weighs 39 = .ok (.iastore, 1) := by decide +kernel
theorem dX6_weighs_40 : decode cX6_weighs 40 = .ok (.iload 4, 2) := by decide +kernel
theorem dX6_weighs_42 : decode cX6_weighs 42 = .ok (.ireturn, 1) := by decide +kernel
theorem dX6_lifts_0 : decode cX6_lifts 0 = .ok (.aload_n 0, 1) := by decide +kernel
theorem dX6_lifts_1 : decode cX6_lifts 1 = .ok (.iload_n 1, 1) := by decide +kernel
theorem dX6_lifts_2 : decode cX6_lifts 2 = .ok (.iload_n 2, 1) := by decide +kernel
theorem dX6_lifts_3 : decode cX6_lifts 3 = .ok (.bipush 20, 2) := by decide +kernel
theorem dX6_lifts_5 : decode cX6_lifts 5 = .ok (.invokevirtual 123, 3) := by decide +kernel
theorem dX6_lifts_8 : decode cX6_lifts 8 = .ok (.istore_n 3, 1) := by decide +kernel
theorem dX6_lifts_9 : decode cX6_lifts 9 = .ok (.iload_n 3, 1) := by decide +kernel
theorem dX6_lifts_10 : decode cX6_lifts 10 = .ok (.ifCond .eq 9, 3) := by decide +kernel
theorem dX6_lifts_13 : decode cX6_lifts 13 = .ok (.aload_n 0, 1) := by decide +kernel
theorem dX6_lifts_14 : decode cX6_lifts 14 = .ok (.iload_n 3, 1) := by decide +kernel
theorem dX6_lifts_15 : decode cX6_lifts 15 = .ok (.invokevirtual 56, 3) := by decide +kernel
theorem dX6_lifts_18 : decode cX6_lifts 18 = .ok (.ireturn, 1) := by decide +kernel
theorem dX6_lifts_19 : decode cX6_lifts 19 = .ok (.aload_n 0, 1) := by decide +kernel
theorem dX6_lifts_20 : decode cX6_lifts 20 = .ok (.getfield 10, 3) := by decide +kernel
theorem dX6_lifts_23 : decode cX6_lifts 23 = .ok (.getfield 91, 3) := by decide +kernel
theorem dX6_lifts_26 : decode cX6_lifts 26 = .ok (.iload_n 1, 1) := by decide +kernel
theorem dX6_lifts_27 : decode cX6_lifts 27 = .ok (.iaload, 1) := by decide +kernel
theorem dX6_lifts_28 : decode cX6_lifts 28 = .ok (.istore 4, 2) := by decide +kernel
theorem dX6_lifts_30 : decode cX6_lifts 30 = .ok (.aload_n 0, 1) := by decide +kernel
theorem dX6_lifts_31 : decode cX6_lifts 31 = .ok (.getfield 10, 3) := by decide +kernel
theorem dX6_lifts_34 : decode cX6_lifts 34 = .ok (.getfield 91, 3) := by decide +kernel
theorem dX6_lifts_37 : decode cX6_lifts 37 = .ok (.iload_n 1, 1) := by decide +kernel
theorem dX6_lifts_38 : decode cX6_lifts 38 = .ok (.iload_n 2, 1) := by decide +kernel
theorem dX6_lifts_39 : decode cX6_lifts 39 = .ok (.iastore, 1) := by decide +kernel
theorem dX6_lifts_40 : decode cX6_lifts 40 = .ok (.iload 4, 2) := by decide +kernel
theorem dX6_lifts_42 : decode cX6_lifts 42 = .ok (.ireturn, 1) := by decide +kernel
theorem dX6_turn_0 : decode cX6_turn 0 = .ok (.aload_n 0, 1) := by decide +kernel
theorem dX6_turn_1 : decode cX6_turn 1 = .ok (.getfield 10, 3) := by decide +kernel
theorem dX6_turn_4 : decode cX6_turn 4 = .ok (.iload_n 1, 1) := by decide +kernel
theorem dX6_turn_5 : decode cX6_turn 5 = .ok (.invokevirtual 75, 3) := by decide +kernel
theorem dX6_turn_8 : decode cX6_turn 8 = .ok (.ifCond .ne 9, 3) := by decide +kernel
theorem dX6_turn_11 : decode cX6_turn 11 = .ok (.aload_n 0, 1) := by decide +kernel
theorem dX6_turn_12 : decode cX6_turn 12 = .ok (.iconst (-1), 1) := by decide +kernel
theorem dX6_turn_13 : decode cX6_turn 13 = .ok (.invokevirtual 56, 3) := by decide +kernel
theorem dX6_turn_16 : decode cX6_turn 16 = .ok (.ireturn, 1) := by decide +kernel
theorem dX6_turn_17 : decode cX6_turn 17 = .ok (.iload_n 2, 1) := by decide +kernel
theorem dX6_turn_18 : decode cX6_turn 18 = .ok (.ifCond .lt 9, 3) := by decide +kernel
theorem dX6_turn_21 : decode cX6_turn 21 = .ok (.iload_n 2, 1) := by decide +kernel
theorem dX6_turn_22 : decode cX6_turn 22 = .ok (.bipush 6, 2) := by decide +kernel
theorem dX6_turn_24 : decode cX6_turn 24 = .ok (.if_icmp .lt 10, 3) := by decide +kernel
theorem dX6_turn_27 : decode cX6_turn 27 = .ok (.aload_n 0, 1) := by decide +kernel
theorem dX6_turn_28 : decode cX6_turn 28 = .ok (.bipush (-2), 2) := by decide +kernel
theorem dX6_turn_30 : decode cX6_turn 30 = .ok (.invokevirtual 56, 3) := by decide +kernel
theorem dX6_turn_33 : decode cX6_turn 33 = .ok (.ireturn, 1) := by decide +kernel
theorem dX6_turn_34 : decode cX6_turn 34 = .ok (.iload_n 3, 1) := by decide +kernel
theorem dX6_turn_35 : decode cX6_turn 35 = .ok (.iconst 0, 1) := by decide +kernel
theorem dX6_turn_36 : decode cX6_turn 36 = .ok (.bipush 9, 2) := by decide +kernel
theorem dX6_turn_38 : decode cX6_turn 38 = .ok (.invokestatic 48, 3) := by decide +kernel
theorem dX6_turn_41 : decode cX6_turn 41 = .ok (.istore 4, 2) := by decide +kernel
theorem dX6_turn_43 : decode cX6_turn 43 = .ok (.iload 4, 2) := by decide +kernel
theorem dX6_turn_45 : decode cX6_turn 45 = .ok (.ifCond .eq 10, 3) := by decide +kernel
theorem dX6_turn_48 : decode cX6_turn 48 = .ok (.aload_n 0, 1) := by decide +kernel
theorem dX6_turn_49 : decode cX6_turn 49 = .ok (.iload 4, 2) := by decide +kernel
theorem dX6_turn_51 : decode cX6_turn 51 = .ok (.invokevirtual 56, 3) := by decide +kernel
theorem dX6_turn_54 : decode cX6_turn 54 = .ok (.ireturn, 1) := by decide +kernel
theorem dX6_turn_55 : decode cX6_turn 55 = .ok (.bipush 10, 2) := by decide +kernel
theorem dX6_turn_57 : decode cX6_turn 57 = .ok (.aload_n 0, 1) := by decide +kernel
theorem dX6_turn_58 : decode cX6_turn 58 = .ok (.getfield 10, 3) := by decide +kernel
theorem dX6_turn_61 : decode cX6_turn 61 = .ok (.getfield 79, 3) := by decide +kernel
theorem dX6_turn_64 : decode cX6_turn 64 = .ok (.iload_n 1, 1) := by decide +kernel
theorem dX6_turn_65 : decode cX6_turn 65 = .ok (.iaload, 1) := by decide +kernel
theorem dX6_turn_66 : decode cX6_turn 66 = .ok (.imul, 1) := by decide +kernel
theorem dX6_turn_67 : decode cX6_turn 67 = .ok (.aload_n 0, 1) := by decide +kernel
theorem dX6_turn_68 : decode cX6_turn 68 = .ok (.getfield 10, 3) := by decide +kernel
theorem dX6_turn_71 : decode cX6_turn 71 = .ok (.getfield 82, 3) := by decide +kernel
theorem dX6_turn_74 : decode cX6_turn 74 = .ok (.iload_n 1, 1) := by decide +kernel
theorem dX6_turn_75 : decode cX6_turn 75 = .ok (.iaload, 1) := by decide +kernel
theorem dX6_turn_76 : decode cX6_turn 76 = .ok (.iadd, 1) := by decide +kernel
theorem dX6_turn_77 : decode cX6_turn 77 = .ok (.istore 5, 2) := by decide +kernel
theorem dX6_turn_79 : decode cX6_turn 79 = .ok (.aload_n 0, 1) := by decide +kernel
theorem dX6_turn_80 : decode cX6_turn 80 = .ok (.getfield 10, 3) := by decide +kernel
theorem dX6_turn_83 : decode cX6_turn 83 = .ok (.getfield 79, 3) := by decide +kernel
theorem dX6_turn_86 : decode cX6_turn 86 = .ok (.iload_n 1, 1) := by decide +kernel
theorem dX6_turn_87 : decode cX6_turn 87 = .ok (.iload_n 2, 1) := by decide +kernel
theorem dX6_turn_88 : decode cX6_turn 88 = .ok (.iastore, 1) := by decide +kernel
theorem dX6_turn_89 : decode cX6_turn 89 = .ok (.aload_n 0, 1) := by decide +kernel
theorem dX6_turn_90 : decode cX6_turn 90 = .ok (.getfield 10, 3) := by decide +kernel
theorem dX6_turn_93 : decode cX6_turn 93 = .ok (.getfield 82, 3) := by decide +kernel
theorem dX6_turn_96 : decode cX6_turn 96 = .ok (.iload_n 1, 1) := by decide +kernel
theorem dX6_turn_97 : decode cX6_turn 97 = .ok (.iload_n 3, 1) := by decide +kernel
theorem dX6_turn_98 : decode cX6_turn 98 = .ok (.iastore, 1) := by decide +kernel
theorem dX6_turn_99 : decode cX6_turn 99 = .ok (.iload 5, 2) := by decide +kernel
theorem dX6_turn_101 : decode cX6_turn 101 = .ok (.ireturn, 1) := by decide +kernel
theorem dX6_hours_0 : decode cX6_hours 0 = .ok (.iload_n 1, 1) := by decide +kernel
theorem dX6_hours_1 : decode cX6_hours 1 = .ok (.iconst 1, 1) := by decide +kernel
theorem dX6_hours_2 : decode cX6_hours 2 = .ok (.bipush 60, 2) := by decide +kernel
theorem dX6_hours_4 : decode cX6_hours 4 = .ok (.invokestatic 48, 3) := by decide +kernel
theorem dX6_hours_7 : decode cX6_hours 7 = .ok (.istore_n 2, 1) := by decide +kernel
theorem dX6_hours_8 : decode cX6_hours 8 = .ok (.iload_n 2, 1) := by decide +kernel
theorem dX6_hours_9 : decode cX6_hours 9 = .ok (.ifCond .ne 21, 3) := by decide +kernel
theorem dX6_hours_12 : decode cX6_hours 12 = .ok (.aload_n 0, 1) := by decide +kernel
theorem dX6_hours_13 : decode cX6_hours 13 = .ok (.getfield 10, 3) := by decide +kernel
theorem dX6_hours_16 : decode cX6_hours 16 = .ok (.getfield 126, 3) := by decide +kernel
theorem dX6_hours_19 : decode cX6_hours 19 = .ok (.iload_n 1, 1) := by decide +kernel
theorem dX6_hours_20 : decode cX6_hours 20 = .ok (.iadd, 1) := by decide +kernel
theorem dX6_hours_21 : decode cX6_hours 21 = .ok (.sipush 999, 3) := by decide +kernel
theorem dX6_hours_24 : decode cX6_hours 24 = .ok (.if_icmp .le 6, 3) := by decide +kernel
theorem dX6_hours_27 : decode cX6_hours 27 = .ok (.bipush (-6), 2) := by decide +kernel
theorem dX6_hours_29 : decode cX6_hours 29 = .ok (.istore_n 2, 1) := by decide +kernel
theorem dX6_hours_30 : decode cX6_hours 30 = .ok (.iload_n 2, 1) := by decide +kernel
theorem dX6_hours_31 : decode cX6_hours 31 = .ok (.ifCond .eq 9, 3) := by decide +kernel
theorem dX6_hours_34 : decode cX6_hours 34 = .ok (.aload_n 0, 1) := by decide +kernel
theorem dX6_hours_35 : decode cX6_hours 35 = .ok (.iload_n 2, 1) := by decide +kernel
theorem dX6_hours_36 : decode cX6_hours 36 = .ok (.invokevirtual 56, 3) := by decide +kernel
theorem dX6_hours_39 : decode cX6_hours 39 = .ok (.ireturn, 1) := by decide +kernel
theorem dX6_hours_40 : decode cX6_hours 40 = .ok (.aload_n 0, 1) := by decide +kernel
theorem dX6_hours_41 : decode cX6_hours 41 = .ok (.getfield 10, 3) := by decide +kernel
theorem dX6_hours_44 : decode cX6_hours 44 = .ok (.iload_n 1, 1) := by decide +kernel
theorem dX6_hours_45 : decode cX6_hours 45 = .ok (.invokevirtual 129, 3) := by decide +kernel
theorem dX6_hours_48 : decode cX6_hours 48 = .ok (.aload_n 0, 1) := by decide +kernel
theorem dX6_hours_49 : decode cX6_hours 49 = .ok (.getfield 10, 3) := by decide +kernel
theorem dX6_hours_52 : decode cX6_hours 52 = .ok (.invokevirtual 133, 3) := by decide +kernel
theorem dX6_hours_55 : decode cX6_hours 55 = .ok (.ireturn, 1) := by decide +kernel
theorem dX6_thingThen_0 : decode cX6_thingThen 0 = .ok (.aload_n 0, 1) := by decide +kernel
theorem dX6_thingThen_1 : decode cX6_thingThen 1 = .ok (.iload_n 1, 1) := by decide +kernel
theorem dX6_thingThen_2 : decode cX6_thingThen 2 = .ok (.iload_n 2, 1) := by decide +kernel
theorem dX6_thingThen_3 : decode cX6_thingThen 3 = .ok (.bipush 99, 2) := by decide +kernel
theorem dX6_thingThen_5 : decode cX6_thingThen 5 = .ok (.invokevirtual 123, 3) := by decide +kernel
theorem dX6_thingThen_8 : decode cX6_thingThen 8 = .ok (.istore 4, 2) := by decide +kernel
theorem dX6_thingThen_10 : decode cX6_thingThen 10 = .ok (.iload 4, 2) := by decide +kernel
theorem dX6_thingThen_12 : decode cX6_thingThen 12 = .ok (.ifCond .ne 16, 3) := by decide +kernel
theorem dX6_thingThen_15 : decode cX6_thingThen 15 = .ok (.iload_n 3, 1) := by decide +kernel
theorem dX6_thingThen_16 : decode cX6_thingThen 16 = .ok (.ifCond .eq 12, 3) := by decide +kernel
theorem dX6_thingThen_19 : decode cX6_thingThen 19 = .ok (.iload_n 3, 1) := by decide +kernel
theorem dX6_thingThen_20 : decode cX6_thingThen 20 = .ok (.iconst 1, 1) := by decide +kernel
theorem dX6_thingThen_21 : decode cX6_thingThen 21 = .ok (.if_icmp .eq 7, 3) := by decide +kernel
theorem dX6_thingThen_24 : decode cX6_thingThen 24 = .ok (.bipush (-2), 2) := by decide +kernel
theorem dX6_thingThen_26 : decode cX6_thingThen 26 = .ok (.istore 4, 2) := by decide +kernel
theorem dX6_thingThen_28 : decode cX6_thingThen 28 = .ok (.iload 4, 2) := by decide +kernel
theorem dX6_thingThen_30 : decode cX6_thingThen 30 = .ok (.ifCond .eq 10, 3) := by decide +kernel
theorem dX6_thingThen_33 : decode cX6_thingThen 33 = .ok (.aload_n 0, 1) := by decide +kernel
theorem dX6_thingThen_34 : decode cX6_thingThen 34 = .ok (.iload 4, 2) := by decide +kernel
theorem dX6_thingThen_36 : decode cX6_thingThen 36 = .ok (.invokevirtual 56, 3) := by decide +kernel
theorem dX6_thingThen_39 : decode cX6_thingThen 39 = .ok (.ireturn, 1) := by decide +kernel
theorem dX6_thingThen_40 : decode cX6_thingThen 40 = .ok (.aload_n 0, 1) := by decide +kernel
theorem dX6_thingThen_41 : decode cX6_thingThen 41 = .ok (.getfield 40, 3) := by decide +kernel
theorem dX6_thingThen_44 : decode cX6_thingThen 44 = .ok (.aload_n 0, 1) := by decide +kernel
theorem dX6_thingThen_45 : decode cX6_thingThen 45 = .ok (.getfield 10, 3) := by decide +kernel
theorem dX6_thingThen_48 : decode cX6_thingThen 48 = .ok (.iload_n 2, 1) := by decide +kernel
theorem dX6_thingThen_49 : decode cX6_thingThen 49 = .ok (.invokevirtual 137, 3) := by decide +kernel
theorem dX6_thingThen_52 : decode cX6_thingThen 52 = .ok (.astore 5, 2) := by decide +kernel
theorem dX6_thingThen_54 : decode cX6_thingThen 54 = .ok (.iload_n 3, 1) := by decide +kernel
theorem dX6_thingThen_55 : decode cX6_thingThen 55 = .ok (.ifCond .ne 13, 3) := by decide +kernel
theorem dX6_thingThen_58 : decode cX6_thingThen 58 = .ok (.aload 5, 2) := by decide +kernel
theorem dX6_thingThen_60 : decode cX6_thingThen 60 = .ok (.getfield 91, 3) := by decide +kernel
theorem dX6_thingThen_63 : decode cX6_thingThen 63 = .ok (.iload_n 1, 1) := by decide +kernel
theorem dX6_thingThen_64 : decode cX6_thingThen 64 = .ok (.iaload, 1) := by decide +kernel
theorem dX6_thingThen_65 : decode cX6_thingThen 65 = .ok (.goto 9, 3) := by decide +kernel
theorem dX6_thingThen_68 : decode cX6_thingThen 68 = .ok (.aload 5, 2) := by decide +kernel
theorem dX6_thingThen_70 : decode cX6_thingThen 70 = .ok (.iload_n 1, 1) := by decide +kernel
theorem dX6_thingThen_71 : decode cX6_thingThen 71 = .ok (.invokevirtual 94, 3) := by decide +kernel
theorem dX6_thingThen_74 : decode cX6_thingThen 74 = .ok (.ireturn, 1) := by decide +kernel
theorem dX6_ropeThen_0 : decode cX6_ropeThen 0 = .ok (.aload_n 0, 1) := by decide +kernel
theorem dX6_ropeThen_1 : decode cX6_ropeThen 1 = .ok (.getfield 10, 3) := by decide +kernel
theorem dX6_ropeThen_4 : decode cX6_ropeThen 4 = .ok (.iload_n 1, 1) := by decide +kernel
theorem dX6_ropeThen_5 : decode cX6_ropeThen 5 = .ok (.invokevirtual 97, 3) := by decide +kernel
theorem dX6_ropeThen_8 : decode cX6_ropeThen 8 = .ok (.ifCond .ne 9, 3) := by decide +kernel
theorem dX6_ropeThen_11 : decode cX6_ropeThen 11 = .ok (.aload_n 0, 1) := by decide +kernel
theorem dX6_ropeThen_12 : decode cX6_ropeThen 12 = .ok (.iconst (-1), 1) := by decide +kernel
theorem dX6_ropeThen_13 : decode cX6_ropeThen 13 = .ok (.invokevirtual 56, 3) := by decide +kernel
theorem dX6_ropeThen_16 : decode cX6_ropeThen 16 = .ok (.ireturn, 1) := by decide +kernel
theorem dX6_ropeThen_17 : decode cX6_ropeThen 17 = .ok (.iload_n 2, 1) := by decide +kernel
theorem dX6_ropeThen_18 : decode cX6_ropeThen 18 = .ok (.iconst 0, 1) := by decide +kernel
theorem dX6_ropeThen_19 : decode cX6_ropeThen 19 = .ok (.bipush 99, 2) := by decide +kernel
theorem dX6_ropeThen_21 : decode cX6_ropeThen 21 = .ok (.invokestatic 48, 3) := by decide +kernel
theorem dX6_ropeThen_24 : decode cX6_ropeThen 24 = .ok (.istore_n 3, 1) := by decide +kernel
theorem dX6_ropeThen_25 : decode cX6_ropeThen 25 = .ok (.iload_n 3, 1) := by decide +kernel
theorem dX6_ropeThen_26 : decode cX6_ropeThen 26 = .ok (.ifCond .eq 9, 3) := by decide +kernel
theorem dX6_ropeThen_29 : decode cX6_ropeThen 29 = .ok (.aload_n 0, 1) := by decide +kernel
theorem dX6_ropeThen_30 : decode cX6_ropeThen 30 = .ok (.iload_n 3, 1) := by decide +kernel
theorem dX6_ropeThen_31 : decode cX6_ropeThen 31 = .ok (.invokevirtual 56, 3) := by decide +kernel
theorem dX6_ropeThen_34 : decode cX6_ropeThen 34 = .ok (.ireturn, 1) := by decide +kernel
theorem dX6_ropeThen_35 : decode cX6_ropeThen 35 = .ok (.aload_n 0, 1) := by decide +kernel
theorem dX6_ropeThen_36 : decode cX6_ropeThen 36 = .ok (.getfield 40, 3) := by decide +kernel
theorem dX6_ropeThen_39 : decode cX6_ropeThen 39 = .ok (.aload_n 0, 1) := by decide +kernel
theorem dX6_ropeThen_40 : decode cX6_ropeThen 40 = .ok (.getfield 10, 3) := by decide +kernel
theorem dX6_ropeThen_43 : decode cX6_ropeThen 43 = .ok (.iload_n 2, 1) := by decide +kernel
theorem dX6_ropeThen_44 : decode cX6_ropeThen 44 = .ok (.invokevirtual 137, 3) := by decide +kernel
theorem dX6_ropeThen_47 : decode cX6_ropeThen 47 = .ok (.iload_n 1, 1) := by decide +kernel
theorem dX6_ropeThen_48 : decode cX6_ropeThen 48 = .ok (.invokevirtual 106, 3) := by decide +kernel
theorem dX6_ropeThen_51 : decode cX6_ropeThen 51 = .ok (.ireturn, 1) := by decide +kernel
theorem dX6_up_0 : decode cX6_up 0 = .ok (.aload_n 0, 1) := by decide +kernel
theorem dX6_up_1 : decode cX6_up 1 = .ok (.iload_n 1, 1) := by decide +kernel
theorem dX6_up_2 : decode cX6_up 2 = .ok (.iload_n 2, 1) := by decide +kernel
theorem dX6_up_3 : decode cX6_up 3 = .ok (.bipush 20, 2) := by decide +kernel
theorem dX6_up_5 : decode cX6_up 5 = .ok (.invokevirtual 123, 3) := by decide +kernel
theorem dX6_up_8 : decode cX6_up 8 = .ok (.istore_n 3, 1) := by decide +kernel
theorem dX6_up_9 : decode cX6_up 9 = .ok (.iload_n 3, 1) := by decide +kernel
theorem dX6_up_10 : decode cX6_up 10 = .ok (.ifCond .eq 9, 3) := by decide +kernel
theorem dX6_up_13 : decode cX6_up 13 = .ok (.aload_n 0, 1) := by decide +kernel
theorem dX6_up_14 : decode cX6_up 14 = .ok (.iload_n 3, 1) := by decide +kernel
theorem dX6_up_15 : decode cX6_up 15 = .ok (.invokevirtual 56, 3) := by decide +kernel
theorem dX6_up_18 : decode cX6_up 18 = .ok (.ireturn, 1) := by decide +kernel
theorem dX6_up_19 : decode cX6_up 19 = .ok (.aload_n 0, 1) := by decide +kernel
theorem dX6_up_20 : decode cX6_up 20 = .ok (.getfield 40, 3) := by decide +kernel
theorem dX6_up_23 : decode cX6_up 23 = .ok (.aload_n 0, 1) := by decide +kernel
theorem dX6_up_24 : decode cX6_up 24 = .ok (.getfield 10, 3) := by decide +kernel
theorem dX6_up_27 : decode cX6_up 27 = .ok (.iload_n 1, 1) := by decide +kernel
theorem dX6_up_28 : decode cX6_up 28 = .ok (.iload_n 2, 1) := by decide +kernel
theorem dX6_up_29 : decode cX6_up 29 = .ok (.invokevirtual 141, 3) := by decide +kernel
theorem dX6_up_32 : decode cX6_up 32 = .ok (.ireturn, 1) := by decide +kernel
theorem dX6_first_0 : decode cX6_first 0 = .ok (.iload_n 1, 1) := by decide +kernel
theorem dX6_first_1 : decode cX6_first 1 = .ok (.tableswitch 63 0 2 #[27, 39, 51], 27) := by decide +kernel
theorem dX6_first_28 : decode cX6_first 28 = .ok (.aload_n 0, 1) := by decide +kernel
theorem dX6_first_29 : decode cX6_first 29 = .ok (.getfield 40, 3) := by decide +kernel
theorem dX6_first_32 : decode cX6_first 32 = .ok (.aload_n 0, 1) := by decide +kernel
theorem dX6_first_33 : decode cX6_first 33 = .ok (.getfield 10, 3) := by decide +kernel
theorem dX6_first_36 : decode cX6_first 36 = .ok (.invokevirtual 145, 3) := by decide +kernel
theorem dX6_first_39 : decode cX6_first 39 = .ok (.ireturn, 1) := by decide +kernel
theorem dX6_first_40 : decode cX6_first 40 = .ok (.aload_n 0, 1) := by decide +kernel
theorem dX6_first_41 : decode cX6_first 41 = .ok (.getfield 40, 3) := by decide +kernel
theorem dX6_first_44 : decode cX6_first 44 = .ok (.aload_n 0, 1) := by decide +kernel
theorem dX6_first_45 : decode cX6_first 45 = .ok (.getfield 10, 3) := by decide +kernel
theorem dX6_first_48 : decode cX6_first 48 = .ok (.invokevirtual 148, 3) := by decide +kernel
theorem dX6_first_51 : decode cX6_first 51 = .ok (.ireturn, 1) := by decide +kernel
theorem dX6_first_52 : decode cX6_first 52 = .ok (.aload_n 0, 1) := by decide +kernel
theorem dX6_first_53 : decode cX6_first 53 = .ok (.getfield 40, 3) := by decide +kernel
theorem dX6_first_56 : decode cX6_first 56 = .ok (.aload_n 0, 1) := by decide +kernel
theorem dX6_first_57 : decode cX6_first 57 = .ok (.getfield 10, 3) := by decide +kernel
theorem dX6_first_60 : decode cX6_first 60 = .ok (.invokevirtual 151, 3) := by decide +kernel
theorem dX6_first_63 : decode cX6_first 63 = .ok (.ireturn, 1) := by decide +kernel
theorem dX6_first_64 : decode cX6_first 64 = .ok (.aload_n 0, 1) := by decide +kernel
theorem dX6_first_65 : decode cX6_first 65 = .ok (.bipush (-2), 2) := by decide +kernel
theorem dX6_first_67 : decode cX6_first 67 = .ok (.invokevirtual 56, 3) := by decide +kernel
theorem dX6_first_70 : decode cX6_first 70 = .ok (.ireturn, 1) := by decide +kernel
theorem dX6_changes_0 : decode cX6_changes 0 = .ok (.aload_n 0, 1) := by decide +kernel
theorem dX6_changes_1 : decode cX6_changes 1 = .ok (.getfield 10, 3) := by decide +kernel
theorem dX6_changes_4 : decode cX6_changes 4 = .ok (.iload_n 1, 1) := by decide +kernel
theorem dX6_changes_5 : decode cX6_changes 5 = .ok (.invokevirtual 97, 3) := by decide +kernel
theorem dX6_changes_8 : decode cX6_changes 8 = .ok (.ifCond .ne 9, 3) := by decide +kernel
theorem dX6_changes_11 : decode cX6_changes 11 = .ok (.aload_n 0, 1) := by decide +kernel
theorem dX6_changes_12 : decode cX6_changes 12 = .ok (.iconst (-1), 1) := by decide +kernel
theorem dX6_changes_13 : decode cX6_changes 13 = .ok (.invokevirtual 56, 3) := by decide +kernel
theorem dX6_changes_16 : decode cX6_changes 16 = .ok (.ireturn, 1) := by decide +kernel
theorem dX6_changes_17 : decode cX6_changes 17 = .ok (.aload_n 0, 1) := by decide +kernel
theorem dX6_changes_18 : decode cX6_changes 18 = .ok (.getfield 40, 3) := by decide +kernel
theorem dX6_changes_21 : decode cX6_changes 21 = .ok (.aload_n 0, 1) := by decide +kernel
theorem dX6_changes_22 : decode cX6_changes 22 = .ok (.getfield 10, 3) := by decide +kernel
theorem dX6_changes_25 : decode cX6_changes 25 = .ok (.iload_n 1, 1) := by decide +kernel
theorem dX6_changes_26 : decode cX6_changes 26 = .ok (.invokevirtual 154, 3) := by decide +kernel
theorem dX6_changes_29 : decode cX6_changes 29 = .ok (.ireturn, 1) := by decide +kernel
theorem dX6_throwsDown_0 : decode cX6_throwsDown 0 = .ok (.aload_n 0, 1) := by decide +kernel
theorem dX6_throwsDown_1 : decode cX6_throwsDown 1 = .ok (.iload_n 1, 1) := by decide +kernel
theorem dX6_throwsDown_2 : decode cX6_throwsDown 2 = .ok (.iload_n 2, 1) := by decide +kernel
theorem dX6_throwsDown_3 : decode cX6_throwsDown 3 = .ok (.iload_n 3, 1) := by decide +kernel
theorem dX6_throwsDown_4 : decode cX6_throwsDown 4 = .ok (.invokevirtual 158, 3) := by decide +kernel
theorem dX6_throwsDown_7 : decode cX6_throwsDown 7 = .ok (.istore 4, 2) := by decide +kernel
theorem dX6_throwsDown_9 : decode cX6_throwsDown 9 = .ok (.iload 4, 2) := by decide +kernel
theorem dX6_throwsDown_11 : decode cX6_throwsDown 11 = .ok (.ifCond .eq 10, 3) := by decide +kernel
theorem dX6_throwsDown_14 : decode cX6_throwsDown 14 = .ok (.aload_n 0, 1) := by decide +kernel
theorem dX6_throwsDown_15 : decode cX6_throwsDown 15 = .ok (.iload 4, 2) := by decide +kernel
theorem dX6_throwsDown_17 : decode cX6_throwsDown 17 = .ok (.invokevirtual 56, 3) := by decide +kernel
theorem dX6_throwsDown_20 : decode cX6_throwsDown 20 = .ok (.ireturn, 1) := by decide +kernel
theorem dX6_throwsDown_21 : decode cX6_throwsDown 21 = .ok (.aload_n 0, 1) := by decide +kernel
theorem dX6_throwsDown_22 : decode cX6_throwsDown 22 = .ok (.getfield 40, 3) := by decide +kernel
theorem dX6_throwsDown_25 : decode cX6_throwsDown 25 = .ok (.aload_n 0, 1) := by decide +kernel
theorem dX6_throwsDown_26 : decode cX6_throwsDown 26 = .ok (.getfield 10, 3) := by decide +kernel
theorem dX6_throwsDown_29 : decode cX6_throwsDown 29 = .ok (.iload_n 1, 1) := by decide +kernel
theorem dX6_throwsDown_30 : decode cX6_throwsDown 30 = .ok (.iload_n 2, 1) := by decide +kernel
theorem dX6_throwsDown_31 : decode cX6_throwsDown 31 = .ok (.iload_n 3, 1) := by decide +kernel
theorem dX6_throwsDown_32 : decode cX6_throwsDown 32 = .ok (.invokevirtual 161, 3) := by decide +kernel
theorem dX6_throwsDown_35 : decode cX6_throwsDown 35 = .ok (.ireturn, 1) := by decide +kernel
theorem dX6_takesUp_0 : decode cX6_takesUp 0 = .ok (.aload_n 0, 1) := by decide +kernel
theorem dX6_takesUp_1 : decode cX6_takesUp 1 = .ok (.iload_n 1, 1) := by decide +kernel
theorem dX6_takesUp_2 : decode cX6_takesUp 2 = .ok (.iload_n 2, 1) := by decide +kernel
theorem dX6_takesUp_3 : decode cX6_takesUp 3 = .ok (.iload_n 3, 1) := by decide +kernel
theorem dX6_takesUp_4 : decode cX6_takesUp 4 = .ok (.invokevirtual 158, 3) := by decide +kernel
theorem dX6_takesUp_7 : decode cX6_takesUp 7 = .ok (.istore 4, 2) := by decide +kernel
theorem dX6_takesUp_9 : decode cX6_takesUp 9 = .ok (.iload 4, 2) := by decide +kernel
theorem dX6_takesUp_11 : decode cX6_takesUp 11 = .ok (.ifCond .eq 10, 3) := by decide +kernel
theorem dX6_takesUp_14 : decode cX6_takesUp 14 = .ok (.aload_n 0, 1) := by decide +kernel
theorem dX6_takesUp_15 : decode cX6_takesUp 15 = .ok (.iload 4, 2) := by decide +kernel
theorem dX6_takesUp_17 : decode cX6_takesUp 17 = .ok (.invokevirtual 56, 3) := by decide +kernel
theorem dX6_takesUp_20 : decode cX6_takesUp 20 = .ok (.ireturn, 1) := by decide +kernel
theorem dX6_takesUp_21 : decode cX6_takesUp 21 = .ok (.aload_n 0, 1) := by decide +kernel
theorem dX6_takesUp_22 : decode cX6_takesUp 22 = .ok (.getfield 40, 3) := by decide +kernel
theorem dX6_takesUp_25 : decode cX6_takesUp 25 = .ok (.aload_n 0, 1) := by decide +kernel
theorem dX6_takesUp_26 : decode cX6_takesUp 26 = .ok (.getfield 10, 3) := by decide +kernel
theorem dX6_takesUp_29 : decode cX6_takesUp 29 = .ok (.iload_n 1, 1) := by decide +kernel
theorem dX6_takesUp_30 : decode cX6_takesUp 30 = .ok (.iload_n 2, 1) := by decide +kernel
theorem dX6_takesUp_31 : decode cX6_takesUp 31 = .ok (.iload_n 3, 1) := by decide +kernel
theorem dX6_takesUp_32 : decode cX6_takesUp 32 = .ok (.invokevirtual 165, 3) := by decide +kernel
theorem dX6_takesUp_35 : decode cX6_takesUp 35 = .ok (.ireturn, 1) := by decide +kernel
theorem dX6_bestTie_0 : decode cX6_bestTie 0 = .ok (.aload_n 0, 1) := by decide +kernel
theorem dX6_bestTie_1 : decode cX6_bestTie 1 = .ok (.iload_n 1, 1) := by decide +kernel
theorem dX6_bestTie_2 : decode cX6_bestTie 2 = .ok (.iload_n 2, 1) := by decide +kernel
theorem dX6_bestTie_3 : decode cX6_bestTie 3 = .ok (.bipush 30, 2) := by decide +kernel
theorem dX6_bestTie_5 : decode cX6_bestTie 5 = .ok (.invokevirtual 123, 3) := by decide +kernel
theorem dX6_bestTie_8 : decode cX6_bestTie 8 = .ok (.istore_n 3, 1) := by decide +kernel
theorem dX6_bestTie_9 : decode cX6_bestTie 9 = .ok (.iload_n 3, 1) := by decide +kernel
theorem dX6_bestTie_10 : decode cX6_bestTie 10 = .ok (.ifCond .eq 9, 3) := by decide +kernel
theorem dX6_bestTie_13 : decode cX6_bestTie 13 = .ok (.aload_n 0, 1) := by decide +kernel
theorem dX6_bestTie_14 : decode cX6_bestTie 14 = .ok (.iload_n 3, 1) := by decide +kernel
theorem dX6_bestTie_15 : decode cX6_bestTie 15 = .ok (.invokevirtual 56, 3) := by decide +kernel
theorem dX6_bestTie_18 : decode cX6_bestTie 18 = .ok (.ireturn, 1) := by decide +kernel
theorem dX6_bestTie_19 : decode cX6_bestTie 19 = .ok (.aload_n 0, 1) := by decide +kernel
theorem dX6_bestTie_20 : decode cX6_bestTie 20 = .ok (.getfield 40, 3) := by decide +kernel
theorem dX6_bestTie_23 : decode cX6_bestTie 23 = .ok (.aload_n 0, 1) := by decide +kernel
theorem dX6_bestTie_24 : decode cX6_bestTie 24 = .ok (.getfield 10, 3) := by decide +kernel
theorem dX6_bestTie_27 : decode cX6_bestTie 27 = .ok (.iload_n 1, 1) := by decide +kernel
theorem dX6_bestTie_28 : decode cX6_bestTie 28 = .ok (.iload_n 2, 1) := by decide +kernel
theorem dX6_bestTie_29 : decode cX6_bestTie 29 = .ok (.invokevirtual 168, 3) := by decide +kernel
theorem dX6_bestTie_32 : decode cX6_bestTie 32 = .ok (.ireturn, 1) := by decide +kernel
theorem dX6_bestCut_0 : decode cX6_bestCut 0 = .ok (.aload_n 0, 1) := by decide +kernel
theorem dX6_bestCut_1 : decode cX6_bestCut 1 = .ok (.iload_n 1, 1) := by decide +kernel
theorem dX6_bestCut_2 : decode cX6_bestCut 2 = .ok (.iload_n 2, 1) := by decide +kernel
theorem dX6_bestCut_3 : decode cX6_bestCut 3 = .ok (.bipush 30, 2) := by decide +kernel
theorem dX6_bestCut_5 : decode cX6_bestCut 5 = .ok (.invokevirtual 123, 3) := by decide +kernel
theorem dX6_bestCut_8 : decode cX6_bestCut 8 = .ok (.istore_n 3, 1) := by decide +kernel
theorem dX6_bestCut_9 : decode cX6_bestCut 9 = .ok (.iload_n 3, 1) := by decide +kernel
theorem dX6_bestCut_10 : decode cX6_bestCut 10 = .ok (.ifCond .eq 9, 3) := by decide +kernel
theorem dX6_bestCut_13 : decode cX6_bestCut 13 = .ok (.aload_n 0, 1) := by decide +kernel
theorem dX6_bestCut_14 : decode cX6_bestCut 14 = .ok (.iload_n 3, 1) := by decide +kernel
theorem dX6_bestCut_15 : decode cX6_bestCut 15 = .ok (.invokevirtual 56, 3) := by decide +kernel
theorem dX6_bestCut_18 : decode cX6_bestCut 18 = .ok (.ireturn, 1) := by decide +kernel
theorem dX6_bestCut_19 : decode cX6_bestCut 19 = .ok (.aload_n 0, 1) := by decide +kernel
theorem dX6_bestCut_20 : decode cX6_bestCut 20 = .ok (.getfield 40, 3) := by decide +kernel
theorem dX6_bestCut_23 : decode cX6_bestCut 23 = .ok (.aload_n 0, 1) := by decide +kernel
theorem dX6_bestCut_24 : decode cX6_bestCut 24 = .ok (.getfield 10, 3) := by decide +kernel
theorem dX6_bestCut_27 : decode cX6_bestCut 27 = .ok (.iload_n 1, 1) := by decide +kernel
theorem dX6_bestCut_28 : decode cX6_bestCut 28 = .ok (.iload_n 2, 1) := by decide +kernel
theorem dX6_bestCut_29 : decode cX6_bestCut 29 = .ok (.invokevirtual 171, 3) := by decide +kernel
theorem dX6_bestCut_32 : decode cX6_bestCut 32 = .ok (.ireturn, 1) := by decide +kernel
theorem dX6_bestStone_0 : decode cX6_bestStone 0 = .ok (.iload_n 1, 1) := by decide +kernel
theorem dX6_bestStone_1 : decode cX6_bestStone 1 = .ok (.iconst 0, 1) := by decide +kernel
theorem dX6_bestStone_2 : decode cX6_bestStone 2 = .ok (.bipush 30, 2) := by decide +kernel
theorem dX6_bestStone_4 : decode cX6_bestStone 4 = .ok (.invokestatic 48, 3) := by decide +kernel
theorem dX6_bestStone_7 : decode cX6_bestStone 7 = .ok (.istore_n 2, 1) := by decide +kernel
theorem dX6_bestStone_8 : decode cX6_bestStone 8 = .ok (.iload_n 2, 1) := by decide +kernel
theorem dX6_bestStone_9 : decode cX6_bestStone 9 = .ok (.ifCond .eq 9, 3) := by decide +kernel
theorem dX6_bestStone_12 : decode cX6_bestStone 12 = .ok (.aload_n 0, 1) := by decide +kernel
theorem dX6_bestStone_13 : decode cX6_bestStone 13 = .ok (.iload_n 2, 1) := by decide +kernel
theorem dX6_bestStone_14 : decode cX6_bestStone 14 = .ok (.invokevirtual 56, 3) := by decide +kernel
theorem dX6_bestStone_17 : decode cX6_bestStone 17 = .ok (.ireturn, 1) := by decide +kernel
theorem dX6_bestStone_18 : decode cX6_bestStone 18 = .ok (.aload_n 0, 1) := by decide +kernel
theorem dX6_bestStone_19 : decode cX6_bestStone 19 = .ok (.getfield 40, 3) := by decide +kernel
theorem dX6_bestStone_22 : decode cX6_bestStone 22 = .ok (.aload_n 0, 1) := by decide +kernel
theorem dX6_bestStone_23 : decode cX6_bestStone 23 = .ok (.getfield 10, 3) := by decide +kernel
theorem dX6_bestStone_26 : decode cX6_bestStone 26 = .ok (.iload_n 1, 1) := by decide +kernel
theorem dX6_bestStone_27 : decode cX6_bestStone 27 = .ok (.invokevirtual 174, 3) := by decide +kernel
theorem dX6_bestStone_30 : decode cX6_bestStone 30 = .ok (.ireturn, 1) := by decide +kernel
theorem dX6_rows_0 : decode cX6_rows 0 = .ok (.iload_n 1, 1) := by decide +kernel
theorem dX6_rows_1 : decode cX6_rows 1 = .ok (.ifCond .ge 10, 3) := by decide +kernel
theorem dX6_rows_4 : decode cX6_rows 4 = .ok (.aload_n 0, 1) := by decide +kernel
theorem dX6_rows_5 : decode cX6_rows 5 = .ok (.bipush (-4), 2) := by decide +kernel
theorem dX6_rows_7 : decode cX6_rows 7 = .ok (.invokevirtual 56, 3) := by decide +kernel
theorem dX6_rows_10 : decode cX6_rows 10 = .ok (.ireturn, 1) := by decide +kernel
theorem dX6_rows_11 : decode cX6_rows 11 = .ok (.aload_n 0, 1) := by decide +kernel
theorem dX6_rows_12 : decode cX6_rows 12 = .ok (.getfield 10, 3) := by decide +kernel
theorem dX6_rows_15 : decode cX6_rows 15 = .ok (.iload_n 1, 1) := by decide +kernel
theorem dX6_rows_16 : decode cX6_rows 16 = .ok (.invokestatic 177, 3) := by decide +kernel
theorem dX6_rows_19 : decode cX6_rows 19 = .ok (.ireturn, 1) := by decide +kernel
theorem dX6_between_0 : decode cX6_between 0 = .ok (.aload_n 0, 1) := by decide +kernel
theorem dX6_between_1 : decode cX6_between 1 = .ok (.getfield 10, 3) := by decide +kernel
theorem dX6_between_4 : decode cX6_between 4 = .ok (.iload_n 1, 1) := by decide +kernel
theorem dX6_between_5 : decode cX6_between 5 = .ok (.iload_n 2, 1) := by decide +kernel
theorem dX6_between_6 : decode cX6_between 6 = .ok (.invokevirtual 109, 3) := by decide +kernel
theorem dX6_between_9 : decode cX6_between 9 = .ok (.ifCond .ne 9, 3) := by decide +kernel
theorem dX6_between_12 : decode cX6_between 12 = .ok (.aload_n 0, 1) := by decide +kernel
theorem dX6_between_13 : decode cX6_between 13 = .ok (.iconst (-1), 1) := by decide +kernel
theorem dX6_between_14 : decode cX6_between 14 = .ok (.invokevirtual 56, 3) := by decide +kernel
theorem dX6_between_17 : decode cX6_between 17 = .ok (.ireturn, 1) := by decide +kernel
theorem dX6_between_18 : decode cX6_between 18 = .ok (.aload_n 0, 1) := by decide +kernel
theorem dX6_between_19 : decode cX6_between 19 = .ok (.getfield 10, 3) := by decide +kernel
theorem dX6_between_22 : decode cX6_between 22 = .ok (.iload_n 1, 1) := by decide +kernel
theorem dX6_between_23 : decode cX6_between 23 = .ok (.iload_n 2, 1) := by decide +kernel
theorem dX6_between_24 : decode cX6_between 24 = .ok (.invokestatic 182, 3) := by decide +kernel
theorem dX6_between_27 : decode cX6_between 27 = .ok (.ireturn, 1) := by decide +kernel
theorem dX6_balance_0 : decode cX6_balance 0 = .ok (.aload_n 0, 1) := by decide +kernel
theorem dX6_balance_1 : decode cX6_balance 1 = .ok (.getfield 10, 3) := by decide +kernel
theorem dX6_balance_4 : decode cX6_balance 4 = .ok (.iload_n 1, 1) := by decide +kernel
theorem dX6_balance_5 : decode cX6_balance 5 = .ok (.invokevirtual 75, 3) := by decide +kernel
theorem dX6_balance_8 : decode cX6_balance 8 = .ok (.ifCond .ne 9, 3) := by decide +kernel
theorem dX6_balance_11 : decode cX6_balance 11 = .ok (.aload_n 0, 1) := by decide +kernel
theorem dX6_balance_12 : decode cX6_balance 12 = .ok (.iconst (-1), 1) := by decide +kernel
theorem dX6_balance_13 : decode cX6_balance 13 = .ok (.invokevirtual 56, 3) := by decide +kernel
theorem dX6_balance_16 : decode cX6_balance 16 = .ok (.ireturn, 1) := by decide +kernel
theorem dX6_balance_17 : decode cX6_balance 17 = .ok (.aload_n 0, 1) := by decide +kernel
theorem dX6_balance_18 : decode cX6_balance 18 = .ok (.getfield 10, 3) := by decide +kernel
theorem dX6_balance_21 : decode cX6_balance 21 = .ok (.iload_n 1, 1) := by decide +kernel
theorem dX6_balance_22 : decode cX6_balance 22 = .ok (.invokestatic 185, 3) := by decide +kernel
theorem dX6_balance_25 : decode cX6_balance 25 = .ok (.ireturn, 1) := by decide +kernel
theorem dX6_nearest_0 : decode cX6_nearest 0 = .ok (.aload_n 0, 1) := by decide +kernel
theorem dX6_nearest_1 : decode cX6_nearest 1 = .ok (.getfield 10, 3) := by decide +kernel
theorem dX6_nearest_4 : decode cX6_nearest 4 = .ok (.iload_n 1, 1) := by decide +kernel
theorem dX6_nearest_5 : decode cX6_nearest 5 = .ok (.invokevirtual 75, 3) := by decide +kernel
theorem dX6_nearest_8 : decode cX6_nearest 8 = .ok (.ifCond .ne 9, 3) := by decide +kernel
theorem dX6_nearest_11 : decode cX6_nearest 11 = .ok (.aload_n 0, 1) := by decide +kernel
theorem dX6_nearest_12 : decode cX6_nearest 12 = .ok (.iconst (-1), 1) := by decide +kernel
theorem dX6_nearest_13 : decode cX6_nearest 13 = .ok (.invokevirtual 56, 3) := by decide +kernel
theorem dX6_nearest_16 : decode cX6_nearest 16 = .ok (.ireturn, 1) := by decide +kernel
theorem dX6_nearest_17 : decode cX6_nearest 17 = .ok (.aload_n 0, 1) := by decide +kernel
theorem dX6_nearest_18 : decode cX6_nearest 18 = .ok (.getfield 10, 3) := by decide +kernel
theorem dX6_nearest_21 : decode cX6_nearest 21 = .ok (.iload_n 1, 1) := by decide +kernel
theorem dX6_nearest_22 : decode cX6_nearest 22 = .ok (.invokestatic 188, 3) := by decide +kernel
theorem dX6_nearest_25 : decode cX6_nearest 25 = .ok (.ireturn, 1) := by decide +kernel
theorem dX6_sides_0 : decode cX6_sides 0 = .ok (.iload_n 1, 1) := by decide +kernel
theorem dX6_sides_1 : decode cX6_sides 1 = .ok (.ifCond .eq 15, 3) := by decide +kernel
theorem dX6_sides_4 : decode cX6_sides 4 = .ok (.iload_n 1, 1) := by decide +kernel
theorem dX6_sides_5 : decode cX6_sides 5 = .ok (.iconst 1, 1) := by decide +kernel
theorem dX6_sides_6 : decode cX6_sides 6 = .ok (.if_icmp .eq 10, 3) := by decide +kernel
theorem dX6_sides_9 : decode cX6_sides 9 = .ok (.aload_n 0, 1) := by decide +kernel
theorem dX6_sides_10 : decode cX6_sides 10 = .ok (.bipush (-2), 2) := by decide +kernel
theorem dX6_sides_12 : decode cX6_sides 12 = .ok (.invokevirtual 56, 3) := by decide +kernel
theorem dX6_sides_15 : decode cX6_sides 15 = .ok (.ireturn, 1) := by decide +kernel
theorem dX6_sides_16 : decode cX6_sides 16 = .ok (.aload_n 0, 1) := by decide +kernel
theorem dX6_sides_17 : decode cX6_sides 17 = .ok (.getfield 10, 3) := by decide +kernel
theorem dX6_sides_20 : decode cX6_sides 20 = .ok (.invokestatic 191, 3) := by decide +kernel
theorem dX6_sides_23 : decode cX6_sides 23 = .ok (.istore_n 2, 1) := by decide +kernel
theorem dX6_sides_24 : decode cX6_sides 24 = .ok (.iload_n 1, 1) := by decide +kernel
theorem dX6_sides_25 : decode cX6_sides 25 = .ok (.ifCond .eq 9, 3) := by decide +kernel
theorem dX6_sides_28 : decode cX6_sides 28 = .ok (.iload_n 2, 1) := by decide +kernel
theorem dX6_sides_29 : decode cX6_sides 29 = .ok (.bipush (-9), 2) := by decide +kernel
theorem dX6_sides_31 : decode cX6_sides 31 = .ok (.if_icmp .ne 7, 3) := by decide +kernel
theorem dX6_sides_34 : decode cX6_sides 34 = .ok (.iload_n 2, 1) := by decide +kernel
theorem dX6_sides_35 : decode cX6_sides 35 = .ok (.goto 11, 3) := by decide +kernel
theorem dX6_sides_38 : decode cX6_sides 38 = .ok (.aload_n 0, 1) := by decide +kernel
theorem dX6_sides_39 : decode cX6_sides 39 = .ok (.getfield 10, 3) := by decide +kernel
theorem dX6_sides_42 : decode cX6_sides 42 = .ok (.iload_n 2, 1) := by decide +kernel
theorem dX6_sides_43 : decode cX6_sides 43 = .ok (.invokestatic 194, 3) := by decide +kernel
theorem dX6_sides_46 : decode cX6_sides 46 = .ok (.ireturn, 1) := by decide +kernel
theorem dX6_chain_0 : decode cX6_chain 0 = .ok (.aload_n 0, 1) := by decide +kernel
theorem dX6_chain_1 : decode cX6_chain 1 = .ok (.getfield 10, 3) := by decide +kernel
theorem dX6_chain_4 : decode cX6_chain 4 = .ok (.iload_n 1, 1) := by decide +kernel
theorem dX6_chain_5 : decode cX6_chain 5 = .ok (.invokevirtual 75, 3) := by decide +kernel
theorem dX6_chain_8 : decode cX6_chain 8 = .ok (.ifCond .ne 9, 3) := by decide +kernel
theorem dX6_chain_11 : decode cX6_chain 11 = .ok (.aload_n 0, 1) := by decide +kernel
theorem dX6_chain_12 : decode cX6_chain 12 = .ok (.iconst (-1), 1) := by decide +kernel
theorem dX6_chain_13 : decode cX6_chain 13 = .ok (.invokevirtual 56, 3) := by decide +kernel
theorem dX6_chain_16 : decode cX6_chain 16 = .ok (.ireturn, 1) := by decide +kernel
theorem dX6_chain_17 : decode cX6_chain 17 = .ok (.aload_n 0, 1) := by decide +kernel
theorem dX6_chain_18 : decode cX6_chain 18 = .ok (.getfield 10, 3) := by decide +kernel
theorem dX6_chain_21 : decode cX6_chain 21 = .ok (.iload_n 1, 1) := by decide +kernel
theorem dX6_chain_22 : decode cX6_chain 22 = .ok (.invokestatic 197, 3) := by decide +kernel
theorem dX6_chain_25 : decode cX6_chain 25 = .ok (.ireturn, 1) := by decide +kernel
theorem dX6_chains_0 : decode cX6_chains 0 = .ok (.iload_n 1, 1) := by decide +kernel
theorem dX6_chains_1 : decode cX6_chains 1 = .ok (.tableswitch 59 0 2 #[27, 35, 43], 27) := by decide +kernel
theorem dX6_chains_28 : decode cX6_chains 28 = .ok (.aload_n 0, 1) := by decide +kernel
theorem dX6_chains_29 : decode cX6_chains 29 = .ok (.getfield 10, 3) := by decide +kernel
theorem dX6_chains_32 : decode cX6_chains 32 = .ok (.invokestatic 202, 3) := by decide +kernel
theorem dX6_chains_35 : decode cX6_chains 35 = .ok (.ireturn, 1) := by decide +kernel
theorem dX6_chains_36 : decode cX6_chains 36 = .ok (.aload_n 0, 1) := by decide +kernel
theorem dX6_chains_37 : decode cX6_chains 37 = .ok (.getfield 10, 3) := by decide +kernel
theorem dX6_chains_40 : decode cX6_chains 40 = .ok (.invokestatic 205, 3) := by decide +kernel
theorem dX6_chains_43 : decode cX6_chains 43 = .ok (.ireturn, 1) := by decide +kernel
theorem dX6_chains_44 : decode cX6_chains 44 = .ok (.aload_n 0, 1) := by decide +kernel
theorem dX6_chains_45 : decode cX6_chains 45 = .ok (.getfield 10, 3) := by decide +kernel
theorem dX6_chains_48 : decode cX6_chains 48 = .ok (.invokestatic 208, 3) := by decide +kernel
theorem dX6_chains_51 : decode cX6_chains 51 = .ok (.ifCond .eq 7, 3) := by decide +kernel
theorem dX6_chains_54 : decode cX6_chains 54 = .ok (.iconst 1, 1) := by decide +kernel
theorem dX6_chains_55 : decode cX6_chains 55 = .ok (.goto 4, 3) := by decide +kernel
theorem dX6_chains_58 : decode cX6_chains 58 = .ok (.iconst 0, 1) := by decide +kernel
theorem dX6_chains_59 : decode cX6_chains 59 = .ok (.ireturn, 1) := by decide +kernel
theorem dX6_chains_60 : decode cX6_chains 60 = .ok (.aload_n 0, 1) := by decide +kernel
theorem dX6_chains_61 : decode cX6_chains 61 = .ok (.bipush (-2), 2) := by decide +kernel
theorem dX6_chains_63 : decode cX6_chains 63 = .ok (.invokevirtual 56, 3) := by decide +kernel
theorem dX6_chains_66 : decode cX6_chains 66 = .ok (.ireturn, 1) := by decide +kernel
theorem dX6_hauled_0 : decode cX6_hauled 0 = .ok (.aload_n 0, 1) := by decide +kernel
theorem dX6_hauled_1 : decode cX6_hauled 1 = .ok (.getfield 10, 3) := by decide +kernel
theorem dX6_hauled_4 : decode cX6_hauled 4 = .ok (.iload_n 1, 1) := by decide +kernel
theorem dX6_hauled_5 : decode cX6_hauled 5 = .ok (.iload_n 2, 1) := by decide +kernel
theorem dX6_hauled_6 : decode cX6_hauled 6 = .ok (.invokevirtual 109, 3) := by decide +kernel
theorem dX6_hauled_9 : decode cX6_hauled 9 = .ok (.ifCond .ne 9, 3) := by decide +kernel
theorem dX6_hauled_12 : decode cX6_hauled 12 = .ok (.aload_n 0, 1) := by decide +kernel
theorem dX6_hauled_13 : decode cX6_hauled 13 = .ok (.iconst (-1), 1) := by decide +kernel
theorem dX6_hauled_14 : decode cX6_hauled 14 = .ok (.invokevirtual 56, 3) := by decide +kernel
theorem dX6_hauled_17 : decode cX6_hauled 17 = .ok (.ireturn, 1) := by decide +kernel
theorem dX6_hauled_18 : decode cX6_hauled 18 = .ok (.aload_n 0, 1) := by decide +kernel
theorem dX6_hauled_19 : decode cX6_hauled 19 = .ok (.getfield 10, 3) := by decide +kernel
theorem dX6_hauled_22 : decode cX6_hauled 22 = .ok (.iload_n 1, 1) := by decide +kernel
theorem dX6_hauled_23 : decode cX6_hauled 23 = .ok (.invokestatic 212, 3) := by decide +kernel
theorem dX6_hauled_26 : decode cX6_hauled 26 = .ok (.iload_n 2, 1) := by decide +kernel
theorem dX6_hauled_27 : decode cX6_hauled 27 = .ok (.invokestatic 215, 3) := by decide +kernel
theorem dX6_hauled_30 : decode cX6_hauled 30 = .ok (.ifCond .eq 7, 3) := by decide +kernel
theorem dX6_hauled_33 : decode cX6_hauled 33 = .ok (.iconst 1, 1) := by decide +kernel
theorem dX6_hauled_34 : decode cX6_hauled 34 = .ok (.goto 4, 3) := by decide +kernel
theorem dX6_hauled_37 : decode cX6_hauled 37 = .ok (.iconst 0, 1) := by decide +kernel
theorem dX6_hauled_38 : decode cX6_hauled 38 = .ok (.ireturn, 1) := by decide +kernel
theorem dX6_top_0 : decode cX6_top 0 = .ok (.aload_n 0, 1) := by decide +kernel
theorem dX6_top_1 : decode cX6_top 1 = .ok (.getfield 10, 3) := by decide +kernel
theorem dX6_top_4 : decode cX6_top 4 = .ok (.iload_n 1, 1) := by decide +kernel
theorem dX6_top_5 : decode cX6_top 5 = .ok (.invokevirtual 75, 3) := by decide +kernel
theorem dX6_top_8 : decode cX6_top 8 = .ok (.ifCond .ne 9, 3) := by decide +kernel
theorem dX6_top_11 : decode cX6_top 11 = .ok (.aload_n 0, 1) := by decide +kernel
theorem dX6_top_12 : decode cX6_top 12 = .ok (.iconst (-1), 1) := by decide +kernel
theorem dX6_top_13 : decode cX6_top 13 = .ok (.invokevirtual 56, 3) := by decide +kernel
theorem dX6_top_16 : decode cX6_top 16 = .ok (.ireturn, 1) := by decide +kernel
theorem dX6_top_17 : decode cX6_top 17 = .ok (.aload_n 0, 1) := by decide +kernel
theorem dX6_top_18 : decode cX6_top 18 = .ok (.getfield 10, 3) := by decide +kernel
theorem dX6_top_21 : decode cX6_top 21 = .ok (.iload_n 1, 1) := by decide +kernel
theorem dX6_top_22 : decode cX6_top 22 = .ok (.invokestatic 218, 3) := by decide +kernel
theorem dX6_top_25 : decode cX6_top 25 = .ok (.ireturn, 1) := by decide +kernel
theorem dX6_odd_0 : decode cX6_odd 0 = .ok (.aload_n 0, 1) := by decide +kernel
theorem dX6_odd_1 : decode cX6_odd 1 = .ok (.getfield 10, 3) := by decide +kernel
theorem dX6_odd_4 : decode cX6_odd 4 = .ok (.invokevirtual 221, 3) := by decide +kernel
theorem dX6_odd_7 : decode cX6_odd 7 = .ok (.ireturn, 1) := by decide +kernel
theorem dX6_meet_0 : decode cX6_meet 0 = .ok (.aload_n 0, 1) := by decide +kernel
theorem dX6_meet_1 : decode cX6_meet 1 = .ok (.getfield 10, 3) := by decide +kernel
theorem dX6_meet_4 : decode cX6_meet 4 = .ok (.iload_n 1, 1) := by decide +kernel
theorem dX6_meet_5 : decode cX6_meet 5 = .ok (.iload_n 2, 1) := by decide +kernel
theorem dX6_meet_6 : decode cX6_meet 6 = .ok (.invokevirtual 109, 3) := by decide +kernel
theorem dX6_meet_9 : decode cX6_meet 9 = .ok (.ifCond .ne 9, 3) := by decide +kernel
theorem dX6_meet_12 : decode cX6_meet 12 = .ok (.aload_n 0, 1) := by decide +kernel
theorem dX6_meet_13 : decode cX6_meet 13 = .ok (.iconst (-1), 1) := by decide +kernel
theorem dX6_meet_14 : decode cX6_meet 14 = .ok (.invokevirtual 56, 3) := by decide +kernel
theorem dX6_meet_17 : decode cX6_meet 17 = .ok (.ireturn, 1) := by decide +kernel
theorem dX6_meet_18 : decode cX6_meet 18 = .ok (.aload_n 0, 1) := by decide +kernel
theorem dX6_meet_19 : decode cX6_meet 19 = .ok (.getfield 40, 3) := by decide +kernel
theorem dX6_meet_22 : decode cX6_meet 22 = .ok (.aload_n 0, 1) := by decide +kernel
theorem dX6_meet_23 : decode cX6_meet 23 = .ok (.getfield 10, 3) := by decide +kernel
theorem dX6_meet_26 : decode cX6_meet 26 = .ok (.iload_n 1, 1) := by decide +kernel
theorem dX6_meet_27 : decode cX6_meet 27 = .ok (.iload_n 2, 1) := by decide +kernel
theorem dX6_meet_28 : decode cX6_meet 28 = .ok (.invokevirtual 224, 3) := by decide +kernel
theorem dX6_meet_31 : decode cX6_meet 31 = .ok (.ireturn, 1) := by decide +kernel
theorem dX6_two_0 : decode cX6_two 0 = .ok (.aload_n 0, 1) := by decide +kernel
theorem dX6_two_1 : decode cX6_two 1 = .ok (.getfield 10, 3) := by decide +kernel
theorem dX6_two_4 : decode cX6_two 4 = .ok (.iload_n 1, 1) := by decide +kernel
theorem dX6_two_5 : decode cX6_two 5 = .ok (.iload_n 2, 1) := by decide +kernel
theorem dX6_two_6 : decode cX6_two 6 = .ok (.invokevirtual 109, 3) := by decide +kernel
theorem dX6_two_9 : decode cX6_two 9 = .ok (.ifCond .ne 9, 3) := by decide +kernel
theorem dX6_two_12 : decode cX6_two 12 = .ok (.aload_n 0, 1) := by decide +kernel
theorem dX6_two_13 : decode cX6_two 13 = .ok (.iconst (-1), 1) := by decide +kernel
theorem dX6_two_14 : decode cX6_two 14 = .ok (.invokevirtual 56, 3) := by decide +kernel
theorem dX6_two_17 : decode cX6_two 17 = .ok (.ireturn, 1) := by decide +kernel
theorem dX6_two_18 : decode cX6_two 18 = .ok (.iload_n 3, 1) := by decide +kernel
theorem dX6_two_19 : decode cX6_two 19 = .ok (.iconst 0, 1) := by decide +kernel
theorem dX6_two_20 : decode cX6_two 20 = .ok (.bipush 30, 2) := by decide +kernel
theorem dX6_two_22 : decode cX6_two 22 = .ok (.invokestatic 48, 3) := by decide +kernel
theorem dX6_two_25 : decode cX6_two 25 = .ok (.istore 4, 2) := by decide +kernel
theorem dX6_two_27 : decode cX6_two 27 = .ok (.iload 4, 2) := by decide +kernel
theorem dX6_two_29 : decode cX6_two 29 = .ok (.ifCond .eq 10, 3) := by decide +kernel
theorem dX6_two_32 : decode cX6_two 32 = .ok (.aload_n 0, 1) := by decide +kernel
theorem dX6_two_33 : decode cX6_two 33 = .ok (.iload 4, 2) := by decide +kernel
theorem dX6_two_35 : decode cX6_two 35 = .ok (.invokevirtual 56, 3) := by decide +kernel
theorem dX6_two_38 : decode cX6_two 38 = .ok (.ireturn, 1) := by decide +kernel
theorem dX6_two_39 : decode cX6_two 39 = .ok (.aload_n 0, 1) := by decide +kernel
theorem dX6_two_40 : decode cX6_two 40 = .ok (.getfield 40, 3) := by decide +kernel
theorem dX6_two_43 : decode cX6_two 43 = .ok (.aload_n 0, 1) := by decide +kernel
theorem dX6_two_44 : decode cX6_two 44 = .ok (.getfield 10, 3) := by decide +kernel
theorem dX6_two_47 : decode cX6_two 47 = .ok (.iload_n 1, 1) := by decide +kernel
theorem dX6_two_48 : decode cX6_two 48 = .ok (.iload_n 2, 1) := by decide +kernel
theorem dX6_two_49 : decode cX6_two 49 = .ok (.iload_n 3, 1) := by decide +kernel
theorem dX6_two_50 : decode cX6_two 50 = .ok (.invokevirtual 227, 3) := by decide +kernel
theorem dX6_two_53 : decode cX6_two 53 = .ok (.ireturn, 1) := by decide +kernel
theorem dX6_wet_0 : decode cX6_wet 0 = .ok (.aload_n 0, 1) := by decide +kernel
theorem dX6_wet_1 : decode cX6_wet 1 = .ok (.iload_n 1, 1) := by decide +kernel
theorem dX6_wet_2 : decode cX6_wet 2 = .ok (.iload_n 2, 1) := by decide +kernel
theorem dX6_wet_3 : decode cX6_wet 3 = .ok (.iload_n 3, 1) := by decide +kernel
theorem dX6_wet_4 : decode cX6_wet 4 = .ok (.iload 4, 2) := by decide +kernel
theorem dX6_wet_6 : decode cX6_wet 6 = .ok (.iload 5, 2) := by decide +kernel
theorem dX6_wet_8 : decode cX6_wet 8 = .ok (.invokevirtual 230, 3) := by decide +kernel
theorem dX6_wet_11 : decode cX6_wet 11 = .ok (.istore 7, 2) := by decide +kernel
theorem dX6_wet_13 : decode cX6_wet 13 = .ok (.iload 7, 2) := by decide +kernel
theorem dX6_wet_15 : decode cX6_wet 15 = .ok (.ifCond .ne 18, 3) := by decide +kernel
theorem dX6_wet_18 : decode cX6_wet 18 = .ok (.iload 6, 2) := by decide +kernel
theorem dX6_wet_20 : decode cX6_wet 20 = .ok (.ifCond .eq 13, 3) := by decide +kernel
theorem dX6_wet_23 : decode cX6_wet 23 = .ok (.iload 6, 2) := by decide +kernel
theorem dX6_wet_25 : decode cX6_wet 25 = .ok (.iconst 1, 1) := by decide +kernel
theorem dX6_wet_26 : decode cX6_wet 26 = .ok (.if_icmp .eq 7, 3) := by decide +kernel
theorem dX6_wet_29 : decode cX6_wet 29 = .ok (.bipush (-2), 2) := by decide +kernel
theorem dX6_wet_31 : decode cX6_wet 31 = .ok (.istore 7, 2) := by decide +kernel
theorem dX6_wet_33 : decode cX6_wet 33 = .ok (.iload 7, 2) := by decide +kernel
theorem dX6_wet_35 : decode cX6_wet 35 = .ok (.ifCond .eq 10, 3) := by decide +kernel
theorem dX6_wet_38 : decode cX6_wet 38 = .ok (.aload_n 0, 1) := by decide +kernel
theorem dX6_wet_39 : decode cX6_wet 39 = .ok (.iload 7, 2) := by decide +kernel
theorem dX6_wet_41 : decode cX6_wet 41 = .ok (.invokevirtual 234, 3) := by decide +kernel
theorem dX6_wet_44 : decode cX6_wet 44 = .ok (.lreturn, 1) := by decide +kernel
theorem dX6_wet_45 : decode cX6_wet 45 = .ok (.aload_n 0, 1) := by decide +kernel
theorem dX6_wet_46 : decode cX6_wet 46 = .ok (.getfield 40, 3) := by decide +kernel
theorem dX6_wet_49 : decode cX6_wet 49 = .ok (.aload_n 0, 1) := by decide +kernel
theorem dX6_wet_50 : decode cX6_wet 50 = .ok (.getfield 10, 3) := by decide +kernel
theorem dX6_wet_53 : decode cX6_wet 53 = .ok (.iload_n 1, 1) := by decide +kernel
theorem dX6_wet_54 : decode cX6_wet 54 = .ok (.iload_n 2, 1) := by decide +kernel
theorem dX6_wet_55 : decode cX6_wet 55 = .ok (.iload_n 3, 1) := by decide +kernel
theorem dX6_wet_56 : decode cX6_wet 56 = .ok (.iload 4, 2) := by decide +kernel
theorem dX6_wet_58 : decode cX6_wet 58 = .ok (.iload 5, 2) := by decide +kernel
theorem dX6_wet_60 : decode cX6_wet 60 = .ok (.invokevirtual 238, 3) := by decide +kernel
theorem dX6_wet_63 : decode cX6_wet 63 = .ok (.lstore 8, 2) := by decide +kernel
theorem dX6_wet_65 : decode cX6_wet 65 = .ok (.lload 8, 2) := by decide +kernel
theorem dX6_wet_67 : decode cX6_wet 67 = .ok (.iload 4, 2) := by decide +kernel
theorem dX6_wet_69 : decode cX6_wet 69 = .ok (.i2l, 1) := by decide +kernel
theorem dX6_wet_70 : decode cX6_wet 70 = .ok (.iload_n 3, 1) := by decide +kernel
theorem dX6_wet_71 : decode cX6_wet 71 = .ok (.invokestatic 242, 3) := by decide +kernel
theorem dX6_wet_74 : decode cX6_wet 74 = .ok (.iload 6, 2) := by decide +kernel
theorem dX6_wet_76 : decode cX6_wet 76 = .ok (.invokestatic 246, 3) := by decide +kernel
theorem dX6_wet_79 : decode cX6_wet 79 = .ok (.lreturn, 1) := by decide +kernel
theorem dX6_mean_0 : decode cX6_mean 0 = .ok (.iload_n 1, 1) := by decide +kernel
theorem dX6_mean_1 : decode cX6_mean 1 = .ok (.ifCond .eq 15, 3) := by decide +kernel
theorem dX6_mean_4 : decode cX6_mean 4 = .ok (.iload_n 1, 1) := by decide +kernel
theorem dX6_mean_5 : decode cX6_mean 5 = .ok (.iconst 1, 1) := by decide +kernel
theorem dX6_mean_6 : decode cX6_mean 6 = .ok (.if_icmp .eq 10, 3) := by decide +kernel
theorem dX6_mean_9 : decode cX6_mean 9 = .ok (.aload_n 0, 1) := by decide +kernel
theorem dX6_mean_10 : decode cX6_mean 10 = .ok (.bipush (-2), 2) := by decide +kernel
theorem dX6_mean_12 : decode cX6_mean 12 = .ok (.invokevirtual 234, 3) := by decide +kernel
theorem dX6_mean_15 : decode cX6_mean 15 = .ok (.lreturn, 1) := by decide +kernel
theorem dX6_mean_16 : decode cX6_mean 16 = .ok (.aload_n 0, 1) := by decide +kernel
theorem dX6_mean_17 : decode cX6_mean 17 = .ok (.getfield 10, 3) := by decide +kernel
theorem dX6_mean_20 : decode cX6_mean 20 = .ok (.invokevirtual 133, 3) := by decide +kernel
theorem dX6_mean_23 : decode cX6_mean 23 = .ok (.i2l, 1) := by decide +kernel
theorem dX6_mean_24 : decode cX6_mean 24 = .ok (.iconst 1, 1) := by decide +kernel
theorem dX6_mean_25 : decode cX6_mean 25 = .ok (.aload_n 0, 1) := by decide +kernel
theorem dX6_mean_26 : decode cX6_mean 26 = .ok (.getfield 10, 3) := by decide +kernel
theorem dX6_mean_29 : decode cX6_mean 29 = .ok (.getfield 250, 3) := by decide +kernel
theorem dX6_mean_32 : decode cX6_mean 32 = .ok (.invokestatic 253, 3) := by decide +kernel
theorem dX6_mean_35 : decode cX6_mean 35 = .ok (.i2l, 1) := by decide +kernel
theorem dX6_mean_36 : decode cX6_mean 36 = .ok (.iload_n 1, 1) := by decide +kernel
theorem dX6_mean_37 : decode cX6_mean 37 = .ok (.invokestatic 246, 3) := by decide +kernel
theorem dX6_mean_40 : decode cX6_mean 40 = .ok (.lreturn, 1) := by decide +kernel
theorem dX6_lots_0 : decode cX6_lots 0 = .ok (.iload_n 1, 1) := by decide +kernel
theorem dX6_lots_1 : decode cX6_lots 1 = .ok (.iconst 1, 1) := by decide +kernel
theorem dX6_lots_2 : decode cX6_lots 2 = .ok (.bipush 20, 2) := by decide +kernel
theorem dX6_lots_4 : decode cX6_lots 4 = .ok (.invokestatic 48, 3) := by decide +kernel
theorem dX6_lots_7 : decode cX6_lots 7 = .ok (.istore 4, 2) := by decide +kernel
theorem dX6_lots_9 : decode cX6_lots 9 = .ok (.iload 4, 2) := by decide +kernel
theorem dX6_lots_11 : decode cX6_lots 11 = .ok (.ifCond .ne 16, 3) := by decide +kernel
theorem dX6_lots_14 : decode cX6_lots 14 = .ok (.iload_n 3, 1) := by decide +kernel
theorem dX6_lots_15 : decode cX6_lots 15 = .ok (.ifCond .eq 12, 3) := by decide +kernel
theorem dX6_lots_18 : decode cX6_lots 18 = .ok (.iload_n 3, 1) := by decide +kernel
theorem dX6_lots_19 : decode cX6_lots 19 = .ok (.iconst 1, 1) := by decide +kernel
theorem dX6_lots_20 : decode cX6_lots 20 = .ok (.if_icmp .eq 7, 3) := by decide +kernel
theorem dX6_lots_23 : decode cX6_lots 23 = .ok (.bipush (-2), 2) := by decide +kernel
theorem dX6_lots_25 : decode cX6_lots 25 = .ok (.istore 4, 2) := by decide +kernel
theorem dX6_lots_27 : decode cX6_lots 27 = .ok (.iload 4, 2) := by decide +kernel
theorem dX6_lots_29 : decode cX6_lots 29 = .ok (.ifCond .eq 10, 3) := by decide +kernel
theorem dX6_lots_32 : decode cX6_lots 32 = .ok (.aload_n 0, 1) := by decide +kernel
theorem dX6_lots_33 : decode cX6_lots 33 = .ok (.iload 4, 2) := by decide +kernel
theorem dX6_lots_35 : decode cX6_lots 35 = .ok (.invokevirtual 56, 3) := by decide +kernel
theorem dX6_lots_38 : decode cX6_lots 38 = .ok (.ireturn, 1) := by decide +kernel
theorem dX6_lots_39 : decode cX6_lots 39 = .ok (.aload_n 0, 1) := by decide +kernel
theorem dX6_lots_40 : decode cX6_lots 40 = .ok (.getfield 40, 3) := by decide +kernel
theorem dX6_lots_43 : decode cX6_lots 43 = .ok (.aload_n 0, 1) := by decide +kernel
theorem dX6_lots_44 : decode cX6_lots 44 = .ok (.getfield 10, 3) := by decide +kernel
theorem dX6_lots_47 : decode cX6_lots 47 = .ok (.iload_n 1, 1) := by decide +kernel
theorem dX6_lots_48 : decode cX6_lots 48 = .ok (.iload_n 2, 1) := by decide +kernel
theorem dX6_lots_49 : decode cX6_lots 49 = .ok (.iload_n 3, 1) := by decide +kernel
theorem dX6_lots_50 : decode cX6_lots 50 = .ok (.ifCond .ne 7, 3) := by decide +kernel
theorem dX6_lots_53 : decode cX6_lots 53 = .ok (.iconst 1, 1) := by decide +kernel
theorem dX6_lots_54 : decode cX6_lots 54 = .ok (.goto 4, 3) := by decide +kernel
theorem dX6_lots_57 : decode cX6_lots 57 = .ok (.iconst 0, 1) := by decide +kernel
theorem dX6_lots_58 : decode cX6_lots 58 = .ok (.invokevirtual 258, 3) := by decide +kernel
theorem dX6_lots_61 : decode cX6_lots 61 = .ok (.ireturn, 1) := by decide +kernel
theorem dX6_whatIs_0 : decode cX6_whatIs 0 = .ok (.aload_n 0, 1) := by decide +kernel
theorem dX6_whatIs_1 : decode cX6_whatIs 1 = .ok (.getfield 10, 3) := by decide +kernel
theorem dX6_whatIs_4 : decode cX6_whatIs 4 = .ok (.iload_n 1, 1) := by decide +kernel
theorem dX6_whatIs_5 : decode cX6_whatIs 5 = .ok (.invokevirtual 75, 3) := by decide +kernel
theorem dX6_whatIs_8 : decode cX6_whatIs 8 = .ok (.ifCond .ne 9, 3) := by decide +kernel
theorem dX6_whatIs_11 : decode cX6_whatIs 11 = .ok (.aload_n 0, 1) := by decide +kernel
theorem dX6_whatIs_12 : decode cX6_whatIs 12 = .ok (.iconst (-1), 1) := by decide +kernel
theorem dX6_whatIs_13 : decode cX6_whatIs 13 = .ok (.invokevirtual 56, 3) := by decide +kernel
theorem dX6_whatIs_16 : decode cX6_whatIs 16 = .ok (.ireturn, 1) := by decide +kernel
theorem dX6_whatIs_17 : decode cX6_whatIs 17 = .ok (.iload_n 2, 1) := by decide +kernel
theorem dX6_whatIs_18 : decode cX6_whatIs 18 = .ok (.lookupswitch 60 #[(0, 26), (1, 43)], 26) := by decide +kernel
theorem dX6_whatIs_44 : decode cX6_whatIs 44 = .ok (.aload_n 0, 1) := by decide +kernel
theorem dX6_whatIs_45 : decode cX6_whatIs 45 = .ok (.getfield 40, 3) := by decide +kernel
theorem dX6_whatIs_48 : decode cX6_whatIs 48 = .ok (.aload_n 0, 1) := by decide +kernel
theorem dX6_whatIs_49 : decode cX6_whatIs 49 = .ok (.getfield 10, 3) := by decide +kernel
theorem dX6_whatIs_52 : decode cX6_whatIs 52 = .ok (.iload_n 1, 1) := by decide +kernel
theorem dX6_whatIs_53 : decode cX6_whatIs 53 = .ok (.aload_n 0, 1) := by decide +kernel
theorem dX6_whatIs_54 : decode cX6_whatIs 54 = .ok (.getfield 26, 3) := by decide +kernel
theorem dX6_whatIs_57 : decode cX6_whatIs 57 = .ok (.invokevirtual 262, 3) := by decide +kernel
theorem dX6_whatIs_60 : decode cX6_whatIs 60 = .ok (.ireturn, 1) := by decide +kernel
theorem dX6_whatIs_61 : decode cX6_whatIs 61 = .ok (.aload_n 0, 1) := by decide +kernel
theorem dX6_whatIs_62 : decode cX6_whatIs 62 = .ok (.getfield 40, 3) := by decide +kernel
theorem dX6_whatIs_65 : decode cX6_whatIs 65 = .ok (.aload_n 0, 1) := by decide +kernel
theorem dX6_whatIs_66 : decode cX6_whatIs 66 = .ok (.getfield 10, 3) := by decide +kernel
theorem dX6_whatIs_69 : decode cX6_whatIs 69 = .ok (.iload_n 1, 1) := by decide +kernel
theorem dX6_whatIs_70 : decode cX6_whatIs 70 = .ok (.aload_n 0, 1) := by decide +kernel
theorem dX6_whatIs_71 : decode cX6_whatIs 71 = .ok (.getfield 26, 3) := by decide +kernel
theorem dX6_whatIs_74 : decode cX6_whatIs 74 = .ok (.invokevirtual 266, 3) := by decide +kernel
theorem dX6_whatIs_77 : decode cX6_whatIs 77 = .ok (.ireturn, 1) := by decide +kernel
theorem dX6_whatIs_78 : decode cX6_whatIs 78 = .ok (.aload_n 0, 1) := by decide +kernel
theorem dX6_whatIs_79 : decode cX6_whatIs 79 = .ok (.bipush (-2), 2) := by decide +kernel
theorem dX6_whatIs_81 : decode cX6_whatIs 81 = .ok (.invokevirtual 56, 3) := by decide +kernel
theorem dX6_whatIs_84 : decode cX6_whatIs 84 = .ok (.ireturn, 1) := by decide +kernel
theorem dX6_row_0 : decode cX6_row 0 = .ok (.iload_n 1, 1) := by decide +kernel
theorem dX6_row_1 : decode cX6_row 1 = .ok (.iconst 0, 1) := by decide +kernel
theorem dX6_row_2 : decode cX6_row 2 = .ok (.bipush 99, 2) := by decide +kernel
theorem dX6_row_4 : decode cX6_row 4 = .ok (.invokestatic 48, 3) := by decide +kernel
theorem dX6_row_7 : decode cX6_row 7 = .ok (.istore_n 2, 1) := by decide +kernel
theorem dX6_row_8 : decode cX6_row 8 = .ok (.iload_n 2, 1) := by decide +kernel
theorem dX6_row_9 : decode cX6_row 9 = .ok (.ifCond .ne 18, 3) := by decide +kernel
theorem dX6_row_12 : decode cX6_row 12 = .ok (.aload_n 0, 1) := by decide +kernel
theorem dX6_row_13 : decode cX6_row 13 = .ok (.getfield 26, 3) := by decide +kernel
theorem dX6_row_16 : decode cX6_row 16 = .ok (.getfield 269, 3) := by decide +kernel
theorem dX6_row_19 : decode cX6_row 19 = .ok (.bipush 16, 2) := by decide +kernel
theorem dX6_row_21 : decode cX6_row 21 = .ok (.if_icmp .lt 6, 3) := by decide +kernel
theorem dX6_row_24 : decode cX6_row 24 = .ok (.bipush (-6), 2) := by decide +kernel
theorem dX6_row_26 : decode cX6_row 26 = .ok (.istore_n 2, 1) := by decide +kernel
theorem dX6_row_27 : decode cX6_row 27 = .ok (.iload_n 2, 1) := by decide +kernel
theorem dX6_row_28 : decode cX6_row 28 = .ok (.ifCond .eq 9, 3) := by decide +kernel
theorem dX6_row_31 : decode cX6_row 31 = .ok (.aload_n 0, 1) := by decide +kernel
theorem dX6_row_32 : decode cX6_row 32 = .ok (.iload_n 2, 1) := by decide +kernel
theorem dX6_row_33 : decode cX6_row 33 = .ok (.invokevirtual 56, 3) := by decide +kernel
theorem dX6_row_36 : decode cX6_row 36 = .ok (.ireturn, 1) := by decide +kernel
theorem dX6_row_37 : decode cX6_row 37 = .ok (.aload_n 0, 1) := by decide +kernel
theorem dX6_row_38 : decode cX6_row 38 = .ok (.getfield 26, 3) := by decide +kernel
theorem dX6_row_41 : decode cX6_row 41 = .ok (.iload_n 1, 1) := by decide +kernel
theorem dX6_row_42 : decode cX6_row 42 = .ok (.invokevirtual 270, 3) := by decide +kernel
theorem dX6_row_45 : decode cX6_row 45 = .ok (.ireturn, 1) := by decide +kernel
theorem dX6_judge_0 : decode cX6_judge 0 = .ok (.aload_n 0, 1) := by decide +kernel
theorem dX6_judge_1 : decode cX6_judge 1 = .ok (.getfield 26, 3) := by decide +kernel
theorem dX6_judge_4 : decode cX6_judge 4 = .ok (.aload_n 0, 1) := by decide +kernel
theorem dX6_judge_5 : decode cX6_judge 5 = .ok (.getfield 10, 3) := by decide +kernel
theorem dX6_judge_8 : decode cX6_judge 8 = .ok (.invokevirtual 271, 3) := by decide +kernel
theorem dX6_judge_11 : decode cX6_judge 11 = .ok (.istore_n 1, 1) := by decide +kernel
theorem dX6_judge_12 : decode cX6_judge 12 = .ok (.aload_n 0, 1) := by decide +kernel
theorem dX6_judge_13 : decode cX6_judge 13 = .ok (.getfield 26, 3) := by decide +kernel
theorem dX6_judge_16 : decode cX6_judge 16 = .ok (.iconst 0, 1) := by decide +kernel
theorem dX6_judge_17 : decode cX6_judge 17 = .ok (.putfield 269, 3) := by decide +kernel
theorem dX6_judge_20 : decode cX6_judge 20 = .ok (.iload_n 1, 1) := by decide +kernel
theorem dX6_judge_21 : decode cX6_judge 21 = .ok (.ireturn, 1) := by decide +kernel
theorem dX6_clear_0 : decode cX6_clear 0 = .ok (.aload_n 0, 1) := by decide +kernel
theorem dX6_clear_1 : decode cX6_clear 1 = .ok (.getfield 26, 3) := by decide +kernel
theorem dX6_clear_4 : decode cX6_clear 4 = .ok (.getfield 269, 3) := by decide +kernel
theorem dX6_clear_7 : decode cX6_clear 7 = .ok (.istore_n 1, 1) := by decide +kernel
theorem dX6_clear_8 : decode cX6_clear 8 = .ok (.aload_n 0, 1) := by decide +kernel
theorem dX6_clear_9 : decode cX6_clear 9 = .ok (.getfield 26, 3) := by decide +kernel
theorem dX6_clear_12 : decode cX6_clear 12 = .ok (.iconst 0, 1) := by decide +kernel
theorem dX6_clear_13 : decode cX6_clear 13 = .ok (.putfield 269, 3) := by decide +kernel
theorem dX6_clear_16 : decode cX6_clear 16 = .ok (.iload_n 1, 1) := by decide +kernel
theorem dX6_clear_17 : decode cX6_clear 17 = .ok (.ireturn, 1) := by decide +kernel
theorem dX6_image_0 : decode cX6_image 0 = .ok (.aload_n 0, 1) := by decide +kernel
theorem dX6_image_1 : decode cX6_image 1 = .ok (.getfield 16, 3) := by decide +kernel
theorem dX6_image_4 : decode cX6_image 4 = .ok (.aload_n 0, 1) := by decide +kernel
theorem dX6_image_5 : decode cX6_image 5 = .ok (.getfield 10, 3) := by decide +kernel
theorem dX6_image_8 : decode cX6_image 8 = .ok (.invokevirtual 71, 3) := by decide +kernel
theorem dX6_image_11 : decode cX6_image 11 = .ok (.aload_n 0, 1) := by decide +kernel
theorem dX6_image_12 : decode cX6_image 12 = .ok (.iconst 1, 1) := by decide +kernel
theorem dX6_image_13 : decode cX6_image 13 = .ok (.putfield 19, 3) := by decide +kernel
theorem dX6_image_16 : decode cX6_image 16 = .ok (.aload_n 0, 1) := by decide +kernel
theorem dX6_image_17 : decode cX6_image 17 = .ok (.getfield 10, 3) := by decide +kernel
theorem dX6_image_20 : decode cX6_image 20 = .ok (.getfield 126, 3) := by decide +kernel
theorem dX6_image_23 : decode cX6_image 23 = .ok (.ireturn, 1) := by decide +kernel
theorem dX6_on_0 : decode cX6_on 0 = .ok (.aload_n 0, 1) := by decide +kernel
theorem dX6_on_1 : decode cX6_on 1 = .ok (.getfield 19, 3) := by decide +kernel
theorem dX6_on_4 : decode cX6_on 4 = .ok (.ifCond .ne 10, 3) := by decide +kernel
theorem dX6_on_7 : decode cX6_on 7 = .ok (.aload_n 0, 1) := by decide +kernel
theorem dX6_on_8 : decode cX6_on 8 = .ok (.bipush (-3), 2) := by decide +kernel
theorem dX6_on_10 : decode cX6_on 10 = .ok (.invokevirtual 56, 3) := by decide +kernel
theorem dX6_on_13 : decode cX6_on 13 = .ok (.ireturn, 1) := by decide +kernel
theorem dX6_on_14 : decode cX6_on 14 = .ok (.aload_n 0, 1) := by decide +kernel
theorem dX6_on_15 : decode cX6_on 15 = .ok (.getfield 10, 3) := by decide +kernel
theorem dX6_on_18 : decode cX6_on 18 = .ok (.aload_n 0, 1) := by decide +kernel
theorem dX6_on_19 : decode cX6_on 19 = .ok (.getfield 16, 3) := by decide +kernel
theorem dX6_on_22 : decode cX6_on 22 = .ok (.invokevirtual 71, 3) := by decide +kernel
theorem dX6_on_25 : decode cX6_on 25 = .ok (.aload_n 0, 1) := by decide +kernel
theorem dX6_on_26 : decode cX6_on 26 = .ok (.getfield 10, 3) := by decide +kernel
theorem dX6_on_29 : decode cX6_on 29 = .ok (.getfield 126, 3) := by decide +kernel
theorem dX6_on_32 : decode cX6_on 32 = .ok (.ireturn, 1) := by decide +kernel
theorem dX6_count_0 : decode cX6_count 0 = .ok (.iload_n 1, 1) := by decide +kernel
theorem dX6_count_1 : decode cX6_count 1 = .ok (.tableswitch 111 0 7 #[47, 55, 63, 71, 79, 87, 95, 103], 47) := by decide +kernel
theorem dX6_count_48 : decode cX6_count 48 = .ok (.aload_n 0, 1) := by decide +kernel
theorem dX6_count_49 : decode cX6_count 49 = .ok (.getfield 10, 3) := by decide +kernel
theorem dX6_count_52 : decode cX6_count 52 = .ok (.getfield 250, 3) := by decide +kernel
theorem dX6_count_55 : decode cX6_count 55 = .ok (.ireturn, 1) := by decide +kernel
theorem dX6_count_56 : decode cX6_count 56 = .ok (.aload_n 0, 1) := by decide +kernel
theorem dX6_count_57 : decode cX6_count 57 = .ok (.getfield 10, 3) := by decide +kernel
theorem dX6_count_60 : decode cX6_count 60 = .ok (.getfield 113, 3) := by decide +kernel
theorem dX6_count_63 : decode cX6_count 63 = .ok (.ireturn, 1) := by decide +kernel
theorem dX6_count_64 : decode cX6_count 64 = .ok (.aload_n 0, 1) := by decide +kernel
theorem dX6_count_65 : decode cX6_count 65 = .ok (.getfield 10, 3) := by decide +kernel
theorem dX6_count_68 : decode cX6_count 68 = .ok (.getfield 126, 3) := by decide +kernel
theorem dX6_count_71 : decode cX6_count 71 = .ok (.ireturn, 1) := by decide +kernel
theorem dX6_count_72 : decode cX6_count 72 = .ok (.aload_n 0, 1) := by decide +kernel
theorem dX6_count_73 : decode cX6_count 73 = .ok (.getfield 10, 3) := by decide +kernel
theorem dX6_count_76 : decode cX6_count 76 = .ok (.invokevirtual 133, 3) := by decide +kernel
theorem dX6_count_79 : decode cX6_count 79 = .ok (.ireturn, 1) := by decide +kernel
theorem dX6_count_80 : decode cX6_count 80 = .ok (.aload_n 0, 1) := by decide +kernel
theorem dX6_count_81 : decode cX6_count 81 = .ok (.getfield 10, 3) := by decide +kernel
theorem dX6_count_84 : decode cX6_count 84 = .ok (.invokevirtual 274, 3) := by decide +kernel
theorem dX6_count_87 : decode cX6_count 87 = .ok (.ireturn, 1) := by decide +kernel
theorem dX6_count_88 : decode cX6_count 88 = .ok (.aload_n 0, 1) := by decide +kernel
theorem dX6_count_89 : decode cX6_count 89 = .ok (.getfield 10, 3) := by decide +kernel
theorem dX6_count_92 : decode cX6_count 92 = .ok (.invokevirtual 277, 3) := by decide +kernel
theorem dX6_count_95 : decode cX6_count 95 = .ok (.ireturn, 1) := by decide +kernel
theorem dX6_count_96 : decode cX6_count 96 = .ok (.aload_n 0, 1) := by decide +kernel
theorem dX6_count_97 : decode cX6_count 97 = .ok (.getfield 26, 3) := by decide +kernel
theorem dX6_count_100 : decode cX6_count 100 = .ok (.getfield 269, 3) := by decide +kernel
theorem dX6_count_103 : decode cX6_count 103 = .ok (.ireturn, 1) := by decide +kernel
theorem dX6_count_104 : decode cX6_count 104 = .ok (.aload_n 0, 1) := by decide +kernel
theorem dX6_count_105 : decode cX6_count 105 = .ok (.getfield 33, 3) := by decide +kernel
theorem dX6_count_108 : decode cX6_count 108 = .ok (.getfield 52, 3) := by decide +kernel
theorem dX6_count_111 : decode cX6_count 111 = .ok (.ireturn, 1) := by decide +kernel
theorem dX6_count_112 : decode cX6_count 112 = .ok (.iload_n 1, 1) := by decide +kernel
theorem dX6_count_113 : decode cX6_count 113 = .ok (.bipush 10, 2) := by decide +kernel
theorem dX6_count_115 : decode cX6_count 115 = .ok (.if_icmp .le 21, 3) := by decide +kernel
theorem dX6_count_118 : decode cX6_count 118 = .ok (.iload_n 1, 1) := by decide +kernel
theorem dX6_count_119 : decode cX6_count 119 = .ok (.bipush 16, 2) := by decide +kernel
theorem dX6_count_121 : decode cX6_count 121 = .ok (.if_icmp .gt 15, 3) := by decide +kernel
theorem dX6_count_124 : decode cX6_count 124 = .ok (.aload_n 0, 1) := by decide +kernel
theorem dX6_count_125 : decode cX6_count 125 = .ok (.getfield 44, 3) := by decide +kernel
theorem dX6_count_128 : decode cX6_count 128 = .ok (.iload_n 1, 1) := by decide +kernel
theorem dX6_count_129 : decode cX6_count 129 = .ok (.bipush 10, 2) := by decide +kernel
theorem dX6_count_131 : decode cX6_count 131 = .ok (.isub, 1) := by decide +kernel
theorem dX6_count_132 : decode cX6_count 132 = .ok (.iaload, 1) := by decide +kernel
theorem dX6_count_133 : decode cX6_count 133 = .ok (.goto 5, 3) := by decide +kernel
theorem dX6_count_136 : decode cX6_count 136 = .ok (.bipush (-9), 2) := by decide +kernel
theorem dX6_count_138 : decode cX6_count 138 = .ok (.ireturn, 1) := by decide +kernel
theorem dX6_refuse_0 : decode cX6_refuse 0 = .ok (.aload_n 0, 1) := by decide +kernel
theorem dX6_refuse_1 : decode cX6_refuse 1 = .ok (.getfield 44, 3) := by decide +kernel
theorem dX6_refuse_4 : decode cX6_refuse 4 = .ok (.iload_n 1, 1) := by decide +kernel
theorem dX6_refuse_5 : decode cX6_refuse 5 = .ok (.ineg, 1) := by decide +kernel
theorem dX6_refuse_6 : decode cX6_refuse 6 = .ok (.dup2, 1) := by decide +kernel
theorem dX6_refuse_7 : decode cX6_refuse 7 = .ok (.iaload, 1) := by decide +kernel
theorem dX6_refuse_8 : decode cX6_refuse 8 = .ok (.iconst 1, 1) := by decide +kernel
theorem dX6_refuse_9 : decode cX6_refuse 9 = .ok (.iadd, 1) := by decide +kernel
theorem dX6_refuse_10 : decode cX6_refuse 10 = .ok (.iastore, 1) := by decide +kernel
theorem dX6_refuse_11 : decode cX6_refuse 11 = .ok (.iload_n 1, 1) := by decide +kernel
theorem dX6_refuse_12 : decode cX6_refuse 12 = .ok (.ireturn, 1) := by decide +kernel
theorem dX6_refuseLong_0 : decode cX6_refuseLong 0 = .ok (.ldc2_w 280, 3) := by decide +kernel
theorem dX6_refuseLong_3 : decode cX6_refuseLong 3 = .ok (.aload_n 0, 1) := by decide +kernel
theorem dX6_refuseLong_4 : decode cX6_refuseLong 4 = .ok (.iload_n 1, 1) := by decide +kernel
theorem dX6_refuseLong_5 : decode cX6_refuseLong 5 = .ok (.invokevirtual 56, 3) := by decide +kernel
theorem dX6_refuseLong_8 : decode cX6_refuseLong 8 = .ok (.i2l, 1) := by decide +kernel
theorem dX6_refuseLong_9 : decode cX6_refuseLong 9 = .ok (.lsub, 1) := by decide +kernel
theorem dX6_refuseLong_10 : decode cX6_refuseLong 10 = .ok (.lreturn, 1) := by decide +kernel
theorem dX6_rangeFault_0 : decode cX6_rangeFault 0 = .ok (.iload_n 0, 1) := by decide +kernel
theorem dX6_rangeFault_1 : decode cX6_rangeFault 1 = .ok (.iload_n 1, 1) := by decide +kernel
theorem dX6_rangeFault_2 : decode cX6_rangeFault 2 = .ok (.if_icmp .ge 6, 3) := by decide +kernel
theorem dX6_rangeFault_5 : decode cX6_rangeFault 5 = .ok (.bipush (-4), 2) := by decide +kernel
theorem dX6_rangeFault_7 : decode cX6_rangeFault 7 = .ok (.ireturn, 1) := by decide +kernel
theorem dX6_rangeFault_8 : decode cX6_rangeFault 8 = .ok (.iload_n 0, 1) := by decide +kernel
theorem dX6_rangeFault_9 : decode cX6_rangeFault 9 = .ok (.iload_n 2, 1) := by decide +kernel
theorem dX6_rangeFault_10 : decode cX6_rangeFault 10 = .ok (.if_icmp .le 8, 3) := by decide +kernel
theorem dX6_rangeFault_13 : decode cX6_rangeFault 13 = .ok (.bipush (-6), 2) := by decide +kernel
theorem dX6_rangeFault_15 : decode cX6_rangeFault 15 = .ok (.goto 4, 3) := by decide +kernel
theorem dX6_rangeFault_18 : decode cX6_rangeFault 18 = .ok (.iconst 0, 1) := by decide +kernel
theorem dX6_rangeFault_19 : decode cX6_rangeFault 19 = .ok (.ireturn, 1) := by decide +kernel
theorem dX6_thingFault_0 : decode cX6_thingFault 0 = .ok (.aload_n 0, 1) := by decide +kernel
theorem dX6_thingFault_1 : decode cX6_thingFault 1 = .ok (.getfield 10, 3) := by decide +kernel
theorem dX6_thingFault_4 : decode cX6_thingFault 4 = .ok (.iload_n 1, 1) := by decide +kernel
theorem dX6_thingFault_5 : decode cX6_thingFault 5 = .ok (.invokevirtual 75, 3) := by decide +kernel
theorem dX6_thingFault_8 : decode cX6_thingFault 8 = .ok (.ifCond .eq 12, 3) := by decide +kernel
theorem dX6_thingFault_11 : decode cX6_thingFault 11 = .ok (.iload_n 2, 1) := by decide +kernel
theorem dX6_thingFault_12 : decode cX6_thingFault 12 = .ok (.iconst 0, 1) := by decide +kernel
theorem dX6_thingFault_13 : decode cX6_thingFault 13 = .ok (.iload_n 3, 1) := by decide +kernel
theorem dX6_thingFault_14 : decode cX6_thingFault 14 = .ok (.invokestatic 48, 3) := by decide +kernel
theorem dX6_thingFault_17 : decode cX6_thingFault 17 = .ok (.goto 4, 3) := by decide +kernel
theorem dX6_thingFault_20 : decode cX6_thingFault 20 = .ok (.iconst (-1), 1) := by decide +kernel
theorem dX6_thingFault_21 : decode cX6_thingFault 21 = .ok (.ireturn, 1) := by decide +kernel
theorem dX6_aimFault_0 : decode cX6_aimFault 0 = .ok (.aload_n 0, 1) := by decide +kernel
theorem dX6_aimFault_1 : decode cX6_aimFault 1 = .ok (.getfield 10, 3) := by decide +kernel
theorem dX6_aimFault_4 : decode cX6_aimFault 4 = .ok (.iload_n 1, 1) := by decide +kernel
theorem dX6_aimFault_5 : decode cX6_aimFault 5 = .ok (.invokevirtual 75, 3) := by decide +kernel
theorem dX6_aimFault_8 : decode cX6_aimFault 8 = .ok (.ifCond .ne 5, 3) := by decide +kernel
theorem dX6_aimFault_11 : decode cX6_aimFault 11 = .ok (.iconst (-1), 1) := by decide +kernel
theorem dX6_aimFault_12 : decode cX6_aimFault 12 = .ok (.ireturn, 1) := by decide +kernel
theorem dX6_aimFault_13 : decode cX6_aimFault 13 = .ok (.iload_n 2, 1) := by decide +kernel
theorem dX6_aimFault_14 : decode cX6_aimFault 14 = .ok (.ifCond .lt 7, 3) := by decide +kernel
theorem dX6_aimFault_17 : decode cX6_aimFault 17 = .ok (.iload_n 3, 1) := by decide +kernel
theorem dX6_aimFault_18 : decode cX6_aimFault 18 = .ok (.ifCond .ge 6, 3) := by decide +kernel
theorem dX6_aimFault_21 : decode cX6_aimFault 21 = .ok (.bipush (-4), 2) := by decide +kernel
theorem dX6_aimFault_23 : decode cX6_aimFault 23 = .ok (.ireturn, 1) := by decide +kernel
theorem dX6_aimFault_24 : decode cX6_aimFault 24 = .ok (.iload_n 2, 1) := by decide +kernel
theorem dX6_aimFault_25 : decode cX6_aimFault 25 = .ok (.bipush 20, 2) := by decide +kernel
theorem dX6_aimFault_27 : decode cX6_aimFault 27 = .ok (.if_icmp .gt 9, 3) := by decide +kernel
theorem dX6_aimFault_30 : decode cX6_aimFault 30 = .ok (.iload_n 3, 1) := by decide +kernel
theorem dX6_aimFault_31 : decode cX6_aimFault 31 = .ok (.bipush 30, 2) := by decide +kernel
theorem dX6_aimFault_33 : decode cX6_aimFault 33 = .ok (.if_icmp .le 8, 3) := by decide +kernel
theorem dX6_aimFault_36 : decode cX6_aimFault 36 = .ok (.bipush (-6), 2) := by decide +kernel
theorem dX6_aimFault_38 : decode cX6_aimFault 38 = .ok (.goto 4, 3) := by decide +kernel
theorem dX6_aimFault_41 : decode cX6_aimFault 41 = .ok (.iconst 0, 1) := by decide +kernel
theorem dX6_aimFault_42 : decode cX6_aimFault 42 = .ok (.ireturn, 1) := by decide +kernel
theorem dX6_wetFault_0 : decode cX6_wetFault 0 = .ok (.aload_n 0, 1) := by decide +kernel
theorem dX6_wetFault_1 : decode cX6_wetFault 1 = .ok (.getfield 10, 3) := by decide +kernel
theorem dX6_wetFault_4 : decode cX6_wetFault 4 = .ok (.iload_n 1, 1) := by decide +kernel
theorem dX6_wetFault_5 : decode cX6_wetFault 5 = .ok (.invokevirtual 97, 3) := by decide +kernel
theorem dX6_wetFault_8 : decode cX6_wetFault 8 = .ok (.ifCond .eq 14, 3) := by decide +kernel
theorem dX6_wetFault_11 : decode cX6_wetFault 11 = .ok (.aload_n 0, 1) := by decide +kernel
theorem dX6_wetFault_12 : decode cX6_wetFault 12 = .ok (.getfield 10, 3) := by decide +kernel
theorem dX6_wetFault_15 : decode cX6_wetFault 15 = .ok (.iload_n 2, 1) := by decide +kernel
theorem dX6_wetFault_16 : decode cX6_wetFault 16 = .ok (.invokevirtual 75, 3) := by decide +kernel
theorem dX6_wetFault_19 : decode cX6_wetFault 19 = .ok (.ifCond .ne 5, 3) := by decide +kernel
theorem dX6_wetFault_22 : decode cX6_wetFault 22 = .ok (.iconst (-1), 1) := by decide +kernel
theorem dX6_wetFault_23 : decode cX6_wetFault 23 = .ok (.ireturn, 1) := by decide +kernel
theorem dX6_wetFault_24 : decode cX6_wetFault 24 = .ok (.iload_n 3, 1) := by decide +kernel
theorem dX6_wetFault_25 : decode cX6_wetFault 25 = .ok (.ifCond .lt 14, 3) := by decide +kernel
theorem dX6_wetFault_28 : decode cX6_wetFault 28 = .ok (.iload 5, 2) := by decide +kernel
theorem dX6_wetFault_30 : decode cX6_wetFault 30 = .ok (.ifCond .lt 9, 3) := by decide +kernel
theorem dX6_wetFault_33 : decode cX6_wetFault 33 = .ok (.iload 4, 2) := by decide +kernel
theorem dX6_wetFault_35 : decode cX6_wetFault 35 = .ok (.iconst 2, 1) := by decide +kernel
theorem dX6_wetFault_36 : decode cX6_wetFault 36 = .ok (.if_icmp .ge 6, 3) := by decide +kernel
theorem dX6_wetFault_39 : decode cX6_wetFault 39 = .ok (.bipush (-4), 2) := by decide +kernel
theorem dX6_wetFault_41 : decode cX6_wetFault 41 = .ok (.ireturn, 1) := by decide +kernel
theorem dX6_wetFault_42 : decode cX6_wetFault 42 = .ok (.iload_n 3, 1) := by decide +kernel
theorem dX6_wetFault_43 : decode cX6_wetFault 43 = .ok (.bipush 7, 2) := by decide +kernel
theorem dX6_wetFault_45 : decode cX6_wetFault 45 = .ok (.if_icmp .gt 17, 3) := by decide +kernel
theorem dX6_wetFault_48 : decode cX6_wetFault 48 = .ok (.iload 4, 2) := by decide +kernel
theorem dX6_wetFault_50 : decode cX6_wetFault 50 = .ok (.bipush 20, 2) := by decide +kernel
theorem dX6_wetFault_52 : decode cX6_wetFault 52 = .ok (.if_icmp .gt 10, 3) := by decide +kernel
theorem dX6_wetFault_55 : decode cX6_wetFault 55 = .ok (.iload 5, 2) := by decide +kernel
theorem dX6_wetFault_57 : decode cX6_wetFault 57 = .ok (.bipush 20, 2) := by decide +kernel
theorem dX6_wetFault_59 : decode cX6_wetFault 59 = .ok (.if_icmp .le 8, 3) := by decide +kernel
theorem dX6_wetFault_62 : decode cX6_wetFault 62 = .ok (.bipush (-6), 2) := by decide +kernel
theorem dX6_wetFault_64 : decode cX6_wetFault 64 = .ok (.goto 4, 3) := by decide +kernel
theorem dX6_wetFault_67 : decode cX6_wetFault 67 = .ok (.iconst 0, 1) := by decide +kernel
theorem dX6_wetFault_68 : decode cX6_wetFault 68 = .ok (.ireturn, 1) := by decide +kernel
theorem dX6_hasBit_0 : decode cX6_hasBit 0 = .ok (.iload_n 0, 1) := by decide +kernel
theorem dX6_hasBit_1 : decode cX6_hasBit 1 = .ok (.iconst 1, 1) := by decide +kernel
theorem dX6_hasBit_2 : decode cX6_hasBit 2 = .ok (.iload_n 1, 1) := by decide +kernel
theorem dX6_hasBit_3 : decode cX6_hasBit 3 = .ok (.ishl, 1) := by decide +kernel
theorem dX6_hasBit_4 : decode cX6_hasBit 4 = .ok (.iand, 1) := by decide +kernel
theorem dX6_hasBit_5 : decode cX6_hasBit 5 = .ok (.ifCond .eq 7, 3) := by decide +kernel
theorem dX6_hasBit_8 : decode cX6_hasBit 8 = .ok (.iconst 1, 1) := by decide +kernel
theorem dX6_hasBit_9 : decode cX6_hasBit 9 = .ok (.goto 4, 3) := by decide +kernel
theorem dX6_hasBit_12 : decode cX6_hasBit 12 = .ok (.iconst 0, 1) := by decide +kernel
theorem dX6_hasBit_13 : decode cX6_hasBit 13 = .ok (.ireturn, 1) := by decide +kernel
theorem dX6_power_0 : decode cX6_power 0 = .ok (.lconst 1, 1) := by decide +kernel
theorem dX6_power_1 : decode cX6_power 1 = .ok (.lstore_n 3, 1) := by decide +kernel
theorem dX6_power_2 : decode cX6_power 2 = .ok (.iconst 0, 1) := by decide +kernel
theorem dX6_power_3 : decode cX6_power 3 = .ok (.istore 5, 2) := by decide +kernel
theorem dX6_power_5 : decode cX6_power 5 = .ok (.iload 5, 2) := by decide +kernel
theorem dX6_power_7 : decode cX6_power 7 = .ok (.iload_n 2, 1) := by decide +kernel
theorem dX6_power_8 : decode cX6_power 8 = .ok (.if_icmp .ge 13, 3) := by decide +kernel
theorem dX6_power_11 : decode cX6_power 11 = .ok (.lload_n 3, 1) := by decide +kernel
theorem dX6_power_12 : decode cX6_power 12 = .ok (.lload_n 0, 1) := by decide +kernel
theorem dX6_power_13 : decode cX6_power 13 = .ok (.lmul, 1) := by decide +kernel
theorem dX6_power_14 : decode cX6_power 14 = .ok (.lstore_n 3, 1) := by decide +kernel
theorem dX6_power_15 : decode cX6_power 15 = .ok (.iinc 5 1, 3) := by decide +kernel
theorem dX6_power_18 : decode cX6_power 18 = .ok (.goto (-13), 3) := by decide +kernel
theorem dX6_power_21 : decode cX6_power 21 = .ok (.lload_n 3, 1) := by decide +kernel
theorem dX6_power_22 : decode cX6_power 22 = .ok (.lreturn, 1) := by decide +kernel
theorem dX6_inLeastTerms_0 : decode cX6_inLeastTerms 0 = .ok (.lload_n 2, 1) := by decide +kernel
theorem dX6_inLeastTerms_1 : decode cX6_inLeastTerms 1 = .ok (.lstore 5, 2) := by decide +kernel
theorem dX6_inLeastTerms_3 : decode cX6_inLeastTerms 3 = .ok (.lload_n 0, 1) := by decide +kernel
theorem dX6_inLeastTerms_4 : decode cX6_inLeastTerms 4 = .ok (.lstore 7, 2) := by decide +kernel
theorem dX6_inLeastTerms_6 : decode cX6_inLeastTerms 6 = .ok (.iconst 0, 1) := by decide +kernel
theorem dX6_inLeastTerms_7 : decode cX6_inLeastTerms 7 = .ok (.istore 9, 2) := by decide +kernel
theorem dX6_inLeastTerms_9 : decode cX6_inLeastTerms 9 = .ok (.iload 9, 2) := by decide +kernel
theorem dX6_inLeastTerms_11 : decode cX6_inLeastTerms 11 = .ok (.bipush 100, 2) := by decide +kernel
theorem dX6_inLeastTerms_13 : decode cX6_inLeastTerms 13 = .ok (.if_icmp .ge 31, 3) := by decide +kernel
theorem dX6_inLeastTerms_16 : decode cX6_inLeastTerms 16 = .ok (.lload 7, 2) := by decide +kernel
theorem dX6_inLeastTerms_18 : decode cX6_inLeastTerms 18 = .ok (.lconst 0, 1) := by decide +kernel
theorem dX6_inLeastTerms_19 : decode cX6_inLeastTerms 19 = .ok (.lcmp, 1) := by decide +kernel
theorem dX6_inLeastTerms_20 : decode cX6_inLeastTerms 20 = .ok (.ifCond .eq 24, 3) := by decide +kernel
theorem dX6_inLeastTerms_23 : decode cX6_inLeastTerms 23 = .ok (.lload 5, 2) := by decide +kernel
theorem dX6_inLeastTerms_25 : decode cX6_inLeastTerms 25 = .ok (.lload 7, 2) := by decide +kernel
theorem dX6_inLeastTerms_27 : decode cX6_inLeastTerms 27 = .ok (.lrem, 1) := by decide +kernel
theorem dX6_inLeastTerms_28 : decode cX6_inLeastTerms 28 = .ok (.lstore 10, 2) := by decide +kernel
theorem dX6_inLeastTerms_30 : decode cX6_inLeastTerms 30 = .ok (.lload 7, 2) := by decide +kernel
theorem dX6_inLeastTerms_32 : decode cX6_inLeastTerms 32 = .ok (.lstore 5, 2) := by decide +kernel
theorem dX6_inLeastTerms_34 : decode cX6_inLeastTerms 34 = .ok (.lload 10, 2) := by decide +kernel
theorem dX6_inLeastTerms_36 : decode cX6_inLeastTerms 36 = .ok (.lstore 7, 2) := by decide +kernel
theorem dX6_inLeastTerms_38 : decode cX6_inLeastTerms 38 = .ok (.iinc 9 1, 3) := by decide +kernel
theorem dX6_inLeastTerms_41 : decode cX6_inLeastTerms 41 = .ok (.goto (-32), 3) := by decide +kernel
theorem dX6_inLeastTerms_44 : decode cX6_inLeastTerms 44 = .ok (.lload 5, 2) := by decide +kernel
theorem dX6_inLeastTerms_46 : decode cX6_inLeastTerms 46 = .ok (.lconst 0, 1) := by decide +kernel
theorem dX6_inLeastTerms_47 : decode cX6_inLeastTerms 47 = .ok (.lcmp, 1) := by decide +kernel
theorem dX6_inLeastTerms_48 : decode cX6_inLeastTerms 48 = .ok (.ifCond .ne 7, 3) := by decide +kernel
theorem dX6_inLeastTerms_51 : decode cX6_inLeastTerms 51 = .ok (.iload 4, 2) := by decide +kernel
theorem dX6_inLeastTerms_53 : decode cX6_inLeastTerms 53 = .ok (.i2l, 1) := by decide +kernel
theorem dX6_inLeastTerms_54 : decode cX6_inLeastTerms 54 = .ok (.lreturn, 1) := by decide +kernel
theorem dX6_inLeastTerms_55 : decode cX6_inLeastTerms 55 = .ok (.iload 4, 2) := by decide +kernel
theorem dX6_inLeastTerms_57 : decode cX6_inLeastTerms 57 = .ok (.ifCond .ne 7, 3) := by decide +kernel
theorem dX6_inLeastTerms_60 : decode cX6_inLeastTerms 60 = .ok (.lload_n 0, 1) := by decide +kernel
theorem dX6_inLeastTerms_61 : decode cX6_inLeastTerms 61 = .ok (.goto 4, 3) := by decide +kernel
theorem dX6_inLeastTerms_64 : decode cX6_inLeastTerms 64 = .ok (.lload_n 2, 1) := by decide +kernel
theorem dX6_inLeastTerms_65 : decode cX6_inLeastTerms 65 = .ok (.lload 5, 2) := by decide +kernel
theorem dX6_inLeastTerms_67 : decode cX6_inLeastTerms 67 = .ok (.ldiv, 1) := by decide +kernel
theorem dX6_inLeastTerms_68 : decode cX6_inLeastTerms 68 = .ok (.lreturn, 1) := by decide +kernel
theorem dX7_init_0 : decode cX7_init 0 = .ok (.aload_n 0, 1) := by decide +kernel
theorem dX7_init_1 : decode cX7_init 1 = .ok (.invokespecial 1, 3) := by decide +kernel
theorem dX7_init_4 : decode cX7_init 4 = .ok (.aload_n 0, 1) := by decide +kernel
theorem dX7_init_5 : decode cX7_init 5 = .ok (.bipush 7, 2) := by decide +kernel
theorem dX7_init_7 : decode cX7_init 7 = .ok (.newarray .int, 2) := by decide +kernel
theorem dX7_init_9 : decode cX7_init 9 = .ok (.putfield 7, 3) := by decide +kernel
theorem dX7_init_12 : decode cX7_init 12 = .ok (.aload_n 0, 1) := by decide +kernel
theorem dX7_init_13 : decode cX7_init 13 = .ok (.bipush 8, 2) := by decide +kernel
theorem dX7_init_15 : decode cX7_init 15 = .ok (.newarray .int, 2) := by decide +kernel
theorem dX7_init_17 : decode cX7_init 17 = .ok (.putfield 13, 3) := by decide +kernel
theorem dX7_init_20 : decode cX7_init 20 = .ok (.aload_n 0, 1) := by decide +kernel
theorem dX7_init_21 : decode cX7_init 21 = .ok (.bipush 8, 2) := by decide +kernel
theorem dX7_init_23 : decode cX7_init 23 = .ok (.newarray .int, 2) := by decide +kernel
theorem dX7_init_25 : decode cX7_init 25 = .ok (.putfield 16, 3) := by decide +kernel
theorem dX7_init_28 : decode cX7_init 28 = .ok (.aload_n 0, 1) := by decide +kernel
theorem dX7_init_29 : decode cX7_init 29 = .ok (.bipush 8, 2) := by decide +kernel
theorem dX7_init_31 : decode cX7_init 31 = .ok (.newarray .int, 2) := by decide +kernel
theorem dX7_init_33 : decode cX7_init 33 = .ok (.putfield 19, 3) := by decide +kernel
theorem dX7_init_36 : decode cX7_init 36 = .ok (.aload_n 0, 1) := by decide +kernel
theorem dX7_init_37 : decode cX7_init 37 = .ok (.bipush 8, 2) := by decide +kernel
theorem dX7_init_39 : decode cX7_init 39 = .ok (.newarray .int, 2) := by decide +kernel
theorem dX7_init_41 : decode cX7_init 41 = .ok (.putfield 22, 3) := by decide +kernel
theorem dX7_init_44 : decode cX7_init 44 = .ok (.aload_n 0, 1) := by decide +kernel
theorem dX7_init_45 : decode cX7_init 45 = .ok (.bipush 8, 2) := by decide +kernel
theorem dX7_init_47 : decode cX7_init 47 = .ok (.newarray .int, 2) := by decide +kernel
theorem dX7_init_49 : decode cX7_init 49 = .ok (.putfield 25, 3) := by decide +kernel
theorem dX7_init_52 : decode cX7_init 52 = .ok (.aload_n 0, 1) := by decide +kernel
theorem dX7_init_53 : decode cX7_init 53 = .ok (.bipush 6, 2) := by decide +kernel
theorem dX7_init_55 : decode cX7_init 55 = .ok (.newarray .int, 2) := by decide +kernel
theorem dX7_init_57 : decode cX7_init 57 = .ok (.putfield 28, 3) := by decide +kernel
theorem dX7_init_60 : decode cX7_init 60 = .ok (.aload_n 0, 1) := by decide +kernel
theorem dX7_init_61 : decode cX7_init 61 = .ok (.bipush 6, 2) := by decide +kernel
theorem dX7_init_63 : decode cX7_init 63 = .ok (.newarray .int, 2) := by decide +kernel
theorem dX7_init_65 : decode cX7_init 65 = .ok (.putfield 31, 3) := by decide +kernel
theorem dX7_init_68 : decode cX7_init 68 = .ok (.aload_n 0, 1) := by decide +kernel
theorem dX7_init_69 : decode cX7_init 69 = .ok (.bipush (-9), 2) := by decide +kernel
theorem dX7_init_71 : decode cX7_init 71 = .ok (.putfield 34, 3) := by decide +kernel
theorem dX7_init_74 : decode cX7_init 74 = .ok (.aload_n 0, 1) := by decide +kernel
theorem dX7_init_75 : decode cX7_init 75 = .ok (.bipush 96, 2) := by decide +kernel
theorem dX7_init_77 : decode cX7_init 77 = .ok (.newarray .int, 2) := by decide +kernel
theorem dX7_init_79 : decode cX7_init 79 = .ok (.putfield 38, 3) := by decide +kernel
theorem dX7_init_82 : decode cX7_init 82 = .ok (.aload_n 0, 1) := by decide +kernel
theorem dX7_init_83 : decode cX7_init 83 = .ok (.bipush 48, 2) := by decide +kernel
theorem dX7_init_85 : decode cX7_init 85 = .ok (.newarray .int, 2) := by decide +kernel
theorem dX7_init_87 : decode cX7_init 87 = .ok (.putfield 41, 3) := by decide +kernel
theorem dX7_init_90 : decode cX7_init 90 = .ok (.aload_n 0, 1) := by decide +kernel
theorem dX7_init_91 : decode cX7_init 91 = .ok (.bipush 48, 2) := by decide +kernel
theorem dX7_init_93 : decode cX7_init 93 = .ok (.newarray .int, 2) := by decide +kernel
theorem dX7_init_95 : decode cX7_init 95 = .ok (.putfield 44, 3) := by decide +kernel
theorem dX7_init_98 : decode cX7_init 98 = .ok (.aload_n 0, 1) := by decide +kernel
theorem dX7_init_99 : decode cX7_init 99 = .ok (.sipush 144, 3) := by decide +kernel
theorem dX7_init_102 : decode cX7_init 102 = .ok (.newarray .int, 2) := by decide +kernel
theorem dX7_init_104 : decode cX7_init 104 = .ok (.putfield 47, 3) := by decide +kernel
theorem dX7_init_107 : decode cX7_init 107 = .ok (.aload_n 0, 1) := by decide +kernel
theorem dX7_init_108 : decode cX7_init 108 = .ok (.sipush 165, 3) := by decide +kernel
theorem dX7_init_111 : decode cX7_init 111 = .ok (.newarray .int, 2) := by decide +kernel
theorem dX7_init_113 : decode cX7_init 113 = .ok (.putfield 50, 3) := by decide +kernel
theorem dX7_init_116 : decode cX7_init 116 = .ok (.aload_n 0, 1) := by decide +kernel
theorem dX7_init_117 : decode cX7_init 117 = .ok (.bipush 8, 2) := by decide +kernel
theorem dX7_init_119 : decode cX7_init 119 = .ok (.newarray .int, 2) := by decide +kernel
theorem dX7_init_121 : decode cX7_init 121 = .ok (.putfield 53, 3) := by decide +kernel
theorem dX7_init_124 : decode cX7_init 124 = .ok (.aload_n 0, 1) := by decide +kernel
theorem dX7_init_125 : decode cX7_init 125 = .ok (.iconst 4, 1) := by decide +kernel
theorem dX7_init_126 : decode cX7_init 126 = .ok (.newarray .int, 2) := by decide +kernel
theorem dX7_init_128 : decode cX7_init 128 = .ok (.putfield 56, 3) := by decide +kernel
theorem dX7_init_131 : decode cX7_init 131 = .ok (.aload_n 0, 1) := by decide +kernel
theorem dX7_init_132 : decode cX7_init 132 = .ok (.bipush 16, 2) := by decide +kernel
theorem dX7_init_134 : decode cX7_init 134 = .ok (.newarray .int, 2) := by decide +kernel
theorem dX7_init_136 : decode cX7_init 136 = .ok (.putfield 59, 3) := by decide +kernel
theorem dX7_init_139 : decode cX7_init 139 = .ok (.aload_n 0, 1) := by decide +kernel
theorem dX7_init_140 : decode cX7_init 140 = .ok (.iconst 0, 1) := by decide +kernel
theorem dX7_init_141 : decode cX7_init 141 = .ok (.putfield 62, 3) := by decide +kernel
theorem dX7_init_144 : decode cX7_init 144 = .ok (.return_, 1) := by decide +kernel
theorem dX7_no_0 : decode cX7_no 0 = .ok (.aload_n 0, 1) := by decide +kernel
theorem dX7_no_1 : decode cX7_no 1 = .ok (.getfield 7, 3) := by decide +kernel
theorem dX7_no_4 : decode cX7_no 4 = .ok (.iload_n 1, 1) := by decide +kernel
theorem dX7_no_5 : decode cX7_no 5 = .ok (.ineg, 1) := by decide +kernel
theorem dX7_no_6 : decode cX7_no 6 = .ok (.dup2, 1) := by decide +kernel
theorem dX7_no_7 : decode cX7_no 7 = .ok (.iaload, 1) := by decide +kernel
theorem dX7_no_8 : decode cX7_no 8 = .ok (.iconst 1, 1) := by decide +kernel
theorem dX7_no_9 : decode cX7_no 9 = .ok (.iadd, 1) := by decide +kernel
theorem dX7_no_10 : decode cX7_no 10 = .ok (.iastore, 1) := by decide +kernel
theorem dX7_no_11 : decode cX7_no 11 = .ok (.iload_n 1, 1) := by decide +kernel
theorem dX7_no_12 : decode cX7_no 12 = .ok (.ireturn, 1) := by decide +kernel
theorem dX7_lowest_0 : decode cX7_lowest 0 = .ok (.aload_n 0, 1) := by decide +kernel
theorem dX7_lowest_1 : decode cX7_lowest 1 = .ok (.getfield 7, 3) := by decide +kernel
theorem dX7_lowest_4 : decode cX7_lowest 4 = .ok (.iload_n 1, 1) := by decide +kernel
theorem dX7_lowest_5 : decode cX7_lowest 5 = .ok (.ineg, 1) := by decide +kernel
theorem dX7_lowest_6 : decode cX7_lowest 6 = .ok (.dup2, 1) := by decide +kernel
theorem dX7_lowest_7 : decode cX7_lowest 7 = .ok (.iaload, 1) := by decide +kernel
theorem dX7_lowest_8 : decode cX7_lowest 8 = .ok (.iconst 1, 1) := by decide +kernel
theorem dX7_lowest_9 : decode cX7_lowest 9 = .ok (.iadd, 1) := by decide +kernel
theorem dX7_lowest_10 : decode cX7_lowest 10 = .ok (.iastore, 1) := by decide +kernel
theorem dX7_lowest_11 : decode cX7_lowest 11 = .ok (.ldc2_w 65, 3) := by decide +kernel
theorem dX7_lowest_14 : decode cX7_lowest 14 = .ok (.iload_n 1, 1) := by decide +kernel
theorem dX7_lowest_15 : decode cX7_lowest 15 = .ok (.i2l, 1) := by decide +kernel
theorem dX7_lowest_16 : decode cX7_lowest 16 = .ok (.lsub, 1) := by decide +kernel
theorem dX7_lowest_17 : decode cX7_lowest 17 = .ok (.lreturn, 1) := by decide +kernel
theorem dX7_isIn_0 : decode cX7_isIn 0 = .ok (.iload_n 0, 1) := by decide +kernel
theorem dX7_isIn_1 : decode cX7_isIn 1 = .ok (.iload_n 1, 1) := by decide +kernel
theorem dX7_isIn_2 : decode cX7_isIn 2 = .ok (.if_icmp .lt 12, 3) := by decide +kernel
theorem dX7_isIn_5 : decode cX7_isIn 5 = .ok (.iload_n 0, 1) := by decide +kernel
theorem dX7_isIn_6 : decode cX7_isIn 6 = .ok (.iload_n 2, 1) := by decide +kernel
theorem dX7_isIn_7 : decode cX7_isIn 7 = .ok (.if_icmp .gt 7, 3) := by decide +kernel
theorem dX7_isIn_10 : decode cX7_isIn 10 = .ok (.iconst 1, 1) := by decide +kernel
theorem dX7_isIn_11 : decode cX7_isIn 11 = .ok (.goto 4, 3) := by decide +kernel
theorem dX7_isIn_14 : decode cX7_isIn 14 = .ok (.iconst 0, 1) := by decide +kernel
theorem dX7_isIn_15 : decode cX7_isIn 15 = .ok (.ireturn, 1) := by decide +kernel
theorem dX7_bound_0 : decode cX7_bound 0 = .ok (.iload_n 0, 1) := by decide +kernel
theorem dX7_bound_1 : decode cX7_bound 1 = .ok (.iload_n 1, 1) := by decide +kernel
theorem dX7_bound_2 : decode cX7_bound 2 = .ok (.if_icmp .ge 8, 3) := by decide +kernel
theorem dX7_bound_5 : decode cX7_bound 5 = .ok (.bipush (-4), 2) := by decide +kernel
theorem dX7_bound_7 : decode cX7_bound 7 = .ok (.goto 14, 3) := by decide +kernel
theorem dX7_bound_10 : decode cX7_bound 10 = .ok (.iload_n 0, 1) := by decide +kernel
theorem dX7_bound_11 : decode cX7_bound 11 = .ok (.iload_n 2, 1) := by decide +kernel
theorem dX7_bound_12 : decode cX7_bound 12 = .ok (.if_icmp .le 8, 3) := by decide +kernel
theorem dX7_bound_15 : decode cX7_bound 15 = .ok (.bipush (-6), 2) := by decide +kernel
theorem dX7_bound_17 : decode cX7_bound 17 = .ok (.goto 4, 3) := by decide +kernel
theorem dX7_bound_20 : decode cX7_bound 20 = .ok (.iconst 0, 1) := by decide +kernel
theorem dX7_bound_21 : decode cX7_bound 21 = .ok (.ireturn, 1) := by decide +kernel
theorem dX7_held_0 : decode cX7_held 0 = .ok (.iload_n 0, 1) := by decide +kernel
theorem dX7_held_1 : decode cX7_held 1 = .ok (.iload_n 1, 1) := by decide +kernel
theorem dX7_held_2 : decode cX7_held 2 = .ok (.if_icmp .ge 7, 3) := by decide +kernel
theorem dX7_held_5 : decode cX7_held 5 = .ok (.iload_n 1, 1) := by decide +kernel
theorem dX7_held_6 : decode cX7_held 6 = .ok (.goto 13, 3) := by decide +kernel
theorem dX7_held_9 : decode cX7_held 9 = .ok (.iload_n 0, 1) := by decide +kernel
theorem dX7_held_10 : decode cX7_held 10 = .ok (.iload_n 2, 1) := by decide +kernel
theorem dX7_held_11 : decode cX7_held 11 = .ok (.if_icmp .le 7, 3) := by decide +kernel
theorem dX7_held_14 : decode cX7_held 14 = .ok (.iload_n 2, 1) := by decide +kernel
theorem dX7_held_15 : decode cX7_held 15 = .ok (.goto 4, 3) := by decide +kernel
theorem dX7_held_18 : decode cX7_held 18 = .ok (.iload_n 0, 1) := by decide +kernel
theorem dX7_held_19 : decode cX7_held 19 = .ok (.ireturn, 1) := by decide +kernel
theorem dX7_has_0 : decode cX7_has 0 = .ok (.iload_n 0, 1) := by decide +kernel
theorem dX7_has_1 : decode cX7_has 1 = .ok (.iload_n 1, 1) := by decide +kernel
theorem dX7_has_2 : decode cX7_has 2 = .ok (.ishr, 1) := by decide +kernel
theorem dX7_has_3 : decode cX7_has 3 = .ok (.iconst 1, 1) := by decide +kernel
theorem dX7_has_4 : decode cX7_has 4 = .ok (.iand, 1) := by decide +kernel
theorem dX7_has_5 : decode cX7_has 5 = .ok (.iconst 1, 1) := by decide +kernel
theorem dX7_has_6 : decode cX7_has 6 = .ok (.if_icmp .ne 7, 3) := by decide +kernel
theorem dX7_has_9 : decode cX7_has 9 = .ok (.iconst 1, 1) := by decide +kernel
theorem dX7_has_10 : decode cX7_has 10 = .ok (.goto 4, 3) := by decide +kernel
theorem dX7_has_13 : decode cX7_has 13 = .ok (.iconst 0, 1) := by decide +kernel
theorem dX7_has_14 : decode cX7_has 14 = .ok (.ireturn, 1) := by decide +kernel
theorem dX7_bits_0 : decode cX7_bits 0 = .ok (.iconst 0, 1) := by decide +kernel
theorem dX7_bits_1 : decode cX7_bits 1 = .ok (.istore_n 1, 1) := by decide +kernel
theorem dX7_bits_2 : decode cX7_bits 2 = .ok (.iconst 0, 1) := by decide +kernel
theorem dX7_bits_3 : decode cX7_bits 3 = .ok (.istore_n 2, 1) := by decide +kernel
theorem dX7_bits_4 : decode cX7_bits 4 = .ok (.iload_n 2, 1) := by decide +kernel
theorem dX7_bits_5 : decode cX7_bits 5 = .ok (.bipush 31, 2) := by decide +kernel
theorem dX7_bits_7 : decode cX7_bits 7 = .ok (.if_icmp .ge 17, 3) := by decide +kernel
theorem dX7_bits_10 : decode cX7_bits 10 = .ok (.iload_n 1, 1) := by decide +kernel
theorem dX7_bits_11 : decode cX7_bits 11 = .ok (.iload_n 0, 1) := by decide +kernel
theorem dX7_bits_12 : decode cX7_bits 12 = .ok (.iload_n 2, 1) := by decide +kernel
theorem dX7_bits_13 : decode cX7_bits 13 = .ok (.ishr, 1) := by decide +kernel
theorem dX7_bits_14 : decode cX7_bits 14 = .ok (.iconst 1, 1) := by decide +kernel
theorem dX7_bits_15 : decode cX7_bits 15 = .ok (.iand, 1) := by decide +kernel
theorem dX7_bits_16 : decode cX7_bits 16 = .ok (.iadd, 1) := by decide +kernel
theorem dX7_bits_17 : decode cX7_bits 17 = .ok (.istore_n 1, 1) := by decide +kernel
theorem dX7_bits_18 : decode cX7_bits 18 = .ok (.iinc 2 1, 3) := by decide +kernel
theorem dX7_bits_21 : decode cX7_bits 21 = .ok (.goto (-17), 3) := by decide +kernel
theorem dX7_bits_24 : decode cX7_bits 24 = .ok (.iload_n 1, 1) := by decide +kernel
theorem dX7_bits_25 : decode cX7_bits 25 = .ok (.ireturn, 1) := by decide +kernel
theorem dX7_far_0 : decode cX7_far 0 = .ok (.iload_n 0, 1) := by decide +kernel
theorem dX7_far_1 : decode cX7_far 1 = .ok (.iload_n 1, 1) := by decide +kernel
theorem dX7_far_2 : decode cX7_far 2 = .ok (.if_icmp .le 9, 3) := by decide +kernel
theorem dX7_far_5 : decode cX7_far 5 = .ok (.iload_n 0, 1) := by decide +kernel
theorem dX7_far_6 : decode cX7_far 6 = .ok (.iload_n 1, 1) := by decide +kernel
theorem dX7_far_7 : decode cX7_far 7 = .ok (.isub, 1) := by decide +kernel
theorem dX7_far_8 : decode cX7_far 8 = .ok (.goto 6, 3) := by decide +kernel
theorem dX7_far_11 : decode cX7_far 11 = .ok (.iload_n 1, 1) := by decide +kernel
theorem dX7_far_12 : decode cX7_far 12 = .ok (.iload_n 0, 1) := by decide +kernel
theorem dX7_far_13 : decode cX7_far 13 = .ok (.isub, 1) := by decide +kernel
theorem dX7_far_14 : decode cX7_far 14 = .ok (.ireturn, 1) := by decide +kernel
theorem dX7_isThing_0 : decode cX7_isThing 0 = .ok (.iload_n 1, 1) := by decide +kernel
theorem dX7_isThing_1 : decode cX7_isThing 1 = .ok (.ifCond .lt 15, 3) := by decide +kernel
theorem dX7_isThing_4 : decode cX7_isThing 4 = .ok (.iload_n 1, 1) := by decide +kernel
theorem dX7_isThing_5 : decode cX7_isThing 5 = .ok (.aload_n 0, 1) := by decide +kernel
theorem dX7_isThing_6 : decode cX7_isThing 6 = .ok (.getfield 62, 3) := by decide +kernel
theorem dX7_isThing_9 : decode cX7_isThing 9 = .ok (.if_icmp .ge 7, 3) := by decide +kernel
theorem dX7_isThing_12 : decode cX7_isThing 12 = .ok (.iconst 1, 1) := by decide +kernel
theorem dX7_isThing_13 : decode cX7_isThing 13 = .ok (.goto 4, 3) := by decide +kernel
theorem dX7_isThing_16 : decode cX7_isThing 16 = .ok (.iconst 0, 1) := by decide +kernel
theorem dX7_isThing_17 : decode cX7_isThing 17 = .ok (.ireturn, 1) := by decide +kernel
theorem dX7_isRope_0 : decode cX7_isRope 0 = .ok (.iload_n 1, 1) := by decide +kernel
theorem dX7_isRope_1 : decode cX7_isRope 1 = .ok (.ifCond .lt 15, 3) := by decide +kernel
theorem dX7_isRope_4 : decode cX7_isRope 4 = .ok (.iload_n 1, 1) := by decide +kernel
theorem dX7_isRope_5 : decode cX7_isRope 5 = .ok (.aload_n 0, 1) := by decide +kernel
theorem dX7_isRope_6 : decode cX7_isRope 6 = .ok (.getfield 67, 3) := by decide +kernel
theorem dX7_isRope_9 : decode cX7_isRope 9 = .ok (.if_icmp .ge 7, 3) := by decide +kernel
theorem dX7_isRope_12 : decode cX7_isRope 12 = .ok (.iconst 1, 1) := by decide +kernel
theorem dX7_isRope_13 : decode cX7_isRope 13 = .ok (.goto 4, 3) := by decide +kernel
theorem dX7_isRope_16 : decode cX7_isRope 16 = .ok (.iconst 0, 1) := by decide +kernel
theorem dX7_isRope_17 : decode cX7_isRope 17 = .ok (.ireturn, 1) := by decide +kernel
theorem dX7_areTwo_0 : decode cX7_areTwo 0 = .ok (.aload_n 0, 1) := by decide +kernel
theorem dX7_areTwo_1 : decode cX7_areTwo 1 = .ok (.iload_n 1, 1) := by decide +kernel
theorem dX7_areTwo_2 : decode cX7_areTwo 2 = .ok (.invokevirtual 70, 3) := by decide +kernel
theorem dX7_areTwo_5 : decode cX7_areTwo 5 = .ok (.ifCond .eq 20, 3) := by decide +kernel
theorem dX7_areTwo_8 : decode cX7_areTwo 8 = .ok (.aload_n 0, 1) := by decide +kernel
theorem dX7_areTwo_9 : decode cX7_areTwo 9 = .ok (.iload_n 2, 1) := by decide +kernel
theorem dX7_areTwo_10 : decode cX7_areTwo 10 = .ok (.invokevirtual 70, 3) := by decide +kernel
theorem dX7_areTwo_13 : decode cX7_areTwo 13 = .ok (.ifCond .eq 12, 3) := by decide +kernel
theorem dX7_areTwo_16 : decode cX7_areTwo 16 = .ok (.iload_n 1, 1) := by decide +kernel
theorem dX7_areTwo_17 : decode cX7_areTwo 17 = .ok (.iload_n 2, 1) := by decide +kernel
theorem dX7_areTwo_18 : decode cX7_areTwo 18 = .ok (.if_icmp .eq 7, 3) := by decide +kernel
theorem dX7_areTwo_21 : decode cX7_areTwo 21 = .ok (.iconst 1, 1) := by decide +kernel
theorem dX7_areTwo_22 : decode cX7_areTwo 22 = .ok (.goto 4, 3) := by decide +kernel
theorem dX7_areTwo_25 : decode cX7_areTwo 25 = .ok (.iconst 0, 1) := by decide +kernel
theorem dX7_areTwo_26 : decode cX7_areTwo 26 = .ok (.ireturn, 1) := by decide +kernel
theorem dX7_letter_0 : decode cX7_letter 0 = .ok (.iload_n 1, 1) := by decide +kernel
theorem dX7_letter_1 : decode cX7_letter 1 = .ok (.iconst 0, 1) := by decide +kernel
theorem dX7_letter_2 : decode cX7_letter 2 = .ok (.sipush 255, 3) := by decide +kernel
theorem dX7_letter_5 : decode cX7_letter 5 = .ok (.invokestatic 74, 3) := by decide +kernel
theorem dX7_letter_8 : decode cX7_letter 8 = .ok (.istore_n 2, 1) := by decide +kernel
theorem dX7_letter_9 : decode cX7_letter 9 = .ok (.iload_n 2, 1) := by decide +kernel
theorem dX7_letter_10 : decode cX7_letter 10 = .ok (.ifCond .ne 15, 3) := by decide +kernel
theorem dX7_letter_13 : decode cX7_letter 13 = .ok (.aload_n 0, 1) := by decide +kernel
theorem dX7_letter_14 : decode cX7_letter 14 = .ok (.getfield 78, 3) := by decide +kernel
theorem dX7_letter_17 : decode cX7_letter 17 = .ok (.bipush 96, 2) := by decide +kernel
theorem dX7_letter_19 : decode cX7_letter 19 = .ok (.if_icmp .ne 6, 3) := by decide +kernel
theorem dX7_letter_22 : decode cX7_letter 22 = .ok (.bipush (-6), 2) := by decide +kernel
theorem dX7_letter_24 : decode cX7_letter 24 = .ok (.istore_n 2, 1) := by decide +kernel
theorem dX7_letter_25 : decode cX7_letter 25 = .ok (.iload_n 2, 1) := by decide +kernel
theorem dX7_letter_26 : decode cX7_letter 26 = .ok (.ifCond .eq 9, 3) := by decide +kernel
theorem dX7_letter_29 : decode cX7_letter 29 = .ok (.aload_n 0, 1) := by decide +kernel
theorem dX7_letter_30 : decode cX7_letter 30 = .ok (.iload_n 2, 1) := by decide +kernel
theorem dX7_letter_31 : decode cX7_letter 31 = .ok (.invokevirtual 81, 3) := by decide +kernel
theorem dX7_letter_34 : decode cX7_letter 34 = .ok (.ireturn, 1) := by decide +kernel
theorem dX7_letter_35 : decode cX7_letter 35 = .ok (.aload_n 0, 1) := by decide +kernel
theorem dX7_letter_36 : decode cX7_letter 36 = .ok (.getfield 38, 3) := by decide +kernel
theorem dX7_letter_39 : decode cX7_letter 39 = .ok (.aload_n 0, 1) := by decide +kernel
theorem dX7_letter_40 : decode cX7_letter 40 = .ok (.getfield 78, 3) := by decide +kernel
theorem dX7_letter_43 : decode cX7_letter 43 = .ok (.iload_n 1, 1) := by decide +kernel
theorem dX7_letter_44 : decode cX7_letter 44 = .ok (.iastore, 1) := by decide +kernel
theorem dX7_letter_45 : decode cX7_letter 45 = .ok (.aload_n 0, 1) := by decide +kernel
theorem dX7_letter_46 : decode cX7_letter 46 = .ok (.dup, 1) := by decide +kernel
theorem dX7_letter_47 : decode cX7_letter 47 = .ok (.getfield 78, 3) := by decide +kernel
theorem dX7_letter_50 : decode cX7_letter 50 = .ok (.iconst 1, 1) := by decide +kernel
theorem dX7_letter_51 : decode cX7_letter 51 = .ok (.iadd, 1) := by decide +kernel
theorem dX7_letter_52 : decode cX7_letter 52 = .ok (.putfield 78, 3) := by decide +kernel
theorem dX7_letter_55 : decode cX7_letter 55 = .ok (.aload_n 0, 1) := by decide +kernel
theorem dX7_letter_56 : decode cX7_letter 56 = .ok (.getfield 78, 3) := by decide +kernel
theorem dX7_letter_59 : decode cX7_letter 59 = .ok (.ireturn, 1) := by decide +kernel
theorem dX7_next_0 : decode cX7_next 0 = .ok (.aload_n 0, 1) := by decide +kernel
theorem dX7_next_1 : decode cX7_next 1 = .ok (.getfield 85, 3) := by decide +kernel
theorem dX7_next_4 : decode cX7_next 4 = .ok (.aload_n 0, 1) := by decide +kernel
theorem dX7_next_5 : decode cX7_next 5 = .ok (.getfield 78, 3) := by decide +kernel
theorem dX7_next_8 : decode cX7_next 8 = .ok (.if_icmp .ge 15, 3) := by decide +kernel
theorem dX7_next_11 : decode cX7_next 11 = .ok (.aload_n 0, 1) := by decide +kernel
theorem dX7_next_12 : decode cX7_next 12 = .ok (.getfield 38, 3) := by decide +kernel
theorem dX7_next_15 : decode cX7_next 15 = .ok (.aload_n 0, 1) := by decide +kernel
theorem dX7_next_16 : decode cX7_next 16 = .ok (.getfield 85, 3) := by decide +kernel
theorem dX7_next_19 : decode cX7_next 19 = .ok (.iaload, 1) := by decide +kernel
theorem dX7_next_20 : decode cX7_next 20 = .ok (.goto 4, 3) := by decide +kernel
theorem dX7_next_23 : decode cX7_next 23 = .ok (.iconst (-1), 1) := by decide +kernel
theorem dX7_next_24 : decode cX7_next 24 = .ok (.ireturn, 1) := by decide +kernel
theorem dX7_readsDigits_0 : decode cX7_readsDigits 0 = .ok (.iconst 0, 1) := by decide +kernel
theorem dX7_readsDigits_1 : decode cX7_readsDigits 1 = .ok (.istore_n 3, 1) := by decide +kernel
theorem dX7_readsDigits_2 : decode cX7_readsDigits 2 = .ok (.iconst 0, 1) := by decide +kernel
theorem dX7_readsDigits_3 : decode cX7_readsDigits 3 = .ok (.istore 4, 2) := by decide +kernel
theorem dX7_readsDigits_5 : decode cX7_readsDigits 5 = .ok (.iload 4, 2) := by decide +kernel
theorem dX7_readsDigits_7 : decode cX7_readsDigits 7 = .ok (.iload_n 2, 1) := by decide +kernel
theorem dX7_readsDigits_8 : decode cX7_readsDigits 8 = .ok (.if_icmp .ge 48, 3) := by decide +kernel
theorem dX7_readsDigits_11 : decode cX7_readsDigits 11 = .ok (.aload_n 0, 1) := by decide +kernel
theorem dX7_readsDigits_12 : decode cX7_readsDigits 12 = .ok (.invokevirtual 88, 3) := by decide +kernel
theorem dX7_readsDigits_15 : decode cX7_readsDigits 15 = .ok (.bipush 48, 2) := by decide +kernel
theorem dX7_readsDigits_17 : decode cX7_readsDigits 17 = .ok (.bipush 57, 2) := by decide +kernel
theorem dX7_readsDigits_19 : decode cX7_readsDigits 19 = .ok (.invokestatic 92, 3) := by decide +kernel
theorem dX7_readsDigits_22 : decode cX7_readsDigits 22 = .ok (.ifCond .ne 5, 3) := by decide +kernel
theorem dX7_readsDigits_25 : decode cX7_readsDigits 25 = .ok (.iconst 0, 1) := by decide +kernel
theorem dX7_readsDigits_26 : decode cX7_readsDigits 26 = .ok (.ireturn, 1) := by decide +kernel
theorem dX7_readsDigits_27 : decode cX7_readsDigits 27 = .ok (.bipush 10, 2) := by decide +kernel
theorem dX7_readsDigits_29 : decode cX7_readsDigits 29 = .ok (.iload_n 3, 1) := by decide +kernel
theorem dX7_readsDigits_30 : decode cX7_readsDigits 30 = .ok (.imul, 1) := by decide +kernel
theorem dX7_readsDigits_31 : decode cX7_readsDigits 31 = .ok (.aload_n 0, 1) := by decide +kernel
theorem dX7_readsDigits_32 : decode cX7_readsDigits 32 = .ok (.invokevirtual 88, 3) := by decide +kernel
theorem dX7_readsDigits_35 : decode cX7_readsDigits 35 = .ok (.iadd, 1) := by decide +kernel
theorem dX7_readsDigits_36 : decode cX7_readsDigits 36 = .ok (.bipush 48, 2) := by decide +kernel
theorem dX7_readsDigits_38 : decode cX7_readsDigits 38 = .ok (.isub, 1) := by decide +kernel
theorem dX7_readsDigits_39 : decode cX7_readsDigits 39 = .ok (.istore_n 3, 1) := by decide +kernel
theorem dX7_readsDigits_40 : decode cX7_readsDigits 40 = .ok (.aload_n 0, 1) := by decide +kernel
theorem dX7_readsDigits_41 : decode cX7_readsDigits 41 = .ok (.dup, 1) := by decide +kernel
theorem dX7_readsDigits_42 : decode cX7_readsDigits 42 = .ok (.getfield 85, 3) := by decide +kernel
theorem dX7_readsDigits_45 : decode cX7_readsDigits 45 = .ok (.iconst 1, 1) := by decide +kernel
theorem dX7_readsDigits_46 : decode cX7_readsDigits 46 = .ok (.iadd, 1) := by decide +kernel
theorem dX7_readsDigits_47 : decode cX7_readsDigits 47 = .ok (.putfield 85, 3) := by decide +kernel
theorem dX7_readsDigits_50 : decode cX7_readsDigits 50 = .ok (.iinc 4 1, 3) := by decide +kernel
theorem dX7_readsDigits_53 : decode cX7_readsDigits 53 = .ok (.goto (-48), 3) := by decide +kernel
theorem dX7_readsDigits_56 : decode cX7_readsDigits 56 = .ok (.aload_n 0, 1) := by decide +kernel
theorem dX7_readsDigits_57 : decode cX7_readsDigits 57 = .ok (.getfield 47, 3) := by decide +kernel
theorem dX7_readsDigits_60 : decode cX7_readsDigits 60 = .ok (.iload_n 1, 1) := by decide +kernel
theorem dX7_readsDigits_61 : decode cX7_readsDigits 61 = .ok (.iload_n 3, 1) := by decide +kernel
theorem dX7_readsDigits_62 : decode cX7_readsDigits 62 = .ok (.iastore, 1) := by decide +kernel
theorem dX7_readsDigits_63 : decode cX7_readsDigits 63 = .ok (.iconst 1, 1) := by decide +kernel
theorem dX7_readsDigits_64 : decode cX7_readsDigits 64 = .ok (.ireturn, 1) := by decide +kernel
theorem dX7_kindOf_0 : decode cX7_kindOf 0 = .ok (.iload_n 0, 1) := by decide +kernel
theorem dX7_kindOf_1 : decode cX7_kindOf 1 = .ok (.bipush 116, 2) := by decide +kernel
theorem dX7_kindOf_3 : decode cX7_kindOf 3 = .ok (.if_icmp .ne 7, 3) := by decide +kernel
theorem dX7_kindOf_6 : decode cX7_kindOf 6 = .ok (.iconst 0, 1) := by decide +kernel
theorem dX7_kindOf_7 : decode cX7_kindOf 7 = .ok (.goto 54, 3) := by decide +kernel
theorem dX7_kindOf_10 : decode cX7_kindOf 10 = .ok (.iload_n 0, 1) := by decide +kernel
theorem dX7_kindOf_11 : decode cX7_kindOf 11 = .ok (.bipush 112, 2) := by decide +kernel
theorem dX7_kindOf_13 : decode cX7_kindOf 13 = .ok (.if_icmp .ne 7, 3) := by decide +kernel
theorem dX7_kindOf_16 : decode cX7_kindOf 16 = .ok (.iconst 1, 1) := by decide +kernel
theorem dX7_kindOf_17 : decode cX7_kindOf 17 = .ok (.goto 44, 3) := by decide +kernel
theorem dX7_kindOf_20 : decode cX7_kindOf 20 = .ok (.iload_n 0, 1) := by decide +kernel
theorem dX7_kindOf_21 : decode cX7_kindOf 21 = .ok (.bipush 98, 2) := by decide +kernel
theorem dX7_kindOf_23 : decode cX7_kindOf 23 = .ok (.if_icmp .ne 7, 3) := by decide +kernel
theorem dX7_kindOf_26 : decode cX7_kindOf 26 = .ok (.iconst 2, 1) := by decide +kernel
theorem dX7_kindOf_27 : decode cX7_kindOf 27 = .ok (.goto 34, 3) := by decide +kernel
theorem dX7_kindOf_30 : decode cX7_kindOf 30 = .ok (.iload_n 0, 1) := by decide +kernel
theorem dX7_kindOf_31 : decode cX7_kindOf 31 = .ok (.bipush 115, 2) := by decide +kernel
theorem dX7_kindOf_33 : decode cX7_kindOf 33 = .ok (.if_icmp .ne 7, 3) := by decide +kernel
theorem dX7_kindOf_36 : decode cX7_kindOf 36 = .ok (.iconst 3, 1) := by decide +kernel
theorem dX7_kindOf_37 : decode cX7_kindOf 37 = .ok (.goto 24, 3) := by decide +kernel
theorem dX7_kindOf_40 : decode cX7_kindOf 40 = .ok (.iload_n 0, 1) := by decide +kernel
theorem dX7_kindOf_41 : decode cX7_kindOf 41 = .ok (.bipush 102, 2) := by decide +kernel
theorem dX7_kindOf_43 : decode cX7_kindOf 43 = .ok (.if_icmp .ne 7, 3) := by decide +kernel
theorem dX7_kindOf_46 : decode cX7_kindOf 46 = .ok (.iconst 4, 1) := by decide +kernel
theorem dX7_kindOf_47 : decode cX7_kindOf 47 = .ok (.goto 14, 3) := by decide +kernel
theorem dX7_kindOf_50 : decode cX7_kindOf 50 = .ok (.iload_n 0, 1) := by decide +kernel
theorem dX7_kindOf_51 : decode cX7_kindOf 51 = .ok (.bipush 105, 2) := by decide +kernel
theorem dX7_kindOf_53 : decode cX7_kindOf 53 = .ok (.if_icmp .ne 7, 3) := by decide +kernel
theorem dX7_kindOf_56 : decode cX7_kindOf 56 = .ok (.iconst 5, 1) := by decide +kernel
theorem dX7_kindOf_57 : decode cX7_kindOf 57 = .ok (.goto 4, 3) := by decide +kernel
theorem dX7_kindOf_60 : decode cX7_kindOf 60 = .ok (.iconst (-1), 1) := by decide +kernel
theorem dX7_kindOf_61 : decode cX7_kindOf 61 = .ok (.ireturn, 1) := by decide +kernel
theorem dX7_readsThing_0 : decode cX7_readsThing 0 = .ok (.aload_n 0, 1) := by decide +kernel
theorem dX7_readsThing_1 : decode cX7_readsThing 1 = .ok (.getfield 47, 3) := by decide +kernel
theorem dX7_readsThing_4 : decode cX7_readsThing 4 = .ok (.iload_n 1, 1) := by decide +kernel
theorem dX7_readsThing_5 : decode cX7_readsThing 5 = .ok (.aload_n 0, 1) := by decide +kernel
theorem dX7_readsThing_6 : decode cX7_readsThing 6 = .ok (.invokevirtual 88, 3) := by decide +kernel
theorem dX7_readsThing_9 : decode cX7_readsThing 9 = .ok (.invokestatic 96, 3) := by decide +kernel
theorem dX7_readsThing_12 : decode cX7_readsThing 12 = .ok (.iastore, 1) := by decide +kernel
theorem dX7_readsThing_13 : decode cX7_readsThing 13 = .ok (.aload_n 0, 1) := by decide +kernel
theorem dX7_readsThing_14 : decode cX7_readsThing 14 = .ok (.getfield 47, 3) := by decide +kernel
theorem dX7_readsThing_17 : decode cX7_readsThing 17 = .ok (.iload_n 1, 1) := by decide +kernel
theorem dX7_readsThing_18 : decode cX7_readsThing 18 = .ok (.iaload, 1) := by decide +kernel
theorem dX7_readsThing_19 : decode cX7_readsThing 19 = .ok (.ifCond .ge 5, 3) := by decide +kernel
theorem dX7_readsThing_22 : decode cX7_readsThing 22 = .ok (.iconst 0, 1) := by decide +kernel
theorem dX7_readsThing_23 : decode cX7_readsThing 23 = .ok (.ireturn, 1) := by decide +kernel
theorem dX7_readsThing_24 : decode cX7_readsThing 24 = .ok (.aload_n 0, 1) := by decide +kernel
theorem dX7_readsThing_25 : decode cX7_readsThing 25 = .ok (.dup, 1) := by decide +kernel
theorem dX7_readsThing_26 : decode cX7_readsThing 26 = .ok (.getfield 85, 3) := by decide +kernel
theorem dX7_readsThing_29 : decode cX7_readsThing 29 = .ok (.iconst 1, 1) := by decide +kernel
theorem dX7_readsThing_30 : decode cX7_readsThing 30 = .ok (.iadd, 1) := by decide +kernel
theorem dX7_readsThing_31 : decode cX7_readsThing 31 = .ok (.putfield 85, 3) := by decide +kernel
theorem dX7_readsThing_34 : decode cX7_readsThing 34 = .ok (.aload_n 0, 1) := by decide +kernel
theorem dX7_readsThing_35 : decode cX7_readsThing 35 = .ok (.iload_n 1, 1) := by decide +kernel
theorem dX7_readsThing_36 : decode cX7_readsThing 36 = .ok (.iconst 1, 1) := by decide +kernel
theorem dX7_readsThing_37 : decode cX7_readsThing 37 = .ok (.iadd, 1) := by decide +kernel
theorem dX7_readsThing_38 : decode cX7_readsThing 38 = .ok (.iconst 1, 1) := by decide +kernel
theorem dX7_readsThing_39 : decode cX7_readsThing 39 = .ok (.invokevirtual 99, 3) := by decide +kernel
theorem dX7_readsThing_42 : decode cX7_readsThing 42 = .ok (.ifCond .eq 18, 3) := by decide +kernel
theorem dX7_readsThing_45 : decode cX7_readsThing 45 = .ok (.aload_n 0, 1) := by decide +kernel
theorem dX7_readsThing_46 : decode cX7_readsThing 46 = .ok (.iload_n 1, 1) := by decide +kernel
theorem dX7_readsThing_47 : decode cX7_readsThing 47 = .ok (.iconst 2, 1) := by decide +kernel
theorem dX7_readsThing_48 : decode cX7_readsThing 48 = .ok (.iadd, 1) := by decide +kernel
theorem dX7_readsThing_49 : decode cX7_readsThing 49 = .ok (.iconst 2, 1) := by decide +kernel
theorem dX7_readsThing_50 : decode cX7_readsThing 50 = .ok (.invokevirtual 99, 3) := by decide +kernel
theorem dX7_readsThing_53 : decode cX7_readsThing 53 = .ok (.ifCond .eq 7, 3) := by decide +kernel
theorem dX7_readsThing_56 : decode cX7_readsThing 56 = .ok (.iconst 1, 1) := by decide +kernel
theorem dX7_readsThing_57 : decode cX7_readsThing 57 = .ok (.goto 4, 3) := by decide +kernel
theorem dX7_readsThing_60 : decode cX7_readsThing 60 = .ok (.iconst 0, 1) := by decide +kernel
theorem dX7_readsThing_61 : decode cX7_readsThing 61 = .ok (.ireturn, 1) := by decide +kernel
theorem dX7_readsAll_0 : decode cX7_readsAll 0 = .ok (.iload_n 1, 1) := by decide +kernel
theorem dX7_readsAll_1 : decode cX7_readsAll 1 = .ok (.lookupswitch 89 #[(99, 75), (104, 82), (116, 43), (117, 49)], 43) := by decide +kernel
theorem dX7_readsAll_44 : decode cX7_readsAll 44 = .ok (.aload_n 0, 1) := by decide +kernel
theorem dX7_readsAll_45 : decode cX7_readsAll 45 = .ok (.iload_n 2, 1) := by decide +kernel
theorem dX7_readsAll_46 : decode cX7_readsAll 46 = .ok (.invokevirtual 103, 3) := by decide +kernel
theorem dX7_readsAll_49 : decode cX7_readsAll 49 = .ok (.ireturn, 1) := by decide +kernel
theorem dX7_readsAll_50 : decode cX7_readsAll 50 = .ok (.aload_n 0, 1) := by decide +kernel
theorem dX7_readsAll_51 : decode cX7_readsAll 51 = .ok (.iload_n 2, 1) := by decide +kernel
theorem dX7_readsAll_52 : decode cX7_readsAll 52 = .ok (.iconst 1, 1) := by decide +kernel
theorem dX7_readsAll_53 : decode cX7_readsAll 53 = .ok (.invokevirtual 99, 3) := by decide +kernel
theorem dX7_readsAll_56 : decode cX7_readsAll 56 = .ok (.ifCond .eq 18, 3) := by decide +kernel
theorem dX7_readsAll_59 : decode cX7_readsAll 59 = .ok (.aload_n 0, 1) := by decide +kernel
theorem dX7_readsAll_60 : decode cX7_readsAll 60 = .ok (.iload_n 2, 1) := by decide +kernel
theorem dX7_readsAll_61 : decode cX7_readsAll 61 = .ok (.iconst 1, 1) := by decide +kernel
theorem dX7_readsAll_62 : decode cX7_readsAll 62 = .ok (.iadd, 1) := by decide +kernel
theorem dX7_readsAll_63 : decode cX7_readsAll 63 = .ok (.iconst 2, 1) := by decide +kernel
theorem dX7_readsAll_64 : decode cX7_readsAll 64 = .ok (.invokevirtual 99, 3) := by decide +kernel
theorem dX7_readsAll_67 : decode cX7_readsAll 67 = .ok (.ifCond .eq 7, 3) := by decide +kernel
theorem dX7_readsAll_70 : decode cX7_readsAll 70 = .ok (.iconst 1, 1) := by decide +kernel
theorem dX7_readsAll_71 : decode cX7_readsAll 71 = .ok (.goto 4, 3) := by decide +kernel
theorem dX7_readsAll_74 : decode cX7_readsAll 74 = .ok (.iconst 0, 1) := by decide +kernel
theorem dX7_readsAll_75 : decode cX7_readsAll 75 = .ok (.ireturn, 1) := by decide +kernel
theorem dX7_readsAll_76 : decode cX7_readsAll 76 = .ok (.aload_n 0, 1) := by decide +kernel
theorem dX7_readsAll_77 : decode cX7_readsAll 77 = .ok (.iload_n 2, 1) := by decide +kernel
theorem dX7_readsAll_78 : decode cX7_readsAll 78 = .ok (.iconst 1, 1) := by decide +kernel
theorem dX7_readsAll_79 : decode cX7_readsAll 79 = .ok (.invokevirtual 99, 3) := by decide +kernel
theorem dX7_readsAll_82 : decode cX7_readsAll 82 = .ok (.ireturn, 1) := by decide +kernel
theorem dX7_readsAll_83 : decode cX7_readsAll 83 = .ok (.aload_n 0, 1) := by decide +kernel
theorem dX7_readsAll_84 : decode cX7_readsAll 84 = .ok (.iload_n 2, 1) := by decide +kernel
theorem dX7_readsAll_85 : decode cX7_readsAll 85 = .ok (.iconst 2, 1) := by decide +kernel
theorem dX7_readsAll_86 : decode cX7_readsAll 86 = .ok (.invokevirtual 99, 3) := by decide +kernel
theorem dX7_readsAll_89 : decode cX7_readsAll 89 = .ok (.ireturn, 1) := by decide +kernel
theorem dX7_readsAll_90 : decode cX7_readsAll 90 = .ok (.aload_n 0, 1) := by decide +kernel
theorem dX7_readsAll_91 : decode cX7_readsAll 91 = .ok (.iload_n 2, 1) := by decide +kernel
theorem dX7_readsAll_92 : decode cX7_readsAll 92 = .ok (.iconst 1, 1) := by decide +kernel
theorem dX7_readsAll_93 : decode cX7_readsAll 93 = .ok (.invokevirtual 99, 3) := by decide +kernel
theorem dX7_readsAll_96 : decode cX7_readsAll 96 = .ok (.ifCond .eq 18, 3) := by decide +kernel
theorem dX7_readsAll_99 : decode cX7_readsAll 99 = .ok (.aload_n 0, 1) := by decide +kernel
theorem dX7_readsAll_100 : decode cX7_readsAll 100 = .ok (.iload_n 2, 1) := by decide +kernel
theorem dX7_readsAll_101 : decode cX7_readsAll 101 = .ok (.iconst 1, 1) := by decide +kernel
theorem dX7_readsAll_102 : decode cX7_readsAll 102 = .ok (.iadd, 1) := by decide +kernel
theorem dX7_readsAll_103 : decode cX7_readsAll 103 = .ok (.iconst 1, 1) := by decide +kernel
theorem dX7_readsAll_104 : decode cX7_readsAll 104 = .ok (.invokevirtual 99, 3) := by decide +kernel
theorem dX7_readsAll_107 : decode cX7_readsAll 107 = .ok (.ifCond .eq 7, 3) := by decide +kernel
theorem dX7_readsAll_110 : decode cX7_readsAll 110 = .ok (.iconst 1, 1) := by decide +kernel
theorem dX7_readsAll_111 : decode cX7_readsAll 111 = .ok (.goto 4, 3) := by decide +kernel
theorem dX7_readsAll_114 : decode cX7_readsAll 114 = .ok (.iconst 0, 1) := by decide +kernel
theorem dX7_readsAll_115 : decode cX7_readsAll 115 = .ok (.ireturn, 1) := by decide +kernel
theorem dX7_statement_0 : decode cX7_statement 0 = .ok (.aload_n 0, 1) := by decide +kernel
theorem dX7_statement_1 : decode cX7_statement 1 = .ok (.invokevirtual 88, 3) := by decide +kernel
theorem dX7_statement_4 : decode cX7_statement 4 = .ok (.istore_n 1, 1) := by decide +kernel
theorem dX7_statement_5 : decode cX7_statement 5 = .ok (.iload_n 1, 1) := by decide +kernel
theorem dX7_statement_6 : decode cX7_statement 6 = .ok (.bipush 116, 2) := by decide +kernel
theorem dX7_statement_8 : decode cX7_statement 8 = .ok (.if_icmp .eq 35, 3) := by decide +kernel
theorem dX7_statement_11 : decode cX7_statement 11 = .ok (.iload_n 1, 1) := by decide +kernel
theorem dX7_statement_12 : decode cX7_statement 12 = .ok (.bipush 114, 2) := by decide +kernel
theorem dX7_statement_14 : decode cX7_statement 14 = .ok (.if_icmp .eq 29, 3) := by decide +kernel
theorem dX7_statement_17 : decode cX7_statement 17 = .ok (.iload_n 1, 1) := by decide +kernel
theorem dX7_statement_18 : decode cX7_statement 18 = .ok (.bipush 99, 2) := by decide +kernel
theorem dX7_statement_20 : decode cX7_statement 20 = .ok (.if_icmp .eq 23, 3) := by decide +kernel
theorem dX7_statement_23 : decode cX7_statement 23 = .ok (.iload_n 1, 1) := by decide +kernel
theorem dX7_statement_24 : decode cX7_statement 24 = .ok (.bipush 115, 2) := by decide +kernel
theorem dX7_statement_26 : decode cX7_statement 26 = .ok (.if_icmp .eq 17, 3) := by decide +kernel
theorem dX7_statement_29 : decode cX7_statement 29 = .ok (.iload_n 1, 1) := by decide +kernel
theorem dX7_statement_30 : decode cX7_statement 30 = .ok (.bipush 117, 2) := by decide +kernel
theorem dX7_statement_32 : decode cX7_statement 32 = .ok (.if_icmp .eq 11, 3) := by decide +kernel
theorem dX7_statement_35 : decode cX7_statement 35 = .ok (.iload_n 1, 1) := by decide +kernel
theorem dX7_statement_36 : decode cX7_statement 36 = .ok (.bipush 104, 2) := by decide +kernel
theorem dX7_statement_38 : decode cX7_statement 38 = .ok (.if_icmp .eq 5, 3) := by decide +kernel
theorem dX7_statement_41 : decode cX7_statement 41 = .ok (.iconst 0, 1) := by decide +kernel
theorem dX7_statement_42 : decode cX7_statement 42 = .ok (.ireturn, 1) := by decide +kernel
theorem dX7_statement_43 : decode cX7_statement 43 = .ok (.aload_n 0, 1) := by decide +kernel
theorem dX7_statement_44 : decode cX7_statement 44 = .ok (.getfield 41, 3) := by decide +kernel
theorem dX7_statement_47 : decode cX7_statement 47 = .ok (.aload_n 0, 1) := by decide +kernel
theorem dX7_statement_48 : decode cX7_statement 48 = .ok (.getfield 106, 3) := by decide +kernel
theorem dX7_statement_51 : decode cX7_statement 51 = .ok (.iload_n 1, 1) := by decide +kernel
theorem dX7_statement_52 : decode cX7_statement 52 = .ok (.iastore, 1) := by decide +kernel
theorem dX7_statement_53 : decode cX7_statement 53 = .ok (.aload_n 0, 1) := by decide +kernel
theorem dX7_statement_54 : decode cX7_statement 54 = .ok (.getfield 44, 3) := by decide +kernel
theorem dX7_statement_57 : decode cX7_statement 57 = .ok (.aload_n 0, 1) := by decide +kernel
theorem dX7_statement_58 : decode cX7_statement 58 = .ok (.getfield 106, 3) := by decide +kernel
theorem dX7_statement_61 : decode cX7_statement 61 = .ok (.aload_n 0, 1) := by decide +kernel
theorem dX7_statement_62 : decode cX7_statement 62 = .ok (.getfield 85, 3) := by decide +kernel
theorem dX7_statement_65 : decode cX7_statement 65 = .ok (.iastore, 1) := by decide +kernel
theorem dX7_statement_66 : decode cX7_statement 66 = .ok (.aload_n 0, 1) := by decide +kernel
theorem dX7_statement_67 : decode cX7_statement 67 = .ok (.dup, 1) := by decide +kernel
theorem dX7_statement_68 : decode cX7_statement 68 = .ok (.getfield 85, 3) := by decide +kernel
theorem dX7_statement_71 : decode cX7_statement 71 = .ok (.iconst 1, 1) := by decide +kernel
theorem dX7_statement_72 : decode cX7_statement 72 = .ok (.iadd, 1) := by decide +kernel
theorem dX7_statement_73 : decode cX7_statement 73 = .ok (.putfield 85, 3) := by decide +kernel
theorem dX7_statement_76 : decode cX7_statement 76 = .ok (.aload_n 0, 1) := by decide +kernel
theorem dX7_statement_77 : decode cX7_statement 77 = .ok (.iload_n 1, 1) := by decide +kernel
theorem dX7_statement_78 : decode cX7_statement 78 = .ok (.iconst 3, 1) := by decide +kernel
theorem dX7_statement_79 : decode cX7_statement 79 = .ok (.aload_n 0, 1) := by decide +kernel
theorem dX7_statement_80 : decode cX7_statement 80 = .ok (.getfield 106, 3) := by decide +kernel
theorem dX7_statement_83 : decode cX7_statement 83 = .ok (.imul, 1) := by decide +kernel
theorem dX7_statement_84 : decode cX7_statement 84 = .ok (.invokevirtual 109, 3) := by decide +kernel
theorem dX7_statement_87 : decode cX7_statement 87 = .ok (.ifCond .eq 12, 3) := by decide +kernel
theorem dX7_statement_90 : decode cX7_statement 90 = .ok (.aload_n 0, 1) := by decide +kernel
theorem dX7_statement_91 : decode cX7_statement 91 = .ok (.invokevirtual 88, 3) := by decide +kernel
theorem dX7_statement_94 : decode cX7_statement 94 = .ok (.bipush 59, 2) := by decide +kernel
theorem dX7_statement_96 : decode cX7_statement 96 = .ok (.if_icmp .eq 5, 3) := by decide +kernel
theorem dX7_statement_99 : decode cX7_statement 99 = .ok (.iconst 0, 1) := by decide +kernel
theorem dX7_statement_100 : decode cX7_statement 100 = .ok (.ireturn, 1) := by decide +kernel
theorem dX7_statement_101 : decode cX7_statement 101 = .ok (.aload_n 0, 1) := by decide +kernel
theorem dX7_statement_102 : decode cX7_statement 102 = .ok (.dup, 1) := by decide +kernel
theorem dX7_statement_103 : decode cX7_statement 103 = .ok (.getfield 85, 3) := by decide +kernel
theorem dX7_statement_106 : decode cX7_statement 106 = .ok (.iconst 1, 1) := by decide +kernel
theorem dX7_statement_107 : decode cX7_statement 107 = .ok (.iadd, 1) := by decide +kernel
theorem dX7_statement_108 : decode cX7_statement 108 = .ok (.putfield 85, 3) := by decide +kernel
theorem dX7_statement_111 : decode cX7_statement 111 = .ok (.iconst 1, 1) := by decide +kernel
theorem dX7_statement_112 : decode cX7_statement 112 = .ok (.ireturn, 1) := by decide +kernel
theorem dX7_comesThing_0 : decode cX7_comesThing 0 = .ok (.aload_n 0, 1) := by decide +kernel
theorem dX7_comesThing_1 : decode cX7_comesThing 1 = .ok (.getfield 62, 3) := by decide +kernel
theorem dX7_comesThing_4 : decode cX7_comesThing 4 = .ok (.bipush 8, 2) := by decide +kernel
theorem dX7_comesThing_6 : decode cX7_comesThing 6 = .ok (.if_icmp .eq 16, 3) := by decide +kernel
theorem dX7_comesThing_9 : decode cX7_comesThing 9 = .ok (.aload_n 0, 1) := by decide +kernel
theorem dX7_comesThing_10 : decode cX7_comesThing 10 = .ok (.getfield 47, 3) := by decide +kernel
theorem dX7_comesThing_13 : decode cX7_comesThing 13 = .ok (.iload_n 1, 1) := by decide +kernel
theorem dX7_comesThing_14 : decode cX7_comesThing 14 = .ok (.iconst 2, 1) := by decide +kernel
theorem dX7_comesThing_15 : decode cX7_comesThing 15 = .ok (.iadd, 1) := by decide +kernel
theorem dX7_comesThing_16 : decode cX7_comesThing 16 = .ok (.iaload, 1) := by decide +kernel
theorem dX7_comesThing_17 : decode cX7_comesThing 17 = .ok (.bipush 60, 2) := by decide +kernel
theorem dX7_comesThing_19 : decode cX7_comesThing 19 = .ok (.if_icmp .le 5, 3) := by decide +kernel
theorem dX7_comesThing_22 : decode cX7_comesThing 22 = .ok (.iconst 0, 1) := by decide +kernel
theorem dX7_comesThing_23 : decode cX7_comesThing 23 = .ok (.ireturn, 1) := by decide +kernel
theorem dX7_comesThing_24 : decode cX7_comesThing 24 = .ok (.aload_n 0, 1) := by decide +kernel
theorem dX7_comesThing_25 : decode cX7_comesThing 25 = .ok (.getfield 13, 3) := by decide +kernel
theorem dX7_comesThing_28 : decode cX7_comesThing 28 = .ok (.aload_n 0, 1) := by decide +kernel
theorem dX7_comesThing_29 : decode cX7_comesThing 29 = .ok (.getfield 62, 3) := by decide +kernel
theorem dX7_comesThing_32 : decode cX7_comesThing 32 = .ok (.aload_n 0, 1) := by decide +kernel
theorem dX7_comesThing_33 : decode cX7_comesThing 33 = .ok (.getfield 47, 3) := by decide +kernel
theorem dX7_comesThing_36 : decode cX7_comesThing 36 = .ok (.iload_n 1, 1) := by decide +kernel
theorem dX7_comesThing_37 : decode cX7_comesThing 37 = .ok (.iaload, 1) := by decide +kernel
theorem dX7_comesThing_38 : decode cX7_comesThing 38 = .ok (.iastore, 1) := by decide +kernel
theorem dX7_comesThing_39 : decode cX7_comesThing 39 = .ok (.aload_n 0, 1) := by decide +kernel
theorem dX7_comesThing_40 : decode cX7_comesThing 40 = .ok (.getfield 16, 3) := by decide +kernel
theorem dX7_comesThing_43 : decode cX7_comesThing 43 = .ok (.aload_n 0, 1) := by decide +kernel
theorem dX7_comesThing_44 : decode cX7_comesThing 44 = .ok (.getfield 62, 3) := by decide +kernel
theorem dX7_comesThing_47 : decode cX7_comesThing 47 = .ok (.aload_n 0, 1) := by decide +kernel
theorem dX7_comesThing_48 : decode cX7_comesThing 48 = .ok (.getfield 47, 3) := by decide +kernel
theorem dX7_comesThing_51 : decode cX7_comesThing 51 = .ok (.iload_n 1, 1) := by decide +kernel
theorem dX7_comesThing_52 : decode cX7_comesThing 52 = .ok (.iconst 1, 1) := by decide +kernel
theorem dX7_comesThing_53 : decode cX7_comesThing 53 = .ok (.iadd, 1) := by decide +kernel
theorem dX7_comesThing_54 : decode cX7_comesThing 54 = .ok (.iaload, 1) := by decide +kernel
theorem dX7_comesThing_55 : decode cX7_comesThing 55 = .ok (.iastore, 1) := by decide +kernel
theorem dX7_comesThing_56 : decode cX7_comesThing 56 = .ok (.aload_n 0, 1) := by decide +kernel
theorem dX7_comesThing_57 : decode cX7_comesThing 57 = .ok (.getfield 19, 3) := by decide +kernel
theorem dX7_comesThing_60 : decode cX7_comesThing 60 = .ok (.aload_n 0, 1) := by decide +kernel
theorem dX7_comesThing_61 : decode cX7_comesThing 61 = .ok (.getfield 62, 3) := by decide +kernel
theorem dX7_comesThing_64 : decode cX7_comesThing 64 = .ok (.aload_n 0, 1) := by decide +kernel
theorem dX7_comesThing_65 : decode cX7_comesThing 65 = .ok (.getfield 47, 3) := by decide +kernel
theorem dX7_comesThing_68 : decode cX7_comesThing 68 = .ok (.iload_n 1, 1) := by decide +kernel
theorem dX7_comesThing_69 : decode cX7_comesThing 69 = .ok (.iconst 2, 1) := by decide +kernel
theorem dX7_comesThing_70 : decode cX7_comesThing 70 = .ok (.iadd, 1) := by decide +kernel
theorem dX7_comesThing_71 : decode cX7_comesThing 71 = .ok (.iaload, 1) := by decide +kernel
theorem dX7_comesThing_72 : decode cX7_comesThing 72 = .ok (.iastore, 1) := by decide +kernel
theorem dX7_comesThing_73 : decode cX7_comesThing 73 = .ok (.aload_n 0, 1) := by decide +kernel
theorem dX7_comesThing_74 : decode cX7_comesThing 74 = .ok (.getfield 22, 3) := by decide +kernel
theorem dX7_comesThing_77 : decode cX7_comesThing 77 = .ok (.aload_n 0, 1) := by decide +kernel
theorem dX7_comesThing_78 : decode cX7_comesThing 78 = .ok (.getfield 62, 3) := by decide +kernel
theorem dX7_comesThing_81 : decode cX7_comesThing 81 = .ok (.iconst 0, 1) := by decide +kernel
theorem dX7_comesThing_82 : decode cX7_comesThing 82 = .ok (.iastore, 1) := by decide +kernel
theorem dX7_comesThing_83 : decode cX7_comesThing 83 = .ok (.aload_n 0, 1) := by decide +kernel
theorem dX7_comesThing_84 : decode cX7_comesThing 84 = .ok (.getfield 25, 3) := by decide +kernel
theorem dX7_comesThing_87 : decode cX7_comesThing 87 = .ok (.aload_n 0, 1) := by decide +kernel
theorem dX7_comesThing_88 : decode cX7_comesThing 88 = .ok (.getfield 62, 3) := by decide +kernel
theorem dX7_comesThing_91 : decode cX7_comesThing 91 = .ok (.iconst 0, 1) := by decide +kernel
theorem dX7_comesThing_92 : decode cX7_comesThing 92 = .ok (.iastore, 1) := by decide +kernel
theorem dX7_comesThing_93 : decode cX7_comesThing 93 = .ok (.aload_n 0, 1) := by decide +kernel
theorem dX7_comesThing_94 : decode cX7_comesThing 94 = .ok (.dup, 1) := by decide +kernel
theorem dX7_comesThing_95 : decode cX7_comesThing 95 = .ok (.getfield 62, 3) := by decide +kernel
theorem dX7_comesThing_98 : decode cX7_comesThing 98 = .ok (.iconst 1, 1) := by decide +kernel
theorem dX7_comesThing_99 : decode cX7_comesThing 99 = .ok (.iadd, 1) := by decide +kernel
theorem dX7_comesThing_100 : decode cX7_comesThing 100 = .ok (.putfield 62, 3) := by decide +kernel
theorem dX7_comesThing_103 : decode cX7_comesThing 103 = .ok (.iconst 1, 1) := by decide +kernel
theorem dX7_comesThing_104 : decode cX7_comesThing 104 = .ok (.ireturn, 1) := by decide +kernel
theorem dX7_comesRope_0 : decode cX7_comesRope 0 = .ok (.aload_n 0, 1) := by decide +kernel
theorem dX7_comesRope_1 : decode cX7_comesRope 1 = .ok (.iload_n 1, 1) := by decide +kernel
theorem dX7_comesRope_2 : decode cX7_comesRope 2 = .ok (.iload_n 2, 1) := by decide +kernel
theorem dX7_comesRope_3 : decode cX7_comesRope 3 = .ok (.invokevirtual 112, 3) := by decide +kernel
theorem dX7_comesRope_6 : decode cX7_comesRope 6 = .ok (.ifCond .eq 12, 3) := by decide +kernel
theorem dX7_comesRope_9 : decode cX7_comesRope 9 = .ok (.aload_n 0, 1) := by decide +kernel
theorem dX7_comesRope_10 : decode cX7_comesRope 10 = .ok (.getfield 67, 3) := by decide +kernel
theorem dX7_comesRope_13 : decode cX7_comesRope 13 = .ok (.bipush 6, 2) := by decide +kernel
theorem dX7_comesRope_15 : decode cX7_comesRope 15 = .ok (.if_icmp .ne 5, 3) := by decide +kernel
theorem dX7_comesRope_18 : decode cX7_comesRope 18 = .ok (.iconst 0, 1) := by decide +kernel
theorem dX7_comesRope_19 : decode cX7_comesRope 19 = .ok (.ireturn, 1) := by decide +kernel
theorem dX7_comesRope_20 : decode cX7_comesRope 20 = .ok (.aload_n 0, 1) := by decide +kernel
theorem dX7_comesRope_21 : decode cX7_comesRope 21 = .ok (.iload_n 1, 1) := by decide +kernel
theorem dX7_comesRope_22 : decode cX7_comesRope 22 = .ok (.iload_n 2, 1) := by decide +kernel
theorem dX7_comesRope_23 : decode cX7_comesRope 23 = .ok (.invokevirtual 115, 3) := by decide +kernel
theorem dX7_comesRope_26 : decode cX7_comesRope 26 = .ok (.iconst 1, 1) := by decide +kernel
theorem dX7_comesRope_27 : decode cX7_comesRope 27 = .ok (.ireturn, 1) := by decide +kernel
theorem dX7_comesHours_0 : decode cX7_comesHours 0 = .ok (.iload_n 1, 1) := by decide +kernel
theorem dX7_comesHours_1 : decode cX7_comesHours 1 = .ok (.iconst 1, 1) := by decide +kernel
theorem dX7_comesHours_2 : decode cX7_comesHours 2 = .ok (.bipush 60, 2) := by decide +kernel
theorem dX7_comesHours_4 : decode cX7_comesHours 4 = .ok (.invokestatic 92, 3) := by decide +kernel
theorem dX7_comesHours_7 : decode cX7_comesHours 7 = .ok (.ifCond .eq 15, 3) := by decide +kernel
theorem dX7_comesHours_10 : decode cX7_comesHours 10 = .ok (.aload_n 0, 1) := by decide +kernel
theorem dX7_comesHours_11 : decode cX7_comesHours 11 = .ok (.getfield 119, 3) := by decide +kernel
theorem dX7_comesHours_14 : decode cX7_comesHours 14 = .ok (.iload_n 1, 1) := by decide +kernel
theorem dX7_comesHours_15 : decode cX7_comesHours 15 = .ok (.iadd, 1) := by decide +kernel
theorem dX7_comesHours_16 : decode cX7_comesHours 16 = .ok (.sipush 999, 3) := by decide +kernel
theorem dX7_comesHours_19 : decode cX7_comesHours 19 = .ok (.if_icmp .le 5, 3) := by decide +kernel
theorem dX7_comesHours_22 : decode cX7_comesHours 22 = .ok (.iconst 0, 1) := by decide +kernel
theorem dX7_comesHours_23 : decode cX7_comesHours 23 = .ok (.ireturn, 1) := by decide +kernel
theorem dX7_comesHours_24 : decode cX7_comesHours 24 = .ok (.aload_n 0, 1) := by decide +kernel
theorem dX7_comesHours_25 : decode cX7_comesHours 25 = .ok (.iload_n 1, 1) := by decide +kernel
theorem dX7_comesHours_26 : decode cX7_comesHours 26 = .ok (.invokevirtual 122, 3) := by decide +kernel
theorem dX7_comesHours_29 : decode cX7_comesHours 29 = .ok (.iconst 1, 1) := by decide +kernel
theorem dX7_comesHours_30 : decode cX7_comesHours 30 = .ok (.ireturn, 1) := by decide +kernel
theorem dX7_comesOne_0 : decode cX7_comesOne 0 = .ok (.aload_n 0, 1) := by decide +kernel
theorem dX7_comesOne_1 : decode cX7_comesOne 1 = .ok (.iload_n 2, 1) := by decide +kernel
theorem dX7_comesOne_2 : decode cX7_comesOne 2 = .ok (.invokevirtual 70, 3) := by decide +kernel
theorem dX7_comesOne_5 : decode cX7_comesOne 5 = .ok (.ifCond .eq 15, 3) := by decide +kernel
